theorem sg_X10_prime {g : zG} {φ : Int → zMu → Prop} {v1 : Int} {μ : zMu}
    (h : zOi g zm_X10_isModulus [.int (zJ v1)] μ (fun x2 μ1 => (zR x2) ∧ ((¬ x2 = 0 → zOv g zm_X0_startAnew [.ref 1, .int (zJ v1)] μ1 (fun μ4 => zOv g zm_X2_forget [.ref 182] μ4 (fun μ5 => φ (μ1 1 0) μ5))) ∧ (x2 = 0 → φ (-2) μ1)))) : zOi g zm_X10_prime [.ref 0, .int (zJ v1)] μ φ := by
  refine zok_of (by decide +kernel) rfl ?_
  show zWP g zm_X10_prime (zmo g zm_X10_prime (zΦi φ)) 0 [(0, .ref 0), (1, .int (zJ v1))] [] 0 0 (zw μ)
  refine zw_iload_n (pc := 0) (n := 1) (i := 1) 1 (by decide +kernel) rfl rfl ?_
  refine zx_callS (pc := 1) (As := [.int (zJ v1)]) h zi_X10_isModulus zis_X10_isModulus zl_10_85 (by decide +kernel) ⟨Nat.le_of_ble_eq_true rfl, Nat.le_of_ble_eq_true rfl⟩ rfl rfl ⟨rfl, rfl⟩ ⟨Nat.zero_le _, Nat.zero_le _⟩ (zki (fun x2 μ1 h => ?_))
  obtain ⟨o3, h⟩ := h
  refine zw_if_ne (pc := 4) (off := 6) (tgt := 10) (by decide +kernel) (by decide) o3 (fun hc => ?_) (fun hc => ?_)
  · replace h := h.1 hc
    refine zw_aload_n (pc := 10) (n := 0) (i := 0) 0 (by decide +kernel) rfl rfl ?_
    refine zx_getR (pc := 11) (o := 1) (r := 1) zf_10_14 (by decide +kernel) rfl zc_0 rfl (by decide) rfl ?_
    refine zx_getI (pc := 14) zf_10_89 (by decide +kernel) rfl zc_1 ?_
    refine zw_istore_n (pc := 17) (n := 2) (i := 2) (lv' := [(0, .ref 0), (1, .int (zJ v1)), (2, .int (zJ (μ1 1 0)))]) (by decide +kernel) rfl (Nat.le_of_ble_eq_true rfl) rfl ?_
    refine zw_aload_n (pc := 18) (n := 0) (i := 0) 0 (by decide +kernel) rfl rfl ?_
    refine zx_getR (pc := 19) (o := 1) (r := 1) zf_10_14 (by decide +kernel) rfl zc_0 rfl (by decide) rfl ?_
    refine zw_iload_n (pc := 22) (n := 1) (i := 1) 1 (by decide +kernel) rfl rfl ?_
    refine zx_callV (pc := 23) (As := [.int (zJ v1)]) h zi_X0_startAnew zii_X0_startAnew zie_X0_startAnew zl_10_93 (by decide +kernel) ⟨Nat.le_of_ble_eq_true rfl, Nat.le_of_ble_eq_true rfl⟩ rfl zc_1 (by decide) rfl rfl ⟨rfl, rfl⟩ ⟨Nat.zero_le _, Nat.zero_le _⟩ (zkv (fun μ4 h => ?_))
    refine zw_aload_n (pc := 26) (n := 0) (i := 0) 0 (by decide +kernel) rfl rfl ?_
    refine zx_getR (pc := 27) (o := 182) (r := 182) zf_10_45 (by decide +kernel) rfl zc_0 rfl (by decide) rfl ?_
    refine zx_callV (pc := 30) (As := []) h zi_X2_forget zii_X2_forget zie_X2_forget zl_10_97 (by decide +kernel) ⟨Nat.le_of_ble_eq_true rfl, Nat.le_of_ble_eq_true rfl⟩ rfl zc_182 (by decide) rfl rfl ⟨rfl, rfl⟩ ⟨Nat.zero_le _, Nat.zero_le _⟩ (zkv (fun μ5 h => ?_))
    refine zw_iload_n (pc := 33) (n := 2) (i := 2) 2 (by decide +kernel) rfl rfl ?_
    exact zw_iret (pc := 34) (by decide +kernel) rfl (Nat.le_refl _) (Nat.le_refl _) ⟨_, _, rfl, rfl, h⟩
  · replace h := h.2 hc
    refine zw_bipush (pc := 7) (n := (-2)) (by decide +kernel) (by decide +kernel) ?_
    exact zw_iret (pc := 9) (by decide +kernel) rfl (Nat.le_refl _) (Nat.le_refl _) ⟨_, _, rfl, rfl, h⟩
abbrev at_X10_isModulus_16 (g : zG) (φ : Int → zMu → Prop) (v0 : Int) (v1 : Int) (μ : zMu) : Prop := zWP g zm_X10_isModulus (zmo g zm_X10_isModulus (zΦi φ)) 16 [(0, .int (zJ v0)), (1, .int (zJ v1))] [] 0 0 (zw μ)
theorem sg_X10_isModulus {g : zG} {φ : Int → zMu → Prop} {v0 : Int} {μ : zMu}
    (h : (zR v0) ∧ ((v0 < 5 → φ 0 μ) ∧ (5 ≤ v0 → ((v0 ≤ 199 → at_X10_isModulus_16 g φ v0 2 μ) ∧ (199 < v0 → φ 0 μ))))) : zOi g zm_X10_isModulus [.int (zJ v0)] μ φ := by
  refine zok_of (by decide +kernel) rfl ?_
  show zWP g zm_X10_isModulus (zmo g zm_X10_isModulus (zΦi φ)) 0 [(0, .int (zJ v0))] [] 0 0 (zw μ)
  obtain ⟨o1, h⟩ := h
  refine zw_iload_n (pc := 0) (n := 0) (i := 0) 0 (by decide +kernel) rfl rfl ?_
  refine zw_iconst (pc := 1) (n := 5) (by decide +kernel) ?_
  refine zw_icmp_lt (pc := 2) (off := 10) (tgt := 12) (by decide +kernel) (by decide) o1 ⟨by decide, by decide⟩ (fun hc => ?_) (fun hc => ?_)
  · replace h := h.1 hc
    refine zw_iconst (pc := 12) (n := 0) (by decide +kernel) ?_
    exact zw_zret (pc := 13) (by decide +kernel) rfl (Nat.le_refl _) (Nat.le_refl _) (Or.inl rfl) ⟨_, _, rfl, rfl, h⟩
  · replace h := h.2 hc
    refine zw_iload_n (pc := 5) (n := 0) (i := 0) 0 (by decide +kernel) rfl rfl ?_
    refine zw_sipush (pc := 6) (n := 199) (by decide +kernel) (by decide +kernel) ?_
    refine zw_icmp_le (pc := 9) (off := 5) (tgt := 14) (by decide +kernel) (by decide) o1 ⟨by decide, by decide⟩ (fun hc => ?_) (fun hc => ?_)
    · replace h := h.1 hc
      refine zw_iconst (pc := 14) (n := 2) (by decide +kernel) ?_
      refine zw_istore_n (pc := 15) (n := 1) (i := 1) (lv' := [(0, .int (zJ v0)), (1, .int (zJ 2))]) (by decide +kernel) rfl (Nat.le_of_ble_eq_true rfl) rfl ?_
      exact h
    · replace h := h.2 hc
      refine zw_iconst (pc := 12) (n := 0) (by decide +kernel) ?_
      exact zw_zret (pc := 13) (by decide +kernel) rfl (Nat.le_refl _) (Nat.le_refl _) (Or.inl rfl) ⟨_, _, rfl, rfl, h⟩
theorem sg_X10_isModulus_16 {g : zG} {φ : Int → zMu → Prop} {v0 : Int} {v1 : Int} {μ : zMu}
    (h : (zR (v1 * v1)) ∧ (zR v0) ∧ ((v0 < (v1 * v1) → φ 1 μ) ∧ ((v1 * v1) ≤ v0 → (zR v1) ∧ (v1 ≠ 0) ∧ (zR (v0.tmod v1)) ∧ ((¬ (v0.tmod v1) = 0 → at_X10_isModulus_16 g φ v0 (v1 + 1) μ) ∧ ((v0.tmod v1) = 0 → φ 0 μ))))) : at_X10_isModulus_16 g φ v0 v1 μ := by
  obtain ⟨o1, o2, h⟩ := h
  refine zw_iload_n (pc := 16) (n := 1) (i := 1) 1 (by decide +kernel) rfl rfl ?_
  refine zw_iload_n (pc := 17) (n := 1) (i := 1) 1 (by decide +kernel) rfl rfl ?_
  refine zw_imul (pc := 18) (by decide +kernel) ?_
  refine zw_iload_n (pc := 19) (n := 0) (i := 0) 0 (by decide +kernel) rfl rfl ?_
  refine zw_icmp_gt (pc := 20) (off := 17) (tgt := 37) (by decide +kernel) (by decide) o1 o2 (fun hc => ?_) (fun hc => ?_)
  · replace h := h.1 hc
    refine zw_iconst (pc := 37) (n := 1) (by decide +kernel) ?_
    exact zw_zret (pc := 38) (by decide +kernel) rfl (Nat.le_refl _) (Nat.le_refl _) (Or.inr rfl) ⟨_, _, rfl, rfl, h⟩
  · replace h := h.2 hc
    obtain ⟨o3, o4, o5, h⟩ := h
    refine zw_iload_n (pc := 23) (n := 0) (i := 0) 0 (by decide +kernel) rfl rfl ?_
    refine zw_iload_n (pc := 24) (n := 1) (i := 1) 1 (by decide +kernel) rfl rfl ?_
    refine zw_irem (pc := 25) (by decide +kernel) o2 o3 o4 ?_
    refine zw_if_ne (pc := 26) (off := 5) (tgt := 31) (by decide +kernel) (by decide) o5 (fun hc => ?_) (fun hc => ?_)
    · replace h := h.1 hc
      refine zw_iinc (pc := 31) (i := 1) (n := 1) (lv' := [(0, .int (zJ v0)), (1, .int (zJ (v1 + 1)))]) 1 (by decide +kernel) rfl rfl (Nat.le_of_ble_eq_true rfl) rfl ?_
      refine zw_goto (pc := 34) (off := (-18)) (tgt := 16) (by decide +kernel) (by decide) ?_
      exact h
    · replace h := h.2 hc
      refine zw_iconst (pc := 29) (n := 0) (by decide +kernel) ?_
      exact zw_zret (pc := 30) (by decide +kernel) rfl (Nat.le_refl _) (Nat.le_refl _) (Or.inl rfl) ⟨_, _, rfl, rfl, h⟩
theorem sg_X10_j {g : zG} {φ : Int → zMu → Prop} {v1 : Int} {v2 : Int} {μ : zMu}
    (h : zOi g zm_X10_isSeries [.int (zJ v1)] μ (fun x2 μ1 => (zR x2) ∧ ((¬ x2 = 0 → (zR v2) ∧ ((v2 < 1 → φ (-2) μ1) ∧ (1 ≤ v2 → ((v2 ≤ 80 → (0 ≤ v1 ∧ v1 < 6) ∧ zOv g zm_X7_makeInvariant [.ref 69, .ref (7 + 2 * v1.toNat), .int (zJ v2), .int (zJ (μ1 1 0))] μ1 (fun μ7 => φ v2 μ7)) ∧ (80 < v2 → φ (-2) μ1))))) ∧ (x2 = 0 → φ (-1) μ1)))) : zOi g zm_X10_j [.ref 0, .int (zJ v1), .int (zJ v2)] μ φ := by
  refine zok_of (by decide +kernel) rfl ?_
  show zWP g zm_X10_j (zmo g zm_X10_j (zΦi φ)) 0 [(0, .ref 0), (1, .int (zJ v1)), (2, .int (zJ v2))] [] 0 0 (zw μ)
  refine zw_iload_n (pc := 0) (n := 1) (i := 1) 1 (by decide +kernel) rfl rfl ?_
  refine zx_callS (pc := 1) (As := [.int (zJ v1)]) h zi_X10_isSeries zis_X10_isSeries zl_10_100 (by decide +kernel) ⟨Nat.le_of_ble_eq_true rfl, Nat.le_of_ble_eq_true rfl⟩ rfl rfl ⟨rfl, rfl⟩ ⟨Nat.zero_le _, Nat.zero_le _⟩ (zki (fun x2 μ1 h => ?_))
  obtain ⟨o3, h⟩ := h
  refine zw_if_ne (pc := 4) (off := 5) (tgt := 9) (by decide +kernel) (by decide) o3 (fun hc => ?_) (fun hc => ?_)
  · replace h := h.1 hc
    obtain ⟨o4, h⟩ := h
    refine zw_iload_n (pc := 9) (n := 2) (i := 2) 2 (by decide +kernel) rfl rfl ?_
    refine zw_iconst (pc := 10) (n := 1) (by decide +kernel) ?_
    refine zw_icmp_lt (pc := 11) (off := 9) (tgt := 20) (by decide +kernel) (by decide) o4 ⟨by decide, by decide⟩ (fun hc => ?_) (fun hc => ?_)
    · replace h := h.1 hc
      refine zw_bipush (pc := 20) (n := (-2)) (by decide +kernel) (by decide +kernel) ?_
      exact zw_iret (pc := 22) (by decide +kernel) rfl (Nat.le_refl _) (Nat.le_refl _) ⟨_, _, rfl, rfl, h⟩
    · replace h := h.2 hc
      refine zw_iload_n (pc := 14) (n := 2) (i := 2) 2 (by decide +kernel) rfl rfl ?_
      refine zw_bipush (pc := 15) (n := 80) (by decide +kernel) (by decide +kernel) ?_
      refine zw_icmp_le (pc := 17) (off := 6) (tgt := 23) (by decide +kernel) (by decide) o4 ⟨by decide, by decide⟩ (fun hc => ?_) (fun hc => ?_)
      · replace h := h.1 hc
        obtain ⟨o5, h⟩ := h
        refine zw_aload_n (pc := 23) (n := 0) (i := 0) 0 (by decide +kernel) rfl rfl ?_
        refine zx_getR (pc := 24) (o := 69) (r := 69) zf_10_24 (by decide +kernel) rfl zc_0 rfl (by decide) rfl ?_
        refine zw_aload_n (pc := 27) (n := 0) (i := 0) 0 (by decide +kernel) rfl rfl ?_
        refine zx_getR (pc := 28) (o := 1) (r := 1) zf_10_14 (by decide +kernel) rfl zc_0 rfl (by decide) rfl ?_
        refine zx_getR (pc := 31) (o := 1) (r := 2) zf_10_103 (by decide +kernel) rfl zc_1 rfl (by decide) rfl ?_
        refine zw_iload_n (pc := 34) (n := 1) (i := 1) 1 (by decide +kernel) rfl rfl ?_
        have q6 : zS (7 + 2 * v1.toNat) 6 3 := zS_cast (zqe_14 (j := v1.toNat) zc_2 (by omega)) (by show 2 + 5 + 2 * v1.toNat = (7 + 2 * v1.toNat); omega)
        refine zx_aaload (pc := 35) (k := 14) (r := (7 + 2 * v1.toNat)) (by decide +kernel) (by decide) ⟨6, zc_2, o5.1, o5.2⟩ (by show 2 + 5 + 2 * v1.toNat = (7 + 2 * v1.toNat); omega) ?_
        refine zw_iload_n (pc := 36) (n := 2) (i := 2) 2 (by decide +kernel) rfl rfl ?_
        refine zw_aload_n (pc := 37) (n := 0) (i := 0) 0 (by decide +kernel) rfl rfl ?_
        refine zx_getR (pc := 38) (o := 1) (r := 1) zf_10_14 (by decide +kernel) rfl zc_0 rfl (by decide) rfl ?_
        refine zx_getI (pc := 41) zf_10_89 (by decide +kernel) rfl zc_1 ?_
        refine zx_callV (pc := 44) (As := [.ref (7 + 2 * v1.toNat), .int (zJ v2), .int (zJ (μ1 1 0))]) h zi_X7_makeInvariant zii_X7_makeInvariant zie_X7_makeInvariant zl_10_107 (by decide +kernel) ⟨Nat.le_of_ble_eq_true rfl, Nat.le_of_ble_eq_true rfl⟩ rfl zc_69 (by decide) rfl rfl ⟨rfl, rfl⟩ ⟨Nat.zero_le _, Nat.zero_le _⟩ (zkv (fun μ7 h => ?_))
        refine zw_iload_n (pc := 47) (n := 2) (i := 2) 2 (by decide +kernel) rfl rfl ?_
        exact zw_iret (pc := 48) (by decide +kernel) rfl (Nat.le_refl _) (Nat.le_refl _) ⟨_, _, rfl, rfl, h⟩
      · replace h := h.2 hc
        refine zw_bipush (pc := 20) (n := (-2)) (by decide +kernel) (by decide +kernel) ?_
        exact zw_iret (pc := 22) (by decide +kernel) rfl (Nat.le_refl _) (Nat.le_refl _) ⟨_, _, rfl, rfl, h⟩
  · replace h := h.2 hc
    refine zw_iconst (pc := 7) (n := (-1)) (by decide +kernel) ?_
    exact zw_iret (pc := 8) (by decide +kernel) rfl (Nat.le_refl _) (Nat.le_refl _) ⟨_, _, rfl, rfl, h⟩
theorem sg_X10_isSeries {g : zG} {φ : Int → zMu → Prop} {v0 : Int} {μ : zMu}
    (h : (zR v0) ∧ ((v0 < 0 → φ 0 μ) ∧ (0 ≤ v0 → ((6 ≤ v0 → φ 0 μ) ∧ (v0 < 6 → φ 1 μ))))) : zOi g zm_X10_isSeries [.int (zJ v0)] μ φ := by
  refine zok_of (by decide +kernel) rfl ?_
  show zWP g zm_X10_isSeries (zmo g zm_X10_isSeries (zΦi φ)) 0 [(0, .int (zJ v0))] [] 0 0 (zw μ)
  obtain ⟨o1, h⟩ := h
  refine zw_iload_n (pc := 0) (n := 0) (i := 0) 0 (by decide +kernel) rfl rfl ?_
  refine zw_if_lt (pc := 1) (off := 13) (tgt := 14) (by decide +kernel) (by decide) o1 (fun hc => ?_) (fun hc => ?_)
  · replace h := h.1 hc
    refine zw_iconst (pc := 14) (n := 0) (by decide +kernel) ?_
    exact zw_zret (pc := 15) (by decide +kernel) rfl (Nat.le_refl _) (Nat.le_refl _) (Or.inl rfl) ⟨_, _, rfl, rfl, h⟩
  · replace h := h.2 hc
    refine zw_iload_n (pc := 4) (n := 0) (i := 0) 0 (by decide +kernel) rfl rfl ?_
    refine zw_bipush (pc := 5) (n := 6) (by decide +kernel) (by decide +kernel) ?_
    refine zw_icmp_ge (pc := 7) (off := 7) (tgt := 14) (by decide +kernel) (by decide) o1 ⟨by decide, by decide⟩ (fun hc => ?_) (fun hc => ?_)
    · replace h := h.1 hc
      refine zw_iconst (pc := 14) (n := 0) (by decide +kernel) ?_
      exact zw_zret (pc := 15) (by decide +kernel) rfl (Nat.le_refl _) (Nat.le_refl _) (Or.inl rfl) ⟨_, _, rfl, rfl, h⟩
    · replace h := h.2 hc
      refine zw_iconst (pc := 10) (n := 1) (by decide +kernel) ?_
      refine zw_goto (pc := 11) (off := 4) (tgt := 15) (by decide +kernel) (by decide) ?_
      exact zw_zret (pc := 15) (by decide +kernel) rfl (Nat.le_refl _) (Nat.le_refl _) (Or.inr rfl) ⟨_, _, rfl, rfl, h⟩
abbrev at_X10_multiply_8 (g : zG) (φ : zMu → Prop) (v0 : Nat) (v1 : Nat) (v2 : Nat) (v3 : Int) (v4 : Int) (v5 : Int) (μ : zMu) : Prop := zWP g zm_X10_multiply (zmo g zm_X10_multiply (zΦv φ)) 8 [(0, .ref v0), (1, .ref v1), (2, .ref v2), (3, .int (zJ v3)), (4, .int (zJ v4)), (5, .int (zJ v5))] [] 0 0 (zw μ)
abbrev at_X10_multiply_67 (g : zG) (φ : zMu → Prop) (v2 : Nat) (v3 : Int) (v4 : Int) (v5 : Int) (μ : zMu) : Prop := zWP g zm_X10_multiply (zmo g zm_X10_multiply (zΦv φ)) 67 [(2, .ref v2), (3, .int (zJ v3)), (4, .int (zJ v4)), (5, .int (zJ v5))] [] 0 0 (zw μ)
abbrev at_X10_multiply_29 (g : zG) (φ : zMu → Prop) (v0 : Nat) (v1 : Nat) (v2 : Nat) (v3 : Int) (v4 : Int) (v5 : Int) (v6 : Int) (v7 : Int) (μ : zMu) : Prop := zWP g zm_X10_multiply (zmo g zm_X10_multiply (zΦv φ)) 29 [(0, .ref v0), (1, .ref v1), (2, .ref v2), (3, .int (zJ v3)), (4, .int (zJ v4)), (5, .int (zJ v5)), (6, .int (zJ v6)), (7, .int (zJ v7))] [] 0 0 (zw μ)
theorem sg_X10_multiply {g : zG} {φ : zMu → Prop} {v0 : Nat} {v1 : Nat} {v2 : Nat} {v3 : Int} {v4 : Int} {μ : zMu}
    (h : zOv g zm_J7_fill_53178 [.ref v2, .int (zJ 0)] μ (fun μ1 => at_X10_multiply_8 g φ v0 v1 v2 v3 v4 0 μ1)) : zOv g zm_X10_multiply [.ref v0, .ref v1, .ref v2, .int (zJ v3), .int (zJ v4)] μ φ := by
  refine zok_of (by decide +kernel) rfl ?_
  show zWP g zm_X10_multiply (zmo g zm_X10_multiply (zΦv φ)) 0 [(0, .ref v0), (1, .ref v1), (2, .ref v2), (3, .int (zJ v3)), (4, .int (zJ v4))] [] 0 0 (zw μ)
  refine zw_aload_n (pc := 0) (n := 2) (i := 2) 2 (by decide +kernel) rfl rfl ?_
  refine zw_iconst (pc := 1) (n := 0) (by decide +kernel) ?_
  refine zx_callS (pc := 2) (As := [.ref v2, .int (zJ 0)]) h zi_J7_fill_53178 zis_J7_fill_53178 zl_10_79 (by decide +kernel) ⟨Nat.le_of_ble_eq_true rfl, Nat.le_of_ble_eq_true rfl⟩ rfl rfl ⟨rfl, rfl⟩ ⟨Nat.zero_le _, Nat.zero_le _⟩ (zkv (fun μ1 h => ?_))
  refine zw_iconst (pc := 5) (n := 0) (by decide +kernel) ?_
  refine zw_istore (pc := 6) (i := 5) (lv' := [(0, .ref v0), (1, .ref v1), (2, .ref v2), (3, .int (zJ v3)), (4, .int (zJ v4)), (5, .int (zJ 0))]) (by decide +kernel) (Nat.le_of_ble_eq_true rfl) rfl ?_
  exact h
theorem sg_X10_multiply_8 {g : zG} {φ : zMu → Prop} {v0 : Nat} {v1 : Nat} {v2 : Nat} {v3 : Int} {v4 : Int} {v5 : Int} {μ : zMu}
    (h : (zR v5) ∧ (zR v3) ∧ ((v3 ≤ v5 → at_X10_multiply_67 g φ v2 v3 v4 0 μ) ∧ (v5 < v3 → (zIx v0 v5) ∧ (zR (μ v0 v5.toNat)) ∧ (((μ v0 v5.toNat) = 0 → at_X10_multiply_8 g φ v0 v1 v2 v3 v4 (v5 + 1) μ) ∧ (¬ (μ v0 v5.toNat) = 0 → at_X10_multiply_29 g φ v0 v1 v2 v3 v4 v5 (μ v0 v5.toNat) v5 μ))))) : at_X10_multiply_8 g φ v0 v1 v2 v3 v4 v5 μ := by
  obtain ⟨o1, o2, h⟩ := h
  refine zw_iload (pc := 8) (i := 5) 5 (by decide +kernel) rfl ?_
  refine zw_iload_n (pc := 10) (n := 3) (i := 3) 3 (by decide +kernel) rfl rfl ?_
  refine zw_icmp_ge (pc := 11) (off := 53) (tgt := 64) (by decide +kernel) (by decide) o1 o2 (fun hc => ?_) (fun hc => ?_)
  · replace h := h.1 hc
    refine zw_iconst (pc := 64) (n := 0) (by decide +kernel) ?_
    refine zw_istore (pc := 65) (i := 5) (lv' := [(0, .ref v0), (1, .ref v1), (2, .ref v2), (3, .int (zJ v3)), (4, .int (zJ v4)), (5, .int (zJ 0))]) (by decide +kernel) (Nat.le_of_ble_eq_true rfl) rfl ?_
    exact zw_pick (lv' := [(2, .ref v2), (3, .int (zJ v3)), (4, .int (zJ v4)), (5, .int (zJ 0))]) [2, 3, 4, 5] rfl h
  · replace h := h.2 hc
    obtain ⟨o3, o4, h⟩ := h
    refine zw_aload_n (pc := 14) (n := 0) (i := 0) 0 (by decide +kernel) rfl rfl ?_
    refine zw_iload (pc := 15) (i := 5) 5 (by decide +kernel) rfl ?_
    refine zx_iaload (pc := 17) (by decide +kernel) o3 ?_
    refine zw_istore (pc := 18) (i := 6) (lv' := [(0, .ref v0), (1, .ref v1), (2, .ref v2), (3, .int (zJ v3)), (4, .int (zJ v4)), (5, .int (zJ v5)), (6, .int (zJ (μ v0 v5.toNat)))]) (by decide +kernel) (Nat.le_of_ble_eq_true rfl) rfl ?_
    refine zw_iload (pc := 20) (i := 6) 6 (by decide +kernel) rfl ?_
    refine zw_if_eq (pc := 22) (off := 36) (tgt := 58) (by decide +kernel) (by decide) o4 (fun hc => ?_) (fun hc => ?_)
    · replace h := h.1 hc
      refine zw_iinc (pc := 58) (i := 5) (n := 1) (lv' := [(0, .ref v0), (1, .ref v1), (2, .ref v2), (3, .int (zJ v3)), (4, .int (zJ v4)), (5, .int (zJ (v5 + 1))), (6, .int (zJ (μ v0 v5.toNat)))]) 5 (by decide +kernel) rfl rfl (Nat.le_of_ble_eq_true rfl) rfl ?_
      refine zw_goto (pc := 61) (off := (-53)) (tgt := 8) (by decide +kernel) (by decide) ?_
      exact zw_pick (lv' := [(0, .ref v0), (1, .ref v1), (2, .ref v2), (3, .int (zJ v3)), (4, .int (zJ v4)), (5, .int (zJ (v5 + 1)))]) [0, 1, 2, 3, 4, 5] rfl h
    · replace h := h.2 hc
      refine zw_iload (pc := 25) (i := 5) 5 (by decide +kernel) rfl ?_
      refine zw_istore (pc := 27) (i := 7) (lv' := [(0, .ref v0), (1, .ref v1), (2, .ref v2), (3, .int (zJ v3)), (4, .int (zJ v4)), (5, .int (zJ v5)), (6, .int (zJ (μ v0 v5.toNat))), (7, .int (zJ v5))]) (by decide +kernel) (Nat.le_of_ble_eq_true rfl) rfl ?_
      exact h
theorem sg_X10_multiply_67 {g : zG} {φ : zMu → Prop} {v2 : Nat} {v3 : Int} {v4 : Int} {v5 : Int} {μ : zMu}
    (h : (zR v5) ∧ (zR v3) ∧ ((v3 ≤ v5 → φ μ) ∧ (v5 < v3 → (zIx v2 v5) ∧ (zR (μ v2 v5.toNat)) ∧ (zR v4) ∧ (v4 ≠ 0) ∧ at_X10_multiply_67 g φ v2 v3 v4 (v5 + 1) (zup μ v2 v5.toNat ((μ v2 v5.toNat).tmod v4))))) : at_X10_multiply_67 g φ v2 v3 v4 v5 μ := by
  obtain ⟨o1, o2, h⟩ := h
  refine zw_iload (pc := 67) (i := 5) 3 (by decide +kernel) rfl ?_
  refine zw_iload_n (pc := 69) (n := 3) (i := 3) 1 (by decide +kernel) rfl rfl ?_
  refine zw_icmp_ge (pc := 70) (off := 18) (tgt := 88) (by decide +kernel) (by decide) o1 o2 (fun hc => ?_) (fun hc => ?_)
  · replace h := h.1 hc
    exact zw_vret (pc := 88) (by decide +kernel) rfl (Nat.le_refl _) (Nat.le_refl _) ⟨_, rfl, rfl, h⟩
  · replace h := h.2 hc
    obtain ⟨o3, o4, o5, o6, h⟩ := h
    refine zw_aload_n (pc := 73) (n := 2) (i := 2) 0 (by decide +kernel) rfl rfl ?_
    refine zw_iload (pc := 74) (i := 5) 3 (by decide +kernel) rfl ?_
    refine zw_dup2 (pc := 76) (by decide +kernel) rfl rfl ?_
    refine zx_iaload (pc := 77) (by decide +kernel) o3 ?_
    refine zw_iload (pc := 78) (i := 4) 2 (by decide +kernel) rfl ?_
    refine zw_irem (pc := 80) (by decide +kernel) o4 o5 o6 ?_
    refine zx_iastore (pc := 81) (by decide +kernel) o3 ?_
    refine zw_iinc (pc := 82) (i := 5) (n := 1) (lv' := [(2, .ref v2), (3, .int (zJ v3)), (4, .int (zJ v4)), (5, .int (zJ (v5 + 1)))]) 3 (by decide +kernel) rfl rfl (Nat.le_of_ble_eq_true rfl) rfl ?_
    refine zw_goto (pc := 85) (off := (-18)) (tgt := 67) (by decide +kernel) (by decide) ?_
    exact h
theorem sg_X10_multiply_29 {g : zG} {φ : zMu → Prop} {v0 : Nat} {v1 : Nat} {v2 : Nat} {v3 : Int} {v4 : Int} {v5 : Int} {v6 : Int} {v7 : Int} {μ : zMu}
    (h : (zR v7) ∧ (zR v3) ∧ ((v3 ≤ v7 → at_X10_multiply_8 g φ v0 v1 v2 v3 v4 (v5 + 1) μ) ∧ (v7 < v3 → (zIx v2 v7) ∧ (zIx v1 (v7 - v5)) ∧ at_X10_multiply_29 g φ v0 v1 v2 v3 v4 v5 v6 (v7 + 1) (zup μ v2 v7.toNat ((μ v2 v7.toNat) + (v6 * (μ v1 (Int.toNat (v7 - v5))))))))) : at_X10_multiply_29 g φ v0 v1 v2 v3 v4 v5 v6 v7 μ := by
  obtain ⟨o1, o2, h⟩ := h
  refine zw_iload (pc := 29) (i := 7) 7 (by decide +kernel) rfl ?_
  refine zw_iload_n (pc := 31) (n := 3) (i := 3) 3 (by decide +kernel) rfl rfl ?_
  refine zw_icmp_ge (pc := 32) (off := 26) (tgt := 58) (by decide +kernel) (by decide) o1 o2 (fun hc => ?_) (fun hc => ?_)
  · replace h := h.1 hc
    refine zw_iinc (pc := 58) (i := 5) (n := 1) (lv' := [(0, .ref v0), (1, .ref v1), (2, .ref v2), (3, .int (zJ v3)), (4, .int (zJ v4)), (5, .int (zJ (v5 + 1))), (6, .int (zJ v6)), (7, .int (zJ v7))]) 5 (by decide +kernel) rfl rfl (Nat.le_of_ble_eq_true rfl) rfl ?_
    refine zw_goto (pc := 61) (off := (-53)) (tgt := 8) (by decide +kernel) (by decide) ?_
    exact zw_pick (lv' := [(0, .ref v0), (1, .ref v1), (2, .ref v2), (3, .int (zJ v3)), (4, .int (zJ v4)), (5, .int (zJ (v5 + 1)))]) [0, 1, 2, 3, 4, 5] rfl h
  · replace h := h.2 hc
    obtain ⟨o3, o4, h⟩ := h
    refine zw_aload_n (pc := 35) (n := 2) (i := 2) 2 (by decide +kernel) rfl rfl ?_
    refine zw_iload (pc := 36) (i := 7) 7 (by decide +kernel) rfl ?_
    refine zw_dup2 (pc := 38) (by decide +kernel) rfl rfl ?_
    refine zx_iaload (pc := 39) (by decide +kernel) o3 ?_
    refine zw_iload (pc := 40) (i := 6) 6 (by decide +kernel) rfl ?_
    refine zw_aload_n (pc := 42) (n := 1) (i := 1) 1 (by decide +kernel) rfl rfl ?_
    refine zw_iload (pc := 43) (i := 7) 7 (by decide +kernel) rfl ?_
    refine zw_iload (pc := 45) (i := 5) 5 (by decide +kernel) rfl ?_
    refine zw_isub (pc := 47) (by decide +kernel) ?_
    refine zx_iaload (pc := 48) (by decide +kernel) o4 ?_
    refine zw_imul (pc := 49) (by decide +kernel) ?_
    refine zw_iadd (pc := 50) (by decide +kernel) ?_
    refine zx_iastore (pc := 51) (by decide +kernel) o3 ?_
    refine zw_iinc (pc := 52) (i := 7) (n := 1) (lv' := [(0, .ref v0), (1, .ref v1), (2, .ref v2), (3, .int (zJ v3)), (4, .int (zJ v4)), (5, .int (zJ v5)), (6, .int (zJ v6)), (7, .int (zJ (v7 + 1)))]) 7 (by decide +kernel) rfl rfl (Nat.le_of_ble_eq_true rfl) rfl ?_
    refine zw_goto (pc := 55) (off := (-26)) (tgt := 29) (by decide +kernel) (by decide) ?_
    exact h
abbrev at_X10_inverse_11 (g : zG) (φ : Int → zMu → Prop) (v1 : Int) (v2 : Int) (v3 : Int) (v4 : Int) (μ : zMu) : Prop := zWP g zm_X10_inverse (zmo g zm_X10_inverse (zΦi φ)) 11 [(1, .int (zJ v1)), (2, .int (zJ v2)), (3, .int (zJ v3)), (4, .int (zJ v4))] [] 0 0 (zw μ)
theorem sg_X10_inverse {g : zG} {φ : Int → zMu → Prop} {v0 : Int} {v1 : Int} {μ : zMu}
    (h : (zR v0) ∧ (zR v1) ∧ (v1 ≠ 0) ∧ at_X10_inverse_11 g φ v1 1 (v0.tmod v1) (v1 - 2) μ) : zOi g zm_X10_inverse [.int (zJ v0), .int (zJ v1)] μ φ := by
  refine zok_of (by decide +kernel) rfl ?_
  show zWP g zm_X10_inverse (zmo g zm_X10_inverse (zΦi φ)) 0 [(0, .int (zJ v0)), (1, .int (zJ v1))] [] 0 0 (zw μ)
  obtain ⟨o1, o2, o3, h⟩ := h
  refine zw_iconst (pc := 0) (n := 1) (by decide +kernel) ?_
  refine zw_istore_n (pc := 1) (n := 2) (i := 2) (lv' := [(0, .int (zJ v0)), (1, .int (zJ v1)), (2, .int (zJ 1))]) (by decide +kernel) rfl (Nat.le_of_ble_eq_true rfl) rfl ?_
  refine zw_iload_n (pc := 2) (n := 0) (i := 0) 0 (by decide +kernel) rfl rfl ?_
  refine zw_iload_n (pc := 3) (n := 1) (i := 1) 1 (by decide +kernel) rfl rfl ?_
  refine zw_irem (pc := 4) (by decide +kernel) o1 o2 o3 ?_
  refine zw_istore_n (pc := 5) (n := 3) (i := 3) (lv' := [(0, .int (zJ v0)), (1, .int (zJ v1)), (2, .int (zJ 1)), (3, .int (zJ (v0.tmod v1)))]) (by decide +kernel) rfl (Nat.le_of_ble_eq_true rfl) rfl ?_
  refine zw_iload_n (pc := 6) (n := 1) (i := 1) 1 (by decide +kernel) rfl rfl ?_
  refine zw_iconst (pc := 7) (n := 2) (by decide +kernel) ?_
  refine zw_isub (pc := 8) (by decide +kernel) ?_
  refine zw_istore (pc := 9) (i := 4) (lv' := [(0, .int (zJ v0)), (1, .int (zJ v1)), (2, .int (zJ 1)), (3, .int (zJ (v0.tmod v1))), (4, .int (zJ (v1 - 2)))]) (by decide +kernel) (Nat.le_of_ble_eq_true rfl) rfl ?_
  exact zw_pick (lv' := [(1, .int (zJ v1)), (2, .int (zJ 1)), (3, .int (zJ (v0.tmod v1))), (4, .int (zJ (v1 - 2)))]) [1, 2, 3, 4] rfl h
theorem sg_X10_inverse_11 {g : zG} {φ : Int → zMu → Prop} {v1 : Int} {v2 : Int} {v3 : Int} {v4 : Int} {μ : zMu}
    (h : (zR v4) ∧ ((v4 ≤ 0 → φ v2 μ) ∧ (0 < v4 → (zR (zand v4 1)) ∧ ((¬ (zand v4 1) = 1 → (zR (v3 * v3)) ∧ (zR v1) ∧ (v1 ≠ 0) ∧ at_X10_inverse_11 g φ v1 v2 ((v3 * v3).tmod v1) (zshr v4 1) μ) ∧ ((zand v4 1) = 1 → (zR (v2 * v3)) ∧ (zR v1) ∧ (v1 ≠ 0) ∧ (zR (v3 * v3)) ∧ at_X10_inverse_11 g φ v1 ((v2 * v3).tmod v1) ((v3 * v3).tmod v1) (zshr v4 1) μ))))) : at_X10_inverse_11 g φ v1 v2 v3 v4 μ := by
  obtain ⟨o1, h⟩ := h
  refine zw_iload (pc := 11) (i := 4) 3 (by decide +kernel) rfl ?_
  refine zw_if_le (pc := 13) (off := 32) (tgt := 45) (by decide +kernel) (by decide) o1 (fun hc => ?_) (fun hc => ?_)
  · replace h := h.1 hc
    refine zw_iload_n (pc := 45) (n := 2) (i := 2) 1 (by decide +kernel) rfl rfl ?_
    exact zw_iret (pc := 46) (by decide +kernel) rfl (Nat.le_refl _) (Nat.le_refl _) ⟨_, _, rfl, rfl, h⟩
  · replace h := h.2 hc
    obtain ⟨o2, h⟩ := h
    refine zw_iload (pc := 16) (i := 4) 3 (by decide +kernel) rfl ?_
    refine zw_iconst (pc := 18) (n := 1) (by decide +kernel) ?_
    refine zw_iand (pc := 19) (by decide +kernel) ?_
    refine zw_iconst (pc := 20) (n := 1) (by decide +kernel) ?_
    refine zw_icmp_ne (pc := 21) (off := 9) (tgt := 30) (by decide +kernel) (by decide) o2 ⟨by decide, by decide⟩ (fun hc => ?_) (fun hc => ?_)
    · replace h := h.1 hc
      obtain ⟨o3, o4, o5, h⟩ := h
      refine zw_iload_n (pc := 30) (n := 3) (i := 3) 2 (by decide +kernel) rfl rfl ?_
      refine zw_iload_n (pc := 31) (n := 3) (i := 3) 2 (by decide +kernel) rfl rfl ?_
      refine zw_imul (pc := 32) (by decide +kernel) ?_
      refine zw_iload_n (pc := 33) (n := 1) (i := 1) 0 (by decide +kernel) rfl rfl ?_
      refine zw_irem (pc := 34) (by decide +kernel) o3 o4 o5 ?_
      refine zw_istore_n (pc := 35) (n := 3) (i := 3) (lv' := [(1, .int (zJ v1)), (2, .int (zJ v2)), (3, .int (zJ ((v3 * v3).tmod v1))), (4, .int (zJ v4))]) (by decide +kernel) rfl (Nat.le_of_ble_eq_true rfl) rfl ?_
      refine zw_iload (pc := 36) (i := 4) 3 (by decide +kernel) rfl ?_
      refine zw_iconst (pc := 38) (n := 1) (by decide +kernel) ?_
      refine zw_ishr (pc := 39) (by decide +kernel) ?_
      refine zw_istore (pc := 40) (i := 4) (lv' := [(1, .int (zJ v1)), (2, .int (zJ v2)), (3, .int (zJ ((v3 * v3).tmod v1))), (4, .int (zJ (zshr v4 1)))]) (by decide +kernel) (Nat.le_of_ble_eq_true rfl) rfl ?_
      refine zw_goto (pc := 42) (off := (-31)) (tgt := 11) (by decide +kernel) (by decide) ?_
      exact h
    · replace h := h.2 hc
      obtain ⟨o6, o7, o8, o9, h⟩ := h
      refine zw_iload_n (pc := 24) (n := 2) (i := 2) 1 (by decide +kernel) rfl rfl ?_
      refine zw_iload_n (pc := 25) (n := 3) (i := 3) 2 (by decide +kernel) rfl rfl ?_
      refine zw_imul (pc := 26) (by decide +kernel) ?_
      refine zw_iload_n (pc := 27) (n := 1) (i := 1) 0 (by decide +kernel) rfl rfl ?_
      refine zw_irem (pc := 28) (by decide +kernel) o6 o7 o8 ?_
      refine zw_istore_n (pc := 29) (n := 2) (i := 2) (lv' := [(1, .int (zJ v1)), (2, .int (zJ ((v2 * v3).tmod v1))), (3, .int (zJ v3)), (4, .int (zJ v4))]) (by decide +kernel) rfl (Nat.le_of_ble_eq_true rfl) rfl ?_
      refine zw_iload_n (pc := 30) (n := 3) (i := 3) 2 (by decide +kernel) rfl rfl ?_
      refine zw_iload_n (pc := 31) (n := 3) (i := 3) 2 (by decide +kernel) rfl rfl ?_
      refine zw_imul (pc := 32) (by decide +kernel) ?_
      refine zw_iload_n (pc := 33) (n := 1) (i := 1) 0 (by decide +kernel) rfl rfl ?_
      refine zw_irem (pc := 34) (by decide +kernel) o9 o7 o8 ?_
      refine zw_istore_n (pc := 35) (n := 3) (i := 3) (lv' := [(1, .int (zJ v1)), (2, .int (zJ ((v2 * v3).tmod v1))), (3, .int (zJ ((v3 * v3).tmod v1))), (4, .int (zJ v4))]) (by decide +kernel) rfl (Nat.le_of_ble_eq_true rfl) rfl ?_
      refine zw_iload (pc := 36) (i := 4) 3 (by decide +kernel) rfl ?_
      refine zw_iconst (pc := 38) (n := 1) (by decide +kernel) ?_
      refine zw_ishr (pc := 39) (by decide +kernel) ?_
      refine zw_istore (pc := 40) (i := 4) (lv' := [(1, .int (zJ v1)), (2, .int (zJ ((v2 * v3).tmod v1))), (3, .int (zJ ((v3 * v3).tmod v1))), (4, .int (zJ (zshr v4 1)))]) (by decide +kernel) (Nat.le_of_ble_eq_true rfl) rfl ?_
      refine zw_goto (pc := 42) (off := (-31)) (tgt := 11) (by decide +kernel) (by decide) ?_
      exact h
theorem sg_X10_tell {g : zG} {φ : Int → zMu → Prop} {v1 : Int} {v2 : Int} {v3 : Int} {μ : zMu}
    (h : zOi g zm_X10_isSeries [.int (zJ v1)] μ (fun x2 μ1 => (zR x2) ∧ ((x2 = 0 → φ (-1) μ1) ∧ (¬ x2 = 0 → zOi g zm_X10_isList [.int (zJ v2)] μ1 (fun x5 μ4 => (zR x5) ∧ ((¬ x5 = 0 → zOi g zm_X10_isTooFar [.int (zJ v3)] μ4 (fun x8 μ7 => (zR x8) ∧ ((x8 = 0 → (0 ≤ v2 ∧ v2 < 4) ∧ (zR (μ7 202 v2.toNat)) ∧ ((0 ≤ (μ7 202 v2.toNat) → ((¬ (μ7 202 v2.toNat) = 0 → (0 ≤ v1 ∧ v1 < 6) ∧ zOv g zm_X7_reduce [.ref 69, .ref (198 + v2.toNat), .ref (7 + 2 * v1.toNat), .int (zJ v3), .int (zJ (μ7 202 v2.toNat)), .int (zJ (μ7 1 0))] μ7 (fun μ15 => φ (μ7 202 v2.toNat) μ15)) ∧ ((μ7 202 v2.toNat) = 0 → φ (-3) μ7))) ∧ ((μ7 202 v2.toNat) < 0 → φ (-11) μ7))) ∧ (¬ x8 = 0 → φ (-2) μ7)))) ∧ (x5 = 0 → φ (-1) μ4))))))) : zOi g zm_X10_tell [.ref 0, .int (zJ v1), .int (zJ v2), .int (zJ v3)] μ φ := by
  refine zok_of (by decide +kernel) rfl ?_
  show zWP g zm_X10_tell (zmo g zm_X10_tell (zΦi φ)) 0 [(0, .ref 0), (1, .int (zJ v1)), (2, .int (zJ v2)), (3, .int (zJ v3))] [] 0 0 (zw μ)
  refine zw_iload_n (pc := 0) (n := 1) (i := 1) 1 (by decide +kernel) rfl rfl ?_
  refine zx_callS (pc := 1) (As := [.int (zJ v1)]) h zi_X10_isSeries zis_X10_isSeries zl_10_100 (by decide +kernel) ⟨Nat.le_of_ble_eq_true rfl, Nat.le_of_ble_eq_true rfl⟩ rfl rfl ⟨rfl, rfl⟩ ⟨Nat.zero_le _, Nat.zero_le _⟩ (zki (fun x2 μ1 h => ?_))
  obtain ⟨o3, h⟩ := h
  refine zw_if_eq (pc := 4) (off := 10) (tgt := 14) (by decide +kernel) (by decide) o3 (fun hc => ?_) (fun hc => ?_)
  · replace h := h.1 hc
    refine zw_iconst (pc := 14) (n := (-1)) (by decide +kernel) ?_
    exact zw_iret (pc := 15) (by decide +kernel) rfl (Nat.le_refl _) (Nat.le_refl _) ⟨_, _, rfl, rfl, h⟩
  · replace h := h.2 hc
    refine zw_iload_n (pc := 7) (n := 2) (i := 2) 2 (by decide +kernel) rfl rfl ?_
    refine zx_callS (pc := 8) (As := [.int (zJ v2)]) h zi_X10_isList zis_X10_isList zl_10_111 (by decide +kernel) ⟨Nat.le_of_ble_eq_true rfl, Nat.le_of_ble_eq_true rfl⟩ rfl rfl ⟨rfl, rfl⟩ ⟨Nat.zero_le _, Nat.zero_le _⟩ (zki (fun x5 μ4 h => ?_))
    obtain ⟨o6, h⟩ := h
    refine zw_if_ne (pc := 11) (off := 5) (tgt := 16) (by decide +kernel) (by decide) o6 (fun hc => ?_) (fun hc => ?_)
    · replace h := h.1 hc
      refine zw_iload_n (pc := 16) (n := 3) (i := 3) 3 (by decide +kernel) rfl rfl ?_
      refine zx_callS (pc := 17) (As := [.int (zJ v3)]) h zi_X10_isTooFar zis_X10_isTooFar zl_10_114 (by decide +kernel) ⟨Nat.le_of_ble_eq_true rfl, Nat.le_of_ble_eq_true rfl⟩ rfl rfl ⟨rfl, rfl⟩ ⟨Nat.zero_le _, Nat.zero_le _⟩ (zki (fun x8 μ7 h => ?_))
      obtain ⟨o9, h⟩ := h
      refine zw_if_eq (pc := 20) (off := 6) (tgt := 26) (by decide +kernel) (by decide) o9 (fun hc => ?_) (fun hc => ?_)
      · replace h := h.1 hc
        obtain ⟨o10, o11, h⟩ := h
        refine zw_aload_n (pc := 26) (n := 0) (i := 0) 0 (by decide +kernel) rfl rfl ?_
        refine zx_getR (pc := 27) (o := 202) (r := 202) zf_10_75 (by decide +kernel) rfl zc_0 rfl (by decide) rfl ?_
        refine zw_iload_n (pc := 30) (n := 2) (i := 2) 2 (by decide +kernel) rfl rfl ?_
        refine zx_iaload (pc := 31) (by decide +kernel) ⟨4, zc_202, o10.1, o10.2⟩ ?_
        refine zw_istore (pc := 32) (i := 4) (lv' := [(0, .ref 0), (1, .int (zJ v1)), (2, .int (zJ v2)), (3, .int (zJ v3)), (4, .int (zJ (μ7 202 v2.toNat)))]) (by decide +kernel) (Nat.le_of_ble_eq_true rfl) rfl ?_
        refine zw_iload (pc := 34) (i := 4) 4 (by decide +kernel) rfl ?_
        refine zw_if_ge (pc := 36) (off := 6) (tgt := 42) (by decide +kernel) (by decide) o11 (fun hc => ?_) (fun hc => ?_)
        · replace h := h.1 hc
          refine zw_iload (pc := 42) (i := 4) 4 (by decide +kernel) rfl ?_
          refine zw_if_ne (pc := 44) (off := 6) (tgt := 50) (by decide +kernel) (by decide) o11 (fun hc => ?_) (fun hc => ?_)
          · replace h := h.1 hc
            obtain ⟨o13, h⟩ := h
            refine zw_aload_n (pc := 50) (n := 0) (i := 0) 0 (by decide +kernel) rfl rfl ?_
            refine zx_getR (pc := 51) (o := 69) (r := 69) zf_10_24 (by decide +kernel) rfl zc_0 rfl (by decide) rfl ?_
            refine zw_aload_n (pc := 54) (n := 0) (i := 0) 0 (by decide +kernel) rfl rfl ?_
            refine zx_getR (pc := 55) (o := 197) (r := 197) zf_10_72 (by decide +kernel) rfl zc_0 rfl (by decide) rfl ?_
            refine zw_iload_n (pc := 58) (n := 2) (i := 2) 2 (by decide +kernel) rfl rfl ?_
            have q12 : zS (198 + v2.toNat) 12 80 := zS_cast (zqr_197 (j := v2.toNat) (by omega)) (by show 197 + 1 + 1 * v2.toNat = (198 + v2.toNat); omega)
            refine zx_aaload (pc := 59) (k := 15) (r := (198 + v2.toNat)) (by decide +kernel) (by decide) ⟨4, zc_197, o10.1, o10.2⟩ (by show 197 + 1 + 1 * v2.toNat = (198 + v2.toNat); omega) ?_
            refine zw_aload_n (pc := 60) (n := 0) (i := 0) 0 (by decide +kernel) rfl rfl ?_
            refine zx_getR (pc := 61) (o := 1) (r := 1) zf_10_14 (by decide +kernel) rfl zc_0 rfl (by decide) rfl ?_
            refine zx_getR (pc := 64) (o := 1) (r := 2) zf_10_103 (by decide +kernel) rfl zc_1 rfl (by decide) rfl ?_
            refine zw_iload_n (pc := 67) (n := 1) (i := 1) 1 (by decide +kernel) rfl rfl ?_
            have q14 : zS (7 + 2 * v1.toNat) 6 3 := zS_cast (zqe_14 (j := v1.toNat) zc_2 (by omega)) (by show 2 + 5 + 2 * v1.toNat = (7 + 2 * v1.toNat); omega)
            refine zx_aaload (pc := 68) (k := 14) (r := (7 + 2 * v1.toNat)) (by decide +kernel) (by decide) ⟨6, zc_2, o13.1, o13.2⟩ (by show 2 + 5 + 2 * v1.toNat = (7 + 2 * v1.toNat); omega) ?_
            refine zw_iload_n (pc := 69) (n := 3) (i := 3) 3 (by decide +kernel) rfl rfl ?_
            refine zw_iload (pc := 70) (i := 4) 4 (by decide +kernel) rfl ?_
            refine zw_aload_n (pc := 72) (n := 0) (i := 0) 0 (by decide +kernel) rfl rfl ?_
            refine zx_getR (pc := 73) (o := 1) (r := 1) zf_10_14 (by decide +kernel) rfl zc_0 rfl (by decide) rfl ?_
            refine zx_getI (pc := 76) zf_10_89 (by decide +kernel) rfl zc_1 ?_
            refine zx_callV (pc := 79) (As := [.ref (198 + v2.toNat), .ref (7 + 2 * v1.toNat), .int (zJ v3), .int (zJ (μ7 202 v2.toNat)), .int (zJ (μ7 1 0))]) h zi_X7_reduce zii_X7_reduce zie_X7_reduce zl_10_117 (by decide +kernel) ⟨Nat.le_of_ble_eq_true rfl, Nat.le_of_ble_eq_true rfl⟩ rfl zc_69 (by decide) rfl rfl ⟨rfl, rfl⟩ ⟨Nat.zero_le _, Nat.zero_le _⟩ (zkv (fun μ15 h => ?_))
            refine zw_iload (pc := 82) (i := 4) 4 (by decide +kernel) rfl ?_
            exact zw_iret (pc := 84) (by decide +kernel) rfl (Nat.le_refl _) (Nat.le_refl _) ⟨_, _, rfl, rfl, h⟩
          · replace h := h.2 hc
            refine zw_bipush (pc := 47) (n := (-3)) (by decide +kernel) (by decide +kernel) ?_
            exact zw_iret (pc := 49) (by decide +kernel) rfl (Nat.le_refl _) (Nat.le_refl _) ⟨_, _, rfl, rfl, h⟩
        · replace h := h.2 hc
          refine zw_bipush (pc := 39) (n := (-11)) (by decide +kernel) (by decide +kernel) ?_
          exact zw_iret (pc := 41) (by decide +kernel) rfl (Nat.le_refl _) (Nat.le_refl _) ⟨_, _, rfl, rfl, h⟩
      · replace h := h.2 hc
        refine zw_bipush (pc := 23) (n := (-2)) (by decide +kernel) (by decide +kernel) ?_
        exact zw_iret (pc := 25) (by decide +kernel) rfl (Nat.le_refl _) (Nat.le_refl _) ⟨_, _, rfl, rfl, h⟩
    · replace h := h.2 hc
      refine zw_iconst (pc := 14) (n := (-1)) (by decide +kernel) ?_
      exact zw_iret (pc := 15) (by decide +kernel) rfl (Nat.le_refl _) (Nat.le_refl _) ⟨_, _, rfl, rfl, h⟩
theorem sg_X10_isList {g : zG} {φ : Int → zMu → Prop} {v0 : Int} {μ : zMu}
    (h : (zR v0) ∧ ((v0 < 0 → φ 0 μ) ∧ (0 ≤ v0 → ((4 ≤ v0 → φ 0 μ) ∧ (v0 < 4 → φ 1 μ))))) : zOi g zm_X10_isList [.int (zJ v0)] μ φ := by
  refine zok_of (by decide +kernel) rfl ?_
  show zWP g zm_X10_isList (zmo g zm_X10_isList (zΦi φ)) 0 [(0, .int (zJ v0))] [] 0 0 (zw μ)
  obtain ⟨o1, h⟩ := h
  refine zw_iload_n (pc := 0) (n := 0) (i := 0) 0 (by decide +kernel) rfl rfl ?_
  refine zw_if_lt (pc := 1) (off := 12) (tgt := 13) (by decide +kernel) (by decide) o1 (fun hc => ?_) (fun hc => ?_)
  · replace h := h.1 hc
    refine zw_iconst (pc := 13) (n := 0) (by decide +kernel) ?_
    exact zw_zret (pc := 14) (by decide +kernel) rfl (Nat.le_refl _) (Nat.le_refl _) (Or.inl rfl) ⟨_, _, rfl, rfl, h⟩
  · replace h := h.2 hc
    refine zw_iload_n (pc := 4) (n := 0) (i := 0) 0 (by decide +kernel) rfl rfl ?_
    refine zw_iconst (pc := 5) (n := 4) (by decide +kernel) ?_
    refine zw_icmp_ge (pc := 6) (off := 7) (tgt := 13) (by decide +kernel) (by decide) o1 ⟨by decide, by decide⟩ (fun hc => ?_) (fun hc => ?_)
    · replace h := h.1 hc
      refine zw_iconst (pc := 13) (n := 0) (by decide +kernel) ?_
      exact zw_zret (pc := 14) (by decide +kernel) rfl (Nat.le_refl _) (Nat.le_refl _) (Or.inl rfl) ⟨_, _, rfl, rfl, h⟩
    · replace h := h.2 hc
      refine zw_iconst (pc := 9) (n := 1) (by decide +kernel) ?_
      refine zw_goto (pc := 10) (off := 4) (tgt := 14) (by decide +kernel) (by decide) ?_
      exact zw_zret (pc := 14) (by decide +kernel) rfl (Nat.le_refl _) (Nat.le_refl _) (Or.inr rfl) ⟨_, _, rfl, rfl, h⟩
theorem sg_X10_isTooFar {g : zG} {φ : Int → zMu → Prop} {v0 : Int} {μ : zMu}
    (h : (zR v0) ∧ ((v0 < (-99) → φ 1 μ) ∧ ((-99) ≤ v0 → ((v0 ≤ 99 → φ 0 μ) ∧ (99 < v0 → φ 1 μ))))) : zOi g zm_X10_isTooFar [.int (zJ v0)] μ φ := by
  refine zok_of (by decide +kernel) rfl ?_
  show zWP g zm_X10_isTooFar (zmo g zm_X10_isTooFar (zΦi φ)) 0 [(0, .int (zJ v0))] [] 0 0 (zw μ)
  obtain ⟨o1, h⟩ := h
  refine zw_iload_n (pc := 0) (n := 0) (i := 0) 0 (by decide +kernel) rfl rfl ?_
  refine zw_bipush (pc := 1) (n := (-99)) (by decide +kernel) (by decide +kernel) ?_
  refine zw_icmp_lt (pc := 3) (off := 9) (tgt := 12) (by decide +kernel) (by decide) o1 ⟨by decide, by decide⟩ (fun hc => ?_) (fun hc => ?_)
  · replace h := h.1 hc
    refine zw_iconst (pc := 12) (n := 1) (by decide +kernel) ?_
    refine zw_goto (pc := 13) (off := 4) (tgt := 17) (by decide +kernel) (by decide) ?_
    exact zw_zret (pc := 17) (by decide +kernel) rfl (Nat.le_refl _) (Nat.le_refl _) (Or.inr rfl) ⟨_, _, rfl, rfl, h⟩
  · replace h := h.2 hc
    refine zw_iload_n (pc := 6) (n := 0) (i := 0) 0 (by decide +kernel) rfl rfl ?_
    refine zw_bipush (pc := 7) (n := 99) (by decide +kernel) (by decide +kernel) ?_
    refine zw_icmp_le (pc := 9) (off := 7) (tgt := 16) (by decide +kernel) (by decide) o1 ⟨by decide, by decide⟩ (fun hc => ?_) (fun hc => ?_)
    · replace h := h.1 hc
      refine zw_iconst (pc := 16) (n := 0) (by decide +kernel) ?_
      exact zw_zret (pc := 17) (by decide +kernel) rfl (Nat.le_refl _) (Nat.le_refl _) (Or.inl rfl) ⟨_, _, rfl, rfl, h⟩
    · replace h := h.2 hc
      refine zw_iconst (pc := 12) (n := 1) (by decide +kernel) ?_
      refine zw_goto (pc := 13) (off := 4) (tgt := 17) (by decide +kernel) (by decide) ?_
      exact zw_zret (pc := 17) (by decide +kernel) rfl (Nat.le_refl _) (Nat.le_refl _) (Or.inr rfl) ⟨_, _, rfl, rfl, h⟩
theorem sg_X10_sum {g : zG} {φ : Int → zMu → Prop} {v1 : Int} {v2 : Int} {v3 : Int} {μ : zMu}
    (h : zOi g zm_X10_isSeries [.int (zJ v1)] μ (fun x2 μ1 => (zR x2) ∧ ((x2 = 0 → φ (-1) μ1) ∧ (¬ x2 = 0 → zOi g zm_X10_isSeries [.int (zJ v2)] μ1 (fun x5 μ4 => (zR x5) ∧ ((x5 = 0 → φ (-1) μ4) ∧ (¬ x5 = 0 → zOi g zm_X10_isSeries [.int (zJ v3)] μ4 (fun x8 μ7 => (zR x8) ∧ ((¬ x8 = 0 → (0 ≤ v1 ∧ v1 < 6) ∧ zOi g zm_X6_isMissing [.ref (7 + 2 * v1.toNat)] μ7 (fun x13 μ12 => (zR x13) ∧ ((¬ x13 = 0 → φ (-11) μ12) ∧ (x13 = 0 → (0 ≤ v2 ∧ v2 < 6) ∧ zOi g zm_X6_isMissing [.ref (7 + 2 * v2.toNat)] μ12 (fun x18 μ17 => (zR x18) ∧ ((x18 = 0 → (0 ≤ v3 ∧ v3 < 6) ∧ zOv g zm_X7_add [.ref 69, .ref (7 + 2 * v1.toNat), .ref (7 + 2 * v2.toNat), .ref (7 + 2 * v3.toNat), .int (zJ (μ17 1 0))] μ17 (fun μ24 => φ (μ24 (7 + 2 * v3.toNat) 2) μ24)) ∧ (¬ x18 = 0 → φ (-11) μ17))))))) ∧ (x8 = 0 → φ (-1) μ7)))))))))) : zOi g zm_X10_sum [.ref 0, .int (zJ v1), .int (zJ v2), .int (zJ v3)] μ φ := by
  refine zok_of (by decide +kernel) rfl ?_
  show zWP g zm_X10_sum (zmo g zm_X10_sum (zΦi φ)) 0 [(0, .ref 0), (1, .int (zJ v1)), (2, .int (zJ v2)), (3, .int (zJ v3))] [] 0 0 (zw μ)
  refine zw_iload_n (pc := 0) (n := 1) (i := 1) 1 (by decide +kernel) rfl rfl ?_
  refine zx_callS (pc := 1) (As := [.int (zJ v1)]) h zi_X10_isSeries zis_X10_isSeries zl_10_100 (by decide +kernel) ⟨Nat.le_of_ble_eq_true rfl, Nat.le_of_ble_eq_true rfl⟩ rfl rfl ⟨rfl, rfl⟩ ⟨Nat.zero_le _, Nat.zero_le _⟩ (zki (fun x2 μ1 h => ?_))
  obtain ⟨o3, h⟩ := h
  refine zw_if_eq (pc := 4) (off := 17) (tgt := 21) (by decide +kernel) (by decide) o3 (fun hc => ?_) (fun hc => ?_)
  · replace h := h.1 hc
    refine zw_iconst (pc := 21) (n := (-1)) (by decide +kernel) ?_
    exact zw_iret (pc := 22) (by decide +kernel) rfl (Nat.le_refl _) (Nat.le_refl _) ⟨_, _, rfl, rfl, h⟩
  · replace h := h.2 hc
    refine zw_iload_n (pc := 7) (n := 2) (i := 2) 2 (by decide +kernel) rfl rfl ?_
    refine zx_callS (pc := 8) (As := [.int (zJ v2)]) h zi_X10_isSeries zis_X10_isSeries zl_10_100 (by decide +kernel) ⟨Nat.le_of_ble_eq_true rfl, Nat.le_of_ble_eq_true rfl⟩ rfl rfl ⟨rfl, rfl⟩ ⟨Nat.zero_le _, Nat.zero_le _⟩ (zki (fun x5 μ4 h => ?_))
    obtain ⟨o6, h⟩ := h
    refine zw_if_eq (pc := 11) (off := 10) (tgt := 21) (by decide +kernel) (by decide) o6 (fun hc => ?_) (fun hc => ?_)
    · replace h := h.1 hc
      refine zw_iconst (pc := 21) (n := (-1)) (by decide +kernel) ?_
      exact zw_iret (pc := 22) (by decide +kernel) rfl (Nat.le_refl _) (Nat.le_refl _) ⟨_, _, rfl, rfl, h⟩
    · replace h := h.2 hc
      refine zw_iload_n (pc := 14) (n := 3) (i := 3) 3 (by decide +kernel) rfl rfl ?_
      refine zx_callS (pc := 15) (As := [.int (zJ v3)]) h zi_X10_isSeries zis_X10_isSeries zl_10_100 (by decide +kernel) ⟨Nat.le_of_ble_eq_true rfl, Nat.le_of_ble_eq_true rfl⟩ rfl rfl ⟨rfl, rfl⟩ ⟨Nat.zero_le _, Nat.zero_le _⟩ (zki (fun x8 μ7 h => ?_))
      obtain ⟨o9, h⟩ := h
      refine zw_if_ne (pc := 18) (off := 5) (tgt := 23) (by decide +kernel) (by decide) o9 (fun hc => ?_) (fun hc => ?_)
      · replace h := h.1 hc
        obtain ⟨o10, h⟩ := h
        refine zw_aload_n (pc := 23) (n := 0) (i := 0) 0 (by decide +kernel) rfl rfl ?_
        refine zx_getR (pc := 24) (o := 1) (r := 1) zf_10_14 (by decide +kernel) rfl zc_0 rfl (by decide) rfl ?_
        refine zx_getR (pc := 27) (o := 1) (r := 2) zf_10_103 (by decide +kernel) rfl zc_1 rfl (by decide) rfl ?_
        refine zw_iload_n (pc := 30) (n := 1) (i := 1) 1 (by decide +kernel) rfl rfl ?_
        have q11 : zS (7 + 2 * v1.toNat) 6 3 := zS_cast (zqe_14 (j := v1.toNat) zc_2 (by omega)) (by show 2 + 5 + 2 * v1.toNat = (7 + 2 * v1.toNat); omega)
        refine zx_aaload (pc := 31) (k := 14) (r := (7 + 2 * v1.toNat)) (by decide +kernel) (by decide) ⟨6, zc_2, o10.1, o10.2⟩ (by show 2 + 5 + 2 * v1.toNat = (7 + 2 * v1.toNat); omega) ?_
        refine zx_callV (pc := 32) (As := []) h zi_X6_isMissing zii_X6_isMissing zie_X6_isMissing zl_10_121 (by decide +kernel) ⟨Nat.le_of_ble_eq_true rfl, Nat.le_of_ble_eq_true rfl⟩ rfl q11 (by decide) rfl rfl ⟨rfl, rfl⟩ ⟨Nat.zero_le _, Nat.zero_le _⟩ (zki (fun x13 μ12 h => ?_))
        obtain ⟨o14, h⟩ := h
        refine zw_if_ne (pc := 35) (off := 18) (tgt := 53) (by decide +kernel) (by decide) o14 (fun hc => ?_) (fun hc => ?_)
        · replace h := h.1 hc
          refine zw_bipush (pc := 53) (n := (-11)) (by decide +kernel) (by decide +kernel) ?_
          exact zw_iret (pc := 55) (by decide +kernel) rfl (Nat.le_refl _) (Nat.le_refl _) ⟨_, _, rfl, rfl, h⟩
        · replace h := h.2 hc
          obtain ⟨o15, h⟩ := h
          refine zw_aload_n (pc := 38) (n := 0) (i := 0) 0 (by decide +kernel) rfl rfl ?_
          refine zx_getR (pc := 39) (o := 1) (r := 1) zf_10_14 (by decide +kernel) rfl zc_0 rfl (by decide) rfl ?_
          refine zx_getR (pc := 42) (o := 1) (r := 2) zf_10_103 (by decide +kernel) rfl zc_1 rfl (by decide) rfl ?_
          refine zw_iload_n (pc := 45) (n := 2) (i := 2) 2 (by decide +kernel) rfl rfl ?_
          have q16 : zS (7 + 2 * v2.toNat) 6 3 := zS_cast (zqe_14 (j := v2.toNat) zc_2 (by omega)) (by show 2 + 5 + 2 * v2.toNat = (7 + 2 * v2.toNat); omega)
          refine zx_aaload (pc := 46) (k := 14) (r := (7 + 2 * v2.toNat)) (by decide +kernel) (by decide) ⟨6, zc_2, o15.1, o15.2⟩ (by show 2 + 5 + 2 * v2.toNat = (7 + 2 * v2.toNat); omega) ?_
          refine zx_callV (pc := 47) (As := []) h zi_X6_isMissing zii_X6_isMissing zie_X6_isMissing zl_10_121 (by decide +kernel) ⟨Nat.le_of_ble_eq_true rfl, Nat.le_of_ble_eq_true rfl⟩ rfl q16 (by decide) rfl rfl ⟨rfl, rfl⟩ ⟨Nat.zero_le _, Nat.zero_le _⟩ (zki (fun x18 μ17 h => ?_))
          obtain ⟨o19, h⟩ := h
          refine zw_if_eq (pc := 50) (off := 6) (tgt := 56) (by decide +kernel) (by decide) o19 (fun hc => ?_) (fun hc => ?_)
          · replace h := h.1 hc
            obtain ⟨o22, h⟩ := h
            refine zw_aload_n (pc := 56) (n := 0) (i := 0) 0 (by decide +kernel) rfl rfl ?_
            refine zx_getR (pc := 57) (o := 69) (r := 69) zf_10_24 (by decide +kernel) rfl zc_0 rfl (by decide) rfl ?_
            refine zw_aload_n (pc := 60) (n := 0) (i := 0) 0 (by decide +kernel) rfl rfl ?_
            refine zx_getR (pc := 61) (o := 1) (r := 1) zf_10_14 (by decide +kernel) rfl zc_0 rfl (by decide) rfl ?_
            refine zx_getR (pc := 64) (o := 1) (r := 2) zf_10_103 (by decide +kernel) rfl zc_1 rfl (by decide) rfl ?_
            refine zw_iload_n (pc := 67) (n := 1) (i := 1) 1 (by decide +kernel) rfl rfl ?_
            have q20 : zS (7 + 2 * v1.toNat) 6 3 := zS_cast (zqe_14 (j := v1.toNat) zc_2 (by omega)) (by show 2 + 5 + 2 * v1.toNat = (7 + 2 * v1.toNat); omega)
            refine zx_aaload (pc := 68) (k := 14) (r := (7 + 2 * v1.toNat)) (by decide +kernel) (by decide) ⟨6, zc_2, o10.1, o10.2⟩ (by show 2 + 5 + 2 * v1.toNat = (7 + 2 * v1.toNat); omega) ?_
            refine zw_aload_n (pc := 69) (n := 0) (i := 0) 0 (by decide +kernel) rfl rfl ?_
            refine zx_getR (pc := 70) (o := 1) (r := 1) zf_10_14 (by decide +kernel) rfl zc_0 rfl (by decide) rfl ?_
            refine zx_getR (pc := 73) (o := 1) (r := 2) zf_10_103 (by decide +kernel) rfl zc_1 rfl (by decide) rfl ?_
            refine zw_iload_n (pc := 76) (n := 2) (i := 2) 2 (by decide +kernel) rfl rfl ?_
            have q21 : zS (7 + 2 * v2.toNat) 6 3 := zS_cast (zqe_14 (j := v2.toNat) zc_2 (by omega)) (by show 2 + 5 + 2 * v2.toNat = (7 + 2 * v2.toNat); omega)
            refine zx_aaload (pc := 77) (k := 14) (r := (7 + 2 * v2.toNat)) (by decide +kernel) (by decide) ⟨6, zc_2, o15.1, o15.2⟩ (by show 2 + 5 + 2 * v2.toNat = (7 + 2 * v2.toNat); omega) ?_
            refine zw_aload_n (pc := 78) (n := 0) (i := 0) 0 (by decide +kernel) rfl rfl ?_
            refine zx_getR (pc := 79) (o := 1) (r := 1) zf_10_14 (by decide +kernel) rfl zc_0 rfl (by decide) rfl ?_
            refine zx_getR (pc := 82) (o := 1) (r := 2) zf_10_103 (by decide +kernel) rfl zc_1 rfl (by decide) rfl ?_
            refine zw_iload_n (pc := 85) (n := 3) (i := 3) 3 (by decide +kernel) rfl rfl ?_
            have q23 : zS (7 + 2 * v3.toNat) 6 3 := zS_cast (zqe_14 (j := v3.toNat) zc_2 (by omega)) (by show 2 + 5 + 2 * v3.toNat = (7 + 2 * v3.toNat); omega)
            refine zx_aaload (pc := 86) (k := 14) (r := (7 + 2 * v3.toNat)) (by decide +kernel) (by decide) ⟨6, zc_2, o22.1, o22.2⟩ (by show 2 + 5 + 2 * v3.toNat = (7 + 2 * v3.toNat); omega) ?_
            refine zw_aload_n (pc := 87) (n := 0) (i := 0) 0 (by decide +kernel) rfl rfl ?_
            refine zx_getR (pc := 88) (o := 1) (r := 1) zf_10_14 (by decide +kernel) rfl zc_0 rfl (by decide) rfl ?_
            refine zx_getI (pc := 91) zf_10_89 (by decide +kernel) rfl zc_1 ?_
            refine zx_callV (pc := 94) (As := [.ref (7 + 2 * v1.toNat), .ref (7 + 2 * v2.toNat), .ref (7 + 2 * v3.toNat), .int (zJ (μ17 1 0))]) h zi_X7_add zii_X7_add zie_X7_add zl_10_127 (by decide +kernel) ⟨Nat.le_of_ble_eq_true rfl, Nat.le_of_ble_eq_true rfl⟩ rfl zc_69 (by decide) rfl rfl ⟨rfl, rfl⟩ ⟨Nat.zero_le _, Nat.zero_le _⟩ (zkv (fun μ24 h => ?_))
            refine zw_aload_n (pc := 97) (n := 0) (i := 0) 0 (by decide +kernel) rfl rfl ?_
            refine zx_getR (pc := 98) (o := 1) (r := 1) zf_10_14 (by decide +kernel) rfl zc_0 rfl (by decide) rfl ?_
            refine zx_getR (pc := 101) (o := 1) (r := 2) zf_10_103 (by decide +kernel) rfl zc_1 rfl (by decide) rfl ?_
            refine zw_iload_n (pc := 104) (n := 3) (i := 3) 3 (by decide +kernel) rfl rfl ?_
            have q25 : zS (7 + 2 * v3.toNat) 6 3 := zS_cast (zqe_14 (j := v3.toNat) zc_2 (by omega)) (by show 2 + 5 + 2 * v3.toNat = (7 + 2 * v3.toNat); omega)
            refine zx_aaload (pc := 105) (k := 14) (r := (7 + 2 * v3.toNat)) (by decide +kernel) (by decide) ⟨6, zc_2, o22.1, o22.2⟩ (by show 2 + 5 + 2 * v3.toNat = (7 + 2 * v3.toNat); omega) ?_
            refine zx_getI (pc := 106) zf_10_131 (by decide +kernel) rfl q25 ?_
            exact zw_iret (pc := 109) (by decide +kernel) rfl (Nat.le_refl _) (Nat.le_refl _) ⟨_, _, rfl, rfl, h⟩
          · replace h := h.2 hc
            refine zw_bipush (pc := 53) (n := (-11)) (by decide +kernel) (by decide +kernel) ?_
            exact zw_iret (pc := 55) (by decide +kernel) rfl (Nat.le_refl _) (Nat.le_refl _) ⟨_, _, rfl, rfl, h⟩
      · replace h := h.2 hc
        refine zw_iconst (pc := 21) (n := (-1)) (by decide +kernel) ?_
        exact zw_iret (pc := 22) (by decide +kernel) rfl (Nat.le_refl _) (Nat.le_refl _) ⟨_, _, rfl, rfl, h⟩
theorem sg_X10_times {g : zG} {φ : Int → zMu → Prop} {v1 : Int} {v2 : Int} {v3 : Int} {μ : zMu}
    (h : zOi g zm_X10_isSeries [.int (zJ v1)] μ (fun x2 μ1 => (zR x2) ∧ ((x2 = 0 → φ (-1) μ1) ∧ (¬ x2 = 0 → zOi g zm_X10_isSeries [.int (zJ v2)] μ1 (fun x5 μ4 => (zR x5) ∧ ((x5 = 0 → φ (-1) μ4) ∧ (¬ x5 = 0 → zOi g zm_X10_isSeries [.int (zJ v3)] μ4 (fun x8 μ7 => (zR x8) ∧ ((¬ x8 = 0 → (0 ≤ v1 ∧ v1 < 6) ∧ (0 ≤ v2 ∧ v2 < 6) ∧ zOi g zm_X6_isMissing [.ref (7 + 2 * v1.toNat)] μ7 (fun x15 μ14 => (zR x15) ∧ ((¬ x15 = 0 → φ (-11) μ14) ∧ (x15 = 0 → zOi g zm_X6_isMissing [.ref (7 + 2 * v2.toNat)] μ14 (fun x18 μ17 => (zR x18) ∧ ((x18 = 0 → zOi g zm_X10_isTooFar [.int (zJ ((μ17 (7 + 2 * v1.toNat) 1) + (μ17 (7 + 2 * v2.toNat) 1)))] μ17 (fun x21 μ20 => (zR x21) ∧ ((x21 = 0 → (0 ≤ v3 ∧ v3 < 6) ∧ zOv g zm_X7_makeProduct [.ref 69, .ref (7 + 2 * v1.toNat), .ref (7 + 2 * v2.toNat), .ref (7 + 2 * v3.toNat), .int (zJ (μ20 1 0))] μ20 (fun μ25 => φ (μ25 (7 + 2 * v3.toNat) 2) μ25)) ∧ (¬ x21 = 0 → φ (-3) μ20)))) ∧ (¬ x18 = 0 → φ (-11) μ17))))))) ∧ (x8 = 0 → φ (-1) μ7)))))))))) : zOi g zm_X10_times [.ref 0, .int (zJ v1), .int (zJ v2), .int (zJ v3)] μ φ := by
  refine zok_of (by decide +kernel) rfl ?_
  show zWP g zm_X10_times (zmo g zm_X10_times (zΦi φ)) 0 [(0, .ref 0), (1, .int (zJ v1)), (2, .int (zJ v2)), (3, .int (zJ v3))] [] 0 0 (zw μ)
  refine zw_iload_n (pc := 0) (n := 1) (i := 1) 1 (by decide +kernel) rfl rfl ?_
  refine zx_callS (pc := 1) (As := [.int (zJ v1)]) h zi_X10_isSeries zis_X10_isSeries zl_10_100 (by decide +kernel) ⟨Nat.le_of_ble_eq_true rfl, Nat.le_of_ble_eq_true rfl⟩ rfl rfl ⟨rfl, rfl⟩ ⟨Nat.zero_le _, Nat.zero_le _⟩ (zki (fun x2 μ1 h => ?_))
  obtain ⟨o3, h⟩ := h
  refine zw_if_eq (pc := 4) (off := 17) (tgt := 21) (by decide +kernel) (by decide) o3 (fun hc => ?_) (fun hc => ?_)
  · replace h := h.1 hc
    refine zw_iconst (pc := 21) (n := (-1)) (by decide +kernel) ?_
    exact zw_iret (pc := 22) (by decide +kernel) rfl (Nat.le_refl _) (Nat.le_refl _) ⟨_, _, rfl, rfl, h⟩
  · replace h := h.2 hc
    refine zw_iload_n (pc := 7) (n := 2) (i := 2) 2 (by decide +kernel) rfl rfl ?_
    refine zx_callS (pc := 8) (As := [.int (zJ v2)]) h zi_X10_isSeries zis_X10_isSeries zl_10_100 (by decide +kernel) ⟨Nat.le_of_ble_eq_true rfl, Nat.le_of_ble_eq_true rfl⟩ rfl rfl ⟨rfl, rfl⟩ ⟨Nat.zero_le _, Nat.zero_le _⟩ (zki (fun x5 μ4 h => ?_))
    obtain ⟨o6, h⟩ := h
    refine zw_if_eq (pc := 11) (off := 10) (tgt := 21) (by decide +kernel) (by decide) o6 (fun hc => ?_) (fun hc => ?_)
    · replace h := h.1 hc
      refine zw_iconst (pc := 21) (n := (-1)) (by decide +kernel) ?_
      exact zw_iret (pc := 22) (by decide +kernel) rfl (Nat.le_refl _) (Nat.le_refl _) ⟨_, _, rfl, rfl, h⟩
    · replace h := h.2 hc
      refine zw_iload_n (pc := 14) (n := 3) (i := 3) 3 (by decide +kernel) rfl rfl ?_
      refine zx_callS (pc := 15) (As := [.int (zJ v3)]) h zi_X10_isSeries zis_X10_isSeries zl_10_100 (by decide +kernel) ⟨Nat.le_of_ble_eq_true rfl, Nat.le_of_ble_eq_true rfl⟩ rfl rfl ⟨rfl, rfl⟩ ⟨Nat.zero_le _, Nat.zero_le _⟩ (zki (fun x8 μ7 h => ?_))
      obtain ⟨o9, h⟩ := h
      refine zw_if_ne (pc := 18) (off := 5) (tgt := 23) (by decide +kernel) (by decide) o9 (fun hc => ?_) (fun hc => ?_)
      · replace h := h.1 hc
        obtain ⟨o10, o12, h⟩ := h
        refine zw_aload_n (pc := 23) (n := 0) (i := 0) 0 (by decide +kernel) rfl rfl ?_
        refine zx_getR (pc := 24) (o := 1) (r := 1) zf_10_14 (by decide +kernel) rfl zc_0 rfl (by decide) rfl ?_
        refine zx_getR (pc := 27) (o := 1) (r := 2) zf_10_103 (by decide +kernel) rfl zc_1 rfl (by decide) rfl ?_
        refine zw_iload_n (pc := 30) (n := 1) (i := 1) 1 (by decide +kernel) rfl rfl ?_
        have q11 : zS (7 + 2 * v1.toNat) 6 3 := zS_cast (zqe_14 (j := v1.toNat) zc_2 (by omega)) (by show 2 + 5 + 2 * v1.toNat = (7 + 2 * v1.toNat); omega)
        refine zx_aaload (pc := 31) (k := 14) (r := (7 + 2 * v1.toNat)) (by decide +kernel) (by decide) ⟨6, zc_2, o10.1, o10.2⟩ (by show 2 + 5 + 2 * v1.toNat = (7 + 2 * v1.toNat); omega) ?_
        refine zw_astore (pc := 32) (i := 4) (lv' := [(0, .ref 0), (1, .int (zJ v1)), (2, .int (zJ v2)), (3, .int (zJ v3)), (4, .ref (7 + 2 * v1.toNat))]) (by decide +kernel) (Nat.le_of_ble_eq_true rfl) rfl ?_
        refine zw_aload_n (pc := 34) (n := 0) (i := 0) 0 (by decide +kernel) rfl rfl ?_
        refine zx_getR (pc := 35) (o := 1) (r := 1) zf_10_14 (by decide +kernel) rfl zc_0 rfl (by decide) rfl ?_
        refine zx_getR (pc := 38) (o := 1) (r := 2) zf_10_103 (by decide +kernel) rfl zc_1 rfl (by decide) rfl ?_
        refine zw_iload_n (pc := 41) (n := 2) (i := 2) 2 (by decide +kernel) rfl rfl ?_
        have q13 : zS (7 + 2 * v2.toNat) 6 3 := zS_cast (zqe_14 (j := v2.toNat) zc_2 (by omega)) (by show 2 + 5 + 2 * v2.toNat = (7 + 2 * v2.toNat); omega)
        refine zx_aaload (pc := 42) (k := 14) (r := (7 + 2 * v2.toNat)) (by decide +kernel) (by decide) ⟨6, zc_2, o12.1, o12.2⟩ (by show 2 + 5 + 2 * v2.toNat = (7 + 2 * v2.toNat); omega) ?_
        refine zw_astore (pc := 43) (i := 5) (lv' := [(0, .ref 0), (1, .int (zJ v1)), (2, .int (zJ v2)), (3, .int (zJ v3)), (4, .ref (7 + 2 * v1.toNat)), (5, .ref (7 + 2 * v2.toNat))]) (by decide +kernel) (Nat.le_of_ble_eq_true rfl) rfl ?_
        refine zw_aload (pc := 45) (i := 4) 4 (by decide +kernel) rfl ?_
        refine zx_callV (pc := 47) (As := []) h zi_X6_isMissing zii_X6_isMissing zie_X6_isMissing zl_10_121 (by decide +kernel) ⟨Nat.le_of_ble_eq_true rfl, Nat.le_of_ble_eq_true rfl⟩ rfl q11 (by decide) rfl rfl ⟨rfl, rfl⟩ ⟨Nat.zero_le _, Nat.zero_le _⟩ (zki (fun x15 μ14 h => ?_))
        obtain ⟨o16, h⟩ := h
        refine zw_if_ne (pc := 50) (off := 11) (tgt := 61) (by decide +kernel) (by decide) o16 (fun hc => ?_) (fun hc => ?_)
        · replace h := h.1 hc
          refine zw_bipush (pc := 61) (n := (-11)) (by decide +kernel) (by decide +kernel) ?_
          exact zw_iret (pc := 63) (by decide +kernel) rfl (Nat.le_refl _) (Nat.le_refl _) ⟨_, _, rfl, rfl, h⟩
        · replace h := h.2 hc
          refine zw_aload (pc := 53) (i := 5) 5 (by decide +kernel) rfl ?_
          refine zx_callV (pc := 55) (As := []) h zi_X6_isMissing zii_X6_isMissing zie_X6_isMissing zl_10_121 (by decide +kernel) ⟨Nat.le_of_ble_eq_true rfl, Nat.le_of_ble_eq_true rfl⟩ rfl q13 (by decide) rfl rfl ⟨rfl, rfl⟩ ⟨Nat.zero_le _, Nat.zero_le _⟩ (zki (fun x18 μ17 h => ?_))
          obtain ⟨o19, h⟩ := h
          refine zw_if_eq (pc := 58) (off := 6) (tgt := 64) (by decide +kernel) (by decide) o19 (fun hc => ?_) (fun hc => ?_)
          · replace h := h.1 hc
            refine zw_aload (pc := 64) (i := 4) 4 (by decide +kernel) rfl ?_
            refine zx_getI (pc := 66) zf_10_134 (by decide +kernel) rfl q11 ?_
            refine zw_aload (pc := 69) (i := 5) 5 (by decide +kernel) rfl ?_
            refine zx_getI (pc := 71) zf_10_134 (by decide +kernel) rfl q13 ?_
            refine zw_iadd (pc := 74) (by decide +kernel) ?_
            refine zx_callS (pc := 75) (As := [.int (zJ ((μ17 (7 + 2 * v1.toNat) 1) + (μ17 (7 + 2 * v2.toNat) 1)))]) h zi_X10_isTooFar zis_X10_isTooFar zl_10_114 (by decide +kernel) ⟨Nat.le_of_ble_eq_true rfl, Nat.le_of_ble_eq_true rfl⟩ rfl rfl ⟨rfl, rfl⟩ ⟨Nat.zero_le _, Nat.zero_le _⟩ (zki (fun x21 μ20 h => ?_))
            obtain ⟨o22, h⟩ := h
            refine zw_if_eq (pc := 78) (off := 6) (tgt := 84) (by decide +kernel) (by decide) o22 (fun hc => ?_) (fun hc => ?_)
            · replace h := h.1 hc
              obtain ⟨o23, h⟩ := h
              refine zw_aload_n (pc := 84) (n := 0) (i := 0) 0 (by decide +kernel) rfl rfl ?_
              refine zx_getR (pc := 85) (o := 69) (r := 69) zf_10_24 (by decide +kernel) rfl zc_0 rfl (by decide) rfl ?_
              refine zw_aload (pc := 88) (i := 4) 4 (by decide +kernel) rfl ?_
              refine zw_aload (pc := 90) (i := 5) 5 (by decide +kernel) rfl ?_
              refine zw_aload_n (pc := 92) (n := 0) (i := 0) 0 (by decide +kernel) rfl rfl ?_
              refine zx_getR (pc := 93) (o := 1) (r := 1) zf_10_14 (by decide +kernel) rfl zc_0 rfl (by decide) rfl ?_
              refine zx_getR (pc := 96) (o := 1) (r := 2) zf_10_103 (by decide +kernel) rfl zc_1 rfl (by decide) rfl ?_
              refine zw_iload_n (pc := 99) (n := 3) (i := 3) 3 (by decide +kernel) rfl rfl ?_
              have q24 : zS (7 + 2 * v3.toNat) 6 3 := zS_cast (zqe_14 (j := v3.toNat) zc_2 (by omega)) (by show 2 + 5 + 2 * v3.toNat = (7 + 2 * v3.toNat); omega)
              refine zx_aaload (pc := 100) (k := 14) (r := (7 + 2 * v3.toNat)) (by decide +kernel) (by decide) ⟨6, zc_2, o23.1, o23.2⟩ (by show 2 + 5 + 2 * v3.toNat = (7 + 2 * v3.toNat); omega) ?_
              refine zw_aload_n (pc := 101) (n := 0) (i := 0) 0 (by decide +kernel) rfl rfl ?_
              refine zx_getR (pc := 102) (o := 1) (r := 1) zf_10_14 (by decide +kernel) rfl zc_0 rfl (by decide) rfl ?_
              refine zx_getI (pc := 105) zf_10_89 (by decide +kernel) rfl zc_1 ?_
              refine zx_callV (pc := 108) (As := [.ref (7 + 2 * v1.toNat), .ref (7 + 2 * v2.toNat), .ref (7 + 2 * v3.toNat), .int (zJ (μ20 1 0))]) h zi_X7_makeProduct zii_X7_makeProduct zie_X7_makeProduct zl_10_137 (by decide +kernel) ⟨Nat.le_of_ble_eq_true rfl, Nat.le_of_ble_eq_true rfl⟩ rfl zc_69 (by decide) rfl rfl ⟨rfl, rfl⟩ ⟨Nat.zero_le _, Nat.zero_le _⟩ (zkv (fun μ25 h => ?_))
              refine zw_aload_n (pc := 111) (n := 0) (i := 0) 0 (by decide +kernel) rfl rfl ?_
              refine zx_getR (pc := 112) (o := 1) (r := 1) zf_10_14 (by decide +kernel) rfl zc_0 rfl (by decide) rfl ?_
              refine zx_getR (pc := 115) (o := 1) (r := 2) zf_10_103 (by decide +kernel) rfl zc_1 rfl (by decide) rfl ?_
              refine zw_iload_n (pc := 118) (n := 3) (i := 3) 3 (by decide +kernel) rfl rfl ?_
              have q26 : zS (7 + 2 * v3.toNat) 6 3 := zS_cast (zqe_14 (j := v3.toNat) zc_2 (by omega)) (by show 2 + 5 + 2 * v3.toNat = (7 + 2 * v3.toNat); omega)
              refine zx_aaload (pc := 119) (k := 14) (r := (7 + 2 * v3.toNat)) (by decide +kernel) (by decide) ⟨6, zc_2, o23.1, o23.2⟩ (by show 2 + 5 + 2 * v3.toNat = (7 + 2 * v3.toNat); omega) ?_
              refine zx_getI (pc := 120) zf_10_131 (by decide +kernel) rfl q26 ?_
              exact zw_iret (pc := 123) (by decide +kernel) rfl (Nat.le_refl _) (Nat.le_refl _) ⟨_, _, rfl, rfl, h⟩
            · replace h := h.2 hc
              refine zw_bipush (pc := 81) (n := (-3)) (by decide +kernel) (by decide +kernel) ?_
              exact zw_iret (pc := 83) (by decide +kernel) rfl (Nat.le_refl _) (Nat.le_refl _) ⟨_, _, rfl, rfl, h⟩
          · replace h := h.2 hc
            refine zw_bipush (pc := 61) (n := (-11)) (by decide +kernel) (by decide +kernel) ?_
            exact zw_iret (pc := 63) (by decide +kernel) rfl (Nat.le_refl _) (Nat.le_refl _) ⟨_, _, rfl, rfl, h⟩
      · replace h := h.2 hc
        refine zw_iconst (pc := 21) (n := (-1)) (by decide +kernel) ?_
        exact zw_iret (pc := 22) (by decide +kernel) rfl (Nat.le_refl _) (Nat.le_refl _) ⟨_, _, rfl, rfl, h⟩
theorem sg_X10_stretch {g : zG} {φ : Int → zMu → Prop} {v1 : Int} {v2 : Int} {v3 : Int} {μ : zMu}
    (h : zOi g zm_X10_isSeries [.int (zJ v1)] μ (fun x2 μ1 => (zR x2) ∧ ((x2 = 0 → φ (-1) μ1) ∧ (¬ x2 = 0 → zOi g zm_X10_isSeries [.int (zJ v3)] μ1 (fun x5 μ4 => (zR x5) ∧ ((¬ x5 = 0 → (zR v2) ∧ ((v2 < 1 → φ (-2) μ4) ∧ (1 ≤ v2 → ((v2 ≤ 9 → (0 ≤ v1 ∧ v1 < 6) ∧ zOi g zm_X6_isMissing [.ref (7 + 2 * v1.toNat)] μ4 (fun x11 μ10 => (zR x11) ∧ ((x11 = 0 → zOi g zm_X10_isTooFar [.int (zJ ((μ10 (7 + 2 * v1.toNat) 1) * v2))] μ10 (fun x15 μ14 => (zR x15) ∧ ((x15 = 0 → (0 ≤ v3 ∧ v3 < 6) ∧ zOv g zm_X7_widen [.ref 69, .ref (7 + 2 * v1.toNat), .int (zJ v2), .ref (7 + 2 * v3.toNat)] μ14 (fun μ20 => φ (μ20 (7 + 2 * v3.toNat) 2) μ20)) ∧ (¬ x15 = 0 → φ (-3) μ14)))) ∧ (¬ x11 = 0 → φ (-11) μ10)))) ∧ (9 < v2 → φ (-2) μ4))))) ∧ (x5 = 0 → φ (-1) μ4))))))) : zOi g zm_X10_stretch [.ref 0, .int (zJ v1), .int (zJ v2), .int (zJ v3)] μ φ := by
  refine zok_of (by decide +kernel) rfl ?_
  show zWP g zm_X10_stretch (zmo g zm_X10_stretch (zΦi φ)) 0 [(0, .ref 0), (1, .int (zJ v1)), (2, .int (zJ v2)), (3, .int (zJ v3))] [] 0 0 (zw μ)
  refine zw_iload_n (pc := 0) (n := 1) (i := 1) 1 (by decide +kernel) rfl rfl ?_
  refine zx_callS (pc := 1) (As := [.int (zJ v1)]) h zi_X10_isSeries zis_X10_isSeries zl_10_100 (by decide +kernel) ⟨Nat.le_of_ble_eq_true rfl, Nat.le_of_ble_eq_true rfl⟩ rfl rfl ⟨rfl, rfl⟩ ⟨Nat.zero_le _, Nat.zero_le _⟩ (zki (fun x2 μ1 h => ?_))
  obtain ⟨o3, h⟩ := h
  refine zw_if_eq (pc := 4) (off := 10) (tgt := 14) (by decide +kernel) (by decide) o3 (fun hc => ?_) (fun hc => ?_)
  · replace h := h.1 hc
    refine zw_iconst (pc := 14) (n := (-1)) (by decide +kernel) ?_
    exact zw_iret (pc := 15) (by decide +kernel) rfl (Nat.le_refl _) (Nat.le_refl _) ⟨_, _, rfl, rfl, h⟩
  · replace h := h.2 hc
    refine zw_iload_n (pc := 7) (n := 3) (i := 3) 3 (by decide +kernel) rfl rfl ?_
    refine zx_callS (pc := 8) (As := [.int (zJ v3)]) h zi_X10_isSeries zis_X10_isSeries zl_10_100 (by decide +kernel) ⟨Nat.le_of_ble_eq_true rfl, Nat.le_of_ble_eq_true rfl⟩ rfl rfl ⟨rfl, rfl⟩ ⟨Nat.zero_le _, Nat.zero_le _⟩ (zki (fun x5 μ4 h => ?_))
    obtain ⟨o6, h⟩ := h
    refine zw_if_ne (pc := 11) (off := 5) (tgt := 16) (by decide +kernel) (by decide) o6 (fun hc => ?_) (fun hc => ?_)
    · replace h := h.1 hc
      obtain ⟨o7, h⟩ := h
      refine zw_iload_n (pc := 16) (n := 2) (i := 2) 2 (by decide +kernel) rfl rfl ?_
      refine zw_iconst (pc := 17) (n := 1) (by decide +kernel) ?_
      refine zw_icmp_lt (pc := 18) (off := 9) (tgt := 27) (by decide +kernel) (by decide) o7 ⟨by decide, by decide⟩ (fun hc => ?_) (fun hc => ?_)
      · replace h := h.1 hc
        refine zw_bipush (pc := 27) (n := (-2)) (by decide +kernel) (by decide +kernel) ?_
        exact zw_iret (pc := 29) (by decide +kernel) rfl (Nat.le_refl _) (Nat.le_refl _) ⟨_, _, rfl, rfl, h⟩
      · replace h := h.2 hc
        refine zw_iload_n (pc := 21) (n := 2) (i := 2) 2 (by decide +kernel) rfl rfl ?_
        refine zw_bipush (pc := 22) (n := 9) (by decide +kernel) (by decide +kernel) ?_
        refine zw_icmp_le (pc := 24) (off := 6) (tgt := 30) (by decide +kernel) (by decide) o7 ⟨by decide, by decide⟩ (fun hc => ?_) (fun hc => ?_)
        · replace h := h.1 hc
          obtain ⟨o8, h⟩ := h
          refine zw_aload_n (pc := 30) (n := 0) (i := 0) 0 (by decide +kernel) rfl rfl ?_
          refine zx_getR (pc := 31) (o := 1) (r := 1) zf_10_14 (by decide +kernel) rfl zc_0 rfl (by decide) rfl ?_
          refine zx_getR (pc := 34) (o := 1) (r := 2) zf_10_103 (by decide +kernel) rfl zc_1 rfl (by decide) rfl ?_
          refine zw_iload_n (pc := 37) (n := 1) (i := 1) 1 (by decide +kernel) rfl rfl ?_
          have q9 : zS (7 + 2 * v1.toNat) 6 3 := zS_cast (zqe_14 (j := v1.toNat) zc_2 (by omega)) (by show 2 + 5 + 2 * v1.toNat = (7 + 2 * v1.toNat); omega)
          refine zx_aaload (pc := 38) (k := 14) (r := (7 + 2 * v1.toNat)) (by decide +kernel) (by decide) ⟨6, zc_2, o8.1, o8.2⟩ (by show 2 + 5 + 2 * v1.toNat = (7 + 2 * v1.toNat); omega) ?_
          refine zx_callV (pc := 39) (As := []) h zi_X6_isMissing zii_X6_isMissing zie_X6_isMissing zl_10_121 (by decide +kernel) ⟨Nat.le_of_ble_eq_true rfl, Nat.le_of_ble_eq_true rfl⟩ rfl q9 (by decide) rfl rfl ⟨rfl, rfl⟩ ⟨Nat.zero_le _, Nat.zero_le _⟩ (zki (fun x11 μ10 h => ?_))
          obtain ⟨o12, h⟩ := h
          refine zw_if_eq (pc := 42) (off := 6) (tgt := 48) (by decide +kernel) (by decide) o12 (fun hc => ?_) (fun hc => ?_)
          · replace h := h.1 hc
            refine zw_aload_n (pc := 48) (n := 0) (i := 0) 0 (by decide +kernel) rfl rfl ?_
            refine zx_getR (pc := 49) (o := 1) (r := 1) zf_10_14 (by decide +kernel) rfl zc_0 rfl (by decide) rfl ?_
            refine zx_getR (pc := 52) (o := 1) (r := 2) zf_10_103 (by decide +kernel) rfl zc_1 rfl (by decide) rfl ?_
            refine zw_iload_n (pc := 55) (n := 1) (i := 1) 1 (by decide +kernel) rfl rfl ?_
            have q13 : zS (7 + 2 * v1.toNat) 6 3 := zS_cast (zqe_14 (j := v1.toNat) zc_2 (by omega)) (by show 2 + 5 + 2 * v1.toNat = (7 + 2 * v1.toNat); omega)
            refine zx_aaload (pc := 56) (k := 14) (r := (7 + 2 * v1.toNat)) (by decide +kernel) (by decide) ⟨6, zc_2, o8.1, o8.2⟩ (by show 2 + 5 + 2 * v1.toNat = (7 + 2 * v1.toNat); omega) ?_
            refine zx_getI (pc := 57) zf_10_134 (by decide +kernel) rfl q13 ?_
            refine zw_iload_n (pc := 60) (n := 2) (i := 2) 2 (by decide +kernel) rfl rfl ?_
            refine zw_imul (pc := 61) (by decide +kernel) ?_
            refine zx_callS (pc := 62) (As := [.int (zJ ((μ10 (7 + 2 * v1.toNat) 1) * v2))]) h zi_X10_isTooFar zis_X10_isTooFar zl_10_114 (by decide +kernel) ⟨Nat.le_of_ble_eq_true rfl, Nat.le_of_ble_eq_true rfl⟩ rfl rfl ⟨rfl, rfl⟩ ⟨Nat.zero_le _, Nat.zero_le _⟩ (zki (fun x15 μ14 h => ?_))
            obtain ⟨o16, h⟩ := h
            refine zw_if_eq (pc := 65) (off := 6) (tgt := 71) (by decide +kernel) (by decide) o16 (fun hc => ?_) (fun hc => ?_)
            · replace h := h.1 hc
              obtain ⟨o18, h⟩ := h
              refine zw_aload_n (pc := 71) (n := 0) (i := 0) 0 (by decide +kernel) rfl rfl ?_
              refine zx_getR (pc := 72) (o := 69) (r := 69) zf_10_24 (by decide +kernel) rfl zc_0 rfl (by decide) rfl ?_
              refine zw_aload_n (pc := 75) (n := 0) (i := 0) 0 (by decide +kernel) rfl rfl ?_
              refine zx_getR (pc := 76) (o := 1) (r := 1) zf_10_14 (by decide +kernel) rfl zc_0 rfl (by decide) rfl ?_
              refine zx_getR (pc := 79) (o := 1) (r := 2) zf_10_103 (by decide +kernel) rfl zc_1 rfl (by decide) rfl ?_
              refine zw_iload_n (pc := 82) (n := 1) (i := 1) 1 (by decide +kernel) rfl rfl ?_
              have q17 : zS (7 + 2 * v1.toNat) 6 3 := zS_cast (zqe_14 (j := v1.toNat) zc_2 (by omega)) (by show 2 + 5 + 2 * v1.toNat = (7 + 2 * v1.toNat); omega)
              refine zx_aaload (pc := 83) (k := 14) (r := (7 + 2 * v1.toNat)) (by decide +kernel) (by decide) ⟨6, zc_2, o8.1, o8.2⟩ (by show 2 + 5 + 2 * v1.toNat = (7 + 2 * v1.toNat); omega) ?_
              refine zw_iload_n (pc := 84) (n := 2) (i := 2) 2 (by decide +kernel) rfl rfl ?_
              refine zw_aload_n (pc := 85) (n := 0) (i := 0) 0 (by decide +kernel) rfl rfl ?_
              refine zx_getR (pc := 86) (o := 1) (r := 1) zf_10_14 (by decide +kernel) rfl zc_0 rfl (by decide) rfl ?_
              refine zx_getR (pc := 89) (o := 1) (r := 2) zf_10_103 (by decide +kernel) rfl zc_1 rfl (by decide) rfl ?_
              refine zw_iload_n (pc := 92) (n := 3) (i := 3) 3 (by decide +kernel) rfl rfl ?_
              have q19 : zS (7 + 2 * v3.toNat) 6 3 := zS_cast (zqe_14 (j := v3.toNat) zc_2 (by omega)) (by show 2 + 5 + 2 * v3.toNat = (7 + 2 * v3.toNat); omega)
              refine zx_aaload (pc := 93) (k := 14) (r := (7 + 2 * v3.toNat)) (by decide +kernel) (by decide) ⟨6, zc_2, o18.1, o18.2⟩ (by show 2 + 5 + 2 * v3.toNat = (7 + 2 * v3.toNat); omega) ?_
              refine zx_callV (pc := 94) (As := [.ref (7 + 2 * v1.toNat), .int (zJ v2), .ref (7 + 2 * v3.toNat)]) h zi_X7_widen zii_X7_widen zie_X7_widen zl_10_140 (by decide +kernel) ⟨Nat.le_of_ble_eq_true rfl, Nat.le_of_ble_eq_true rfl⟩ rfl zc_69 (by decide) rfl rfl ⟨rfl, rfl⟩ ⟨Nat.zero_le _, Nat.zero_le _⟩ (zkv (fun μ20 h => ?_))
              refine zw_aload_n (pc := 97) (n := 0) (i := 0) 0 (by decide +kernel) rfl rfl ?_
              refine zx_getR (pc := 98) (o := 1) (r := 1) zf_10_14 (by decide +kernel) rfl zc_0 rfl (by decide) rfl ?_
              refine zx_getR (pc := 101) (o := 1) (r := 2) zf_10_103 (by decide +kernel) rfl zc_1 rfl (by decide) rfl ?_
              refine zw_iload_n (pc := 104) (n := 3) (i := 3) 3 (by decide +kernel) rfl rfl ?_
              have q21 : zS (7 + 2 * v3.toNat) 6 3 := zS_cast (zqe_14 (j := v3.toNat) zc_2 (by omega)) (by show 2 + 5 + 2 * v3.toNat = (7 + 2 * v3.toNat); omega)
              refine zx_aaload (pc := 105) (k := 14) (r := (7 + 2 * v3.toNat)) (by decide +kernel) (by decide) ⟨6, zc_2, o18.1, o18.2⟩ (by show 2 + 5 + 2 * v3.toNat = (7 + 2 * v3.toNat); omega) ?_
              refine zx_getI (pc := 106) zf_10_131 (by decide +kernel) rfl q21 ?_
              exact zw_iret (pc := 109) (by decide +kernel) rfl (Nat.le_refl _) (Nat.le_refl _) ⟨_, _, rfl, rfl, h⟩
            · replace h := h.2 hc
              refine zw_bipush (pc := 68) (n := (-3)) (by decide +kernel) (by decide +kernel) ?_
              exact zw_iret (pc := 70) (by decide +kernel) rfl (Nat.le_refl _) (Nat.le_refl _) ⟨_, _, rfl, rfl, h⟩
          · replace h := h.2 hc
            refine zw_bipush (pc := 45) (n := (-11)) (by decide +kernel) (by decide +kernel) ?_
            exact zw_iret (pc := 47) (by decide +kernel) rfl (Nat.le_refl _) (Nat.le_refl _) ⟨_, _, rfl, rfl, h⟩
        · replace h := h.2 hc
          refine zw_bipush (pc := 27) (n := (-2)) (by decide +kernel) (by decide +kernel) ?_
          exact zw_iret (pc := 29) (by decide +kernel) rfl (Nat.le_refl _) (Nat.le_refl _) ⟨_, _, rfl, rfl, h⟩
    · replace h := h.2 hc
      refine zw_iconst (pc := 14) (n := (-1)) (by decide +kernel) ?_
      exact zw_iret (pc := 15) (by decide +kernel) rfl (Nat.le_refl _) (Nat.le_refl _) ⟨_, _, rfl, rfl, h⟩
theorem sg_X10_over {g : zG} {φ : Int → zMu → Prop} {v1 : Int} {v2 : Int} {μ : zMu}
    (h : zOi g zm_X10_isSeries [.int (zJ v1)] μ (fun x2 μ1 => (zR x2) ∧ ((x2 = 0 → φ (-1) μ1) ∧ (¬ x2 = 0 → zOi g zm_X10_isSeries [.int (zJ v2)] μ1 (fun x5 μ4 => (zR x5) ∧ ((¬ x5 = 0 → (0 ≤ v1 ∧ v1 < 6) ∧ zOi g zm_X6_isMissing [.ref (7 + 2 * v1.toNat)] μ4 (fun x10 μ9 => (zR x10) ∧ ((x10 = 0 → (zR (μ9 ((7 + 2 * v1.toNat) + 1) 0)) ∧ ((¬ (μ9 ((7 + 2 * v1.toNat) + 1) 0) = 0 → (0 ≤ v2 ∧ v2 < 6) ∧ zOv g zm_X7_makeReciprocal [.ref 69, .ref (7 + 2 * v1.toNat), .ref (7 + 2 * v2.toNat), .int (zJ (μ9 1 0))] μ9 (fun μ18 => φ (μ18 (7 + 2 * v2.toNat) 2) μ18)) ∧ ((μ9 ((7 + 2 * v1.toNat) + 1) 0) = 0 → φ (-3) μ9))) ∧ (¬ x10 = 0 → φ (-11) μ9)))) ∧ (x5 = 0 → φ (-1) μ4))))))) : zOi g zm_X10_over [.ref 0, .int (zJ v1), .int (zJ v2)] μ φ := by
  refine zok_of (by decide +kernel) rfl ?_
  show zWP g zm_X10_over (zmo g zm_X10_over (zΦi φ)) 0 [(0, .ref 0), (1, .int (zJ v1)), (2, .int (zJ v2))] [] 0 0 (zw μ)
  refine zw_iload_n (pc := 0) (n := 1) (i := 1) 1 (by decide +kernel) rfl rfl ?_
  refine zx_callS (pc := 1) (As := [.int (zJ v1)]) h zi_X10_isSeries zis_X10_isSeries zl_10_100 (by decide +kernel) ⟨Nat.le_of_ble_eq_true rfl, Nat.le_of_ble_eq_true rfl⟩ rfl rfl ⟨rfl, rfl⟩ ⟨Nat.zero_le _, Nat.zero_le _⟩ (zki (fun x2 μ1 h => ?_))
  obtain ⟨o3, h⟩ := h
  refine zw_if_eq (pc := 4) (off := 10) (tgt := 14) (by decide +kernel) (by decide) o3 (fun hc => ?_) (fun hc => ?_)
  · replace h := h.1 hc
    refine zw_iconst (pc := 14) (n := (-1)) (by decide +kernel) ?_
    exact zw_iret (pc := 15) (by decide +kernel) rfl (Nat.le_refl _) (Nat.le_refl _) ⟨_, _, rfl, rfl, h⟩
  · replace h := h.2 hc
    refine zw_iload_n (pc := 7) (n := 2) (i := 2) 2 (by decide +kernel) rfl rfl ?_
    refine zx_callS (pc := 8) (As := [.int (zJ v2)]) h zi_X10_isSeries zis_X10_isSeries zl_10_100 (by decide +kernel) ⟨Nat.le_of_ble_eq_true rfl, Nat.le_of_ble_eq_true rfl⟩ rfl rfl ⟨rfl, rfl⟩ ⟨Nat.zero_le _, Nat.zero_le _⟩ (zki (fun x5 μ4 h => ?_))
    obtain ⟨o6, h⟩ := h
    refine zw_if_ne (pc := 11) (off := 5) (tgt := 16) (by decide +kernel) (by decide) o6 (fun hc => ?_) (fun hc => ?_)
    · replace h := h.1 hc
      obtain ⟨o7, h⟩ := h
      refine zw_aload_n (pc := 16) (n := 0) (i := 0) 0 (by decide +kernel) rfl rfl ?_
      refine zx_getR (pc := 17) (o := 1) (r := 1) zf_10_14 (by decide +kernel) rfl zc_0 rfl (by decide) rfl ?_
      refine zx_getR (pc := 20) (o := 1) (r := 2) zf_10_103 (by decide +kernel) rfl zc_1 rfl (by decide) rfl ?_
      refine zw_iload_n (pc := 23) (n := 1) (i := 1) 1 (by decide +kernel) rfl rfl ?_
      have q8 : zS (7 + 2 * v1.toNat) 6 3 := zS_cast (zqe_14 (j := v1.toNat) zc_2 (by omega)) (by show 2 + 5 + 2 * v1.toNat = (7 + 2 * v1.toNat); omega)
      refine zx_aaload (pc := 24) (k := 14) (r := (7 + 2 * v1.toNat)) (by decide +kernel) (by decide) ⟨6, zc_2, o7.1, o7.2⟩ (by show 2 + 5 + 2 * v1.toNat = (7 + 2 * v1.toNat); omega) ?_
      refine zx_callV (pc := 25) (As := []) h zi_X6_isMissing zii_X6_isMissing zie_X6_isMissing zl_10_121 (by decide +kernel) ⟨Nat.le_of_ble_eq_true rfl, Nat.le_of_ble_eq_true rfl⟩ rfl q8 (by decide) rfl rfl ⟨rfl, rfl⟩ ⟨Nat.zero_le _, Nat.zero_le _⟩ (zki (fun x10 μ9 h => ?_))
      obtain ⟨o11, h⟩ := h
      refine zw_if_eq (pc := 28) (off := 6) (tgt := 34) (by decide +kernel) (by decide) o11 (fun hc => ?_) (fun hc => ?_)
      · replace h := h.1 hc
        obtain ⟨o14, h⟩ := h
        refine zw_aload_n (pc := 34) (n := 0) (i := 0) 0 (by decide +kernel) rfl rfl ?_
        refine zx_getR (pc := 35) (o := 1) (r := 1) zf_10_14 (by decide +kernel) rfl zc_0 rfl (by decide) rfl ?_
        refine zx_getR (pc := 38) (o := 1) (r := 2) zf_10_103 (by decide +kernel) rfl zc_1 rfl (by decide) rfl ?_
        refine zw_iload_n (pc := 41) (n := 1) (i := 1) 1 (by decide +kernel) rfl rfl ?_
        have q12 : zS (7 + 2 * v1.toNat) 6 3 := zS_cast (zqe_14 (j := v1.toNat) zc_2 (by omega)) (by show 2 + 5 + 2 * v1.toNat = (7 + 2 * v1.toNat); omega)
        refine zx_aaload (pc := 42) (k := 14) (r := (7 + 2 * v1.toNat)) (by decide +kernel) (by decide) ⟨6, zc_2, o7.1, o7.2⟩ (by show 2 + 5 + 2 * v1.toNat = (7 + 2 * v1.toNat); omega) ?_
        have q13 : zS ((7 + 2 * v1.toNat) + 1) 12 80 := zq 0 q12 rfl
        refine zx_getR (pc := 43) (o := 1) (r := ((7 + 2 * v1.toNat) + 1)) zf_10_144 (by decide +kernel) rfl q12 rfl (by decide) rfl ?_
        refine zw_iconst (pc := 46) (n := 0) (by decide +kernel) ?_
        refine zx_iaload (pc := 47) (by decide +kernel) ⟨80, q13, by decide, by decide⟩ ?_
        refine zw_if_ne (pc := 48) (off := 6) (tgt := 54) (by decide +kernel) (by decide) o14 (fun hc => ?_) (fun hc => ?_)
        · replace h := h.1 hc
          obtain ⟨o16, h⟩ := h
          refine zw_aload_n (pc := 54) (n := 0) (i := 0) 0 (by decide +kernel) rfl rfl ?_
          refine zx_getR (pc := 55) (o := 69) (r := 69) zf_10_24 (by decide +kernel) rfl zc_0 rfl (by decide) rfl ?_
          refine zw_aload_n (pc := 58) (n := 0) (i := 0) 0 (by decide +kernel) rfl rfl ?_
          refine zx_getR (pc := 59) (o := 1) (r := 1) zf_10_14 (by decide +kernel) rfl zc_0 rfl (by decide) rfl ?_
          refine zx_getR (pc := 62) (o := 1) (r := 2) zf_10_103 (by decide +kernel) rfl zc_1 rfl (by decide) rfl ?_
          refine zw_iload_n (pc := 65) (n := 1) (i := 1) 1 (by decide +kernel) rfl rfl ?_
          have q15 : zS (7 + 2 * v1.toNat) 6 3 := zS_cast (zqe_14 (j := v1.toNat) zc_2 (by omega)) (by show 2 + 5 + 2 * v1.toNat = (7 + 2 * v1.toNat); omega)
          refine zx_aaload (pc := 66) (k := 14) (r := (7 + 2 * v1.toNat)) (by decide +kernel) (by decide) ⟨6, zc_2, o7.1, o7.2⟩ (by show 2 + 5 + 2 * v1.toNat = (7 + 2 * v1.toNat); omega) ?_
          refine zw_aload_n (pc := 67) (n := 0) (i := 0) 0 (by decide +kernel) rfl rfl ?_
          refine zx_getR (pc := 68) (o := 1) (r := 1) zf_10_14 (by decide +kernel) rfl zc_0 rfl (by decide) rfl ?_
          refine zx_getR (pc := 71) (o := 1) (r := 2) zf_10_103 (by decide +kernel) rfl zc_1 rfl (by decide) rfl ?_
          refine zw_iload_n (pc := 74) (n := 2) (i := 2) 2 (by decide +kernel) rfl rfl ?_
          have q17 : zS (7 + 2 * v2.toNat) 6 3 := zS_cast (zqe_14 (j := v2.toNat) zc_2 (by omega)) (by show 2 + 5 + 2 * v2.toNat = (7 + 2 * v2.toNat); omega)
          refine zx_aaload (pc := 75) (k := 14) (r := (7 + 2 * v2.toNat)) (by decide +kernel) (by decide) ⟨6, zc_2, o16.1, o16.2⟩ (by show 2 + 5 + 2 * v2.toNat = (7 + 2 * v2.toNat); omega) ?_
          refine zw_aload_n (pc := 76) (n := 0) (i := 0) 0 (by decide +kernel) rfl rfl ?_
          refine zx_getR (pc := 77) (o := 1) (r := 1) zf_10_14 (by decide +kernel) rfl zc_0 rfl (by decide) rfl ?_
          refine zx_getI (pc := 80) zf_10_89 (by decide +kernel) rfl zc_1 ?_
          refine zx_callV (pc := 83) (As := [.ref (7 + 2 * v1.toNat), .ref (7 + 2 * v2.toNat), .int (zJ (μ9 1 0))]) h zi_X7_makeReciprocal zii_X7_makeReciprocal zie_X7_makeReciprocal zl_10_147 (by decide +kernel) ⟨Nat.le_of_ble_eq_true rfl, Nat.le_of_ble_eq_true rfl⟩ rfl zc_69 (by decide) rfl rfl ⟨rfl, rfl⟩ ⟨Nat.zero_le _, Nat.zero_le _⟩ (zkv (fun μ18 h => ?_))
          refine zw_aload_n (pc := 86) (n := 0) (i := 0) 0 (by decide +kernel) rfl rfl ?_
          refine zx_getR (pc := 87) (o := 1) (r := 1) zf_10_14 (by decide +kernel) rfl zc_0 rfl (by decide) rfl ?_
          refine zx_getR (pc := 90) (o := 1) (r := 2) zf_10_103 (by decide +kernel) rfl zc_1 rfl (by decide) rfl ?_
          refine zw_iload_n (pc := 93) (n := 2) (i := 2) 2 (by decide +kernel) rfl rfl ?_
          have q19 : zS (7 + 2 * v2.toNat) 6 3 := zS_cast (zqe_14 (j := v2.toNat) zc_2 (by omega)) (by show 2 + 5 + 2 * v2.toNat = (7 + 2 * v2.toNat); omega)
          refine zx_aaload (pc := 94) (k := 14) (r := (7 + 2 * v2.toNat)) (by decide +kernel) (by decide) ⟨6, zc_2, o16.1, o16.2⟩ (by show 2 + 5 + 2 * v2.toNat = (7 + 2 * v2.toNat); omega) ?_
          refine zx_getI (pc := 95) zf_10_131 (by decide +kernel) rfl q19 ?_
          exact zw_iret (pc := 98) (by decide +kernel) rfl (Nat.le_refl _) (Nat.le_refl _) ⟨_, _, rfl, rfl, h⟩
        · replace h := h.2 hc
          refine zw_bipush (pc := 51) (n := (-3)) (by decide +kernel) (by decide +kernel) ?_
          exact zw_iret (pc := 53) (by decide +kernel) rfl (Nat.le_refl _) (Nat.le_refl _) ⟨_, _, rfl, rfl, h⟩
      · replace h := h.2 hc
        refine zw_bipush (pc := 31) (n := (-11)) (by decide +kernel) (by decide +kernel) ?_
        exact zw_iret (pc := 33) (by decide +kernel) rfl (Nat.le_refl _) (Nat.le_refl _) ⟨_, _, rfl, rfl, h⟩
    · replace h := h.2 hc
      refine zw_iconst (pc := 14) (n := (-1)) (by decide +kernel) ?_
      exact zw_iret (pc := 15) (by decide +kernel) rfl (Nat.le_refl _) (Nat.le_refl _) ⟨_, _, rfl, rfl, h⟩
theorem sg_X10_power {g : zG} {φ : Int → zMu → Prop} {v1 : Int} {v2 : Int} {v3 : Int} {μ : zMu}
    (h : zOi g zm_X10_isSeries [.int (zJ v1)] μ (fun x2 μ1 => (zR x2) ∧ ((x2 = 0 → φ (-1) μ1) ∧ (¬ x2 = 0 → zOi g zm_X10_isSeries [.int (zJ v3)] μ1 (fun x5 μ4 => (zR x5) ∧ ((¬ x5 = 0 → (zR v2) ∧ ((v2 < 0 → φ (-2) μ4) ∧ (0 ≤ v2 → ((v2 ≤ 9 → (0 ≤ v1 ∧ v1 < 6) ∧ zOi g zm_X6_isMissing [.ref (7 + 2 * v1.toNat)] μ4 (fun x11 μ10 => (zR x11) ∧ ((x11 = 0 → zOi g zm_X10_isTooFar [.int (zJ ((μ10 (7 + 2 * v1.toNat) 1) * v2))] μ10 (fun x15 μ14 => (zR x15) ∧ ((x15 = 0 → (0 ≤ v3 ∧ v3 < 6) ∧ zOv g zm_X7_makePower [.ref 69, .ref (7 + 2 * v1.toNat), .int (zJ v2), .ref (7 + 2 * v3.toNat), .int (zJ (μ14 1 0))] μ14 (fun μ20 => φ (μ20 (7 + 2 * v3.toNat) 2) μ20)) ∧ (¬ x15 = 0 → φ (-3) μ14)))) ∧ (¬ x11 = 0 → φ (-11) μ10)))) ∧ (9 < v2 → φ (-2) μ4))))) ∧ (x5 = 0 → φ (-1) μ4))))))) : zOi g zm_X10_power [.ref 0, .int (zJ v1), .int (zJ v2), .int (zJ v3)] μ φ := by
  refine zok_of (by decide +kernel) rfl ?_
  show zWP g zm_X10_power (zmo g zm_X10_power (zΦi φ)) 0 [(0, .ref 0), (1, .int (zJ v1)), (2, .int (zJ v2)), (3, .int (zJ v3))] [] 0 0 (zw μ)
  refine zw_iload_n (pc := 0) (n := 1) (i := 1) 1 (by decide +kernel) rfl rfl ?_
  refine zx_callS (pc := 1) (As := [.int (zJ v1)]) h zi_X10_isSeries zis_X10_isSeries zl_10_100 (by decide +kernel) ⟨Nat.le_of_ble_eq_true rfl, Nat.le_of_ble_eq_true rfl⟩ rfl rfl ⟨rfl, rfl⟩ ⟨Nat.zero_le _, Nat.zero_le _⟩ (zki (fun x2 μ1 h => ?_))
  obtain ⟨o3, h⟩ := h
  refine zw_if_eq (pc := 4) (off := 10) (tgt := 14) (by decide +kernel) (by decide) o3 (fun hc => ?_) (fun hc => ?_)
  · replace h := h.1 hc
    refine zw_iconst (pc := 14) (n := (-1)) (by decide +kernel) ?_
    exact zw_iret (pc := 15) (by decide +kernel) rfl (Nat.le_refl _) (Nat.le_refl _) ⟨_, _, rfl, rfl, h⟩
  · replace h := h.2 hc
    refine zw_iload_n (pc := 7) (n := 3) (i := 3) 3 (by decide +kernel) rfl rfl ?_
    refine zx_callS (pc := 8) (As := [.int (zJ v3)]) h zi_X10_isSeries zis_X10_isSeries zl_10_100 (by decide +kernel) ⟨Nat.le_of_ble_eq_true rfl, Nat.le_of_ble_eq_true rfl⟩ rfl rfl ⟨rfl, rfl⟩ ⟨Nat.zero_le _, Nat.zero_le _⟩ (zki (fun x5 μ4 h => ?_))
    obtain ⟨o6, h⟩ := h
    refine zw_if_ne (pc := 11) (off := 5) (tgt := 16) (by decide +kernel) (by decide) o6 (fun hc => ?_) (fun hc => ?_)
    · replace h := h.1 hc
      obtain ⟨o7, h⟩ := h
      refine zw_iload_n (pc := 16) (n := 2) (i := 2) 2 (by decide +kernel) rfl rfl ?_
      refine zw_if_lt (pc := 17) (off := 9) (tgt := 26) (by decide +kernel) (by decide) o7 (fun hc => ?_) (fun hc => ?_)
      · replace h := h.1 hc
        refine zw_bipush (pc := 26) (n := (-2)) (by decide +kernel) (by decide +kernel) ?_
        exact zw_iret (pc := 28) (by decide +kernel) rfl (Nat.le_refl _) (Nat.le_refl _) ⟨_, _, rfl, rfl, h⟩
      · replace h := h.2 hc
        refine zw_iload_n (pc := 20) (n := 2) (i := 2) 2 (by decide +kernel) rfl rfl ?_
        refine zw_bipush (pc := 21) (n := 9) (by decide +kernel) (by decide +kernel) ?_
        refine zw_icmp_le (pc := 23) (off := 6) (tgt := 29) (by decide +kernel) (by decide) o7 ⟨by decide, by decide⟩ (fun hc => ?_) (fun hc => ?_)
        · replace h := h.1 hc
          obtain ⟨o8, h⟩ := h
          refine zw_aload_n (pc := 29) (n := 0) (i := 0) 0 (by decide +kernel) rfl rfl ?_
          refine zx_getR (pc := 30) (o := 1) (r := 1) zf_10_14 (by decide +kernel) rfl zc_0 rfl (by decide) rfl ?_
          refine zx_getR (pc := 33) (o := 1) (r := 2) zf_10_103 (by decide +kernel) rfl zc_1 rfl (by decide) rfl ?_
          refine zw_iload_n (pc := 36) (n := 1) (i := 1) 1 (by decide +kernel) rfl rfl ?_
          have q9 : zS (7 + 2 * v1.toNat) 6 3 := zS_cast (zqe_14 (j := v1.toNat) zc_2 (by omega)) (by show 2 + 5 + 2 * v1.toNat = (7 + 2 * v1.toNat); omega)
          refine zx_aaload (pc := 37) (k := 14) (r := (7 + 2 * v1.toNat)) (by decide +kernel) (by decide) ⟨6, zc_2, o8.1, o8.2⟩ (by show 2 + 5 + 2 * v1.toNat = (7 + 2 * v1.toNat); omega) ?_
          refine zx_callV (pc := 38) (As := []) h zi_X6_isMissing zii_X6_isMissing zie_X6_isMissing zl_10_121 (by decide +kernel) ⟨Nat.le_of_ble_eq_true rfl, Nat.le_of_ble_eq_true rfl⟩ rfl q9 (by decide) rfl rfl ⟨rfl, rfl⟩ ⟨Nat.zero_le _, Nat.zero_le _⟩ (zki (fun x11 μ10 h => ?_))
          obtain ⟨o12, h⟩ := h
          refine zw_if_eq (pc := 41) (off := 6) (tgt := 47) (by decide +kernel) (by decide) o12 (fun hc => ?_) (fun hc => ?_)
          · replace h := h.1 hc
            refine zw_aload_n (pc := 47) (n := 0) (i := 0) 0 (by decide +kernel) rfl rfl ?_
            refine zx_getR (pc := 48) (o := 1) (r := 1) zf_10_14 (by decide +kernel) rfl zc_0 rfl (by decide) rfl ?_
            refine zx_getR (pc := 51) (o := 1) (r := 2) zf_10_103 (by decide +kernel) rfl zc_1 rfl (by decide) rfl ?_
            refine zw_iload_n (pc := 54) (n := 1) (i := 1) 1 (by decide +kernel) rfl rfl ?_
            have q13 : zS (7 + 2 * v1.toNat) 6 3 := zS_cast (zqe_14 (j := v1.toNat) zc_2 (by omega)) (by show 2 + 5 + 2 * v1.toNat = (7 + 2 * v1.toNat); omega)
            refine zx_aaload (pc := 55) (k := 14) (r := (7 + 2 * v1.toNat)) (by decide +kernel) (by decide) ⟨6, zc_2, o8.1, o8.2⟩ (by show 2 + 5 + 2 * v1.toNat = (7 + 2 * v1.toNat); omega) ?_
            refine zx_getI (pc := 56) zf_10_134 (by decide +kernel) rfl q13 ?_
            refine zw_iload_n (pc := 59) (n := 2) (i := 2) 2 (by decide +kernel) rfl rfl ?_
            refine zw_imul (pc := 60) (by decide +kernel) ?_
            refine zx_callS (pc := 61) (As := [.int (zJ ((μ10 (7 + 2 * v1.toNat) 1) * v2))]) h zi_X10_isTooFar zis_X10_isTooFar zl_10_114 (by decide +kernel) ⟨Nat.le_of_ble_eq_true rfl, Nat.le_of_ble_eq_true rfl⟩ rfl rfl ⟨rfl, rfl⟩ ⟨Nat.zero_le _, Nat.zero_le _⟩ (zki (fun x15 μ14 h => ?_))
            obtain ⟨o16, h⟩ := h
            refine zw_if_eq (pc := 64) (off := 6) (tgt := 70) (by decide +kernel) (by decide) o16 (fun hc => ?_) (fun hc => ?_)
            · replace h := h.1 hc
              obtain ⟨o18, h⟩ := h
              refine zw_aload_n (pc := 70) (n := 0) (i := 0) 0 (by decide +kernel) rfl rfl ?_
              refine zx_getR (pc := 71) (o := 69) (r := 69) zf_10_24 (by decide +kernel) rfl zc_0 rfl (by decide) rfl ?_
              refine zw_aload_n (pc := 74) (n := 0) (i := 0) 0 (by decide +kernel) rfl rfl ?_
              refine zx_getR (pc := 75) (o := 1) (r := 1) zf_10_14 (by decide +kernel) rfl zc_0 rfl (by decide) rfl ?_
              refine zx_getR (pc := 78) (o := 1) (r := 2) zf_10_103 (by decide +kernel) rfl zc_1 rfl (by decide) rfl ?_
              refine zw_iload_n (pc := 81) (n := 1) (i := 1) 1 (by decide +kernel) rfl rfl ?_
              have q17 : zS (7 + 2 * v1.toNat) 6 3 := zS_cast (zqe_14 (j := v1.toNat) zc_2 (by omega)) (by show 2 + 5 + 2 * v1.toNat = (7 + 2 * v1.toNat); omega)
              refine zx_aaload (pc := 82) (k := 14) (r := (7 + 2 * v1.toNat)) (by decide +kernel) (by decide) ⟨6, zc_2, o8.1, o8.2⟩ (by show 2 + 5 + 2 * v1.toNat = (7 + 2 * v1.toNat); omega) ?_
              refine zw_iload_n (pc := 83) (n := 2) (i := 2) 2 (by decide +kernel) rfl rfl ?_
              refine zw_aload_n (pc := 84) (n := 0) (i := 0) 0 (by decide +kernel) rfl rfl ?_
              refine zx_getR (pc := 85) (o := 1) (r := 1) zf_10_14 (by decide +kernel) rfl zc_0 rfl (by decide) rfl ?_
              refine zx_getR (pc := 88) (o := 1) (r := 2) zf_10_103 (by decide +kernel) rfl zc_1 rfl (by decide) rfl ?_
              refine zw_iload_n (pc := 91) (n := 3) (i := 3) 3 (by decide +kernel) rfl rfl ?_
              have q19 : zS (7 + 2 * v3.toNat) 6 3 := zS_cast (zqe_14 (j := v3.toNat) zc_2 (by omega)) (by show 2 + 5 + 2 * v3.toNat = (7 + 2 * v3.toNat); omega)
              refine zx_aaload (pc := 92) (k := 14) (r := (7 + 2 * v3.toNat)) (by decide +kernel) (by decide) ⟨6, zc_2, o18.1, o18.2⟩ (by show 2 + 5 + 2 * v3.toNat = (7 + 2 * v3.toNat); omega) ?_
              refine zw_aload_n (pc := 93) (n := 0) (i := 0) 0 (by decide +kernel) rfl rfl ?_
              refine zx_getR (pc := 94) (o := 1) (r := 1) zf_10_14 (by decide +kernel) rfl zc_0 rfl (by decide) rfl ?_
              refine zx_getI (pc := 97) zf_10_89 (by decide +kernel) rfl zc_1 ?_
              refine zx_callV (pc := 100) (As := [.ref (7 + 2 * v1.toNat), .int (zJ v2), .ref (7 + 2 * v3.toNat), .int (zJ (μ14 1 0))]) h zi_X7_makePower zii_X7_makePower zie_X7_makePower zl_10_151 (by decide +kernel) ⟨Nat.le_of_ble_eq_true rfl, Nat.le_of_ble_eq_true rfl⟩ rfl zc_69 (by decide) rfl rfl ⟨rfl, rfl⟩ ⟨Nat.zero_le _, Nat.zero_le _⟩ (zkv (fun μ20 h => ?_))
              refine zw_aload_n (pc := 103) (n := 0) (i := 0) 0 (by decide +kernel) rfl rfl ?_
              refine zx_getR (pc := 104) (o := 1) (r := 1) zf_10_14 (by decide +kernel) rfl zc_0 rfl (by decide) rfl ?_
              refine zx_getR (pc := 107) (o := 1) (r := 2) zf_10_103 (by decide +kernel) rfl zc_1 rfl (by decide) rfl ?_
              refine zw_iload_n (pc := 110) (n := 3) (i := 3) 3 (by decide +kernel) rfl rfl ?_
              have q21 : zS (7 + 2 * v3.toNat) 6 3 := zS_cast (zqe_14 (j := v3.toNat) zc_2 (by omega)) (by show 2 + 5 + 2 * v3.toNat = (7 + 2 * v3.toNat); omega)
              refine zx_aaload (pc := 111) (k := 14) (r := (7 + 2 * v3.toNat)) (by decide +kernel) (by decide) ⟨6, zc_2, o18.1, o18.2⟩ (by show 2 + 5 + 2 * v3.toNat = (7 + 2 * v3.toNat); omega) ?_
              refine zx_getI (pc := 112) zf_10_131 (by decide +kernel) rfl q21 ?_
              exact zw_iret (pc := 115) (by decide +kernel) rfl (Nat.le_refl _) (Nat.le_refl _) ⟨_, _, rfl, rfl, h⟩
            · replace h := h.2 hc
              refine zw_bipush (pc := 67) (n := (-3)) (by decide +kernel) (by decide +kernel) ?_
              exact zw_iret (pc := 69) (by decide +kernel) rfl (Nat.le_refl _) (Nat.le_refl _) ⟨_, _, rfl, rfl, h⟩
          · replace h := h.2 hc
            refine zw_bipush (pc := 44) (n := (-11)) (by decide +kernel) (by decide +kernel) ?_
            exact zw_iret (pc := 46) (by decide +kernel) rfl (Nat.le_refl _) (Nat.le_refl _) ⟨_, _, rfl, rfl, h⟩
        · replace h := h.2 hc
          refine zw_bipush (pc := 26) (n := (-2)) (by decide +kernel) (by decide +kernel) ?_
          exact zw_iret (pc := 28) (by decide +kernel) rfl (Nat.le_refl _) (Nat.le_refl _) ⟨_, _, rfl, rfl, h⟩
    · replace h := h.2 hc
      refine zw_iconst (pc := 14) (n := (-1)) (by decide +kernel) ?_
      exact zw_iret (pc := 15) (by decide +kernel) rfl (Nat.le_refl _) (Nat.le_refl _) ⟨_, _, rfl, rfl, h⟩
theorem sg_X10_of {g : zG} {φ : Int → zMu → Prop} {v1 : Int} {v2 : Int} {μ : zMu}
    (h : zOi g zm_X10_isSeries [.int (zJ v1)] μ (fun x2 μ1 => (zR x2) ∧ ((x2 = 0 → φ (-1) μ1) ∧ (¬ x2 = 0 → (zR v2) ∧ ((v2 < 0 → φ (-1) μ1) ∧ (0 ≤ v2 → ((v2 ≤ 2 → (0 ≤ v1 ∧ v1 < 6) ∧ zOi g zm_X6_isMissing [.ref (7 + 2 * v1.toNat)] μ1 (fun x8 μ7 => (zR x8) ∧ ((x8 = 0 → ((¬ v2 = 0 → ((¬ v2 = 1 → zOi g zm_X6_firstNonzero [.ref (7 + 2 * v1.toNat)] μ7 (fun x11 μ10 => (zR x11) ∧ ((0 ≤ x11 → φ (((μ10 (7 + 2 * v1.toNat) 1) + x11) + 1000) μ10) ∧ (x11 < 0 → φ (-5) μ10)))) ∧ (v2 = 1 → φ (μ7 (7 + 2 * v1.toNat) 2) μ7))) ∧ (v2 = 0 → φ ((μ7 (7 + 2 * v1.toNat) 1) + 1000) μ7))) ∧ (¬ x8 = 0 → φ (-11) μ7)))) ∧ (2 < v2 → φ (-1) μ1)))))))) : zOi g zm_X10_of [.ref 0, .int (zJ v1), .int (zJ v2)] μ φ := by
  refine zok_of (by decide +kernel) rfl ?_
  show zWP g zm_X10_of (zmo g zm_X10_of (zΦi φ)) 0 [(0, .ref 0), (1, .int (zJ v1)), (2, .int (zJ v2))] [] 0 0 (zw μ)
  refine zw_iload_n (pc := 0) (n := 1) (i := 1) 1 (by decide +kernel) rfl rfl ?_
  refine zx_callS (pc := 1) (As := [.int (zJ v1)]) h zi_X10_isSeries zis_X10_isSeries zl_10_100 (by decide +kernel) ⟨Nat.le_of_ble_eq_true rfl, Nat.le_of_ble_eq_true rfl⟩ rfl rfl ⟨rfl, rfl⟩ ⟨Nat.zero_le _, Nat.zero_le _⟩ (zki (fun x2 μ1 h => ?_))
  obtain ⟨o3, h⟩ := h
  refine zw_if_eq (pc := 4) (off := 12) (tgt := 16) (by decide +kernel) (by decide) o3 (fun hc => ?_) (fun hc => ?_)
  · replace h := h.1 hc
    refine zw_iconst (pc := 16) (n := (-1)) (by decide +kernel) ?_
    exact zw_iret (pc := 17) (by decide +kernel) rfl (Nat.le_refl _) (Nat.le_refl _) ⟨_, _, rfl, rfl, h⟩
  · replace h := h.2 hc
    obtain ⟨o4, h⟩ := h
    refine zw_iload_n (pc := 7) (n := 2) (i := 2) 2 (by decide +kernel) rfl rfl ?_
    refine zw_if_lt (pc := 8) (off := 8) (tgt := 16) (by decide +kernel) (by decide) o4 (fun hc => ?_) (fun hc => ?_)
    · replace h := h.1 hc
      refine zw_iconst (pc := 16) (n := (-1)) (by decide +kernel) ?_
      exact zw_iret (pc := 17) (by decide +kernel) rfl (Nat.le_refl _) (Nat.le_refl _) ⟨_, _, rfl, rfl, h⟩
    · replace h := h.2 hc
      refine zw_iload_n (pc := 11) (n := 2) (i := 2) 2 (by decide +kernel) rfl rfl ?_
      refine zw_iconst (pc := 12) (n := 2) (by decide +kernel) ?_
      refine zw_icmp_le (pc := 13) (off := 5) (tgt := 18) (by decide +kernel) (by decide) o4 ⟨by decide, by decide⟩ (fun hc => ?_) (fun hc => ?_)
      · replace h := h.1 hc
        obtain ⟨o5, h⟩ := h
        refine zw_aload_n (pc := 18) (n := 0) (i := 0) 0 (by decide +kernel) rfl rfl ?_
        refine zx_getR (pc := 19) (o := 1) (r := 1) zf_10_14 (by decide +kernel) rfl zc_0 rfl (by decide) rfl ?_
        refine zx_getR (pc := 22) (o := 1) (r := 2) zf_10_103 (by decide +kernel) rfl zc_1 rfl (by decide) rfl ?_
        refine zw_iload_n (pc := 25) (n := 1) (i := 1) 1 (by decide +kernel) rfl rfl ?_
        have q6 : zS (7 + 2 * v1.toNat) 6 3 := zS_cast (zqe_14 (j := v1.toNat) zc_2 (by omega)) (by show 2 + 5 + 2 * v1.toNat = (7 + 2 * v1.toNat); omega)
        refine zx_aaload (pc := 26) (k := 14) (r := (7 + 2 * v1.toNat)) (by decide +kernel) (by decide) ⟨6, zc_2, o5.1, o5.2⟩ (by show 2 + 5 + 2 * v1.toNat = (7 + 2 * v1.toNat); omega) ?_
        refine zw_astore_n (pc := 27) (n := 3) (i := 3) (lv' := [(0, .ref 0), (1, .int (zJ v1)), (2, .int (zJ v2)), (3, .ref (7 + 2 * v1.toNat))]) (by decide +kernel) rfl (Nat.le_of_ble_eq_true rfl) rfl ?_
        refine zw_aload_n (pc := 28) (n := 3) (i := 3) 3 (by decide +kernel) rfl rfl ?_
        refine zx_callV (pc := 29) (As := []) h zi_X6_isMissing zii_X6_isMissing zie_X6_isMissing zl_10_121 (by decide +kernel) ⟨Nat.le_of_ble_eq_true rfl, Nat.le_of_ble_eq_true rfl⟩ rfl q6 (by decide) rfl rfl ⟨rfl, rfl⟩ ⟨Nat.zero_le _, Nat.zero_le _⟩ (zki (fun x8 μ7 h => ?_))
        obtain ⟨o9, h⟩ := h
        refine zw_if_eq (pc := 32) (off := 6) (tgt := 38) (by decide +kernel) (by decide) o9 (fun hc => ?_) (fun hc => ?_)
        · replace h := h.1 hc
          refine zw_iload_n (pc := 38) (n := 2) (i := 2) 2 (by decide +kernel) rfl rfl ?_
          refine zw_if_ne (pc := 39) (off := 12) (tgt := 51) (by decide +kernel) (by decide) o4 (fun hc => ?_) (fun hc => ?_)
          · replace h := h.1 hc
            refine zw_iload_n (pc := 51) (n := 2) (i := 2) 2 (by decide +kernel) rfl rfl ?_
            refine zw_iconst (pc := 52) (n := 1) (by decide +kernel) ?_
            refine zw_icmp_ne (pc := 53) (off := 8) (tgt := 61) (by decide +kernel) (by decide) o4 ⟨by decide, by decide⟩ (fun hc => ?_) (fun hc => ?_)
            · replace h := h.1 hc
              refine zw_aload_n (pc := 61) (n := 3) (i := 3) 3 (by decide +kernel) rfl rfl ?_
              refine zx_callV (pc := 62) (As := []) h zi_X6_firstNonzero zii_X6_firstNonzero zie_X6_firstNonzero zl_10_155 (by decide +kernel) ⟨Nat.le_of_ble_eq_true rfl, Nat.le_of_ble_eq_true rfl⟩ rfl q6 (by decide) rfl rfl ⟨rfl, rfl⟩ ⟨Nat.zero_le _, Nat.zero_le _⟩ (zki (fun x11 μ10 h => ?_))
              obtain ⟨o12, h⟩ := h
              refine zw_istore (pc := 65) (i := 4) (lv' := [(0, .ref 0), (1, .int (zJ v1)), (2, .int (zJ v2)), (3, .ref (7 + 2 * v1.toNat)), (4, .int (zJ x11))]) (by decide +kernel) (Nat.le_of_ble_eq_true rfl) rfl ?_
              refine zw_iload (pc := 67) (i := 4) 4 (by decide +kernel) rfl ?_
              refine zw_if_ge (pc := 69) (off := 8) (tgt := 77) (by decide +kernel) (by decide) o12 (fun hc => ?_) (fun hc => ?_)
              · replace h := h.1 hc
                refine zw_aload_n (pc := 77) (n := 3) (i := 3) 3 (by decide +kernel) rfl rfl ?_
                refine zx_getI (pc := 78) zf_10_134 (by decide +kernel) rfl q6 ?_
                refine zw_iload (pc := 81) (i := 4) 4 (by decide +kernel) rfl ?_
                refine zw_iadd (pc := 83) (by decide +kernel) ?_
                refine zw_sipush (pc := 84) (n := 1000) (by decide +kernel) (by decide +kernel) ?_
                refine zw_iadd (pc := 87) (by decide +kernel) ?_
                exact zw_iret (pc := 88) (by decide +kernel) rfl (Nat.le_refl _) (Nat.le_refl _) ⟨_, _, rfl, rfl, h⟩
              · replace h := h.2 hc
                refine zw_bipush (pc := 72) (n := (-5)) (by decide +kernel) (by decide +kernel) ?_
                refine zw_goto (pc := 74) (off := 14) (tgt := 88) (by decide +kernel) (by decide) ?_
                exact zw_iret (pc := 88) (by decide +kernel) rfl (Nat.le_refl _) (Nat.le_refl _) ⟨_, _, rfl, rfl, h⟩
            · replace h := h.2 hc
              refine zw_aload_n (pc := 56) (n := 3) (i := 3) 3 (by decide +kernel) rfl rfl ?_
              refine zx_getI (pc := 57) zf_10_131 (by decide +kernel) rfl q6 ?_
              exact zw_iret (pc := 60) (by decide +kernel) rfl (Nat.le_refl _) (Nat.le_refl _) ⟨_, _, rfl, rfl, h⟩
          · replace h := h.2 hc
            refine zw_aload_n (pc := 42) (n := 3) (i := 3) 3 (by decide +kernel) rfl rfl ?_
            refine zx_getI (pc := 43) zf_10_134 (by decide +kernel) rfl q6 ?_
            refine zw_sipush (pc := 46) (n := 1000) (by decide +kernel) (by decide +kernel) ?_
            refine zw_iadd (pc := 49) (by decide +kernel) ?_
            exact zw_iret (pc := 50) (by decide +kernel) rfl (Nat.le_refl _) (Nat.le_refl _) ⟨_, _, rfl, rfl, h⟩
        · replace h := h.2 hc
          refine zw_bipush (pc := 35) (n := (-11)) (by decide +kernel) (by decide +kernel) ?_
          exact zw_iret (pc := 37) (by decide +kernel) rfl (Nat.le_refl _) (Nat.le_refl _) ⟨_, _, rfl, rfl, h⟩
      · replace h := h.2 hc
        refine zw_iconst (pc := 16) (n := (-1)) (by decide +kernel) ?_
        exact zw_iret (pc := 17) (by decide +kernel) rfl (Nat.le_refl _) (Nat.le_refl _) ⟨_, _, rfl, rfl, h⟩
theorem sg_X10_coefficient {g : zG} {φ : Int → zMu → Prop} {v1 : Int} {v2 : Int} {μ : zMu}
    (h : zOi g zm_X10_isSeries [.int (zJ v1)] μ (fun x2 μ1 => (zR x2) ∧ ((¬ x2 = 0 → (0 ≤ v1 ∧ v1 < 6) ∧ zOi g zm_X6_isMissing [.ref (7 + 2 * v1.toNat)] μ1 (fun x7 μ6 => (zR x7) ∧ ((x7 = 0 → zOi g zm_X6_last [.ref (7 + 2 * v1.toNat)] μ6 (fun x11 μ10 => (zR v2) ∧ (zR x11) ∧ ((v2 ≤ x11 → zOi g zm_X6_valueOf [.ref (7 + 2 * v1.toNat), .int (zJ v2)] μ10 (fun x16 μ15 => φ x16 μ15)) ∧ (x11 < v2 → φ (-5) μ10)))) ∧ (¬ x7 = 0 → φ (-11) μ6)))) ∧ (x2 = 0 → φ (-1) μ1)))) : zOi g zm_X10_coefficient [.ref 0, .int (zJ v1), .int (zJ v2)] μ φ := by
  refine zok_of (by decide +kernel) rfl ?_
  show zWP g zm_X10_coefficient (zmo g zm_X10_coefficient (zΦi φ)) 0 [(0, .ref 0), (1, .int (zJ v1)), (2, .int (zJ v2))] [] 0 0 (zw μ)
  refine zw_iload_n (pc := 0) (n := 1) (i := 1) 1 (by decide +kernel) rfl rfl ?_
  refine zx_callS (pc := 1) (As := [.int (zJ v1)]) h zi_X10_isSeries zis_X10_isSeries zl_10_100 (by decide +kernel) ⟨Nat.le_of_ble_eq_true rfl, Nat.le_of_ble_eq_true rfl⟩ rfl rfl ⟨rfl, rfl⟩ ⟨Nat.zero_le _, Nat.zero_le _⟩ (zki (fun x2 μ1 h => ?_))
  obtain ⟨o3, h⟩ := h
  refine zw_if_ne (pc := 4) (off := 5) (tgt := 9) (by decide +kernel) (by decide) o3 (fun hc => ?_) (fun hc => ?_)
  · replace h := h.1 hc
    obtain ⟨o4, h⟩ := h
    refine zw_aload_n (pc := 9) (n := 0) (i := 0) 0 (by decide +kernel) rfl rfl ?_
    refine zx_getR (pc := 10) (o := 1) (r := 1) zf_10_14 (by decide +kernel) rfl zc_0 rfl (by decide) rfl ?_
    refine zx_getR (pc := 13) (o := 1) (r := 2) zf_10_103 (by decide +kernel) rfl zc_1 rfl (by decide) rfl ?_
    refine zw_iload_n (pc := 16) (n := 1) (i := 1) 1 (by decide +kernel) rfl rfl ?_
    have q5 : zS (7 + 2 * v1.toNat) 6 3 := zS_cast (zqe_14 (j := v1.toNat) zc_2 (by omega)) (by show 2 + 5 + 2 * v1.toNat = (7 + 2 * v1.toNat); omega)
    refine zx_aaload (pc := 17) (k := 14) (r := (7 + 2 * v1.toNat)) (by decide +kernel) (by decide) ⟨6, zc_2, o4.1, o4.2⟩ (by show 2 + 5 + 2 * v1.toNat = (7 + 2 * v1.toNat); omega) ?_
    refine zx_callV (pc := 18) (As := []) h zi_X6_isMissing zii_X6_isMissing zie_X6_isMissing zl_10_121 (by decide +kernel) ⟨Nat.le_of_ble_eq_true rfl, Nat.le_of_ble_eq_true rfl⟩ rfl q5 (by decide) rfl rfl ⟨rfl, rfl⟩ ⟨Nat.zero_le _, Nat.zero_le _⟩ (zki (fun x7 μ6 h => ?_))
    obtain ⟨o8, h⟩ := h
    refine zw_if_eq (pc := 21) (off := 6) (tgt := 27) (by decide +kernel) (by decide) o8 (fun hc => ?_) (fun hc => ?_)
    · replace h := h.1 hc
      refine zw_iload_n (pc := 27) (n := 2) (i := 2) 2 (by decide +kernel) rfl rfl ?_
      refine zw_aload_n (pc := 28) (n := 0) (i := 0) 0 (by decide +kernel) rfl rfl ?_
      refine zx_getR (pc := 29) (o := 1) (r := 1) zf_10_14 (by decide +kernel) rfl zc_0 rfl (by decide) rfl ?_
      refine zx_getR (pc := 32) (o := 1) (r := 2) zf_10_103 (by decide +kernel) rfl zc_1 rfl (by decide) rfl ?_
      refine zw_iload_n (pc := 35) (n := 1) (i := 1) 1 (by decide +kernel) rfl rfl ?_
      have q9 : zS (7 + 2 * v1.toNat) 6 3 := zS_cast (zqe_14 (j := v1.toNat) zc_2 (by omega)) (by show 2 + 5 + 2 * v1.toNat = (7 + 2 * v1.toNat); omega)
      refine zx_aaload (pc := 36) (k := 14) (r := (7 + 2 * v1.toNat)) (by decide +kernel) (by decide) ⟨6, zc_2, o4.1, o4.2⟩ (by show 2 + 5 + 2 * v1.toNat = (7 + 2 * v1.toNat); omega) ?_
      refine zx_callV (pc := 37) (As := []) h zi_X6_last zii_X6_last zie_X6_last zl_10_159 (by decide +kernel) ⟨Nat.le_of_ble_eq_true rfl, Nat.le_of_ble_eq_true rfl⟩ rfl q9 (by decide) rfl rfl ⟨rfl, rfl⟩ ⟨Nat.zero_le _, Nat.zero_le _⟩ (zki (fun x11 μ10 h => ?_))
      obtain ⟨o12, o13, h⟩ := h
      refine zw_icmp_le (pc := 40) (off := 8) (tgt := 48) (by decide +kernel) (by decide) o12 o13 (fun hc => ?_) (fun hc => ?_)
      · replace h := h.1 hc
        refine zw_aload_n (pc := 48) (n := 0) (i := 0) 0 (by decide +kernel) rfl rfl ?_
        refine zx_getR (pc := 49) (o := 1) (r := 1) zf_10_14 (by decide +kernel) rfl zc_0 rfl (by decide) rfl ?_
        refine zx_getR (pc := 52) (o := 1) (r := 2) zf_10_103 (by decide +kernel) rfl zc_1 rfl (by decide) rfl ?_
        refine zw_iload_n (pc := 55) (n := 1) (i := 1) 1 (by decide +kernel) rfl rfl ?_
        have q14 : zS (7 + 2 * v1.toNat) 6 3 := zS_cast (zqe_14 (j := v1.toNat) zc_2 (by omega)) (by show 2 + 5 + 2 * v1.toNat = (7 + 2 * v1.toNat); omega)
        refine zx_aaload (pc := 56) (k := 14) (r := (7 + 2 * v1.toNat)) (by decide +kernel) (by decide) ⟨6, zc_2, o4.1, o4.2⟩ (by show 2 + 5 + 2 * v1.toNat = (7 + 2 * v1.toNat); omega) ?_
        refine zw_iload_n (pc := 57) (n := 2) (i := 2) 2 (by decide +kernel) rfl rfl ?_
        refine zx_callV (pc := 58) (As := [.int (zJ v2)]) h zi_X6_valueOf zii_X6_valueOf zie_X6_valueOf zl_10_162 (by decide +kernel) ⟨Nat.le_of_ble_eq_true rfl, Nat.le_of_ble_eq_true rfl⟩ rfl q14 (by decide) rfl rfl ⟨rfl, rfl⟩ ⟨Nat.zero_le _, Nat.zero_le _⟩ (zki (fun x16 μ15 h => ?_))
        exact zw_iret (pc := 61) (by decide +kernel) rfl (Nat.le_refl _) (Nat.le_refl _) ⟨_, _, rfl, rfl, h⟩
      · replace h := h.2 hc
        refine zw_bipush (pc := 43) (n := (-5)) (by decide +kernel) (by decide +kernel) ?_
        refine zw_goto (pc := 45) (off := 16) (tgt := 61) (by decide +kernel) (by decide) ?_
        exact zw_iret (pc := 61) (by decide +kernel) rfl (Nat.le_refl _) (Nat.le_refl _) ⟨_, _, rfl, rfl, h⟩
    · replace h := h.2 hc
      refine zw_bipush (pc := 24) (n := (-11)) (by decide +kernel) (by decide +kernel) ?_
      exact zw_iret (pc := 26) (by decide +kernel) rfl (Nat.le_refl _) (Nat.le_refl _) ⟨_, _, rfl, rfl, h⟩
  · replace h := h.2 hc
    refine zw_iconst (pc := 7) (n := (-1)) (by decide +kernel) ?_
    exact zw_iret (pc := 8) (by decide +kernel) rfl (Nat.le_refl _) (Nat.le_refl _) ⟨_, _, rfl, rfl, h⟩
theorem sg_X10_find {g : zG} {φ : Int → zMu → Prop} {v1 : Int} {v2 : Int} {v3 : Int} {v4 : Int} {μ : zMu}
    (h : zOi g zm_X10_isSeries [.int (zJ v1)] μ (fun x2 μ1 => (zR x2) ∧ ((x2 = 0 → φ (-1) μ1) ∧ (¬ x2 = 0 → zOi g zm_X10_isSeries [.int (zJ v2)] μ1 (fun x5 μ4 => (zR x5) ∧ ((¬ x5 = 0 → (zR v3) ∧ ((v3 < 1 → φ (-2) μ4) ∧ (1 ≤ v3 → ((8 < v3 → φ (-2) μ4) ∧ (v3 ≤ 8 → (zR v4) ∧ ((v4 < 0 → φ (-2) μ4) ∧ (0 ≤ v4 → ((v4 ≤ 1 → (0 ≤ v1 ∧ v1 < 6) ∧ zOi g zm_X6_isMissing [.ref (7 + 2 * v1.toNat)] μ4 (fun x12 μ11 => (zR x12) ∧ ((¬ x12 = 0 → φ (-11) μ11) ∧ (x12 = 0 → (0 ≤ v2 ∧ v2 < 6) ∧ zOi g zm_X6_isMissing [.ref (7 + 2 * v2.toNat)] μ11 (fun x17 μ16 => (zR x17) ∧ ((x17 = 0 → zOv g zm_X9_prepare [.ref 74, .ref (7 + 2 * v1.toNat), .ref (7 + 2 * v2.toNat), .int (zJ v3), .int (zJ (μ16 1 0))] μ16 (fun μ21 => ((¬ v4 = 1 → zOi g zm_X1_search [.ref 97, .ref 74, .int (zJ v3), .int (zJ 0)] μ21 (fun x23 μ22 => (zR x23) ∧ ((¬ x23 = 0 → zOv g zm_X1_handOver [.ref 97, .ref 3] μ22 (fun μ25 => zOv g zm_X2_forget [.ref 182] μ25 (fun μ26 => φ x23 μ26))) ∧ (x23 = 0 → φ (-5) μ22)))) ∧ (v4 = 1 → zOi g zm_X1_search [.ref 97, .ref 74, .int (zJ v3), .int (zJ 1)] μ21 (fun x28 μ27 => (zR x28) ∧ ((¬ x28 = 0 → zOv g zm_X1_handOver [.ref 97, .ref 3] μ27 (fun μ30 => zOv g zm_X2_forget [.ref 182] μ30 (fun μ31 => φ x28 μ31))) ∧ (x28 = 0 → φ (-5) μ27))))))) ∧ (¬ x17 = 0 → φ (-11) μ16))))))) ∧ (1 < v4 → φ (-2) μ4))))))))) ∧ (x5 = 0 → φ (-1) μ4))))))) : zOi g zm_X10_find [.ref 0, .int (zJ v1), .int (zJ v2), .int (zJ v3), .int (zJ v4)] μ φ := by
  refine zok_of (by decide +kernel) rfl ?_
  show zWP g zm_X10_find (zmo g zm_X10_find (zΦi φ)) 0 [(0, .ref 0), (1, .int (zJ v1)), (2, .int (zJ v2)), (3, .int (zJ v3)), (4, .int (zJ v4))] [] 0 0 (zw μ)
  refine zw_iload_n (pc := 0) (n := 1) (i := 1) 1 (by decide +kernel) rfl rfl ?_
  refine zx_callS (pc := 1) (As := [.int (zJ v1)]) h zi_X10_isSeries zis_X10_isSeries zl_10_100 (by decide +kernel) ⟨Nat.le_of_ble_eq_true rfl, Nat.le_of_ble_eq_true rfl⟩ rfl rfl ⟨rfl, rfl⟩ ⟨Nat.zero_le _, Nat.zero_le _⟩ (zki (fun x2 μ1 h => ?_))
  obtain ⟨o3, h⟩ := h
  refine zw_if_eq (pc := 4) (off := 10) (tgt := 14) (by decide +kernel) (by decide) o3 (fun hc => ?_) (fun hc => ?_)
  · replace h := h.1 hc
    refine zw_iconst (pc := 14) (n := (-1)) (by decide +kernel) ?_
    exact zw_iret (pc := 15) (by decide +kernel) rfl (Nat.le_refl _) (Nat.le_refl _) ⟨_, _, rfl, rfl, h⟩
  · replace h := h.2 hc
    refine zw_iload_n (pc := 7) (n := 2) (i := 2) 2 (by decide +kernel) rfl rfl ?_
    refine zx_callS (pc := 8) (As := [.int (zJ v2)]) h zi_X10_isSeries zis_X10_isSeries zl_10_100 (by decide +kernel) ⟨Nat.le_of_ble_eq_true rfl, Nat.le_of_ble_eq_true rfl⟩ rfl rfl ⟨rfl, rfl⟩ ⟨Nat.zero_le _, Nat.zero_le _⟩ (zki (fun x5 μ4 h => ?_))
    obtain ⟨o6, h⟩ := h
    refine zw_if_ne (pc := 11) (off := 5) (tgt := 16) (by decide +kernel) (by decide) o6 (fun hc => ?_) (fun hc => ?_)
    · replace h := h.1 hc
      obtain ⟨o7, h⟩ := h
      refine zw_iload_n (pc := 16) (n := 3) (i := 3) 3 (by decide +kernel) rfl rfl ?_
      refine zw_iconst (pc := 17) (n := 1) (by decide +kernel) ?_
      refine zw_icmp_lt (pc := 18) (off := 20) (tgt := 38) (by decide +kernel) (by decide) o7 ⟨by decide, by decide⟩ (fun hc => ?_) (fun hc => ?_)
      · replace h := h.1 hc
        refine zw_bipush (pc := 38) (n := (-2)) (by decide +kernel) (by decide +kernel) ?_
        exact zw_iret (pc := 40) (by decide +kernel) rfl (Nat.le_refl _) (Nat.le_refl _) ⟨_, _, rfl, rfl, h⟩
      · replace h := h.2 hc
        refine zw_iload_n (pc := 21) (n := 3) (i := 3) 3 (by decide +kernel) rfl rfl ?_
        refine zw_bipush (pc := 22) (n := 8) (by decide +kernel) (by decide +kernel) ?_
        refine zw_icmp_gt (pc := 24) (off := 14) (tgt := 38) (by decide +kernel) (by decide) o7 ⟨by decide, by decide⟩ (fun hc => ?_) (fun hc => ?_)
        · replace h := h.1 hc
          refine zw_bipush (pc := 38) (n := (-2)) (by decide +kernel) (by decide +kernel) ?_
          exact zw_iret (pc := 40) (by decide +kernel) rfl (Nat.le_refl _) (Nat.le_refl _) ⟨_, _, rfl, rfl, h⟩
        · replace h := h.2 hc
          obtain ⟨o8, h⟩ := h
          refine zw_iload (pc := 27) (i := 4) 4 (by decide +kernel) rfl ?_
          refine zw_if_lt (pc := 29) (off := 9) (tgt := 38) (by decide +kernel) (by decide) o8 (fun hc => ?_) (fun hc => ?_)
          · replace h := h.1 hc
            refine zw_bipush (pc := 38) (n := (-2)) (by decide +kernel) (by decide +kernel) ?_
            exact zw_iret (pc := 40) (by decide +kernel) rfl (Nat.le_refl _) (Nat.le_refl _) ⟨_, _, rfl, rfl, h⟩
          · replace h := h.2 hc
            refine zw_iload (pc := 32) (i := 4) 4 (by decide +kernel) rfl ?_
            refine zw_iconst (pc := 34) (n := 1) (by decide +kernel) ?_
            refine zw_icmp_le (pc := 35) (off := 6) (tgt := 41) (by decide +kernel) (by decide) o8 ⟨by decide, by decide⟩ (fun hc => ?_) (fun hc => ?_)
            · replace h := h.1 hc
              obtain ⟨o9, h⟩ := h
              refine zw_aload_n (pc := 41) (n := 0) (i := 0) 0 (by decide +kernel) rfl rfl ?_
              refine zx_getR (pc := 42) (o := 1) (r := 1) zf_10_14 (by decide +kernel) rfl zc_0 rfl (by decide) rfl ?_
              refine zx_getR (pc := 45) (o := 1) (r := 2) zf_10_103 (by decide +kernel) rfl zc_1 rfl (by decide) rfl ?_
              refine zw_iload_n (pc := 48) (n := 1) (i := 1) 1 (by decide +kernel) rfl rfl ?_
              have q10 : zS (7 + 2 * v1.toNat) 6 3 := zS_cast (zqe_14 (j := v1.toNat) zc_2 (by omega)) (by show 2 + 5 + 2 * v1.toNat = (7 + 2 * v1.toNat); omega)
              refine zx_aaload (pc := 49) (k := 14) (r := (7 + 2 * v1.toNat)) (by decide +kernel) (by decide) ⟨6, zc_2, o9.1, o9.2⟩ (by show 2 + 5 + 2 * v1.toNat = (7 + 2 * v1.toNat); omega) ?_
              refine zx_callV (pc := 50) (As := []) h zi_X6_isMissing zii_X6_isMissing zie_X6_isMissing zl_10_121 (by decide +kernel) ⟨Nat.le_of_ble_eq_true rfl, Nat.le_of_ble_eq_true rfl⟩ rfl q10 (by decide) rfl rfl ⟨rfl, rfl⟩ ⟨Nat.zero_le _, Nat.zero_le _⟩ (zki (fun x12 μ11 h => ?_))
              obtain ⟨o13, h⟩ := h
              refine zw_if_ne (pc := 53) (off := 18) (tgt := 71) (by decide +kernel) (by decide) o13 (fun hc => ?_) (fun hc => ?_)
              · replace h := h.1 hc
                refine zw_bipush (pc := 71) (n := (-11)) (by decide +kernel) (by decide +kernel) ?_
                exact zw_iret (pc := 73) (by decide +kernel) rfl (Nat.le_refl _) (Nat.le_refl _) ⟨_, _, rfl, rfl, h⟩
              · replace h := h.2 hc
                obtain ⟨o14, h⟩ := h
                refine zw_aload_n (pc := 56) (n := 0) (i := 0) 0 (by decide +kernel) rfl rfl ?_
                refine zx_getR (pc := 57) (o := 1) (r := 1) zf_10_14 (by decide +kernel) rfl zc_0 rfl (by decide) rfl ?_
                refine zx_getR (pc := 60) (o := 1) (r := 2) zf_10_103 (by decide +kernel) rfl zc_1 rfl (by decide) rfl ?_
                refine zw_iload_n (pc := 63) (n := 2) (i := 2) 2 (by decide +kernel) rfl rfl ?_
                have q15 : zS (7 + 2 * v2.toNat) 6 3 := zS_cast (zqe_14 (j := v2.toNat) zc_2 (by omega)) (by show 2 + 5 + 2 * v2.toNat = (7 + 2 * v2.toNat); omega)
                refine zx_aaload (pc := 64) (k := 14) (r := (7 + 2 * v2.toNat)) (by decide +kernel) (by decide) ⟨6, zc_2, o14.1, o14.2⟩ (by show 2 + 5 + 2 * v2.toNat = (7 + 2 * v2.toNat); omega) ?_
                refine zx_callV (pc := 65) (As := []) h zi_X6_isMissing zii_X6_isMissing zie_X6_isMissing zl_10_121 (by decide +kernel) ⟨Nat.le_of_ble_eq_true rfl, Nat.le_of_ble_eq_true rfl⟩ rfl q15 (by decide) rfl rfl ⟨rfl, rfl⟩ ⟨Nat.zero_le _, Nat.zero_le _⟩ (zki (fun x17 μ16 h => ?_))
                obtain ⟨o18, h⟩ := h
                refine zw_if_eq (pc := 68) (off := 6) (tgt := 74) (by decide +kernel) (by decide) o18 (fun hc => ?_) (fun hc => ?_)
                · replace h := h.1 hc
                  refine zw_aload_n (pc := 74) (n := 0) (i := 0) 0 (by decide +kernel) rfl rfl ?_
                  refine zx_getR (pc := 75) (o := 74) (r := 74) zf_10_31 (by decide +kernel) rfl zc_0 rfl (by decide) rfl ?_
                  refine zw_aload_n (pc := 78) (n := 0) (i := 0) 0 (by decide +kernel) rfl rfl ?_
                  refine zx_getR (pc := 79) (o := 1) (r := 1) zf_10_14 (by decide +kernel) rfl zc_0 rfl (by decide) rfl ?_
                  refine zx_getR (pc := 82) (o := 1) (r := 2) zf_10_103 (by decide +kernel) rfl zc_1 rfl (by decide) rfl ?_
                  refine zw_iload_n (pc := 85) (n := 1) (i := 1) 1 (by decide +kernel) rfl rfl ?_
                  have q19 : zS (7 + 2 * v1.toNat) 6 3 := zS_cast (zqe_14 (j := v1.toNat) zc_2 (by omega)) (by show 2 + 5 + 2 * v1.toNat = (7 + 2 * v1.toNat); omega)
                  refine zx_aaload (pc := 86) (k := 14) (r := (7 + 2 * v1.toNat)) (by decide +kernel) (by decide) ⟨6, zc_2, o9.1, o9.2⟩ (by show 2 + 5 + 2 * v1.toNat = (7 + 2 * v1.toNat); omega) ?_
                  refine zw_aload_n (pc := 87) (n := 0) (i := 0) 0 (by decide +kernel) rfl rfl ?_
                  refine zx_getR (pc := 88) (o := 1) (r := 1) zf_10_14 (by decide +kernel) rfl zc_0 rfl (by decide) rfl ?_
                  refine zx_getR (pc := 91) (o := 1) (r := 2) zf_10_103 (by decide +kernel) rfl zc_1 rfl (by decide) rfl ?_
                  refine zw_iload_n (pc := 94) (n := 2) (i := 2) 2 (by decide +kernel) rfl rfl ?_
                  have q20 : zS (7 + 2 * v2.toNat) 6 3 := zS_cast (zqe_14 (j := v2.toNat) zc_2 (by omega)) (by show 2 + 5 + 2 * v2.toNat = (7 + 2 * v2.toNat); omega)
                  refine zx_aaload (pc := 95) (k := 14) (r := (7 + 2 * v2.toNat)) (by decide +kernel) (by decide) ⟨6, zc_2, o14.1, o14.2⟩ (by show 2 + 5 + 2 * v2.toNat = (7 + 2 * v2.toNat); omega) ?_
                  refine zw_iload_n (pc := 96) (n := 3) (i := 3) 3 (by decide +kernel) rfl rfl ?_
                  refine zw_aload_n (pc := 97) (n := 0) (i := 0) 0 (by decide +kernel) rfl rfl ?_
                  refine zx_getR (pc := 98) (o := 1) (r := 1) zf_10_14 (by decide +kernel) rfl zc_0 rfl (by decide) rfl ?_
                  refine zx_getI (pc := 101) zf_10_89 (by decide +kernel) rfl zc_1 ?_
                  refine zx_callV (pc := 104) (As := [.ref (7 + 2 * v1.toNat), .ref (7 + 2 * v2.toNat), .int (zJ v3), .int (zJ (μ16 1 0))]) h zi_X9_prepare zii_X9_prepare zie_X9_prepare zl_10_166 (by decide +kernel) ⟨Nat.le_of_ble_eq_true rfl, Nat.le_of_ble_eq_true rfl⟩ rfl zc_74 (by decide) rfl rfl ⟨rfl, rfl⟩ ⟨Nat.zero_le _, Nat.zero_le _⟩ (zkv (fun μ21 h => ?_))
                  refine zw_aload_n (pc := 107) (n := 0) (i := 0) 0 (by decide +kernel) rfl rfl ?_
                  refine zx_getR (pc := 108) (o := 97) (r := 97) zf_10_38 (by decide +kernel) rfl zc_0 rfl (by decide) rfl ?_
                  refine zw_aload_n (pc := 111) (n := 0) (i := 0) 0 (by decide +kernel) rfl rfl ?_
                  refine zx_getR (pc := 112) (o := 74) (r := 74) zf_10_31 (by decide +kernel) rfl zc_0 rfl (by decide) rfl ?_
                  refine zw_iload_n (pc := 115) (n := 3) (i := 3) 3 (by decide +kernel) rfl rfl ?_
                  refine zw_iload (pc := 116) (i := 4) 4 (by decide +kernel) rfl ?_
                  refine zw_iconst (pc := 118) (n := 1) (by decide +kernel) ?_
                  refine zw_icmp_ne (pc := 119) (off := 7) (tgt := 126) (by decide +kernel) (by decide) o8 ⟨by decide, by decide⟩ (fun hc => ?_) (fun hc => ?_)
                  · replace h := h.1 hc
                    refine zw_iconst (pc := 126) (n := 0) (by decide +kernel) ?_
                    refine zx_callV (pc := 127) (As := [.ref 74, .int (zJ v3), .int (zJ 0)]) h zi_X1_search zii_X1_search zie_X1_search zl_10_170 (by decide +kernel) ⟨Nat.le_of_ble_eq_true rfl, Nat.le_of_ble_eq_true rfl⟩ rfl zc_97 (by decide) rfl rfl ⟨rfl, rfl⟩ ⟨Nat.zero_le _, Nat.zero_le _⟩ (zki (fun x23 μ22 h => ?_))
                    obtain ⟨o24, h⟩ := h
                    refine zw_istore (pc := 130) (i := 5) (lv' := [(0, .ref 0), (1, .int (zJ v1)), (2, .int (zJ v2)), (3, .int (zJ v3)), (4, .int (zJ v4)), (5, .int (zJ x23))]) (by decide +kernel) (Nat.le_of_ble_eq_true rfl) rfl ?_
                    refine zw_iload (pc := 132) (i := 5) 5 (by decide +kernel) rfl ?_
                    refine zw_if_ne (pc := 134) (off := 6) (tgt := 140) (by decide +kernel) (by decide) o24 (fun hc => ?_) (fun hc => ?_)
                    · replace h := h.1 hc
                      refine zw_aload_n (pc := 140) (n := 0) (i := 0) 0 (by decide +kernel) rfl rfl ?_
                      refine zx_getR (pc := 141) (o := 97) (r := 97) zf_10_38 (by decide +kernel) rfl zc_0 rfl (by decide) rfl ?_
                      refine zw_aload_n (pc := 144) (n := 0) (i := 0) 0 (by decide +kernel) rfl rfl ?_
                      refine zx_getR (pc := 145) (o := 1) (r := 1) zf_10_14 (by decide +kernel) rfl zc_0 rfl (by decide) rfl ?_
                      refine zx_getR (pc := 148) (o := 2) (r := 3) zf_10_174 (by decide +kernel) rfl zc_1 rfl (by decide) rfl ?_
                      refine zx_callV (pc := 151) (As := [.ref 3]) h zi_X1_handOver zii_X1_handOver zie_X1_handOver zl_10_178 (by decide +kernel) ⟨Nat.le_of_ble_eq_true rfl, Nat.le_of_ble_eq_true rfl⟩ rfl zc_97 (by decide) rfl rfl ⟨rfl, rfl⟩ ⟨Nat.zero_le _, Nat.zero_le _⟩ (zkv (fun μ25 h => ?_))
                      refine zw_aload_n (pc := 154) (n := 0) (i := 0) 0 (by decide +kernel) rfl rfl ?_
                      refine zx_getR (pc := 155) (o := 182) (r := 182) zf_10_45 (by decide +kernel) rfl zc_0 rfl (by decide) rfl ?_
                      refine zx_callV (pc := 158) (As := []) h zi_X2_forget zii_X2_forget zie_X2_forget zl_10_97 (by decide +kernel) ⟨Nat.le_of_ble_eq_true rfl, Nat.le_of_ble_eq_true rfl⟩ rfl zc_182 (by decide) rfl rfl ⟨rfl, rfl⟩ ⟨Nat.zero_le _, Nat.zero_le _⟩ (zkv (fun μ26 h => ?_))
                      refine zw_iload (pc := 161) (i := 5) 5 (by decide +kernel) rfl ?_
                      exact zw_iret (pc := 163) (by decide +kernel) rfl (Nat.le_refl _) (Nat.le_refl _) ⟨_, _, rfl, rfl, h⟩
                    · replace h := h.2 hc
                      refine zw_bipush (pc := 137) (n := (-5)) (by decide +kernel) (by decide +kernel) ?_
                      exact zw_iret (pc := 139) (by decide +kernel) rfl (Nat.le_refl _) (Nat.le_refl _) ⟨_, _, rfl, rfl, h⟩
                  · replace h := h.2 hc
                    refine zw_iconst (pc := 122) (n := 1) (by decide +kernel) ?_
                    refine zw_goto (pc := 123) (off := 4) (tgt := 127) (by decide +kernel) (by decide) ?_
                    refine zx_callV (pc := 127) (As := [.ref 74, .int (zJ v3), .int (zJ 1)]) h zi_X1_search zii_X1_search zie_X1_search zl_10_170 (by decide +kernel) ⟨Nat.le_of_ble_eq_true rfl, Nat.le_of_ble_eq_true rfl⟩ rfl zc_97 (by decide) rfl rfl ⟨rfl, rfl⟩ ⟨Nat.zero_le _, Nat.zero_le _⟩ (zki (fun x28 μ27 h => ?_))
                    obtain ⟨o29, h⟩ := h
                    refine zw_istore (pc := 130) (i := 5) (lv' := [(0, .ref 0), (1, .int (zJ v1)), (2, .int (zJ v2)), (3, .int (zJ v3)), (4, .int (zJ v4)), (5, .int (zJ x28))]) (by decide +kernel) (Nat.le_of_ble_eq_true rfl) rfl ?_
                    refine zw_iload (pc := 132) (i := 5) 5 (by decide +kernel) rfl ?_
                    refine zw_if_ne (pc := 134) (off := 6) (tgt := 140) (by decide +kernel) (by decide) o29 (fun hc => ?_) (fun hc => ?_)
                    · replace h := h.1 hc
                      refine zw_aload_n (pc := 140) (n := 0) (i := 0) 0 (by decide +kernel) rfl rfl ?_
                      refine zx_getR (pc := 141) (o := 97) (r := 97) zf_10_38 (by decide +kernel) rfl zc_0 rfl (by decide) rfl ?_
                      refine zw_aload_n (pc := 144) (n := 0) (i := 0) 0 (by decide +kernel) rfl rfl ?_
                      refine zx_getR (pc := 145) (o := 1) (r := 1) zf_10_14 (by decide +kernel) rfl zc_0 rfl (by decide) rfl ?_
                      refine zx_getR (pc := 148) (o := 2) (r := 3) zf_10_174 (by decide +kernel) rfl zc_1 rfl (by decide) rfl ?_
                      refine zx_callV (pc := 151) (As := [.ref 3]) h zi_X1_handOver zii_X1_handOver zie_X1_handOver zl_10_178 (by decide +kernel) ⟨Nat.le_of_ble_eq_true rfl, Nat.le_of_ble_eq_true rfl⟩ rfl zc_97 (by decide) rfl rfl ⟨rfl, rfl⟩ ⟨Nat.zero_le _, Nat.zero_le _⟩ (zkv (fun μ30 h => ?_))
                      refine zw_aload_n (pc := 154) (n := 0) (i := 0) 0 (by decide +kernel) rfl rfl ?_
                      refine zx_getR (pc := 155) (o := 182) (r := 182) zf_10_45 (by decide +kernel) rfl zc_0 rfl (by decide) rfl ?_
                      refine zx_callV (pc := 158) (As := []) h zi_X2_forget zii_X2_forget zie_X2_forget zl_10_97 (by decide +kernel) ⟨Nat.le_of_ble_eq_true rfl, Nat.le_of_ble_eq_true rfl⟩ rfl zc_182 (by decide) rfl rfl ⟨rfl, rfl⟩ ⟨Nat.zero_le _, Nat.zero_le _⟩ (zkv (fun μ31 h => ?_))
                      refine zw_iload (pc := 161) (i := 5) 5 (by decide +kernel) rfl ?_
                      exact zw_iret (pc := 163) (by decide +kernel) rfl (Nat.le_refl _) (Nat.le_refl _) ⟨_, _, rfl, rfl, h⟩
                    · replace h := h.2 hc
                      refine zw_bipush (pc := 137) (n := (-5)) (by decide +kernel) (by decide +kernel) ?_
                      exact zw_iret (pc := 139) (by decide +kernel) rfl (Nat.le_refl _) (Nat.le_refl _) ⟨_, _, rfl, rfl, h⟩
                · replace h := h.2 hc
                  refine zw_bipush (pc := 71) (n := (-11)) (by decide +kernel) (by decide +kernel) ?_
                  exact zw_iret (pc := 73) (by decide +kernel) rfl (Nat.le_refl _) (Nat.le_refl _) ⟨_, _, rfl, rfl, h⟩
            · replace h := h.2 hc
              refine zw_bipush (pc := 38) (n := (-2)) (by decide +kernel) (by decide +kernel) ?_
              exact zw_iret (pc := 40) (by decide +kernel) rfl (Nat.le_refl _) (Nat.le_refl _) ⟨_, _, rfl, rfl, h⟩
    · replace h := h.2 hc
      refine zw_iconst (pc := 14) (n := (-1)) (by decide +kernel) ?_
      exact zw_iret (pc := 15) (by decide +kernel) rfl (Nat.le_refl _) (Nat.le_refl _) ⟨_, _, rfl, rfl, h⟩
theorem sg_X10_equation {g : zG} {φ : Int → zMu → Prop} {v1 : Int} {μ : zMu}
    (h : (zR v1) ∧ ((v1 < 0 → φ (-1) μ) ∧ (0 ≤ v1 → ((v1 ≤ 3 → zOi g zm_X3_isMissing [.ref 3] μ (fun x3 μ2 => (zR x3) ∧ ((x3 = 0 → ((v1 < 0 ∨ 2 < v1 → zOi g zm_X3_nonzeroCount [.ref 3] μ2 (fun x6 μ5 => φ x6 μ5)) ∧ (v1 = 0 → φ (μ2 3 1) μ2) ∧ (v1 = 1 → zOi g zm_X3_leadingTerm [.ref 3] μ2 (fun x9 μ8 => φ x9 μ8)) ∧ (v1 = 2 → zOi g zm_X3_isSymmetric [.ref 3] μ2 (fun x11 μ10 => (zR x11) ∧ ((x11 = 0 → φ 0 μ10) ∧ (¬ x11 = 0 → φ 1 μ10)))))) ∧ (¬ x3 = 0 → φ (-11) μ2)))) ∧ (3 < v1 → φ (-1) μ))))) : zOi g zm_X10_equation [.ref 0, .int (zJ v1)] μ φ := by
  refine zok_of (by decide +kernel) rfl ?_
  show zWP g zm_X10_equation (zmo g zm_X10_equation (zΦi φ)) 0 [(0, .ref 0), (1, .int (zJ v1))] [] 0 0 (zw μ)
  obtain ⟨o1, h⟩ := h
  refine zw_iload_n (pc := 0) (n := 1) (i := 1) 1 (by decide +kernel) rfl rfl ?_
  refine zw_if_lt (pc := 1) (off := 8) (tgt := 9) (by decide +kernel) (by decide) o1 (fun hc => ?_) (fun hc => ?_)
  · replace h := h.1 hc
    refine zw_iconst (pc := 9) (n := (-1)) (by decide +kernel) ?_
    exact zw_iret (pc := 10) (by decide +kernel) rfl (Nat.le_refl _) (Nat.le_refl _) ⟨_, _, rfl, rfl, h⟩
  · replace h := h.2 hc
    refine zw_iload_n (pc := 4) (n := 1) (i := 1) 1 (by decide +kernel) rfl rfl ?_
    refine zw_iconst (pc := 5) (n := 3) (by decide +kernel) ?_
    refine zw_icmp_le (pc := 6) (off := 5) (tgt := 11) (by decide +kernel) (by decide) o1 ⟨by decide, by decide⟩ (fun hc => ?_) (fun hc => ?_)
    · replace h := h.1 hc
      refine zw_aload_n (pc := 11) (n := 0) (i := 0) 0 (by decide +kernel) rfl rfl ?_
      refine zx_getR (pc := 12) (o := 1) (r := 1) zf_10_14 (by decide +kernel) rfl zc_0 rfl (by decide) rfl ?_
      refine zx_getR (pc := 15) (o := 2) (r := 3) zf_10_174 (by decide +kernel) rfl zc_1 rfl (by decide) rfl ?_
      refine zx_callV (pc := 18) (As := []) h zi_X3_isMissing zii_X3_isMissing zie_X3_isMissing zl_10_182 (by decide +kernel) ⟨Nat.le_of_ble_eq_true rfl, Nat.le_of_ble_eq_true rfl⟩ rfl zc_3 (by decide) rfl rfl ⟨rfl, rfl⟩ ⟨Nat.zero_le _, Nat.zero_le _⟩ (zki (fun x3 μ2 h => ?_))
      obtain ⟨o4, h⟩ := h
      refine zw_if_eq (pc := 21) (off := 6) (tgt := 27) (by decide +kernel) (by decide) o4 (fun hc => ?_) (fun hc => ?_)
      · replace h := h.1 hc
        refine zw_iload_n (pc := 27) (n := 1) (i := 1) 1 (by decide +kernel) rfl rfl ?_
        by_cases e7 : v1 < 0 ∨ 2 < v1
        · replace h := h.1 e7
          refine zw_swOut (pc := 28) (tgt := 97) (by decide +kernel : decode zm_X10_equation.2.1 28 = .ok (.tableswitch 69 0 2 #[28, 39, 50], 28)) o1 e7 (by decide) ?_
          refine zw_aload_n (pc := 97) (n := 0) (i := 0) 0 (by decide +kernel) rfl rfl ?_
          refine zx_getR (pc := 98) (o := 1) (r := 1) zf_10_14 (by decide +kernel) rfl zc_0 rfl (by decide) rfl ?_
          refine zx_getR (pc := 101) (o := 2) (r := 3) zf_10_174 (by decide +kernel) rfl zc_1 rfl (by decide) rfl ?_
          refine zx_callV (pc := 104) (As := []) h zi_X3_nonzeroCount zii_X3_nonzeroCount zie_X3_nonzeroCount zl_10_194 (by decide +kernel) ⟨Nat.le_of_ble_eq_true rfl, Nat.le_of_ble_eq_true rfl⟩ rfl zc_3 (by decide) rfl rfl ⟨rfl, rfl⟩ ⟨Nat.zero_le _, Nat.zero_le _⟩ (zki (fun x6 μ5 h => ?_))
          exact zw_iret (pc := 107) (by decide +kernel) rfl (Nat.le_refl _) (Nat.le_refl _) ⟨_, _, rfl, rfl, h⟩
        · replace h := h.2
          rcases (show v1 = 0 ∨ v1 = 1 ∨ v1 = 2 by omega) with e7 | e7 | e7
          · replace h := h.1 e7
            refine zw_swIn (pc := 28) (off := 28) (tgt := 56) (by decide +kernel : decode zm_X10_equation.2.1 28 = .ok (.tableswitch 69 0 2 #[28, 39, 50], 28)) o1 (by omega) (by omega) (by rw [e7]; rfl) (by decide) ?_
            refine zw_aload_n (pc := 56) (n := 0) (i := 0) 0 (by decide +kernel) rfl rfl ?_
            refine zx_getR (pc := 57) (o := 1) (r := 1) zf_10_14 (by decide +kernel) rfl zc_0 rfl (by decide) rfl ?_
            refine zx_getR (pc := 60) (o := 2) (r := 3) zf_10_174 (by decide +kernel) rfl zc_1 rfl (by decide) rfl ?_
            refine zx_getI (pc := 63) zf_10_185 (by decide +kernel) rfl zc_3 ?_
            exact zw_iret (pc := 66) (by decide +kernel) rfl (Nat.le_refl _) (Nat.le_refl _) ⟨_, _, rfl, rfl, h⟩
          · replace h := h.2.1 e7
            refine zw_swIn (pc := 28) (off := 39) (tgt := 67) (by decide +kernel : decode zm_X10_equation.2.1 28 = .ok (.tableswitch 69 0 2 #[28, 39, 50], 28)) o1 (by omega) (by omega) (by rw [e7]; rfl) (by decide) ?_
            refine zw_aload_n (pc := 67) (n := 0) (i := 0) 0 (by decide +kernel) rfl rfl ?_
            refine zx_getR (pc := 68) (o := 1) (r := 1) zf_10_14 (by decide +kernel) rfl zc_0 rfl (by decide) rfl ?_
            refine zx_getR (pc := 71) (o := 2) (r := 3) zf_10_174 (by decide +kernel) rfl zc_1 rfl (by decide) rfl ?_
            refine zx_callV (pc := 74) (As := []) h zi_X3_leadingTerm zii_X3_leadingTerm zie_X3_leadingTerm zl_10_188 (by decide +kernel) ⟨Nat.le_of_ble_eq_true rfl, Nat.le_of_ble_eq_true rfl⟩ rfl zc_3 (by decide) rfl rfl ⟨rfl, rfl⟩ ⟨Nat.zero_le _, Nat.zero_le _⟩ (zki (fun x9 μ8 h => ?_))
            exact zw_iret (pc := 77) (by decide +kernel) rfl (Nat.le_refl _) (Nat.le_refl _) ⟨_, _, rfl, rfl, h⟩
          · replace h := h.2.2 e7
            refine zw_swIn (pc := 28) (off := 50) (tgt := 78) (by decide +kernel : decode zm_X10_equation.2.1 28 = .ok (.tableswitch 69 0 2 #[28, 39, 50], 28)) o1 (by omega) (by omega) (by rw [e7]; rfl) (by decide) ?_
            refine zw_aload_n (pc := 78) (n := 0) (i := 0) 0 (by decide +kernel) rfl rfl ?_
            refine zx_getR (pc := 79) (o := 1) (r := 1) zf_10_14 (by decide +kernel) rfl zc_0 rfl (by decide) rfl ?_
            refine zx_getR (pc := 82) (o := 2) (r := 3) zf_10_174 (by decide +kernel) rfl zc_1 rfl (by decide) rfl ?_
            refine zx_callV (pc := 85) (As := []) h zi_X3_isSymmetric zii_X3_isSymmetric zie_X3_isSymmetric zl_10_191 (by decide +kernel) ⟨Nat.le_of_ble_eq_true rfl, Nat.le_of_ble_eq_true rfl⟩ rfl zc_3 (by decide) rfl rfl ⟨rfl, rfl⟩ ⟨Nat.zero_le _, Nat.zero_le _⟩ (zki (fun x11 μ10 h => ?_))
            obtain ⟨o12, h⟩ := h
            refine zw_if_eq (pc := 88) (off := 7) (tgt := 95) (by decide +kernel) (by decide) o12 (fun hc => ?_) (fun hc => ?_)
            · replace h := h.1 hc
              refine zw_iconst (pc := 95) (n := 0) (by decide +kernel) ?_
              exact zw_iret (pc := 96) (by decide +kernel) rfl (Nat.le_refl _) (Nat.le_refl _) ⟨_, _, rfl, rfl, h⟩
            · replace h := h.2 hc
              refine zw_iconst (pc := 91) (n := 1) (by decide +kernel) ?_
              refine zw_goto (pc := 92) (off := 4) (tgt := 96) (by decide +kernel) (by decide) ?_
              exact zw_iret (pc := 96) (by decide +kernel) rfl (Nat.le_refl _) (Nat.le_refl _) ⟨_, _, rfl, rfl, h⟩
      · replace h := h.2 hc
        refine zw_bipush (pc := 24) (n := (-11)) (by decide +kernel) (by decide +kernel) ?_
        exact zw_iret (pc := 26) (by decide +kernel) rfl (Nat.le_refl _) (Nat.le_refl _) ⟨_, _, rfl, rfl, h⟩
    · replace h := h.2 hc
      refine zw_iconst (pc := 9) (n := (-1)) (by decide +kernel) ?_
      exact zw_iret (pc := 10) (by decide +kernel) rfl (Nat.le_refl _) (Nat.le_refl _) ⟨_, _, rfl, rfl, h⟩
theorem sg_X10_term {g : zG} {φ : Int → zMu → Prop} {v1 : Int} {v2 : Int} {μ : zMu}
    (h : (zR v1) ∧ ((v1 < 0 → φ (-1) μ) ∧ (0 ≤ v1 → ((8 < v1 → φ (-1) μ) ∧ (v1 ≤ 8 → (zR v2) ∧ ((v2 < 0 → φ (-1) μ) ∧ (0 ≤ v2 → ((v2 ≤ 8 → zOi g zm_X3_isMissing [.ref 3] μ (fun x4 μ3 => (zR x4) ∧ ((x4 = 0 → zOi g zm_X3_has [.ref 3, .int (zJ v1), .int (zJ v2)] μ3 (fun x7 μ6 => (zR x7) ∧ ((x7 = 0 → φ (-1) μ6) ∧ (¬ x7 = 0 → (0 ≤ ((9 * v1) + v2) ∧ ((9 * v1) + v2) < 81) ∧ φ (μ6 4 (Int.toNat ((9 * v1) + v2))) μ6)))) ∧ (¬ x4 = 0 → φ (-11) μ3)))) ∧ (8 < v2 → φ (-1) μ))))))))) : zOi g zm_X10_term [.ref 0, .int (zJ v1), .int (zJ v2)] μ φ := by
  refine zok_of (by decide +kernel) rfl ?_
  show zWP g zm_X10_term (zmo g zm_X10_term (zΦi φ)) 0 [(0, .ref 0), (1, .int (zJ v1)), (2, .int (zJ v2))] [] 0 0 (zw μ)
  obtain ⟨o1, h⟩ := h
  refine zw_iload_n (pc := 0) (n := 1) (i := 1) 1 (by decide +kernel) rfl rfl ?_
  refine zw_if_lt (pc := 1) (off := 19) (tgt := 20) (by decide +kernel) (by decide) o1 (fun hc => ?_) (fun hc => ?_)
  · replace h := h.1 hc
    refine zw_iconst (pc := 20) (n := (-1)) (by decide +kernel) ?_
    exact zw_iret (pc := 21) (by decide +kernel) rfl (Nat.le_refl _) (Nat.le_refl _) ⟨_, _, rfl, rfl, h⟩
  · replace h := h.2 hc
    refine zw_iload_n (pc := 4) (n := 1) (i := 1) 1 (by decide +kernel) rfl rfl ?_
    refine zw_bipush (pc := 5) (n := 8) (by decide +kernel) (by decide +kernel) ?_
    refine zw_icmp_gt (pc := 7) (off := 13) (tgt := 20) (by decide +kernel) (by decide) o1 ⟨by decide, by decide⟩ (fun hc => ?_) (fun hc => ?_)
    · replace h := h.1 hc
      refine zw_iconst (pc := 20) (n := (-1)) (by decide +kernel) ?_
      exact zw_iret (pc := 21) (by decide +kernel) rfl (Nat.le_refl _) (Nat.le_refl _) ⟨_, _, rfl, rfl, h⟩
    · replace h := h.2 hc
      obtain ⟨o2, h⟩ := h
      refine zw_iload_n (pc := 10) (n := 2) (i := 2) 2 (by decide +kernel) rfl rfl ?_
      refine zw_if_lt (pc := 11) (off := 9) (tgt := 20) (by decide +kernel) (by decide) o2 (fun hc => ?_) (fun hc => ?_)
      · replace h := h.1 hc
        refine zw_iconst (pc := 20) (n := (-1)) (by decide +kernel) ?_
        exact zw_iret (pc := 21) (by decide +kernel) rfl (Nat.le_refl _) (Nat.le_refl _) ⟨_, _, rfl, rfl, h⟩
      · replace h := h.2 hc
        refine zw_iload_n (pc := 14) (n := 2) (i := 2) 2 (by decide +kernel) rfl rfl ?_
        refine zw_bipush (pc := 15) (n := 8) (by decide +kernel) (by decide +kernel) ?_
        refine zw_icmp_le (pc := 17) (off := 5) (tgt := 22) (by decide +kernel) (by decide) o2 ⟨by decide, by decide⟩ (fun hc => ?_) (fun hc => ?_)
        · replace h := h.1 hc
          refine zw_aload_n (pc := 22) (n := 0) (i := 0) 0 (by decide +kernel) rfl rfl ?_
          refine zx_getR (pc := 23) (o := 1) (r := 1) zf_10_14 (by decide +kernel) rfl zc_0 rfl (by decide) rfl ?_
          refine zx_getR (pc := 26) (o := 2) (r := 3) zf_10_174 (by decide +kernel) rfl zc_1 rfl (by decide) rfl ?_
          refine zx_callV (pc := 29) (As := []) h zi_X3_isMissing zii_X3_isMissing zie_X3_isMissing zl_10_182 (by decide +kernel) ⟨Nat.le_of_ble_eq_true rfl, Nat.le_of_ble_eq_true rfl⟩ rfl zc_3 (by decide) rfl rfl ⟨rfl, rfl⟩ ⟨Nat.zero_le _, Nat.zero_le _⟩ (zki (fun x4 μ3 h => ?_))
          obtain ⟨o5, h⟩ := h
          refine zw_if_eq (pc := 32) (off := 6) (tgt := 38) (by decide +kernel) (by decide) o5 (fun hc => ?_) (fun hc => ?_)
          · replace h := h.1 hc
            refine zw_aload_n (pc := 38) (n := 0) (i := 0) 0 (by decide +kernel) rfl rfl ?_
            refine zx_getR (pc := 39) (o := 1) (r := 1) zf_10_14 (by decide +kernel) rfl zc_0 rfl (by decide) rfl ?_
            refine zx_getR (pc := 42) (o := 2) (r := 3) zf_10_174 (by decide +kernel) rfl zc_1 rfl (by decide) rfl ?_
            refine zw_iload_n (pc := 45) (n := 1) (i := 1) 1 (by decide +kernel) rfl rfl ?_
            refine zw_iload_n (pc := 46) (n := 2) (i := 2) 2 (by decide +kernel) rfl rfl ?_
            refine zx_callV (pc := 47) (As := [.int (zJ v1), .int (zJ v2)]) h zi_X3_has zii_X3_has zie_X3_has zl_10_197 (by decide +kernel) ⟨Nat.le_of_ble_eq_true rfl, Nat.le_of_ble_eq_true rfl⟩ rfl zc_3 (by decide) rfl rfl ⟨rfl, rfl⟩ ⟨Nat.zero_le _, Nat.zero_le _⟩ (zki (fun x7 μ6 h => ?_))
            obtain ⟨o8, h⟩ := h
            refine zw_if_eq (pc := 50) (off := 23) (tgt := 73) (by decide +kernel) (by decide) o8 (fun hc => ?_) (fun hc => ?_)
            · replace h := h.1 hc
              refine zw_iconst (pc := 73) (n := (-1)) (by decide +kernel) ?_
              exact zw_iret (pc := 74) (by decide +kernel) rfl (Nat.le_refl _) (Nat.le_refl _) ⟨_, _, rfl, rfl, h⟩
            · replace h := h.2 hc
              obtain ⟨o9, h⟩ := h
              refine zw_aload_n (pc := 53) (n := 0) (i := 0) 0 (by decide +kernel) rfl rfl ?_
              refine zx_getR (pc := 54) (o := 1) (r := 1) zf_10_14 (by decide +kernel) rfl zc_0 rfl (by decide) rfl ?_
              refine zx_getR (pc := 57) (o := 2) (r := 3) zf_10_174 (by decide +kernel) rfl zc_1 rfl (by decide) rfl ?_
              refine zx_getR (pc := 60) (o := 1) (r := 4) zf_10_201 (by decide +kernel) rfl zc_3 rfl (by decide) rfl ?_
              refine zw_bipush (pc := 63) (n := 9) (by decide +kernel) (by decide +kernel) ?_
              refine zw_iload_n (pc := 65) (n := 1) (i := 1) 1 (by decide +kernel) rfl rfl ?_
              refine zw_imul (pc := 66) (by decide +kernel) ?_
              refine zw_iload_n (pc := 67) (n := 2) (i := 2) 2 (by decide +kernel) rfl rfl ?_
              refine zw_iadd (pc := 68) (by decide +kernel) ?_
              refine zx_iaload (pc := 69) (by decide +kernel) ⟨81, zc_4, o9.1, o9.2⟩ ?_
              refine zw_goto (pc := 70) (off := 4) (tgt := 74) (by decide +kernel) (by decide) ?_
              exact zw_iret (pc := 74) (by decide +kernel) rfl (Nat.le_refl _) (Nat.le_refl _) ⟨_, _, rfl, rfl, h⟩
          · replace h := h.2 hc
            refine zw_bipush (pc := 35) (n := (-11)) (by decide +kernel) (by decide +kernel) ?_
            exact zw_iret (pc := 37) (by decide +kernel) rfl (Nat.le_refl _) (Nat.le_refl _) ⟨_, _, rfl, rfl, h⟩
        · replace h := h.2 hc
          refine zw_iconst (pc := 20) (n := (-1)) (by decide +kernel) ?_
          exact zw_iret (pc := 21) (by decide +kernel) rfl (Nat.le_refl _) (Nat.le_refl _) ⟨_, _, rfl, rfl, h⟩
