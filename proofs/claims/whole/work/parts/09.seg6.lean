theorem zS_cast {i j k n : Nat} (h : zS i k n) (e : i = j) : zS j k n := e ▸ h
theorem sg_X6_become {g : zG} {φ : zMu → Prop} {c : Nat} {v1 : Int} {v2 : Int} {v3 : Nat} {μ : zMu} (h_c : zS c 6 3)
    (h : (∃ n0 n1, zS v3 12 n0 ∧ zS (c + 1) 12 n1 ∧ 0 ≤ (0 : Int) ∧ 0 ≤ (0 : Int) ∧ 0 ≤ v2 ∧ (0 : Int) + v2 ≤ n0 ∧ (0 : Int) + v2 ≤ n1) ∧ φ (zcp (zup (zup μ c 1 v1) c 2 v2) v3 0 (c + 1) 0 v2.toNat)) : zOv g zm_X6_become [.ref c, .int (zJ v1), .int (zJ v2), .ref v3] μ φ := by
  refine zok_of (by decide +kernel) rfl ?_
  show zWP g zm_X6_become (zmo g zm_X6_become (zΦv φ)) 0 [(0, .ref c), (1, .int (zJ v1)), (2, .int (zJ v2)), (3, .ref v3)] [] 0 0 (zw μ)
  obtain ⟨o2, h⟩ := h
  refine zw_aload_n (pc := 0) (n := 0) (i := 0) 0 (by decide +kernel) rfl rfl ?_
  refine zw_iload_n (pc := 1) (n := 1) (i := 1) 1 (by decide +kernel) rfl rfl ?_
  refine zx_putI (pc := 2) zf_6_15 (by decide +kernel) rfl h_c ?_
  refine zw_aload_n (pc := 5) (n := 0) (i := 0) 0 (by decide +kernel) rfl rfl ?_
  refine zw_iload_n (pc := 6) (n := 2) (i := 2) 2 (by decide +kernel) rfl rfl ?_
  refine zx_putI (pc := 7) zf_6_19 (by decide +kernel) rfl h_c ?_
  refine zw_aload_n (pc := 10) (n := 3) (i := 3) 3 (by decide +kernel) rfl rfl ?_
  refine zw_iconst (pc := 11) (n := 0) (by decide +kernel) ?_
  refine zw_aload_n (pc := 12) (n := 0) (i := 0) 0 (by decide +kernel) rfl rfl ?_
  have q1 : zS (c + 1) 12 80 := zq 0 h_c rfl
  refine zx_getR (pc := 13) (o := 1) (r := (c + 1)) zf_6_9 (by decide +kernel) rfl h_c rfl (by decide) rfl ?_
  refine zw_iconst (pc := 16) (n := 0) (by decide +kernel) ?_
  refine zw_iload_n (pc := 17) (n := 2) (i := 2) 2 (by decide +kernel) rfl rfl ?_
  refine zx_copy (pc := 18) zl_6_22 zb_cpN zb_cpS zb_cpI (by decide +kernel) ⟨Nat.le_of_ble_eq_true rfl, by decide +kernel⟩ rfl o2 ?_
  exact zw_vret (pc := 21) (by decide +kernel) rfl (Nat.le_refl _) (Nat.le_refl _) ⟨_, rfl, rfl, h⟩
theorem sg_X6_isMissing {g : zG} {φ : Int → zMu → Prop} {c : Nat} {μ : zMu} (h_c : zS c 6 3)
    (h : (zR (μ c 2)) ∧ ((¬ (μ c 2) = 0 → φ 0 μ) ∧ ((μ c 2) = 0 → φ 1 μ))) : zOi g zm_X6_isMissing [.ref c] μ φ := by
  refine zok_of (by decide +kernel) rfl ?_
  show zWP g zm_X6_isMissing (zmo g zm_X6_isMissing (zΦi φ)) 0 [(0, .ref c)] [] 0 0 (zw μ)
  obtain ⟨o1, h⟩ := h
  refine zw_aload_n (pc := 0) (n := 0) (i := 0) 0 (by decide +kernel) rfl rfl ?_
  refine zx_getI (pc := 1) zf_6_19 (by decide +kernel) rfl h_c ?_
  refine zw_if_ne (pc := 4) (off := 7) (tgt := 11) (by decide +kernel) (by decide) o1 (fun hc => ?_) (fun hc => ?_)
  · replace h := h.1 hc
    refine zw_iconst (pc := 11) (n := 0) (by decide +kernel) ?_
    exact zw_zret (pc := 12) (by decide +kernel) rfl (Nat.le_refl _) (Nat.le_refl _) (Or.inl rfl) ⟨_, _, rfl, rfl, h⟩
  · replace h := h.2 hc
    refine zw_iconst (pc := 7) (n := 1) (by decide +kernel) ?_
    refine zw_goto (pc := 8) (off := 4) (tgt := 12) (by decide +kernel) (by decide) ?_
    exact zw_zret (pc := 12) (by decide +kernel) rfl (Nat.le_refl _) (Nat.le_refl _) (Or.inr rfl) ⟨_, _, rfl, rfl, h⟩
theorem sg_X6_last {g : zG} {φ : Int → zMu → Prop} {c : Nat} {μ : zMu} (h_c : zS c 6 3)
    (h : φ (((μ c 1) + (μ c 2)) - 1) μ) : zOi g zm_X6_last [.ref c] μ φ := by
  refine zok_of (by decide +kernel) rfl ?_
  show zWP g zm_X6_last (zmo g zm_X6_last (zΦi φ)) 0 [(0, .ref c)] [] 0 0 (zw μ)
  refine zw_aload_n (pc := 0) (n := 0) (i := 0) 0 (by decide +kernel) rfl rfl ?_
  refine zx_getI (pc := 1) zf_6_15 (by decide +kernel) rfl h_c ?_
  refine zw_aload_n (pc := 4) (n := 0) (i := 0) 0 (by decide +kernel) rfl rfl ?_
  refine zx_getI (pc := 5) zf_6_19 (by decide +kernel) rfl h_c ?_
  refine zw_iadd (pc := 8) (by decide +kernel) ?_
  refine zw_iconst (pc := 9) (n := 1) (by decide +kernel) ?_
  refine zw_isub (pc := 10) (by decide +kernel) ?_
  exact zw_iret (pc := 11) (by decide +kernel) rfl (Nat.le_refl _) (Nat.le_refl _) ⟨_, _, rfl, rfl, h⟩
theorem sg_X6_valueOf {g : zG} {φ : Int → zMu → Prop} {c : Nat} {v1 : Int} {μ : zMu} (h_c : zS c 6 3)
    (h : (zR v1) ∧ (zR (μ c 1)) ∧ (((μ c 1) ≤ v1 → (0 ≤ (v1 - (μ c 1)) ∧ (v1 - (μ c 1)) < 80) ∧ φ (μ (c + 1) (v1 - (μ c 1)).toNat) μ) ∧ (v1 < (μ c 1) → φ 0 μ))) : zOi g zm_X6_valueOf [.ref c, .int (zJ v1)] μ φ := by
  refine zok_of (by decide +kernel) rfl ?_
  show zWP g zm_X6_valueOf (zmo g zm_X6_valueOf (zΦi φ)) 0 [(0, .ref c), (1, .int (zJ v1))] [] 0 0 (zw μ)
  obtain ⟨o1, o2, h⟩ := h
  refine zw_iload_n (pc := 0) (n := 1) (i := 1) 1 (by decide +kernel) rfl rfl ?_
  refine zw_aload_n (pc := 1) (n := 0) (i := 0) 0 (by decide +kernel) rfl rfl ?_
  refine zx_getI (pc := 2) zf_6_15 (by decide +kernel) rfl h_c ?_
  refine zw_icmp_ge (pc := 5) (off := 7) (tgt := 12) (by decide +kernel) (by decide) o1 o2 (fun hc => ?_) (fun hc => ?_)
  · replace h := h.1 hc
    obtain ⟨o4, h⟩ := h
    refine zw_aload_n (pc := 12) (n := 0) (i := 0) 0 (by decide +kernel) rfl rfl ?_
    have q3 : zS (c + 1) 12 80 := zq 0 h_c rfl
    refine zx_getR (pc := 13) (o := 1) (r := (c + 1)) zf_6_9 (by decide +kernel) rfl h_c rfl (by decide) rfl ?_
    refine zw_iload_n (pc := 16) (n := 1) (i := 1) 1 (by decide +kernel) rfl rfl ?_
    refine zw_aload_n (pc := 17) (n := 0) (i := 0) 0 (by decide +kernel) rfl rfl ?_
    refine zx_getI (pc := 18) zf_6_15 (by decide +kernel) rfl h_c ?_
    refine zw_isub (pc := 21) (by decide +kernel) ?_
    refine zx_iaload (pc := 22) (by decide +kernel) ⟨80, q3, o4.1, o4.2⟩ ?_
    exact zw_iret (pc := 23) (by decide +kernel) rfl (Nat.le_refl _) (Nat.le_refl _) ⟨_, _, rfl, rfl, h⟩
  · replace h := h.2 hc
    refine zw_iconst (pc := 8) (n := 0) (by decide +kernel) ?_
    refine zw_goto (pc := 9) (off := 14) (tgt := 23) (by decide +kernel) (by decide) ?_
    exact zw_iret (pc := 23) (by decide +kernel) rfl (Nat.le_refl _) (Nat.le_refl _) ⟨_, _, rfl, rfl, h⟩
abbrev at_X6_firstNonzero_2 (g : zG) (φ : Int → zMu → Prop) (c : Nat) (v1 : Int) (μ : zMu) : Prop := zWP g zm_X6_firstNonzero (zmo g zm_X6_firstNonzero (zΦi φ)) 2 [(0, .ref c), (1, .int (zJ v1))] [] 0 0 (zw μ)
theorem sg_X6_firstNonzero {g : zG} {φ : Int → zMu → Prop} {c : Nat} {μ : zMu} (h_c : zS c 6 3)
    (h : at_X6_firstNonzero_2 g φ c 0 μ) : zOi g zm_X6_firstNonzero [.ref c] μ φ := by
  refine zok_of (by decide +kernel) rfl ?_
  show zWP g zm_X6_firstNonzero (zmo g zm_X6_firstNonzero (zΦi φ)) 0 [(0, .ref c)] [] 0 0 (zw μ)
  refine zw_iconst (pc := 0) (n := 0) (by decide +kernel) ?_
  refine zw_istore_n (pc := 1) (n := 1) (i := 1) (lv' := [(0, .ref c), (1, .int (zJ 0))]) (by decide +kernel) rfl (Nat.le_of_ble_eq_true rfl) rfl ?_
  exact h
theorem sg_X6_firstNonzero_2 {g : zG} {φ : Int → zMu → Prop} {c : Nat} {v1 : Int} {μ : zMu} (h_c : zS c 6 3)
    (h : (zR v1) ∧ (zR (μ c 2)) ∧ (((μ c 2) ≤ v1 → φ (-1) μ) ∧ (v1 < (μ c 2) → (0 ≤ v1 ∧ v1 < 80) ∧ (zR (μ (c + 1) v1.toNat)) ∧ (((μ (c + 1) v1.toNat) = 0 → at_X6_firstNonzero_2 g φ c (v1 + 1) μ) ∧ (¬ (μ (c + 1) v1.toNat) = 0 → φ v1 μ))))) : at_X6_firstNonzero_2 g φ c v1 μ := by
  obtain ⟨o1, o2, h⟩ := h
  refine zw_iload_n (pc := 2) (n := 1) (i := 1) 1 (by decide +kernel) rfl rfl ?_
  refine zw_aload_n (pc := 3) (n := 0) (i := 0) 0 (by decide +kernel) rfl rfl ?_
  refine zx_getI (pc := 4) zf_6_19 (by decide +kernel) rfl h_c ?_
  refine zw_icmp_ge (pc := 7) (off := 20) (tgt := 27) (by decide +kernel) (by decide) o1 o2 (fun hc => ?_) (fun hc => ?_)
  · replace h := h.1 hc
    refine zw_iconst (pc := 27) (n := (-1)) (by decide +kernel) ?_
    exact zw_iret (pc := 28) (by decide +kernel) rfl (Nat.le_refl _) (Nat.le_refl _) ⟨_, _, rfl, rfl, h⟩
  · replace h := h.2 hc
    obtain ⟨o4, o5, h⟩ := h
    refine zw_aload_n (pc := 10) (n := 0) (i := 0) 0 (by decide +kernel) rfl rfl ?_
    have q3 : zS (c + 1) 12 80 := zq 0 h_c rfl
    refine zx_getR (pc := 11) (o := 1) (r := (c + 1)) zf_6_9 (by decide +kernel) rfl h_c rfl (by decide) rfl ?_
    refine zw_iload_n (pc := 14) (n := 1) (i := 1) 1 (by decide +kernel) rfl rfl ?_
    refine zx_iaload (pc := 15) (by decide +kernel) ⟨80, q3, o4.1, o4.2⟩ ?_
    refine zw_if_eq (pc := 16) (off := 5) (tgt := 21) (by decide +kernel) (by decide) o5 (fun hc => ?_) (fun hc => ?_)
    · replace h := h.1 hc
      refine zw_iinc (pc := 21) (i := 1) (n := 1) (lv' := [(0, .ref c), (1, .int (zJ (v1 + 1)))]) 1 (by decide +kernel) rfl rfl (Nat.le_of_ble_eq_true rfl) rfl ?_
      refine zw_goto (pc := 24) (off := (-22)) (tgt := 2) (by decide +kernel) (by decide) ?_
      exact h
    · replace h := h.2 hc
      refine zw_iload_n (pc := 19) (n := 1) (i := 1) 1 (by decide +kernel) rfl rfl ?_
      exact zw_iret (pc := 20) (by decide +kernel) rfl (Nat.le_refl _) (Nat.le_refl _) ⟨_, _, rfl, rfl, h⟩
theorem sg_X6_copyFrom {g : zG} {φ : zMu → Prop} {c : Nat} {v1 : Nat} {μ : zMu} (h_c : zS c 6 3) (h_v1 : zS v1 6 3)
    (h : zOv g zm_X6_become [.ref c, .int (zJ (μ v1 1)), .int (zJ (μ v1 2)), .ref (v1 + 1)] μ (fun μ2 => φ μ2)) : zOv g zm_X6_copyFrom [.ref c, .ref v1] μ φ := by
  refine zok_of (by decide +kernel) rfl ?_
  show zWP g zm_X6_copyFrom (zmo g zm_X6_copyFrom (zΦv φ)) 0 [(0, .ref c), (1, .ref v1)] [] 0 0 (zw μ)
  refine zw_aload_n (pc := 0) (n := 0) (i := 0) 0 (by decide +kernel) rfl rfl ?_
  refine zw_aload_n (pc := 1) (n := 1) (i := 1) 1 (by decide +kernel) rfl rfl ?_
  refine zx_getI (pc := 2) zf_6_15 (by decide +kernel) rfl h_v1 ?_
  refine zw_aload_n (pc := 5) (n := 1) (i := 1) 1 (by decide +kernel) rfl rfl ?_
  refine zx_getI (pc := 6) zf_6_19 (by decide +kernel) rfl h_v1 ?_
  refine zw_aload_n (pc := 9) (n := 1) (i := 1) 1 (by decide +kernel) rfl rfl ?_
  have q1 : zS (v1 + 1) 12 80 := zq 0 h_v1 rfl
  refine zx_getR (pc := 10) (o := 1) (r := (v1 + 1)) zf_6_9 (by decide +kernel) rfl h_v1 rfl (by decide) rfl ?_
  refine zx_callV (pc := 13) (As := [.int (zJ (μ v1 1)), .int (zJ (μ v1 2)), .ref (v1 + 1)]) h zi_X6_become zii_X6_become zie_X6_become zl_6_28 (by decide +kernel) ⟨Nat.le_of_ble_eq_true rfl, Nat.le_of_ble_eq_true rfl⟩ rfl h_c (by decide) rfl rfl ⟨rfl, rfl⟩ ⟨Nat.zero_le _, Nat.zero_le _⟩ (zkv (fun μ2 h => ?_))
  exact zw_vret (pc := 16) (by decide +kernel) rfl (Nat.le_refl _) (Nat.le_refl _) ⟨_, rfl, rfl, h⟩
theorem sg_X3_clear {g : zG} {φ : zMu → Prop} {c : Nat} {v1 : Int} {μ : zMu} (h_c : zS c 3 2)
    (h : zOv g zm_J7_fill_53178 [.ref (c + 1), .int (zJ 0)] (zup μ c 1 v1) (fun μ2 => φ μ2)) : zOv g zm_X3_clear [.ref c, .int (zJ v1)] μ φ := by
  refine zok_of (by decide +kernel) rfl ?_
  show zWP g zm_X3_clear (zmo g zm_X3_clear (zΦv φ)) 0 [(0, .ref c), (1, .int (zJ v1))] [] 0 0 (zw μ)
  refine zw_aload_n (pc := 0) (n := 0) (i := 0) 0 (by decide +kernel) rfl rfl ?_
  refine zw_iload_n (pc := 1) (n := 1) (i := 1) 1 (by decide +kernel) rfl rfl ?_
  refine zx_putI (pc := 2) zf_3_15 (by decide +kernel) rfl h_c ?_
  refine zw_aload_n (pc := 5) (n := 0) (i := 0) 0 (by decide +kernel) rfl rfl ?_
  have q1 : zS (c + 1) 12 81 := zq 0 h_c rfl
  refine zx_getR (pc := 6) (o := 1) (r := (c + 1)) zf_3_9 (by decide +kernel) rfl h_c rfl (by decide) rfl ?_
  refine zw_iconst (pc := 9) (n := 0) (by decide +kernel) ?_
  refine zx_callS (pc := 10) (As := [.ref (c + 1), .int (zJ 0)]) h zi_J7_fill_53178 zis_J7_fill_53178 zl_3_19 (by decide +kernel) ⟨Nat.le_of_ble_eq_true rfl, Nat.le_of_ble_eq_true rfl⟩ rfl rfl ⟨rfl, rfl⟩ ⟨Nat.zero_le _, Nat.zero_le _⟩ (zkv (fun μ2 h => ?_))
  exact zw_vret (pc := 13) (by decide +kernel) rfl (Nat.le_refl _) (Nat.le_refl _) ⟨_, rfl, rfl, h⟩
theorem sg_X3_isMissing {g : zG} {φ : Int → zMu → Prop} {c : Nat} {μ : zMu} (h_c : zS c 3 2)
    (h : (zR (μ c 1)) ∧ ((¬ (μ c 1) = 0 → φ 0 μ) ∧ ((μ c 1) = 0 → φ 1 μ))) : zOi g zm_X3_isMissing [.ref c] μ φ := by
  refine zok_of (by decide +kernel) rfl ?_
  show zWP g zm_X3_isMissing (zmo g zm_X3_isMissing (zΦi φ)) 0 [(0, .ref c)] [] 0 0 (zw μ)
  obtain ⟨o1, h⟩ := h
  refine zw_aload_n (pc := 0) (n := 0) (i := 0) 0 (by decide +kernel) rfl rfl ?_
  refine zx_getI (pc := 1) zf_3_15 (by decide +kernel) rfl h_c ?_
  refine zw_if_ne (pc := 4) (off := 7) (tgt := 11) (by decide +kernel) (by decide) o1 (fun hc => ?_) (fun hc => ?_)
  · replace h := h.1 hc
    refine zw_iconst (pc := 11) (n := 0) (by decide +kernel) ?_
    exact zw_zret (pc := 12) (by decide +kernel) rfl (Nat.le_refl _) (Nat.le_refl _) (Or.inl rfl) ⟨_, _, rfl, rfl, h⟩
  · replace h := h.2 hc
    refine zw_iconst (pc := 7) (n := 1) (by decide +kernel) ?_
    refine zw_goto (pc := 8) (off := 4) (tgt := 12) (by decide +kernel) (by decide) ?_
    exact zw_zret (pc := 12) (by decide +kernel) rfl (Nat.le_refl _) (Nat.le_refl _) (Or.inr rfl) ⟨_, _, rfl, rfl, h⟩
abbrev at_X3_leadingTerm_3 (g : zG) (φ : Int → zMu → Prop) (c : Nat) (v1 : Int) (μ : zMu) : Prop := zWP g zm_X3_leadingTerm (zmo g zm_X3_leadingTerm (zΦi φ)) 3 [(0, .ref c), (1, .int (zJ v1))] [] 0 0 (zw μ)
theorem sg_X3_leadingTerm {g : zG} {φ : Int → zMu → Prop} {c : Nat} {μ : zMu} (h_c : zS c 3 2)
    (h : at_X3_leadingTerm_3 g φ c 80 μ) : zOi g zm_X3_leadingTerm [.ref c] μ φ := by
  refine zok_of (by decide +kernel) rfl ?_
  show zWP g zm_X3_leadingTerm (zmo g zm_X3_leadingTerm (zΦi φ)) 0 [(0, .ref c)] [] 0 0 (zw μ)
  refine zw_bipush (pc := 0) (n := 80) (by decide +kernel) (by decide +kernel) ?_
  refine zw_istore_n (pc := 2) (n := 1) (i := 1) (lv' := [(0, .ref c), (1, .int (zJ 80))]) (by decide +kernel) rfl (Nat.le_of_ble_eq_true rfl) rfl ?_
  exact h
theorem sg_X3_leadingTerm_3 {g : zG} {φ : Int → zMu → Prop} {c : Nat} {v1 : Int} {μ : zMu} (h_c : zS c 3 2)
    (h : (zR v1) ∧ ((v1 < 0 → φ (-5) μ) ∧ (0 ≤ v1 → (0 ≤ v1 ∧ v1 < 81) ∧ (zR (μ (c + 1) v1.toNat)) ∧ (((μ (c + 1) v1.toNat) = 0 → at_X3_leadingTerm_3 g φ c (v1 + (-1)) μ) ∧ (¬ (μ (c + 1) v1.toNat) = 0 → φ ((10 * (v1.tdiv 9)) + (v1.tmod 9)) μ))))) : at_X3_leadingTerm_3 g φ c v1 μ := by
  obtain ⟨o1, h⟩ := h
  refine zw_iload_n (pc := 3) (n := 1) (i := 1) 1 (by decide +kernel) rfl rfl ?_
  refine zw_if_lt (pc := 4) (off := 31) (tgt := 35) (by decide +kernel) (by decide) o1 (fun hc => ?_) (fun hc => ?_)
  · replace h := h.1 hc
    refine zw_bipush (pc := 35) (n := (-5)) (by decide +kernel) (by decide +kernel) ?_
    exact zw_iret (pc := 37) (by decide +kernel) rfl (Nat.le_refl _) (Nat.le_refl _) ⟨_, _, rfl, rfl, h⟩
  · replace h := h.2 hc
    obtain ⟨o3, o4, h⟩ := h
    refine zw_aload_n (pc := 7) (n := 0) (i := 0) 0 (by decide +kernel) rfl rfl ?_
    have q2 : zS (c + 1) 12 81 := zq 0 h_c rfl
    refine zx_getR (pc := 8) (o := 1) (r := (c + 1)) zf_3_9 (by decide +kernel) rfl h_c rfl (by decide) rfl ?_
    refine zw_iload_n (pc := 11) (n := 1) (i := 1) 1 (by decide +kernel) rfl rfl ?_
    refine zx_iaload (pc := 12) (by decide +kernel) ⟨81, q2, o3.1, o3.2⟩ ?_
    refine zw_if_eq (pc := 13) (off := 16) (tgt := 29) (by decide +kernel) (by decide) o4 (fun hc => ?_) (fun hc => ?_)
    · replace h := h.1 hc
      refine zw_iinc (pc := 29) (i := 1) (n := (-1)) (lv' := [(0, .ref c), (1, .int (zJ (v1 + (-1))))]) 1 (by decide +kernel) rfl rfl (Nat.le_of_ble_eq_true rfl) rfl ?_
      refine zw_goto (pc := 32) (off := (-29)) (tgt := 3) (by decide +kernel) (by decide) ?_
      exact h
    · replace h := h.2 hc
      refine zw_bipush (pc := 16) (n := 10) (by decide +kernel) (by decide +kernel) ?_
      refine zw_iload_n (pc := 18) (n := 1) (i := 1) 1 (by decide +kernel) rfl rfl ?_
      refine zw_bipush (pc := 19) (n := 9) (by decide +kernel) (by decide +kernel) ?_
      refine zw_idiv (pc := 21) (by decide +kernel) o1 ⟨by decide, by decide⟩ (by decide) ?_
      refine zw_imul (pc := 22) (by decide +kernel) ?_
      refine zw_iload_n (pc := 23) (n := 1) (i := 1) 1 (by decide +kernel) rfl rfl ?_
      refine zw_bipush (pc := 24) (n := 9) (by decide +kernel) (by decide +kernel) ?_
      refine zw_irem (pc := 26) (by decide +kernel) o1 ⟨by decide, by decide⟩ (by decide) ?_
      refine zw_iadd (pc := 27) (by decide +kernel) ?_
      exact zw_iret (pc := 28) (by decide +kernel) rfl (Nat.le_refl _) (Nat.le_refl _) ⟨_, _, rfl, rfl, h⟩
abbrev at_X3_isSymmetric_2 (g : zG) (φ : Int → zMu → Prop) (c : Nat) (v1 : Int) (μ : zMu) : Prop := zWP g zm_X3_isSymmetric (zmo g zm_X3_isSymmetric (zΦi φ)) 2 [(0, .ref c), (1, .int (zJ v1))] [] 0 0 (zw μ)
abbrev at_X3_isSymmetric_12 (g : zG) (φ : Int → zMu → Prop) (c : Nat) (v1 : Int) (v2 : Int) (μ : zMu) : Prop := zWP g zm_X3_isSymmetric (zmo g zm_X3_isSymmetric (zΦi φ)) 12 [(0, .ref c), (1, .int (zJ v1)), (2, .int (zJ v2))] [] 0 0 (zw μ)
theorem sg_X3_isSymmetric {g : zG} {φ : Int → zMu → Prop} {c : Nat} {μ : zMu} (h_c : zS c 3 2)
    (h : at_X3_isSymmetric_2 g φ c 0 μ) : zOi g zm_X3_isSymmetric [.ref c] μ φ := by
  refine zok_of (by decide +kernel) rfl ?_
  show zWP g zm_X3_isSymmetric (zmo g zm_X3_isSymmetric (zΦi φ)) 0 [(0, .ref c)] [] 0 0 (zw μ)
  refine zw_iconst (pc := 0) (n := 0) (by decide +kernel) ?_
  refine zw_istore_n (pc := 1) (n := 1) (i := 1) (lv' := [(0, .ref c), (1, .int (zJ 0))]) (by decide +kernel) rfl (Nat.le_of_ble_eq_true rfl) rfl ?_
  exact h
theorem sg_X3_isSymmetric_2 {g : zG} {φ : Int → zMu → Prop} {c : Nat} {v1 : Int} {μ : zMu} (h_c : zS c 3 2)
    (h : (zR v1) ∧ (zR (μ c 1)) ∧ (((μ c 1) < v1 → φ 1 μ) ∧ (v1 ≤ (μ c 1) → at_X3_isSymmetric_12 g φ c v1 0 μ))) : at_X3_isSymmetric_2 g φ c v1 μ := by
  obtain ⟨o1, o2, h⟩ := h
  refine zw_iload_n (pc := 2) (n := 1) (i := 1) 1 (by decide +kernel) rfl rfl ?_
  refine zw_aload_n (pc := 3) (n := 0) (i := 0) 0 (by decide +kernel) rfl rfl ?_
  refine zx_getI (pc := 4) zf_3_15 (by decide +kernel) rfl h_c ?_
  refine zw_icmp_gt (pc := 7) (off := 49) (tgt := 56) (by decide +kernel) (by decide) o1 o2 (fun hc => ?_) (fun hc => ?_)
  · replace h := h.1 hc
    refine zw_iconst (pc := 56) (n := 1) (by decide +kernel) ?_
    exact zw_zret (pc := 57) (by decide +kernel) rfl (Nat.le_refl _) (Nat.le_refl _) (Or.inr rfl) ⟨_, _, rfl, rfl, h⟩
  · replace h := h.2 hc
    refine zw_iconst (pc := 10) (n := 0) (by decide +kernel) ?_
    refine zw_istore_n (pc := 11) (n := 2) (i := 2) (lv' := [(0, .ref c), (1, .int (zJ v1)), (2, .int (zJ 0))]) (by decide +kernel) rfl (Nat.le_of_ble_eq_true rfl) rfl ?_
    exact h
theorem sg_X3_isSymmetric_12 {g : zG} {φ : Int → zMu → Prop} {c : Nat} {v1 : Int} {v2 : Int} {μ : zMu} (h_c : zS c 3 2)
    (h : (zR v2) ∧ (zR v1) ∧ ((v1 ≤ v2 → at_X3_isSymmetric_2 g φ c (v1 + 1) μ) ∧ (v2 < v1 → (0 ≤ ((9 * v1) + v2) ∧ ((9 * v1) + v2) < 81) ∧ (0 ≤ ((9 * v2) + v1) ∧ ((9 * v2) + v1) < 81) ∧ (zR (μ (c + 1) ((9 * v1) + v2).toNat)) ∧ (zR (μ (c + 1) ((9 * v2) + v1).toNat)) ∧ (((μ (c + 1) ((9 * v1) + v2).toNat) = (μ (c + 1) ((9 * v2) + v1).toNat) → at_X3_isSymmetric_12 g φ c v1 (v2 + 1) μ) ∧ (¬ (μ (c + 1) ((9 * v1) + v2).toNat) = (μ (c + 1) ((9 * v2) + v1).toNat) → φ 0 μ))))) : at_X3_isSymmetric_12 g φ c v1 v2 μ := by
  obtain ⟨o1, o2, h⟩ := h
  refine zw_iload_n (pc := 12) (n := 2) (i := 2) 2 (by decide +kernel) rfl rfl ?_
  refine zw_iload_n (pc := 13) (n := 1) (i := 1) 1 (by decide +kernel) rfl rfl ?_
  refine zw_icmp_ge (pc := 14) (off := 36) (tgt := 50) (by decide +kernel) (by decide) o1 o2 (fun hc => ?_) (fun hc => ?_)
  · replace h := h.1 hc
    refine zw_iinc (pc := 50) (i := 1) (n := 1) (lv' := [(0, .ref c), (1, .int (zJ (v1 + 1))), (2, .int (zJ v2))]) 1 (by decide +kernel) rfl rfl (Nat.le_of_ble_eq_true rfl) rfl ?_
    refine zw_goto (pc := 53) (off := (-51)) (tgt := 2) (by decide +kernel) (by decide) ?_
    exact zw_pick (lv' := [(0, .ref c), (1, .int (zJ (v1 + 1)))]) [0, 1] rfl h
  · replace h := h.2 hc
    obtain ⟨o4, o6, o7, o8, h⟩ := h
    refine zw_aload_n (pc := 17) (n := 0) (i := 0) 0 (by decide +kernel) rfl rfl ?_
    have q3 : zS (c + 1) 12 81 := zq 0 h_c rfl
    refine zx_getR (pc := 18) (o := 1) (r := (c + 1)) zf_3_9 (by decide +kernel) rfl h_c rfl (by decide) rfl ?_
    refine zw_bipush (pc := 21) (n := 9) (by decide +kernel) (by decide +kernel) ?_
    refine zw_iload_n (pc := 23) (n := 1) (i := 1) 1 (by decide +kernel) rfl rfl ?_
    refine zw_imul (pc := 24) (by decide +kernel) ?_
    refine zw_iload_n (pc := 25) (n := 2) (i := 2) 2 (by decide +kernel) rfl rfl ?_
    refine zw_iadd (pc := 26) (by decide +kernel) ?_
    refine zx_iaload (pc := 27) (by decide +kernel) ⟨81, q3, o4.1, o4.2⟩ ?_
    refine zw_aload_n (pc := 28) (n := 0) (i := 0) 0 (by decide +kernel) rfl rfl ?_
    have q5 : zS (c + 1) 12 81 := zq 0 h_c rfl
    refine zx_getR (pc := 29) (o := 1) (r := (c + 1)) zf_3_9 (by decide +kernel) rfl h_c rfl (by decide) rfl ?_
    refine zw_bipush (pc := 32) (n := 9) (by decide +kernel) (by decide +kernel) ?_
    refine zw_iload_n (pc := 34) (n := 2) (i := 2) 2 (by decide +kernel) rfl rfl ?_
    refine zw_imul (pc := 35) (by decide +kernel) ?_
    refine zw_iload_n (pc := 36) (n := 1) (i := 1) 1 (by decide +kernel) rfl rfl ?_
    refine zw_iadd (pc := 37) (by decide +kernel) ?_
    refine zx_iaload (pc := 38) (by decide +kernel) ⟨81, q5, o6.1, o6.2⟩ ?_
    refine zw_icmp_eq (pc := 39) (off := 5) (tgt := 44) (by decide +kernel) (by decide) o7 o8 (fun hc => ?_) (fun hc => ?_)
    · replace h := h.1 hc
      refine zw_iinc (pc := 44) (i := 2) (n := 1) (lv' := [(0, .ref c), (1, .int (zJ v1)), (2, .int (zJ (v2 + 1)))]) 2 (by decide +kernel) rfl rfl (Nat.le_of_ble_eq_true rfl) rfl ?_
      refine zw_goto (pc := 47) (off := (-35)) (tgt := 12) (by decide +kernel) (by decide) ?_
      exact h
    · replace h := h.2 hc
      refine zw_iconst (pc := 42) (n := 0) (by decide +kernel) ?_
      exact zw_zret (pc := 43) (by decide +kernel) rfl (Nat.le_refl _) (Nat.le_refl _) (Or.inl rfl) ⟨_, _, rfl, rfl, h⟩
abbrev at_X3_nonzeroCount_4 (g : zG) (φ : Int → zMu → Prop) (c : Nat) (v1 : Int) (v2 : Int) (μ : zMu) : Prop := zWP g zm_X3_nonzeroCount (zmo g zm_X3_nonzeroCount (zΦi φ)) 4 [(0, .ref c), (1, .int (zJ v1)), (2, .int (zJ v2))] [] 0 0 (zw μ)
theorem sg_X3_nonzeroCount {g : zG} {φ : Int → zMu → Prop} {c : Nat} {μ : zMu} (h_c : zS c 3 2)
    (h : at_X3_nonzeroCount_4 g φ c 0 0 μ) : zOi g zm_X3_nonzeroCount [.ref c] μ φ := by
  refine zok_of (by decide +kernel) rfl ?_
  show zWP g zm_X3_nonzeroCount (zmo g zm_X3_nonzeroCount (zΦi φ)) 0 [(0, .ref c)] [] 0 0 (zw μ)
  refine zw_iconst (pc := 0) (n := 0) (by decide +kernel) ?_
  refine zw_istore_n (pc := 1) (n := 1) (i := 1) (lv' := [(0, .ref c), (1, .int (zJ 0))]) (by decide +kernel) rfl (Nat.le_of_ble_eq_true rfl) rfl ?_
  refine zw_iconst (pc := 2) (n := 0) (by decide +kernel) ?_
  refine zw_istore_n (pc := 3) (n := 2) (i := 2) (lv' := [(0, .ref c), (1, .int (zJ 0)), (2, .int (zJ 0))]) (by decide +kernel) rfl (Nat.le_of_ble_eq_true rfl) rfl ?_
  exact h
theorem sg_X3_nonzeroCount_4 {g : zG} {φ : Int → zMu → Prop} {c : Nat} {v1 : Int} {v2 : Int} {μ : zMu} (h_c : zS c 3 2)
    (h : (zR v2) ∧ ((81 ≤ v2 → φ v1 μ) ∧ (v2 < 81 → (0 ≤ v2 ∧ v2 < 81) ∧ (zR (μ (c + 1) v2.toNat)) ∧ (((μ (c + 1) v2.toNat) = 0 → at_X3_nonzeroCount_4 g φ c v1 (v2 + 1) μ) ∧ (¬ (μ (c + 1) v2.toNat) = 0 → at_X3_nonzeroCount_4 g φ c (v1 + 1) (v2 + 1) μ))))) : at_X3_nonzeroCount_4 g φ c v1 v2 μ := by
  obtain ⟨o1, h⟩ := h
  refine zw_iload_n (pc := 4) (n := 2) (i := 2) 2 (by decide +kernel) rfl rfl ?_
  refine zw_bipush (pc := 5) (n := 81) (by decide +kernel) (by decide +kernel) ?_
  refine zw_icmp_ge (pc := 7) (off := 21) (tgt := 28) (by decide +kernel) (by decide) o1 ⟨by decide, by decide⟩ (fun hc => ?_) (fun hc => ?_)
  · replace h := h.1 hc
    refine zw_iload_n (pc := 28) (n := 1) (i := 1) 1 (by decide +kernel) rfl rfl ?_
    exact zw_iret (pc := 29) (by decide +kernel) rfl (Nat.le_refl _) (Nat.le_refl _) ⟨_, _, rfl, rfl, h⟩
  · replace h := h.2 hc
    obtain ⟨o3, o4, h⟩ := h
    refine zw_aload_n (pc := 10) (n := 0) (i := 0) 0 (by decide +kernel) rfl rfl ?_
    have q2 : zS (c + 1) 12 81 := zq 0 h_c rfl
    refine zx_getR (pc := 11) (o := 1) (r := (c + 1)) zf_3_9 (by decide +kernel) rfl h_c rfl (by decide) rfl ?_
    refine zw_iload_n (pc := 14) (n := 2) (i := 2) 2 (by decide +kernel) rfl rfl ?_
    refine zx_iaload (pc := 15) (by decide +kernel) ⟨81, q2, o3.1, o3.2⟩ ?_
    refine zw_if_eq (pc := 16) (off := 6) (tgt := 22) (by decide +kernel) (by decide) o4 (fun hc => ?_) (fun hc => ?_)
    · replace h := h.1 hc
      refine zw_iinc (pc := 22) (i := 2) (n := 1) (lv' := [(0, .ref c), (1, .int (zJ v1)), (2, .int (zJ (v2 + 1)))]) 2 (by decide +kernel) rfl rfl (Nat.le_of_ble_eq_true rfl) rfl ?_
      refine zw_goto (pc := 25) (off := (-21)) (tgt := 4) (by decide +kernel) (by decide) ?_
      exact h
    · replace h := h.2 hc
      refine zw_iinc (pc := 19) (i := 1) (n := 1) (lv' := [(0, .ref c), (1, .int (zJ (v1 + 1))), (2, .int (zJ v2))]) 1 (by decide +kernel) rfl rfl (Nat.le_of_ble_eq_true rfl) rfl ?_
      refine zw_iinc (pc := 22) (i := 2) (n := 1) (lv' := [(0, .ref c), (1, .int (zJ (v1 + 1))), (2, .int (zJ (v2 + 1)))]) 2 (by decide +kernel) rfl rfl (Nat.le_of_ble_eq_true rfl) rfl ?_
      refine zw_goto (pc := 25) (off := (-21)) (tgt := 4) (by decide +kernel) (by decide) ?_
      exact h
theorem sg_X3_has {g : zG} {φ : Int → zMu → Prop} {c : Nat} {v1 : Int} {v2 : Int} {μ : zMu} (h_c : zS c 3 2)
    (h : (zR v1) ∧ (zR (μ c 1)) ∧ (((μ c 1) < v1 → φ 0 μ) ∧ (v1 ≤ (μ c 1) → (zR v2) ∧ (((μ c 1) < v2 → φ 0 μ) ∧ (v2 ≤ (μ c 1) → φ 1 μ))))) : zOi g zm_X3_has [.ref c, .int (zJ v1), .int (zJ v2)] μ φ := by
  refine zok_of (by decide +kernel) rfl ?_
  show zWP g zm_X3_has (zmo g zm_X3_has (zΦi φ)) 0 [(0, .ref c), (1, .int (zJ v1)), (2, .int (zJ v2))] [] 0 0 (zw μ)
  obtain ⟨o1, o2, h⟩ := h
  refine zw_iload_n (pc := 0) (n := 1) (i := 1) 1 (by decide +kernel) rfl rfl ?_
  refine zw_aload_n (pc := 1) (n := 0) (i := 0) 0 (by decide +kernel) rfl rfl ?_
  refine zx_getI (pc := 2) zf_3_15 (by decide +kernel) rfl h_c ?_
  refine zw_icmp_gt (pc := 5) (off := 15) (tgt := 20) (by decide +kernel) (by decide) o1 o2 (fun hc => ?_) (fun hc => ?_)
  · replace h := h.1 hc
    refine zw_iconst (pc := 20) (n := 0) (by decide +kernel) ?_
    exact zw_zret (pc := 21) (by decide +kernel) rfl (Nat.le_refl _) (Nat.le_refl _) (Or.inl rfl) ⟨_, _, rfl, rfl, h⟩
  · replace h := h.2 hc
    obtain ⟨o3, h⟩ := h
    refine zw_iload_n (pc := 8) (n := 2) (i := 2) 2 (by decide +kernel) rfl rfl ?_
    refine zw_aload_n (pc := 9) (n := 0) (i := 0) 0 (by decide +kernel) rfl rfl ?_
    refine zx_getI (pc := 10) zf_3_15 (by decide +kernel) rfl h_c ?_
    refine zw_icmp_gt (pc := 13) (off := 7) (tgt := 20) (by decide +kernel) (by decide) o3 o2 (fun hc => ?_) (fun hc => ?_)
    · replace h := h.1 hc
      refine zw_iconst (pc := 20) (n := 0) (by decide +kernel) ?_
      exact zw_zret (pc := 21) (by decide +kernel) rfl (Nat.le_refl _) (Nat.le_refl _) (Or.inl rfl) ⟨_, _, rfl, rfl, h⟩
    · replace h := h.2 hc
      refine zw_iconst (pc := 16) (n := 1) (by decide +kernel) ?_
      refine zw_goto (pc := 17) (off := 4) (tgt := 21) (by decide +kernel) (by decide) ?_
      exact zw_zret (pc := 21) (by decide +kernel) rfl (Nat.le_refl _) (Nat.le_refl _) (Or.inr rfl) ⟨_, _, rfl, rfl, h⟩
abbrev at_X3_valueOf_9 (g : zG) (φ : Int → zMu → Prop) (c : Nat) (v1 : Int) (v2 : Int) (v3 : Int) (v4 : Int) (v5 : Int) (μ : zMu) : Prop := zWP g zm_X3_valueOf (zmo g zm_X3_valueOf (zΦi φ)) 9 [(0, .ref c), (1, .int (zJ v1)), (2, .int (zJ v2)), (3, .int (zJ v3)), (4, .int (zJ v4)), (5, .int (zJ v5))] [] 0 0 (zw μ)
abbrev at_X3_valueOf_23 (g : zG) (φ : Int → zMu → Prop) (c : Nat) (v1 : Int) (v2 : Int) (v3 : Int) (v4 : Int) (v5 : Int) (v6 : Int) (v7 : Int) (μ : zMu) : Prop := zWP g zm_X3_valueOf (zmo g zm_X3_valueOf (zΦi φ)) 23 [(0, .ref c), (1, .int (zJ v1)), (2, .int (zJ v2)), (3, .int (zJ v3)), (4, .int (zJ v4)), (5, .int (zJ v5)), (6, .int (zJ v6)), (7, .int (zJ v7))] [] 0 0 (zw μ)
theorem sg_X3_valueOf {g : zG} {φ : Int → zMu → Prop} {c : Nat} {v1 : Int} {v2 : Int} {v3 : Int} {μ : zMu} (h_c : zS c 3 2)
    (h : at_X3_valueOf_9 g φ c v1 v2 v3 0 (μ c 1) μ) : zOi g zm_X3_valueOf [.ref c, .int (zJ v1), .int (zJ v2), .int (zJ v3)] μ φ := by
  refine zok_of (by decide +kernel) rfl ?_
  show zWP g zm_X3_valueOf (zmo g zm_X3_valueOf (zΦi φ)) 0 [(0, .ref c), (1, .int (zJ v1)), (2, .int (zJ v2)), (3, .int (zJ v3))] [] 0 0 (zw μ)
  refine zw_iconst (pc := 0) (n := 0) (by decide +kernel) ?_
  refine zw_istore (pc := 1) (i := 4) (lv' := [(0, .ref c), (1, .int (zJ v1)), (2, .int (zJ v2)), (3, .int (zJ v3)), (4, .int (zJ 0))]) (by decide +kernel) (Nat.le_of_ble_eq_true rfl) rfl ?_
  refine zw_aload_n (pc := 3) (n := 0) (i := 0) 0 (by decide +kernel) rfl rfl ?_
  refine zx_getI (pc := 4) zf_3_15 (by decide +kernel) rfl h_c ?_
  refine zw_istore (pc := 7) (i := 5) (lv' := [(0, .ref c), (1, .int (zJ v1)), (2, .int (zJ v2)), (3, .int (zJ v3)), (4, .int (zJ 0)), (5, .int (zJ (μ c 1)))]) (by decide +kernel) (Nat.le_of_ble_eq_true rfl) rfl ?_
  exact h
theorem sg_X3_valueOf_9 {g : zG} {φ : Int → zMu → Prop} {c : Nat} {v1 : Int} {v2 : Int} {v3 : Int} {v4 : Int} {v5 : Int} {μ : zMu} (h_c : zS c 3 2)
    (h : (zR v5) ∧ ((v5 < 0 → φ v4 μ) ∧ (0 ≤ v5 → at_X3_valueOf_23 g φ c v1 v2 v3 v4 v5 0 (μ c 1) μ))) : at_X3_valueOf_9 g φ c v1 v2 v3 v4 v5 μ := by
  obtain ⟨o1, h⟩ := h
  refine zw_iload (pc := 9) (i := 5) 5 (by decide +kernel) rfl ?_
  refine zw_if_lt (pc := 11) (off := 62) (tgt := 73) (by decide +kernel) (by decide) o1 (fun hc => ?_) (fun hc => ?_)
  · replace h := h.1 hc
    refine zw_iload (pc := 73) (i := 4) 4 (by decide +kernel) rfl ?_
    exact zw_iret (pc := 75) (by decide +kernel) rfl (Nat.le_refl _) (Nat.le_refl _) ⟨_, _, rfl, rfl, h⟩
  · replace h := h.2 hc
    refine zw_iconst (pc := 14) (n := 0) (by decide +kernel) ?_
    refine zw_istore (pc := 15) (i := 6) (lv' := [(0, .ref c), (1, .int (zJ v1)), (2, .int (zJ v2)), (3, .int (zJ v3)), (4, .int (zJ v4)), (5, .int (zJ v5)), (6, .int (zJ 0))]) (by decide +kernel) (Nat.le_of_ble_eq_true rfl) rfl ?_
    refine zw_aload_n (pc := 17) (n := 0) (i := 0) 0 (by decide +kernel) rfl rfl ?_
    refine zx_getI (pc := 18) zf_3_15 (by decide +kernel) rfl h_c ?_
    refine zw_istore (pc := 21) (i := 7) (lv' := [(0, .ref c), (1, .int (zJ v1)), (2, .int (zJ v2)), (3, .int (zJ v3)), (4, .int (zJ v4)), (5, .int (zJ v5)), (6, .int (zJ 0)), (7, .int (zJ (μ c 1)))]) (by decide +kernel) (Nat.le_of_ble_eq_true rfl) rfl ?_
    exact h
theorem sg_X3_valueOf_23 {g : zG} {φ : Int → zMu → Prop} {c : Nat} {v1 : Int} {v2 : Int} {v3 : Int} {v4 : Int} {v5 : Int} {v6 : Int} {v7 : Int} {μ : zMu} (h_c : zS c 3 2)
    (h : (zR v7) ∧ ((v7 < 0 → (zR ((v4 * v1) + v6)) ∧ (zR v3) ∧ (v3 ≠ 0) ∧ at_X3_valueOf_9 g φ c v1 v2 v3 (((v4 * v1) + v6).tmod v3) (v5 + (-1)) μ) ∧ (0 ≤ v7 → (0 ≤ ((9 * v5) + v7) ∧ ((9 * v5) + v7) < 81) ∧ (zR ((v6 * v2) + (μ (c + 1) ((9 * v5) + v7).toNat))) ∧ (zR v3) ∧ (v3 ≠ 0) ∧ at_X3_valueOf_23 g φ c v1 v2 v3 v4 v5 (((v6 * v2) + (μ (c + 1) ((9 * v5) + v7).toNat)).tmod v3) (v7 + (-1)) μ))) : at_X3_valueOf_23 g φ c v1 v2 v3 v4 v5 v6 v7 μ := by
  obtain ⟨o1, h⟩ := h
  refine zw_iload (pc := 23) (i := 7) 7 (by decide +kernel) rfl ?_
  refine zw_if_lt (pc := 25) (off := 31) (tgt := 56) (by decide +kernel) (by decide) o1 (fun hc => ?_) (fun hc => ?_)
  · replace h := h.1 hc
    obtain ⟨o2, o3, o4, h⟩ := h
    refine zw_iload (pc := 56) (i := 4) 4 (by decide +kernel) rfl ?_
    refine zw_iload_n (pc := 58) (n := 1) (i := 1) 1 (by decide +kernel) rfl rfl ?_
    refine zw_imul (pc := 59) (by decide +kernel) ?_
    refine zw_iload (pc := 60) (i := 6) 6 (by decide +kernel) rfl ?_
    refine zw_iadd (pc := 62) (by decide +kernel) ?_
    refine zw_iload_n (pc := 63) (n := 3) (i := 3) 3 (by decide +kernel) rfl rfl ?_
    refine zw_irem (pc := 64) (by decide +kernel) o2 o3 o4 ?_
    refine zw_istore (pc := 65) (i := 4) (lv' := [(0, .ref c), (1, .int (zJ v1)), (2, .int (zJ v2)), (3, .int (zJ v3)), (4, .int (zJ (((v4 * v1) + v6).tmod v3))), (5, .int (zJ v5)), (6, .int (zJ v6)), (7, .int (zJ v7))]) (by decide +kernel) (Nat.le_of_ble_eq_true rfl) rfl ?_
    refine zw_iinc (pc := 67) (i := 5) (n := (-1)) (lv' := [(0, .ref c), (1, .int (zJ v1)), (2, .int (zJ v2)), (3, .int (zJ v3)), (4, .int (zJ (((v4 * v1) + v6).tmod v3))), (5, .int (zJ (v5 + (-1)))), (6, .int (zJ v6)), (7, .int (zJ v7))]) 5 (by decide +kernel) rfl rfl (Nat.le_of_ble_eq_true rfl) rfl ?_
    refine zw_goto (pc := 70) (off := (-61)) (tgt := 9) (by decide +kernel) (by decide) ?_
    exact zw_pick (lv' := [(0, .ref c), (1, .int (zJ v1)), (2, .int (zJ v2)), (3, .int (zJ v3)), (4, .int (zJ (((v4 * v1) + v6).tmod v3))), (5, .int (zJ (v5 + (-1))))]) [0, 1, 2, 3, 4, 5] rfl h
  · replace h := h.2 hc
    obtain ⟨o6, o7, o8, o9, h⟩ := h
    refine zw_iload (pc := 28) (i := 6) 6 (by decide +kernel) rfl ?_
    refine zw_iload_n (pc := 30) (n := 2) (i := 2) 2 (by decide +kernel) rfl rfl ?_
    refine zw_imul (pc := 31) (by decide +kernel) ?_
    refine zw_aload_n (pc := 32) (n := 0) (i := 0) 0 (by decide +kernel) rfl rfl ?_
    have q5 : zS (c + 1) 12 81 := zq 0 h_c rfl
    refine zx_getR (pc := 33) (o := 1) (r := (c + 1)) zf_3_9 (by decide +kernel) rfl h_c rfl (by decide) rfl ?_
    refine zw_bipush (pc := 36) (n := 9) (by decide +kernel) (by decide +kernel) ?_
    refine zw_iload (pc := 38) (i := 5) 5 (by decide +kernel) rfl ?_
    refine zw_imul (pc := 40) (by decide +kernel) ?_
    refine zw_iload (pc := 41) (i := 7) 7 (by decide +kernel) rfl ?_
    refine zw_iadd (pc := 43) (by decide +kernel) ?_
    refine zx_iaload (pc := 44) (by decide +kernel) ⟨81, q5, o6.1, o6.2⟩ ?_
    refine zw_iadd (pc := 45) (by decide +kernel) ?_
    refine zw_iload_n (pc := 46) (n := 3) (i := 3) 3 (by decide +kernel) rfl rfl ?_
    refine zw_irem (pc := 47) (by decide +kernel) o7 o8 o9 ?_
    refine zw_istore (pc := 48) (i := 6) (lv' := [(0, .ref c), (1, .int (zJ v1)), (2, .int (zJ v2)), (3, .int (zJ v3)), (4, .int (zJ v4)), (5, .int (zJ v5)), (6, .int (zJ (((v6 * v2) + (μ (c + 1) ((9 * v5) + v7).toNat)).tmod v3))), (7, .int (zJ v7))]) (by decide +kernel) (Nat.le_of_ble_eq_true rfl) rfl ?_
    refine zw_iinc (pc := 50) (i := 7) (n := (-1)) (lv' := [(0, .ref c), (1, .int (zJ v1)), (2, .int (zJ v2)), (3, .int (zJ v3)), (4, .int (zJ v4)), (5, .int (zJ v5)), (6, .int (zJ (((v6 * v2) + (μ (c + 1) ((9 * v5) + v7).toNat)).tmod v3))), (7, .int (zJ (v7 + (-1))))]) 7 (by decide +kernel) rfl rfl (Nat.le_of_ble_eq_true rfl) rfl ?_
    refine zw_goto (pc := 53) (off := (-30)) (tgt := 23) (by decide +kernel) (by decide) ?_
    exact h
abbrev at_X3_lineCoefficient_9 (g : zG) (φ : Int → zMu → Prop) (c : Nat) (v1 : Int) (v2 : Int) (v3 : Int) (v4 : Int) (v5 : Int) (μ : zMu) : Prop := zWP g zm_X3_lineCoefficient (zmo g zm_X3_lineCoefficient (zΦi φ)) 9 [(0, .ref c), (1, .int (zJ v1)), (2, .int (zJ v2)), (3, .int (zJ v3)), (4, .int (zJ v4)), (5, .int (zJ v5))] [] 0 0 (zw μ)
theorem sg_X3_lineCoefficient {g : zG} {φ : Int → zMu → Prop} {c : Nat} {v1 : Int} {v2 : Int} {v3 : Int} {μ : zMu} (h_c : zS c 3 2)
    (h : at_X3_lineCoefficient_9 g φ c v1 v2 v3 0 (μ c 1) μ) : zOi g zm_X3_lineCoefficient [.ref c, .int (zJ v1), .int (zJ v2), .int (zJ v3)] μ φ := by
  refine zok_of (by decide +kernel) rfl ?_
  show zWP g zm_X3_lineCoefficient (zmo g zm_X3_lineCoefficient (zΦi φ)) 0 [(0, .ref c), (1, .int (zJ v1)), (2, .int (zJ v2)), (3, .int (zJ v3))] [] 0 0 (zw μ)
  refine zw_iconst (pc := 0) (n := 0) (by decide +kernel) ?_
  refine zw_istore (pc := 1) (i := 4) (lv' := [(0, .ref c), (1, .int (zJ v1)), (2, .int (zJ v2)), (3, .int (zJ v3)), (4, .int (zJ 0))]) (by decide +kernel) (Nat.le_of_ble_eq_true rfl) rfl ?_
  refine zw_aload_n (pc := 3) (n := 0) (i := 0) 0 (by decide +kernel) rfl rfl ?_
  refine zx_getI (pc := 4) zf_3_15 (by decide +kernel) rfl h_c ?_
  refine zw_istore (pc := 7) (i := 5) (lv' := [(0, .ref c), (1, .int (zJ v1)), (2, .int (zJ v2)), (3, .int (zJ v3)), (4, .int (zJ 0)), (5, .int (zJ (μ c 1)))]) (by decide +kernel) (Nat.le_of_ble_eq_true rfl) rfl ?_
  exact h
theorem sg_X3_lineCoefficient_9 {g : zG} {φ : Int → zMu → Prop} {c : Nat} {v1 : Int} {v2 : Int} {v3 : Int} {v4 : Int} {v5 : Int} {μ : zMu} (h_c : zS c 3 2)
    (h : (zR v5) ∧ ((v5 < 0 → φ v4 μ) ∧ (0 ≤ v5 → (0 ≤ ((9 * v5) + v2) ∧ ((9 * v5) + v2) < 81) ∧ (zR ((v4 * v1) + (μ (c + 1) ((9 * v5) + v2).toNat))) ∧ (zR v3) ∧ (v3 ≠ 0) ∧ at_X3_lineCoefficient_9 g φ c v1 v2 v3 (((v4 * v1) + (μ (c + 1) ((9 * v5) + v2).toNat)).tmod v3) (v5 + (-1)) μ))) : at_X3_lineCoefficient_9 g φ c v1 v2 v3 v4 v5 μ := by
  obtain ⟨o1, h⟩ := h
  refine zw_iload (pc := 9) (i := 5) 5 (by decide +kernel) rfl ?_
  refine zw_if_lt (pc := 11) (off := 30) (tgt := 41) (by decide +kernel) (by decide) o1 (fun hc => ?_) (fun hc => ?_)
  · replace h := h.1 hc
    refine zw_iload (pc := 41) (i := 4) 4 (by decide +kernel) rfl ?_
    exact zw_iret (pc := 43) (by decide +kernel) rfl (Nat.le_refl _) (Nat.le_refl _) ⟨_, _, rfl, rfl, h⟩
  · replace h := h.2 hc
    obtain ⟨o3, o4, o5, o6, h⟩ := h
    refine zw_iload (pc := 14) (i := 4) 4 (by decide +kernel) rfl ?_
    refine zw_iload_n (pc := 16) (n := 1) (i := 1) 1 (by decide +kernel) rfl rfl ?_
    refine zw_imul (pc := 17) (by decide +kernel) ?_
    refine zw_aload_n (pc := 18) (n := 0) (i := 0) 0 (by decide +kernel) rfl rfl ?_
    have q2 : zS (c + 1) 12 81 := zq 0 h_c rfl
    refine zx_getR (pc := 19) (o := 1) (r := (c + 1)) zf_3_9 (by decide +kernel) rfl h_c rfl (by decide) rfl ?_
    refine zw_bipush (pc := 22) (n := 9) (by decide +kernel) (by decide +kernel) ?_
    refine zw_iload (pc := 24) (i := 5) 5 (by decide +kernel) rfl ?_
    refine zw_imul (pc := 26) (by decide +kernel) ?_
    refine zw_iload_n (pc := 27) (n := 2) (i := 2) 2 (by decide +kernel) rfl rfl ?_
    refine zw_iadd (pc := 28) (by decide +kernel) ?_
    refine zx_iaload (pc := 29) (by decide +kernel) ⟨81, q2, o3.1, o3.2⟩ ?_
    refine zw_iadd (pc := 30) (by decide +kernel) ?_
    refine zw_iload_n (pc := 31) (n := 3) (i := 3) 3 (by decide +kernel) rfl rfl ?_
    refine zw_irem (pc := 32) (by decide +kernel) o4 o5 o6 ?_
    refine zw_istore (pc := 33) (i := 4) (lv' := [(0, .ref c), (1, .int (zJ v1)), (2, .int (zJ v2)), (3, .int (zJ v3)), (4, .int (zJ (((v4 * v1) + (μ (c + 1) ((9 * v5) + v2).toNat)).tmod v3))), (5, .int (zJ v5))]) (by decide +kernel) (Nat.le_of_ble_eq_true rfl) rfl ?_
    refine zw_iinc (pc := 35) (i := 5) (n := (-1)) (lv' := [(0, .ref c), (1, .int (zJ v1)), (2, .int (zJ v2)), (3, .int (zJ v3)), (4, .int (zJ (((v4 * v1) + (μ (c + 1) ((9 * v5) + v2).toNat)).tmod v3))), (5, .int (zJ (v5 + (-1))))]) 5 (by decide +kernel) rfl rfl (Nat.le_of_ble_eq_true rfl) rfl ?_
    refine zw_goto (pc := 38) (off := (-29)) (tgt := 9) (by decide +kernel) (by decide) ?_
    exact h
theorem sg_X3_copyFrom {g : zG} {φ : zMu → Prop} {c : Nat} {v1 : Nat} {μ : zMu} (h_c : zS c 3 2) (h_v1 : zS v1 3 2)
    (h : (0 ≤ (0 : Int) ∧ 0 ≤ (0 : Int) ∧ 0 ≤ (81 : Int) ∧ (0 : Int) + 81 ≤ 81 ∧ (0 : Int) + 81 ≤ 81) ∧ φ (zcp (zup μ c 1 (μ v1 1)) (v1 + 1) 0 (c + 1) 0 81)) : zOv g zm_X3_copyFrom [.ref c, .ref v1] μ φ := by
  refine zok_of (by decide +kernel) rfl ?_
  show zWP g zm_X3_copyFrom (zmo g zm_X3_copyFrom (zΦv φ)) 0 [(0, .ref c), (1, .ref v1)] [] 0 0 (zw μ)
  obtain ⟨o3, h⟩ := h
  refine zw_aload_n (pc := 0) (n := 0) (i := 0) 0 (by decide +kernel) rfl rfl ?_
  refine zw_aload_n (pc := 1) (n := 1) (i := 1) 1 (by decide +kernel) rfl rfl ?_
  refine zx_getI (pc := 2) zf_3_15 (by decide +kernel) rfl h_v1 ?_
  refine zx_putI (pc := 5) zf_3_15 (by decide +kernel) rfl h_c ?_
  refine zw_aload_n (pc := 8) (n := 1) (i := 1) 1 (by decide +kernel) rfl rfl ?_
  have q1 : zS (v1 + 1) 12 81 := zq 0 h_v1 rfl
  refine zx_getR (pc := 9) (o := 1) (r := (v1 + 1)) zf_3_9 (by decide +kernel) rfl h_v1 rfl (by decide) rfl ?_
  refine zw_iconst (pc := 12) (n := 0) (by decide +kernel) ?_
  refine zw_aload_n (pc := 13) (n := 0) (i := 0) 0 (by decide +kernel) rfl rfl ?_
  have q2 : zS (c + 1) 12 81 := zq 0 h_c rfl
  refine zx_getR (pc := 14) (o := 1) (r := (c + 1)) zf_3_9 (by decide +kernel) rfl h_c rfl (by decide) rfl ?_
  refine zw_iconst (pc := 17) (n := 0) (by decide +kernel) ?_
  refine zw_bipush (pc := 18) (n := 81) (by decide +kernel) (by decide +kernel) ?_
  refine zx_copy (pc := 20) zl_3_25 zb_cpN zb_cpS zb_cpI (by decide +kernel) ⟨Nat.le_of_ble_eq_true rfl, by decide +kernel⟩ rfl ⟨81, 81, q1, q2, o3⟩ ?_
  exact zw_vret (pc := 23) (by decide +kernel) rfl (Nat.le_refl _) (Nat.le_refl _) ⟨_, rfl, rfl, h⟩
