abbrev at_X11_prime_22 (g : zG) (φ : Int → zMu → Prop) (v2 : Int) (v3 : Int) (μ : zMu) : Prop := zWP g zm_X11_prime (zmo g zm_X11_prime (zΦi φ)) 22 [(0, .ref 203), (2, .int (zJ v2)), (3, .int (zJ v3))] [] 0 0 (zw μ)
theorem sg_X11_prime {g : zG} {φ : Int → zMu → Prop} {v1 : Int} {μ : zMu}
    (h : zOi g zm_X11_isPrime [.int (zJ v1)] μ (fun x2 μ1 => (zR x2) ∧ ((¬ x2 = 0 → at_X11_prime_22 g φ (μ1 203 0) 0 (zup μ1 203 0 v1)) ∧ (x2 = 0 → φ (-2) μ1)))) : zOi g zm_X11_prime [.ref 203, .int (zJ v1)] μ φ := by
  refine zok_of (by decide +kernel) rfl ?_
  show zWP g zm_X11_prime (zmo g zm_X11_prime (zΦi φ)) 0 [(0, .ref 203), (1, .int (zJ v1))] [] 0 0 (zw μ)
  refine zw_iload_n (pc := 0) (n := 1) (i := 1) 1 (by decide +kernel) rfl rfl ?_
  refine zx_callS (pc := 1) (As := [.int (zJ v1)]) h zi_X11_isPrime zis_X11_isPrime zl_11_124 (by decide +kernel) ⟨Nat.le_of_ble_eq_true rfl, Nat.le_of_ble_eq_true rfl⟩ rfl rfl ⟨rfl, rfl⟩ ⟨Nat.zero_le _, Nat.zero_le _⟩ (zki (fun x2 μ1 h => ?_))
  obtain ⟨o3, h⟩ := h
  refine zw_if_ne (pc := 4) (off := 6) (tgt := 10) (by decide +kernel) (by decide) o3 (fun hc => ?_) (fun hc => ?_)
  · replace h := h.1 hc
    refine zw_aload_n (pc := 10) (n := 0) (i := 0) 0 (by decide +kernel) rfl rfl ?_
    refine zx_getI (pc := 11) zf_11_9 (by decide +kernel) rfl zc_203 ?_
    refine zw_istore_n (pc := 14) (n := 2) (i := 2) (lv' := [(0, .ref 203), (1, .int (zJ v1)), (2, .int (zJ (μ1 203 0)))]) (by decide +kernel) rfl (Nat.le_of_ble_eq_true rfl) rfl ?_
    refine zw_aload_n (pc := 15) (n := 0) (i := 0) 0 (by decide +kernel) rfl rfl ?_
    refine zw_iload_n (pc := 16) (n := 1) (i := 1) 1 (by decide +kernel) rfl rfl ?_
    refine zx_putI (pc := 17) zf_11_9 (by decide +kernel) rfl zc_203 ?_
    refine zw_iconst (pc := 20) (n := 0) (by decide +kernel) ?_
    refine zw_istore_n (pc := 21) (n := 3) (i := 3) (lv' := [(0, .ref 203), (1, .int (zJ v1)), (2, .int (zJ (μ1 203 0))), (3, .int (zJ 0))]) (by decide +kernel) rfl (Nat.le_of_ble_eq_true rfl) rfl ?_
    exact zw_pick (lv' := [(0, .ref 203), (2, .int (zJ (μ1 203 0))), (3, .int (zJ 0))]) [0, 2, 3] rfl h
  · replace h := h.2 hc
    refine zw_bipush (pc := 7) (n := (-2)) (by decide +kernel) (by decide +kernel) ?_
    exact zw_iret (pc := 9) (by decide +kernel) rfl (Nat.le_refl _) (Nat.le_refl _) ⟨_, _, rfl, rfl, h⟩
theorem sg_X11_prime_22 {g : zG} {φ : Int → zMu → Prop} {v2 : Int} {v3 : Int} {μ : zMu}
    (h : (zR v3) ∧ ((6 ≤ v3 → φ v2 (zup μ 203 4 0)) ∧ (v3 < 6 → (0 ≤ v3 ∧ v3 < 6) ∧ at_X11_prime_22 g φ v2 (v3 + 1) (zup μ 205 v3.toNat 0)))) : at_X11_prime_22 g φ v2 v3 μ := by
  obtain ⟨o1, h⟩ := h
  refine zw_iload_n (pc := 22) (n := 3) (i := 3) 2 (by decide +kernel) rfl rfl ?_
  refine zw_bipush (pc := 23) (n := 6) (by decide +kernel) (by decide +kernel) ?_
  refine zw_icmp_ge (pc := 25) (off := 16) (tgt := 41) (by decide +kernel) (by decide) o1 ⟨by decide, by decide⟩ (fun hc => ?_) (fun hc => ?_)
  · replace h := h.1 hc
    refine zw_aload_n (pc := 41) (n := 0) (i := 0) 0 (by decide +kernel) rfl rfl ?_
    refine zw_iconst (pc := 42) (n := 0) (by decide +kernel) ?_
    refine zx_putI (pc := 43) zf_11_128 (by decide +kernel) rfl zc_203 ?_
    refine zw_iload_n (pc := 46) (n := 2) (i := 2) 1 (by decide +kernel) rfl rfl ?_
    exact zw_iret (pc := 47) (by decide +kernel) rfl (Nat.le_refl _) (Nat.le_refl _) ⟨_, _, rfl, rfl, h⟩
  · replace h := h.2 hc
    obtain ⟨o2, h⟩ := h
    refine zw_aload_n (pc := 28) (n := 0) (i := 0) 0 (by decide +kernel) rfl rfl ?_
    refine zx_getR (pc := 29) (o := 2) (r := 205) zf_11_19 (by decide +kernel) rfl zc_203 rfl (by decide) rfl ?_
    refine zw_iload_n (pc := 32) (n := 3) (i := 3) 2 (by decide +kernel) rfl rfl ?_
    refine zw_iconst (pc := 33) (n := 0) (by decide +kernel) ?_
    refine zx_iastore (pc := 34) (by decide +kernel) ⟨6, zc_205, o2.1, o2.2⟩ ?_
    refine zw_iinc (pc := 35) (i := 3) (n := 1) (lv' := [(0, .ref 203), (2, .int (zJ v2)), (3, .int (zJ (v3 + 1)))]) 2 (by decide +kernel) rfl rfl (Nat.le_of_ble_eq_true rfl) rfl ?_
    refine zw_goto (pc := 38) (off := (-16)) (tgt := 22) (by decide +kernel) (by decide) ?_
    exact h
abbrev at_X11_isPrime_14 (g : zG) (φ : Int → zMu → Prop) (v0 : Int) (v1 : Int) (v2 : Int) (μ : zMu) : Prop := zWP g zm_X11_isPrime (zmo g zm_X11_isPrime (zΦi φ)) 14 [(0, .int (zJ v0)), (1, .int (zJ v1)), (2, .int (zJ v2))] [] 0 0 (zw μ)
theorem sg_X11_isPrime {g : zG} {φ : Int → zMu → Prop} {v0 : Int} {μ : zMu}
    (h : (zR v0) ∧ zOi g zm_X11_in [.long (zL v0), .long (zL 5), .long (zL 199)] μ (fun x3 μ2 => at_X11_isPrime_14 g φ v0 x3 2 μ2)) : zOi g zm_X11_isPrime [.int (zJ v0)] μ φ := by
  refine zok_of (by decide +kernel) rfl ?_
  show zWP g zm_X11_isPrime (zmo g zm_X11_isPrime (zΦi φ)) 0 [(0, .int (zJ v0))] [] 0 0 (zw μ)
  obtain ⟨o1, h⟩ := h
  refine zw_iload_n (pc := 0) (n := 0) (i := 0) 0 (by decide +kernel) rfl rfl ?_
  refine zw_i2l (pc := 1) (by decide +kernel) o1 ?_
  refine zw_ldc2 (pc := 2) (v := 5) (by decide +kernel) zk_11_112 ?_
  refine zw_ldc2 (pc := 5) (v := 199) (by decide +kernel) zk_11_122 ?_
  refine zx_callS (pc := 8) (As := [.long (zL v0), .long (zL 5), .long (zL 199)]) h zi_X11_in zis_X11_in zl_11_114 (by decide +kernel) ⟨Nat.le_of_ble_eq_true rfl, Nat.le_of_ble_eq_true rfl⟩ rfl rfl ⟨rfl, rfl⟩ ⟨Nat.zero_le _, Nat.zero_le _⟩ (zki (fun x3 μ2 h => ?_))
  refine zw_istore_n (pc := 11) (n := 1) (i := 1) (lv' := [(0, .int (zJ v0)), (1, .int (zJ x3))]) (by decide +kernel) rfl (Nat.le_of_ble_eq_true rfl) rfl ?_
  refine zw_iconst (pc := 12) (n := 2) (by decide +kernel) ?_
  refine zw_istore_n (pc := 13) (n := 2) (i := 2) (lv' := [(0, .int (zJ v0)), (1, .int (zJ x3)), (2, .int (zJ 2))]) (by decide +kernel) rfl (Nat.le_of_ble_eq_true rfl) rfl ?_
  exact h
theorem sg_X11_isPrime_14 {g : zG} {φ : Int → zMu → Prop} {v0 : Int} {v1 : Int} {v2 : Int} {μ : zMu}
    (h : (zR v1) ∧ ((v1 = 0 → (v1 = 0 ∨ v1 = 1) ∧ φ v1 μ) ∧ (¬ v1 = 0 → (zR v2) ∧ (zR v0) ∧ ((v0 ≤ v2 → (v1 = 0 ∨ v1 = 1) ∧ φ v1 μ) ∧ (v2 < v0 → (v2 ≠ 0) ∧ (zR (v0.tmod v2)) ∧ (((v0.tmod v2) = 0 → at_X11_isPrime_14 g φ v0 0 (v2 + 1) μ) ∧ (¬ (v0.tmod v2) = 0 → at_X11_isPrime_14 g φ v0 1 (v2 + 1) μ))))))) : at_X11_isPrime_14 g φ v0 v1 v2 μ := by
  obtain ⟨o1, h⟩ := h
  refine zw_iload_n (pc := 14) (n := 1) (i := 1) 1 (by decide +kernel) rfl rfl ?_
  refine zw_if_eq (pc := 15) (off := 26) (tgt := 41) (by decide +kernel) (by decide) o1 (fun hc => ?_) (fun hc => ?_)
  · replace h := h.1 hc
    obtain ⟨o2, h⟩ := h
    refine zw_iload_n (pc := 41) (n := 1) (i := 1) 1 (by decide +kernel) rfl rfl ?_
    exact zw_zret (pc := 42) (by decide +kernel) rfl (Nat.le_refl _) (Nat.le_refl _) o2 ⟨_, _, rfl, rfl, h⟩
  · replace h := h.2 hc
    obtain ⟨o3, o4, h⟩ := h
    refine zw_iload_n (pc := 18) (n := 2) (i := 2) 2 (by decide +kernel) rfl rfl ?_
    refine zw_iload_n (pc := 19) (n := 0) (i := 0) 0 (by decide +kernel) rfl rfl ?_
    refine zw_icmp_ge (pc := 20) (off := 21) (tgt := 41) (by decide +kernel) (by decide) o3 o4 (fun hc => ?_) (fun hc => ?_)
    · replace h := h.1 hc
      obtain ⟨o5, h⟩ := h
      refine zw_iload_n (pc := 41) (n := 1) (i := 1) 1 (by decide +kernel) rfl rfl ?_
      exact zw_zret (pc := 42) (by decide +kernel) rfl (Nat.le_refl _) (Nat.le_refl _) o5 ⟨_, _, rfl, rfl, h⟩
    · replace h := h.2 hc
      obtain ⟨o6, o7, h⟩ := h
      refine zw_iload_n (pc := 23) (n := 0) (i := 0) 0 (by decide +kernel) rfl rfl ?_
      refine zw_iload_n (pc := 24) (n := 2) (i := 2) 2 (by decide +kernel) rfl rfl ?_
      refine zw_irem (pc := 25) (by decide +kernel) o4 o3 o6 ?_
      refine zw_if_eq (pc := 26) (off := 7) (tgt := 33) (by decide +kernel) (by decide) o7 (fun hc => ?_) (fun hc => ?_)
      · replace h := h.1 hc
        refine zw_iconst (pc := 33) (n := 0) (by decide +kernel) ?_
        refine zw_istore_n (pc := 34) (n := 1) (i := 1) (lv' := [(0, .int (zJ v0)), (1, .int (zJ 0)), (2, .int (zJ v2))]) (by decide +kernel) rfl (Nat.le_of_ble_eq_true rfl) rfl ?_
        refine zw_iinc (pc := 35) (i := 2) (n := 1) (lv' := [(0, .int (zJ v0)), (1, .int (zJ 0)), (2, .int (zJ (v2 + 1)))]) 2 (by decide +kernel) rfl rfl (Nat.le_of_ble_eq_true rfl) rfl ?_
        refine zw_goto (pc := 38) (off := (-24)) (tgt := 14) (by decide +kernel) (by decide) ?_
        exact h
      · replace h := h.2 hc
        refine zw_iconst (pc := 29) (n := 1) (by decide +kernel) ?_
        refine zw_goto (pc := 30) (off := 4) (tgt := 34) (by decide +kernel) (by decide) ?_
        refine zw_istore_n (pc := 34) (n := 1) (i := 1) (lv' := [(0, .int (zJ v0)), (1, .int (zJ 1)), (2, .int (zJ v2))]) (by decide +kernel) rfl (Nat.le_of_ble_eq_true rfl) rfl ?_
        refine zw_iinc (pc := 35) (i := 2) (n := 1) (lv' := [(0, .int (zJ v0)), (1, .int (zJ 1)), (2, .int (zJ (v2 + 1)))]) 2 (by decide +kernel) rfl rfl (Nat.le_of_ble_eq_true rfl) rfl ?_
        refine zw_goto (pc := 38) (off := (-24)) (tgt := 14) (by decide +kernel) (by decide) ?_
        exact h
theorem sg_X11_in {g : zG} {φ : Int → zMu → Prop} {v0 : Int} {v2 : Int} {v4 : Int} {μ : zMu}
    (h : (zR64 v0) ∧ (zR64 v2) ∧ (zR (zcmp v0 v2)) ∧ (((zcmp v0 v2) < 0 → φ 0 μ) ∧ (0 ≤ (zcmp v0 v2) → (zR64 v4) ∧ (zR (zcmp v0 v4)) ∧ ((0 < (zcmp v0 v4) → φ 0 μ) ∧ ((zcmp v0 v4) ≤ 0 → φ 1 μ))))) : zOi g zm_X11_in [.long (zL v0), .long (zL v2), .long (zL v4)] μ φ := by
  refine zok_of (by decide +kernel) rfl ?_
  show zWP g zm_X11_in (zmo g zm_X11_in (zΦi φ)) 0 [(0, .long (zL v0)), (2, .long (zL v2)), (4, .long (zL v4))] [] 0 0 (zw μ)
  obtain ⟨o1, o2, o3, h⟩ := h
  refine zw_lload_n (pc := 0) (n := 0) (i := 0) 0 (by decide +kernel) rfl rfl ?_
  refine zw_lload_n (pc := 1) (n := 2) (i := 2) 1 (by decide +kernel) rfl rfl ?_
  refine zw_lcmp (pc := 2) (by decide +kernel) o1 o2 ?_
  refine zw_if_lt (pc := 3) (off := 14) (tgt := 17) (by decide +kernel) (by decide) o3 (fun hc => ?_) (fun hc => ?_)
  · replace h := h.1 hc
    refine zw_iconst (pc := 17) (n := 0) (by decide +kernel) ?_
    exact zw_zret (pc := 18) (by decide +kernel) rfl (Nat.le_refl _) (Nat.le_refl _) (Or.inl rfl) ⟨_, _, rfl, rfl, h⟩
  · replace h := h.2 hc
    obtain ⟨o4, o5, h⟩ := h
    refine zw_lload_n (pc := 6) (n := 0) (i := 0) 0 (by decide +kernel) rfl rfl ?_
    refine zw_lload (pc := 7) (i := 4) 2 (by decide +kernel) rfl ?_
    refine zw_lcmp (pc := 9) (by decide +kernel) o1 o4 ?_
    refine zw_if_gt (pc := 10) (off := 7) (tgt := 17) (by decide +kernel) (by decide) o5 (fun hc => ?_) (fun hc => ?_)
    · replace h := h.1 hc
      refine zw_iconst (pc := 17) (n := 0) (by decide +kernel) ?_
      exact zw_zret (pc := 18) (by decide +kernel) rfl (Nat.le_refl _) (Nat.le_refl _) (Or.inl rfl) ⟨_, _, rfl, rfl, h⟩
    · replace h := h.2 hc
      refine zw_iconst (pc := 13) (n := 1) (by decide +kernel) ?_
      refine zw_goto (pc := 14) (off := 4) (tgt := 18) (by decide +kernel) (by decide) ?_
      exact zw_zret (pc := 18) (by decide +kernel) rfl (Nat.le_refl _) (Nat.le_refl _) (Or.inr rfl) ⟨_, _, rfl, rfl, h⟩
abbrev at_X11_j_26 (g : zG) (φ : Int → zMu → Prop) (v1 : Int) (v2 : Int) (v3 : Int) (μ : zMu) : Prop := zWP g zm_X11_j (zmo g zm_X11_j (zΦi φ)) 26 [(0, .ref 203), (1, .int (zJ v1)), (2, .int (zJ v2)), (3, .int (zJ v3))] [] 0 0 (zw μ)
abbrev at_X11_j_126 (g : zG) (φ : Int → zMu → Prop) (v1 : Int) (v2 : Int) (v3 : Int) (μ : zMu) : Prop := zWP g zm_X11_j (zmo g zm_X11_j (zΦi φ)) 126 [(0, .ref 203), (1, .int (zJ v1)), (2, .int (zJ v2)), (3, .int (zJ v3))] [] 0 0 (zw μ)
abbrev at_X11_j_38 (g : zG) (φ : Int → zMu → Prop) (v1 : Int) (v2 : Int) (v3 : Int) (v4 : Int) (v6 : Int) (μ : zMu) : Prop := zWP g zm_X11_j (zmo g zm_X11_j (zΦi φ)) 38 [(0, .ref 203), (1, .int (zJ v1)), (2, .int (zJ v2)), (3, .int (zJ v3)), (4, .long (zL v4)), (6, .int (zJ v6))] [] 0 0 (zw μ)
abbrev at_X11_j_165 (g : zG) (φ : Int → zMu → Prop) (v1 : Int) (v2 : Int) (v3 : Int) (μ : zMu) : Prop := zWP g zm_X11_j (zmo g zm_X11_j (zΦi φ)) 165 [(0, .ref 203), (1, .int (zJ v1)), (2, .int (zJ v2)), (3, .int (zJ v3))] [] 0 0 (zw μ)
abbrev at_X11_j_194 (g : zG) (φ : Int → zMu → Prop) (v1 : Int) (v2 : Int) (v3 : Int) (μ : zMu) : Prop := zWP g zm_X11_j (zmo g zm_X11_j (zΦi φ)) 194 [(0, .ref 203), (1, .int (zJ v1)), (2, .int (zJ v2)), (3, .int (zJ v3))] [] 0 0 (zw μ)
abbrev at_X11_j_203 (g : zG) (φ : Int → zMu → Prop) (v1 : Int) (v2 : Int) (v3 : Int) (v4 : Int) (μ : zMu) : Prop := zWP g zm_X11_j (zmo g zm_X11_j (zΦi φ)) 203 [(0, .ref 203), (1, .int (zJ v1)), (2, .int (zJ v2)), (3, .int (zJ v3)), (4, .int (zJ v4))] [] 0 0 (zw μ)
abbrev at_X11_j_214 (g : zG) (φ : Int → zMu → Prop) (v1 : Int) (v2 : Int) (v3 : Int) (v4 : Int) (v5 : Int) (μ : zMu) : Prop := zWP g zm_X11_j (zmo g zm_X11_j (zΦi φ)) 214 [(0, .ref 203), (1, .int (zJ v1)), (2, .int (zJ v2)), (3, .int (zJ v3)), (4, .int (zJ v4)), (5, .int (zJ v5))] [] 0 0 (zw μ)
theorem sg_X11_j {g : zG} {φ : Int → zMu → Prop} {v1 : Int} {v2 : Int} {μ : zMu}
    (h : zOi g zm_X11_isSeries [.int (zJ v1)] μ (fun x2 μ1 => (zR x2) ∧ ((¬ x2 = 0 → (zR v2) ∧ zOi g zm_X11_in [.long (zL v2), .long (zL 1), .long (zL 80)] μ1 (fun x6 μ5 => (zR x6) ∧ ((¬ x6 = 0 → at_X11_j_26 g φ v1 v2 0 μ5) ∧ (x6 = 0 → φ (-2) μ5)))) ∧ (x2 = 0 → φ (-1) μ1)))) : zOi g zm_X11_j [.ref 203, .int (zJ v1), .int (zJ v2)] μ φ := by
  refine zok_of (by decide +kernel) rfl ?_
  show zWP g zm_X11_j (zmo g zm_X11_j (zΦi φ)) 0 [(0, .ref 203), (1, .int (zJ v1)), (2, .int (zJ v2))] [] 0 0 (zw μ)
  refine zw_iload_n (pc := 0) (n := 1) (i := 1) 1 (by decide +kernel) rfl rfl ?_
  refine zx_callS (pc := 1) (As := [.int (zJ v1)]) h zi_X11_isSeries zis_X11_isSeries zl_11_141 (by decide +kernel) ⟨Nat.le_of_ble_eq_true rfl, Nat.le_of_ble_eq_true rfl⟩ rfl rfl ⟨rfl, rfl⟩ ⟨Nat.zero_le _, Nat.zero_le _⟩ (zki (fun x2 μ1 h => ?_))
  obtain ⟨o3, h⟩ := h
  refine zw_if_ne (pc := 4) (off := 5) (tgt := 9) (by decide +kernel) (by decide) o3 (fun hc => ?_) (fun hc => ?_)
  · replace h := h.1 hc
    obtain ⟨o4, h⟩ := h
    refine zw_iload_n (pc := 9) (n := 2) (i := 2) 2 (by decide +kernel) rfl rfl ?_
    refine zw_i2l (pc := 10) (by decide +kernel) o4 ?_
    refine zw_lconst (pc := 11) (n := 1) (v := 1) (by decide +kernel) rfl ?_
    refine zw_ldc2 (pc := 12) (v := 80) (by decide +kernel) zk_11_144 ?_
    refine zx_callS (pc := 15) (As := [.long (zL v2), .long (zL 1), .long (zL 80)]) h zi_X11_in zis_X11_in zl_11_114 (by decide +kernel) ⟨Nat.le_of_ble_eq_true rfl, Nat.le_of_ble_eq_true rfl⟩ rfl rfl ⟨rfl, rfl⟩ ⟨Nat.zero_le _, Nat.zero_le _⟩ (zki (fun x6 μ5 h => ?_))
    obtain ⟨o7, h⟩ := h
    refine zw_if_ne (pc := 18) (off := 6) (tgt := 24) (by decide +kernel) (by decide) o7 (fun hc => ?_) (fun hc => ?_)
    · replace h := h.1 hc
      refine zw_iconst (pc := 24) (n := 0) (by decide +kernel) ?_
      refine zw_istore_n (pc := 25) (n := 3) (i := 3) (lv' := [(0, .ref 203), (1, .int (zJ v1)), (2, .int (zJ v2)), (3, .int (zJ 0))]) (by decide +kernel) rfl (Nat.le_of_ble_eq_true rfl) rfl ?_
      exact h
    · replace h := h.2 hc
      refine zw_bipush (pc := 21) (n := (-2)) (by decide +kernel) (by decide +kernel) ?_
      exact zw_iret (pc := 23) (by decide +kernel) rfl (Nat.le_refl _) (Nat.le_refl _) ⟨_, _, rfl, rfl, h⟩
  · replace h := h.2 hc
    refine zw_iconst (pc := 7) (n := (-1)) (by decide +kernel) ?_
    exact zw_iret (pc := 8) (by decide +kernel) rfl (Nat.le_refl _) (Nat.le_refl _) ⟨_, _, rfl, rfl, h⟩
theorem sg_X11_j_26 {g : zG} {φ : Int → zMu → Prop} {v1 : Int} {v2 : Int} {v3 : Int} {μ : zMu}
    (h : (zR v3) ∧ ((80 ≤ v3 → at_X11_j_126 g φ v1 v2 0 μ) ∧ (v3 < 80 → at_X11_j_38 g φ v1 v2 v3 0 1 μ))) : at_X11_j_26 g φ v1 v2 v3 μ := by
  obtain ⟨o1, h⟩ := h
  refine zw_iload_n (pc := 26) (n := 3) (i := 3) 3 (by decide +kernel) rfl rfl ?_
  refine zw_bipush (pc := 27) (n := 80) (by decide +kernel) (by decide +kernel) ?_
  refine zw_icmp_ge (pc := 29) (off := 95) (tgt := 124) (by decide +kernel) (by decide) o1 ⟨by decide, by decide⟩ (fun hc => ?_) (fun hc => ?_)
  · replace h := h.1 hc
    refine zw_iconst (pc := 124) (n := 0) (by decide +kernel) ?_
    refine zw_istore_n (pc := 125) (n := 3) (i := 3) (lv' := [(0, .ref 203), (1, .int (zJ v1)), (2, .int (zJ v2)), (3, .int (zJ 0))]) (by decide +kernel) rfl (Nat.le_of_ble_eq_true rfl) rfl ?_
    exact h
  · replace h := h.2 hc
    refine zw_lconst (pc := 32) (n := 0) (v := 0) (by decide +kernel) rfl ?_
    refine zw_lstore (pc := 33) (i := 4) (lv' := [(0, .ref 203), (1, .int (zJ v1)), (2, .int (zJ v2)), (3, .int (zJ v3)), (4, .long (zL 0))]) (by decide +kernel) (Nat.le_of_ble_eq_true rfl) rfl ?_
    refine zw_iconst (pc := 35) (n := 1) (by decide +kernel) ?_
    refine zw_istore (pc := 36) (i := 6) (lv' := [(0, .ref 203), (1, .int (zJ v1)), (2, .int (zJ v2)), (3, .int (zJ v3)), (4, .long (zL 0)), (6, .int (zJ 1))]) (by decide +kernel) (Nat.le_of_ble_eq_true rfl) rfl ?_
    exact h
theorem sg_X11_j_126 {g : zG} {φ : Int → zMu → Prop} {v1 : Int} {v2 : Int} {v3 : Int} {μ : zMu}
    (h : (zR v3) ∧ ((2 ≤ v3 → at_X11_j_165 g φ v1 v2 0 μ) ∧ (v3 < 2 → zOv g zm_X11_multiplies [.ref 203, .ref 210, .ref 211, .int (zJ 80)] μ (fun μ2 => zOv g zm_X11_lays [.ref 209, .int (zJ 0), .ref 210] μ2 (fun μ3 => at_X11_j_126 g φ v1 v2 (v3 + 1) μ3))))) : at_X11_j_126 g φ v1 v2 v3 μ := by
  obtain ⟨o1, h⟩ := h
  refine zw_iload_n (pc := 126) (n := 3) (i := 3) 3 (by decide +kernel) rfl rfl ?_
  refine zw_iconst (pc := 127) (n := 2) (by decide +kernel) ?_
  refine zw_icmp_ge (pc := 128) (off := 35) (tgt := 163) (by decide +kernel) (by decide) o1 ⟨by decide, by decide⟩ (fun hc => ?_) (fun hc => ?_)
  · replace h := h.1 hc
    refine zw_iconst (pc := 163) (n := 0) (by decide +kernel) ?_
    refine zw_istore_n (pc := 164) (n := 3) (i := 3) (lv' := [(0, .ref 203), (1, .int (zJ v1)), (2, .int (zJ v2)), (3, .int (zJ 0))]) (by decide +kernel) rfl (Nat.le_of_ble_eq_true rfl) rfl ?_
    exact h
  · replace h := h.2 hc
    refine zw_aload_n (pc := 131) (n := 0) (i := 0) 0 (by decide +kernel) rfl rfl ?_
    refine zw_aload_n (pc := 132) (n := 0) (i := 0) 0 (by decide +kernel) rfl rfl ?_
    refine zx_getR (pc := 133) (o := 7) (r := 210) zf_11_34 (by decide +kernel) rfl zc_203 rfl (by decide) rfl ?_
    refine zw_aload_n (pc := 136) (n := 0) (i := 0) 0 (by decide +kernel) rfl rfl ?_
    refine zx_getR (pc := 137) (o := 8) (r := 211) zf_11_37 (by decide +kernel) rfl zc_203 rfl (by decide) rfl ?_
    refine zw_bipush (pc := 140) (n := 80) (by decide +kernel) (by decide +kernel) ?_
    refine zx_callV (pc := 142) (As := [.ref 210, .ref 211, .int (zJ 80)]) h zi_X11_multiplies zii_X11_multiplies zie_X11_multiplies zl_11_152 (by decide +kernel) ⟨Nat.le_of_ble_eq_true rfl, Nat.le_of_ble_eq_true rfl⟩ rfl zc_203 (by decide) rfl rfl ⟨rfl, rfl⟩ ⟨Nat.zero_le _, Nat.zero_le _⟩ (zkv (fun μ2 h => ?_))
    refine zw_aload_n (pc := 145) (n := 0) (i := 0) 0 (by decide +kernel) rfl rfl ?_
    refine zx_getR (pc := 146) (o := 6) (r := 209) zf_11_31 (by decide +kernel) rfl zc_203 rfl (by decide) rfl ?_
    refine zw_iconst (pc := 149) (n := 0) (by decide +kernel) ?_
    refine zw_aload_n (pc := 150) (n := 0) (i := 0) 0 (by decide +kernel) rfl rfl ?_
    refine zx_getR (pc := 151) (o := 7) (r := 210) zf_11_34 (by decide +kernel) rfl zc_203 rfl (by decide) rfl ?_
    refine zx_callS (pc := 154) (As := [.ref 209, .int (zJ 0), .ref 210]) h zi_X11_lays zis_X11_lays zl_11_156 (by decide +kernel) ⟨Nat.le_of_ble_eq_true rfl, Nat.le_of_ble_eq_true rfl⟩ rfl rfl ⟨rfl, rfl⟩ ⟨Nat.zero_le _, Nat.zero_le _⟩ (zkv (fun μ3 h => ?_))
    refine zw_iinc (pc := 157) (i := 3) (n := 1) (lv' := [(0, .ref 203), (1, .int (zJ v1)), (2, .int (zJ v2)), (3, .int (zJ (v3 + 1)))]) 3 (by decide +kernel) rfl rfl (Nat.le_of_ble_eq_true rfl) rfl ?_
    refine zw_goto (pc := 160) (off := (-34)) (tgt := 126) (by decide +kernel) (by decide) ?_
    exact h
theorem sg_X11_j_38 {g : zG} {φ : Int → zMu → Prop} {v1 : Int} {v2 : Int} {v3 : Int} {v4 : Int} {v6 : Int} {μ : zMu}
    (h : (zR v6) ∧ (zR v3) ∧ ((v3 < v6 → ((¬ v3 = 0 → zOi g zm_X11_whole [.ref 203, .long (zL v4)] μ (fun x4 μ3 => (zR x4) ∧ zOi g zm_X11_whole [.ref 203, .long (zL (240 * x4))] μ3 (fun x7 μ6 => (0 ≤ v3 ∧ v3 < 80) ∧ at_X11_j_26 g φ v1 v2 (v3 + 1) (zup (zup μ6 210 v3.toNat x7) 211 v3.toNat ((zup μ6 210 v3.toNat x7) 210 v3.toNat))))) ∧ (v3 = 0 → (0 ≤ v3 ∧ v3 < 80) ∧ at_X11_j_26 g φ v1 v2 (v3 + 1) (zup (zup μ 210 v3.toNat 1) 211 v3.toNat ((zup μ 210 v3.toNat 1) 210 v3.toNat))))) ∧ (v6 ≤ v3 → (v6 ≠ 0) ∧ (zR (v3.tmod v6)) ∧ ((¬ (v3.tmod v6) = 0 → at_X11_j_38 g φ v1 v2 v3 (v4 + 0) (v6 + 1) μ) ∧ ((v3.tmod v6) = 0 → at_X11_j_38 g φ v1 v2 v3 (v4 + ((v6 * v6) * v6)) (v6 + 1) μ))))) : at_X11_j_38 g φ v1 v2 v3 v4 v6 μ := by
  obtain ⟨o1, o2, h⟩ := h
  refine zw_iload (pc := 38) (i := 6) 5 (by decide +kernel) rfl ?_
  refine zw_iload_n (pc := 40) (n := 3) (i := 3) 3 (by decide +kernel) rfl rfl ?_
  refine zw_icmp_gt (pc := 41) (off := 36) (tgt := 77) (by decide +kernel) (by decide) o1 o2 (fun hc => ?_) (fun hc => ?_)
  · replace h := h.1 hc
    refine zw_aload_n (pc := 77) (n := 0) (i := 0) 0 (by decide +kernel) rfl rfl ?_
    refine zx_getR (pc := 78) (o := 7) (r := 210) zf_11_34 (by decide +kernel) rfl zc_203 rfl (by decide) rfl ?_
    refine zw_iload_n (pc := 81) (n := 3) (i := 3) 3 (by decide +kernel) rfl rfl ?_
    refine zw_iload_n (pc := 82) (n := 3) (i := 3) 3 (by decide +kernel) rfl rfl ?_
    refine zw_if_ne (pc := 83) (off := 7) (tgt := 90) (by decide +kernel) (by decide) o2 (fun hc => ?_) (fun hc => ?_)
    · replace h := h.1 hc
      refine zw_aload_n (pc := 90) (n := 0) (i := 0) 0 (by decide +kernel) rfl rfl ?_
      refine zw_ldc2 (pc := 91) (v := 240) (by decide +kernel) zk_11_146 ?_
      refine zw_aload_n (pc := 94) (n := 0) (i := 0) 0 (by decide +kernel) rfl rfl ?_
      refine zw_lload (pc := 95) (i := 4) 4 (by decide +kernel) rfl ?_
      refine zx_callV (pc := 97) (As := [.long (zL v4)]) h zi_X11_whole zii_X11_whole zie_X11_whole zl_11_148 (by decide +kernel) ⟨Nat.le_of_ble_eq_true rfl, Nat.le_of_ble_eq_true rfl⟩ rfl zc_203 (by decide) rfl rfl ⟨rfl, rfl⟩ ⟨Nat.zero_le _, Nat.zero_le _⟩ (zki (fun x4 μ3 h => ?_))
      obtain ⟨o5, h⟩ := h
      refine zw_i2l (pc := 100) (by decide +kernel) o5 ?_
      refine zw_lmul (pc := 101) (by decide +kernel) ?_
      refine zx_callV (pc := 102) (As := [.long (zL (240 * x4))]) h zi_X11_whole zii_X11_whole zie_X11_whole zl_11_148 (by decide +kernel) ⟨Nat.le_of_ble_eq_true rfl, Nat.le_of_ble_eq_true rfl⟩ rfl zc_203 (by decide) rfl rfl ⟨rfl, rfl⟩ ⟨Nat.zero_le _, Nat.zero_le _⟩ (zki (fun x7 μ6 h => ?_))
      obtain ⟨o8, h⟩ := h
      refine zx_iastore (pc := 105) (by decide +kernel) ⟨80, zc_210, o8.1, o8.2⟩ ?_
      refine zw_aload_n (pc := 106) (n := 0) (i := 0) 0 (by decide +kernel) rfl rfl ?_
      refine zx_getR (pc := 107) (o := 8) (r := 211) zf_11_37 (by decide +kernel) rfl zc_203 rfl (by decide) rfl ?_
      refine zw_iload_n (pc := 110) (n := 3) (i := 3) 3 (by decide +kernel) rfl rfl ?_
      refine zw_aload_n (pc := 111) (n := 0) (i := 0) 0 (by decide +kernel) rfl rfl ?_
      refine zx_getR (pc := 112) (o := 7) (r := 210) zf_11_34 (by decide +kernel) rfl zc_203 rfl (by decide) rfl ?_
      refine zw_iload_n (pc := 115) (n := 3) (i := 3) 3 (by decide +kernel) rfl rfl ?_
      refine zx_iaload (pc := 116) (by decide +kernel) ⟨80, zc_210, o8.1, o8.2⟩ ?_
      refine zx_iastore (pc := 117) (by decide +kernel) ⟨80, zc_211, o8.1, o8.2⟩ ?_
      refine zw_iinc (pc := 118) (i := 3) (n := 1) (lv' := [(0, .ref 203), (1, .int (zJ v1)), (2, .int (zJ v2)), (3, .int (zJ (v3 + 1))), (4, .long (zL v4)), (6, .int (zJ v6))]) 3 (by decide +kernel) rfl rfl (Nat.le_of_ble_eq_true rfl) rfl ?_
      refine zw_goto (pc := 121) (off := (-95)) (tgt := 26) (by decide +kernel) (by decide) ?_
      exact zw_pick (lv' := [(0, .ref 203), (1, .int (zJ v1)), (2, .int (zJ v2)), (3, .int (zJ (v3 + 1)))]) [0, 1, 2, 3] rfl h
    · replace h := h.2 hc
      obtain ⟨o9, h⟩ := h
      refine zw_iconst (pc := 86) (n := 1) (by decide +kernel) ?_
      refine zw_goto (pc := 87) (off := 18) (tgt := 105) (by decide +kernel) (by decide) ?_
      refine zx_iastore (pc := 105) (by decide +kernel) ⟨80, zc_210, o9.1, o9.2⟩ ?_
      refine zw_aload_n (pc := 106) (n := 0) (i := 0) 0 (by decide +kernel) rfl rfl ?_
      refine zx_getR (pc := 107) (o := 8) (r := 211) zf_11_37 (by decide +kernel) rfl zc_203 rfl (by decide) rfl ?_
      refine zw_iload_n (pc := 110) (n := 3) (i := 3) 3 (by decide +kernel) rfl rfl ?_
      refine zw_aload_n (pc := 111) (n := 0) (i := 0) 0 (by decide +kernel) rfl rfl ?_
      refine zx_getR (pc := 112) (o := 7) (r := 210) zf_11_34 (by decide +kernel) rfl zc_203 rfl (by decide) rfl ?_
      refine zw_iload_n (pc := 115) (n := 3) (i := 3) 3 (by decide +kernel) rfl rfl ?_
      refine zx_iaload (pc := 116) (by decide +kernel) ⟨80, zc_210, o9.1, o9.2⟩ ?_
      refine zx_iastore (pc := 117) (by decide +kernel) ⟨80, zc_211, o9.1, o9.2⟩ ?_
      refine zw_iinc (pc := 118) (i := 3) (n := 1) (lv' := [(0, .ref 203), (1, .int (zJ v1)), (2, .int (zJ v2)), (3, .int (zJ (v3 + 1))), (4, .long (zL v4)), (6, .int (zJ v6))]) 3 (by decide +kernel) rfl rfl (Nat.le_of_ble_eq_true rfl) rfl ?_
      refine zw_goto (pc := 121) (off := (-95)) (tgt := 26) (by decide +kernel) (by decide) ?_
      exact zw_pick (lv' := [(0, .ref 203), (1, .int (zJ v1)), (2, .int (zJ v2)), (3, .int (zJ (v3 + 1)))]) [0, 1, 2, 3] rfl h
  · replace h := h.2 hc
    obtain ⟨o10, o11, h⟩ := h
    refine zw_lload (pc := 44) (i := 4) 4 (by decide +kernel) rfl ?_
    refine zw_iload_n (pc := 46) (n := 3) (i := 3) 3 (by decide +kernel) rfl rfl ?_
    refine zw_iload (pc := 47) (i := 6) 5 (by decide +kernel) rfl ?_
    refine zw_irem (pc := 49) (by decide +kernel) o2 o1 o10 ?_
    refine zw_if_ne (pc := 50) (off := 17) (tgt := 67) (by decide +kernel) (by decide) o11 (fun hc => ?_) (fun hc => ?_)
    · replace h := h.1 hc
      refine zw_lconst (pc := 67) (n := 0) (v := 0) (by decide +kernel) rfl ?_
      refine zw_ladd (pc := 68) (by decide +kernel) ?_
      refine zw_lstore (pc := 69) (i := 4) (lv' := [(0, .ref 203), (1, .int (zJ v1)), (2, .int (zJ v2)), (3, .int (zJ v3)), (4, .long (zL (v4 + 0))), (6, .int (zJ v6))]) (by decide +kernel) (Nat.le_of_ble_eq_true rfl) rfl ?_
      refine zw_iinc (pc := 71) (i := 6) (n := 1) (lv' := [(0, .ref 203), (1, .int (zJ v1)), (2, .int (zJ v2)), (3, .int (zJ v3)), (4, .long (zL (v4 + 0))), (6, .int (zJ (v6 + 1)))]) 5 (by decide +kernel) rfl rfl (Nat.le_of_ble_eq_true rfl) rfl ?_
      refine zw_goto (pc := 74) (off := (-36)) (tgt := 38) (by decide +kernel) (by decide) ?_
      exact h
    · replace h := h.2 hc
      refine zw_iload (pc := 53) (i := 6) 5 (by decide +kernel) rfl ?_
      refine zw_i2l (pc := 55) (by decide +kernel) o1 ?_
      refine zw_iload (pc := 56) (i := 6) 5 (by decide +kernel) rfl ?_
      refine zw_i2l (pc := 58) (by decide +kernel) o1 ?_
      refine zw_lmul (pc := 59) (by decide +kernel) ?_
      refine zw_iload (pc := 60) (i := 6) 5 (by decide +kernel) rfl ?_
      refine zw_i2l (pc := 62) (by decide +kernel) o1 ?_
      refine zw_lmul (pc := 63) (by decide +kernel) ?_
      refine zw_goto (pc := 64) (off := 4) (tgt := 68) (by decide +kernel) (by decide) ?_
      refine zw_ladd (pc := 68) (by decide +kernel) ?_
      refine zw_lstore (pc := 69) (i := 4) (lv' := [(0, .ref 203), (1, .int (zJ v1)), (2, .int (zJ v2)), (3, .int (zJ v3)), (4, .long (zL (v4 + ((v6 * v6) * v6)))), (6, .int (zJ v6))]) (by decide +kernel) (Nat.le_of_ble_eq_true rfl) rfl ?_
      refine zw_iinc (pc := 71) (i := 6) (n := 1) (lv' := [(0, .ref 203), (1, .int (zJ v1)), (2, .int (zJ v2)), (3, .int (zJ v3)), (4, .long (zL (v4 + ((v6 * v6) * v6)))), (6, .int (zJ (v6 + 1)))]) 5 (by decide +kernel) rfl rfl (Nat.le_of_ble_eq_true rfl) rfl ?_
      refine zw_goto (pc := 74) (off := (-36)) (tgt := 38) (by decide +kernel) (by decide) ?_
      exact h
theorem sg_X11_j_165 {g : zG} {φ : Int → zMu → Prop} {v1 : Int} {v2 : Int} {v3 : Int} {μ : zMu}
    (h : (zR v3) ∧ ((80 ≤ v3 → at_X11_j_194 g φ v1 v2 1 μ) ∧ (v3 < 80 → ((¬ v3 = 0 → (0 ≤ v3 ∧ v3 < 80) ∧ at_X11_j_165 g φ v1 v2 (v3 + 1) (zup μ 211 v3.toNat 0)) ∧ (v3 = 0 → (0 ≤ v3 ∧ v3 < 80) ∧ at_X11_j_165 g φ v1 v2 (v3 + 1) (zup μ 211 v3.toNat 1)))))) : at_X11_j_165 g φ v1 v2 v3 μ := by
  obtain ⟨o1, h⟩ := h
  refine zw_iload_n (pc := 165) (n := 3) (i := 3) 3 (by decide +kernel) rfl rfl ?_
  refine zw_bipush (pc := 166) (n := 80) (by decide +kernel) (by decide +kernel) ?_
  refine zw_icmp_ge (pc := 168) (off := 24) (tgt := 192) (by decide +kernel) (by decide) o1 ⟨by decide, by decide⟩ (fun hc => ?_) (fun hc => ?_)
  · replace h := h.1 hc
    refine zw_iconst (pc := 192) (n := 1) (by decide +kernel) ?_
    refine zw_istore_n (pc := 193) (n := 3) (i := 3) (lv' := [(0, .ref 203), (1, .int (zJ v1)), (2, .int (zJ v2)), (3, .int (zJ 1))]) (by decide +kernel) rfl (Nat.le_of_ble_eq_true rfl) rfl ?_
    exact h
  · replace h := h.2 hc
    refine zw_aload_n (pc := 171) (n := 0) (i := 0) 0 (by decide +kernel) rfl rfl ?_
    refine zx_getR (pc := 172) (o := 8) (r := 211) zf_11_37 (by decide +kernel) rfl zc_203 rfl (by decide) rfl ?_
    refine zw_iload_n (pc := 175) (n := 3) (i := 3) 3 (by decide +kernel) rfl rfl ?_
    refine zw_iload_n (pc := 176) (n := 3) (i := 3) 3 (by decide +kernel) rfl rfl ?_
    refine zw_if_ne (pc := 177) (off := 7) (tgt := 184) (by decide +kernel) (by decide) o1 (fun hc => ?_) (fun hc => ?_)
    · replace h := h.1 hc
      obtain ⟨o2, h⟩ := h
      refine zw_iconst (pc := 184) (n := 0) (by decide +kernel) ?_
      refine zx_iastore (pc := 185) (by decide +kernel) ⟨80, zc_211, o2.1, o2.2⟩ ?_
      refine zw_iinc (pc := 186) (i := 3) (n := 1) (lv' := [(0, .ref 203), (1, .int (zJ v1)), (2, .int (zJ v2)), (3, .int (zJ (v3 + 1)))]) 3 (by decide +kernel) rfl rfl (Nat.le_of_ble_eq_true rfl) rfl ?_
      refine zw_goto (pc := 189) (off := (-24)) (tgt := 165) (by decide +kernel) (by decide) ?_
      exact h
    · replace h := h.2 hc
      obtain ⟨o3, h⟩ := h
      refine zw_iconst (pc := 180) (n := 1) (by decide +kernel) ?_
      refine zw_goto (pc := 181) (off := 4) (tgt := 185) (by decide +kernel) (by decide) ?_
      refine zx_iastore (pc := 185) (by decide +kernel) ⟨80, zc_211, o3.1, o3.2⟩ ?_
      refine zw_iinc (pc := 186) (i := 3) (n := 1) (lv' := [(0, .ref 203), (1, .int (zJ v1)), (2, .int (zJ v2)), (3, .int (zJ (v3 + 1)))]) 3 (by decide +kernel) rfl rfl (Nat.le_of_ble_eq_true rfl) rfl ?_
      refine zw_goto (pc := 189) (off := (-24)) (tgt := 165) (by decide +kernel) (by decide) ?_
      exact h
theorem sg_X11_j_194 {g : zG} {φ : Int → zMu → Prop} {v1 : Int} {v2 : Int} {v3 : Int} {μ : zMu}
    (h : (zR v3) ∧ ((80 ≤ v3 → zOv g zm_X11_divides [.ref 203, .ref 210, .ref 211, .int (zJ 80)] μ (fun μ2 => zOi g zm_X11_becomes [.ref 203, .int (zJ v1)] (zup (zup μ2 203 7 (-1)) 203 8 v2) (fun x4 μ3 => φ x4 μ3))) ∧ (v3 < 80 → at_X11_j_203 g φ v1 v2 v3 0 μ))) : at_X11_j_194 g φ v1 v2 v3 μ := by
  obtain ⟨o1, h⟩ := h
  refine zw_iload_n (pc := 194) (n := 3) (i := 3) 3 (by decide +kernel) rfl rfl ?_
  refine zw_bipush (pc := 195) (n := 80) (by decide +kernel) (by decide +kernel) ?_
  refine zw_icmp_ge (pc := 197) (off := 75) (tgt := 272) (by decide +kernel) (by decide) o1 ⟨by decide, by decide⟩ (fun hc => ?_) (fun hc => ?_)
  · replace h := h.1 hc
    refine zw_aload_n (pc := 272) (n := 0) (i := 0) 0 (by decide +kernel) rfl rfl ?_
    refine zw_aload_n (pc := 273) (n := 0) (i := 0) 0 (by decide +kernel) rfl rfl ?_
    refine zx_getR (pc := 274) (o := 7) (r := 210) zf_11_34 (by decide +kernel) rfl zc_203 rfl (by decide) rfl ?_
    refine zw_aload_n (pc := 277) (n := 0) (i := 0) 0 (by decide +kernel) rfl rfl ?_
    refine zx_getR (pc := 278) (o := 8) (r := 211) zf_11_37 (by decide +kernel) rfl zc_203 rfl (by decide) rfl ?_
    refine zw_bipush (pc := 281) (n := 80) (by decide +kernel) (by decide +kernel) ?_
    refine zx_callV (pc := 283) (As := [.ref 210, .ref 211, .int (zJ 80)]) h zi_X11_divides zii_X11_divides zie_X11_divides zl_11_160 (by decide +kernel) ⟨Nat.le_of_ble_eq_true rfl, Nat.le_of_ble_eq_true rfl⟩ rfl zc_203 (by decide) rfl rfl ⟨rfl, rfl⟩ ⟨Nat.zero_le _, Nat.zero_le _⟩ (zkv (fun μ2 h => ?_))
    refine zw_aload_n (pc := 286) (n := 0) (i := 0) 0 (by decide +kernel) rfl rfl ?_
    refine zw_iconst (pc := 287) (n := (-1)) (by decide +kernel) ?_
    refine zx_putI (pc := 288) zf_11_131 (by decide +kernel) rfl zc_203 ?_
    refine zw_aload_n (pc := 291) (n := 0) (i := 0) 0 (by decide +kernel) rfl rfl ?_
    refine zw_iload_n (pc := 292) (n := 2) (i := 2) 2 (by decide +kernel) rfl rfl ?_
    refine zx_putI (pc := 293) zf_11_134 (by decide +kernel) rfl zc_203 ?_
    refine zw_aload_n (pc := 296) (n := 0) (i := 0) 0 (by decide +kernel) rfl rfl ?_
    refine zw_iload_n (pc := 297) (n := 1) (i := 1) 1 (by decide +kernel) rfl rfl ?_
    refine zx_callV (pc := 298) (As := [.int (zJ v1)]) h zi_X11_becomes zii_X11_becomes zie_X11_becomes zl_11_163 (by decide +kernel) ⟨Nat.le_of_ble_eq_true rfl, Nat.le_of_ble_eq_true rfl⟩ rfl zc_203 (by decide) rfl rfl ⟨rfl, rfl⟩ ⟨Nat.zero_le _, Nat.zero_le _⟩ (zki (fun x4 μ3 h => ?_))
    exact zw_iret (pc := 301) (by decide +kernel) rfl (Nat.le_refl _) (Nat.le_refl _) ⟨_, _, rfl, rfl, h⟩
  · replace h := h.2 hc
    refine zw_iconst (pc := 200) (n := 0) (by decide +kernel) ?_
    refine zw_istore (pc := 201) (i := 4) (lv' := [(0, .ref 203), (1, .int (zJ v1)), (2, .int (zJ v2)), (3, .int (zJ v3)), (4, .int (zJ 0))]) (by decide +kernel) (Nat.le_of_ble_eq_true rfl) rfl ?_
    exact h
theorem sg_X11_j_203 {g : zG} {φ : Int → zMu → Prop} {v1 : Int} {v2 : Int} {v3 : Int} {v4 : Int} {μ : zMu}
    (h : (zR v4) ∧ ((24 ≤ v4 → at_X11_j_194 g φ v1 v2 (v3 + 1) μ) ∧ (v4 < 24 → at_X11_j_214 g φ v1 v2 v3 v4 79 μ))) : at_X11_j_203 g φ v1 v2 v3 v4 μ := by
  obtain ⟨o1, h⟩ := h
  refine zw_iload (pc := 203) (i := 4) 4 (by decide +kernel) rfl ?_
  refine zw_bipush (pc := 205) (n := 24) (by decide +kernel) (by decide +kernel) ?_
  refine zw_icmp_ge (pc := 207) (off := 59) (tgt := 266) (by decide +kernel) (by decide) o1 ⟨by decide, by decide⟩ (fun hc => ?_) (fun hc => ?_)
  · replace h := h.1 hc
    refine zw_iinc (pc := 266) (i := 3) (n := 1) (lv' := [(0, .ref 203), (1, .int (zJ v1)), (2, .int (zJ v2)), (3, .int (zJ (v3 + 1))), (4, .int (zJ v4))]) 3 (by decide +kernel) rfl rfl (Nat.le_of_ble_eq_true rfl) rfl ?_
    refine zw_goto (pc := 269) (off := (-75)) (tgt := 194) (by decide +kernel) (by decide) ?_
    exact zw_pick (lv' := [(0, .ref 203), (1, .int (zJ v1)), (2, .int (zJ v2)), (3, .int (zJ (v3 + 1)))]) [0, 1, 2, 3] rfl h
  · replace h := h.2 hc
    refine zw_bipush (pc := 210) (n := 79) (by decide +kernel) (by decide +kernel) ?_
    refine zw_istore (pc := 212) (i := 5) (lv' := [(0, .ref 203), (1, .int (zJ v1)), (2, .int (zJ v2)), (3, .int (zJ v3)), (4, .int (zJ v4)), (5, .int (zJ 79))]) (by decide +kernel) (Nat.le_of_ble_eq_true rfl) rfl ?_
    exact h
theorem sg_X11_j_214 {g : zG} {φ : Int → zMu → Prop} {v1 : Int} {v2 : Int} {v3 : Int} {v4 : Int} {v5 : Int} {μ : zMu}
    (h : (zR v5) ∧ (zR v3) ∧ ((v5 < v3 → at_X11_j_203 g φ v1 v2 v3 (v4 + 1) μ) ∧ (v3 ≤ v5 → (0 ≤ v5 ∧ v5 < 80) ∧ (0 ≤ (v5 - v3) ∧ (v5 - v3) < 80) ∧ (zR (((μ 211 v5.toNat) + (μ 203 0)) - (μ 211 (Int.toNat (v5 - v3))))) ∧ (zR (μ 203 0)) ∧ ((μ 203 0) ≠ 0) ∧ at_X11_j_214 g φ v1 v2 v3 v4 (v5 + (-1)) (zup μ 211 v5.toNat ((((μ 211 v5.toNat) + (μ 203 0)) - (μ 211 (Int.toNat (v5 - v3)))).tmod (μ 203 0)))))) : at_X11_j_214 g φ v1 v2 v3 v4 v5 μ := by
  obtain ⟨o1, o2, h⟩ := h
  refine zw_iload (pc := 214) (i := 5) 5 (by decide +kernel) rfl ?_
  refine zw_iload_n (pc := 216) (n := 3) (i := 3) 3 (by decide +kernel) rfl rfl ?_
  refine zw_icmp_lt (pc := 217) (off := 43) (tgt := 260) (by decide +kernel) (by decide) o1 o2 (fun hc => ?_) (fun hc => ?_)
  · replace h := h.1 hc
    refine zw_iinc (pc := 260) (i := 4) (n := 1) (lv' := [(0, .ref 203), (1, .int (zJ v1)), (2, .int (zJ v2)), (3, .int (zJ v3)), (4, .int (zJ (v4 + 1))), (5, .int (zJ v5))]) 4 (by decide +kernel) rfl rfl (Nat.le_of_ble_eq_true rfl) rfl ?_
    refine zw_goto (pc := 263) (off := (-60)) (tgt := 203) (by decide +kernel) (by decide) ?_
    exact zw_pick (lv' := [(0, .ref 203), (1, .int (zJ v1)), (2, .int (zJ v2)), (3, .int (zJ v3)), (4, .int (zJ (v4 + 1)))]) [0, 1, 2, 3, 4] rfl h
  · replace h := h.2 hc
    obtain ⟨o3, o4, o5, o6, o7, h⟩ := h
    refine zw_aload_n (pc := 220) (n := 0) (i := 0) 0 (by decide +kernel) rfl rfl ?_
    refine zx_getR (pc := 221) (o := 8) (r := 211) zf_11_37 (by decide +kernel) rfl zc_203 rfl (by decide) rfl ?_
    refine zw_iload (pc := 224) (i := 5) 5 (by decide +kernel) rfl ?_
    refine zw_aload_n (pc := 226) (n := 0) (i := 0) 0 (by decide +kernel) rfl rfl ?_
    refine zx_getR (pc := 227) (o := 8) (r := 211) zf_11_37 (by decide +kernel) rfl zc_203 rfl (by decide) rfl ?_
    refine zw_iload (pc := 230) (i := 5) 5 (by decide +kernel) rfl ?_
    refine zx_iaload (pc := 232) (by decide +kernel) ⟨80, zc_211, o3.1, o3.2⟩ ?_
    refine zw_aload_n (pc := 233) (n := 0) (i := 0) 0 (by decide +kernel) rfl rfl ?_
    refine zx_getI (pc := 234) zf_11_9 (by decide +kernel) rfl zc_203 ?_
    refine zw_iadd (pc := 237) (by decide +kernel) ?_
    refine zw_aload_n (pc := 238) (n := 0) (i := 0) 0 (by decide +kernel) rfl rfl ?_
    refine zx_getR (pc := 239) (o := 8) (r := 211) zf_11_37 (by decide +kernel) rfl zc_203 rfl (by decide) rfl ?_
    refine zw_iload (pc := 242) (i := 5) 5 (by decide +kernel) rfl ?_
    refine zw_iload_n (pc := 244) (n := 3) (i := 3) 3 (by decide +kernel) rfl rfl ?_
    refine zw_isub (pc := 245) (by decide +kernel) ?_
    refine zx_iaload (pc := 246) (by decide +kernel) ⟨80, zc_211, o4.1, o4.2⟩ ?_
    refine zw_isub (pc := 247) (by decide +kernel) ?_
    refine zw_aload_n (pc := 248) (n := 0) (i := 0) 0 (by decide +kernel) rfl rfl ?_
    refine zx_getI (pc := 249) zf_11_9 (by decide +kernel) rfl zc_203 ?_
    refine zw_irem (pc := 252) (by decide +kernel) o5 o6 o7 ?_
    refine zx_iastore (pc := 253) (by decide +kernel) ⟨80, zc_211, o3.1, o3.2⟩ ?_
    refine zw_iinc (pc := 254) (i := 5) (n := (-1)) (lv' := [(0, .ref 203), (1, .int (zJ v1)), (2, .int (zJ v2)), (3, .int (zJ v3)), (4, .int (zJ v4)), (5, .int (zJ (v5 + (-1))))]) 5 (by decide +kernel) rfl rfl (Nat.le_of_ble_eq_true rfl) rfl ?_
    refine zw_goto (pc := 257) (off := (-43)) (tgt := 214) (by decide +kernel) (by decide) ?_
    exact h
theorem sg_X11_isSeries {g : zG} {φ : Int → zMu → Prop} {v0 : Int} {μ : zMu}
    (h : (zR v0) ∧ zOi g zm_X11_in [.long (zL v0), .long (zL 0), .long (zL 5)] μ (fun x3 μ2 => (x3 = 0 ∨ x3 = 1) ∧ φ x3 μ2)) : zOi g zm_X11_isSeries [.int (zJ v0)] μ φ := by
  refine zok_of (by decide +kernel) rfl ?_
  show zWP g zm_X11_isSeries (zmo g zm_X11_isSeries (zΦi φ)) 0 [(0, .int (zJ v0))] [] 0 0 (zw μ)
  obtain ⟨o1, h⟩ := h
  refine zw_iload_n (pc := 0) (n := 0) (i := 0) 0 (by decide +kernel) rfl rfl ?_
  refine zw_i2l (pc := 1) (by decide +kernel) o1 ?_
  refine zw_lconst (pc := 2) (n := 0) (v := 0) (by decide +kernel) rfl ?_
  refine zw_ldc2 (pc := 3) (v := 5) (by decide +kernel) zk_11_112 ?_
  refine zx_callS (pc := 6) (As := [.long (zL v0), .long (zL 0), .long (zL 5)]) h zi_X11_in zis_X11_in zl_11_114 (by decide +kernel) ⟨Nat.le_of_ble_eq_true rfl, Nat.le_of_ble_eq_true rfl⟩ rfl rfl ⟨rfl, rfl⟩ ⟨Nat.zero_le _, Nat.zero_le _⟩ (zki (fun x3 μ2 h => ?_))
  obtain ⟨o4, h⟩ := h
  exact zw_zret (pc := 9) (by decide +kernel) rfl (Nat.le_refl _) (Nat.le_refl _) o4 ⟨_, _, rfl, rfl, h⟩
theorem sg_X11_whole {g : zG} {φ : Int → zMu → Prop} {v1 : Int} {μ : zMu}
    (h : (zR (μ 203 0)) ∧ (zR64 v1) ∧ (zR64 (μ 203 0)) ∧ ((μ 203 0) ≠ 0) ∧ (zR64 ((v1.tmod (μ 203 0)) + (μ 203 0))) ∧ φ (((v1.tmod (μ 203 0)) + (μ 203 0)).tmod (μ 203 0)) μ) : zOi g zm_X11_whole [.ref 203, .long (zL v1)] μ φ := by
  refine zok_of (by decide +kernel) rfl ?_
  show zWP g zm_X11_whole (zmo g zm_X11_whole (zΦi φ)) 0 [(0, .ref 203), (1, .long (zL v1))] [] 0 0 (zw μ)
  obtain ⟨o1, o2, o3, o4, o5, h⟩ := h
  refine zw_lload_n (pc := 0) (n := 1) (i := 1) 1 (by decide +kernel) rfl rfl ?_
  refine zw_aload_n (pc := 1) (n := 0) (i := 0) 0 (by decide +kernel) rfl rfl ?_
  refine zx_getI (pc := 2) zf_11_9 (by decide +kernel) rfl zc_203 ?_
  refine zw_i2l (pc := 5) (by decide +kernel) o1 ?_
  refine zw_lrem (pc := 6) (by decide +kernel) o2 o3 o4 ?_
  refine zw_aload_n (pc := 7) (n := 0) (i := 0) 0 (by decide +kernel) rfl rfl ?_
  refine zx_getI (pc := 8) zf_11_9 (by decide +kernel) rfl zc_203 ?_
  refine zw_i2l (pc := 11) (by decide +kernel) o1 ?_
  refine zw_ladd (pc := 12) (by decide +kernel) ?_
  refine zw_aload_n (pc := 13) (n := 0) (i := 0) 0 (by decide +kernel) rfl rfl ?_
  refine zx_getI (pc := 14) zf_11_9 (by decide +kernel) rfl zc_203 ?_
  refine zw_i2l (pc := 17) (by decide +kernel) o1 ?_
  refine zw_lrem (pc := 18) (by decide +kernel) o5 o3 o4 ?_
  refine zw_l2i (pc := 19) (by decide +kernel) ?_
  exact zw_iret (pc := 20) (by decide +kernel) rfl (Nat.le_refl _) (Nat.le_refl _) ⟨_, _, rfl, rfl, h⟩
abbrev at_X11_multiplies_3 (g : zG) (φ : zMu → Prop) (v1 : Nat) (v2 : Nat) (v3 : Int) (v4 : Int) (μ : zMu) : Prop := zWP g zm_X11_multiplies (zmo g zm_X11_multiplies (zΦv φ)) 3 [(0, .ref 203), (1, .ref v1), (2, .ref v2), (3, .int (zJ v3)), (4, .int (zJ v4))] [] 0 0 (zw μ)
abbrev at_X11_multiplies_15 (g : zG) (φ : zMu → Prop) (v1 : Nat) (v2 : Nat) (v3 : Int) (v4 : Int) (v5 : Int) (v6 : Int) (μ : zMu) : Prop := zWP g zm_X11_multiplies (zmo g zm_X11_multiplies (zΦv φ)) 15 [(0, .ref 203), (1, .ref v1), (2, .ref v2), (3, .int (zJ v3)), (4, .int (zJ v4)), (5, .int (zJ v5)), (6, .int (zJ v6))] [] 0 0 (zw μ)
theorem sg_X11_multiplies {g : zG} {φ : zMu → Prop} {v1 : Nat} {v2 : Nat} {v3 : Int} {μ : zMu}
    (h : at_X11_multiplies_3 g φ v1 v2 v3 0 μ) : zOv g zm_X11_multiplies [.ref 203, .ref v1, .ref v2, .int (zJ v3)] μ φ := by
  refine zok_of (by decide +kernel) rfl ?_
  show zWP g zm_X11_multiplies (zmo g zm_X11_multiplies (zΦv φ)) 0 [(0, .ref 203), (1, .ref v1), (2, .ref v2), (3, .int (zJ v3))] [] 0 0 (zw μ)
  refine zw_iconst (pc := 0) (n := 0) (by decide +kernel) ?_
  refine zw_istore (pc := 1) (i := 4) (lv' := [(0, .ref 203), (1, .ref v1), (2, .ref v2), (3, .int (zJ v3)), (4, .int (zJ 0))]) (by decide +kernel) (Nat.le_of_ble_eq_true rfl) rfl ?_
  exact h
theorem sg_X11_multiplies_3 {g : zG} {φ : zMu → Prop} {v1 : Nat} {v2 : Nat} {v3 : Int} {v4 : Int} {μ : zMu}
    (h : (zR v4) ∧ (zR v3) ∧ ((v3 ≤ v4 → φ μ) ∧ (v4 < v3 → at_X11_multiplies_15 g φ v1 v2 v3 v4 0 0 μ))) : at_X11_multiplies_3 g φ v1 v2 v3 v4 μ := by
  obtain ⟨o1, o2, h⟩ := h
  refine zw_iload (pc := 3) (i := 4) 4 (by decide +kernel) rfl ?_
  refine zw_iload_n (pc := 5) (n := 3) (i := 3) 3 (by decide +kernel) rfl rfl ?_
  refine zw_icmp_ge (pc := 6) (off := 59) (tgt := 65) (by decide +kernel) (by decide) o1 o2 (fun hc => ?_) (fun hc => ?_)
  · replace h := h.1 hc
    exact zw_vret (pc := 65) (by decide +kernel) rfl (Nat.le_refl _) (Nat.le_refl _) ⟨_, rfl, rfl, h⟩
  · replace h := h.2 hc
    refine zw_iconst (pc := 9) (n := 0) (by decide +kernel) ?_
    refine zw_istore (pc := 10) (i := 5) (lv' := [(0, .ref 203), (1, .ref v1), (2, .ref v2), (3, .int (zJ v3)), (4, .int (zJ v4)), (5, .int (zJ 0))]) (by decide +kernel) (Nat.le_of_ble_eq_true rfl) rfl ?_
    refine zw_iconst (pc := 12) (n := 0) (by decide +kernel) ?_
    refine zw_istore (pc := 13) (i := 6) (lv' := [(0, .ref 203), (1, .ref v1), (2, .ref v2), (3, .int (zJ v3)), (4, .int (zJ v4)), (5, .int (zJ 0)), (6, .int (zJ 0))]) (by decide +kernel) (Nat.le_of_ble_eq_true rfl) rfl ?_
    exact h
theorem sg_X11_multiplies_15 {g : zG} {φ : zMu → Prop} {v1 : Nat} {v2 : Nat} {v3 : Int} {v4 : Int} {v5 : Int} {v6 : Int} {μ : zMu}
    (h : (zR v6) ∧ (zR v4) ∧ ((v4 < v6 → (0 ≤ v4 ∧ v4 < 80) ∧ at_X11_multiplies_3 g φ v1 v2 v3 (v4 + 1) (zup μ 209 v4.toNat v5)) ∧ (v6 ≤ v4 → (zIx v1 v6) ∧ (zIx v2 (v4 - v6)) ∧ (zR (v5 + ((μ v1 v6.toNat) * (μ v2 (Int.toNat (v4 - v6)))))) ∧ (zR (μ 203 0)) ∧ ((μ 203 0) ≠ 0) ∧ at_X11_multiplies_15 g φ v1 v2 v3 v4 ((v5 + ((μ v1 v6.toNat) * (μ v2 (Int.toNat (v4 - v6))))).tmod (μ 203 0)) (v6 + 1) μ))) : at_X11_multiplies_15 g φ v1 v2 v3 v4 v5 v6 μ := by
  obtain ⟨o1, o2, h⟩ := h
  refine zw_iload (pc := 15) (i := 6) 6 (by decide +kernel) rfl ?_
  refine zw_iload (pc := 17) (i := 4) 4 (by decide +kernel) rfl ?_
  refine zw_icmp_gt (pc := 19) (off := 31) (tgt := 50) (by decide +kernel) (by decide) o1 o2 (fun hc => ?_) (fun hc => ?_)
  · replace h := h.1 hc
    obtain ⟨o3, h⟩ := h
    refine zw_aload_n (pc := 50) (n := 0) (i := 0) 0 (by decide +kernel) rfl rfl ?_
    refine zx_getR (pc := 51) (o := 6) (r := 209) zf_11_31 (by decide +kernel) rfl zc_203 rfl (by decide) rfl ?_
    refine zw_iload (pc := 54) (i := 4) 4 (by decide +kernel) rfl ?_
    refine zw_iload (pc := 56) (i := 5) 5 (by decide +kernel) rfl ?_
    refine zx_iastore (pc := 58) (by decide +kernel) ⟨80, zc_209, o3.1, o3.2⟩ ?_
    refine zw_iinc (pc := 59) (i := 4) (n := 1) (lv' := [(0, .ref 203), (1, .ref v1), (2, .ref v2), (3, .int (zJ v3)), (4, .int (zJ (v4 + 1))), (5, .int (zJ v5)), (6, .int (zJ v6))]) 4 (by decide +kernel) rfl rfl (Nat.le_of_ble_eq_true rfl) rfl ?_
    refine zw_goto (pc := 62) (off := (-59)) (tgt := 3) (by decide +kernel) (by decide) ?_
    exact zw_pick (lv' := [(0, .ref 203), (1, .ref v1), (2, .ref v2), (3, .int (zJ v3)), (4, .int (zJ (v4 + 1)))]) [0, 1, 2, 3, 4] rfl h
  · replace h := h.2 hc
    obtain ⟨o4, o5, o6, o7, o8, h⟩ := h
    refine zw_iload (pc := 22) (i := 5) 5 (by decide +kernel) rfl ?_
    refine zw_aload_n (pc := 24) (n := 1) (i := 1) 1 (by decide +kernel) rfl rfl ?_
    refine zw_iload (pc := 25) (i := 6) 6 (by decide +kernel) rfl ?_
    refine zx_iaload (pc := 27) (by decide +kernel) o4 ?_
    refine zw_aload_n (pc := 28) (n := 2) (i := 2) 2 (by decide +kernel) rfl rfl ?_
    refine zw_iload (pc := 29) (i := 4) 4 (by decide +kernel) rfl ?_
    refine zw_iload (pc := 31) (i := 6) 6 (by decide +kernel) rfl ?_
    refine zw_isub (pc := 33) (by decide +kernel) ?_
    refine zx_iaload (pc := 34) (by decide +kernel) o5 ?_
    refine zw_imul (pc := 35) (by decide +kernel) ?_
    refine zw_iadd (pc := 36) (by decide +kernel) ?_
    refine zw_aload_n (pc := 37) (n := 0) (i := 0) 0 (by decide +kernel) rfl rfl ?_
    refine zx_getI (pc := 38) zf_11_9 (by decide +kernel) rfl zc_203 ?_
    refine zw_irem (pc := 41) (by decide +kernel) o6 o7 o8 ?_
    refine zw_istore (pc := 42) (i := 5) (lv' := [(0, .ref 203), (1, .ref v1), (2, .ref v2), (3, .int (zJ v3)), (4, .int (zJ v4)), (5, .int (zJ ((v5 + ((μ v1 v6.toNat) * (μ v2 (Int.toNat (v4 - v6))))).tmod (μ 203 0)))), (6, .int (zJ v6))]) (by decide +kernel) (Nat.le_of_ble_eq_true rfl) rfl ?_
    refine zw_iinc (pc := 44) (i := 6) (n := 1) (lv' := [(0, .ref 203), (1, .ref v1), (2, .ref v2), (3, .int (zJ v3)), (4, .int (zJ v4)), (5, .int (zJ ((v5 + ((μ v1 v6.toNat) * (μ v2 (Int.toNat (v4 - v6))))).tmod (μ 203 0)))), (6, .int (zJ (v6 + 1)))]) 6 (by decide +kernel) rfl rfl (Nat.le_of_ble_eq_true rfl) rfl ?_
    refine zw_goto (pc := 47) (off := (-32)) (tgt := 15) (by decide +kernel) (by decide) ?_
    exact h
abbrev at_X11_lays_2 (g : zG) (φ : zMu → Prop) (v0 : Nat) (v1 : Int) (v2 : Nat) (v3 : Int) (μ : zMu) : Prop := zWP g zm_X11_lays (zmo g zm_X11_lays (zΦv φ)) 2 [(0, .ref v0), (1, .int (zJ v1)), (2, .ref v2), (3, .int (zJ v3))] [] 0 0 (zw μ)
theorem sg_X11_lays {g : zG} {φ : zMu → Prop} {v0 : Nat} {v1 : Int} {v2 : Nat} {μ : zMu}
    (h : at_X11_lays_2 g φ v0 v1 v2 0 μ) : zOv g zm_X11_lays [.ref v0, .int (zJ v1), .ref v2] μ φ := by
  refine zok_of (by decide +kernel) rfl ?_
  show zWP g zm_X11_lays (zmo g zm_X11_lays (zΦv φ)) 0 [(0, .ref v0), (1, .int (zJ v1)), (2, .ref v2)] [] 0 0 (zw μ)
  refine zw_iconst (pc := 0) (n := 0) (by decide +kernel) ?_
  refine zw_istore_n (pc := 1) (n := 3) (i := 3) (lv' := [(0, .ref v0), (1, .int (zJ v1)), (2, .ref v2), (3, .int (zJ 0))]) (by decide +kernel) rfl (Nat.le_of_ble_eq_true rfl) rfl ?_
  exact h
theorem sg_X11_lays_2 {g : zG} {φ : zMu → Prop} {v0 : Nat} {v1 : Int} {v2 : Nat} {v3 : Int} {μ : zMu}
    (h : (zR v3) ∧ ((80 ≤ v3 → φ μ) ∧ (v3 < 80 → (zIx v0 (v1 + v3)) ∧ (zIx v2 v3) ∧ at_X11_lays_2 g φ v0 v1 v2 (v3 + 1) (zup μ v2 v3.toNat (μ v0 (Int.toNat (v1 + v3))))))) : at_X11_lays_2 g φ v0 v1 v2 v3 μ := by
  obtain ⟨o1, h⟩ := h
  refine zw_iload_n (pc := 2) (n := 3) (i := 3) 3 (by decide +kernel) rfl rfl ?_
  refine zw_bipush (pc := 3) (n := 80) (by decide +kernel) (by decide +kernel) ?_
  refine zw_icmp_ge (pc := 5) (off := 17) (tgt := 22) (by decide +kernel) (by decide) o1 ⟨by decide, by decide⟩ (fun hc => ?_) (fun hc => ?_)
  · replace h := h.1 hc
    exact zw_vret (pc := 22) (by decide +kernel) rfl (Nat.le_refl _) (Nat.le_refl _) ⟨_, rfl, rfl, h⟩
  · replace h := h.2 hc
    obtain ⟨o2, o3, h⟩ := h
    refine zw_aload_n (pc := 8) (n := 2) (i := 2) 2 (by decide +kernel) rfl rfl ?_
    refine zw_iload_n (pc := 9) (n := 3) (i := 3) 3 (by decide +kernel) rfl rfl ?_
    refine zw_aload_n (pc := 10) (n := 0) (i := 0) 0 (by decide +kernel) rfl rfl ?_
    refine zw_iload_n (pc := 11) (n := 1) (i := 1) 1 (by decide +kernel) rfl rfl ?_
    refine zw_iload_n (pc := 12) (n := 3) (i := 3) 3 (by decide +kernel) rfl rfl ?_
    refine zw_iadd (pc := 13) (by decide +kernel) ?_
    refine zx_iaload (pc := 14) (by decide +kernel) o2 ?_
    refine zx_iastore (pc := 15) (by decide +kernel) o3 ?_
    refine zw_iinc (pc := 16) (i := 3) (n := 1) (lv' := [(0, .ref v0), (1, .int (zJ v1)), (2, .ref v2), (3, .int (zJ (v3 + 1)))]) 3 (by decide +kernel) rfl rfl (Nat.le_of_ble_eq_true rfl) rfl ?_
    refine zw_goto (pc := 19) (off := (-17)) (tgt := 2) (by decide +kernel) (by decide) ?_
    exact h
abbrev at_X11_divides_12 (g : zG) (φ : zMu → Prop) (v1 : Nat) (v2 : Nat) (v3 : Int) (v4 : Int) (v5 : Int) (μ : zMu) : Prop := zWP g zm_X11_divides (zmo g zm_X11_divides (zΦv φ)) 12 [(0, .ref 203), (1, .ref v1), (2, .ref v2), (3, .int (zJ v3)), (4, .int (zJ v4)), (5, .int (zJ v5))] [] 0 0 (zw μ)
abbrev at_X11_divides_27 (g : zG) (φ : zMu → Prop) (v1 : Nat) (v2 : Nat) (v3 : Int) (v4 : Int) (v5 : Int) (v6 : Int) (v7 : Int) (μ : zMu) : Prop := zWP g zm_X11_divides (zmo g zm_X11_divides (zΦv φ)) 27 [(0, .ref 203), (1, .ref v1), (2, .ref v2), (3, .int (zJ v3)), (4, .int (zJ v4)), (5, .int (zJ v5)), (6, .int (zJ v6)), (7, .int (zJ v7))] [] 0 0 (zw μ)
theorem sg_X11_divides {g : zG} {φ : zMu → Prop} {v1 : Nat} {v2 : Nat} {v3 : Int} {μ : zMu}
    (h : (zIx v2 0) ∧ zOi g zm_X11_inverse [.ref 203, .int (zJ (μ v2 0))] μ (fun x3 μ2 => at_X11_divides_12 g φ v1 v2 v3 x3 0 μ2)) : zOv g zm_X11_divides [.ref 203, .ref v1, .ref v2, .int (zJ v3)] μ φ := by
  refine zok_of (by decide +kernel) rfl ?_
  show zWP g zm_X11_divides (zmo g zm_X11_divides (zΦv φ)) 0 [(0, .ref 203), (1, .ref v1), (2, .ref v2), (3, .int (zJ v3))] [] 0 0 (zw μ)
  obtain ⟨o1, h⟩ := h
  refine zw_aload_n (pc := 0) (n := 0) (i := 0) 0 (by decide +kernel) rfl rfl ?_
  refine zw_aload_n (pc := 1) (n := 2) (i := 2) 2 (by decide +kernel) rfl rfl ?_
  refine zw_iconst (pc := 2) (n := 0) (by decide +kernel) ?_
  refine zx_iaload (pc := 3) (by decide +kernel) o1 ?_
  refine zx_callV (pc := 4) (As := [.int (zJ (μ v2 0))]) h zi_X11_inverse zii_X11_inverse zie_X11_inverse zl_11_137 (by decide +kernel) ⟨Nat.le_of_ble_eq_true rfl, Nat.le_of_ble_eq_true rfl⟩ rfl zc_203 (by decide) rfl rfl ⟨rfl, rfl⟩ ⟨Nat.zero_le _, Nat.zero_le _⟩ (zki (fun x3 μ2 h => ?_))
  refine zw_istore (pc := 7) (i := 4) (lv' := [(0, .ref 203), (1, .ref v1), (2, .ref v2), (3, .int (zJ v3)), (4, .int (zJ x3))]) (by decide +kernel) (Nat.le_of_ble_eq_true rfl) rfl ?_
  refine zw_iconst (pc := 9) (n := 0) (by decide +kernel) ?_
  refine zw_istore (pc := 10) (i := 5) (lv' := [(0, .ref 203), (1, .ref v1), (2, .ref v2), (3, .int (zJ v3)), (4, .int (zJ x3)), (5, .int (zJ 0))]) (by decide +kernel) (Nat.le_of_ble_eq_true rfl) rfl ?_
  exact h
theorem sg_X11_divides_12 {g : zG} {φ : zMu → Prop} {v1 : Nat} {v2 : Nat} {v3 : Int} {v4 : Int} {v5 : Int} {μ : zMu}
    (h : (zR v5) ∧ (zR v3) ∧ ((v3 ≤ v5 → φ μ) ∧ (v5 < v3 → (zIx v1 v5) ∧ at_X11_divides_27 g φ v1 v2 v3 v4 v5 (μ v1 v5.toNat) 1 μ))) : at_X11_divides_12 g φ v1 v2 v3 v4 v5 μ := by
  obtain ⟨o1, o2, h⟩ := h
  refine zw_iload (pc := 12) (i := 5) 5 (by decide +kernel) rfl ?_
  refine zw_iload_n (pc := 14) (n := 3) (i := 3) 3 (by decide +kernel) rfl rfl ?_
  refine zw_icmp_ge (pc := 15) (off := 83) (tgt := 98) (by decide +kernel) (by decide) o1 o2 (fun hc => ?_) (fun hc => ?_)
  · replace h := h.1 hc
    exact zw_vret (pc := 98) (by decide +kernel) rfl (Nat.le_refl _) (Nat.le_refl _) ⟨_, rfl, rfl, h⟩
  · replace h := h.2 hc
    obtain ⟨o3, h⟩ := h
    refine zw_aload_n (pc := 18) (n := 1) (i := 1) 1 (by decide +kernel) rfl rfl ?_
    refine zw_iload (pc := 19) (i := 5) 5 (by decide +kernel) rfl ?_
    refine zx_iaload (pc := 21) (by decide +kernel) o3 ?_
    refine zw_istore (pc := 22) (i := 6) (lv' := [(0, .ref 203), (1, .ref v1), (2, .ref v2), (3, .int (zJ v3)), (4, .int (zJ v4)), (5, .int (zJ v5)), (6, .int (zJ (μ v1 v5.toNat)))]) (by decide +kernel) (Nat.le_of_ble_eq_true rfl) rfl ?_
    refine zw_iconst (pc := 24) (n := 1) (by decide +kernel) ?_
    refine zw_istore (pc := 25) (i := 7) (lv' := [(0, .ref 203), (1, .ref v1), (2, .ref v2), (3, .int (zJ v3)), (4, .int (zJ v4)), (5, .int (zJ v5)), (6, .int (zJ (μ v1 v5.toNat))), (7, .int (zJ 1))]) (by decide +kernel) (Nat.le_of_ble_eq_true rfl) rfl ?_
    exact h
theorem sg_X11_divides_27 {g : zG} {φ : zMu → Prop} {v1 : Nat} {v2 : Nat} {v3 : Int} {v4 : Int} {v5 : Int} {v6 : Int} {v7 : Int} {μ : zMu}
    (h : (zR v7) ∧ (zR v5) ∧ ((v5 < v7 → (zR v6) ∧ (zR (μ 203 0)) ∧ ((μ 203 0) ≠ 0) ∧ (zR ((v6.tmod (μ 203 0)) * v4)) ∧ (0 ≤ v5 ∧ v5 < 80) ∧ at_X11_divides_12 g φ v1 v2 v3 v4 (v5 + 1) (zup μ 209 v5.toNat (((v6.tmod (μ 203 0)) * v4).tmod (μ 203 0)))) ∧ (v7 ≤ v5 → (zIx v2 v7) ∧ (0 ≤ (v5 - v7) ∧ (v5 - v7) < 80) ∧ (zR (v6 + (((μ 203 0) - (μ v2 v7.toNat)) * (μ 209 (Int.toNat (v5 - v7)))))) ∧ (zR (μ 203 0)) ∧ ((μ 203 0) ≠ 0) ∧ at_X11_divides_27 g φ v1 v2 v3 v4 v5 ((v6 + (((μ 203 0) - (μ v2 v7.toNat)) * (μ 209 (Int.toNat (v5 - v7))))).tmod (μ 203 0)) (v7 + 1) μ))) : at_X11_divides_27 g φ v1 v2 v3 v4 v5 v6 v7 μ := by
  obtain ⟨o1, o2, h⟩ := h
  refine zw_iload (pc := 27) (i := 7) 7 (by decide +kernel) rfl ?_
  refine zw_iload (pc := 29) (i := 5) 5 (by decide +kernel) rfl ?_
  refine zw_icmp_gt (pc := 31) (off := 39) (tgt := 70) (by decide +kernel) (by decide) o1 o2 (fun hc => ?_) (fun hc => ?_)
  · replace h := h.1 hc
    obtain ⟨o3, o4, o5, o6, o7, h⟩ := h
    refine zw_aload_n (pc := 70) (n := 0) (i := 0) 0 (by decide +kernel) rfl rfl ?_
    refine zx_getR (pc := 71) (o := 6) (r := 209) zf_11_31 (by decide +kernel) rfl zc_203 rfl (by decide) rfl ?_
    refine zw_iload (pc := 74) (i := 5) 5 (by decide +kernel) rfl ?_
    refine zw_iload (pc := 76) (i := 6) 6 (by decide +kernel) rfl ?_
    refine zw_aload_n (pc := 78) (n := 0) (i := 0) 0 (by decide +kernel) rfl rfl ?_
    refine zx_getI (pc := 79) zf_11_9 (by decide +kernel) rfl zc_203 ?_
    refine zw_irem (pc := 82) (by decide +kernel) o3 o4 o5 ?_
    refine zw_iload (pc := 83) (i := 4) 4 (by decide +kernel) rfl ?_
    refine zw_imul (pc := 85) (by decide +kernel) ?_
    refine zw_aload_n (pc := 86) (n := 0) (i := 0) 0 (by decide +kernel) rfl rfl ?_
    refine zx_getI (pc := 87) zf_11_9 (by decide +kernel) rfl zc_203 ?_
    refine zw_irem (pc := 90) (by decide +kernel) o6 o4 o5 ?_
    refine zx_iastore (pc := 91) (by decide +kernel) ⟨80, zc_209, o7.1, o7.2⟩ ?_
    refine zw_iinc (pc := 92) (i := 5) (n := 1) (lv' := [(0, .ref 203), (1, .ref v1), (2, .ref v2), (3, .int (zJ v3)), (4, .int (zJ v4)), (5, .int (zJ (v5 + 1))), (6, .int (zJ v6)), (7, .int (zJ v7))]) 5 (by decide +kernel) rfl rfl (Nat.le_of_ble_eq_true rfl) rfl ?_
    refine zw_goto (pc := 95) (off := (-83)) (tgt := 12) (by decide +kernel) (by decide) ?_
    exact zw_pick (lv' := [(0, .ref 203), (1, .ref v1), (2, .ref v2), (3, .int (zJ v3)), (4, .int (zJ v4)), (5, .int (zJ (v5 + 1)))]) [0, 1, 2, 3, 4, 5] rfl h
  · replace h := h.2 hc
    obtain ⟨o8, o9, o10, o11, o12, h⟩ := h
    refine zw_iload (pc := 34) (i := 6) 6 (by decide +kernel) rfl ?_
    refine zw_aload_n (pc := 36) (n := 0) (i := 0) 0 (by decide +kernel) rfl rfl ?_
    refine zx_getI (pc := 37) zf_11_9 (by decide +kernel) rfl zc_203 ?_
    refine zw_aload_n (pc := 40) (n := 2) (i := 2) 2 (by decide +kernel) rfl rfl ?_
    refine zw_iload (pc := 41) (i := 7) 7 (by decide +kernel) rfl ?_
    refine zx_iaload (pc := 43) (by decide +kernel) o8 ?_
    refine zw_isub (pc := 44) (by decide +kernel) ?_
    refine zw_aload_n (pc := 45) (n := 0) (i := 0) 0 (by decide +kernel) rfl rfl ?_
    refine zx_getR (pc := 46) (o := 6) (r := 209) zf_11_31 (by decide +kernel) rfl zc_203 rfl (by decide) rfl ?_
    refine zw_iload (pc := 49) (i := 5) 5 (by decide +kernel) rfl ?_
    refine zw_iload (pc := 51) (i := 7) 7 (by decide +kernel) rfl ?_
    refine zw_isub (pc := 53) (by decide +kernel) ?_
    refine zx_iaload (pc := 54) (by decide +kernel) ⟨80, zc_209, o9.1, o9.2⟩ ?_
    refine zw_imul (pc := 55) (by decide +kernel) ?_
    refine zw_iadd (pc := 56) (by decide +kernel) ?_
    refine zw_aload_n (pc := 57) (n := 0) (i := 0) 0 (by decide +kernel) rfl rfl ?_
    refine zx_getI (pc := 58) zf_11_9 (by decide +kernel) rfl zc_203 ?_
    refine zw_irem (pc := 61) (by decide +kernel) o10 o11 o12 ?_
    refine zw_istore (pc := 62) (i := 6) (lv' := [(0, .ref 203), (1, .ref v1), (2, .ref v2), (3, .int (zJ v3)), (4, .int (zJ v4)), (5, .int (zJ v5)), (6, .int (zJ ((v6 + (((μ 203 0) - (μ v2 v7.toNat)) * (μ 209 (Int.toNat (v5 - v7))))).tmod (μ 203 0)))), (7, .int (zJ v7))]) (by decide +kernel) (Nat.le_of_ble_eq_true rfl) rfl ?_
    refine zw_iinc (pc := 64) (i := 7) (n := 1) (lv' := [(0, .ref 203), (1, .ref v1), (2, .ref v2), (3, .int (zJ v3)), (4, .int (zJ v4)), (5, .int (zJ v5)), (6, .int (zJ ((v6 + (((μ 203 0) - (μ v2 v7.toNat)) * (μ 209 (Int.toNat (v5 - v7))))).tmod (μ 203 0)))), (7, .int (zJ (v7 + 1)))]) 7 (by decide +kernel) rfl rfl (Nat.le_of_ble_eq_true rfl) rfl ?_
    refine zw_goto (pc := 67) (off := (-40)) (tgt := 27) (by decide +kernel) (by decide) ?_
    exact h
abbrev at_X11_inverse_2 (g : zG) (φ : Int → zMu → Prop) (v1 : Int) (v2 : Int) (μ : zMu) : Prop := zWP g zm_X11_inverse (zmo g zm_X11_inverse (zΦi φ)) 2 [(0, .ref 203), (1, .int (zJ v1)), (2, .int (zJ v2))] [] 0 0 (zw μ)
theorem sg_X11_inverse {g : zG} {φ : Int → zMu → Prop} {v1 : Int} {μ : zMu}
    (h : at_X11_inverse_2 g φ v1 1 μ) : zOi g zm_X11_inverse [.ref 203, .int (zJ v1)] μ φ := by
  refine zok_of (by decide +kernel) rfl ?_
  show zWP g zm_X11_inverse (zmo g zm_X11_inverse (zΦi φ)) 0 [(0, .ref 203), (1, .int (zJ v1))] [] 0 0 (zw μ)
  refine zw_iconst (pc := 0) (n := 1) (by decide +kernel) ?_
  refine zw_istore_n (pc := 1) (n := 2) (i := 2) (lv' := [(0, .ref 203), (1, .int (zJ v1)), (2, .int (zJ 1))]) (by decide +kernel) rfl (Nat.le_of_ble_eq_true rfl) rfl ?_
  exact h
theorem sg_X11_inverse_2 {g : zG} {φ : Int → zMu → Prop} {v1 : Int} {v2 : Int} {μ : zMu}
    (h : (zR (v1 * v2)) ∧ (zR (μ 203 0)) ∧ ((μ 203 0) ≠ 0) ∧ (zR ((v1 * v2).tmod (μ 203 0))) ∧ ((((v1 * v2).tmod (μ 203 0)) = 1 → φ v2 μ) ∧ (¬ ((v1 * v2).tmod (μ 203 0)) = 1 → at_X11_inverse_2 g φ v1 (v2 + 1) μ))) : at_X11_inverse_2 g φ v1 v2 μ := by
  obtain ⟨o1, o2, o3, o4, h⟩ := h
  refine zw_iload_n (pc := 2) (n := 1) (i := 1) 1 (by decide +kernel) rfl rfl ?_
  refine zw_iload_n (pc := 3) (n := 2) (i := 2) 2 (by decide +kernel) rfl rfl ?_
  refine zw_imul (pc := 4) (by decide +kernel) ?_
  refine zw_aload_n (pc := 5) (n := 0) (i := 0) 0 (by decide +kernel) rfl rfl ?_
  refine zx_getI (pc := 6) zf_11_9 (by decide +kernel) rfl zc_203 ?_
  refine zw_irem (pc := 9) (by decide +kernel) o1 o2 o3 ?_
  refine zw_iconst (pc := 10) (n := 1) (by decide +kernel) ?_
  refine zw_icmp_eq (pc := 11) (off := 9) (tgt := 20) (by decide +kernel) (by decide) o4 ⟨by decide, by decide⟩ (fun hc => ?_) (fun hc => ?_)
  · replace h := h.1 hc
    refine zw_iload_n (pc := 20) (n := 2) (i := 2) 2 (by decide +kernel) rfl rfl ?_
    exact zw_iret (pc := 21) (by decide +kernel) rfl (Nat.le_refl _) (Nat.le_refl _) ⟨_, _, rfl, rfl, h⟩
  · replace h := h.2 hc
    refine zw_iinc (pc := 14) (i := 2) (n := 1) (lv' := [(0, .ref 203), (1, .int (zJ v1)), (2, .int (zJ (v2 + 1)))]) 2 (by decide +kernel) rfl rfl (Nat.le_of_ble_eq_true rfl) rfl ?_
    refine zw_goto (pc := 17) (off := (-15)) (tgt := 2) (by decide +kernel) (by decide) ?_
    exact h
abbrev at_X11_becomes_22 (g : zG) (φ : Int → zMu → Prop) (v1 : Int) (v2 : Int) (μ : zMu) : Prop := zWP g zm_X11_becomes (zmo g zm_X11_becomes (zΦi φ)) 22 [(0, .ref 203), (1, .int (zJ v1)), (2, .int (zJ v2))] [] 0 0 (zw μ)
theorem sg_X11_becomes {g : zG} {φ : Int → zMu → Prop} {v1 : Int} {μ : zMu}
    (h : (0 ≤ v1 ∧ v1 < 6) ∧ at_X11_becomes_22 g φ v1 0 (zup (zup μ 204 v1.toNat (μ 203 7)) 205 v1.toNat ((zup μ 204 v1.toNat (μ 203 7)) 203 8))) : zOi g zm_X11_becomes [.ref 203, .int (zJ v1)] μ φ := by
  refine zok_of (by decide +kernel) rfl ?_
  show zWP g zm_X11_becomes (zmo g zm_X11_becomes (zΦi φ)) 0 [(0, .ref 203), (1, .int (zJ v1))] [] 0 0 (zw μ)
  obtain ⟨o1, h⟩ := h
  refine zw_aload_n (pc := 0) (n := 0) (i := 0) 0 (by decide +kernel) rfl rfl ?_
  refine zx_getR (pc := 1) (o := 1) (r := 204) zf_11_15 (by decide +kernel) rfl zc_203 rfl (by decide) rfl ?_
  refine zw_iload_n (pc := 4) (n := 1) (i := 1) 1 (by decide +kernel) rfl rfl ?_
  refine zw_aload_n (pc := 5) (n := 0) (i := 0) 0 (by decide +kernel) rfl rfl ?_
  refine zx_getI (pc := 6) zf_11_131 (by decide +kernel) rfl zc_203 ?_
  refine zx_iastore (pc := 9) (by decide +kernel) ⟨6, zc_204, o1.1, o1.2⟩ ?_
  refine zw_aload_n (pc := 10) (n := 0) (i := 0) 0 (by decide +kernel) rfl rfl ?_
  refine zx_getR (pc := 11) (o := 2) (r := 205) zf_11_19 (by decide +kernel) rfl zc_203 rfl (by decide) rfl ?_
  refine zw_iload_n (pc := 14) (n := 1) (i := 1) 1 (by decide +kernel) rfl rfl ?_
  refine zw_aload_n (pc := 15) (n := 0) (i := 0) 0 (by decide +kernel) rfl rfl ?_
  refine zx_getI (pc := 16) zf_11_134 (by decide +kernel) rfl zc_203 ?_
  refine zx_iastore (pc := 19) (by decide +kernel) ⟨6, zc_205, o1.1, o1.2⟩ ?_
  refine zw_iconst (pc := 20) (n := 0) (by decide +kernel) ?_
  refine zw_istore_n (pc := 21) (n := 2) (i := 2) (lv' := [(0, .ref 203), (1, .int (zJ v1)), (2, .int (zJ 0))]) (by decide +kernel) rfl (Nat.le_of_ble_eq_true rfl) rfl ?_
  exact h
theorem sg_X11_becomes_22 {g : zG} {φ : Int → zMu → Prop} {v1 : Int} {v2 : Int} {μ : zMu}
    (h : (zR v2) ∧ ((80 ≤ v2 → φ (μ 203 8) μ) ∧ (v2 < 80 → (zR (μ 203 8)) ∧ (((μ 203 8) ≤ v2 → (0 ≤ ((80 * v1) + v2) ∧ ((80 * v1) + v2) < 480) ∧ at_X11_becomes_22 g φ v1 (v2 + 1) (zup μ 206 (Int.toNat ((80 * v1) + v2)) 0)) ∧ (v2 < (μ 203 8) → (0 ≤ v2 ∧ v2 < 80) ∧ (0 ≤ ((80 * v1) + v2) ∧ ((80 * v1) + v2) < 480) ∧ at_X11_becomes_22 g φ v1 (v2 + 1) (zup μ 206 (Int.toNat ((80 * v1) + v2)) (μ 209 v2.toNat))))))) : at_X11_becomes_22 g φ v1 v2 μ := by
  obtain ⟨o1, h⟩ := h
  refine zw_iload_n (pc := 22) (n := 2) (i := 2) 2 (by decide +kernel) rfl rfl ?_
  refine zw_bipush (pc := 23) (n := 80) (by decide +kernel) (by decide +kernel) ?_
  refine zw_icmp_ge (pc := 25) (off := 38) (tgt := 63) (by decide +kernel) (by decide) o1 ⟨by decide, by decide⟩ (fun hc => ?_) (fun hc => ?_)
  · replace h := h.1 hc
    refine zw_aload_n (pc := 63) (n := 0) (i := 0) 0 (by decide +kernel) rfl rfl ?_
    refine zx_getI (pc := 64) zf_11_134 (by decide +kernel) rfl zc_203 ?_
    exact zw_iret (pc := 67) (by decide +kernel) rfl (Nat.le_refl _) (Nat.le_refl _) ⟨_, _, rfl, rfl, h⟩
  · replace h := h.2 hc
    obtain ⟨o2, h⟩ := h
    refine zw_aload_n (pc := 28) (n := 0) (i := 0) 0 (by decide +kernel) rfl rfl ?_
    refine zx_getR (pc := 29) (o := 3) (r := 206) zf_11_22 (by decide +kernel) rfl zc_203 rfl (by decide) rfl ?_
    refine zw_bipush (pc := 32) (n := 80) (by decide +kernel) (by decide +kernel) ?_
    refine zw_iload_n (pc := 34) (n := 1) (i := 1) 1 (by decide +kernel) rfl rfl ?_
    refine zw_imul (pc := 35) (by decide +kernel) ?_
    refine zw_iload_n (pc := 36) (n := 2) (i := 2) 2 (by decide +kernel) rfl rfl ?_
    refine zw_iadd (pc := 37) (by decide +kernel) ?_
    refine zw_iload_n (pc := 38) (n := 2) (i := 2) 2 (by decide +kernel) rfl rfl ?_
    refine zw_aload_n (pc := 39) (n := 0) (i := 0) 0 (by decide +kernel) rfl rfl ?_
    refine zx_getI (pc := 40) zf_11_134 (by decide +kernel) rfl zc_203 ?_
    refine zw_icmp_ge (pc := 43) (off := 12) (tgt := 55) (by decide +kernel) (by decide) o1 o2 (fun hc => ?_) (fun hc => ?_)
    · replace h := h.1 hc
      obtain ⟨o3, h⟩ := h
      refine zw_iconst (pc := 55) (n := 0) (by decide +kernel) ?_
      refine zx_iastore (pc := 56) (by decide +kernel) ⟨480, zc_206, o3.1, o3.2⟩ ?_
      refine zw_iinc (pc := 57) (i := 2) (n := 1) (lv' := [(0, .ref 203), (1, .int (zJ v1)), (2, .int (zJ (v2 + 1)))]) 2 (by decide +kernel) rfl rfl (Nat.le_of_ble_eq_true rfl) rfl ?_
      refine zw_goto (pc := 60) (off := (-38)) (tgt := 22) (by decide +kernel) (by decide) ?_
      exact h
    · replace h := h.2 hc
      obtain ⟨o4, o5, h⟩ := h
      refine zw_aload_n (pc := 46) (n := 0) (i := 0) 0 (by decide +kernel) rfl rfl ?_
      refine zx_getR (pc := 47) (o := 6) (r := 209) zf_11_31 (by decide +kernel) rfl zc_203 rfl (by decide) rfl ?_
      refine zw_iload_n (pc := 50) (n := 2) (i := 2) 2 (by decide +kernel) rfl rfl ?_
      refine zx_iaload (pc := 51) (by decide +kernel) ⟨80, zc_209, o4.1, o4.2⟩ ?_
      refine zw_goto (pc := 52) (off := 4) (tgt := 56) (by decide +kernel) (by decide) ?_
      refine zx_iastore (pc := 56) (by decide +kernel) ⟨480, zc_206, o5.1, o5.2⟩ ?_
      refine zw_iinc (pc := 57) (i := 2) (n := 1) (lv' := [(0, .ref 203), (1, .int (zJ v1)), (2, .int (zJ (v2 + 1)))]) 2 (by decide +kernel) rfl rfl (Nat.le_of_ble_eq_true rfl) rfl ?_
      refine zw_goto (pc := 60) (off := (-38)) (tgt := 22) (by decide +kernel) (by decide) ?_
      exact h
abbrev at_X11_sum_117 (g : zG) (φ : Int → zMu → Prop) (v1 : Int) (v2 : Int) (v3 : Int) (v4 : Int) (v6 : Int) (μ : zMu) : Prop := zWP g zm_X11_sum (zmo g zm_X11_sum (zΦi φ)) 117 [(0, .ref 203), (1, .int (zJ v1)), (2, .int (zJ v2)), (3, .int (zJ v3)), (4, .int (zJ v4)), (6, .int (zJ v6))] [] 0 0 (zw μ)
theorem sg_X11_sum {g : zG} {φ : Int → zMu → Prop} {v1 : Int} {v2 : Int} {v3 : Int} {μ : zMu}
    (h : zOi g zm_X11_isSeries [.int (zJ v1)] μ (fun x2 μ1 => (zR x2) ∧ ((x2 = 0 → φ (-1) μ1) ∧ (¬ x2 = 0 → zOi g zm_X11_isSeries [.int (zJ v2)] μ1 (fun x5 μ4 => (zR x5) ∧ ((x5 = 0 → φ (-1) μ4) ∧ (¬ x5 = 0 → zOi g zm_X11_isSeries [.int (zJ v3)] μ4 (fun x8 μ7 => (zR x8) ∧ ((¬ x8 = 0 → zOi g zm_X11_isThere [.ref 203, .int (zJ v1)] μ7 (fun x11 μ10 => (zR x11) ∧ ((x11 = 0 → φ (-11) μ10) ∧ (¬ x11 = 0 → zOi g zm_X11_isThere [.ref 203, .int (zJ v2)] μ10 (fun x14 μ13 => (zR x14) ∧ ((¬ x14 = 0 → (0 ≤ v1 ∧ v1 < 6) ∧ (0 ≤ v2 ∧ v2 < 6) ∧ (zR (μ13 204 v1.toNat)) ∧ (zR (μ13 204 v2.toNat)) ∧ (zR ((μ13 204 v1.toNat) + (μ13 205 v1.toNat))) ∧ (zR ((μ13 204 v2.toNat) + (μ13 205 v2.toNat))) ∧ (zR ((((min ((μ13 204 v1.toNat) + (μ13 205 v1.toNat)) ((μ13 204 v2.toNat) + (μ13 205 v2.toNat))) - 1) - (min (μ13 204 v1.toNat) (μ13 204 v2.toNat))) + 1)) ∧ at_X11_sum_117 g φ v1 v2 v3 (min (μ13 204 v1.toNat) (μ13 204 v2.toNat)) 0 (zup (zup μ13 203 7 (min (μ13 204 v1.toNat) (μ13 204 v2.toNat))) 203 8 (min 80 ((((min ((μ13 204 v1.toNat) + (μ13 205 v1.toNat)) ((μ13 204 v2.toNat) + (μ13 205 v2.toNat))) - 1) - (min (μ13 204 v1.toNat) (μ13 204 v2.toNat))) + 1)))) ∧ (x14 = 0 → φ (-11) μ13))))))) ∧ (x8 = 0 → φ (-1) μ7)))))))))) : zOi g zm_X11_sum [.ref 203, .int (zJ v1), .int (zJ v2), .int (zJ v3)] μ φ := by
  refine zok_of (by decide +kernel) rfl ?_
  show zWP g zm_X11_sum (zmo g zm_X11_sum (zΦi φ)) 0 [(0, .ref 203), (1, .int (zJ v1)), (2, .int (zJ v2)), (3, .int (zJ v3))] [] 0 0 (zw μ)
  refine zw_iload_n (pc := 0) (n := 1) (i := 1) 1 (by decide +kernel) rfl rfl ?_
  refine zx_callS (pc := 1) (As := [.int (zJ v1)]) h zi_X11_isSeries zis_X11_isSeries zl_11_141 (by decide +kernel) ⟨Nat.le_of_ble_eq_true rfl, Nat.le_of_ble_eq_true rfl⟩ rfl rfl ⟨rfl, rfl⟩ ⟨Nat.zero_le _, Nat.zero_le _⟩ (zki (fun x2 μ1 h => ?_))
  obtain ⟨o3, h⟩ := h
  refine zw_if_eq (pc := 4) (off := 17) (tgt := 21) (by decide +kernel) (by decide) o3 (fun hc => ?_) (fun hc => ?_)
  · replace h := h.1 hc
    refine zw_iconst (pc := 21) (n := (-1)) (by decide +kernel) ?_
    exact zw_iret (pc := 22) (by decide +kernel) rfl (Nat.le_refl _) (Nat.le_refl _) ⟨_, _, rfl, rfl, h⟩
  · replace h := h.2 hc
    refine zw_iload_n (pc := 7) (n := 2) (i := 2) 2 (by decide +kernel) rfl rfl ?_
    refine zx_callS (pc := 8) (As := [.int (zJ v2)]) h zi_X11_isSeries zis_X11_isSeries zl_11_141 (by decide +kernel) ⟨Nat.le_of_ble_eq_true rfl, Nat.le_of_ble_eq_true rfl⟩ rfl rfl ⟨rfl, rfl⟩ ⟨Nat.zero_le _, Nat.zero_le _⟩ (zki (fun x5 μ4 h => ?_))
    obtain ⟨o6, h⟩ := h
    refine zw_if_eq (pc := 11) (off := 10) (tgt := 21) (by decide +kernel) (by decide) o6 (fun hc => ?_) (fun hc => ?_)
    · replace h := h.1 hc
      refine zw_iconst (pc := 21) (n := (-1)) (by decide +kernel) ?_
      exact zw_iret (pc := 22) (by decide +kernel) rfl (Nat.le_refl _) (Nat.le_refl _) ⟨_, _, rfl, rfl, h⟩
    · replace h := h.2 hc
      refine zw_iload_n (pc := 14) (n := 3) (i := 3) 3 (by decide +kernel) rfl rfl ?_
      refine zx_callS (pc := 15) (As := [.int (zJ v3)]) h zi_X11_isSeries zis_X11_isSeries zl_11_141 (by decide +kernel) ⟨Nat.le_of_ble_eq_true rfl, Nat.le_of_ble_eq_true rfl⟩ rfl rfl ⟨rfl, rfl⟩ ⟨Nat.zero_le _, Nat.zero_le _⟩ (zki (fun x8 μ7 h => ?_))
      obtain ⟨o9, h⟩ := h
      refine zw_if_ne (pc := 18) (off := 5) (tgt := 23) (by decide +kernel) (by decide) o9 (fun hc => ?_) (fun hc => ?_)
      · replace h := h.1 hc
        refine zw_aload_n (pc := 23) (n := 0) (i := 0) 0 (by decide +kernel) rfl rfl ?_
        refine zw_iload_n (pc := 24) (n := 1) (i := 1) 1 (by decide +kernel) rfl rfl ?_
        refine zx_callV (pc := 25) (As := [.int (zJ v1)]) h zi_X11_isThere zii_X11_isThere zie_X11_isThere zl_11_166 (by decide +kernel) ⟨Nat.le_of_ble_eq_true rfl, Nat.le_of_ble_eq_true rfl⟩ rfl zc_203 (by decide) rfl rfl ⟨rfl, rfl⟩ ⟨Nat.zero_le _, Nat.zero_le _⟩ (zki (fun x11 μ10 h => ?_))
        obtain ⟨o12, h⟩ := h
        refine zw_if_eq (pc := 28) (off := 11) (tgt := 39) (by decide +kernel) (by decide) o12 (fun hc => ?_) (fun hc => ?_)
        · replace h := h.1 hc
          refine zw_bipush (pc := 39) (n := (-11)) (by decide +kernel) (by decide +kernel) ?_
          exact zw_iret (pc := 41) (by decide +kernel) rfl (Nat.le_refl _) (Nat.le_refl _) ⟨_, _, rfl, rfl, h⟩
        · replace h := h.2 hc
          refine zw_aload_n (pc := 31) (n := 0) (i := 0) 0 (by decide +kernel) rfl rfl ?_
          refine zw_iload_n (pc := 32) (n := 2) (i := 2) 2 (by decide +kernel) rfl rfl ?_
          refine zx_callV (pc := 33) (As := [.int (zJ v2)]) h zi_X11_isThere zii_X11_isThere zie_X11_isThere zl_11_166 (by decide +kernel) ⟨Nat.le_of_ble_eq_true rfl, Nat.le_of_ble_eq_true rfl⟩ rfl zc_203 (by decide) rfl rfl ⟨rfl, rfl⟩ ⟨Nat.zero_le _, Nat.zero_le _⟩ (zki (fun x14 μ13 h => ?_))
          obtain ⟨o15, h⟩ := h
          refine zw_if_ne (pc := 36) (off := 6) (tgt := 42) (by decide +kernel) (by decide) o15 (fun hc => ?_) (fun hc => ?_)
          · replace h := h.1 hc
            obtain ⟨o16, o17, o18, o19, o20, o21, o22, h⟩ := h
            refine zw_aload_n (pc := 42) (n := 0) (i := 0) 0 (by decide +kernel) rfl rfl ?_
            refine zx_getR (pc := 43) (o := 1) (r := 204) zf_11_15 (by decide +kernel) rfl zc_203 rfl (by decide) rfl ?_
            refine zw_iload_n (pc := 46) (n := 1) (i := 1) 1 (by decide +kernel) rfl rfl ?_
            refine zx_iaload (pc := 47) (by decide +kernel) ⟨6, zc_204, o16.1, o16.2⟩ ?_
            refine zw_aload_n (pc := 48) (n := 0) (i := 0) 0 (by decide +kernel) rfl rfl ?_
            refine zx_getR (pc := 49) (o := 1) (r := 204) zf_11_15 (by decide +kernel) rfl zc_203 rfl (by decide) rfl ?_
            refine zw_iload_n (pc := 52) (n := 2) (i := 2) 2 (by decide +kernel) rfl rfl ?_
            refine zx_iaload (pc := 53) (by decide +kernel) ⟨6, zc_204, o17.1, o17.2⟩ ?_
            refine zw_min (pc := 54) zl_11_169 zb_minS zb_mathI zb_minC (by decide +kernel) ⟨Nat.le_of_ble_eq_true rfl, Nat.le_of_ble_eq_true rfl⟩ (Nat.zero_le _) (Nat.zero_le _) rfl o18 o19 ?_
            refine zw_istore (pc := 57) (i := 4) (lv' := [(0, .ref 203), (1, .int (zJ v1)), (2, .int (zJ v2)), (3, .int (zJ v3)), (4, .int (zJ (min (μ13 204 v1.toNat) (μ13 204 v2.toNat))))]) (by decide +kernel) (Nat.le_of_ble_eq_true rfl) rfl ?_
            refine zw_aload_n (pc := 59) (n := 0) (i := 0) 0 (by decide +kernel) rfl rfl ?_
            refine zx_getR (pc := 60) (o := 1) (r := 204) zf_11_15 (by decide +kernel) rfl zc_203 rfl (by decide) rfl ?_
            refine zw_iload_n (pc := 63) (n := 1) (i := 1) 1 (by decide +kernel) rfl rfl ?_
            refine zx_iaload (pc := 64) (by decide +kernel) ⟨6, zc_204, o16.1, o16.2⟩ ?_
            refine zw_aload_n (pc := 65) (n := 0) (i := 0) 0 (by decide +kernel) rfl rfl ?_
            refine zx_getR (pc := 66) (o := 2) (r := 205) zf_11_19 (by decide +kernel) rfl zc_203 rfl (by decide) rfl ?_
            refine zw_iload_n (pc := 69) (n := 1) (i := 1) 1 (by decide +kernel) rfl rfl ?_
            refine zx_iaload (pc := 70) (by decide +kernel) ⟨6, zc_205, o16.1, o16.2⟩ ?_
            refine zw_iadd (pc := 71) (by decide +kernel) ?_
            refine zw_aload_n (pc := 72) (n := 0) (i := 0) 0 (by decide +kernel) rfl rfl ?_
            refine zx_getR (pc := 73) (o := 1) (r := 204) zf_11_15 (by decide +kernel) rfl zc_203 rfl (by decide) rfl ?_
            refine zw_iload_n (pc := 76) (n := 2) (i := 2) 2 (by decide +kernel) rfl rfl ?_
            refine zx_iaload (pc := 77) (by decide +kernel) ⟨6, zc_204, o17.1, o17.2⟩ ?_
            refine zw_aload_n (pc := 78) (n := 0) (i := 0) 0 (by decide +kernel) rfl rfl ?_
            refine zx_getR (pc := 79) (o := 2) (r := 205) zf_11_19 (by decide +kernel) rfl zc_203 rfl (by decide) rfl ?_
            refine zw_iload_n (pc := 82) (n := 2) (i := 2) 2 (by decide +kernel) rfl rfl ?_
            refine zx_iaload (pc := 83) (by decide +kernel) ⟨6, zc_205, o17.1, o17.2⟩ ?_
            refine zw_iadd (pc := 84) (by decide +kernel) ?_
            refine zw_min (pc := 85) zl_11_169 zb_minS zb_mathI zb_minC (by decide +kernel) ⟨Nat.le_of_ble_eq_true rfl, Nat.le_of_ble_eq_true rfl⟩ (Nat.zero_le _) (Nat.zero_le _) rfl o20 o21 ?_
            refine zw_iconst (pc := 88) (n := 1) (by decide +kernel) ?_
            refine zw_isub (pc := 89) (by decide +kernel) ?_
            refine zw_istore (pc := 90) (i := 5) (lv' := [(0, .ref 203), (1, .int (zJ v1)), (2, .int (zJ v2)), (3, .int (zJ v3)), (4, .int (zJ (min (μ13 204 v1.toNat) (μ13 204 v2.toNat)))), (5, .int (zJ ((min ((μ13 204 v1.toNat) + (μ13 205 v1.toNat)) ((μ13 204 v2.toNat) + (μ13 205 v2.toNat))) - 1)))]) (by decide +kernel) (Nat.le_of_ble_eq_true rfl) rfl ?_
            refine zw_aload_n (pc := 92) (n := 0) (i := 0) 0 (by decide +kernel) rfl rfl ?_
            refine zw_iload (pc := 93) (i := 4) 4 (by decide +kernel) rfl ?_
            refine zx_putI (pc := 95) zf_11_131 (by decide +kernel) rfl zc_203 ?_
            refine zw_aload_n (pc := 98) (n := 0) (i := 0) 0 (by decide +kernel) rfl rfl ?_
            refine zw_bipush (pc := 99) (n := 80) (by decide +kernel) (by decide +kernel) ?_
            refine zw_iload (pc := 101) (i := 5) 5 (by decide +kernel) rfl ?_
            refine zw_iload (pc := 103) (i := 4) 4 (by decide +kernel) rfl ?_
            refine zw_isub (pc := 105) (by decide +kernel) ?_
            refine zw_iconst (pc := 106) (n := 1) (by decide +kernel) ?_
            refine zw_iadd (pc := 107) (by decide +kernel) ?_
            refine zw_min (pc := 108) zl_11_169 zb_minS zb_mathI zb_minC (by decide +kernel) ⟨Nat.le_of_ble_eq_true rfl, Nat.le_of_ble_eq_true rfl⟩ (Nat.zero_le _) (Nat.zero_le _) rfl ⟨by decide, by decide⟩ o22 ?_
            refine zx_putI (pc := 111) zf_11_134 (by decide +kernel) rfl zc_203 ?_
            refine zw_iconst (pc := 114) (n := 0) (by decide +kernel) ?_
            refine zw_istore (pc := 115) (i := 6) (lv' := [(0, .ref 203), (1, .int (zJ v1)), (2, .int (zJ v2)), (3, .int (zJ v3)), (4, .int (zJ (min (μ13 204 v1.toNat) (μ13 204 v2.toNat)))), (5, .int (zJ ((min ((μ13 204 v1.toNat) + (μ13 205 v1.toNat)) ((μ13 204 v2.toNat) + (μ13 205 v2.toNat))) - 1))), (6, .int (zJ 0))]) (by decide +kernel) (Nat.le_of_ble_eq_true rfl) rfl ?_
            exact zw_pick (lv' := [(0, .ref 203), (1, .int (zJ v1)), (2, .int (zJ v2)), (3, .int (zJ v3)), (4, .int (zJ (min (μ13 204 v1.toNat) (μ13 204 v2.toNat)))), (6, .int (zJ 0))]) [0, 1, 2, 3, 4, 6] rfl h
          · replace h := h.2 hc
            refine zw_bipush (pc := 39) (n := (-11)) (by decide +kernel) (by decide +kernel) ?_
            exact zw_iret (pc := 41) (by decide +kernel) rfl (Nat.le_refl _) (Nat.le_refl _) ⟨_, _, rfl, rfl, h⟩
      · replace h := h.2 hc
        refine zw_iconst (pc := 21) (n := (-1)) (by decide +kernel) ?_
        exact zw_iret (pc := 22) (by decide +kernel) rfl (Nat.le_refl _) (Nat.le_refl _) ⟨_, _, rfl, rfl, h⟩
theorem sg_X11_sum_117 {g : zG} {φ : Int → zMu → Prop} {v1 : Int} {v2 : Int} {v3 : Int} {v4 : Int} {v6 : Int} {μ : zMu}
    (h : (zR v6) ∧ (zR (μ 203 8)) ∧ (((μ 203 8) ≤ v6 → zOi g zm_X11_becomes [.ref 203, .int (zJ v3)] μ (fun x4 μ3 => φ x4 μ3)) ∧ (v6 < (μ 203 8) → zOi g zm_X11_numberOf [.ref 203, .int (zJ v1), .int (zJ (v4 + v6))] μ (fun x6 μ5 => zOi g zm_X11_numberOf [.ref 203, .int (zJ v2), .int (zJ (v4 + v6))] μ5 (fun x8 μ7 => (zR (x6 + x8)) ∧ (zR (μ7 203 0)) ∧ ((μ7 203 0) ≠ 0) ∧ (0 ≤ v6 ∧ v6 < 80) ∧ at_X11_sum_117 g φ v1 v2 v3 v4 (v6 + 1) (zup μ7 209 v6.toNat ((x6 + x8).tmod (μ7 203 0)))))))) : at_X11_sum_117 g φ v1 v2 v3 v4 v6 μ := by
  obtain ⟨o1, o2, h⟩ := h
  refine zw_iload (pc := 117) (i := 6) 5 (by decide +kernel) rfl ?_
  refine zw_aload_n (pc := 119) (n := 0) (i := 0) 0 (by decide +kernel) rfl rfl ?_
  refine zx_getI (pc := 120) zf_11_134 (by decide +kernel) rfl zc_203 ?_
  refine zw_icmp_ge (pc := 123) (off := 42) (tgt := 165) (by decide +kernel) (by decide) o1 o2 (fun hc => ?_) (fun hc => ?_)
  · replace h := h.1 hc
    refine zw_aload_n (pc := 165) (n := 0) (i := 0) 0 (by decide +kernel) rfl rfl ?_
    refine zw_iload_n (pc := 166) (n := 3) (i := 3) 3 (by decide +kernel) rfl rfl ?_
    refine zx_callV (pc := 167) (As := [.int (zJ v3)]) h zi_X11_becomes zii_X11_becomes zie_X11_becomes zl_11_163 (by decide +kernel) ⟨Nat.le_of_ble_eq_true rfl, Nat.le_of_ble_eq_true rfl⟩ rfl zc_203 (by decide) rfl rfl ⟨rfl, rfl⟩ ⟨Nat.zero_le _, Nat.zero_le _⟩ (zki (fun x4 μ3 h => ?_))
    exact zw_iret (pc := 170) (by decide +kernel) rfl (Nat.le_refl _) (Nat.le_refl _) ⟨_, _, rfl, rfl, h⟩
  · replace h := h.2 hc
    refine zw_aload_n (pc := 126) (n := 0) (i := 0) 0 (by decide +kernel) rfl rfl ?_
    refine zx_getR (pc := 127) (o := 6) (r := 209) zf_11_31 (by decide +kernel) rfl zc_203 rfl (by decide) rfl ?_
    refine zw_iload (pc := 130) (i := 6) 5 (by decide +kernel) rfl ?_
    refine zw_aload_n (pc := 132) (n := 0) (i := 0) 0 (by decide +kernel) rfl rfl ?_
    refine zw_iload_n (pc := 133) (n := 1) (i := 1) 1 (by decide +kernel) rfl rfl ?_
    refine zw_iload (pc := 134) (i := 4) 4 (by decide +kernel) rfl ?_
    refine zw_iload (pc := 136) (i := 6) 5 (by decide +kernel) rfl ?_
    refine zw_iadd (pc := 138) (by decide +kernel) ?_
    refine zx_callV (pc := 139) (As := [.int (zJ v1), .int (zJ (v4 + v6))]) h zi_X11_numberOf zii_X11_numberOf zie_X11_numberOf zl_11_175 (by decide +kernel) ⟨Nat.le_of_ble_eq_true rfl, Nat.le_of_ble_eq_true rfl⟩ rfl zc_203 (by decide) rfl rfl ⟨rfl, rfl⟩ ⟨Nat.zero_le _, Nat.zero_le _⟩ (zki (fun x6 μ5 h => ?_))
    refine zw_aload_n (pc := 142) (n := 0) (i := 0) 0 (by decide +kernel) rfl rfl ?_
    refine zw_iload_n (pc := 143) (n := 2) (i := 2) 2 (by decide +kernel) rfl rfl ?_
    refine zw_iload (pc := 144) (i := 4) 4 (by decide +kernel) rfl ?_
    refine zw_iload (pc := 146) (i := 6) 5 (by decide +kernel) rfl ?_
    refine zw_iadd (pc := 148) (by decide +kernel) ?_
    refine zx_callV (pc := 149) (As := [.int (zJ v2), .int (zJ (v4 + v6))]) h zi_X11_numberOf zii_X11_numberOf zie_X11_numberOf zl_11_175 (by decide +kernel) ⟨Nat.le_of_ble_eq_true rfl, Nat.le_of_ble_eq_true rfl⟩ rfl zc_203 (by decide) rfl rfl ⟨rfl, rfl⟩ ⟨Nat.zero_le _, Nat.zero_le _⟩ (zki (fun x8 μ7 h => ?_))
    obtain ⟨o9, o10, o11, o12, h⟩ := h
    refine zw_iadd (pc := 152) (by decide +kernel) ?_
    refine zw_aload_n (pc := 153) (n := 0) (i := 0) 0 (by decide +kernel) rfl rfl ?_
    refine zx_getI (pc := 154) zf_11_9 (by decide +kernel) rfl zc_203 ?_
    refine zw_irem (pc := 157) (by decide +kernel) o9 o10 o11 ?_
    refine zx_iastore (pc := 158) (by decide +kernel) ⟨80, zc_209, o12.1, o12.2⟩ ?_
    refine zw_iinc (pc := 159) (i := 6) (n := 1) (lv' := [(0, .ref 203), (1, .int (zJ v1)), (2, .int (zJ v2)), (3, .int (zJ v3)), (4, .int (zJ v4)), (6, .int (zJ (v6 + 1)))]) 5 (by decide +kernel) rfl rfl (Nat.le_of_ble_eq_true rfl) rfl ?_
    refine zw_goto (pc := 162) (off := (-45)) (tgt := 117) (by decide +kernel) (by decide) ?_
    exact h
theorem sg_X11_isThere {g : zG} {φ : Int → zMu → Prop} {v1 : Int} {μ : zMu}
    (h : (0 ≤ v1 ∧ v1 < 6) ∧ (zR (μ 205 v1.toNat)) ∧ (((μ 205 v1.toNat) ≤ 0 → φ 0 μ) ∧ (0 < (μ 205 v1.toNat) → φ 1 μ))) : zOi g zm_X11_isThere [.ref 203, .int (zJ v1)] μ φ := by
  refine zok_of (by decide +kernel) rfl ?_
  show zWP g zm_X11_isThere (zmo g zm_X11_isThere (zΦi φ)) 0 [(0, .ref 203), (1, .int (zJ v1))] [] 0 0 (zw μ)
  obtain ⟨o1, o2, h⟩ := h
  refine zw_aload_n (pc := 0) (n := 0) (i := 0) 0 (by decide +kernel) rfl rfl ?_
  refine zx_getR (pc := 1) (o := 2) (r := 205) zf_11_19 (by decide +kernel) rfl zc_203 rfl (by decide) rfl ?_
  refine zw_iload_n (pc := 4) (n := 1) (i := 1) 1 (by decide +kernel) rfl rfl ?_
  refine zx_iaload (pc := 5) (by decide +kernel) ⟨6, zc_205, o1.1, o1.2⟩ ?_
  refine zw_if_le (pc := 6) (off := 7) (tgt := 13) (by decide +kernel) (by decide) o2 (fun hc => ?_) (fun hc => ?_)
  · replace h := h.1 hc
    refine zw_iconst (pc := 13) (n := 0) (by decide +kernel) ?_
    exact zw_zret (pc := 14) (by decide +kernel) rfl (Nat.le_refl _) (Nat.le_refl _) (Or.inl rfl) ⟨_, _, rfl, rfl, h⟩
  · replace h := h.2 hc
    refine zw_iconst (pc := 9) (n := 1) (by decide +kernel) ?_
    refine zw_goto (pc := 10) (off := 4) (tgt := 14) (by decide +kernel) (by decide) ?_
    exact zw_zret (pc := 14) (by decide +kernel) rfl (Nat.le_refl _) (Nat.le_refl _) (Or.inr rfl) ⟨_, _, rfl, rfl, h⟩
theorem sg_X11_numberOf {g : zG} {φ : Int → zMu → Prop} {v1 : Int} {v2 : Int} {μ : zMu}
    (h : (0 ≤ v1 ∧ v1 < 6) ∧ (zR (v2 - (μ 204 v1.toNat))) ∧ (zR ((μ 205 v1.toNat) - 1)) ∧ zOi g zm_X11_in [.long (zL (v2 - (μ 204 v1.toNat))), .long (zL 0), .long (zL ((μ 205 v1.toNat) - 1))] μ (fun x5 μ4 => (zR x5) ∧ ((x5 = 0 → φ 0 μ4) ∧ (¬ x5 = 0 → (0 ≤ (((80 * v1) + v2) - (μ4 204 v1.toNat)) ∧ (((80 * v1) + v2) - (μ4 204 v1.toNat)) < 480) ∧ φ (μ4 206 (Int.toNat (((80 * v1) + v2) - (μ4 204 v1.toNat)))) μ4)))) : zOi g zm_X11_numberOf [.ref 203, .int (zJ v1), .int (zJ v2)] μ φ := by
  refine zok_of (by decide +kernel) rfl ?_
  show zWP g zm_X11_numberOf (zmo g zm_X11_numberOf (zΦi φ)) 0 [(0, .ref 203), (1, .int (zJ v1)), (2, .int (zJ v2))] [] 0 0 (zw μ)
  obtain ⟨o1, o2, o3, h⟩ := h
  refine zw_iload_n (pc := 0) (n := 2) (i := 2) 2 (by decide +kernel) rfl rfl ?_
  refine zw_aload_n (pc := 1) (n := 0) (i := 0) 0 (by decide +kernel) rfl rfl ?_
  refine zx_getR (pc := 2) (o := 1) (r := 204) zf_11_15 (by decide +kernel) rfl zc_203 rfl (by decide) rfl ?_
  refine zw_iload_n (pc := 5) (n := 1) (i := 1) 1 (by decide +kernel) rfl rfl ?_
  refine zx_iaload (pc := 6) (by decide +kernel) ⟨6, zc_204, o1.1, o1.2⟩ ?_
  refine zw_isub (pc := 7) (by decide +kernel) ?_
  refine zw_i2l (pc := 8) (by decide +kernel) o2 ?_
  refine zw_lconst (pc := 9) (n := 0) (v := 0) (by decide +kernel) rfl ?_
  refine zw_aload_n (pc := 10) (n := 0) (i := 0) 0 (by decide +kernel) rfl rfl ?_
  refine zx_getR (pc := 11) (o := 2) (r := 205) zf_11_19 (by decide +kernel) rfl zc_203 rfl (by decide) rfl ?_
  refine zw_iload_n (pc := 14) (n := 1) (i := 1) 1 (by decide +kernel) rfl rfl ?_
  refine zx_iaload (pc := 15) (by decide +kernel) ⟨6, zc_205, o1.1, o1.2⟩ ?_
  refine zw_iconst (pc := 16) (n := 1) (by decide +kernel) ?_
  refine zw_isub (pc := 17) (by decide +kernel) ?_
  refine zw_i2l (pc := 18) (by decide +kernel) o3 ?_
  refine zx_callS (pc := 19) (As := [.long (zL (v2 - (μ 204 v1.toNat))), .long (zL 0), .long (zL ((μ 205 v1.toNat) - 1))]) h zi_X11_in zis_X11_in zl_11_114 (by decide +kernel) ⟨Nat.le_of_ble_eq_true rfl, Nat.le_of_ble_eq_true rfl⟩ rfl rfl ⟨rfl, rfl⟩ ⟨Nat.zero_le _, Nat.zero_le _⟩ (zki (fun x5 μ4 h => ?_))
  obtain ⟨o6, h⟩ := h
  refine zw_if_eq (pc := 22) (off := 24) (tgt := 46) (by decide +kernel) (by decide) o6 (fun hc => ?_) (fun hc => ?_)
  · replace h := h.1 hc
    refine zw_iconst (pc := 46) (n := 0) (by decide +kernel) ?_
    exact zw_iret (pc := 47) (by decide +kernel) rfl (Nat.le_refl _) (Nat.le_refl _) ⟨_, _, rfl, rfl, h⟩
  · replace h := h.2 hc
    obtain ⟨o7, h⟩ := h
    refine zw_aload_n (pc := 25) (n := 0) (i := 0) 0 (by decide +kernel) rfl rfl ?_
    refine zx_getR (pc := 26) (o := 3) (r := 206) zf_11_22 (by decide +kernel) rfl zc_203 rfl (by decide) rfl ?_
    refine zw_bipush (pc := 29) (n := 80) (by decide +kernel) (by decide +kernel) ?_
    refine zw_iload_n (pc := 31) (n := 1) (i := 1) 1 (by decide +kernel) rfl rfl ?_
    refine zw_imul (pc := 32) (by decide +kernel) ?_
    refine zw_iload_n (pc := 33) (n := 2) (i := 2) 2 (by decide +kernel) rfl rfl ?_
    refine zw_iadd (pc := 34) (by decide +kernel) ?_
    refine zw_aload_n (pc := 35) (n := 0) (i := 0) 0 (by decide +kernel) rfl rfl ?_
    refine zx_getR (pc := 36) (o := 1) (r := 204) zf_11_15 (by decide +kernel) rfl zc_203 rfl (by decide) rfl ?_
    refine zw_iload_n (pc := 39) (n := 1) (i := 1) 1 (by decide +kernel) rfl rfl ?_
    refine zx_iaload (pc := 40) (by decide +kernel) ⟨6, zc_204, o1.1, o1.2⟩ ?_
    refine zw_isub (pc := 41) (by decide +kernel) ?_
    refine zx_iaload (pc := 42) (by decide +kernel) ⟨480, zc_206, o7.1, o7.2⟩ ?_
    refine zw_goto (pc := 43) (off := 4) (tgt := 47) (by decide +kernel) (by decide) ?_
    exact zw_iret (pc := 47) (by decide +kernel) rfl (Nat.le_refl _) (Nat.le_refl _) ⟨_, _, rfl, rfl, h⟩
theorem sg_X11_times {g : zG} {φ : Int → zMu → Prop} {v1 : Int} {v2 : Int} {v3 : Int} {μ : zMu}
    (h : zOi g zm_X11_isSeries [.int (zJ v1)] μ (fun x2 μ1 => (zR x2) ∧ ((x2 = 0 → φ (-1) μ1) ∧ (¬ x2 = 0 → zOi g zm_X11_isSeries [.int (zJ v2)] μ1 (fun x5 μ4 => (zR x5) ∧ ((x5 = 0 → φ (-1) μ4) ∧ (¬ x5 = 0 → zOi g zm_X11_isSeries [.int (zJ v3)] μ4 (fun x8 μ7 => (zR x8) ∧ ((¬ x8 = 0 → zOi g zm_X11_isThere [.ref 203, .int (zJ v1)] μ7 (fun x11 μ10 => (zR x11) ∧ ((x11 = 0 → φ (-11) μ10) ∧ (¬ x11 = 0 → zOi g zm_X11_isThere [.ref 203, .int (zJ v2)] μ10 (fun x14 μ13 => (zR x14) ∧ ((¬ x14 = 0 → (0 ≤ v1 ∧ v1 < 6) ∧ (0 ≤ v2 ∧ v2 < 6) ∧ zOi g zm_X11_isStart [.int (zJ ((μ13 204 v1.toNat) + (μ13 204 v2.toNat)))] μ13 (fun x19 μ18 => (zR x19) ∧ ((¬ x19 = 0 → zOv g zm_X11_lays [.ref 206, .int (zJ (80 * v1)), .ref 210] μ18 (fun μ21 => zOv g zm_X11_lays [.ref 206, .int (zJ (80 * v2)), .ref 211] μ21 (fun μ22 => (zR ((zup μ22 203 7 ((μ22 204 v1.toNat) + (μ22 204 v2.toNat))) 205 v1.toNat)) ∧ (zR ((zup μ22 203 7 ((μ22 204 v1.toNat) + (μ22 204 v2.toNat))) 205 v2.toNat)) ∧ zOv g zm_X11_multiplies [.ref 203, .ref 210, .ref 211, .int (zJ ((zup (zup μ22 203 7 ((μ22 204 v1.toNat) + (μ22 204 v2.toNat))) 203 8 (min ((zup μ22 203 7 ((μ22 204 v1.toNat) + (μ22 204 v2.toNat))) 205 v1.toNat) ((zup μ22 203 7 ((μ22 204 v1.toNat) + (μ22 204 v2.toNat))) 205 v2.toNat))) 203 8))] (zup (zup μ22 203 7 ((μ22 204 v1.toNat) + (μ22 204 v2.toNat))) 203 8 (min ((zup μ22 203 7 ((μ22 204 v1.toNat) + (μ22 204 v2.toNat))) 205 v1.toNat) ((zup μ22 203 7 ((μ22 204 v1.toNat) + (μ22 204 v2.toNat))) 205 v2.toNat))) (fun μ25 => zOi g zm_X11_becomes [.ref 203, .int (zJ v3)] μ25 (fun x27 μ26 => φ x27 μ26))))) ∧ (x19 = 0 → φ (-3) μ18)))) ∧ (x14 = 0 → φ (-11) μ13))))))) ∧ (x8 = 0 → φ (-1) μ7)))))))))) : zOi g zm_X11_times [.ref 203, .int (zJ v1), .int (zJ v2), .int (zJ v3)] μ φ := by
  refine zok_of (by decide +kernel) rfl ?_
  show zWP g zm_X11_times (zmo g zm_X11_times (zΦi φ)) 0 [(0, .ref 203), (1, .int (zJ v1)), (2, .int (zJ v2)), (3, .int (zJ v3))] [] 0 0 (zw μ)
  refine zw_iload_n (pc := 0) (n := 1) (i := 1) 1 (by decide +kernel) rfl rfl ?_
  refine zx_callS (pc := 1) (As := [.int (zJ v1)]) h zi_X11_isSeries zis_X11_isSeries zl_11_141 (by decide +kernel) ⟨Nat.le_of_ble_eq_true rfl, Nat.le_of_ble_eq_true rfl⟩ rfl rfl ⟨rfl, rfl⟩ ⟨Nat.zero_le _, Nat.zero_le _⟩ (zki (fun x2 μ1 h => ?_))
  obtain ⟨o3, h⟩ := h
  refine zw_if_eq (pc := 4) (off := 17) (tgt := 21) (by decide +kernel) (by decide) o3 (fun hc => ?_) (fun hc => ?_)
  · replace h := h.1 hc
    refine zw_iconst (pc := 21) (n := (-1)) (by decide +kernel) ?_
    exact zw_iret (pc := 22) (by decide +kernel) rfl (Nat.le_refl _) (Nat.le_refl _) ⟨_, _, rfl, rfl, h⟩
  · replace h := h.2 hc
    refine zw_iload_n (pc := 7) (n := 2) (i := 2) 2 (by decide +kernel) rfl rfl ?_
    refine zx_callS (pc := 8) (As := [.int (zJ v2)]) h zi_X11_isSeries zis_X11_isSeries zl_11_141 (by decide +kernel) ⟨Nat.le_of_ble_eq_true rfl, Nat.le_of_ble_eq_true rfl⟩ rfl rfl ⟨rfl, rfl⟩ ⟨Nat.zero_le _, Nat.zero_le _⟩ (zki (fun x5 μ4 h => ?_))
    obtain ⟨o6, h⟩ := h
    refine zw_if_eq (pc := 11) (off := 10) (tgt := 21) (by decide +kernel) (by decide) o6 (fun hc => ?_) (fun hc => ?_)
    · replace h := h.1 hc
      refine zw_iconst (pc := 21) (n := (-1)) (by decide +kernel) ?_
      exact zw_iret (pc := 22) (by decide +kernel) rfl (Nat.le_refl _) (Nat.le_refl _) ⟨_, _, rfl, rfl, h⟩
    · replace h := h.2 hc
      refine zw_iload_n (pc := 14) (n := 3) (i := 3) 3 (by decide +kernel) rfl rfl ?_
      refine zx_callS (pc := 15) (As := [.int (zJ v3)]) h zi_X11_isSeries zis_X11_isSeries zl_11_141 (by decide +kernel) ⟨Nat.le_of_ble_eq_true rfl, Nat.le_of_ble_eq_true rfl⟩ rfl rfl ⟨rfl, rfl⟩ ⟨Nat.zero_le _, Nat.zero_le _⟩ (zki (fun x8 μ7 h => ?_))
      obtain ⟨o9, h⟩ := h
      refine zw_if_ne (pc := 18) (off := 5) (tgt := 23) (by decide +kernel) (by decide) o9 (fun hc => ?_) (fun hc => ?_)
      · replace h := h.1 hc
        refine zw_aload_n (pc := 23) (n := 0) (i := 0) 0 (by decide +kernel) rfl rfl ?_
        refine zw_iload_n (pc := 24) (n := 1) (i := 1) 1 (by decide +kernel) rfl rfl ?_
        refine zx_callV (pc := 25) (As := [.int (zJ v1)]) h zi_X11_isThere zii_X11_isThere zie_X11_isThere zl_11_166 (by decide +kernel) ⟨Nat.le_of_ble_eq_true rfl, Nat.le_of_ble_eq_true rfl⟩ rfl zc_203 (by decide) rfl rfl ⟨rfl, rfl⟩ ⟨Nat.zero_le _, Nat.zero_le _⟩ (zki (fun x11 μ10 h => ?_))
        obtain ⟨o12, h⟩ := h
        refine zw_if_eq (pc := 28) (off := 11) (tgt := 39) (by decide +kernel) (by decide) o12 (fun hc => ?_) (fun hc => ?_)
        · replace h := h.1 hc
          refine zw_bipush (pc := 39) (n := (-11)) (by decide +kernel) (by decide +kernel) ?_
          exact zw_iret (pc := 41) (by decide +kernel) rfl (Nat.le_refl _) (Nat.le_refl _) ⟨_, _, rfl, rfl, h⟩
        · replace h := h.2 hc
          refine zw_aload_n (pc := 31) (n := 0) (i := 0) 0 (by decide +kernel) rfl rfl ?_
          refine zw_iload_n (pc := 32) (n := 2) (i := 2) 2 (by decide +kernel) rfl rfl ?_
          refine zx_callV (pc := 33) (As := [.int (zJ v2)]) h zi_X11_isThere zii_X11_isThere zie_X11_isThere zl_11_166 (by decide +kernel) ⟨Nat.le_of_ble_eq_true rfl, Nat.le_of_ble_eq_true rfl⟩ rfl zc_203 (by decide) rfl rfl ⟨rfl, rfl⟩ ⟨Nat.zero_le _, Nat.zero_le _⟩ (zki (fun x14 μ13 h => ?_))
          obtain ⟨o15, h⟩ := h
          refine zw_if_ne (pc := 36) (off := 6) (tgt := 42) (by decide +kernel) (by decide) o15 (fun hc => ?_) (fun hc => ?_)
          · replace h := h.1 hc
            obtain ⟨o16, o17, h⟩ := h
            refine zw_aload_n (pc := 42) (n := 0) (i := 0) 0 (by decide +kernel) rfl rfl ?_
            refine zx_getR (pc := 43) (o := 1) (r := 204) zf_11_15 (by decide +kernel) rfl zc_203 rfl (by decide) rfl ?_
            refine zw_iload_n (pc := 46) (n := 1) (i := 1) 1 (by decide +kernel) rfl rfl ?_
            refine zx_iaload (pc := 47) (by decide +kernel) ⟨6, zc_204, o16.1, o16.2⟩ ?_
            refine zw_aload_n (pc := 48) (n := 0) (i := 0) 0 (by decide +kernel) rfl rfl ?_
            refine zx_getR (pc := 49) (o := 1) (r := 204) zf_11_15 (by decide +kernel) rfl zc_203 rfl (by decide) rfl ?_
            refine zw_iload_n (pc := 52) (n := 2) (i := 2) 2 (by decide +kernel) rfl rfl ?_
            refine zx_iaload (pc := 53) (by decide +kernel) ⟨6, zc_204, o17.1, o17.2⟩ ?_
            refine zw_iadd (pc := 54) (by decide +kernel) ?_
            refine zx_callS (pc := 55) (As := [.int (zJ ((μ13 204 v1.toNat) + (μ13 204 v2.toNat)))]) h zi_X11_isStart zis_X11_isStart zl_11_178 (by decide +kernel) ⟨Nat.le_of_ble_eq_true rfl, Nat.le_of_ble_eq_true rfl⟩ rfl rfl ⟨rfl, rfl⟩ ⟨Nat.zero_le _, Nat.zero_le _⟩ (zki (fun x19 μ18 h => ?_))
            obtain ⟨o20, h⟩ := h
            refine zw_if_ne (pc := 58) (off := 6) (tgt := 64) (by decide +kernel) (by decide) o20 (fun hc => ?_) (fun hc => ?_)
            · replace h := h.1 hc
              refine zw_aload_n (pc := 64) (n := 0) (i := 0) 0 (by decide +kernel) rfl rfl ?_
              refine zx_getR (pc := 65) (o := 3) (r := 206) zf_11_22 (by decide +kernel) rfl zc_203 rfl (by decide) rfl ?_
              refine zw_bipush (pc := 68) (n := 80) (by decide +kernel) (by decide +kernel) ?_
              refine zw_iload_n (pc := 70) (n := 1) (i := 1) 1 (by decide +kernel) rfl rfl ?_
              refine zw_imul (pc := 71) (by decide +kernel) ?_
              refine zw_aload_n (pc := 72) (n := 0) (i := 0) 0 (by decide +kernel) rfl rfl ?_
              refine zx_getR (pc := 73) (o := 7) (r := 210) zf_11_34 (by decide +kernel) rfl zc_203 rfl (by decide) rfl ?_
              refine zx_callS (pc := 76) (As := [.ref 206, .int (zJ (80 * v1)), .ref 210]) h zi_X11_lays zis_X11_lays zl_11_156 (by decide +kernel) ⟨Nat.le_of_ble_eq_true rfl, Nat.le_of_ble_eq_true rfl⟩ rfl rfl ⟨rfl, rfl⟩ ⟨Nat.zero_le _, Nat.zero_le _⟩ (zkv (fun μ21 h => ?_))
              refine zw_aload_n (pc := 79) (n := 0) (i := 0) 0 (by decide +kernel) rfl rfl ?_
              refine zx_getR (pc := 80) (o := 3) (r := 206) zf_11_22 (by decide +kernel) rfl zc_203 rfl (by decide) rfl ?_
              refine zw_bipush (pc := 83) (n := 80) (by decide +kernel) (by decide +kernel) ?_
              refine zw_iload_n (pc := 85) (n := 2) (i := 2) 2 (by decide +kernel) rfl rfl ?_
              refine zw_imul (pc := 86) (by decide +kernel) ?_
              refine zw_aload_n (pc := 87) (n := 0) (i := 0) 0 (by decide +kernel) rfl rfl ?_
              refine zx_getR (pc := 88) (o := 8) (r := 211) zf_11_37 (by decide +kernel) rfl zc_203 rfl (by decide) rfl ?_
              refine zx_callS (pc := 91) (As := [.ref 206, .int (zJ (80 * v2)), .ref 211]) h zi_X11_lays zis_X11_lays zl_11_156 (by decide +kernel) ⟨Nat.le_of_ble_eq_true rfl, Nat.le_of_ble_eq_true rfl⟩ rfl rfl ⟨rfl, rfl⟩ ⟨Nat.zero_le _, Nat.zero_le _⟩ (zkv (fun μ22 h => ?_))
              obtain ⟨o23, o24, h⟩ := h
              refine zw_aload_n (pc := 94) (n := 0) (i := 0) 0 (by decide +kernel) rfl rfl ?_
              refine zw_aload_n (pc := 95) (n := 0) (i := 0) 0 (by decide +kernel) rfl rfl ?_
              refine zx_getR (pc := 96) (o := 1) (r := 204) zf_11_15 (by decide +kernel) rfl zc_203 rfl (by decide) rfl ?_
              refine zw_iload_n (pc := 99) (n := 1) (i := 1) 1 (by decide +kernel) rfl rfl ?_
              refine zx_iaload (pc := 100) (by decide +kernel) ⟨6, zc_204, o16.1, o16.2⟩ ?_
              refine zw_aload_n (pc := 101) (n := 0) (i := 0) 0 (by decide +kernel) rfl rfl ?_
              refine zx_getR (pc := 102) (o := 1) (r := 204) zf_11_15 (by decide +kernel) rfl zc_203 rfl (by decide) rfl ?_
              refine zw_iload_n (pc := 105) (n := 2) (i := 2) 2 (by decide +kernel) rfl rfl ?_
              refine zx_iaload (pc := 106) (by decide +kernel) ⟨6, zc_204, o17.1, o17.2⟩ ?_
              refine zw_iadd (pc := 107) (by decide +kernel) ?_
              refine zx_putI (pc := 108) zf_11_131 (by decide +kernel) rfl zc_203 ?_
              refine zw_aload_n (pc := 111) (n := 0) (i := 0) 0 (by decide +kernel) rfl rfl ?_
              refine zw_aload_n (pc := 112) (n := 0) (i := 0) 0 (by decide +kernel) rfl rfl ?_
              refine zx_getR (pc := 113) (o := 2) (r := 205) zf_11_19 (by decide +kernel) rfl zc_203 rfl (by decide) rfl ?_
              refine zw_iload_n (pc := 116) (n := 1) (i := 1) 1 (by decide +kernel) rfl rfl ?_
              refine zx_iaload (pc := 117) (by decide +kernel) ⟨6, zc_205, o16.1, o16.2⟩ ?_
              refine zw_aload_n (pc := 118) (n := 0) (i := 0) 0 (by decide +kernel) rfl rfl ?_
              refine zx_getR (pc := 119) (o := 2) (r := 205) zf_11_19 (by decide +kernel) rfl zc_203 rfl (by decide) rfl ?_
              refine zw_iload_n (pc := 122) (n := 2) (i := 2) 2 (by decide +kernel) rfl rfl ?_
              refine zx_iaload (pc := 123) (by decide +kernel) ⟨6, zc_205, o17.1, o17.2⟩ ?_
              refine zw_min (pc := 124) zl_11_169 zb_minS zb_mathI zb_minC (by decide +kernel) ⟨Nat.le_of_ble_eq_true rfl, Nat.le_of_ble_eq_true rfl⟩ (Nat.zero_le _) (Nat.zero_le _) rfl o23 o24 ?_
              refine zx_putI (pc := 127) zf_11_134 (by decide +kernel) rfl zc_203 ?_
              refine zw_aload_n (pc := 130) (n := 0) (i := 0) 0 (by decide +kernel) rfl rfl ?_
              refine zw_aload_n (pc := 131) (n := 0) (i := 0) 0 (by decide +kernel) rfl rfl ?_
              refine zx_getR (pc := 132) (o := 7) (r := 210) zf_11_34 (by decide +kernel) rfl zc_203 rfl (by decide) rfl ?_
              refine zw_aload_n (pc := 135) (n := 0) (i := 0) 0 (by decide +kernel) rfl rfl ?_
              refine zx_getR (pc := 136) (o := 8) (r := 211) zf_11_37 (by decide +kernel) rfl zc_203 rfl (by decide) rfl ?_
              refine zw_aload_n (pc := 139) (n := 0) (i := 0) 0 (by decide +kernel) rfl rfl ?_
              refine zx_getI (pc := 140) zf_11_134 (by decide +kernel) rfl zc_203 ?_
              refine zx_callV (pc := 143) (As := [.ref 210, .ref 211, .int (zJ ((zup (zup μ22 203 7 ((μ22 204 v1.toNat) + (μ22 204 v2.toNat))) 203 8 (min ((zup μ22 203 7 ((μ22 204 v1.toNat) + (μ22 204 v2.toNat))) 205 v1.toNat) ((zup μ22 203 7 ((μ22 204 v1.toNat) + (μ22 204 v2.toNat))) 205 v2.toNat))) 203 8))]) h zi_X11_multiplies zii_X11_multiplies zie_X11_multiplies zl_11_152 (by decide +kernel) ⟨Nat.le_of_ble_eq_true rfl, Nat.le_of_ble_eq_true rfl⟩ rfl zc_203 (by decide) rfl rfl ⟨rfl, rfl⟩ ⟨Nat.zero_le _, Nat.zero_le _⟩ (zkv (fun μ25 h => ?_))
              refine zw_aload_n (pc := 146) (n := 0) (i := 0) 0 (by decide +kernel) rfl rfl ?_
              refine zw_iload_n (pc := 147) (n := 3) (i := 3) 3 (by decide +kernel) rfl rfl ?_
              refine zx_callV (pc := 148) (As := [.int (zJ v3)]) h zi_X11_becomes zii_X11_becomes zie_X11_becomes zl_11_163 (by decide +kernel) ⟨Nat.le_of_ble_eq_true rfl, Nat.le_of_ble_eq_true rfl⟩ rfl zc_203 (by decide) rfl rfl ⟨rfl, rfl⟩ ⟨Nat.zero_le _, Nat.zero_le _⟩ (zki (fun x27 μ26 h => ?_))
              exact zw_iret (pc := 151) (by decide +kernel) rfl (Nat.le_refl _) (Nat.le_refl _) ⟨_, _, rfl, rfl, h⟩
            · replace h := h.2 hc
              refine zw_bipush (pc := 61) (n := (-3)) (by decide +kernel) (by decide +kernel) ?_
              exact zw_iret (pc := 63) (by decide +kernel) rfl (Nat.le_refl _) (Nat.le_refl _) ⟨_, _, rfl, rfl, h⟩
          · replace h := h.2 hc
            refine zw_bipush (pc := 39) (n := (-11)) (by decide +kernel) (by decide +kernel) ?_
            exact zw_iret (pc := 41) (by decide +kernel) rfl (Nat.le_refl _) (Nat.le_refl _) ⟨_, _, rfl, rfl, h⟩
      · replace h := h.2 hc
        refine zw_iconst (pc := 21) (n := (-1)) (by decide +kernel) ?_
        exact zw_iret (pc := 22) (by decide +kernel) rfl (Nat.le_refl _) (Nat.le_refl _) ⟨_, _, rfl, rfl, h⟩
theorem sg_X11_isStart {g : zG} {φ : Int → zMu → Prop} {v0 : Int} {μ : zMu}
    (h : (zR v0) ∧ zOi g zm_X11_in [.long (zL v0), .long (zL (-99)), .long (zL 99)] μ (fun x3 μ2 => (x3 = 0 ∨ x3 = 1) ∧ φ x3 μ2)) : zOi g zm_X11_isStart [.int (zJ v0)] μ φ := by
  refine zok_of (by decide +kernel) rfl ?_
  show zWP g zm_X11_isStart (zmo g zm_X11_isStart (zΦi φ)) 0 [(0, .int (zJ v0))] [] 0 0 (zw μ)
  obtain ⟨o1, h⟩ := h
  refine zw_iload_n (pc := 0) (n := 0) (i := 0) 0 (by decide +kernel) rfl rfl ?_
  refine zw_i2l (pc := 1) (by decide +kernel) o1 ?_
  refine zw_ldc2 (pc := 2) (v := (-99)) (by decide +kernel) zk_11_118 ?_
  refine zw_ldc2 (pc := 5) (v := 99) (by decide +kernel) zk_11_120 ?_
  refine zx_callS (pc := 8) (As := [.long (zL v0), .long (zL (-99)), .long (zL 99)]) h zi_X11_in zis_X11_in zl_11_114 (by decide +kernel) ⟨Nat.le_of_ble_eq_true rfl, Nat.le_of_ble_eq_true rfl⟩ rfl rfl ⟨rfl, rfl⟩ ⟨Nat.zero_le _, Nat.zero_le _⟩ (zki (fun x3 μ2 h => ?_))
  obtain ⟨o4, h⟩ := h
  exact zw_zret (pc := 11) (by decide +kernel) rfl (Nat.le_refl _) (Nat.le_refl _) o4 ⟨_, _, rfl, rfl, h⟩
abbrev at_X11_stretch_91 (g : zG) (φ : Int → zMu → Prop) (v1 : Int) (v2 : Int) (v3 : Int) (v4 : Int) (μ : zMu) : Prop := zWP g zm_X11_stretch (zmo g zm_X11_stretch (zΦi φ)) 91 [(0, .ref 203), (1, .int (zJ v1)), (2, .int (zJ v2)), (3, .int (zJ v3)), (4, .int (zJ v4))] [] 0 0 (zw μ)
theorem sg_X11_stretch {g : zG} {φ : Int → zMu → Prop} {v1 : Int} {v2 : Int} {v3 : Int} {μ : zMu}
    (h : zOi g zm_X11_isSeries [.int (zJ v1)] μ (fun x2 μ1 => (zR x2) ∧ ((x2 = 0 → φ (-1) μ1) ∧ (¬ x2 = 0 → zOi g zm_X11_isSeries [.int (zJ v3)] μ1 (fun x5 μ4 => (zR x5) ∧ ((¬ x5 = 0 → (zR v2) ∧ zOi g zm_X11_in [.long (zL v2), .long (zL 1), .long (zL 9)] μ4 (fun x9 μ8 => (zR x9) ∧ ((¬ x9 = 0 → zOi g zm_X11_isThere [.ref 203, .int (zJ v1)] μ8 (fun x12 μ11 => (zR x12) ∧ ((¬ x12 = 0 → (0 ≤ v1 ∧ v1 < 6) ∧ zOi g zm_X11_isStart [.int (zJ (v2 * (μ11 204 v1.toNat)))] μ11 (fun x16 μ15 => (zR x16) ∧ ((¬ x16 = 0 → (zR (v2 * ((zup μ15 203 7 (v2 * (μ15 204 v1.toNat))) 205 v1.toNat))) ∧ at_X11_stretch_91 g φ v1 v2 v3 0 (zup (zup μ15 203 7 (v2 * (μ15 204 v1.toNat))) 203 8 (min 80 (v2 * ((zup μ15 203 7 (v2 * (μ15 204 v1.toNat))) 205 v1.toNat))))) ∧ (x16 = 0 → φ (-3) μ15)))) ∧ (x12 = 0 → φ (-11) μ11)))) ∧ (x9 = 0 → φ (-2) μ8)))) ∧ (x5 = 0 → φ (-1) μ4))))))) : zOi g zm_X11_stretch [.ref 203, .int (zJ v1), .int (zJ v2), .int (zJ v3)] μ φ := by
  refine zok_of (by decide +kernel) rfl ?_
  show zWP g zm_X11_stretch (zmo g zm_X11_stretch (zΦi φ)) 0 [(0, .ref 203), (1, .int (zJ v1)), (2, .int (zJ v2)), (3, .int (zJ v3))] [] 0 0 (zw μ)
  refine zw_iload_n (pc := 0) (n := 1) (i := 1) 1 (by decide +kernel) rfl rfl ?_
  refine zx_callS (pc := 1) (As := [.int (zJ v1)]) h zi_X11_isSeries zis_X11_isSeries zl_11_141 (by decide +kernel) ⟨Nat.le_of_ble_eq_true rfl, Nat.le_of_ble_eq_true rfl⟩ rfl rfl ⟨rfl, rfl⟩ ⟨Nat.zero_le _, Nat.zero_le _⟩ (zki (fun x2 μ1 h => ?_))
  obtain ⟨o3, h⟩ := h
  refine zw_if_eq (pc := 4) (off := 10) (tgt := 14) (by decide +kernel) (by decide) o3 (fun hc => ?_) (fun hc => ?_)
  · replace h := h.1 hc
    refine zw_iconst (pc := 14) (n := (-1)) (by decide +kernel) ?_
    exact zw_iret (pc := 15) (by decide +kernel) rfl (Nat.le_refl _) (Nat.le_refl _) ⟨_, _, rfl, rfl, h⟩
  · replace h := h.2 hc
    refine zw_iload_n (pc := 7) (n := 3) (i := 3) 3 (by decide +kernel) rfl rfl ?_
    refine zx_callS (pc := 8) (As := [.int (zJ v3)]) h zi_X11_isSeries zis_X11_isSeries zl_11_141 (by decide +kernel) ⟨Nat.le_of_ble_eq_true rfl, Nat.le_of_ble_eq_true rfl⟩ rfl rfl ⟨rfl, rfl⟩ ⟨Nat.zero_le _, Nat.zero_le _⟩ (zki (fun x5 μ4 h => ?_))
    obtain ⟨o6, h⟩ := h
    refine zw_if_ne (pc := 11) (off := 5) (tgt := 16) (by decide +kernel) (by decide) o6 (fun hc => ?_) (fun hc => ?_)
    · replace h := h.1 hc
      obtain ⟨o7, h⟩ := h
      refine zw_iload_n (pc := 16) (n := 2) (i := 2) 2 (by decide +kernel) rfl rfl ?_
      refine zw_i2l (pc := 17) (by decide +kernel) o7 ?_
      refine zw_lconst (pc := 18) (n := 1) (v := 1) (by decide +kernel) rfl ?_
      refine zw_ldc2 (pc := 19) (v := 9) (by decide +kernel) zk_11_181 ?_
      refine zx_callS (pc := 22) (As := [.long (zL v2), .long (zL 1), .long (zL 9)]) h zi_X11_in zis_X11_in zl_11_114 (by decide +kernel) ⟨Nat.le_of_ble_eq_true rfl, Nat.le_of_ble_eq_true rfl⟩ rfl rfl ⟨rfl, rfl⟩ ⟨Nat.zero_le _, Nat.zero_le _⟩ (zki (fun x9 μ8 h => ?_))
      obtain ⟨o10, h⟩ := h
      refine zw_if_ne (pc := 25) (off := 6) (tgt := 31) (by decide +kernel) (by decide) o10 (fun hc => ?_) (fun hc => ?_)
      · replace h := h.1 hc
        refine zw_aload_n (pc := 31) (n := 0) (i := 0) 0 (by decide +kernel) rfl rfl ?_
        refine zw_iload_n (pc := 32) (n := 1) (i := 1) 1 (by decide +kernel) rfl rfl ?_
        refine zx_callV (pc := 33) (As := [.int (zJ v1)]) h zi_X11_isThere zii_X11_isThere zie_X11_isThere zl_11_166 (by decide +kernel) ⟨Nat.le_of_ble_eq_true rfl, Nat.le_of_ble_eq_true rfl⟩ rfl zc_203 (by decide) rfl rfl ⟨rfl, rfl⟩ ⟨Nat.zero_le _, Nat.zero_le _⟩ (zki (fun x12 μ11 h => ?_))
        obtain ⟨o13, h⟩ := h
        refine zw_if_ne (pc := 36) (off := 6) (tgt := 42) (by decide +kernel) (by decide) o13 (fun hc => ?_) (fun hc => ?_)
        · replace h := h.1 hc
          obtain ⟨o14, h⟩ := h
          refine zw_iload_n (pc := 42) (n := 2) (i := 2) 2 (by decide +kernel) rfl rfl ?_
          refine zw_aload_n (pc := 43) (n := 0) (i := 0) 0 (by decide +kernel) rfl rfl ?_
          refine zx_getR (pc := 44) (o := 1) (r := 204) zf_11_15 (by decide +kernel) rfl zc_203 rfl (by decide) rfl ?_
          refine zw_iload_n (pc := 47) (n := 1) (i := 1) 1 (by decide +kernel) rfl rfl ?_
          refine zx_iaload (pc := 48) (by decide +kernel) ⟨6, zc_204, o14.1, o14.2⟩ ?_
          refine zw_imul (pc := 49) (by decide +kernel) ?_
          refine zx_callS (pc := 50) (As := [.int (zJ (v2 * (μ11 204 v1.toNat)))]) h zi_X11_isStart zis_X11_isStart zl_11_178 (by decide +kernel) ⟨Nat.le_of_ble_eq_true rfl, Nat.le_of_ble_eq_true rfl⟩ rfl rfl ⟨rfl, rfl⟩ ⟨Nat.zero_le _, Nat.zero_le _⟩ (zki (fun x16 μ15 h => ?_))
          obtain ⟨o17, h⟩ := h
          refine zw_if_ne (pc := 53) (off := 6) (tgt := 59) (by decide +kernel) (by decide) o17 (fun hc => ?_) (fun hc => ?_)
          · replace h := h.1 hc
            obtain ⟨o18, h⟩ := h
            refine zw_aload_n (pc := 59) (n := 0) (i := 0) 0 (by decide +kernel) rfl rfl ?_
            refine zw_iload_n (pc := 60) (n := 2) (i := 2) 2 (by decide +kernel) rfl rfl ?_
            refine zw_aload_n (pc := 61) (n := 0) (i := 0) 0 (by decide +kernel) rfl rfl ?_
            refine zx_getR (pc := 62) (o := 1) (r := 204) zf_11_15 (by decide +kernel) rfl zc_203 rfl (by decide) rfl ?_
            refine zw_iload_n (pc := 65) (n := 1) (i := 1) 1 (by decide +kernel) rfl rfl ?_
            refine zx_iaload (pc := 66) (by decide +kernel) ⟨6, zc_204, o14.1, o14.2⟩ ?_
            refine zw_imul (pc := 67) (by decide +kernel) ?_
            refine zx_putI (pc := 68) zf_11_131 (by decide +kernel) rfl zc_203 ?_
            refine zw_aload_n (pc := 71) (n := 0) (i := 0) 0 (by decide +kernel) rfl rfl ?_
            refine zw_bipush (pc := 72) (n := 80) (by decide +kernel) (by decide +kernel) ?_
            refine zw_iload_n (pc := 74) (n := 2) (i := 2) 2 (by decide +kernel) rfl rfl ?_
            refine zw_aload_n (pc := 75) (n := 0) (i := 0) 0 (by decide +kernel) rfl rfl ?_
            refine zx_getR (pc := 76) (o := 2) (r := 205) zf_11_19 (by decide +kernel) rfl zc_203 rfl (by decide) rfl ?_
            refine zw_iload_n (pc := 79) (n := 1) (i := 1) 1 (by decide +kernel) rfl rfl ?_
            refine zx_iaload (pc := 80) (by decide +kernel) ⟨6, zc_205, o14.1, o14.2⟩ ?_
            refine zw_imul (pc := 81) (by decide +kernel) ?_
            refine zw_min (pc := 82) zl_11_169 zb_minS zb_mathI zb_minC (by decide +kernel) ⟨Nat.le_of_ble_eq_true rfl, Nat.le_of_ble_eq_true rfl⟩ (Nat.zero_le _) (Nat.zero_le _) rfl ⟨by decide, by decide⟩ o18 ?_
            refine zx_putI (pc := 85) zf_11_134 (by decide +kernel) rfl zc_203 ?_
            refine zw_iconst (pc := 88) (n := 0) (by decide +kernel) ?_
            refine zw_istore (pc := 89) (i := 4) (lv' := [(0, .ref 203), (1, .int (zJ v1)), (2, .int (zJ v2)), (3, .int (zJ v3)), (4, .int (zJ 0))]) (by decide +kernel) (Nat.le_of_ble_eq_true rfl) rfl ?_
            exact h
          · replace h := h.2 hc
            refine zw_bipush (pc := 56) (n := (-3)) (by decide +kernel) (by decide +kernel) ?_
            exact zw_iret (pc := 58) (by decide +kernel) rfl (Nat.le_refl _) (Nat.le_refl _) ⟨_, _, rfl, rfl, h⟩
        · replace h := h.2 hc
          refine zw_bipush (pc := 39) (n := (-11)) (by decide +kernel) (by decide +kernel) ?_
          exact zw_iret (pc := 41) (by decide +kernel) rfl (Nat.le_refl _) (Nat.le_refl _) ⟨_, _, rfl, rfl, h⟩
      · replace h := h.2 hc
        refine zw_bipush (pc := 28) (n := (-2)) (by decide +kernel) (by decide +kernel) ?_
        exact zw_iret (pc := 30) (by decide +kernel) rfl (Nat.le_refl _) (Nat.le_refl _) ⟨_, _, rfl, rfl, h⟩
    · replace h := h.2 hc
      refine zw_iconst (pc := 14) (n := (-1)) (by decide +kernel) ?_
      exact zw_iret (pc := 15) (by decide +kernel) rfl (Nat.le_refl _) (Nat.le_refl _) ⟨_, _, rfl, rfl, h⟩
theorem sg_X11_stretch_91 {g : zG} {φ : Int → zMu → Prop} {v1 : Int} {v2 : Int} {v3 : Int} {v4 : Int} {μ : zMu}
    (h : (zR v4) ∧ (zR (μ 203 8)) ∧ (((μ 203 8) ≤ v4 → zOi g zm_X11_becomes [.ref 203, .int (zJ v3)] μ (fun x4 μ3 => φ x4 μ3)) ∧ (v4 < (μ 203 8) → (zR v2) ∧ (v2 ≠ 0) ∧ (zR (v4.tmod v2)) ∧ ((¬ (v4.tmod v2) = 0 → (0 ≤ v4 ∧ v4 < 80) ∧ at_X11_stretch_91 g φ v1 v2 v3 (v4 + 1) (zup μ 209 v4.toNat 0)) ∧ ((v4.tmod v2) = 0 → (0 ≤ ((80 * v1) + (v4.tdiv v2)) ∧ ((80 * v1) + (v4.tdiv v2)) < 480) ∧ (0 ≤ v4 ∧ v4 < 80) ∧ at_X11_stretch_91 g φ v1 v2 v3 (v4 + 1) (zup μ 209 v4.toNat (μ 206 (Int.toNat ((80 * v1) + (v4.tdiv v2)))))))))) : at_X11_stretch_91 g φ v1 v2 v3 v4 μ := by
  obtain ⟨o1, o2, h⟩ := h
  refine zw_iload (pc := 91) (i := 4) 4 (by decide +kernel) rfl ?_
  refine zw_aload_n (pc := 93) (n := 0) (i := 0) 0 (by decide +kernel) rfl rfl ?_
  refine zx_getI (pc := 94) zf_11_134 (by decide +kernel) rfl zc_203 ?_
  refine zw_icmp_ge (pc := 97) (off := 41) (tgt := 138) (by decide +kernel) (by decide) o1 o2 (fun hc => ?_) (fun hc => ?_)
  · replace h := h.1 hc
    refine zw_aload_n (pc := 138) (n := 0) (i := 0) 0 (by decide +kernel) rfl rfl ?_
    refine zw_iload_n (pc := 139) (n := 3) (i := 3) 3 (by decide +kernel) rfl rfl ?_
    refine zx_callV (pc := 140) (As := [.int (zJ v3)]) h zi_X11_becomes zii_X11_becomes zie_X11_becomes zl_11_163 (by decide +kernel) ⟨Nat.le_of_ble_eq_true rfl, Nat.le_of_ble_eq_true rfl⟩ rfl zc_203 (by decide) rfl rfl ⟨rfl, rfl⟩ ⟨Nat.zero_le _, Nat.zero_le _⟩ (zki (fun x4 μ3 h => ?_))
    exact zw_iret (pc := 143) (by decide +kernel) rfl (Nat.le_refl _) (Nat.le_refl _) ⟨_, _, rfl, rfl, h⟩
  · replace h := h.2 hc
    obtain ⟨o5, o6, o7, h⟩ := h
    refine zw_aload_n (pc := 100) (n := 0) (i := 0) 0 (by decide +kernel) rfl rfl ?_
    refine zx_getR (pc := 101) (o := 6) (r := 209) zf_11_31 (by decide +kernel) rfl zc_203 rfl (by decide) rfl ?_
    refine zw_iload (pc := 104) (i := 4) 4 (by decide +kernel) rfl ?_
    refine zw_iload (pc := 106) (i := 4) 4 (by decide +kernel) rfl ?_
    refine zw_iload_n (pc := 108) (n := 2) (i := 2) 2 (by decide +kernel) rfl rfl ?_
    refine zw_irem (pc := 109) (by decide +kernel) o1 o5 o6 ?_
    refine zw_if_ne (pc := 110) (off := 20) (tgt := 130) (by decide +kernel) (by decide) o7 (fun hc => ?_) (fun hc => ?_)
    · replace h := h.1 hc
      obtain ⟨o8, h⟩ := h
      refine zw_iconst (pc := 130) (n := 0) (by decide +kernel) ?_
      refine zx_iastore (pc := 131) (by decide +kernel) ⟨80, zc_209, o8.1, o8.2⟩ ?_
      refine zw_iinc (pc := 132) (i := 4) (n := 1) (lv' := [(0, .ref 203), (1, .int (zJ v1)), (2, .int (zJ v2)), (3, .int (zJ v3)), (4, .int (zJ (v4 + 1)))]) 4 (by decide +kernel) rfl rfl (Nat.le_of_ble_eq_true rfl) rfl ?_
      refine zw_goto (pc := 135) (off := (-44)) (tgt := 91) (by decide +kernel) (by decide) ?_
      exact h
    · replace h := h.2 hc
      obtain ⟨o9, o10, h⟩ := h
      refine zw_aload_n (pc := 113) (n := 0) (i := 0) 0 (by decide +kernel) rfl rfl ?_
      refine zx_getR (pc := 114) (o := 3) (r := 206) zf_11_22 (by decide +kernel) rfl zc_203 rfl (by decide) rfl ?_
      refine zw_bipush (pc := 117) (n := 80) (by decide +kernel) (by decide +kernel) ?_
      refine zw_iload_n (pc := 119) (n := 1) (i := 1) 1 (by decide +kernel) rfl rfl ?_
      refine zw_imul (pc := 120) (by decide +kernel) ?_
      refine zw_iload (pc := 121) (i := 4) 4 (by decide +kernel) rfl ?_
      refine zw_iload_n (pc := 123) (n := 2) (i := 2) 2 (by decide +kernel) rfl rfl ?_
      refine zw_idiv (pc := 124) (by decide +kernel) o1 o5 o6 ?_
      refine zw_iadd (pc := 125) (by decide +kernel) ?_
      refine zx_iaload (pc := 126) (by decide +kernel) ⟨480, zc_206, o9.1, o9.2⟩ ?_
      refine zw_goto (pc := 127) (off := 4) (tgt := 131) (by decide +kernel) (by decide) ?_
      refine zx_iastore (pc := 131) (by decide +kernel) ⟨80, zc_209, o10.1, o10.2⟩ ?_
      refine zw_iinc (pc := 132) (i := 4) (n := 1) (lv' := [(0, .ref 203), (1, .int (zJ v1)), (2, .int (zJ v2)), (3, .int (zJ v3)), (4, .int (zJ (v4 + 1)))]) 4 (by decide +kernel) rfl rfl (Nat.le_of_ble_eq_true rfl) rfl ?_
      refine zw_goto (pc := 135) (off := (-44)) (tgt := 91) (by decide +kernel) (by decide) ?_
      exact h
abbrev at_X11_over_59 (g : zG) (φ : Int → zMu → Prop) (v1 : Int) (v2 : Int) (v3 : Int) (μ : zMu) : Prop := zWP g zm_X11_over (zmo g zm_X11_over (zΦi φ)) 59 [(0, .ref 203), (1, .int (zJ v1)), (2, .int (zJ v2)), (3, .int (zJ v3))] [] 0 0 (zw μ)
theorem sg_X11_over {g : zG} {φ : Int → zMu → Prop} {v1 : Int} {v2 : Int} {μ : zMu}
    (h : zOi g zm_X11_isSeries [.int (zJ v1)] μ (fun x2 μ1 => (zR x2) ∧ ((x2 = 0 → φ (-1) μ1) ∧ (¬ x2 = 0 → zOi g zm_X11_isSeries [.int (zJ v2)] μ1 (fun x5 μ4 => (zR x5) ∧ ((¬ x5 = 0 → zOi g zm_X11_isThere [.ref 203, .int (zJ v1)] μ4 (fun x8 μ7 => (zR x8) ∧ ((¬ x8 = 0 → (0 ≤ (80 * v1) ∧ (80 * v1) < 480) ∧ (zR (μ7 206 (Int.toNat (80 * v1)))) ∧ ((¬ (μ7 206 (Int.toNat (80 * v1))) = 0 → zOv g zm_X11_lays [.ref 206, .int (zJ (80 * v1)), .ref 211] μ7 (fun μ12 => at_X11_over_59 g φ v1 v2 0 μ12)) ∧ ((μ7 206 (Int.toNat (80 * v1))) = 0 → φ (-3) μ7))) ∧ (x8 = 0 → φ (-11) μ7)))) ∧ (x5 = 0 → φ (-1) μ4))))))) : zOi g zm_X11_over [.ref 203, .int (zJ v1), .int (zJ v2)] μ φ := by
  refine zok_of (by decide +kernel) rfl ?_
  show zWP g zm_X11_over (zmo g zm_X11_over (zΦi φ)) 0 [(0, .ref 203), (1, .int (zJ v1)), (2, .int (zJ v2))] [] 0 0 (zw μ)
  refine zw_iload_n (pc := 0) (n := 1) (i := 1) 1 (by decide +kernel) rfl rfl ?_
  refine zx_callS (pc := 1) (As := [.int (zJ v1)]) h zi_X11_isSeries zis_X11_isSeries zl_11_141 (by decide +kernel) ⟨Nat.le_of_ble_eq_true rfl, Nat.le_of_ble_eq_true rfl⟩ rfl rfl ⟨rfl, rfl⟩ ⟨Nat.zero_le _, Nat.zero_le _⟩ (zki (fun x2 μ1 h => ?_))
  obtain ⟨o3, h⟩ := h
  refine zw_if_eq (pc := 4) (off := 10) (tgt := 14) (by decide +kernel) (by decide) o3 (fun hc => ?_) (fun hc => ?_)
  · replace h := h.1 hc
    refine zw_iconst (pc := 14) (n := (-1)) (by decide +kernel) ?_
    exact zw_iret (pc := 15) (by decide +kernel) rfl (Nat.le_refl _) (Nat.le_refl _) ⟨_, _, rfl, rfl, h⟩
  · replace h := h.2 hc
    refine zw_iload_n (pc := 7) (n := 2) (i := 2) 2 (by decide +kernel) rfl rfl ?_
    refine zx_callS (pc := 8) (As := [.int (zJ v2)]) h zi_X11_isSeries zis_X11_isSeries zl_11_141 (by decide +kernel) ⟨Nat.le_of_ble_eq_true rfl, Nat.le_of_ble_eq_true rfl⟩ rfl rfl ⟨rfl, rfl⟩ ⟨Nat.zero_le _, Nat.zero_le _⟩ (zki (fun x5 μ4 h => ?_))
    obtain ⟨o6, h⟩ := h
    refine zw_if_ne (pc := 11) (off := 5) (tgt := 16) (by decide +kernel) (by decide) o6 (fun hc => ?_) (fun hc => ?_)
    · replace h := h.1 hc
      refine zw_aload_n (pc := 16) (n := 0) (i := 0) 0 (by decide +kernel) rfl rfl ?_
      refine zw_iload_n (pc := 17) (n := 1) (i := 1) 1 (by decide +kernel) rfl rfl ?_
      refine zx_callV (pc := 18) (As := [.int (zJ v1)]) h zi_X11_isThere zii_X11_isThere zie_X11_isThere zl_11_166 (by decide +kernel) ⟨Nat.le_of_ble_eq_true rfl, Nat.le_of_ble_eq_true rfl⟩ rfl zc_203 (by decide) rfl rfl ⟨rfl, rfl⟩ ⟨Nat.zero_le _, Nat.zero_le _⟩ (zki (fun x8 μ7 h => ?_))
      obtain ⟨o9, h⟩ := h
      refine zw_if_ne (pc := 21) (off := 6) (tgt := 27) (by decide +kernel) (by decide) o9 (fun hc => ?_) (fun hc => ?_)
      · replace h := h.1 hc
        obtain ⟨o10, o11, h⟩ := h
        refine zw_aload_n (pc := 27) (n := 0) (i := 0) 0 (by decide +kernel) rfl rfl ?_
        refine zx_getR (pc := 28) (o := 3) (r := 206) zf_11_22 (by decide +kernel) rfl zc_203 rfl (by decide) rfl ?_
        refine zw_bipush (pc := 31) (n := 80) (by decide +kernel) (by decide +kernel) ?_
        refine zw_iload_n (pc := 33) (n := 1) (i := 1) 1 (by decide +kernel) rfl rfl ?_
        refine zw_imul (pc := 34) (by decide +kernel) ?_
        refine zx_iaload (pc := 35) (by decide +kernel) ⟨480, zc_206, o10.1, o10.2⟩ ?_
        refine zw_if_ne (pc := 36) (off := 6) (tgt := 42) (by decide +kernel) (by decide) o11 (fun hc => ?_) (fun hc => ?_)
        · replace h := h.1 hc
          refine zw_aload_n (pc := 42) (n := 0) (i := 0) 0 (by decide +kernel) rfl rfl ?_
          refine zx_getR (pc := 43) (o := 3) (r := 206) zf_11_22 (by decide +kernel) rfl zc_203 rfl (by decide) rfl ?_
          refine zw_bipush (pc := 46) (n := 80) (by decide +kernel) (by decide +kernel) ?_
          refine zw_iload_n (pc := 48) (n := 1) (i := 1) 1 (by decide +kernel) rfl rfl ?_
          refine zw_imul (pc := 49) (by decide +kernel) ?_
          refine zw_aload_n (pc := 50) (n := 0) (i := 0) 0 (by decide +kernel) rfl rfl ?_
          refine zx_getR (pc := 51) (o := 8) (r := 211) zf_11_37 (by decide +kernel) rfl zc_203 rfl (by decide) rfl ?_
          refine zx_callS (pc := 54) (As := [.ref 206, .int (zJ (80 * v1)), .ref 211]) h zi_X11_lays zis_X11_lays zl_11_156 (by decide +kernel) ⟨Nat.le_of_ble_eq_true rfl, Nat.le_of_ble_eq_true rfl⟩ rfl rfl ⟨rfl, rfl⟩ ⟨Nat.zero_le _, Nat.zero_le _⟩ (zkv (fun μ12 h => ?_))
          refine zw_iconst (pc := 57) (n := 0) (by decide +kernel) ?_
          refine zw_istore_n (pc := 58) (n := 3) (i := 3) (lv' := [(0, .ref 203), (1, .int (zJ v1)), (2, .int (zJ v2)), (3, .int (zJ 0))]) (by decide +kernel) rfl (Nat.le_of_ble_eq_true rfl) rfl ?_
          exact h
        · replace h := h.2 hc
          refine zw_bipush (pc := 39) (n := (-3)) (by decide +kernel) (by decide +kernel) ?_
          exact zw_iret (pc := 41) (by decide +kernel) rfl (Nat.le_refl _) (Nat.le_refl _) ⟨_, _, rfl, rfl, h⟩
      · replace h := h.2 hc
        refine zw_bipush (pc := 24) (n := (-11)) (by decide +kernel) (by decide +kernel) ?_
        exact zw_iret (pc := 26) (by decide +kernel) rfl (Nat.le_refl _) (Nat.le_refl _) ⟨_, _, rfl, rfl, h⟩
    · replace h := h.2 hc
      refine zw_iconst (pc := 14) (n := (-1)) (by decide +kernel) ?_
      exact zw_iret (pc := 15) (by decide +kernel) rfl (Nat.le_refl _) (Nat.le_refl _) ⟨_, _, rfl, rfl, h⟩
theorem sg_X11_over_59 {g : zG} {φ : Int → zMu → Prop} {v1 : Int} {v2 : Int} {v3 : Int} {μ : zMu}
    (h : (zR v3) ∧ ((80 ≤ v3 → (0 ≤ v1 ∧ v1 < 6) ∧ zOv g zm_X11_divides [.ref 203, .ref 210, .ref 211, .int (zJ ((zup (zup μ 203 7 (-(μ 204 v1.toNat))) 203 8 ((zup μ 203 7 (-(μ 204 v1.toNat))) 205 v1.toNat)) 203 8))] (zup (zup μ 203 7 (-(μ 204 v1.toNat))) 203 8 ((zup μ 203 7 (-(μ 204 v1.toNat))) 205 v1.toNat)) (fun μ3 => zOi g zm_X11_becomes [.ref 203, .int (zJ v2)] μ3 (fun x5 μ4 => φ x5 μ4))) ∧ (v3 < 80 → ((¬ v3 = 0 → (0 ≤ v3 ∧ v3 < 80) ∧ at_X11_over_59 g φ v1 v2 (v3 + 1) (zup μ 210 v3.toNat 0)) ∧ (v3 = 0 → (0 ≤ v3 ∧ v3 < 80) ∧ at_X11_over_59 g φ v1 v2 (v3 + 1) (zup μ 210 v3.toNat 1)))))) : at_X11_over_59 g φ v1 v2 v3 μ := by
  obtain ⟨o1, h⟩ := h
  refine zw_iload_n (pc := 59) (n := 3) (i := 3) 3 (by decide +kernel) rfl rfl ?_
  refine zw_bipush (pc := 60) (n := 80) (by decide +kernel) (by decide +kernel) ?_
  refine zw_icmp_ge (pc := 62) (off := 24) (tgt := 86) (by decide +kernel) (by decide) o1 ⟨by decide, by decide⟩ (fun hc => ?_) (fun hc => ?_)
  · replace h := h.1 hc
    obtain ⟨o2, h⟩ := h
    refine zw_aload_n (pc := 86) (n := 0) (i := 0) 0 (by decide +kernel) rfl rfl ?_
    refine zw_aload_n (pc := 87) (n := 0) (i := 0) 0 (by decide +kernel) rfl rfl ?_
    refine zx_getR (pc := 88) (o := 1) (r := 204) zf_11_15 (by decide +kernel) rfl zc_203 rfl (by decide) rfl ?_
    refine zw_iload_n (pc := 91) (n := 1) (i := 1) 1 (by decide +kernel) rfl rfl ?_
    refine zx_iaload (pc := 92) (by decide +kernel) ⟨6, zc_204, o2.1, o2.2⟩ ?_
    refine zw_ineg (pc := 93) (by decide +kernel) ?_
    refine zx_putI (pc := 94) zf_11_131 (by decide +kernel) rfl zc_203 ?_
    refine zw_aload_n (pc := 97) (n := 0) (i := 0) 0 (by decide +kernel) rfl rfl ?_
    refine zw_aload_n (pc := 98) (n := 0) (i := 0) 0 (by decide +kernel) rfl rfl ?_
    refine zx_getR (pc := 99) (o := 2) (r := 205) zf_11_19 (by decide +kernel) rfl zc_203 rfl (by decide) rfl ?_
    refine zw_iload_n (pc := 102) (n := 1) (i := 1) 1 (by decide +kernel) rfl rfl ?_
    refine zx_iaload (pc := 103) (by decide +kernel) ⟨6, zc_205, o2.1, o2.2⟩ ?_
    refine zx_putI (pc := 104) zf_11_134 (by decide +kernel) rfl zc_203 ?_
    refine zw_aload_n (pc := 107) (n := 0) (i := 0) 0 (by decide +kernel) rfl rfl ?_
    refine zw_aload_n (pc := 108) (n := 0) (i := 0) 0 (by decide +kernel) rfl rfl ?_
    refine zx_getR (pc := 109) (o := 7) (r := 210) zf_11_34 (by decide +kernel) rfl zc_203 rfl (by decide) rfl ?_
    refine zw_aload_n (pc := 112) (n := 0) (i := 0) 0 (by decide +kernel) rfl rfl ?_
    refine zx_getR (pc := 113) (o := 8) (r := 211) zf_11_37 (by decide +kernel) rfl zc_203 rfl (by decide) rfl ?_
    refine zw_aload_n (pc := 116) (n := 0) (i := 0) 0 (by decide +kernel) rfl rfl ?_
    refine zx_getI (pc := 117) zf_11_134 (by decide +kernel) rfl zc_203 ?_
    refine zx_callV (pc := 120) (As := [.ref 210, .ref 211, .int (zJ ((zup (zup μ 203 7 (-(μ 204 v1.toNat))) 203 8 ((zup μ 203 7 (-(μ 204 v1.toNat))) 205 v1.toNat)) 203 8))]) h zi_X11_divides zii_X11_divides zie_X11_divides zl_11_160 (by decide +kernel) ⟨Nat.le_of_ble_eq_true rfl, Nat.le_of_ble_eq_true rfl⟩ rfl zc_203 (by decide) rfl rfl ⟨rfl, rfl⟩ ⟨Nat.zero_le _, Nat.zero_le _⟩ (zkv (fun μ3 h => ?_))
    refine zw_aload_n (pc := 123) (n := 0) (i := 0) 0 (by decide +kernel) rfl rfl ?_
    refine zw_iload_n (pc := 124) (n := 2) (i := 2) 2 (by decide +kernel) rfl rfl ?_
    refine zx_callV (pc := 125) (As := [.int (zJ v2)]) h zi_X11_becomes zii_X11_becomes zie_X11_becomes zl_11_163 (by decide +kernel) ⟨Nat.le_of_ble_eq_true rfl, Nat.le_of_ble_eq_true rfl⟩ rfl zc_203 (by decide) rfl rfl ⟨rfl, rfl⟩ ⟨Nat.zero_le _, Nat.zero_le _⟩ (zki (fun x5 μ4 h => ?_))
    exact zw_iret (pc := 128) (by decide +kernel) rfl (Nat.le_refl _) (Nat.le_refl _) ⟨_, _, rfl, rfl, h⟩
  · replace h := h.2 hc
    refine zw_aload_n (pc := 65) (n := 0) (i := 0) 0 (by decide +kernel) rfl rfl ?_
    refine zx_getR (pc := 66) (o := 7) (r := 210) zf_11_34 (by decide +kernel) rfl zc_203 rfl (by decide) rfl ?_
    refine zw_iload_n (pc := 69) (n := 3) (i := 3) 3 (by decide +kernel) rfl rfl ?_
    refine zw_iload_n (pc := 70) (n := 3) (i := 3) 3 (by decide +kernel) rfl rfl ?_
    refine zw_if_ne (pc := 71) (off := 7) (tgt := 78) (by decide +kernel) (by decide) o1 (fun hc => ?_) (fun hc => ?_)
    · replace h := h.1 hc
      obtain ⟨o6, h⟩ := h
      refine zw_iconst (pc := 78) (n := 0) (by decide +kernel) ?_
      refine zx_iastore (pc := 79) (by decide +kernel) ⟨80, zc_210, o6.1, o6.2⟩ ?_
      refine zw_iinc (pc := 80) (i := 3) (n := 1) (lv' := [(0, .ref 203), (1, .int (zJ v1)), (2, .int (zJ v2)), (3, .int (zJ (v3 + 1)))]) 3 (by decide +kernel) rfl rfl (Nat.le_of_ble_eq_true rfl) rfl ?_
      refine zw_goto (pc := 83) (off := (-24)) (tgt := 59) (by decide +kernel) (by decide) ?_
      exact h
    · replace h := h.2 hc
      obtain ⟨o7, h⟩ := h
      refine zw_iconst (pc := 74) (n := 1) (by decide +kernel) ?_
      refine zw_goto (pc := 75) (off := 4) (tgt := 79) (by decide +kernel) (by decide) ?_
      refine zx_iastore (pc := 79) (by decide +kernel) ⟨80, zc_210, o7.1, o7.2⟩ ?_
      refine zw_iinc (pc := 80) (i := 3) (n := 1) (lv' := [(0, .ref 203), (1, .int (zJ v1)), (2, .int (zJ v2)), (3, .int (zJ (v3 + 1)))]) 3 (by decide +kernel) rfl rfl (Nat.le_of_ble_eq_true rfl) rfl ?_
      refine zw_goto (pc := 83) (off := (-24)) (tgt := 59) (by decide +kernel) (by decide) ?_
      exact h
theorem sg_X11_power {g : zG} {φ : Int → zMu → Prop} {v1 : Int} {v2 : Int} {v3 : Int} {μ : zMu}
    (h : zOi g zm_X11_isSeries [.int (zJ v1)] μ (fun x2 μ1 => (zR x2) ∧ ((x2 = 0 → φ (-1) μ1) ∧ (¬ x2 = 0 → zOi g zm_X11_isSeries [.int (zJ v3)] μ1 (fun x5 μ4 => (zR x5) ∧ ((¬ x5 = 0 → (zR v2) ∧ zOi g zm_X11_in [.long (zL v2), .long (zL 0), .long (zL 9)] μ4 (fun x9 μ8 => (zR x9) ∧ ((¬ x9 = 0 → zOi g zm_X11_isThere [.ref 203, .int (zJ v1)] μ8 (fun x12 μ11 => (zR x12) ∧ ((¬ x12 = 0 → (0 ≤ v1 ∧ v1 < 6) ∧ zOi g zm_X11_isStart [.int (zJ (v2 * (μ11 204 v1.toNat)))] μ11 (fun x16 μ15 => (zR x16) ∧ ((¬ x16 = 0 → zOv g zm_X11_powers [.ref 203, .int (zJ v1), .int (zJ v2), .int (zJ ((zup (zup μ15 203 7 (v2 * (μ15 204 v1.toNat))) 203 8 ((zup μ15 203 7 (v2 * (μ15 204 v1.toNat))) 205 v1.toNat)) 203 8))] (zup (zup μ15 203 7 (v2 * (μ15 204 v1.toNat))) 203 8 ((zup μ15 203 7 (v2 * (μ15 204 v1.toNat))) 205 v1.toNat)) (fun μ18 => zOi g zm_X11_becomes [.ref 203, .int (zJ v3)] μ18 (fun x20 μ19 => φ x20 μ19))) ∧ (x16 = 0 → φ (-3) μ15)))) ∧ (x12 = 0 → φ (-11) μ11)))) ∧ (x9 = 0 → φ (-2) μ8)))) ∧ (x5 = 0 → φ (-1) μ4))))))) : zOi g zm_X11_power [.ref 203, .int (zJ v1), .int (zJ v2), .int (zJ v3)] μ φ := by
  refine zok_of (by decide +kernel) rfl ?_
  show zWP g zm_X11_power (zmo g zm_X11_power (zΦi φ)) 0 [(0, .ref 203), (1, .int (zJ v1)), (2, .int (zJ v2)), (3, .int (zJ v3))] [] 0 0 (zw μ)
  refine zw_iload_n (pc := 0) (n := 1) (i := 1) 1 (by decide +kernel) rfl rfl ?_
  refine zx_callS (pc := 1) (As := [.int (zJ v1)]) h zi_X11_isSeries zis_X11_isSeries zl_11_141 (by decide +kernel) ⟨Nat.le_of_ble_eq_true rfl, Nat.le_of_ble_eq_true rfl⟩ rfl rfl ⟨rfl, rfl⟩ ⟨Nat.zero_le _, Nat.zero_le _⟩ (zki (fun x2 μ1 h => ?_))
  obtain ⟨o3, h⟩ := h
  refine zw_if_eq (pc := 4) (off := 10) (tgt := 14) (by decide +kernel) (by decide) o3 (fun hc => ?_) (fun hc => ?_)
  · replace h := h.1 hc
    refine zw_iconst (pc := 14) (n := (-1)) (by decide +kernel) ?_
    exact zw_iret (pc := 15) (by decide +kernel) rfl (Nat.le_refl _) (Nat.le_refl _) ⟨_, _, rfl, rfl, h⟩
  · replace h := h.2 hc
    refine zw_iload_n (pc := 7) (n := 3) (i := 3) 3 (by decide +kernel) rfl rfl ?_
    refine zx_callS (pc := 8) (As := [.int (zJ v3)]) h zi_X11_isSeries zis_X11_isSeries zl_11_141 (by decide +kernel) ⟨Nat.le_of_ble_eq_true rfl, Nat.le_of_ble_eq_true rfl⟩ rfl rfl ⟨rfl, rfl⟩ ⟨Nat.zero_le _, Nat.zero_le _⟩ (zki (fun x5 μ4 h => ?_))
    obtain ⟨o6, h⟩ := h
    refine zw_if_ne (pc := 11) (off := 5) (tgt := 16) (by decide +kernel) (by decide) o6 (fun hc => ?_) (fun hc => ?_)
    · replace h := h.1 hc
      obtain ⟨o7, h⟩ := h
      refine zw_iload_n (pc := 16) (n := 2) (i := 2) 2 (by decide +kernel) rfl rfl ?_
      refine zw_i2l (pc := 17) (by decide +kernel) o7 ?_
      refine zw_lconst (pc := 18) (n := 0) (v := 0) (by decide +kernel) rfl ?_
      refine zw_ldc2 (pc := 19) (v := 9) (by decide +kernel) zk_11_181 ?_
      refine zx_callS (pc := 22) (As := [.long (zL v2), .long (zL 0), .long (zL 9)]) h zi_X11_in zis_X11_in zl_11_114 (by decide +kernel) ⟨Nat.le_of_ble_eq_true rfl, Nat.le_of_ble_eq_true rfl⟩ rfl rfl ⟨rfl, rfl⟩ ⟨Nat.zero_le _, Nat.zero_le _⟩ (zki (fun x9 μ8 h => ?_))
      obtain ⟨o10, h⟩ := h
      refine zw_if_ne (pc := 25) (off := 6) (tgt := 31) (by decide +kernel) (by decide) o10 (fun hc => ?_) (fun hc => ?_)
      · replace h := h.1 hc
        refine zw_aload_n (pc := 31) (n := 0) (i := 0) 0 (by decide +kernel) rfl rfl ?_
        refine zw_iload_n (pc := 32) (n := 1) (i := 1) 1 (by decide +kernel) rfl rfl ?_
        refine zx_callV (pc := 33) (As := [.int (zJ v1)]) h zi_X11_isThere zii_X11_isThere zie_X11_isThere zl_11_166 (by decide +kernel) ⟨Nat.le_of_ble_eq_true rfl, Nat.le_of_ble_eq_true rfl⟩ rfl zc_203 (by decide) rfl rfl ⟨rfl, rfl⟩ ⟨Nat.zero_le _, Nat.zero_le _⟩ (zki (fun x12 μ11 h => ?_))
        obtain ⟨o13, h⟩ := h
        refine zw_if_ne (pc := 36) (off := 6) (tgt := 42) (by decide +kernel) (by decide) o13 (fun hc => ?_) (fun hc => ?_)
        · replace h := h.1 hc
          obtain ⟨o14, h⟩ := h
          refine zw_iload_n (pc := 42) (n := 2) (i := 2) 2 (by decide +kernel) rfl rfl ?_
          refine zw_aload_n (pc := 43) (n := 0) (i := 0) 0 (by decide +kernel) rfl rfl ?_
          refine zx_getR (pc := 44) (o := 1) (r := 204) zf_11_15 (by decide +kernel) rfl zc_203 rfl (by decide) rfl ?_
          refine zw_iload_n (pc := 47) (n := 1) (i := 1) 1 (by decide +kernel) rfl rfl ?_
          refine zx_iaload (pc := 48) (by decide +kernel) ⟨6, zc_204, o14.1, o14.2⟩ ?_
          refine zw_imul (pc := 49) (by decide +kernel) ?_
          refine zx_callS (pc := 50) (As := [.int (zJ (v2 * (μ11 204 v1.toNat)))]) h zi_X11_isStart zis_X11_isStart zl_11_178 (by decide +kernel) ⟨Nat.le_of_ble_eq_true rfl, Nat.le_of_ble_eq_true rfl⟩ rfl rfl ⟨rfl, rfl⟩ ⟨Nat.zero_le _, Nat.zero_le _⟩ (zki (fun x16 μ15 h => ?_))
          obtain ⟨o17, h⟩ := h
          refine zw_if_ne (pc := 53) (off := 6) (tgt := 59) (by decide +kernel) (by decide) o17 (fun hc => ?_) (fun hc => ?_)
          · replace h := h.1 hc
            refine zw_aload_n (pc := 59) (n := 0) (i := 0) 0 (by decide +kernel) rfl rfl ?_
            refine zw_iload_n (pc := 60) (n := 2) (i := 2) 2 (by decide +kernel) rfl rfl ?_
            refine zw_aload_n (pc := 61) (n := 0) (i := 0) 0 (by decide +kernel) rfl rfl ?_
            refine zx_getR (pc := 62) (o := 1) (r := 204) zf_11_15 (by decide +kernel) rfl zc_203 rfl (by decide) rfl ?_
            refine zw_iload_n (pc := 65) (n := 1) (i := 1) 1 (by decide +kernel) rfl rfl ?_
            refine zx_iaload (pc := 66) (by decide +kernel) ⟨6, zc_204, o14.1, o14.2⟩ ?_
            refine zw_imul (pc := 67) (by decide +kernel) ?_
            refine zx_putI (pc := 68) zf_11_131 (by decide +kernel) rfl zc_203 ?_
            refine zw_aload_n (pc := 71) (n := 0) (i := 0) 0 (by decide +kernel) rfl rfl ?_
            refine zw_aload_n (pc := 72) (n := 0) (i := 0) 0 (by decide +kernel) rfl rfl ?_
            refine zx_getR (pc := 73) (o := 2) (r := 205) zf_11_19 (by decide +kernel) rfl zc_203 rfl (by decide) rfl ?_
            refine zw_iload_n (pc := 76) (n := 1) (i := 1) 1 (by decide +kernel) rfl rfl ?_
            refine zx_iaload (pc := 77) (by decide +kernel) ⟨6, zc_205, o14.1, o14.2⟩ ?_
            refine zx_putI (pc := 78) zf_11_134 (by decide +kernel) rfl zc_203 ?_
            refine zw_aload_n (pc := 81) (n := 0) (i := 0) 0 (by decide +kernel) rfl rfl ?_
            refine zw_iload_n (pc := 82) (n := 1) (i := 1) 1 (by decide +kernel) rfl rfl ?_
            refine zw_iload_n (pc := 83) (n := 2) (i := 2) 2 (by decide +kernel) rfl rfl ?_
            refine zw_aload_n (pc := 84) (n := 0) (i := 0) 0 (by decide +kernel) rfl rfl ?_
            refine zx_getI (pc := 85) zf_11_134 (by decide +kernel) rfl zc_203 ?_
            refine zx_callV (pc := 88) (As := [.int (zJ v1), .int (zJ v2), .int (zJ ((zup (zup μ15 203 7 (v2 * (μ15 204 v1.toNat))) 203 8 ((zup μ15 203 7 (v2 * (μ15 204 v1.toNat))) 205 v1.toNat)) 203 8))]) h zi_X11_powers zii_X11_powers zie_X11_powers zl_11_183 (by decide +kernel) ⟨Nat.le_of_ble_eq_true rfl, Nat.le_of_ble_eq_true rfl⟩ rfl zc_203 (by decide) rfl rfl ⟨rfl, rfl⟩ ⟨Nat.zero_le _, Nat.zero_le _⟩ (zkv (fun μ18 h => ?_))
            refine zw_aload_n (pc := 91) (n := 0) (i := 0) 0 (by decide +kernel) rfl rfl ?_
            refine zw_iload_n (pc := 92) (n := 3) (i := 3) 3 (by decide +kernel) rfl rfl ?_
            refine zx_callV (pc := 93) (As := [.int (zJ v3)]) h zi_X11_becomes zii_X11_becomes zie_X11_becomes zl_11_163 (by decide +kernel) ⟨Nat.le_of_ble_eq_true rfl, Nat.le_of_ble_eq_true rfl⟩ rfl zc_203 (by decide) rfl rfl ⟨rfl, rfl⟩ ⟨Nat.zero_le _, Nat.zero_le _⟩ (zki (fun x20 μ19 h => ?_))
            exact zw_iret (pc := 96) (by decide +kernel) rfl (Nat.le_refl _) (Nat.le_refl _) ⟨_, _, rfl, rfl, h⟩
          · replace h := h.2 hc
            refine zw_bipush (pc := 56) (n := (-3)) (by decide +kernel) (by decide +kernel) ?_
            exact zw_iret (pc := 58) (by decide +kernel) rfl (Nat.le_refl _) (Nat.le_refl _) ⟨_, _, rfl, rfl, h⟩
        · replace h := h.2 hc
          refine zw_bipush (pc := 39) (n := (-11)) (by decide +kernel) (by decide +kernel) ?_
          exact zw_iret (pc := 41) (by decide +kernel) rfl (Nat.le_refl _) (Nat.le_refl _) ⟨_, _, rfl, rfl, h⟩
      · replace h := h.2 hc
        refine zw_bipush (pc := 28) (n := (-2)) (by decide +kernel) (by decide +kernel) ?_
        exact zw_iret (pc := 30) (by decide +kernel) rfl (Nat.le_refl _) (Nat.le_refl _) ⟨_, _, rfl, rfl, h⟩
    · replace h := h.2 hc
      refine zw_iconst (pc := 14) (n := (-1)) (by decide +kernel) ?_
      exact zw_iret (pc := 15) (by decide +kernel) rfl (Nat.le_refl _) (Nat.le_refl _) ⟨_, _, rfl, rfl, h⟩
abbrev at_X11_powers_18 (g : zG) (φ : zMu → Prop) (v2 : Int) (v3 : Int) (v4 : Int) (μ : zMu) : Prop := zWP g zm_X11_powers (zmo g zm_X11_powers (zΦv φ)) 18 [(0, .ref 203), (2, .int (zJ v2)), (3, .int (zJ v3)), (4, .int (zJ v4))] [] 0 0 (zw μ)
abbrev at_X11_powers_51 (g : zG) (φ : zMu → Prop) (v2 : Int) (v3 : Int) (v4 : Int) (μ : zMu) : Prop := zWP g zm_X11_powers (zmo g zm_X11_powers (zΦv φ)) 51 [(0, .ref 203), (2, .int (zJ v2)), (3, .int (zJ v3)), (4, .int (zJ v4))] [] 0 0 (zw μ)
theorem sg_X11_powers {g : zG} {φ : zMu → Prop} {v1 : Int} {v2 : Int} {v3 : Int} {μ : zMu}
    (h : zOv g zm_X11_lays [.ref 206, .int (zJ (80 * v1)), .ref 211] μ (fun μ1 => at_X11_powers_18 g φ v2 v3 0 μ1)) : zOv g zm_X11_powers [.ref 203, .int (zJ v1), .int (zJ v2), .int (zJ v3)] μ φ := by
  refine zok_of (by decide +kernel) rfl ?_
  show zWP g zm_X11_powers (zmo g zm_X11_powers (zΦv φ)) 0 [(0, .ref 203), (1, .int (zJ v1)), (2, .int (zJ v2)), (3, .int (zJ v3))] [] 0 0 (zw μ)
  refine zw_aload_n (pc := 0) (n := 0) (i := 0) 0 (by decide +kernel) rfl rfl ?_
  refine zx_getR (pc := 1) (o := 3) (r := 206) zf_11_22 (by decide +kernel) rfl zc_203 rfl (by decide) rfl ?_
  refine zw_bipush (pc := 4) (n := 80) (by decide +kernel) (by decide +kernel) ?_
  refine zw_iload_n (pc := 6) (n := 1) (i := 1) 1 (by decide +kernel) rfl rfl ?_
  refine zw_imul (pc := 7) (by decide +kernel) ?_
  refine zw_aload_n (pc := 8) (n := 0) (i := 0) 0 (by decide +kernel) rfl rfl ?_
  refine zx_getR (pc := 9) (o := 8) (r := 211) zf_11_37 (by decide +kernel) rfl zc_203 rfl (by decide) rfl ?_
  refine zx_callS (pc := 12) (As := [.ref 206, .int (zJ (80 * v1)), .ref 211]) h zi_X11_lays zis_X11_lays zl_11_156 (by decide +kernel) ⟨Nat.le_of_ble_eq_true rfl, Nat.le_of_ble_eq_true rfl⟩ rfl rfl ⟨rfl, rfl⟩ ⟨Nat.zero_le _, Nat.zero_le _⟩ (zkv (fun μ1 h => ?_))
  refine zw_iconst (pc := 15) (n := 0) (by decide +kernel) ?_
  refine zw_istore (pc := 16) (i := 4) (lv' := [(0, .ref 203), (1, .int (zJ v1)), (2, .int (zJ v2)), (3, .int (zJ v3)), (4, .int (zJ 0))]) (by decide +kernel) (Nat.le_of_ble_eq_true rfl) rfl ?_
  exact zw_pick (lv' := [(0, .ref 203), (2, .int (zJ v2)), (3, .int (zJ v3)), (4, .int (zJ 0))]) [0, 2, 3, 4] rfl h
theorem sg_X11_powers_18 {g : zG} {φ : zMu → Prop} {v2 : Int} {v3 : Int} {v4 : Int} {μ : zMu}
    (h : (zR v4) ∧ ((80 ≤ v4 → at_X11_powers_51 g φ v2 v3 0 μ) ∧ (v4 < 80 → ((¬ v4 = 0 → (0 ≤ v4 ∧ v4 < 80) ∧ at_X11_powers_18 g φ v2 v3 (v4 + 1) (zup μ 209 v4.toNat 0)) ∧ (v4 = 0 → (0 ≤ v4 ∧ v4 < 80) ∧ at_X11_powers_18 g φ v2 v3 (v4 + 1) (zup μ 209 v4.toNat 1)))))) : at_X11_powers_18 g φ v2 v3 v4 μ := by
  obtain ⟨o1, h⟩ := h
  refine zw_iload (pc := 18) (i := 4) 3 (by decide +kernel) rfl ?_
  refine zw_bipush (pc := 20) (n := 80) (by decide +kernel) (by decide +kernel) ?_
  refine zw_icmp_ge (pc := 22) (off := 26) (tgt := 48) (by decide +kernel) (by decide) o1 ⟨by decide, by decide⟩ (fun hc => ?_) (fun hc => ?_)
  · replace h := h.1 hc
    refine zw_iconst (pc := 48) (n := 0) (by decide +kernel) ?_
    refine zw_istore (pc := 49) (i := 4) (lv' := [(0, .ref 203), (2, .int (zJ v2)), (3, .int (zJ v3)), (4, .int (zJ 0))]) (by decide +kernel) (Nat.le_of_ble_eq_true rfl) rfl ?_
    exact h
  · replace h := h.2 hc
    refine zw_aload_n (pc := 25) (n := 0) (i := 0) 0 (by decide +kernel) rfl rfl ?_
    refine zx_getR (pc := 26) (o := 6) (r := 209) zf_11_31 (by decide +kernel) rfl zc_203 rfl (by decide) rfl ?_
    refine zw_iload (pc := 29) (i := 4) 3 (by decide +kernel) rfl ?_
    refine zw_iload (pc := 31) (i := 4) 3 (by decide +kernel) rfl ?_
    refine zw_if_ne (pc := 33) (off := 7) (tgt := 40) (by decide +kernel) (by decide) o1 (fun hc => ?_) (fun hc => ?_)
    · replace h := h.1 hc
      obtain ⟨o2, h⟩ := h
      refine zw_iconst (pc := 40) (n := 0) (by decide +kernel) ?_
      refine zx_iastore (pc := 41) (by decide +kernel) ⟨80, zc_209, o2.1, o2.2⟩ ?_
      refine zw_iinc (pc := 42) (i := 4) (n := 1) (lv' := [(0, .ref 203), (2, .int (zJ v2)), (3, .int (zJ v3)), (4, .int (zJ (v4 + 1)))]) 3 (by decide +kernel) rfl rfl (Nat.le_of_ble_eq_true rfl) rfl ?_
      refine zw_goto (pc := 45) (off := (-27)) (tgt := 18) (by decide +kernel) (by decide) ?_
      exact h
    · replace h := h.2 hc
      obtain ⟨o3, h⟩ := h
      refine zw_iconst (pc := 36) (n := 1) (by decide +kernel) ?_
      refine zw_goto (pc := 37) (off := 4) (tgt := 41) (by decide +kernel) (by decide) ?_
      refine zx_iastore (pc := 41) (by decide +kernel) ⟨80, zc_209, o3.1, o3.2⟩ ?_
      refine zw_iinc (pc := 42) (i := 4) (n := 1) (lv' := [(0, .ref 203), (2, .int (zJ v2)), (3, .int (zJ v3)), (4, .int (zJ (v4 + 1)))]) 3 (by decide +kernel) rfl rfl (Nat.le_of_ble_eq_true rfl) rfl ?_
      refine zw_goto (pc := 45) (off := (-27)) (tgt := 18) (by decide +kernel) (by decide) ?_
      exact h
theorem sg_X11_powers_51 {g : zG} {φ : zMu → Prop} {v2 : Int} {v3 : Int} {v4 : Int} {μ : zMu}
    (h : (zR v4) ∧ (zR v2) ∧ ((v2 ≤ v4 → φ μ) ∧ (v4 < v2 → zOv g zm_X11_lays [.ref 209, .int (zJ 0), .ref 210] μ (fun μ3 => zOv g zm_X11_multiplies [.ref 203, .ref 210, .ref 211, .int (zJ v3)] μ3 (fun μ4 => at_X11_powers_51 g φ v2 v3 (v4 + 1) μ4))))) : at_X11_powers_51 g φ v2 v3 v4 μ := by
  obtain ⟨o1, o2, h⟩ := h
  refine zw_iload (pc := 51) (i := 4) 3 (by decide +kernel) rfl ?_
  refine zw_iload_n (pc := 53) (n := 2) (i := 2) 1 (by decide +kernel) rfl rfl ?_
  refine zw_icmp_ge (pc := 54) (off := 34) (tgt := 88) (by decide +kernel) (by decide) o1 o2 (fun hc => ?_) (fun hc => ?_)
  · replace h := h.1 hc
    exact zw_vret (pc := 88) (by decide +kernel) rfl (Nat.le_refl _) (Nat.le_refl _) ⟨_, rfl, rfl, h⟩
  · replace h := h.2 hc
    refine zw_aload_n (pc := 57) (n := 0) (i := 0) 0 (by decide +kernel) rfl rfl ?_
    refine zx_getR (pc := 58) (o := 6) (r := 209) zf_11_31 (by decide +kernel) rfl zc_203 rfl (by decide) rfl ?_
    refine zw_iconst (pc := 61) (n := 0) (by decide +kernel) ?_
    refine zw_aload_n (pc := 62) (n := 0) (i := 0) 0 (by decide +kernel) rfl rfl ?_
    refine zx_getR (pc := 63) (o := 7) (r := 210) zf_11_34 (by decide +kernel) rfl zc_203 rfl (by decide) rfl ?_
    refine zx_callS (pc := 66) (As := [.ref 209, .int (zJ 0), .ref 210]) h zi_X11_lays zis_X11_lays zl_11_156 (by decide +kernel) ⟨Nat.le_of_ble_eq_true rfl, Nat.le_of_ble_eq_true rfl⟩ rfl rfl ⟨rfl, rfl⟩ ⟨Nat.zero_le _, Nat.zero_le _⟩ (zkv (fun μ3 h => ?_))
    refine zw_aload_n (pc := 69) (n := 0) (i := 0) 0 (by decide +kernel) rfl rfl ?_
    refine zw_aload_n (pc := 70) (n := 0) (i := 0) 0 (by decide +kernel) rfl rfl ?_
    refine zx_getR (pc := 71) (o := 7) (r := 210) zf_11_34 (by decide +kernel) rfl zc_203 rfl (by decide) rfl ?_
    refine zw_aload_n (pc := 74) (n := 0) (i := 0) 0 (by decide +kernel) rfl rfl ?_
    refine zx_getR (pc := 75) (o := 8) (r := 211) zf_11_37 (by decide +kernel) rfl zc_203 rfl (by decide) rfl ?_
    refine zw_iload_n (pc := 78) (n := 3) (i := 3) 2 (by decide +kernel) rfl rfl ?_
    refine zx_callV (pc := 79) (As := [.ref 210, .ref 211, .int (zJ v3)]) h zi_X11_multiplies zii_X11_multiplies zie_X11_multiplies zl_11_152 (by decide +kernel) ⟨Nat.le_of_ble_eq_true rfl, Nat.le_of_ble_eq_true rfl⟩ rfl zc_203 (by decide) rfl rfl ⟨rfl, rfl⟩ ⟨Nat.zero_le _, Nat.zero_le _⟩ (zkv (fun μ4 h => ?_))
    refine zw_iinc (pc := 82) (i := 4) (n := 1) (lv' := [(0, .ref 203), (2, .int (zJ v2)), (3, .int (zJ v3)), (4, .int (zJ (v4 + 1)))]) 3 (by decide +kernel) rfl rfl (Nat.le_of_ble_eq_true rfl) rfl ?_
    refine zw_goto (pc := 85) (off := (-34)) (tgt := 51) (by decide +kernel) (by decide) ?_
    exact h
abbrev at_X11_of_63 (g : zG) (φ : Int → zMu → Prop) (v1 : Int) (v3 : Int) (μ : zMu) : Prop := zWP g zm_X11_of (zmo g zm_X11_of (zΦi φ)) 63 [(0, .ref 203), (1, .int (zJ v1)), (3, .int (zJ v3))] [] 0 0 (zw μ)
theorem sg_X11_of {g : zG} {φ : Int → zMu → Prop} {v1 : Int} {v2 : Int} {μ : zMu}
    (h : zOi g zm_X11_isSeries [.int (zJ v1)] μ (fun x2 μ1 => (zR x2) ∧ ((x2 = 0 → φ (-1) μ1) ∧ (¬ x2 = 0 → (zR v2) ∧ zOi g zm_X11_in [.long (zL v2), .long (zL 0), .long (zL 2)] μ1 (fun x6 μ5 => (zR x6) ∧ ((¬ x6 = 0 → zOi g zm_X11_isThere [.ref 203, .int (zJ v1)] μ5 (fun x9 μ8 => (zR x9) ∧ ((¬ x9 = 0 → ((2 ≤ v2 → at_X11_of_63 g φ v1 0 μ8) ∧ (v2 < 2 → ((¬ v2 = 0 → (0 ≤ v1 ∧ v1 < 6) ∧ φ (μ8 205 v1.toNat) μ8) ∧ (v2 = 0 → (0 ≤ v1 ∧ v1 < 6) ∧ φ ((μ8 204 v1.toNat) + 1000) μ8))))) ∧ (x9 = 0 → φ (-11) μ8)))) ∧ (x6 = 0 → φ (-1) μ5))))))) : zOi g zm_X11_of [.ref 203, .int (zJ v1), .int (zJ v2)] μ φ := by
  refine zok_of (by decide +kernel) rfl ?_
  show zWP g zm_X11_of (zmo g zm_X11_of (zΦi φ)) 0 [(0, .ref 203), (1, .int (zJ v1)), (2, .int (zJ v2))] [] 0 0 (zw μ)
  refine zw_iload_n (pc := 0) (n := 1) (i := 1) 1 (by decide +kernel) rfl rfl ?_
  refine zx_callS (pc := 1) (As := [.int (zJ v1)]) h zi_X11_isSeries zis_X11_isSeries zl_11_141 (by decide +kernel) ⟨Nat.le_of_ble_eq_true rfl, Nat.le_of_ble_eq_true rfl⟩ rfl rfl ⟨rfl, rfl⟩ ⟨Nat.zero_le _, Nat.zero_le _⟩ (zki (fun x2 μ1 h => ?_))
  obtain ⟨o3, h⟩ := h
  refine zw_if_eq (pc := 4) (off := 15) (tgt := 19) (by decide +kernel) (by decide) o3 (fun hc => ?_) (fun hc => ?_)
  · replace h := h.1 hc
    refine zw_iconst (pc := 19) (n := (-1)) (by decide +kernel) ?_
    exact zw_iret (pc := 20) (by decide +kernel) rfl (Nat.le_refl _) (Nat.le_refl _) ⟨_, _, rfl, rfl, h⟩
  · replace h := h.2 hc
    obtain ⟨o4, h⟩ := h
    refine zw_iload_n (pc := 7) (n := 2) (i := 2) 2 (by decide +kernel) rfl rfl ?_
    refine zw_i2l (pc := 8) (by decide +kernel) o4 ?_
    refine zw_lconst (pc := 9) (n := 0) (v := 0) (by decide +kernel) rfl ?_
    refine zw_ldc2 (pc := 10) (v := 2) (by decide +kernel) zk_11_187 ?_
    refine zx_callS (pc := 13) (As := [.long (zL v2), .long (zL 0), .long (zL 2)]) h zi_X11_in zis_X11_in zl_11_114 (by decide +kernel) ⟨Nat.le_of_ble_eq_true rfl, Nat.le_of_ble_eq_true rfl⟩ rfl rfl ⟨rfl, rfl⟩ ⟨Nat.zero_le _, Nat.zero_le _⟩ (zki (fun x6 μ5 h => ?_))
    obtain ⟨o7, h⟩ := h
    refine zw_if_ne (pc := 16) (off := 5) (tgt := 21) (by decide +kernel) (by decide) o7 (fun hc => ?_) (fun hc => ?_)
    · replace h := h.1 hc
      refine zw_aload_n (pc := 21) (n := 0) (i := 0) 0 (by decide +kernel) rfl rfl ?_
      refine zw_iload_n (pc := 22) (n := 1) (i := 1) 1 (by decide +kernel) rfl rfl ?_
      refine zx_callV (pc := 23) (As := [.int (zJ v1)]) h zi_X11_isThere zii_X11_isThere zie_X11_isThere zl_11_166 (by decide +kernel) ⟨Nat.le_of_ble_eq_true rfl, Nat.le_of_ble_eq_true rfl⟩ rfl zc_203 (by decide) rfl rfl ⟨rfl, rfl⟩ ⟨Nat.zero_le _, Nat.zero_le _⟩ (zki (fun x9 μ8 h => ?_))
      obtain ⟨o10, h⟩ := h
      refine zw_if_ne (pc := 26) (off := 6) (tgt := 32) (by decide +kernel) (by decide) o10 (fun hc => ?_) (fun hc => ?_)
      · replace h := h.1 hc
        refine zw_iload_n (pc := 32) (n := 2) (i := 2) 2 (by decide +kernel) rfl rfl ?_
        refine zw_iconst (pc := 33) (n := 2) (by decide +kernel) ?_
        refine zw_icmp_ge (pc := 34) (off := 27) (tgt := 61) (by decide +kernel) (by decide) o4 ⟨by decide, by decide⟩ (fun hc => ?_) (fun hc => ?_)
        · replace h := h.1 hc
          refine zw_iconst (pc := 61) (n := 0) (by decide +kernel) ?_
          refine zw_istore_n (pc := 62) (n := 3) (i := 3) (lv' := [(0, .ref 203), (1, .int (zJ v1)), (2, .int (zJ v2)), (3, .int (zJ 0))]) (by decide +kernel) rfl (Nat.le_of_ble_eq_true rfl) rfl ?_
          exact zw_pick (lv' := [(0, .ref 203), (1, .int (zJ v1)), (3, .int (zJ 0))]) [0, 1, 3] rfl h
        · replace h := h.2 hc
          refine zw_iload_n (pc := 37) (n := 2) (i := 2) 2 (by decide +kernel) rfl rfl ?_
          refine zw_if_ne (pc := 38) (off := 16) (tgt := 54) (by decide +kernel) (by decide) o4 (fun hc => ?_) (fun hc => ?_)
          · replace h := h.1 hc
            obtain ⟨o11, h⟩ := h
            refine zw_aload_n (pc := 54) (n := 0) (i := 0) 0 (by decide +kernel) rfl rfl ?_
            refine zx_getR (pc := 55) (o := 2) (r := 205) zf_11_19 (by decide +kernel) rfl zc_203 rfl (by decide) rfl ?_
            refine zw_iload_n (pc := 58) (n := 1) (i := 1) 1 (by decide +kernel) rfl rfl ?_
            refine zx_iaload (pc := 59) (by decide +kernel) ⟨6, zc_205, o11.1, o11.2⟩ ?_
            exact zw_iret (pc := 60) (by decide +kernel) rfl (Nat.le_refl _) (Nat.le_refl _) ⟨_, _, rfl, rfl, h⟩
          · replace h := h.2 hc
            obtain ⟨o12, h⟩ := h
            refine zw_aload_n (pc := 41) (n := 0) (i := 0) 0 (by decide +kernel) rfl rfl ?_
            refine zx_getR (pc := 42) (o := 1) (r := 204) zf_11_15 (by decide +kernel) rfl zc_203 rfl (by decide) rfl ?_
            refine zw_iload_n (pc := 45) (n := 1) (i := 1) 1 (by decide +kernel) rfl rfl ?_
            refine zx_iaload (pc := 46) (by decide +kernel) ⟨6, zc_204, o12.1, o12.2⟩ ?_
            refine zw_sipush (pc := 47) (n := 1000) (by decide +kernel) (by decide +kernel) ?_
            refine zw_iadd (pc := 50) (by decide +kernel) ?_
            refine zw_goto (pc := 51) (off := 9) (tgt := 60) (by decide +kernel) (by decide) ?_
            exact zw_iret (pc := 60) (by decide +kernel) rfl (Nat.le_refl _) (Nat.le_refl _) ⟨_, _, rfl, rfl, h⟩
      · replace h := h.2 hc
        refine zw_bipush (pc := 29) (n := (-11)) (by decide +kernel) (by decide +kernel) ?_
        exact zw_iret (pc := 31) (by decide +kernel) rfl (Nat.le_refl _) (Nat.le_refl _) ⟨_, _, rfl, rfl, h⟩
    · replace h := h.2 hc
      refine zw_iconst (pc := 19) (n := (-1)) (by decide +kernel) ?_
      exact zw_iret (pc := 20) (by decide +kernel) rfl (Nat.le_refl _) (Nat.le_refl _) ⟨_, _, rfl, rfl, h⟩
theorem sg_X11_of_63 {g : zG} {φ : Int → zMu → Prop} {v1 : Int} {v3 : Int} {μ : zMu}
    (h : (0 ≤ v1 ∧ v1 < 6) ∧ (zR v3) ∧ (zR (μ 205 v1.toNat)) ∧ (((μ 205 v1.toNat) ≤ v3 → φ (-5) μ) ∧ (v3 < (μ 205 v1.toNat) → (0 ≤ ((80 * v1) + v3) ∧ ((80 * v1) + v3) < 480) ∧ (zR (μ 206 (Int.toNat ((80 * v1) + v3)))) ∧ (((μ 206 (Int.toNat ((80 * v1) + v3))) = 0 → at_X11_of_63 g φ v1 (v3 + 1) μ) ∧ (¬ (μ 206 (Int.toNat ((80 * v1) + v3))) = 0 → φ (((μ 204 v1.toNat) + v3) + 1000) μ))))) : at_X11_of_63 g φ v1 v3 μ := by
  obtain ⟨o1, o2, o3, h⟩ := h
  refine zw_iload_n (pc := 63) (n := 3) (i := 3) 2 (by decide +kernel) rfl rfl ?_
  refine zw_aload_n (pc := 64) (n := 0) (i := 0) 0 (by decide +kernel) rfl rfl ?_
  refine zx_getR (pc := 65) (o := 2) (r := 205) zf_11_19 (by decide +kernel) rfl zc_203 rfl (by decide) rfl ?_
  refine zw_iload_n (pc := 68) (n := 1) (i := 1) 1 (by decide +kernel) rfl rfl ?_
  refine zx_iaload (pc := 69) (by decide +kernel) ⟨6, zc_205, o1.1, o1.2⟩ ?_
  refine zw_icmp_ge (pc := 70) (off := 36) (tgt := 106) (by decide +kernel) (by decide) o2 o3 (fun hc => ?_) (fun hc => ?_)
  · replace h := h.1 hc
    refine zw_bipush (pc := 106) (n := (-5)) (by decide +kernel) (by decide +kernel) ?_
    exact zw_iret (pc := 108) (by decide +kernel) rfl (Nat.le_refl _) (Nat.le_refl _) ⟨_, _, rfl, rfl, h⟩
  · replace h := h.2 hc
    obtain ⟨o4, o5, h⟩ := h
    refine zw_aload_n (pc := 73) (n := 0) (i := 0) 0 (by decide +kernel) rfl rfl ?_
    refine zx_getR (pc := 74) (o := 3) (r := 206) zf_11_22 (by decide +kernel) rfl zc_203 rfl (by decide) rfl ?_
    refine zw_bipush (pc := 77) (n := 80) (by decide +kernel) (by decide +kernel) ?_
    refine zw_iload_n (pc := 79) (n := 1) (i := 1) 1 (by decide +kernel) rfl rfl ?_
    refine zw_imul (pc := 80) (by decide +kernel) ?_
    refine zw_iload_n (pc := 81) (n := 3) (i := 3) 2 (by decide +kernel) rfl rfl ?_
    refine zw_iadd (pc := 82) (by decide +kernel) ?_
    refine zx_iaload (pc := 83) (by decide +kernel) ⟨480, zc_206, o4.1, o4.2⟩ ?_
    refine zw_if_eq (pc := 84) (off := 16) (tgt := 100) (by decide +kernel) (by decide) o5 (fun hc => ?_) (fun hc => ?_)
    · replace h := h.1 hc
      refine zw_iinc (pc := 100) (i := 3) (n := 1) (lv' := [(0, .ref 203), (1, .int (zJ v1)), (3, .int (zJ (v3 + 1)))]) 2 (by decide +kernel) rfl rfl (Nat.le_of_ble_eq_true rfl) rfl ?_
      refine zw_goto (pc := 103) (off := (-40)) (tgt := 63) (by decide +kernel) (by decide) ?_
      exact h
    · replace h := h.2 hc
      refine zw_aload_n (pc := 87) (n := 0) (i := 0) 0 (by decide +kernel) rfl rfl ?_
      refine zx_getR (pc := 88) (o := 1) (r := 204) zf_11_15 (by decide +kernel) rfl zc_203 rfl (by decide) rfl ?_
      refine zw_iload_n (pc := 91) (n := 1) (i := 1) 1 (by decide +kernel) rfl rfl ?_
      refine zx_iaload (pc := 92) (by decide +kernel) ⟨6, zc_204, o1.1, o1.2⟩ ?_
      refine zw_iload_n (pc := 93) (n := 3) (i := 3) 2 (by decide +kernel) rfl rfl ?_
      refine zw_iadd (pc := 94) (by decide +kernel) ?_
      refine zw_sipush (pc := 95) (n := 1000) (by decide +kernel) (by decide +kernel) ?_
      refine zw_iadd (pc := 98) (by decide +kernel) ?_
      exact zw_iret (pc := 99) (by decide +kernel) rfl (Nat.le_refl _) (Nat.le_refl _) ⟨_, _, rfl, rfl, h⟩
theorem sg_X11_coefficient {g : zG} {φ : Int → zMu → Prop} {v1 : Int} {v2 : Int} {μ : zMu}
    (h : zOi g zm_X11_isSeries [.int (zJ v1)] μ (fun x2 μ1 => (zR x2) ∧ ((¬ x2 = 0 → zOi g zm_X11_isThere [.ref 203, .int (zJ v1)] μ1 (fun x5 μ4 => (zR x5) ∧ ((¬ x5 = 0 → (0 ≤ v1 ∧ v1 < 6) ∧ (zR v2) ∧ (zR (μ4 204 v1.toNat)) ∧ (((μ4 204 v1.toNat) ≤ v2 → (zR (μ4 205 v1.toNat)) ∧ (zR64 (v2 - (μ4 204 v1.toNat))) ∧ (zR64 (μ4 205 v1.toNat)) ∧ (zR (zcmp (v2 - (μ4 204 v1.toNat)) (μ4 205 v1.toNat))) ∧ ((0 ≤ (zcmp (v2 - (μ4 204 v1.toNat)) (μ4 205 v1.toNat)) → φ (-5) μ4) ∧ ((zcmp (v2 - (μ4 204 v1.toNat)) (μ4 205 v1.toNat)) < 0 → zOi g zm_X11_numberOf [.ref 203, .int (zJ v1), .int (zJ v2)] μ4 (fun x15 μ14 => φ x15 μ14)))) ∧ (v2 < (μ4 204 v1.toNat) → φ 0 μ4))) ∧ (x5 = 0 → φ (-11) μ4)))) ∧ (x2 = 0 → φ (-1) μ1)))) : zOi g zm_X11_coefficient [.ref 203, .int (zJ v1), .int (zJ v2)] μ φ := by
  refine zok_of (by decide +kernel) rfl ?_
  show zWP g zm_X11_coefficient (zmo g zm_X11_coefficient (zΦi φ)) 0 [(0, .ref 203), (1, .int (zJ v1)), (2, .int (zJ v2))] [] 0 0 (zw μ)
  refine zw_iload_n (pc := 0) (n := 1) (i := 1) 1 (by decide +kernel) rfl rfl ?_
  refine zx_callS (pc := 1) (As := [.int (zJ v1)]) h zi_X11_isSeries zis_X11_isSeries zl_11_141 (by decide +kernel) ⟨Nat.le_of_ble_eq_true rfl, Nat.le_of_ble_eq_true rfl⟩ rfl rfl ⟨rfl, rfl⟩ ⟨Nat.zero_le _, Nat.zero_le _⟩ (zki (fun x2 μ1 h => ?_))
  obtain ⟨o3, h⟩ := h
  refine zw_if_ne (pc := 4) (off := 5) (tgt := 9) (by decide +kernel) (by decide) o3 (fun hc => ?_) (fun hc => ?_)
  · replace h := h.1 hc
    refine zw_aload_n (pc := 9) (n := 0) (i := 0) 0 (by decide +kernel) rfl rfl ?_
    refine zw_iload_n (pc := 10) (n := 1) (i := 1) 1 (by decide +kernel) rfl rfl ?_
    refine zx_callV (pc := 11) (As := [.int (zJ v1)]) h zi_X11_isThere zii_X11_isThere zie_X11_isThere zl_11_166 (by decide +kernel) ⟨Nat.le_of_ble_eq_true rfl, Nat.le_of_ble_eq_true rfl⟩ rfl zc_203 (by decide) rfl rfl ⟨rfl, rfl⟩ ⟨Nat.zero_le _, Nat.zero_le _⟩ (zki (fun x5 μ4 h => ?_))
    obtain ⟨o6, h⟩ := h
    refine zw_if_ne (pc := 14) (off := 6) (tgt := 20) (by decide +kernel) (by decide) o6 (fun hc => ?_) (fun hc => ?_)
    · replace h := h.1 hc
      obtain ⟨o7, o8, o9, h⟩ := h
      refine zw_iload_n (pc := 20) (n := 2) (i := 2) 2 (by decide +kernel) rfl rfl ?_
      refine zw_aload_n (pc := 21) (n := 0) (i := 0) 0 (by decide +kernel) rfl rfl ?_
      refine zx_getR (pc := 22) (o := 1) (r := 204) zf_11_15 (by decide +kernel) rfl zc_203 rfl (by decide) rfl ?_
      refine zw_iload_n (pc := 25) (n := 1) (i := 1) 1 (by decide +kernel) rfl rfl ?_
      refine zx_iaload (pc := 26) (by decide +kernel) ⟨6, zc_204, o7.1, o7.2⟩ ?_
      refine zw_icmp_ge (pc := 27) (off := 5) (tgt := 32) (by decide +kernel) (by decide) o8 o9 (fun hc => ?_) (fun hc => ?_)
      · replace h := h.1 hc
        obtain ⟨o10, o11, o12, o13, h⟩ := h
        refine zw_iload_n (pc := 32) (n := 2) (i := 2) 2 (by decide +kernel) rfl rfl ?_
        refine zw_i2l (pc := 33) (by decide +kernel) o8 ?_
        refine zw_aload_n (pc := 34) (n := 0) (i := 0) 0 (by decide +kernel) rfl rfl ?_
        refine zx_getR (pc := 35) (o := 1) (r := 204) zf_11_15 (by decide +kernel) rfl zc_203 rfl (by decide) rfl ?_
        refine zw_iload_n (pc := 38) (n := 1) (i := 1) 1 (by decide +kernel) rfl rfl ?_
        refine zx_iaload (pc := 39) (by decide +kernel) ⟨6, zc_204, o7.1, o7.2⟩ ?_
        refine zw_i2l (pc := 40) (by decide +kernel) o9 ?_
        refine zw_lsub (pc := 41) (by decide +kernel) ?_
        refine zw_aload_n (pc := 42) (n := 0) (i := 0) 0 (by decide +kernel) rfl rfl ?_
        refine zx_getR (pc := 43) (o := 2) (r := 205) zf_11_19 (by decide +kernel) rfl zc_203 rfl (by decide) rfl ?_
        refine zw_iload_n (pc := 46) (n := 1) (i := 1) 1 (by decide +kernel) rfl rfl ?_
        refine zx_iaload (pc := 47) (by decide +kernel) ⟨6, zc_205, o7.1, o7.2⟩ ?_
        refine zw_i2l (pc := 48) (by decide +kernel) o10 ?_
        refine zw_lcmp (pc := 49) (by decide +kernel) o11 o12 ?_
        refine zw_if_ge (pc := 50) (off := 12) (tgt := 62) (by decide +kernel) (by decide) o13 (fun hc => ?_) (fun hc => ?_)
        · replace h := h.1 hc
          refine zw_bipush (pc := 62) (n := (-5)) (by decide +kernel) (by decide +kernel) ?_
          exact zw_iret (pc := 64) (by decide +kernel) rfl (Nat.le_refl _) (Nat.le_refl _) ⟨_, _, rfl, rfl, h⟩
        · replace h := h.2 hc
          refine zw_aload_n (pc := 53) (n := 0) (i := 0) 0 (by decide +kernel) rfl rfl ?_
          refine zw_iload_n (pc := 54) (n := 1) (i := 1) 1 (by decide +kernel) rfl rfl ?_
          refine zw_iload_n (pc := 55) (n := 2) (i := 2) 2 (by decide +kernel) rfl rfl ?_
          refine zx_callV (pc := 56) (As := [.int (zJ v1), .int (zJ v2)]) h zi_X11_numberOf zii_X11_numberOf zie_X11_numberOf zl_11_175 (by decide +kernel) ⟨Nat.le_of_ble_eq_true rfl, Nat.le_of_ble_eq_true rfl⟩ rfl zc_203 (by decide) rfl rfl ⟨rfl, rfl⟩ ⟨Nat.zero_le _, Nat.zero_le _⟩ (zki (fun x15 μ14 h => ?_))
          refine zw_goto (pc := 59) (off := 5) (tgt := 64) (by decide +kernel) (by decide) ?_
          exact zw_iret (pc := 64) (by decide +kernel) rfl (Nat.le_refl _) (Nat.le_refl _) ⟨_, _, rfl, rfl, h⟩
      · replace h := h.2 hc
        refine zw_iconst (pc := 30) (n := 0) (by decide +kernel) ?_
        exact zw_iret (pc := 31) (by decide +kernel) rfl (Nat.le_refl _) (Nat.le_refl _) ⟨_, _, rfl, rfl, h⟩
    · replace h := h.2 hc
      refine zw_bipush (pc := 17) (n := (-11)) (by decide +kernel) (by decide +kernel) ?_
      exact zw_iret (pc := 19) (by decide +kernel) rfl (Nat.le_refl _) (Nat.le_refl _) ⟨_, _, rfl, rfl, h⟩
  · replace h := h.2 hc
    refine zw_iconst (pc := 7) (n := (-1)) (by decide +kernel) ?_
    exact zw_iret (pc := 8) (by decide +kernel) rfl (Nat.le_refl _) (Nat.le_refl _) ⟨_, _, rfl, rfl, h⟩
abbrev at_X11_find_81 (g : zG) (φ : Int → zMu → Prop) (v3 : Int) (v4 : Int) (v5 : Int) (μ : zMu) : Prop := zWP g zm_X11_find (zmo g zm_X11_find (zΦi φ)) 81 [(0, .ref 203), (3, .int (zJ v3)), (4, .int (zJ v4)), (5, .int (zJ v5))] [] 0 0 (zw μ)
abbrev at_X11_find_157 (g : zG) (φ : Int → zMu → Prop) (v5 : Int) (μ : zMu) : Prop := zWP g zm_X11_find (zmo g zm_X11_find (zΦi φ)) 157 [(0, .ref 203), (5, .int (zJ v5))] [] 0 0 (zw μ)
abbrev at_X11_find_90 (g : zG) (φ : Int → zMu → Prop) (v3 : Int) (v4 : Int) (v5 : Int) (v6 : Int) (μ : zMu) : Prop := zWP g zm_X11_find (zmo g zm_X11_find (zΦi φ)) 90 [(0, .ref 203), (3, .int (zJ v3)), (4, .int (zJ v4)), (5, .int (zJ v5)), (6, .int (zJ v6))] [] 0 0 (zw μ)
theorem sg_X11_find {g : zG} {φ : Int → zMu → Prop} {v1 : Int} {v2 : Int} {v3 : Int} {v4 : Int} {μ : zMu}
    (h : zOi g zm_X11_isSeries [.int (zJ v1)] μ (fun x2 μ1 => (zR x2) ∧ ((x2 = 0 → φ (-1) μ1) ∧ (¬ x2 = 0 → zOi g zm_X11_isSeries [.int (zJ v2)] μ1 (fun x5 μ4 => (zR x5) ∧ ((¬ x5 = 0 → (zR v3) ∧ zOi g zm_X11_in [.long (zL v3), .long (zL 1), .long (zL 8)] μ4 (fun x9 μ8 => (zR x9) ∧ ((x9 = 0 → φ (-2) μ8) ∧ (¬ x9 = 0 → (zR v4) ∧ zOi g zm_X11_in [.long (zL v4), .long (zL 0), .long (zL 1)] μ8 (fun x13 μ12 => (zR x13) ∧ ((¬ x13 = 0 → zOi g zm_X11_isThere [.ref 203, .int (zJ v1)] μ12 (fun x16 μ15 => (zR x16) ∧ ((x16 = 0 → φ (-11) μ15) ∧ (¬ x16 = 0 → zOi g zm_X11_isThere [.ref 203, .int (zJ v2)] μ15 (fun x19 μ18 => (zR x19) ∧ ((¬ x19 = 0 → zOv g zm_X11_tellsPowers [.ref 203, .int (zJ v1), .int (zJ v2), .int (zJ v3)] μ18 (fun μ21 => at_X11_find_81 g φ v3 v4 0 (zup (zup μ21 203 22 0) 203 24 0))) ∧ (x19 = 0 → φ (-11) μ18))))))) ∧ (x13 = 0 → φ (-2) μ12))))))) ∧ (x5 = 0 → φ (-1) μ4))))))) : zOi g zm_X11_find [.ref 203, .int (zJ v1), .int (zJ v2), .int (zJ v3), .int (zJ v4)] μ φ := by
  refine zok_of (by decide +kernel) rfl ?_
  show zWP g zm_X11_find (zmo g zm_X11_find (zΦi φ)) 0 [(0, .ref 203), (1, .int (zJ v1)), (2, .int (zJ v2)), (3, .int (zJ v3)), (4, .int (zJ v4))] [] 0 0 (zw μ)
  refine zw_iload_n (pc := 0) (n := 1) (i := 1) 1 (by decide +kernel) rfl rfl ?_
  refine zx_callS (pc := 1) (As := [.int (zJ v1)]) h zi_X11_isSeries zis_X11_isSeries zl_11_141 (by decide +kernel) ⟨Nat.le_of_ble_eq_true rfl, Nat.le_of_ble_eq_true rfl⟩ rfl rfl ⟨rfl, rfl⟩ ⟨Nat.zero_le _, Nat.zero_le _⟩ (zki (fun x2 μ1 h => ?_))
  obtain ⟨o3, h⟩ := h
  refine zw_if_eq (pc := 4) (off := 10) (tgt := 14) (by decide +kernel) (by decide) o3 (fun hc => ?_) (fun hc => ?_)
  · replace h := h.1 hc
    refine zw_iconst (pc := 14) (n := (-1)) (by decide +kernel) ?_
    exact zw_iret (pc := 15) (by decide +kernel) rfl (Nat.le_refl _) (Nat.le_refl _) ⟨_, _, rfl, rfl, h⟩
  · replace h := h.2 hc
    refine zw_iload_n (pc := 7) (n := 2) (i := 2) 2 (by decide +kernel) rfl rfl ?_
    refine zx_callS (pc := 8) (As := [.int (zJ v2)]) h zi_X11_isSeries zis_X11_isSeries zl_11_141 (by decide +kernel) ⟨Nat.le_of_ble_eq_true rfl, Nat.le_of_ble_eq_true rfl⟩ rfl rfl ⟨rfl, rfl⟩ ⟨Nat.zero_le _, Nat.zero_le _⟩ (zki (fun x5 μ4 h => ?_))
    obtain ⟨o6, h⟩ := h
    refine zw_if_ne (pc := 11) (off := 5) (tgt := 16) (by decide +kernel) (by decide) o6 (fun hc => ?_) (fun hc => ?_)
    · replace h := h.1 hc
      obtain ⟨o7, h⟩ := h
      refine zw_iload_n (pc := 16) (n := 3) (i := 3) 3 (by decide +kernel) rfl rfl ?_
      refine zw_i2l (pc := 17) (by decide +kernel) o7 ?_
      refine zw_lconst (pc := 18) (n := 1) (v := 1) (by decide +kernel) rfl ?_
      refine zw_ldc2 (pc := 19) (v := 8) (by decide +kernel) zk_11_229 ?_
      refine zx_callS (pc := 22) (As := [.long (zL v3), .long (zL 1), .long (zL 8)]) h zi_X11_in zis_X11_in zl_11_114 (by decide +kernel) ⟨Nat.le_of_ble_eq_true rfl, Nat.le_of_ble_eq_true rfl⟩ rfl rfl ⟨rfl, rfl⟩ ⟨Nat.zero_le _, Nat.zero_le _⟩ (zki (fun x9 μ8 h => ?_))
      obtain ⟨o10, h⟩ := h
      refine zw_if_eq (pc := 25) (off := 14) (tgt := 39) (by decide +kernel) (by decide) o10 (fun hc => ?_) (fun hc => ?_)
      · replace h := h.1 hc
        refine zw_bipush (pc := 39) (n := (-2)) (by decide +kernel) (by decide +kernel) ?_
        exact zw_iret (pc := 41) (by decide +kernel) rfl (Nat.le_refl _) (Nat.le_refl _) ⟨_, _, rfl, rfl, h⟩
      · replace h := h.2 hc
        obtain ⟨o11, h⟩ := h
        refine zw_iload (pc := 28) (i := 4) 4 (by decide +kernel) rfl ?_
        refine zw_i2l (pc := 30) (by decide +kernel) o11 ?_
        refine zw_lconst (pc := 31) (n := 0) (v := 0) (by decide +kernel) rfl ?_
        refine zw_lconst (pc := 32) (n := 1) (v := 1) (by decide +kernel) rfl ?_
        refine zx_callS (pc := 33) (As := [.long (zL v4), .long (zL 0), .long (zL 1)]) h zi_X11_in zis_X11_in zl_11_114 (by decide +kernel) ⟨Nat.le_of_ble_eq_true rfl, Nat.le_of_ble_eq_true rfl⟩ rfl rfl ⟨rfl, rfl⟩ ⟨Nat.zero_le _, Nat.zero_le _⟩ (zki (fun x13 μ12 h => ?_))
        obtain ⟨o14, h⟩ := h
        refine zw_if_ne (pc := 36) (off := 6) (tgt := 42) (by decide +kernel) (by decide) o14 (fun hc => ?_) (fun hc => ?_)
        · replace h := h.1 hc
          refine zw_aload_n (pc := 42) (n := 0) (i := 0) 0 (by decide +kernel) rfl rfl ?_
          refine zw_iload_n (pc := 43) (n := 1) (i := 1) 1 (by decide +kernel) rfl rfl ?_
          refine zx_callV (pc := 44) (As := [.int (zJ v1)]) h zi_X11_isThere zii_X11_isThere zie_X11_isThere zl_11_166 (by decide +kernel) ⟨Nat.le_of_ble_eq_true rfl, Nat.le_of_ble_eq_true rfl⟩ rfl zc_203 (by decide) rfl rfl ⟨rfl, rfl⟩ ⟨Nat.zero_le _, Nat.zero_le _⟩ (zki (fun x16 μ15 h => ?_))
          obtain ⟨o17, h⟩ := h
          refine zw_if_eq (pc := 47) (off := 11) (tgt := 58) (by decide +kernel) (by decide) o17 (fun hc => ?_) (fun hc => ?_)
          · replace h := h.1 hc
            refine zw_bipush (pc := 58) (n := (-11)) (by decide +kernel) (by decide +kernel) ?_
            exact zw_iret (pc := 60) (by decide +kernel) rfl (Nat.le_refl _) (Nat.le_refl _) ⟨_, _, rfl, rfl, h⟩
          · replace h := h.2 hc
            refine zw_aload_n (pc := 50) (n := 0) (i := 0) 0 (by decide +kernel) rfl rfl ?_
            refine zw_iload_n (pc := 51) (n := 2) (i := 2) 2 (by decide +kernel) rfl rfl ?_
            refine zx_callV (pc := 52) (As := [.int (zJ v2)]) h zi_X11_isThere zii_X11_isThere zie_X11_isThere zl_11_166 (by decide +kernel) ⟨Nat.le_of_ble_eq_true rfl, Nat.le_of_ble_eq_true rfl⟩ rfl zc_203 (by decide) rfl rfl ⟨rfl, rfl⟩ ⟨Nat.zero_le _, Nat.zero_le _⟩ (zki (fun x19 μ18 h => ?_))
            obtain ⟨o20, h⟩ := h
            refine zw_if_ne (pc := 55) (off := 6) (tgt := 61) (by decide +kernel) (by decide) o20 (fun hc => ?_) (fun hc => ?_)
            · replace h := h.1 hc
              refine zw_aload_n (pc := 61) (n := 0) (i := 0) 0 (by decide +kernel) rfl rfl ?_
              refine zw_iload_n (pc := 62) (n := 1) (i := 1) 1 (by decide +kernel) rfl rfl ?_
              refine zw_iload_n (pc := 63) (n := 2) (i := 2) 2 (by decide +kernel) rfl rfl ?_
              refine zw_iload_n (pc := 64) (n := 3) (i := 3) 3 (by decide +kernel) rfl rfl ?_
              refine zx_callV (pc := 65) (As := [.int (zJ v1), .int (zJ v2), .int (zJ v3)]) h zi_X11_tellsPowers zii_X11_tellsPowers zie_X11_tellsPowers zl_11_231 (by decide +kernel) ⟨Nat.le_of_ble_eq_true rfl, Nat.le_of_ble_eq_true rfl⟩ rfl zc_203 (by decide) rfl rfl ⟨rfl, rfl⟩ ⟨Nat.zero_le _, Nat.zero_le _⟩ (zkv (fun μ21 h => ?_))
              refine zw_aload_n (pc := 68) (n := 0) (i := 0) 0 (by decide +kernel) rfl rfl ?_
              refine zw_iconst (pc := 69) (n := 0) (by decide +kernel) ?_
              refine zx_putI (pc := 70) zf_11_201 (by decide +kernel) rfl zc_203 ?_
              refine zw_aload_n (pc := 73) (n := 0) (i := 0) 0 (by decide +kernel) rfl rfl ?_
              refine zw_iconst (pc := 74) (n := 0) (by decide +kernel) ?_
              refine zx_putI (pc := 75) zf_11_226 (by decide +kernel) rfl zc_203 ?_
              refine zw_iconst (pc := 78) (n := 0) (by decide +kernel) ?_
              refine zw_istore (pc := 79) (i := 5) (lv' := [(0, .ref 203), (1, .int (zJ v1)), (2, .int (zJ v2)), (3, .int (zJ v3)), (4, .int (zJ v4)), (5, .int (zJ 0))]) (by decide +kernel) (Nat.le_of_ble_eq_true rfl) rfl ?_
              exact zw_pick (lv' := [(0, .ref 203), (3, .int (zJ v3)), (4, .int (zJ v4)), (5, .int (zJ 0))]) [0, 3, 4, 5] rfl h
            · replace h := h.2 hc
              refine zw_bipush (pc := 58) (n := (-11)) (by decide +kernel) (by decide +kernel) ?_
              exact zw_iret (pc := 60) (by decide +kernel) rfl (Nat.le_refl _) (Nat.le_refl _) ⟨_, _, rfl, rfl, h⟩
        · replace h := h.2 hc
          refine zw_bipush (pc := 39) (n := (-2)) (by decide +kernel) (by decide +kernel) ?_
          exact zw_iret (pc := 41) (by decide +kernel) rfl (Nat.le_refl _) (Nat.le_refl _) ⟨_, _, rfl, rfl, h⟩
    · replace h := h.2 hc
      refine zw_iconst (pc := 14) (n := (-1)) (by decide +kernel) ?_
      exact zw_iret (pc := 15) (by decide +kernel) rfl (Nat.le_refl _) (Nat.le_refl _) ⟨_, _, rfl, rfl, h⟩
theorem sg_X11_find_81 {g : zG} {φ : Int → zMu → Prop} {v3 : Int} {v4 : Int} {v5 : Int} {μ : zMu}
    (h : (zR v5) ∧ (zR v3) ∧ ((v3 < v5 → (zR (μ 203 24)) ∧ ((¬ (μ 203 24) = 0 → at_X11_find_157 g φ 0 (zup μ 203 4 v3)) ∧ ((μ 203 24) = 0 → φ (-5) μ))) ∧ (v5 ≤ v3 → at_X11_find_90 g φ v3 v4 v5 0 μ))) : at_X11_find_81 g φ v3 v4 v5 μ := by
  obtain ⟨o1, o2, h⟩ := h
  refine zw_iload (pc := 81) (i := 5) 3 (by decide +kernel) rfl ?_
  refine zw_iload_n (pc := 83) (n := 3) (i := 3) 1 (by decide +kernel) rfl rfl ?_
  refine zw_icmp_gt (pc := 84) (off := 55) (tgt := 139) (by decide +kernel) (by decide) o1 o2 (fun hc => ?_) (fun hc => ?_)
  · replace h := h.1 hc
    obtain ⟨o3, h⟩ := h
    refine zw_aload_n (pc := 139) (n := 0) (i := 0) 0 (by decide +kernel) rfl rfl ?_
    refine zx_getI (pc := 140) zf_11_226 (by decide +kernel) rfl zc_203 ?_
    refine zw_if_ne (pc := 143) (off := 6) (tgt := 149) (by decide +kernel) (by decide) o3 (fun hc => ?_) (fun hc => ?_)
    · replace h := h.1 hc
      refine zw_aload_n (pc := 149) (n := 0) (i := 0) 0 (by decide +kernel) rfl rfl ?_
      refine zw_iload_n (pc := 150) (n := 3) (i := 3) 1 (by decide +kernel) rfl rfl ?_
      refine zx_putI (pc := 151) zf_11_128 (by decide +kernel) rfl zc_203 ?_
      refine zw_iconst (pc := 154) (n := 0) (by decide +kernel) ?_
      refine zw_istore (pc := 155) (i := 5) (lv' := [(0, .ref 203), (3, .int (zJ v3)), (4, .int (zJ v4)), (5, .int (zJ 0))]) (by decide +kernel) (Nat.le_of_ble_eq_true rfl) rfl ?_
      exact zw_pick (lv' := [(0, .ref 203), (5, .int (zJ 0))]) [0, 3] rfl h
    · replace h := h.2 hc
      refine zw_bipush (pc := 146) (n := (-5)) (by decide +kernel) (by decide +kernel) ?_
      exact zw_iret (pc := 148) (by decide +kernel) rfl (Nat.le_refl _) (Nat.le_refl _) ⟨_, _, rfl, rfl, h⟩
  · replace h := h.2 hc
    refine zw_iconst (pc := 87) (n := 0) (by decide +kernel) ?_
    refine zw_istore (pc := 88) (i := 6) (lv' := [(0, .ref 203), (3, .int (zJ v3)), (4, .int (zJ v4)), (5, .int (zJ v5)), (6, .int (zJ 0))]) (by decide +kernel) (Nat.le_of_ble_eq_true rfl) rfl ?_
    exact h
theorem sg_X11_find_157 {g : zG} {φ : Int → zMu → Prop} {v5 : Int} {μ : zMu}
    (h : (zR v5) ∧ ((81 ≤ v5 → φ (μ 203 24) μ) ∧ (v5 < 81 → (0 ≤ v5 ∧ v5 < 81) ∧ at_X11_find_157 g φ (v5 + 1) (zup μ 207 v5.toNat (μ 219 v5.toNat))))) : at_X11_find_157 g φ v5 μ := by
  obtain ⟨o1, h⟩ := h
  refine zw_iload (pc := 157) (i := 5) 1 (by decide +kernel) rfl ?_
  refine zw_bipush (pc := 159) (n := 81) (by decide +kernel) (by decide +kernel) ?_
  refine zw_icmp_ge (pc := 161) (off := 23) (tgt := 184) (by decide +kernel) (by decide) o1 ⟨by decide, by decide⟩ (fun hc => ?_) (fun hc => ?_)
  · replace h := h.1 hc
    refine zw_aload_n (pc := 184) (n := 0) (i := 0) 0 (by decide +kernel) rfl rfl ?_
    refine zx_getI (pc := 185) zf_11_226 (by decide +kernel) rfl zc_203 ?_
    exact zw_iret (pc := 188) (by decide +kernel) rfl (Nat.le_refl _) (Nat.le_refl _) ⟨_, _, rfl, rfl, h⟩
  · replace h := h.2 hc
    obtain ⟨o2, h⟩ := h
    refine zw_aload_n (pc := 164) (n := 0) (i := 0) 0 (by decide +kernel) rfl rfl ?_
    refine zx_getR (pc := 165) (o := 4) (r := 207) zf_11_25 (by decide +kernel) rfl zc_203 rfl (by decide) rfl ?_
    refine zw_iload (pc := 168) (i := 5) 1 (by decide +kernel) rfl ?_
    refine zw_aload_n (pc := 170) (n := 0) (i := 0) 0 (by decide +kernel) rfl rfl ?_
    refine zx_getR (pc := 171) (o := 16) (r := 219) zf_11_61 (by decide +kernel) rfl zc_203 rfl (by decide) rfl ?_
    refine zw_iload (pc := 174) (i := 5) 1 (by decide +kernel) rfl ?_
    refine zx_iaload (pc := 176) (by decide +kernel) ⟨81, zc_219, o2.1, o2.2⟩ ?_
    refine zx_iastore (pc := 177) (by decide +kernel) ⟨81, zc_207, o2.1, o2.2⟩ ?_
    refine zw_iinc (pc := 178) (i := 5) (n := 1) (lv' := [(0, .ref 203), (5, .int (zJ (v5 + 1)))]) 1 (by decide +kernel) rfl rfl (Nat.le_of_ble_eq_true rfl) rfl ?_
    refine zw_goto (pc := 181) (off := (-24)) (tgt := 157) (by decide +kernel) (by decide) ?_
    exact h
theorem sg_X11_find_90 {g : zG} {φ : Int → zMu → Prop} {v3 : Int} {v4 : Int} {v5 : Int} {v6 : Int} {μ : zMu}
    (h : (zR v4) ∧ ((¬ v4 = 1 → (zR v6) ∧ (zR v3) ∧ ((v3 < v6 → at_X11_find_81 g φ v3 v4 (v5 + 1) μ) ∧ (v6 ≤ v3 → ((¬ v4 = 1 → zOv g zm_X11_tries [.ref 203, .int (zJ v3), .int (zJ v5), .int (zJ v6), .int (zJ 0)] μ (fun μ4 => at_X11_find_90 g φ v3 v4 v5 (v6 + 1) μ4)) ∧ (v4 = 1 → zOv g zm_X11_tries [.ref 203, .int (zJ v3), .int (zJ v5), .int (zJ v6), .int (zJ 1)] μ (fun μ5 => at_X11_find_90 g φ v3 v4 v5 (v6 + 1) μ5)))))) ∧ (v4 = 1 → (zR v6) ∧ (zR v5) ∧ ((v5 < v6 → at_X11_find_81 g φ v3 v4 (v5 + 1) μ) ∧ (v6 ≤ v5 → ((¬ v4 = 1 → zOv g zm_X11_tries [.ref 203, .int (zJ v3), .int (zJ v5), .int (zJ v6), .int (zJ 0)] μ (fun μ8 => at_X11_find_90 g φ v3 v4 v5 (v6 + 1) μ8)) ∧ (v4 = 1 → zOv g zm_X11_tries [.ref 203, .int (zJ v3), .int (zJ v5), .int (zJ v6), .int (zJ 1)] μ (fun μ9 => at_X11_find_90 g φ v3 v4 v5 (v6 + 1) μ9)))))))) : at_X11_find_90 g φ v3 v4 v5 v6 μ := by
  obtain ⟨o1, h⟩ := h
  refine zw_iload (pc := 90) (i := 6) 4 (by decide +kernel) rfl ?_
  refine zw_iload (pc := 92) (i := 4) 2 (by decide +kernel) rfl ?_
  refine zw_iconst (pc := 94) (n := 1) (by decide +kernel) ?_
  refine zw_icmp_ne (pc := 95) (off := 8) (tgt := 103) (by decide +kernel) (by decide) o1 ⟨by decide, by decide⟩ (fun hc => ?_) (fun hc => ?_)
  · replace h := h.1 hc
    obtain ⟨o2, o3, h⟩ := h
    refine zw_iload_n (pc := 103) (n := 3) (i := 3) 1 (by decide +kernel) rfl rfl ?_
    refine zw_icmp_gt (pc := 104) (off := 29) (tgt := 133) (by decide +kernel) (by decide) o2 o3 (fun hc => ?_) (fun hc => ?_)
    · replace h := h.1 hc
      refine zw_iinc (pc := 133) (i := 5) (n := 1) (lv' := [(0, .ref 203), (3, .int (zJ v3)), (4, .int (zJ v4)), (5, .int (zJ (v5 + 1))), (6, .int (zJ v6))]) 3 (by decide +kernel) rfl rfl (Nat.le_of_ble_eq_true rfl) rfl ?_
      refine zw_goto (pc := 136) (off := (-55)) (tgt := 81) (by decide +kernel) (by decide) ?_
      exact zw_pick (lv' := [(0, .ref 203), (3, .int (zJ v3)), (4, .int (zJ v4)), (5, .int (zJ (v5 + 1)))]) [0, 1, 2, 3] rfl h
    · replace h := h.2 hc
      refine zw_aload_n (pc := 107) (n := 0) (i := 0) 0 (by decide +kernel) rfl rfl ?_
      refine zw_iload_n (pc := 108) (n := 3) (i := 3) 1 (by decide +kernel) rfl rfl ?_
      refine zw_iload (pc := 109) (i := 5) 3 (by decide +kernel) rfl ?_
      refine zw_iload (pc := 111) (i := 6) 4 (by decide +kernel) rfl ?_
      refine zw_iload (pc := 113) (i := 4) 2 (by decide +kernel) rfl ?_
      refine zw_iconst (pc := 115) (n := 1) (by decide +kernel) ?_
      refine zw_icmp_ne (pc := 116) (off := 7) (tgt := 123) (by decide +kernel) (by decide) o1 ⟨by decide, by decide⟩ (fun hc => ?_) (fun hc => ?_)
      · replace h := h.1 hc
        refine zw_iconst (pc := 123) (n := 0) (by decide +kernel) ?_
        refine zx_callV (pc := 124) (As := [.int (zJ v3), .int (zJ v5), .int (zJ v6), .int (zJ 0)]) h zi_X11_tries zii_X11_tries zie_X11_tries zl_11_234 (by decide +kernel) ⟨Nat.le_of_ble_eq_true rfl, Nat.le_of_ble_eq_true rfl⟩ rfl zc_203 (by decide) rfl rfl ⟨rfl, rfl⟩ ⟨Nat.zero_le _, Nat.zero_le _⟩ (zkv (fun μ4 h => ?_))
        refine zw_iinc (pc := 127) (i := 6) (n := 1) (lv' := [(0, .ref 203), (3, .int (zJ v3)), (4, .int (zJ v4)), (5, .int (zJ v5)), (6, .int (zJ (v6 + 1)))]) 4 (by decide +kernel) rfl rfl (Nat.le_of_ble_eq_true rfl) rfl ?_
        refine zw_goto (pc := 130) (off := (-40)) (tgt := 90) (by decide +kernel) (by decide) ?_
        exact h
      · replace h := h.2 hc
        refine zw_iconst (pc := 119) (n := 1) (by decide +kernel) ?_
        refine zw_goto (pc := 120) (off := 4) (tgt := 124) (by decide +kernel) (by decide) ?_
        refine zx_callV (pc := 124) (As := [.int (zJ v3), .int (zJ v5), .int (zJ v6), .int (zJ 1)]) h zi_X11_tries zii_X11_tries zie_X11_tries zl_11_234 (by decide +kernel) ⟨Nat.le_of_ble_eq_true rfl, Nat.le_of_ble_eq_true rfl⟩ rfl zc_203 (by decide) rfl rfl ⟨rfl, rfl⟩ ⟨Nat.zero_le _, Nat.zero_le _⟩ (zkv (fun μ5 h => ?_))
        refine zw_iinc (pc := 127) (i := 6) (n := 1) (lv' := [(0, .ref 203), (3, .int (zJ v3)), (4, .int (zJ v4)), (5, .int (zJ v5)), (6, .int (zJ (v6 + 1)))]) 4 (by decide +kernel) rfl rfl (Nat.le_of_ble_eq_true rfl) rfl ?_
        refine zw_goto (pc := 130) (off := (-40)) (tgt := 90) (by decide +kernel) (by decide) ?_
        exact h
  · replace h := h.2 hc
    obtain ⟨o6, o7, h⟩ := h
    refine zw_iload (pc := 98) (i := 5) 3 (by decide +kernel) rfl ?_
    refine zw_goto (pc := 100) (off := 4) (tgt := 104) (by decide +kernel) (by decide) ?_
    refine zw_icmp_gt (pc := 104) (off := 29) (tgt := 133) (by decide +kernel) (by decide) o6 o7 (fun hc => ?_) (fun hc => ?_)
    · replace h := h.1 hc
      refine zw_iinc (pc := 133) (i := 5) (n := 1) (lv' := [(0, .ref 203), (3, .int (zJ v3)), (4, .int (zJ v4)), (5, .int (zJ (v5 + 1))), (6, .int (zJ v6))]) 3 (by decide +kernel) rfl rfl (Nat.le_of_ble_eq_true rfl) rfl ?_
      refine zw_goto (pc := 136) (off := (-55)) (tgt := 81) (by decide +kernel) (by decide) ?_
      exact zw_pick (lv' := [(0, .ref 203), (3, .int (zJ v3)), (4, .int (zJ v4)), (5, .int (zJ (v5 + 1)))]) [0, 1, 2, 3] rfl h
    · replace h := h.2 hc
      refine zw_aload_n (pc := 107) (n := 0) (i := 0) 0 (by decide +kernel) rfl rfl ?_
      refine zw_iload_n (pc := 108) (n := 3) (i := 3) 1 (by decide +kernel) rfl rfl ?_
      refine zw_iload (pc := 109) (i := 5) 3 (by decide +kernel) rfl ?_
      refine zw_iload (pc := 111) (i := 6) 4 (by decide +kernel) rfl ?_
      refine zw_iload (pc := 113) (i := 4) 2 (by decide +kernel) rfl ?_
      refine zw_iconst (pc := 115) (n := 1) (by decide +kernel) ?_
      refine zw_icmp_ne (pc := 116) (off := 7) (tgt := 123) (by decide +kernel) (by decide) o1 ⟨by decide, by decide⟩ (fun hc => ?_) (fun hc => ?_)
      · replace h := h.1 hc
        refine zw_iconst (pc := 123) (n := 0) (by decide +kernel) ?_
        refine zx_callV (pc := 124) (As := [.int (zJ v3), .int (zJ v5), .int (zJ v6), .int (zJ 0)]) h zi_X11_tries zii_X11_tries zie_X11_tries zl_11_234 (by decide +kernel) ⟨Nat.le_of_ble_eq_true rfl, Nat.le_of_ble_eq_true rfl⟩ rfl zc_203 (by decide) rfl rfl ⟨rfl, rfl⟩ ⟨Nat.zero_le _, Nat.zero_le _⟩ (zkv (fun μ8 h => ?_))
        refine zw_iinc (pc := 127) (i := 6) (n := 1) (lv' := [(0, .ref 203), (3, .int (zJ v3)), (4, .int (zJ v4)), (5, .int (zJ v5)), (6, .int (zJ (v6 + 1)))]) 4 (by decide +kernel) rfl rfl (Nat.le_of_ble_eq_true rfl) rfl ?_
        refine zw_goto (pc := 130) (off := (-40)) (tgt := 90) (by decide +kernel) (by decide) ?_
        exact h
      · replace h := h.2 hc
        refine zw_iconst (pc := 119) (n := 1) (by decide +kernel) ?_
        refine zw_goto (pc := 120) (off := 4) (tgt := 124) (by decide +kernel) (by decide) ?_
        refine zx_callV (pc := 124) (As := [.int (zJ v3), .int (zJ v5), .int (zJ v6), .int (zJ 1)]) h zi_X11_tries zii_X11_tries zie_X11_tries zl_11_234 (by decide +kernel) ⟨Nat.le_of_ble_eq_true rfl, Nat.le_of_ble_eq_true rfl⟩ rfl zc_203 (by decide) rfl rfl ⟨rfl, rfl⟩ ⟨Nat.zero_le _, Nat.zero_le _⟩ (zkv (fun μ9 h => ?_))
        refine zw_iinc (pc := 127) (i := 6) (n := 1) (lv' := [(0, .ref 203), (3, .int (zJ v3)), (4, .int (zJ v4)), (5, .int (zJ v5)), (6, .int (zJ (v6 + 1)))]) 4 (by decide +kernel) rfl rfl (Nat.le_of_ble_eq_true rfl) rfl ?_
        refine zw_goto (pc := 130) (off := (-40)) (tgt := 90) (by decide +kernel) (by decide) ?_
        exact h
abbrev at_X11_tellsPowers_67 (g : zG) (φ : zMu → Prop) (v1 : Int) (v2 : Int) (v3 : Int) (v4 : Int) (μ : zMu) : Prop := zWP g zm_X11_tellsPowers (zmo g zm_X11_tellsPowers (zΦv φ)) 67 [(0, .ref 203), (1, .int (zJ v1)), (2, .int (zJ v2)), (3, .int (zJ v3)), (4, .int (zJ v4))] [] 0 0 (zw μ)
abbrev at_X11_tellsPowers_87 (g : zG) (φ : zMu → Prop) (v1 : Int) (v2 : Int) (v3 : Int) (v4 : Int) (v5 : Int) (μ : zMu) : Prop := zWP g zm_X11_tellsPowers (zmo g zm_X11_tellsPowers (zΦv φ)) 87 [(0, .ref 203), (1, .int (zJ v1)), (2, .int (zJ v2)), (3, .int (zJ v3)), (4, .int (zJ v4)), (5, .int (zJ v5))] [] 0 0 (zw μ)
abbrev at_X11_tellsPowers_136 (g : zG) (φ : zMu → Prop) (v1 : Int) (v2 : Int) (v3 : Int) (v4 : Int) (v5 : Int) (μ : zMu) : Prop := zWP g zm_X11_tellsPowers (zmo g zm_X11_tellsPowers (zΦv φ)) 136 [(0, .ref 203), (1, .int (zJ v1)), (2, .int (zJ v2)), (3, .int (zJ v3)), (4, .int (zJ v4)), (5, .int (zJ v5))] [] 0 0 (zw μ)
theorem sg_X11_tellsPowers {g : zG} {φ : zMu → Prop} {v1 : Int} {v2 : Int} {v3 : Int} {μ : zMu}
    (h : (0 ≤ v1 ∧ v1 < 6) ∧ (0 ≤ v2 ∧ v2 < 6) ∧ (zR (μ 205 v1.toNat)) ∧ (zR (μ 205 v2.toNat)) ∧ (zR (v3 * ((zup (zup (zup μ 203 14 (min (μ 205 v1.toNat) (μ 205 v2.toNat))) 203 16 ((zup μ 203 14 (min (μ 205 v1.toNat) (μ 205 v2.toNat))) 204 v1.toNat)) 203 17 ((zup (zup μ 203 14 (min (μ 205 v1.toNat) (μ 205 v2.toNat))) 203 16 ((zup μ 203 14 (min (μ 205 v1.toNat) (μ 205 v2.toNat))) 204 v1.toNat)) 204 v2.toNat)) 203 16))) ∧ (zR (v3 * ((zup (zup (zup μ 203 14 (min (μ 205 v1.toNat) (μ 205 v2.toNat))) 203 16 ((zup μ 203 14 (min (μ 205 v1.toNat) (μ 205 v2.toNat))) 204 v1.toNat)) 203 17 ((zup (zup μ 203 14 (min (μ 205 v1.toNat) (μ 205 v2.toNat))) 203 16 ((zup μ 203 14 (min (μ 205 v1.toNat) (μ 205 v2.toNat))) 204 v1.toNat)) 204 v2.toNat)) 203 17))) ∧ at_X11_tellsPowers_67 g φ v1 v2 v3 0 (zup (zup (zup (zup μ 203 14 (min (μ 205 v1.toNat) (μ 205 v2.toNat))) 203 16 ((zup μ 203 14 (min (μ 205 v1.toNat) (μ 205 v2.toNat))) 204 v1.toNat)) 203 17 ((zup (zup μ 203 14 (min (μ 205 v1.toNat) (μ 205 v2.toNat))) 203 16 ((zup μ 203 14 (min (μ 205 v1.toNat) (μ 205 v2.toNat))) 204 v1.toNat)) 204 v2.toNat)) 203 15 ((min 0 (v3 * ((zup (zup (zup μ 203 14 (min (μ 205 v1.toNat) (μ 205 v2.toNat))) 203 16 ((zup μ 203 14 (min (μ 205 v1.toNat) (μ 205 v2.toNat))) 204 v1.toNat)) 203 17 ((zup (zup μ 203 14 (min (μ 205 v1.toNat) (μ 205 v2.toNat))) 203 16 ((zup μ 203 14 (min (μ 205 v1.toNat) (μ 205 v2.toNat))) 204 v1.toNat)) 204 v2.toNat)) 203 16))) + (min 0 (v3 * ((zup (zup (zup μ 203 14 (min (μ 205 v1.toNat) (μ 205 v2.toNat))) 203 16 ((zup μ 203 14 (min (μ 205 v1.toNat) (μ 205 v2.toNat))) 204 v1.toNat)) 203 17 ((zup (zup μ 203 14 (min (μ 205 v1.toNat) (μ 205 v2.toNat))) 203 16 ((zup μ 203 14 (min (μ 205 v1.toNat) (μ 205 v2.toNat))) 204 v1.toNat)) 204 v2.toNat)) 203 17)))))) : zOv g zm_X11_tellsPowers [.ref 203, .int (zJ v1), .int (zJ v2), .int (zJ v3)] μ φ := by
  refine zok_of (by decide +kernel) rfl ?_
  show zWP g zm_X11_tellsPowers (zmo g zm_X11_tellsPowers (zΦv φ)) 0 [(0, .ref 203), (1, .int (zJ v1)), (2, .int (zJ v2)), (3, .int (zJ v3))] [] 0 0 (zw μ)
  obtain ⟨o1, o2, o3, o4, o5, o6, h⟩ := h
  refine zw_aload_n (pc := 0) (n := 0) (i := 0) 0 (by decide +kernel) rfl rfl ?_
  refine zw_aload_n (pc := 1) (n := 0) (i := 0) 0 (by decide +kernel) rfl rfl ?_
  refine zx_getR (pc := 2) (o := 2) (r := 205) zf_11_19 (by decide +kernel) rfl zc_203 rfl (by decide) rfl ?_
  refine zw_iload_n (pc := 5) (n := 1) (i := 1) 1 (by decide +kernel) rfl rfl ?_
  refine zx_iaload (pc := 6) (by decide +kernel) ⟨6, zc_205, o1.1, o1.2⟩ ?_
  refine zw_aload_n (pc := 7) (n := 0) (i := 0) 0 (by decide +kernel) rfl rfl ?_
  refine zx_getR (pc := 8) (o := 2) (r := 205) zf_11_19 (by decide +kernel) rfl zc_203 rfl (by decide) rfl ?_
  refine zw_iload_n (pc := 11) (n := 2) (i := 2) 2 (by decide +kernel) rfl rfl ?_
  refine zx_iaload (pc := 12) (by decide +kernel) ⟨6, zc_205, o2.1, o2.2⟩ ?_
  refine zw_min (pc := 13) zl_11_169 zb_minS zb_mathI zb_minC (by decide +kernel) ⟨Nat.le_of_ble_eq_true rfl, Nat.le_of_ble_eq_true rfl⟩ (Nat.zero_le _) (Nat.zero_le _) rfl o3 o4 ?_
  refine zx_putI (pc := 16) zf_11_189 (by decide +kernel) rfl zc_203 ?_
  refine zw_aload_n (pc := 19) (n := 0) (i := 0) 0 (by decide +kernel) rfl rfl ?_
  refine zw_aload_n (pc := 20) (n := 0) (i := 0) 0 (by decide +kernel) rfl rfl ?_
  refine zx_getR (pc := 21) (o := 1) (r := 204) zf_11_15 (by decide +kernel) rfl zc_203 rfl (by decide) rfl ?_
  refine zw_iload_n (pc := 24) (n := 1) (i := 1) 1 (by decide +kernel) rfl rfl ?_
  refine zx_iaload (pc := 25) (by decide +kernel) ⟨6, zc_204, o1.1, o1.2⟩ ?_
  refine zx_putI (pc := 26) zf_11_192 (by decide +kernel) rfl zc_203 ?_
  refine zw_aload_n (pc := 29) (n := 0) (i := 0) 0 (by decide +kernel) rfl rfl ?_
  refine zw_aload_n (pc := 30) (n := 0) (i := 0) 0 (by decide +kernel) rfl rfl ?_
  refine zx_getR (pc := 31) (o := 1) (r := 204) zf_11_15 (by decide +kernel) rfl zc_203 rfl (by decide) rfl ?_
  refine zw_iload_n (pc := 34) (n := 2) (i := 2) 2 (by decide +kernel) rfl rfl ?_
  refine zx_iaload (pc := 35) (by decide +kernel) ⟨6, zc_204, o2.1, o2.2⟩ ?_
  refine zx_putI (pc := 36) zf_11_195 (by decide +kernel) rfl zc_203 ?_
  refine zw_aload_n (pc := 39) (n := 0) (i := 0) 0 (by decide +kernel) rfl rfl ?_
  refine zw_iconst (pc := 40) (n := 0) (by decide +kernel) ?_
  refine zw_iload_n (pc := 41) (n := 3) (i := 3) 3 (by decide +kernel) rfl rfl ?_
  refine zw_aload_n (pc := 42) (n := 0) (i := 0) 0 (by decide +kernel) rfl rfl ?_
  refine zx_getI (pc := 43) zf_11_192 (by decide +kernel) rfl zc_203 ?_
  refine zw_imul (pc := 46) (by decide +kernel) ?_
  refine zw_min (pc := 47) zl_11_169 zb_minS zb_mathI zb_minC (by decide +kernel) ⟨Nat.le_of_ble_eq_true rfl, Nat.le_of_ble_eq_true rfl⟩ (Nat.zero_le _) (Nat.zero_le _) rfl ⟨by decide, by decide⟩ o5 ?_
  refine zw_iconst (pc := 50) (n := 0) (by decide +kernel) ?_
  refine zw_iload_n (pc := 51) (n := 3) (i := 3) 3 (by decide +kernel) rfl rfl ?_
  refine zw_aload_n (pc := 52) (n := 0) (i := 0) 0 (by decide +kernel) rfl rfl ?_
  refine zx_getI (pc := 53) zf_11_195 (by decide +kernel) rfl zc_203 ?_
  refine zw_imul (pc := 56) (by decide +kernel) ?_
  refine zw_min (pc := 57) zl_11_169 zb_minS zb_mathI zb_minC (by decide +kernel) ⟨Nat.le_of_ble_eq_true rfl, Nat.le_of_ble_eq_true rfl⟩ (Nat.zero_le _) (Nat.zero_le _) rfl ⟨by decide, by decide⟩ o6 ?_
  refine zw_iadd (pc := 60) (by decide +kernel) ?_
  refine zx_putI (pc := 61) zf_11_198 (by decide +kernel) rfl zc_203 ?_
  refine zw_iconst (pc := 64) (n := 0) (by decide +kernel) ?_
  refine zw_istore (pc := 65) (i := 4) (lv' := [(0, .ref 203), (1, .int (zJ v1)), (2, .int (zJ v2)), (3, .int (zJ v3)), (4, .int (zJ 0))]) (by decide +kernel) (Nat.le_of_ble_eq_true rfl) rfl ?_
  exact h
theorem sg_X11_tellsPowers_67 {g : zG} {φ : zMu → Prop} {v1 : Int} {v2 : Int} {v3 : Int} {v4 : Int} {μ : zMu}
    (h : (zR v4) ∧ (zR v3) ∧ ((v3 < v4 → φ μ) ∧ (v4 ≤ v3 → zOv g zm_X11_powers [.ref 203, .int (zJ v1), .int (zJ v4), .int (zJ (μ 203 14))] μ (fun μ3 => at_X11_tellsPowers_87 g φ v1 v2 v3 v4 0 μ3)))) : at_X11_tellsPowers_67 g φ v1 v2 v3 v4 μ := by
  obtain ⟨o1, o2, h⟩ := h
  refine zw_iload (pc := 67) (i := 4) 4 (by decide +kernel) rfl ?_
  refine zw_iload_n (pc := 69) (n := 3) (i := 3) 3 (by decide +kernel) rfl rfl ?_
  refine zw_icmp_gt (pc := 70) (off := 107) (tgt := 177) (by decide +kernel) (by decide) o1 o2 (fun hc => ?_) (fun hc => ?_)
  · replace h := h.1 hc
    exact zw_vret (pc := 177) (by decide +kernel) rfl (Nat.le_refl _) (Nat.le_refl _) ⟨_, rfl, rfl, h⟩
  · replace h := h.2 hc
    refine zw_aload_n (pc := 73) (n := 0) (i := 0) 0 (by decide +kernel) rfl rfl ?_
    refine zw_iload_n (pc := 74) (n := 1) (i := 1) 1 (by decide +kernel) rfl rfl ?_
    refine zw_iload (pc := 75) (i := 4) 4 (by decide +kernel) rfl ?_
    refine zw_aload_n (pc := 77) (n := 0) (i := 0) 0 (by decide +kernel) rfl rfl ?_
    refine zx_getI (pc := 78) zf_11_189 (by decide +kernel) rfl zc_203 ?_
    refine zx_callV (pc := 81) (As := [.int (zJ v1), .int (zJ v4), .int (zJ (μ 203 14))]) h zi_X11_powers zii_X11_powers zie_X11_powers zl_11_183 (by decide +kernel) ⟨Nat.le_of_ble_eq_true rfl, Nat.le_of_ble_eq_true rfl⟩ rfl zc_203 (by decide) rfl rfl ⟨rfl, rfl⟩ ⟨Nat.zero_le _, Nat.zero_le _⟩ (zkv (fun μ3 h => ?_))
    refine zw_iconst (pc := 84) (n := 0) (by decide +kernel) ?_
    refine zw_istore (pc := 85) (i := 5) (lv' := [(0, .ref 203), (1, .int (zJ v1)), (2, .int (zJ v2)), (3, .int (zJ v3)), (4, .int (zJ v4)), (5, .int (zJ 0))]) (by decide +kernel) (Nat.le_of_ble_eq_true rfl) rfl ?_
    exact h
theorem sg_X11_tellsPowers_87 {g : zG} {φ : zMu → Prop} {v1 : Int} {v2 : Int} {v3 : Int} {v4 : Int} {v5 : Int} {μ : zMu}
    (h : (zR v5) ∧ (zR (μ 203 14)) ∧ (((μ 203 14) ≤ v5 → zOv g zm_X11_powers [.ref 203, .int (zJ v2), .int (zJ v4), .int (zJ (μ 203 14))] μ (fun μ3 => at_X11_tellsPowers_136 g φ v1 v2 v3 v4 0 μ3)) ∧ (v5 < (μ 203 14) → (0 ≤ v5 ∧ v5 < 80) ∧ (0 ≤ ((80 * v4) + v5) ∧ ((80 * v4) + v5) < 720) ∧ at_X11_tellsPowers_87 g φ v1 v2 v3 v4 (v5 + 1) (zup μ 212 (Int.toNat ((80 * v4) + v5)) (μ 209 v5.toNat))))) : at_X11_tellsPowers_87 g φ v1 v2 v3 v4 v5 μ := by
  obtain ⟨o1, o2, h⟩ := h
  refine zw_iload (pc := 87) (i := 5) 5 (by decide +kernel) rfl ?_
  refine zw_aload_n (pc := 89) (n := 0) (i := 0) 0 (by decide +kernel) rfl rfl ?_
  refine zx_getI (pc := 90) zf_11_189 (by decide +kernel) rfl zc_203 ?_
  refine zw_icmp_ge (pc := 93) (off := 29) (tgt := 122) (by decide +kernel) (by decide) o1 o2 (fun hc => ?_) (fun hc => ?_)
  · replace h := h.1 hc
    refine zw_aload_n (pc := 122) (n := 0) (i := 0) 0 (by decide +kernel) rfl rfl ?_
    refine zw_iload_n (pc := 123) (n := 2) (i := 2) 2 (by decide +kernel) rfl rfl ?_
    refine zw_iload (pc := 124) (i := 4) 4 (by decide +kernel) rfl ?_
    refine zw_aload_n (pc := 126) (n := 0) (i := 0) 0 (by decide +kernel) rfl rfl ?_
    refine zx_getI (pc := 127) zf_11_189 (by decide +kernel) rfl zc_203 ?_
    refine zx_callV (pc := 130) (As := [.int (zJ v2), .int (zJ v4), .int (zJ (μ 203 14))]) h zi_X11_powers zii_X11_powers zie_X11_powers zl_11_183 (by decide +kernel) ⟨Nat.le_of_ble_eq_true rfl, Nat.le_of_ble_eq_true rfl⟩ rfl zc_203 (by decide) rfl rfl ⟨rfl, rfl⟩ ⟨Nat.zero_le _, Nat.zero_le _⟩ (zkv (fun μ3 h => ?_))
    refine zw_iconst (pc := 133) (n := 0) (by decide +kernel) ?_
    refine zw_istore (pc := 134) (i := 5) (lv' := [(0, .ref 203), (1, .int (zJ v1)), (2, .int (zJ v2)), (3, .int (zJ v3)), (4, .int (zJ v4)), (5, .int (zJ 0))]) (by decide +kernel) (Nat.le_of_ble_eq_true rfl) rfl ?_
    exact h
  · replace h := h.2 hc
    obtain ⟨o4, o5, h⟩ := h
    refine zw_aload_n (pc := 96) (n := 0) (i := 0) 0 (by decide +kernel) rfl rfl ?_
    refine zx_getR (pc := 97) (o := 9) (r := 212) zf_11_40 (by decide +kernel) rfl zc_203 rfl (by decide) rfl ?_
    refine zw_bipush (pc := 100) (n := 80) (by decide +kernel) (by decide +kernel) ?_
    refine zw_iload (pc := 102) (i := 4) 4 (by decide +kernel) rfl ?_
    refine zw_imul (pc := 104) (by decide +kernel) ?_
    refine zw_iload (pc := 105) (i := 5) 5 (by decide +kernel) rfl ?_
    refine zw_iadd (pc := 107) (by decide +kernel) ?_
    refine zw_aload_n (pc := 108) (n := 0) (i := 0) 0 (by decide +kernel) rfl rfl ?_
    refine zx_getR (pc := 109) (o := 6) (r := 209) zf_11_31 (by decide +kernel) rfl zc_203 rfl (by decide) rfl ?_
    refine zw_iload (pc := 112) (i := 5) 5 (by decide +kernel) rfl ?_
    refine zx_iaload (pc := 114) (by decide +kernel) ⟨80, zc_209, o4.1, o4.2⟩ ?_
    refine zx_iastore (pc := 115) (by decide +kernel) ⟨720, zc_212, o5.1, o5.2⟩ ?_
    refine zw_iinc (pc := 116) (i := 5) (n := 1) (lv' := [(0, .ref 203), (1, .int (zJ v1)), (2, .int (zJ v2)), (3, .int (zJ v3)), (4, .int (zJ v4)), (5, .int (zJ (v5 + 1)))]) 5 (by decide +kernel) rfl rfl (Nat.le_of_ble_eq_true rfl) rfl ?_
    refine zw_goto (pc := 119) (off := (-32)) (tgt := 87) (by decide +kernel) (by decide) ?_
    exact h
theorem sg_X11_tellsPowers_136 {g : zG} {φ : zMu → Prop} {v1 : Int} {v2 : Int} {v3 : Int} {v4 : Int} {v5 : Int} {μ : zMu}
    (h : (zR v5) ∧ (zR (μ 203 14)) ∧ (((μ 203 14) ≤ v5 → at_X11_tellsPowers_67 g φ v1 v2 v3 (v4 + 1) μ) ∧ (v5 < (μ 203 14) → (0 ≤ v5 ∧ v5 < 80) ∧ (0 ≤ ((80 * v4) + v5) ∧ ((80 * v4) + v5) < 720) ∧ at_X11_tellsPowers_136 g φ v1 v2 v3 v4 (v5 + 1) (zup μ 213 (Int.toNat ((80 * v4) + v5)) (μ 209 v5.toNat))))) : at_X11_tellsPowers_136 g φ v1 v2 v3 v4 v5 μ := by
  obtain ⟨o1, o2, h⟩ := h
  refine zw_iload (pc := 136) (i := 5) 5 (by decide +kernel) rfl ?_
  refine zw_aload_n (pc := 138) (n := 0) (i := 0) 0 (by decide +kernel) rfl rfl ?_
  refine zx_getI (pc := 139) zf_11_189 (by decide +kernel) rfl zc_203 ?_
  refine zw_icmp_ge (pc := 142) (off := 29) (tgt := 171) (by decide +kernel) (by decide) o1 o2 (fun hc => ?_) (fun hc => ?_)
  · replace h := h.1 hc
    refine zw_iinc (pc := 171) (i := 4) (n := 1) (lv' := [(0, .ref 203), (1, .int (zJ v1)), (2, .int (zJ v2)), (3, .int (zJ v3)), (4, .int (zJ (v4 + 1))), (5, .int (zJ v5))]) 4 (by decide +kernel) rfl rfl (Nat.le_of_ble_eq_true rfl) rfl ?_
    refine zw_goto (pc := 174) (off := (-107)) (tgt := 67) (by decide +kernel) (by decide) ?_
    exact zw_pick (lv' := [(0, .ref 203), (1, .int (zJ v1)), (2, .int (zJ v2)), (3, .int (zJ v3)), (4, .int (zJ (v4 + 1)))]) [0, 1, 2, 3, 4] rfl h
  · replace h := h.2 hc
    obtain ⟨o3, o4, h⟩ := h
    refine zw_aload_n (pc := 145) (n := 0) (i := 0) 0 (by decide +kernel) rfl rfl ?_
    refine zx_getR (pc := 146) (o := 10) (r := 213) zf_11_43 (by decide +kernel) rfl zc_203 rfl (by decide) rfl ?_
    refine zw_bipush (pc := 149) (n := 80) (by decide +kernel) (by decide +kernel) ?_
    refine zw_iload (pc := 151) (i := 4) 4 (by decide +kernel) rfl ?_
    refine zw_imul (pc := 153) (by decide +kernel) ?_
    refine zw_iload (pc := 154) (i := 5) 5 (by decide +kernel) rfl ?_
    refine zw_iadd (pc := 156) (by decide +kernel) ?_
    refine zw_aload_n (pc := 157) (n := 0) (i := 0) 0 (by decide +kernel) rfl rfl ?_
    refine zx_getR (pc := 158) (o := 6) (r := 209) zf_11_31 (by decide +kernel) rfl zc_203 rfl (by decide) rfl ?_
    refine zw_iload (pc := 161) (i := 5) 5 (by decide +kernel) rfl ?_
    refine zx_iaload (pc := 163) (by decide +kernel) ⟨80, zc_209, o3.1, o3.2⟩ ?_
    refine zx_iastore (pc := 164) (by decide +kernel) ⟨720, zc_213, o4.1, o4.2⟩ ?_
    refine zw_iinc (pc := 165) (i := 5) (n := 1) (lv' := [(0, .ref 203), (1, .int (zJ v1)), (2, .int (zJ v2)), (3, .int (zJ v3)), (4, .int (zJ v4)), (5, .int (zJ (v5 + 1)))]) 5 (by decide +kernel) rfl rfl (Nat.le_of_ble_eq_true rfl) rfl ?_
    refine zw_goto (pc := 168) (off := (-32)) (tgt := 136) (by decide +kernel) (by decide) ?_
    exact h
abbrev at_X11_tries_7 (g : zG) (φ : zMu → Prop) (v1 : Int) (v2 : Int) (v3 : Int) (v4 : Int) (v5 : Int) (μ : zMu) : Prop := zWP g zm_X11_tries (zmo g zm_X11_tries (zΦv φ)) 7 [(0, .ref 203), (1, .int (zJ v1)), (2, .int (zJ v2)), (3, .int (zJ v3)), (4, .int (zJ v4)), (5, .int (zJ v5))] [] 0 0 (zw μ)
abbrev at_X11_tries_96 (g : zG) (φ : zMu → Prop) (v5 : Int) (μ : zMu) : Prop := zWP g zm_X11_tries (zmo g zm_X11_tries (zΦv φ)) 96 [(0, .ref 203), (5, .int (zJ v5))] [] 0 0 (zw μ)
theorem sg_X11_tries {g : zG} {φ : zMu → Prop} {v1 : Int} {v2 : Int} {v3 : Int} {v4 : Int} {μ : zMu}
    (h : zOv g zm_X11_emptiesColumn [.ref 203] μ (fun μ1 => at_X11_tries_7 g φ v1 v2 v3 v4 0 μ1)) : zOv g zm_X11_tries [.ref 203, .int (zJ v1), .int (zJ v2), .int (zJ v3), .int (zJ v4)] μ φ := by
  refine zok_of (by decide +kernel) rfl ?_
  show zWP g zm_X11_tries (zmo g zm_X11_tries (zΦv φ)) 0 [(0, .ref 203), (1, .int (zJ v1)), (2, .int (zJ v2)), (3, .int (zJ v3)), (4, .int (zJ v4))] [] 0 0 (zw μ)
  refine zw_aload_n (pc := 0) (n := 0) (i := 0) 0 (by decide +kernel) rfl rfl ?_
  refine zx_callV (pc := 1) (As := []) h zi_X11_emptiesColumn zii_X11_emptiesColumn zie_X11_emptiesColumn zl_11_212 (by decide +kernel) ⟨Nat.le_of_ble_eq_true rfl, Nat.le_of_ble_eq_true rfl⟩ rfl zc_203 (by decide) rfl rfl ⟨rfl, rfl⟩ ⟨Nat.zero_le _, Nat.zero_le _⟩ (zkv (fun μ1 h => ?_))
  refine zw_iconst (pc := 4) (n := 0) (by decide +kernel) ?_
  refine zw_istore (pc := 5) (i := 5) (lv' := [(0, .ref 203), (1, .int (zJ v1)), (2, .int (zJ v2)), (3, .int (zJ v3)), (4, .int (zJ v4)), (5, .int (zJ 0))]) (by decide +kernel) (Nat.le_of_ble_eq_true rfl) rfl ?_
  exact h
theorem sg_X11_tries_7 {g : zG} {φ : zMu → Prop} {v1 : Int} {v2 : Int} {v3 : Int} {v4 : Int} {v5 : Int} {μ : zMu}
    (h : (zR v5) ∧ ((81 ≤ v5 → zOv g zm_X11_adds [.ref 203, .int (zJ v2), .int (zJ v3), .int (zJ 1)] μ (fun μ2 => zOi g zm_X11_place [.int (zJ v1), .int (zJ v2), .int (zJ v3)] μ2 (fun x4 μ3 => (0 ≤ x4 ∧ x4 < 81) ∧ (zR v4) ∧ ((v4 = 0 → zOi g zm_X11_comes [.ref 203] (zup μ3 218 x4.toNat 1) (fun x8 μ7 => (zR x8) ∧ ((¬ x8 = 0 → φ μ7) ∧ (x8 = 0 → at_X11_tries_96 g φ 0 (zup μ7 203 24 ((μ7 203 24) + 1)))))) ∧ (¬ v4 = 0 → (zR v2) ∧ (zR v3) ∧ ((v2 = v3 → zOi g zm_X11_comes [.ref 203] (zup μ3 218 x4.toNat 1) (fun x13 μ12 => (zR x13) ∧ ((¬ x13 = 0 → φ μ12) ∧ (x13 = 0 → at_X11_tries_96 g φ 0 (zup μ12 203 24 ((μ12 203 24) + 1)))))) ∧ (¬ v2 = v3 → zOv g zm_X11_adds [.ref 203, .int (zJ v3), .int (zJ v2), .int (zJ 1)] (zup μ3 218 x4.toNat 1) (fun μ15 => zOi g zm_X11_place [.int (zJ v1), .int (zJ v3), .int (zJ v2)] μ15 (fun x17 μ16 => (0 ≤ x17 ∧ x17 < 81) ∧ zOi g zm_X11_comes [.ref 203] (zup μ16 218 x17.toNat 1) (fun x20 μ19 => (zR x20) ∧ ((¬ x20 = 0 → φ μ19) ∧ (x20 = 0 → at_X11_tries_96 g φ 0 (zup μ19 203 24 ((μ19 203 24) + 1)))))))))))))) ∧ (v5 < 81 → (0 ≤ v5 ∧ v5 < 81) ∧ at_X11_tries_7 g φ v1 v2 v3 v4 (v5 + 1) (zup μ 218 v5.toNat 0)))) : at_X11_tries_7 g φ v1 v2 v3 v4 v5 μ := by
  obtain ⟨o1, h⟩ := h
  refine zw_iload (pc := 7) (i := 5) 5 (by decide +kernel) rfl ?_
  refine zw_bipush (pc := 9) (n := 81) (by decide +kernel) (by decide +kernel) ?_
  refine zw_icmp_ge (pc := 11) (off := 17) (tgt := 28) (by decide +kernel) (by decide) o1 ⟨by decide, by decide⟩ (fun hc => ?_) (fun hc => ?_)
  · replace h := h.1 hc
    refine zw_aload_n (pc := 28) (n := 0) (i := 0) 0 (by decide +kernel) rfl rfl ?_
    refine zw_iload_n (pc := 29) (n := 2) (i := 2) 2 (by decide +kernel) rfl rfl ?_
    refine zw_iload_n (pc := 30) (n := 3) (i := 3) 3 (by decide +kernel) rfl rfl ?_
    refine zw_iconst (pc := 31) (n := 1) (by decide +kernel) ?_
    refine zx_callV (pc := 32) (As := [.int (zJ v2), .int (zJ v3), .int (zJ 1)]) h zi_X11_adds zii_X11_adds zie_X11_adds zl_11_215 (by decide +kernel) ⟨Nat.le_of_ble_eq_true rfl, Nat.le_of_ble_eq_true rfl⟩ rfl zc_203 (by decide) rfl rfl ⟨rfl, rfl⟩ ⟨Nat.zero_le _, Nat.zero_le _⟩ (zkv (fun μ2 h => ?_))
    refine zw_aload_n (pc := 35) (n := 0) (i := 0) 0 (by decide +kernel) rfl rfl ?_
    refine zx_getR (pc := 36) (o := 15) (r := 218) zf_11_58 (by decide +kernel) rfl zc_203 rfl (by decide) rfl ?_
    refine zw_iload_n (pc := 39) (n := 1) (i := 1) 1 (by decide +kernel) rfl rfl ?_
    refine zw_iload_n (pc := 40) (n := 2) (i := 2) 2 (by decide +kernel) rfl rfl ?_
    refine zw_iload_n (pc := 41) (n := 3) (i := 3) 3 (by decide +kernel) rfl rfl ?_
    refine zx_callS (pc := 42) (As := [.int (zJ v1), .int (zJ v2), .int (zJ v3)]) h zi_X11_place zis_X11_place zl_11_218 (by decide +kernel) ⟨Nat.le_of_ble_eq_true rfl, Nat.le_of_ble_eq_true rfl⟩ rfl rfl ⟨rfl, rfl⟩ ⟨Nat.zero_le _, Nat.zero_le _⟩ (zki (fun x4 μ3 h => ?_))
    obtain ⟨o5, o6, h⟩ := h
    refine zw_iconst (pc := 45) (n := 1) (by decide +kernel) ?_
    refine zx_iastore (pc := 46) (by decide +kernel) ⟨81, zc_218, o5.1, o5.2⟩ ?_
    refine zw_iload (pc := 47) (i := 4) 4 (by decide +kernel) rfl ?_
    refine zw_if_eq (pc := 49) (off := 27) (tgt := 76) (by decide +kernel) (by decide) o6 (fun hc => ?_) (fun hc => ?_)
    · replace h := h.1 hc
      refine zw_aload_n (pc := 76) (n := 0) (i := 0) 0 (by decide +kernel) rfl rfl ?_
      refine zx_callV (pc := 77) (As := []) h zi_X11_comes zii_X11_comes zie_X11_comes zl_11_222 (by decide +kernel) ⟨Nat.le_of_ble_eq_true rfl, Nat.le_of_ble_eq_true rfl⟩ rfl zc_203 (by decide) rfl rfl ⟨rfl, rfl⟩ ⟨Nat.zero_le _, Nat.zero_le _⟩ (zki (fun x8 μ7 h => ?_))
      obtain ⟨o9, h⟩ := h
      refine zw_if_ne (pc := 80) (off := 51) (tgt := 131) (by decide +kernel) (by decide) o9 (fun hc => ?_) (fun hc => ?_)
      · replace h := h.1 hc
        exact zw_vret (pc := 131) (by decide +kernel) rfl (Nat.le_refl _) (Nat.le_refl _) ⟨_, rfl, rfl, h⟩
      · replace h := h.2 hc
        refine zw_aload_n (pc := 83) (n := 0) (i := 0) 0 (by decide +kernel) rfl rfl ?_
        refine zw_dup (pc := 84) (by decide +kernel) rfl ?_
        refine zx_getI (pc := 85) zf_11_226 (by decide +kernel) rfl zc_203 ?_
        refine zw_iconst (pc := 88) (n := 1) (by decide +kernel) ?_
        refine zw_iadd (pc := 89) (by decide +kernel) ?_
        refine zx_putI (pc := 90) zf_11_226 (by decide +kernel) rfl zc_203 ?_
        refine zw_iconst (pc := 93) (n := 0) (by decide +kernel) ?_
        refine zw_istore (pc := 94) (i := 5) (lv' := [(0, .ref 203), (1, .int (zJ v1)), (2, .int (zJ v2)), (3, .int (zJ v3)), (4, .int (zJ v4)), (5, .int (zJ 0))]) (by decide +kernel) (Nat.le_of_ble_eq_true rfl) rfl ?_
        exact zw_pick (lv' := [(0, .ref 203), (5, .int (zJ 0))]) [0, 5] rfl h
    · replace h := h.2 hc
      obtain ⟨o10, o11, h⟩ := h
      refine zw_iload_n (pc := 52) (n := 2) (i := 2) 2 (by decide +kernel) rfl rfl ?_
      refine zw_iload_n (pc := 53) (n := 3) (i := 3) 3 (by decide +kernel) rfl rfl ?_
      refine zw_icmp_eq (pc := 54) (off := 22) (tgt := 76) (by decide +kernel) (by decide) o10 o11 (fun hc => ?_) (fun hc => ?_)
      · replace h := h.1 hc
        refine zw_aload_n (pc := 76) (n := 0) (i := 0) 0 (by decide +kernel) rfl rfl ?_
        refine zx_callV (pc := 77) (As := []) h zi_X11_comes zii_X11_comes zie_X11_comes zl_11_222 (by decide +kernel) ⟨Nat.le_of_ble_eq_true rfl, Nat.le_of_ble_eq_true rfl⟩ rfl zc_203 (by decide) rfl rfl ⟨rfl, rfl⟩ ⟨Nat.zero_le _, Nat.zero_le _⟩ (zki (fun x13 μ12 h => ?_))
        obtain ⟨o14, h⟩ := h
        refine zw_if_ne (pc := 80) (off := 51) (tgt := 131) (by decide +kernel) (by decide) o14 (fun hc => ?_) (fun hc => ?_)
        · replace h := h.1 hc
          exact zw_vret (pc := 131) (by decide +kernel) rfl (Nat.le_refl _) (Nat.le_refl _) ⟨_, rfl, rfl, h⟩
        · replace h := h.2 hc
          refine zw_aload_n (pc := 83) (n := 0) (i := 0) 0 (by decide +kernel) rfl rfl ?_
          refine zw_dup (pc := 84) (by decide +kernel) rfl ?_
          refine zx_getI (pc := 85) zf_11_226 (by decide +kernel) rfl zc_203 ?_
          refine zw_iconst (pc := 88) (n := 1) (by decide +kernel) ?_
          refine zw_iadd (pc := 89) (by decide +kernel) ?_
          refine zx_putI (pc := 90) zf_11_226 (by decide +kernel) rfl zc_203 ?_
          refine zw_iconst (pc := 93) (n := 0) (by decide +kernel) ?_
          refine zw_istore (pc := 94) (i := 5) (lv' := [(0, .ref 203), (1, .int (zJ v1)), (2, .int (zJ v2)), (3, .int (zJ v3)), (4, .int (zJ v4)), (5, .int (zJ 0))]) (by decide +kernel) (Nat.le_of_ble_eq_true rfl) rfl ?_
          exact zw_pick (lv' := [(0, .ref 203), (5, .int (zJ 0))]) [0, 5] rfl h
      · replace h := h.2 hc
        refine zw_aload_n (pc := 57) (n := 0) (i := 0) 0 (by decide +kernel) rfl rfl ?_
        refine zw_iload_n (pc := 58) (n := 3) (i := 3) 3 (by decide +kernel) rfl rfl ?_
        refine zw_iload_n (pc := 59) (n := 2) (i := 2) 2 (by decide +kernel) rfl rfl ?_
        refine zw_iconst (pc := 60) (n := 1) (by decide +kernel) ?_
        refine zx_callV (pc := 61) (As := [.int (zJ v3), .int (zJ v2), .int (zJ 1)]) h zi_X11_adds zii_X11_adds zie_X11_adds zl_11_215 (by decide +kernel) ⟨Nat.le_of_ble_eq_true rfl, Nat.le_of_ble_eq_true rfl⟩ rfl zc_203 (by decide) rfl rfl ⟨rfl, rfl⟩ ⟨Nat.zero_le _, Nat.zero_le _⟩ (zkv (fun μ15 h => ?_))
        refine zw_aload_n (pc := 64) (n := 0) (i := 0) 0 (by decide +kernel) rfl rfl ?_
        refine zx_getR (pc := 65) (o := 15) (r := 218) zf_11_58 (by decide +kernel) rfl zc_203 rfl (by decide) rfl ?_
        refine zw_iload_n (pc := 68) (n := 1) (i := 1) 1 (by decide +kernel) rfl rfl ?_
        refine zw_iload_n (pc := 69) (n := 3) (i := 3) 3 (by decide +kernel) rfl rfl ?_
        refine zw_iload_n (pc := 70) (n := 2) (i := 2) 2 (by decide +kernel) rfl rfl ?_
        refine zx_callS (pc := 71) (As := [.int (zJ v1), .int (zJ v3), .int (zJ v2)]) h zi_X11_place zis_X11_place zl_11_218 (by decide +kernel) ⟨Nat.le_of_ble_eq_true rfl, Nat.le_of_ble_eq_true rfl⟩ rfl rfl ⟨rfl, rfl⟩ ⟨Nat.zero_le _, Nat.zero_le _⟩ (zki (fun x17 μ16 h => ?_))
        obtain ⟨o18, h⟩ := h
        refine zw_iconst (pc := 74) (n := 1) (by decide +kernel) ?_
        refine zx_iastore (pc := 75) (by decide +kernel) ⟨81, zc_218, o18.1, o18.2⟩ ?_
        refine zw_aload_n (pc := 76) (n := 0) (i := 0) 0 (by decide +kernel) rfl rfl ?_
        refine zx_callV (pc := 77) (As := []) h zi_X11_comes zii_X11_comes zie_X11_comes zl_11_222 (by decide +kernel) ⟨Nat.le_of_ble_eq_true rfl, Nat.le_of_ble_eq_true rfl⟩ rfl zc_203 (by decide) rfl rfl ⟨rfl, rfl⟩ ⟨Nat.zero_le _, Nat.zero_le _⟩ (zki (fun x20 μ19 h => ?_))
        obtain ⟨o21, h⟩ := h
        refine zw_if_ne (pc := 80) (off := 51) (tgt := 131) (by decide +kernel) (by decide) o21 (fun hc => ?_) (fun hc => ?_)
        · replace h := h.1 hc
          exact zw_vret (pc := 131) (by decide +kernel) rfl (Nat.le_refl _) (Nat.le_refl _) ⟨_, rfl, rfl, h⟩
        · replace h := h.2 hc
          refine zw_aload_n (pc := 83) (n := 0) (i := 0) 0 (by decide +kernel) rfl rfl ?_
          refine zw_dup (pc := 84) (by decide +kernel) rfl ?_
          refine zx_getI (pc := 85) zf_11_226 (by decide +kernel) rfl zc_203 ?_
          refine zw_iconst (pc := 88) (n := 1) (by decide +kernel) ?_
          refine zw_iadd (pc := 89) (by decide +kernel) ?_
          refine zx_putI (pc := 90) zf_11_226 (by decide +kernel) rfl zc_203 ?_
          refine zw_iconst (pc := 93) (n := 0) (by decide +kernel) ?_
          refine zw_istore (pc := 94) (i := 5) (lv' := [(0, .ref 203), (1, .int (zJ v1)), (2, .int (zJ v2)), (3, .int (zJ v3)), (4, .int (zJ v4)), (5, .int (zJ 0))]) (by decide +kernel) (Nat.le_of_ble_eq_true rfl) rfl ?_
          exact zw_pick (lv' := [(0, .ref 203), (5, .int (zJ 0))]) [0, 5] rfl h
  · replace h := h.2 hc
    obtain ⟨o22, h⟩ := h
    refine zw_aload_n (pc := 14) (n := 0) (i := 0) 0 (by decide +kernel) rfl rfl ?_
    refine zx_getR (pc := 15) (o := 15) (r := 218) zf_11_58 (by decide +kernel) rfl zc_203 rfl (by decide) rfl ?_
    refine zw_iload (pc := 18) (i := 5) 5 (by decide +kernel) rfl ?_
    refine zw_iconst (pc := 20) (n := 0) (by decide +kernel) ?_
    refine zx_iastore (pc := 21) (by decide +kernel) ⟨81, zc_218, o22.1, o22.2⟩ ?_
    refine zw_iinc (pc := 22) (i := 5) (n := 1) (lv' := [(0, .ref 203), (1, .int (zJ v1)), (2, .int (zJ v2)), (3, .int (zJ v3)), (4, .int (zJ v4)), (5, .int (zJ (v5 + 1)))]) 5 (by decide +kernel) rfl rfl (Nat.le_of_ble_eq_true rfl) rfl ?_
    refine zw_goto (pc := 25) (off := (-18)) (tgt := 7) (by decide +kernel) (by decide) ?_
    exact h
theorem sg_X11_tries_96 {g : zG} {φ : zMu → Prop} {v5 : Int} {μ : zMu}
    (h : (zR v5) ∧ ((81 ≤ v5 → φ μ) ∧ (v5 < 81 → (zR (μ 203 24)) ∧ ((¬ (μ 203 24) = 1 → φ μ) ∧ ((μ 203 24) = 1 → (0 ≤ v5 ∧ v5 < 81) ∧ at_X11_tries_96 g φ (v5 + 1) (zup μ 219 v5.toNat (μ 218 v5.toNat))))))) : at_X11_tries_96 g φ v5 μ := by
  obtain ⟨o1, h⟩ := h
  refine zw_iload (pc := 96) (i := 5) 1 (by decide +kernel) rfl ?_
  refine zw_bipush (pc := 98) (n := 81) (by decide +kernel) (by decide +kernel) ?_
  refine zw_icmp_ge (pc := 100) (off := 31) (tgt := 131) (by decide +kernel) (by decide) o1 ⟨by decide, by decide⟩ (fun hc => ?_) (fun hc => ?_)
  · replace h := h.1 hc
    exact zw_vret (pc := 131) (by decide +kernel) rfl (Nat.le_refl _) (Nat.le_refl _) ⟨_, rfl, rfl, h⟩
  · replace h := h.2 hc
    obtain ⟨o2, h⟩ := h
    refine zw_aload_n (pc := 103) (n := 0) (i := 0) 0 (by decide +kernel) rfl rfl ?_
    refine zx_getI (pc := 104) zf_11_226 (by decide +kernel) rfl zc_203 ?_
    refine zw_iconst (pc := 107) (n := 1) (by decide +kernel) ?_
    refine zw_icmp_ne (pc := 108) (off := 23) (tgt := 131) (by decide +kernel) (by decide) o2 ⟨by decide, by decide⟩ (fun hc => ?_) (fun hc => ?_)
    · replace h := h.1 hc
      exact zw_vret (pc := 131) (by decide +kernel) rfl (Nat.le_refl _) (Nat.le_refl _) ⟨_, rfl, rfl, h⟩
    · replace h := h.2 hc
      obtain ⟨o3, h⟩ := h
      refine zw_aload_n (pc := 111) (n := 0) (i := 0) 0 (by decide +kernel) rfl rfl ?_
      refine zx_getR (pc := 112) (o := 16) (r := 219) zf_11_61 (by decide +kernel) rfl zc_203 rfl (by decide) rfl ?_
      refine zw_iload (pc := 115) (i := 5) 1 (by decide +kernel) rfl ?_
      refine zw_aload_n (pc := 117) (n := 0) (i := 0) 0 (by decide +kernel) rfl rfl ?_
      refine zx_getR (pc := 118) (o := 15) (r := 218) zf_11_58 (by decide +kernel) rfl zc_203 rfl (by decide) rfl ?_
      refine zw_iload (pc := 121) (i := 5) 1 (by decide +kernel) rfl ?_
      refine zx_iaload (pc := 123) (by decide +kernel) ⟨81, zc_218, o3.1, o3.2⟩ ?_
      refine zx_iastore (pc := 124) (by decide +kernel) ⟨81, zc_219, o3.1, o3.2⟩ ?_
      refine zw_iinc (pc := 125) (i := 5) (n := 1) (lv' := [(0, .ref 203), (5, .int (zJ (v5 + 1)))]) 1 (by decide +kernel) rfl rfl (Nat.le_of_ble_eq_true rfl) rfl ?_
      refine zw_goto (pc := 128) (off := (-32)) (tgt := 96) (by decide +kernel) (by decide) ?_
      exact h
abbrev at_X11_emptiesColumn_2 (g : zG) (φ : zMu → Prop) (v1 : Int) (μ : zMu) : Prop := zWP g zm_X11_emptiesColumn (zmo g zm_X11_emptiesColumn (zΦv φ)) 2 [(0, .ref 203), (1, .int (zJ v1))] [] 0 0 (zw μ)
theorem sg_X11_emptiesColumn {g : zG} {φ : zMu → Prop} {μ : zMu}
    (h : at_X11_emptiesColumn_2 g φ 0 μ) : zOv g zm_X11_emptiesColumn [.ref 203] μ φ := by
  refine zok_of (by decide +kernel) rfl ?_
  show zWP g zm_X11_emptiesColumn (zmo g zm_X11_emptiesColumn (zΦv φ)) 0 [(0, .ref 203)] [] 0 0 (zw μ)
  refine zw_iconst (pc := 0) (n := 0) (by decide +kernel) ?_
  refine zw_istore_n (pc := 1) (n := 1) (i := 1) (lv' := [(0, .ref 203), (1, .int (zJ 0))]) (by decide +kernel) rfl (Nat.le_of_ble_eq_true rfl) rfl ?_
  exact h
theorem sg_X11_emptiesColumn_2 {g : zG} {φ : zMu → Prop} {v1 : Int} {μ : zMu}
    (h : (zR v1) ∧ ((80 ≤ v1 → φ μ) ∧ (v1 < 80 → (0 ≤ v1 ∧ v1 < 80) ∧ at_X11_emptiesColumn_2 g φ (v1 + 1) (zup μ 214 v1.toNat 0)))) : at_X11_emptiesColumn_2 g φ v1 μ := by
  obtain ⟨o1, h⟩ := h
  refine zw_iload_n (pc := 2) (n := 1) (i := 1) 1 (by decide +kernel) rfl rfl ?_
  refine zw_bipush (pc := 3) (n := 80) (by decide +kernel) (by decide +kernel) ?_
  refine zw_icmp_ge (pc := 5) (off := 16) (tgt := 21) (by decide +kernel) (by decide) o1 ⟨by decide, by decide⟩ (fun hc => ?_) (fun hc => ?_)
  · replace h := h.1 hc
    exact zw_vret (pc := 21) (by decide +kernel) rfl (Nat.le_refl _) (Nat.le_refl _) ⟨_, rfl, rfl, h⟩
  · replace h := h.2 hc
    obtain ⟨o2, h⟩ := h
    refine zw_aload_n (pc := 8) (n := 0) (i := 0) 0 (by decide +kernel) rfl rfl ?_
    refine zx_getR (pc := 9) (o := 11) (r := 214) zf_11_46 (by decide +kernel) rfl zc_203 rfl (by decide) rfl ?_
    refine zw_iload_n (pc := 12) (n := 1) (i := 1) 1 (by decide +kernel) rfl rfl ?_
    refine zw_iconst (pc := 13) (n := 0) (by decide +kernel) ?_
    refine zx_iastore (pc := 14) (by decide +kernel) ⟨80, zc_214, o2.1, o2.2⟩ ?_
    refine zw_iinc (pc := 15) (i := 1) (n := 1) (lv' := [(0, .ref 203), (1, .int (zJ (v1 + 1)))]) 1 (by decide +kernel) rfl rfl (Nat.le_of_ble_eq_true rfl) rfl ?_
    refine zw_goto (pc := 18) (off := (-16)) (tgt := 2) (by decide +kernel) (by decide) ?_
    exact h
abbrev at_X11_adds_24 (g : zG) (φ : zMu → Prop) (v1 : Int) (v2 : Int) (v3 : Int) (v4 : Int) (v5 : Int) (μ : zMu) : Prop := zWP g zm_X11_adds (zmo g zm_X11_adds (zΦv φ)) 24 [(0, .ref 203), (1, .int (zJ v1)), (2, .int (zJ v2)), (3, .int (zJ v3)), (4, .int (zJ v4)), (5, .int (zJ v5))] [] 0 0 (zw μ)
abbrev at_X11_adds_39 (g : zG) (φ : zMu → Prop) (v1 : Int) (v2 : Int) (v3 : Int) (v4 : Int) (v5 : Int) (v6 : Int) (v7 : Int) (μ : zMu) : Prop := zWP g zm_X11_adds (zmo g zm_X11_adds (zΦv φ)) 39 [(0, .ref 203), (1, .int (zJ v1)), (2, .int (zJ v2)), (3, .int (zJ v3)), (4, .int (zJ v4)), (5, .int (zJ v5)), (6, .int (zJ v6)), (7, .int (zJ v7))] [] 0 0 (zw μ)
theorem sg_X11_adds {g : zG} {φ : zMu → Prop} {v1 : Int} {v2 : Int} {v3 : Int} {μ : zMu}
    (h : at_X11_adds_24 g φ v1 v2 v3 (((v1 * (μ 203 16)) + (v2 * (μ 203 17))) - (μ 203 15)) (((v1 * (μ 203 16)) + (v2 * (μ 203 17))) - (μ 203 15)) μ) : zOv g zm_X11_adds [.ref 203, .int (zJ v1), .int (zJ v2), .int (zJ v3)] μ φ := by
  refine zok_of (by decide +kernel) rfl ?_
  show zWP g zm_X11_adds (zmo g zm_X11_adds (zΦv φ)) 0 [(0, .ref 203), (1, .int (zJ v1)), (2, .int (zJ v2)), (3, .int (zJ v3))] [] 0 0 (zw μ)
  refine zw_iload_n (pc := 0) (n := 1) (i := 1) 1 (by decide +kernel) rfl rfl ?_
  refine zw_aload_n (pc := 1) (n := 0) (i := 0) 0 (by decide +kernel) rfl rfl ?_
  refine zx_getI (pc := 2) zf_11_192 (by decide +kernel) rfl zc_203 ?_
  refine zw_imul (pc := 5) (by decide +kernel) ?_
  refine zw_iload_n (pc := 6) (n := 2) (i := 2) 2 (by decide +kernel) rfl rfl ?_
  refine zw_aload_n (pc := 7) (n := 0) (i := 0) 0 (by decide +kernel) rfl rfl ?_
  refine zx_getI (pc := 8) zf_11_195 (by decide +kernel) rfl zc_203 ?_
  refine zw_imul (pc := 11) (by decide +kernel) ?_
  refine zw_iadd (pc := 12) (by decide +kernel) ?_
  refine zw_aload_n (pc := 13) (n := 0) (i := 0) 0 (by decide +kernel) rfl rfl ?_
  refine zx_getI (pc := 14) zf_11_198 (by decide +kernel) rfl zc_203 ?_
  refine zw_isub (pc := 17) (by decide +kernel) ?_
  refine zw_istore (pc := 18) (i := 4) (lv' := [(0, .ref 203), (1, .int (zJ v1)), (2, .int (zJ v2)), (3, .int (zJ v3)), (4, .int (zJ (((v1 * (μ 203 16)) + (v2 * (μ 203 17))) - (μ 203 15))))]) (by decide +kernel) (Nat.le_of_ble_eq_true rfl) rfl ?_
  refine zw_iload (pc := 20) (i := 4) 4 (by decide +kernel) rfl ?_
  refine zw_istore (pc := 22) (i := 5) (lv' := [(0, .ref 203), (1, .int (zJ v1)), (2, .int (zJ v2)), (3, .int (zJ v3)), (4, .int (zJ (((v1 * (μ 203 16)) + (v2 * (μ 203 17))) - (μ 203 15)))), (5, .int (zJ (((v1 * (μ 203 16)) + (v2 * (μ 203 17))) - (μ 203 15))))]) (by decide +kernel) (Nat.le_of_ble_eq_true rfl) rfl ?_
  exact h
theorem sg_X11_adds_24 {g : zG} {φ : zMu → Prop} {v1 : Int} {v2 : Int} {v3 : Int} {v4 : Int} {v5 : Int} {μ : zMu}
    (h : (zR v5) ∧ (zR (μ 203 14)) ∧ (((μ 203 14) ≤ v5 → φ μ) ∧ (v5 < (μ 203 14) → at_X11_adds_39 g φ v1 v2 v3 v4 v5 0 0 μ))) : at_X11_adds_24 g φ v1 v2 v3 v4 v5 μ := by
  obtain ⟨o1, o2, h⟩ := h
  refine zw_iload (pc := 24) (i := 5) 5 (by decide +kernel) rfl ?_
  refine zw_aload_n (pc := 26) (n := 0) (i := 0) 0 (by decide +kernel) rfl rfl ?_
  refine zx_getI (pc := 27) zf_11_189 (by decide +kernel) rfl zc_203 ?_
  refine zw_icmp_ge (pc := 30) (off := 96) (tgt := 126) (by decide +kernel) (by decide) o1 o2 (fun hc => ?_) (fun hc => ?_)
  · replace h := h.1 hc
    exact zw_vret (pc := 126) (by decide +kernel) rfl (Nat.le_refl _) (Nat.le_refl _) ⟨_, rfl, rfl, h⟩
  · replace h := h.2 hc
    refine zw_iconst (pc := 33) (n := 0) (by decide +kernel) ?_
    refine zw_istore (pc := 34) (i := 6) (lv' := [(0, .ref 203), (1, .int (zJ v1)), (2, .int (zJ v2)), (3, .int (zJ v3)), (4, .int (zJ v4)), (5, .int (zJ v5)), (6, .int (zJ 0))]) (by decide +kernel) (Nat.le_of_ble_eq_true rfl) rfl ?_
    refine zw_iconst (pc := 36) (n := 0) (by decide +kernel) ?_
    refine zw_istore (pc := 37) (i := 7) (lv' := [(0, .ref 203), (1, .int (zJ v1)), (2, .int (zJ v2)), (3, .int (zJ v3)), (4, .int (zJ v4)), (5, .int (zJ v5)), (6, .int (zJ 0)), (7, .int (zJ 0))]) (by decide +kernel) (Nat.le_of_ble_eq_true rfl) rfl ?_
    exact h
theorem sg_X11_adds_39 {g : zG} {φ : zMu → Prop} {v1 : Int} {v2 : Int} {v3 : Int} {v4 : Int} {v5 : Int} {v6 : Int} {v7 : Int} {μ : zMu}
    (h : (zR v7) ∧ (zR (v5 - v4)) ∧ (((v5 - v4) < v7 → (0 ≤ v5 ∧ v5 < 80) ∧ (zR ((μ 214 v5.toNat) + (v3 * v6))) ∧ (zR (μ 203 0)) ∧ ((μ 203 0) ≠ 0) ∧ at_X11_adds_24 g φ v1 v2 v3 v4 (v5 + 1) (zup μ 214 v5.toNat (((μ 214 v5.toNat) + (v3 * v6)).tmod (μ 203 0)))) ∧ (v7 ≤ (v5 - v4) → (0 ≤ ((80 * v1) + v7) ∧ ((80 * v1) + v7) < 720) ∧ (0 ≤ ((((80 * v2) + v5) - v4) - v7) ∧ ((((80 * v2) + v5) - v4) - v7) < 720) ∧ (zR (v6 + ((μ 212 (Int.toNat ((80 * v1) + v7))) * (μ 213 (Int.toNat ((((80 * v2) + v5) - v4) - v7)))))) ∧ (zR (μ 203 0)) ∧ ((μ 203 0) ≠ 0) ∧ at_X11_adds_39 g φ v1 v2 v3 v4 v5 ((v6 + ((μ 212 (Int.toNat ((80 * v1) + v7))) * (μ 213 (Int.toNat ((((80 * v2) + v5) - v4) - v7))))).tmod (μ 203 0)) (v7 + 1) μ))) : at_X11_adds_39 g φ v1 v2 v3 v4 v5 v6 v7 μ := by
  obtain ⟨o1, o2, h⟩ := h
  refine zw_iload (pc := 39) (i := 7) 7 (by decide +kernel) rfl ?_
  refine zw_iload (pc := 41) (i := 5) 5 (by decide +kernel) rfl ?_
  refine zw_iload (pc := 43) (i := 4) 4 (by decide +kernel) rfl ?_
  refine zw_isub (pc := 45) (by decide +kernel) ?_
  refine zw_icmp_gt (pc := 46) (off := 50) (tgt := 96) (by decide +kernel) (by decide) o1 o2 (fun hc => ?_) (fun hc => ?_)
  · replace h := h.1 hc
    obtain ⟨o3, o4, o5, o6, h⟩ := h
    refine zw_aload_n (pc := 96) (n := 0) (i := 0) 0 (by decide +kernel) rfl rfl ?_
    refine zx_getR (pc := 97) (o := 11) (r := 214) zf_11_46 (by decide +kernel) rfl zc_203 rfl (by decide) rfl ?_
    refine zw_iload (pc := 100) (i := 5) 5 (by decide +kernel) rfl ?_
    refine zw_aload_n (pc := 102) (n := 0) (i := 0) 0 (by decide +kernel) rfl rfl ?_
    refine zx_getR (pc := 103) (o := 11) (r := 214) zf_11_46 (by decide +kernel) rfl zc_203 rfl (by decide) rfl ?_
    refine zw_iload (pc := 106) (i := 5) 5 (by decide +kernel) rfl ?_
    refine zx_iaload (pc := 108) (by decide +kernel) ⟨80, zc_214, o3.1, o3.2⟩ ?_
    refine zw_iload_n (pc := 109) (n := 3) (i := 3) 3 (by decide +kernel) rfl rfl ?_
    refine zw_iload (pc := 110) (i := 6) 6 (by decide +kernel) rfl ?_
    refine zw_imul (pc := 112) (by decide +kernel) ?_
    refine zw_iadd (pc := 113) (by decide +kernel) ?_
    refine zw_aload_n (pc := 114) (n := 0) (i := 0) 0 (by decide +kernel) rfl rfl ?_
    refine zx_getI (pc := 115) zf_11_9 (by decide +kernel) rfl zc_203 ?_
    refine zw_irem (pc := 118) (by decide +kernel) o4 o5 o6 ?_
    refine zx_iastore (pc := 119) (by decide +kernel) ⟨80, zc_214, o3.1, o3.2⟩ ?_
    refine zw_iinc (pc := 120) (i := 5) (n := 1) (lv' := [(0, .ref 203), (1, .int (zJ v1)), (2, .int (zJ v2)), (3, .int (zJ v3)), (4, .int (zJ v4)), (5, .int (zJ (v5 + 1))), (6, .int (zJ v6)), (7, .int (zJ v7))]) 5 (by decide +kernel) rfl rfl (Nat.le_of_ble_eq_true rfl) rfl ?_
    refine zw_goto (pc := 123) (off := (-99)) (tgt := 24) (by decide +kernel) (by decide) ?_
    exact zw_pick (lv' := [(0, .ref 203), (1, .int (zJ v1)), (2, .int (zJ v2)), (3, .int (zJ v3)), (4, .int (zJ v4)), (5, .int (zJ (v5 + 1)))]) [0, 1, 2, 3, 4, 5] rfl h
  · replace h := h.2 hc
    obtain ⟨o7, o8, o9, o10, o11, h⟩ := h
    refine zw_iload (pc := 49) (i := 6) 6 (by decide +kernel) rfl ?_
    refine zw_aload_n (pc := 51) (n := 0) (i := 0) 0 (by decide +kernel) rfl rfl ?_
    refine zx_getR (pc := 52) (o := 9) (r := 212) zf_11_40 (by decide +kernel) rfl zc_203 rfl (by decide) rfl ?_
    refine zw_bipush (pc := 55) (n := 80) (by decide +kernel) (by decide +kernel) ?_
    refine zw_iload_n (pc := 57) (n := 1) (i := 1) 1 (by decide +kernel) rfl rfl ?_
    refine zw_imul (pc := 58) (by decide +kernel) ?_
    refine zw_iload (pc := 59) (i := 7) 7 (by decide +kernel) rfl ?_
    refine zw_iadd (pc := 61) (by decide +kernel) ?_
    refine zx_iaload (pc := 62) (by decide +kernel) ⟨720, zc_212, o7.1, o7.2⟩ ?_
    refine zw_aload_n (pc := 63) (n := 0) (i := 0) 0 (by decide +kernel) rfl rfl ?_
    refine zx_getR (pc := 64) (o := 10) (r := 213) zf_11_43 (by decide +kernel) rfl zc_203 rfl (by decide) rfl ?_
    refine zw_bipush (pc := 67) (n := 80) (by decide +kernel) (by decide +kernel) ?_
    refine zw_iload_n (pc := 69) (n := 2) (i := 2) 2 (by decide +kernel) rfl rfl ?_
    refine zw_imul (pc := 70) (by decide +kernel) ?_
    refine zw_iload (pc := 71) (i := 5) 5 (by decide +kernel) rfl ?_
    refine zw_iadd (pc := 73) (by decide +kernel) ?_
    refine zw_iload (pc := 74) (i := 4) 4 (by decide +kernel) rfl ?_
    refine zw_isub (pc := 76) (by decide +kernel) ?_
    refine zw_iload (pc := 77) (i := 7) 7 (by decide +kernel) rfl ?_
    refine zw_isub (pc := 79) (by decide +kernel) ?_
    refine zx_iaload (pc := 80) (by decide +kernel) ⟨720, zc_213, o8.1, o8.2⟩ ?_
    refine zw_imul (pc := 81) (by decide +kernel) ?_
    refine zw_iadd (pc := 82) (by decide +kernel) ?_
    refine zw_aload_n (pc := 83) (n := 0) (i := 0) 0 (by decide +kernel) rfl rfl ?_
    refine zx_getI (pc := 84) zf_11_9 (by decide +kernel) rfl zc_203 ?_
    refine zw_irem (pc := 87) (by decide +kernel) o9 o10 o11 ?_
    refine zw_istore (pc := 88) (i := 6) (lv' := [(0, .ref 203), (1, .int (zJ v1)), (2, .int (zJ v2)), (3, .int (zJ v3)), (4, .int (zJ v4)), (5, .int (zJ v5)), (6, .int (zJ ((v6 + ((μ 212 (Int.toNat ((80 * v1) + v7))) * (μ 213 (Int.toNat ((((80 * v2) + v5) - v4) - v7))))).tmod (μ 203 0)))), (7, .int (zJ v7))]) (by decide +kernel) (Nat.le_of_ble_eq_true rfl) rfl ?_
    refine zw_iinc (pc := 90) (i := 7) (n := 1) (lv' := [(0, .ref 203), (1, .int (zJ v1)), (2, .int (zJ v2)), (3, .int (zJ v3)), (4, .int (zJ v4)), (5, .int (zJ v5)), (6, .int (zJ ((v6 + ((μ 212 (Int.toNat ((80 * v1) + v7))) * (μ 213 (Int.toNat ((((80 * v2) + v5) - v4) - v7))))).tmod (μ 203 0)))), (7, .int (zJ (v7 + 1)))]) 7 (by decide +kernel) rfl rfl (Nat.le_of_ble_eq_true rfl) rfl ?_
    refine zw_goto (pc := 93) (off := (-54)) (tgt := 39) (by decide +kernel) (by decide) ?_
    exact h
theorem sg_X11_place {g : zG} {φ : Int → zMu → Prop} {v0 : Int} {v1 : Int} {v2 : Int} {μ : zMu}
    (h : φ (((v0 + 1) * v1) + v2) μ) : zOi g zm_X11_place [.int (zJ v0), .int (zJ v1), .int (zJ v2)] μ φ := by
  refine zok_of (by decide +kernel) rfl ?_
  show zWP g zm_X11_place (zmo g zm_X11_place (zΦi φ)) 0 [(0, .int (zJ v0)), (1, .int (zJ v1)), (2, .int (zJ v2))] [] 0 0 (zw μ)
  refine zw_iload_n (pc := 0) (n := 0) (i := 0) 0 (by decide +kernel) rfl rfl ?_
  refine zw_iconst (pc := 1) (n := 1) (by decide +kernel) ?_
  refine zw_iadd (pc := 2) (by decide +kernel) ?_
  refine zw_iload_n (pc := 3) (n := 1) (i := 1) 1 (by decide +kernel) rfl rfl ?_
  refine zw_imul (pc := 4) (by decide +kernel) ?_
  refine zw_iload_n (pc := 5) (n := 2) (i := 2) 2 (by decide +kernel) rfl rfl ?_
  refine zw_iadd (pc := 6) (by decide +kernel) ?_
  exact zw_iret (pc := 7) (by decide +kernel) rfl (Nat.le_refl _) (Nat.le_refl _) ⟨_, _, rfl, rfl, h⟩
abbrev at_X11_comes_2 (g : zG) (φ : Int → zMu → Prop) (v1 : Int) (μ : zMu) : Prop := zWP g zm_X11_comes (zmo g zm_X11_comes (zΦi φ)) 2 [(0, .ref 203), (1, .int (zJ v1))] [] 0 0 (zw μ)
abbrev at_X11_comes_46 (g : zG) (φ : Int → zMu → Prop) (v1 : Int) (v2 : Int) (v3 : Int) (μ : zMu) : Prop := zWP g zm_X11_comes (zmo g zm_X11_comes (zΦi φ)) 46 [(0, .ref 203), (1, .int (zJ v1)), (2, .int (zJ v2)), (3, .int (zJ v3))] [] 0 0 (zw μ)
abbrev at_X11_comes_87 (g : zG) (φ : Int → zMu → Prop) (v1 : Int) (v2 : Int) (v3 : Int) (μ : zMu) : Prop := zWP g zm_X11_comes (zmo g zm_X11_comes (zΦi φ)) 87 [(0, .ref 203), (1, .int (zJ v1)), (2, .int (zJ v2)), (3, .int (zJ v3))] [] 0 0 (zw μ)
theorem sg_X11_comes {g : zG} {φ : Int → zMu → Prop} {μ : zMu}
    (h : at_X11_comes_2 g φ 0 μ) : zOi g zm_X11_comes [.ref 203] μ φ := by
  refine zok_of (by decide +kernel) rfl ?_
  show zWP g zm_X11_comes (zmo g zm_X11_comes (zΦi φ)) 0 [(0, .ref 203)] [] 0 0 (zw μ)
  refine zw_iconst (pc := 0) (n := 0) (by decide +kernel) ?_
  refine zw_istore_n (pc := 1) (n := 1) (i := 1) (lv' := [(0, .ref 203), (1, .int (zJ 0))]) (by decide +kernel) rfl (Nat.le_of_ble_eq_true rfl) rfl ?_
  exact h
theorem sg_X11_comes_2 {g : zG} {φ : Int → zMu → Prop} {v1 : Int} {μ : zMu}
    (h : (zR v1) ∧ (zR (μ 203 22)) ∧ (((μ 203 22) ≤ v1 → zOi g zm_X11_firstOther [.ref 203] μ (fun x4 μ3 => (zR x4) ∧ ((¬ x4 = (-1) → (0 ≤ x4 ∧ x4 < 80) ∧ zOi g zm_X11_inverse [.ref 203, .int (zJ (μ3 214 x4.toNat))] μ3 (fun x8 μ7 => at_X11_comes_46 g φ x4 x8 0 μ7)) ∧ (x4 = (-1) → φ 0 μ3)))) ∧ (v1 < (μ 203 22) → zOv g zm_X11_lessens [.ref 203, .int (zJ v1)] μ (fun μ9 => at_X11_comes_2 g φ (v1 + 1) μ9)))) : at_X11_comes_2 g φ v1 μ := by
  obtain ⟨o1, o2, h⟩ := h
  refine zw_iload_n (pc := 2) (n := 1) (i := 1) 1 (by decide +kernel) rfl rfl ?_
  refine zw_aload_n (pc := 3) (n := 0) (i := 0) 0 (by decide +kernel) rfl rfl ?_
  refine zx_getI (pc := 4) zf_11_201 (by decide +kernel) rfl zc_203 ?_
  refine zw_icmp_ge (pc := 7) (off := 14) (tgt := 21) (by decide +kernel) (by decide) o1 o2 (fun hc => ?_) (fun hc => ?_)
  · replace h := h.1 hc
    refine zw_aload_n (pc := 21) (n := 0) (i := 0) 0 (by decide +kernel) rfl rfl ?_
    refine zx_callV (pc := 22) (As := []) h zi_X11_firstOther zii_X11_firstOther zie_X11_firstOther zl_11_208 (by decide +kernel) ⟨Nat.le_of_ble_eq_true rfl, Nat.le_of_ble_eq_true rfl⟩ rfl zc_203 (by decide) rfl rfl ⟨rfl, rfl⟩ ⟨Nat.zero_le _, Nat.zero_le _⟩ (zki (fun x4 μ3 h => ?_))
    obtain ⟨o5, h⟩ := h
    refine zw_istore_n (pc := 25) (n := 1) (i := 1) (lv' := [(0, .ref 203), (1, .int (zJ x4))]) (by decide +kernel) rfl (Nat.le_of_ble_eq_true rfl) rfl ?_
    refine zw_iload_n (pc := 26) (n := 1) (i := 1) 1 (by decide +kernel) rfl rfl ?_
    refine zw_iconst (pc := 27) (n := (-1)) (by decide +kernel) ?_
    refine zw_icmp_ne (pc := 28) (off := 5) (tgt := 33) (by decide +kernel) (by decide) o5 ⟨by decide, by decide⟩ (fun hc => ?_) (fun hc => ?_)
    · replace h := h.1 hc
      obtain ⟨o6, h⟩ := h
      refine zw_aload_n (pc := 33) (n := 0) (i := 0) 0 (by decide +kernel) rfl rfl ?_
      refine zw_aload_n (pc := 34) (n := 0) (i := 0) 0 (by decide +kernel) rfl rfl ?_
      refine zx_getR (pc := 35) (o := 11) (r := 214) zf_11_46 (by decide +kernel) rfl zc_203 rfl (by decide) rfl ?_
      refine zw_iload_n (pc := 38) (n := 1) (i := 1) 1 (by decide +kernel) rfl rfl ?_
      refine zx_iaload (pc := 39) (by decide +kernel) ⟨80, zc_214, o6.1, o6.2⟩ ?_
      refine zx_callV (pc := 40) (As := [.int (zJ (μ3 214 x4.toNat))]) h zi_X11_inverse zii_X11_inverse zie_X11_inverse zl_11_137 (by decide +kernel) ⟨Nat.le_of_ble_eq_true rfl, Nat.le_of_ble_eq_true rfl⟩ rfl zc_203 (by decide) rfl rfl ⟨rfl, rfl⟩ ⟨Nat.zero_le _, Nat.zero_le _⟩ (zki (fun x8 μ7 h => ?_))
      refine zw_istore_n (pc := 43) (n := 2) (i := 2) (lv' := [(0, .ref 203), (1, .int (zJ x4)), (2, .int (zJ x8))]) (by decide +kernel) rfl (Nat.le_of_ble_eq_true rfl) rfl ?_
      refine zw_iconst (pc := 44) (n := 0) (by decide +kernel) ?_
      refine zw_istore_n (pc := 45) (n := 3) (i := 3) (lv' := [(0, .ref 203), (1, .int (zJ x4)), (2, .int (zJ x8)), (3, .int (zJ 0))]) (by decide +kernel) rfl (Nat.le_of_ble_eq_true rfl) rfl ?_
      exact h
    · replace h := h.2 hc
      refine zw_iconst (pc := 31) (n := 0) (by decide +kernel) ?_
      exact zw_zret (pc := 32) (by decide +kernel) rfl (Nat.le_refl _) (Nat.le_refl _) (Or.inl rfl) ⟨_, _, rfl, rfl, h⟩
  · replace h := h.2 hc
    refine zw_aload_n (pc := 10) (n := 0) (i := 0) 0 (by decide +kernel) rfl rfl ?_
    refine zw_iload_n (pc := 11) (n := 1) (i := 1) 1 (by decide +kernel) rfl rfl ?_
    refine zx_callV (pc := 12) (As := [.int (zJ v1)]) h zi_X11_lessens zii_X11_lessens zie_X11_lessens zl_11_204 (by decide +kernel) ⟨Nat.le_of_ble_eq_true rfl, Nat.le_of_ble_eq_true rfl⟩ rfl zc_203 (by decide) rfl rfl ⟨rfl, rfl⟩ ⟨Nat.zero_le _, Nat.zero_le _⟩ (zkv (fun μ9 h => ?_))
    refine zw_iinc (pc := 15) (i := 1) (n := 1) (lv' := [(0, .ref 203), (1, .int (zJ (v1 + 1)))]) 1 (by decide +kernel) rfl rfl (Nat.le_of_ble_eq_true rfl) rfl ?_
    refine zw_goto (pc := 18) (off := (-16)) (tgt := 2) (by decide +kernel) (by decide) ?_
    exact h
theorem sg_X11_comes_46 {g : zG} {φ : Int → zMu → Prop} {v1 : Int} {v2 : Int} {v3 : Int} {μ : zMu}
    (h : (zR v3) ∧ ((80 ≤ v3 → at_X11_comes_87 g φ v1 v2 0 μ) ∧ (v3 < 80 → (0 ≤ v3 ∧ v3 < 80) ∧ (zR ((μ 214 v3.toNat) * v2)) ∧ (zR (μ 203 0)) ∧ ((μ 203 0) ≠ 0) ∧ (0 ≤ ((80 * (μ 203 22)) + v3) ∧ ((80 * (μ 203 22)) + v3) < 6400) ∧ at_X11_comes_46 g φ v1 v2 (v3 + 1) (zup μ 215 (Int.toNat ((80 * (μ 203 22)) + v3)) (((μ 214 v3.toNat) * v2).tmod (μ 203 0)))))) : at_X11_comes_46 g φ v1 v2 v3 μ := by
  obtain ⟨o1, h⟩ := h
  refine zw_iload_n (pc := 46) (n := 3) (i := 3) 3 (by decide +kernel) rfl rfl ?_
  refine zw_bipush (pc := 47) (n := 80) (by decide +kernel) (by decide +kernel) ?_
  refine zw_icmp_ge (pc := 49) (off := 36) (tgt := 85) (by decide +kernel) (by decide) o1 ⟨by decide, by decide⟩ (fun hc => ?_) (fun hc => ?_)
  · replace h := h.1 hc
    refine zw_iconst (pc := 85) (n := 0) (by decide +kernel) ?_
    refine zw_istore_n (pc := 86) (n := 3) (i := 3) (lv' := [(0, .ref 203), (1, .int (zJ v1)), (2, .int (zJ v2)), (3, .int (zJ 0))]) (by decide +kernel) rfl (Nat.le_of_ble_eq_true rfl) rfl ?_
    exact h
  · replace h := h.2 hc
    obtain ⟨o2, o3, o4, o5, o6, h⟩ := h
    refine zw_aload_n (pc := 52) (n := 0) (i := 0) 0 (by decide +kernel) rfl rfl ?_
    refine zx_getR (pc := 53) (o := 12) (r := 215) zf_11_49 (by decide +kernel) rfl zc_203 rfl (by decide) rfl ?_
    refine zw_bipush (pc := 56) (n := 80) (by decide +kernel) (by decide +kernel) ?_
    refine zw_aload_n (pc := 58) (n := 0) (i := 0) 0 (by decide +kernel) rfl rfl ?_
    refine zx_getI (pc := 59) zf_11_201 (by decide +kernel) rfl zc_203 ?_
    refine zw_imul (pc := 62) (by decide +kernel) ?_
    refine zw_iload_n (pc := 63) (n := 3) (i := 3) 3 (by decide +kernel) rfl rfl ?_
    refine zw_iadd (pc := 64) (by decide +kernel) ?_
    refine zw_aload_n (pc := 65) (n := 0) (i := 0) 0 (by decide +kernel) rfl rfl ?_
    refine zx_getR (pc := 66) (o := 11) (r := 214) zf_11_46 (by decide +kernel) rfl zc_203 rfl (by decide) rfl ?_
    refine zw_iload_n (pc := 69) (n := 3) (i := 3) 3 (by decide +kernel) rfl rfl ?_
    refine zx_iaload (pc := 70) (by decide +kernel) ⟨80, zc_214, o2.1, o2.2⟩ ?_
    refine zw_iload_n (pc := 71) (n := 2) (i := 2) 2 (by decide +kernel) rfl rfl ?_
    refine zw_imul (pc := 72) (by decide +kernel) ?_
    refine zw_aload_n (pc := 73) (n := 0) (i := 0) 0 (by decide +kernel) rfl rfl ?_
    refine zx_getI (pc := 74) zf_11_9 (by decide +kernel) rfl zc_203 ?_
    refine zw_irem (pc := 77) (by decide +kernel) o3 o4 o5 ?_
    refine zx_iastore (pc := 78) (by decide +kernel) ⟨6400, zc_215, o6.1, o6.2⟩ ?_
    refine zw_iinc (pc := 79) (i := 3) (n := 1) (lv' := [(0, .ref 203), (1, .int (zJ v1)), (2, .int (zJ v2)), (3, .int (zJ (v3 + 1)))]) 3 (by decide +kernel) rfl rfl (Nat.le_of_ble_eq_true rfl) rfl ?_
    refine zw_goto (pc := 82) (off := (-36)) (tgt := 46) (by decide +kernel) (by decide) ?_
    exact h
theorem sg_X11_comes_87 {g : zG} {φ : Int → zMu → Prop} {v1 : Int} {v2 : Int} {v3 : Int} {μ : zMu}
    (h : (zR v3) ∧ ((81 ≤ v3 → (0 ≤ (μ 203 22) ∧ (μ 203 22) < 80) ∧ φ 1 (zup (zup μ 217 (Int.toNat (μ 203 22)) v1) 203 22 (((zup μ 217 (Int.toNat (μ 203 22)) v1) 203 22) + 1))) ∧ (v3 < 81 → (0 ≤ v3 ∧ v3 < 81) ∧ (zR ((μ 218 v3.toNat) * v2)) ∧ (zR (μ 203 0)) ∧ ((μ 203 0) ≠ 0) ∧ (0 ≤ ((81 * (μ 203 22)) + v3) ∧ ((81 * (μ 203 22)) + v3) < 6480) ∧ at_X11_comes_87 g φ v1 v2 (v3 + 1) (zup μ 216 (Int.toNat ((81 * (μ 203 22)) + v3)) (((μ 218 v3.toNat) * v2).tmod (μ 203 0)))))) : at_X11_comes_87 g φ v1 v2 v3 μ := by
  obtain ⟨o1, h⟩ := h
  refine zw_iload_n (pc := 87) (n := 3) (i := 3) 3 (by decide +kernel) rfl rfl ?_
  refine zw_bipush (pc := 88) (n := 81) (by decide +kernel) (by decide +kernel) ?_
  refine zw_icmp_ge (pc := 90) (off := 36) (tgt := 126) (by decide +kernel) (by decide) o1 ⟨by decide, by decide⟩ (fun hc => ?_) (fun hc => ?_)
  · replace h := h.1 hc
    obtain ⟨o2, h⟩ := h
    refine zw_aload_n (pc := 126) (n := 0) (i := 0) 0 (by decide +kernel) rfl rfl ?_
    refine zx_getR (pc := 127) (o := 14) (r := 217) zf_11_55 (by decide +kernel) rfl zc_203 rfl (by decide) rfl ?_
    refine zw_aload_n (pc := 130) (n := 0) (i := 0) 0 (by decide +kernel) rfl rfl ?_
    refine zx_getI (pc := 131) zf_11_201 (by decide +kernel) rfl zc_203 ?_
    refine zw_iload_n (pc := 134) (n := 1) (i := 1) 1 (by decide +kernel) rfl rfl ?_
    refine zx_iastore (pc := 135) (by decide +kernel) ⟨80, zc_217, o2.1, o2.2⟩ ?_
    refine zw_aload_n (pc := 136) (n := 0) (i := 0) 0 (by decide +kernel) rfl rfl ?_
    refine zw_dup (pc := 137) (by decide +kernel) rfl ?_
    refine zx_getI (pc := 138) zf_11_201 (by decide +kernel) rfl zc_203 ?_
    refine zw_iconst (pc := 141) (n := 1) (by decide +kernel) ?_
    refine zw_iadd (pc := 142) (by decide +kernel) ?_
    refine zx_putI (pc := 143) zf_11_201 (by decide +kernel) rfl zc_203 ?_
    refine zw_iconst (pc := 146) (n := 1) (by decide +kernel) ?_
    exact zw_zret (pc := 147) (by decide +kernel) rfl (Nat.le_refl _) (Nat.le_refl _) (Or.inr rfl) ⟨_, _, rfl, rfl, h⟩
  · replace h := h.2 hc
    obtain ⟨o3, o4, o5, o6, o7, h⟩ := h
    refine zw_aload_n (pc := 93) (n := 0) (i := 0) 0 (by decide +kernel) rfl rfl ?_
    refine zx_getR (pc := 94) (o := 13) (r := 216) zf_11_52 (by decide +kernel) rfl zc_203 rfl (by decide) rfl ?_
    refine zw_bipush (pc := 97) (n := 81) (by decide +kernel) (by decide +kernel) ?_
    refine zw_aload_n (pc := 99) (n := 0) (i := 0) 0 (by decide +kernel) rfl rfl ?_
    refine zx_getI (pc := 100) zf_11_201 (by decide +kernel) rfl zc_203 ?_
    refine zw_imul (pc := 103) (by decide +kernel) ?_
    refine zw_iload_n (pc := 104) (n := 3) (i := 3) 3 (by decide +kernel) rfl rfl ?_
    refine zw_iadd (pc := 105) (by decide +kernel) ?_
    refine zw_aload_n (pc := 106) (n := 0) (i := 0) 0 (by decide +kernel) rfl rfl ?_
    refine zx_getR (pc := 107) (o := 15) (r := 218) zf_11_58 (by decide +kernel) rfl zc_203 rfl (by decide) rfl ?_
    refine zw_iload_n (pc := 110) (n := 3) (i := 3) 3 (by decide +kernel) rfl rfl ?_
    refine zx_iaload (pc := 111) (by decide +kernel) ⟨81, zc_218, o3.1, o3.2⟩ ?_
    refine zw_iload_n (pc := 112) (n := 2) (i := 2) 2 (by decide +kernel) rfl rfl ?_
    refine zw_imul (pc := 113) (by decide +kernel) ?_
    refine zw_aload_n (pc := 114) (n := 0) (i := 0) 0 (by decide +kernel) rfl rfl ?_
    refine zx_getI (pc := 115) zf_11_9 (by decide +kernel) rfl zc_203 ?_
    refine zw_irem (pc := 118) (by decide +kernel) o4 o5 o6 ?_
    refine zx_iastore (pc := 119) (by decide +kernel) ⟨6480, zc_216, o7.1, o7.2⟩ ?_
    refine zw_iinc (pc := 120) (i := 3) (n := 1) (lv' := [(0, .ref 203), (1, .int (zJ v1)), (2, .int (zJ v2)), (3, .int (zJ (v3 + 1)))]) 3 (by decide +kernel) rfl rfl (Nat.le_of_ble_eq_true rfl) rfl ?_
    refine zw_goto (pc := 123) (off := (-36)) (tgt := 87) (by decide +kernel) (by decide) ?_
    exact h
abbrev at_X11_lessens_19 (g : zG) (φ : zMu → Prop) (v1 : Int) (v2 : Int) (v3 : Int) (μ : zMu) : Prop := zWP g zm_X11_lessens (zmo g zm_X11_lessens (zΦv φ)) 19 [(0, .ref 203), (1, .int (zJ v1)), (2, .int (zJ v2)), (3, .int (zJ v3))] [] 0 0 (zw μ)
abbrev at_X11_lessens_66 (g : zG) (φ : zMu → Prop) (v1 : Int) (v2 : Int) (v3 : Int) (μ : zMu) : Prop := zWP g zm_X11_lessens (zmo g zm_X11_lessens (zΦv φ)) 66 [(0, .ref 203), (1, .int (zJ v1)), (2, .int (zJ v2)), (3, .int (zJ v3))] [] 0 0 (zw μ)
theorem sg_X11_lessens {g : zG} {φ : zMu → Prop} {v1 : Int} {μ : zMu}
    (h : (0 ≤ v1 ∧ v1 < 80) ∧ (0 ≤ (μ 217 v1.toNat) ∧ (μ 217 v1.toNat) < 80) ∧ at_X11_lessens_19 g φ v1 ((μ 203 0) - (μ 214 (Int.toNat (μ 217 v1.toNat)))) 0 μ) : zOv g zm_X11_lessens [.ref 203, .int (zJ v1)] μ φ := by
  refine zok_of (by decide +kernel) rfl ?_
  show zWP g zm_X11_lessens (zmo g zm_X11_lessens (zΦv φ)) 0 [(0, .ref 203), (1, .int (zJ v1))] [] 0 0 (zw μ)
  obtain ⟨o1, o2, h⟩ := h
  refine zw_aload_n (pc := 0) (n := 0) (i := 0) 0 (by decide +kernel) rfl rfl ?_
  refine zx_getI (pc := 1) zf_11_9 (by decide +kernel) rfl zc_203 ?_
  refine zw_aload_n (pc := 4) (n := 0) (i := 0) 0 (by decide +kernel) rfl rfl ?_
  refine zx_getR (pc := 5) (o := 11) (r := 214) zf_11_46 (by decide +kernel) rfl zc_203 rfl (by decide) rfl ?_
  refine zw_aload_n (pc := 8) (n := 0) (i := 0) 0 (by decide +kernel) rfl rfl ?_
  refine zx_getR (pc := 9) (o := 14) (r := 217) zf_11_55 (by decide +kernel) rfl zc_203 rfl (by decide) rfl ?_
  refine zw_iload_n (pc := 12) (n := 1) (i := 1) 1 (by decide +kernel) rfl rfl ?_
  refine zx_iaload (pc := 13) (by decide +kernel) ⟨80, zc_217, o1.1, o1.2⟩ ?_
  refine zx_iaload (pc := 14) (by decide +kernel) ⟨80, zc_214, o2.1, o2.2⟩ ?_
  refine zw_isub (pc := 15) (by decide +kernel) ?_
  refine zw_istore_n (pc := 16) (n := 2) (i := 2) (lv' := [(0, .ref 203), (1, .int (zJ v1)), (2, .int (zJ ((μ 203 0) - (μ 214 (Int.toNat (μ 217 v1.toNat))))))]) (by decide +kernel) rfl (Nat.le_of_ble_eq_true rfl) rfl ?_
  refine zw_iconst (pc := 17) (n := 0) (by decide +kernel) ?_
  refine zw_istore_n (pc := 18) (n := 3) (i := 3) (lv' := [(0, .ref 203), (1, .int (zJ v1)), (2, .int (zJ ((μ 203 0) - (μ 214 (Int.toNat (μ 217 v1.toNat)))))), (3, .int (zJ 0))]) (by decide +kernel) rfl (Nat.le_of_ble_eq_true rfl) rfl ?_
  exact h
theorem sg_X11_lessens_19 {g : zG} {φ : zMu → Prop} {v1 : Int} {v2 : Int} {v3 : Int} {μ : zMu}
    (h : (zR v3) ∧ (zR (μ 203 14)) ∧ (((μ 203 14) ≤ v3 → at_X11_lessens_66 g φ v1 v2 0 μ) ∧ (v3 < (μ 203 14) → (0 ≤ v3 ∧ v3 < 80) ∧ (0 ≤ ((80 * v1) + v3) ∧ ((80 * v1) + v3) < 6400) ∧ (zR ((μ 214 v3.toNat) + (v2 * (μ 215 (Int.toNat ((80 * v1) + v3)))))) ∧ (zR (μ 203 0)) ∧ ((μ 203 0) ≠ 0) ∧ at_X11_lessens_19 g φ v1 v2 (v3 + 1) (zup μ 214 v3.toNat (((μ 214 v3.toNat) + (v2 * (μ 215 (Int.toNat ((80 * v1) + v3))))).tmod (μ 203 0)))))) : at_X11_lessens_19 g φ v1 v2 v3 μ := by
  obtain ⟨o1, o2, h⟩ := h
  refine zw_iload_n (pc := 19) (n := 3) (i := 3) 3 (by decide +kernel) rfl rfl ?_
  refine zw_aload_n (pc := 20) (n := 0) (i := 0) 0 (by decide +kernel) rfl rfl ?_
  refine zx_getI (pc := 21) zf_11_189 (by decide +kernel) rfl zc_203 ?_
  refine zw_icmp_ge (pc := 24) (off := 40) (tgt := 64) (by decide +kernel) (by decide) o1 o2 (fun hc => ?_) (fun hc => ?_)
  · replace h := h.1 hc
    refine zw_iconst (pc := 64) (n := 0) (by decide +kernel) ?_
    refine zw_istore_n (pc := 65) (n := 3) (i := 3) (lv' := [(0, .ref 203), (1, .int (zJ v1)), (2, .int (zJ v2)), (3, .int (zJ 0))]) (by decide +kernel) rfl (Nat.le_of_ble_eq_true rfl) rfl ?_
    exact h
  · replace h := h.2 hc
    obtain ⟨o3, o4, o5, o6, o7, h⟩ := h
    refine zw_aload_n (pc := 27) (n := 0) (i := 0) 0 (by decide +kernel) rfl rfl ?_
    refine zx_getR (pc := 28) (o := 11) (r := 214) zf_11_46 (by decide +kernel) rfl zc_203 rfl (by decide) rfl ?_
    refine zw_iload_n (pc := 31) (n := 3) (i := 3) 3 (by decide +kernel) rfl rfl ?_
    refine zw_aload_n (pc := 32) (n := 0) (i := 0) 0 (by decide +kernel) rfl rfl ?_
    refine zx_getR (pc := 33) (o := 11) (r := 214) zf_11_46 (by decide +kernel) rfl zc_203 rfl (by decide) rfl ?_
    refine zw_iload_n (pc := 36) (n := 3) (i := 3) 3 (by decide +kernel) rfl rfl ?_
    refine zx_iaload (pc := 37) (by decide +kernel) ⟨80, zc_214, o3.1, o3.2⟩ ?_
    refine zw_iload_n (pc := 38) (n := 2) (i := 2) 2 (by decide +kernel) rfl rfl ?_
    refine zw_aload_n (pc := 39) (n := 0) (i := 0) 0 (by decide +kernel) rfl rfl ?_
    refine zx_getR (pc := 40) (o := 12) (r := 215) zf_11_49 (by decide +kernel) rfl zc_203 rfl (by decide) rfl ?_
    refine zw_bipush (pc := 43) (n := 80) (by decide +kernel) (by decide +kernel) ?_
    refine zw_iload_n (pc := 45) (n := 1) (i := 1) 1 (by decide +kernel) rfl rfl ?_
    refine zw_imul (pc := 46) (by decide +kernel) ?_
    refine zw_iload_n (pc := 47) (n := 3) (i := 3) 3 (by decide +kernel) rfl rfl ?_
    refine zw_iadd (pc := 48) (by decide +kernel) ?_
    refine zx_iaload (pc := 49) (by decide +kernel) ⟨6400, zc_215, o4.1, o4.2⟩ ?_
    refine zw_imul (pc := 50) (by decide +kernel) ?_
    refine zw_iadd (pc := 51) (by decide +kernel) ?_
    refine zw_aload_n (pc := 52) (n := 0) (i := 0) 0 (by decide +kernel) rfl rfl ?_
    refine zx_getI (pc := 53) zf_11_9 (by decide +kernel) rfl zc_203 ?_
    refine zw_irem (pc := 56) (by decide +kernel) o5 o6 o7 ?_
    refine zx_iastore (pc := 57) (by decide +kernel) ⟨80, zc_214, o3.1, o3.2⟩ ?_
    refine zw_iinc (pc := 58) (i := 3) (n := 1) (lv' := [(0, .ref 203), (1, .int (zJ v1)), (2, .int (zJ v2)), (3, .int (zJ (v3 + 1)))]) 3 (by decide +kernel) rfl rfl (Nat.le_of_ble_eq_true rfl) rfl ?_
    refine zw_goto (pc := 61) (off := (-42)) (tgt := 19) (by decide +kernel) (by decide) ?_
    exact h
theorem sg_X11_lessens_66 {g : zG} {φ : zMu → Prop} {v1 : Int} {v2 : Int} {v3 : Int} {μ : zMu}
    (h : (zR v3) ∧ ((81 ≤ v3 → φ μ) ∧ (v3 < 81 → (0 ≤ v3 ∧ v3 < 81) ∧ (0 ≤ ((81 * v1) + v3) ∧ ((81 * v1) + v3) < 6480) ∧ (zR ((μ 218 v3.toNat) + (v2 * (μ 216 (Int.toNat ((81 * v1) + v3)))))) ∧ (zR (μ 203 0)) ∧ ((μ 203 0) ≠ 0) ∧ at_X11_lessens_66 g φ v1 v2 (v3 + 1) (zup μ 218 v3.toNat (((μ 218 v3.toNat) + (v2 * (μ 216 (Int.toNat ((81 * v1) + v3))))).tmod (μ 203 0)))))) : at_X11_lessens_66 g φ v1 v2 v3 μ := by
  obtain ⟨o1, h⟩ := h
  refine zw_iload_n (pc := 66) (n := 3) (i := 3) 3 (by decide +kernel) rfl rfl ?_
  refine zw_bipush (pc := 67) (n := 81) (by decide +kernel) (by decide +kernel) ?_
  refine zw_icmp_ge (pc := 69) (off := 40) (tgt := 109) (by decide +kernel) (by decide) o1 ⟨by decide, by decide⟩ (fun hc => ?_) (fun hc => ?_)
  · replace h := h.1 hc
    exact zw_vret (pc := 109) (by decide +kernel) rfl (Nat.le_refl _) (Nat.le_refl _) ⟨_, rfl, rfl, h⟩
  · replace h := h.2 hc
    obtain ⟨o2, o3, o4, o5, o6, h⟩ := h
    refine zw_aload_n (pc := 72) (n := 0) (i := 0) 0 (by decide +kernel) rfl rfl ?_
    refine zx_getR (pc := 73) (o := 15) (r := 218) zf_11_58 (by decide +kernel) rfl zc_203 rfl (by decide) rfl ?_
    refine zw_iload_n (pc := 76) (n := 3) (i := 3) 3 (by decide +kernel) rfl rfl ?_
    refine zw_aload_n (pc := 77) (n := 0) (i := 0) 0 (by decide +kernel) rfl rfl ?_
    refine zx_getR (pc := 78) (o := 15) (r := 218) zf_11_58 (by decide +kernel) rfl zc_203 rfl (by decide) rfl ?_
    refine zw_iload_n (pc := 81) (n := 3) (i := 3) 3 (by decide +kernel) rfl rfl ?_
    refine zx_iaload (pc := 82) (by decide +kernel) ⟨81, zc_218, o2.1, o2.2⟩ ?_
    refine zw_iload_n (pc := 83) (n := 2) (i := 2) 2 (by decide +kernel) rfl rfl ?_
    refine zw_aload_n (pc := 84) (n := 0) (i := 0) 0 (by decide +kernel) rfl rfl ?_
    refine zx_getR (pc := 85) (o := 13) (r := 216) zf_11_52 (by decide +kernel) rfl zc_203 rfl (by decide) rfl ?_
    refine zw_bipush (pc := 88) (n := 81) (by decide +kernel) (by decide +kernel) ?_
    refine zw_iload_n (pc := 90) (n := 1) (i := 1) 1 (by decide +kernel) rfl rfl ?_
    refine zw_imul (pc := 91) (by decide +kernel) ?_
    refine zw_iload_n (pc := 92) (n := 3) (i := 3) 3 (by decide +kernel) rfl rfl ?_
    refine zw_iadd (pc := 93) (by decide +kernel) ?_
    refine zx_iaload (pc := 94) (by decide +kernel) ⟨6480, zc_216, o3.1, o3.2⟩ ?_
    refine zw_imul (pc := 95) (by decide +kernel) ?_
    refine zw_iadd (pc := 96) (by decide +kernel) ?_
    refine zw_aload_n (pc := 97) (n := 0) (i := 0) 0 (by decide +kernel) rfl rfl ?_
    refine zx_getI (pc := 98) zf_11_9 (by decide +kernel) rfl zc_203 ?_
    refine zw_irem (pc := 101) (by decide +kernel) o4 o5 o6 ?_
    refine zx_iastore (pc := 102) (by decide +kernel) ⟨81, zc_218, o2.1, o2.2⟩ ?_
    refine zw_iinc (pc := 103) (i := 3) (n := 1) (lv' := [(0, .ref 203), (1, .int (zJ v1)), (2, .int (zJ v2)), (3, .int (zJ (v3 + 1)))]) 3 (by decide +kernel) rfl rfl (Nat.le_of_ble_eq_true rfl) rfl ?_
    refine zw_goto (pc := 106) (off := (-40)) (tgt := 66) (by decide +kernel) (by decide) ?_
    exact h
abbrev at_X11_firstOther_2 (g : zG) (φ : Int → zMu → Prop) (v1 : Int) (μ : zMu) : Prop := zWP g zm_X11_firstOther (zmo g zm_X11_firstOther (zΦi φ)) 2 [(0, .ref 203), (1, .int (zJ v1))] [] 0 0 (zw μ)
theorem sg_X11_firstOther {g : zG} {φ : Int → zMu → Prop} {μ : zMu}
    (h : at_X11_firstOther_2 g φ 0 μ) : zOi g zm_X11_firstOther [.ref 203] μ φ := by
  refine zok_of (by decide +kernel) rfl ?_
  show zWP g zm_X11_firstOther (zmo g zm_X11_firstOther (zΦi φ)) 0 [(0, .ref 203)] [] 0 0 (zw μ)
  refine zw_iconst (pc := 0) (n := 0) (by decide +kernel) ?_
  refine zw_istore_n (pc := 1) (n := 1) (i := 1) (lv' := [(0, .ref 203), (1, .int (zJ 0))]) (by decide +kernel) rfl (Nat.le_of_ble_eq_true rfl) rfl ?_
  exact h
theorem sg_X11_firstOther_2 {g : zG} {φ : Int → zMu → Prop} {v1 : Int} {μ : zMu}
    (h : (zR v1) ∧ (zR (μ 203 14)) ∧ (((μ 203 14) ≤ v1 → φ (-1) μ) ∧ (v1 < (μ 203 14) → (0 ≤ v1 ∧ v1 < 80) ∧ (zR (μ 214 v1.toNat)) ∧ (((μ 214 v1.toNat) = 0 → at_X11_firstOther_2 g φ (v1 + 1) μ) ∧ (¬ (μ 214 v1.toNat) = 0 → φ v1 μ))))) : at_X11_firstOther_2 g φ v1 μ := by
  obtain ⟨o1, o2, h⟩ := h
  refine zw_iload_n (pc := 2) (n := 1) (i := 1) 1 (by decide +kernel) rfl rfl ?_
  refine zw_aload_n (pc := 3) (n := 0) (i := 0) 0 (by decide +kernel) rfl rfl ?_
  refine zx_getI (pc := 4) zf_11_189 (by decide +kernel) rfl zc_203 ?_
  refine zw_icmp_ge (pc := 7) (off := 20) (tgt := 27) (by decide +kernel) (by decide) o1 o2 (fun hc => ?_) (fun hc => ?_)
  · replace h := h.1 hc
    refine zw_iconst (pc := 27) (n := (-1)) (by decide +kernel) ?_
    exact zw_iret (pc := 28) (by decide +kernel) rfl (Nat.le_refl _) (Nat.le_refl _) ⟨_, _, rfl, rfl, h⟩
  · replace h := h.2 hc
    obtain ⟨o3, o4, h⟩ := h
    refine zw_aload_n (pc := 10) (n := 0) (i := 0) 0 (by decide +kernel) rfl rfl ?_
    refine zx_getR (pc := 11) (o := 11) (r := 214) zf_11_46 (by decide +kernel) rfl zc_203 rfl (by decide) rfl ?_
    refine zw_iload_n (pc := 14) (n := 1) (i := 1) 1 (by decide +kernel) rfl rfl ?_
    refine zx_iaload (pc := 15) (by decide +kernel) ⟨80, zc_214, o3.1, o3.2⟩ ?_
    refine zw_if_eq (pc := 16) (off := 5) (tgt := 21) (by decide +kernel) (by decide) o4 (fun hc => ?_) (fun hc => ?_)
    · replace h := h.1 hc
      refine zw_iinc (pc := 21) (i := 1) (n := 1) (lv' := [(0, .ref 203), (1, .int (zJ (v1 + 1)))]) 1 (by decide +kernel) rfl rfl (Nat.le_of_ble_eq_true rfl) rfl ?_
      refine zw_goto (pc := 24) (off := (-22)) (tgt := 2) (by decide +kernel) (by decide) ?_
      exact h
    · replace h := h.2 hc
      refine zw_iload_n (pc := 19) (n := 1) (i := 1) 1 (by decide +kernel) rfl rfl ?_
      exact zw_iret (pc := 20) (by decide +kernel) rfl (Nat.le_refl _) (Nat.le_refl _) ⟨_, _, rfl, rfl, h⟩
abbrev at_X11_equation_35 (g : zG) (φ : Int → zMu → Prop) (v1 : Int) (v2 : Int) (v3 : Int) (v4 : Int) (v5 : Int) (μ : zMu) : Prop := zWP g zm_X11_equation (zmo g zm_X11_equation (zΦi φ)) 35 [(0, .ref 203), (1, .int (zJ v1)), (2, .int (zJ v2)), (3, .int (zJ v3)), (4, .int (zJ v4)), (5, .int (zJ v5))] [] 0 0 (zw μ)
abbrev at_X11_equation_47 (g : zG) (φ : Int → zMu → Prop) (v1 : Int) (v2 : Int) (v3 : Int) (v4 : Int) (v5 : Int) (v6 : Int) (μ : zMu) : Prop := zWP g zm_X11_equation (zmo g zm_X11_equation (zΦi φ)) 47 [(0, .ref 203), (1, .int (zJ v1)), (2, .int (zJ v2)), (3, .int (zJ v3)), (4, .int (zJ v4)), (5, .int (zJ v5)), (6, .int (zJ v6))] [] 0 0 (zw μ)
theorem sg_X11_equation {g : zG} {φ : Int → zMu → Prop} {v1 : Int} {μ : zMu}
    (h : (zR v1) ∧ zOi g zm_X11_in [.long (zL v1), .long (zL 0), .long (zL 3)] μ (fun x3 μ2 => (zR x3) ∧ ((¬ x3 = 0 → (zR (μ2 203 4)) ∧ ((¬ (μ2 203 4) = 0 → at_X11_equation_35 g φ v1 (-5) 0 1 0 μ2) ∧ ((μ2 203 4) = 0 → φ (-11) μ2))) ∧ (x3 = 0 → φ (-1) μ2)))) : zOi g zm_X11_equation [.ref 203, .int (zJ v1)] μ φ := by
  refine zok_of (by decide +kernel) rfl ?_
  show zWP g zm_X11_equation (zmo g zm_X11_equation (zΦi φ)) 0 [(0, .ref 203), (1, .int (zJ v1))] [] 0 0 (zw μ)
  obtain ⟨o1, h⟩ := h
  refine zw_iload_n (pc := 0) (n := 1) (i := 1) 1 (by decide +kernel) rfl rfl ?_
  refine zw_i2l (pc := 1) (by decide +kernel) o1 ?_
  refine zw_lconst (pc := 2) (n := 0) (v := 0) (by decide +kernel) rfl ?_
  refine zw_ldc2 (pc := 3) (v := 3) (by decide +kernel) zk_11_238 ?_
  refine zx_callS (pc := 6) (As := [.long (zL v1), .long (zL 0), .long (zL 3)]) h zi_X11_in zis_X11_in zl_11_114 (by decide +kernel) ⟨Nat.le_of_ble_eq_true rfl, Nat.le_of_ble_eq_true rfl⟩ rfl rfl ⟨rfl, rfl⟩ ⟨Nat.zero_le _, Nat.zero_le _⟩ (zki (fun x3 μ2 h => ?_))
  obtain ⟨o4, h⟩ := h
  refine zw_if_ne (pc := 9) (off := 5) (tgt := 14) (by decide +kernel) (by decide) o4 (fun hc => ?_) (fun hc => ?_)
  · replace h := h.1 hc
    obtain ⟨o5, h⟩ := h
    refine zw_aload_n (pc := 14) (n := 0) (i := 0) 0 (by decide +kernel) rfl rfl ?_
    refine zx_getI (pc := 15) zf_11_128 (by decide +kernel) rfl zc_203 ?_
    refine zw_if_ne (pc := 18) (off := 6) (tgt := 24) (by decide +kernel) (by decide) o5 (fun hc => ?_) (fun hc => ?_)
    · replace h := h.1 hc
      refine zw_bipush (pc := 24) (n := (-5)) (by decide +kernel) (by decide +kernel) ?_
      refine zw_istore_n (pc := 26) (n := 2) (i := 2) (lv' := [(0, .ref 203), (1, .int (zJ v1)), (2, .int (zJ (-5)))]) (by decide +kernel) rfl (Nat.le_of_ble_eq_true rfl) rfl ?_
      refine zw_iconst (pc := 27) (n := 0) (by decide +kernel) ?_
      refine zw_istore_n (pc := 28) (n := 3) (i := 3) (lv' := [(0, .ref 203), (1, .int (zJ v1)), (2, .int (zJ (-5))), (3, .int (zJ 0))]) (by decide +kernel) rfl (Nat.le_of_ble_eq_true rfl) rfl ?_
      refine zw_iconst (pc := 29) (n := 1) (by decide +kernel) ?_
      refine zw_istore (pc := 30) (i := 4) (lv' := [(0, .ref 203), (1, .int (zJ v1)), (2, .int (zJ (-5))), (3, .int (zJ 0)), (4, .int (zJ 1))]) (by decide +kernel) (Nat.le_of_ble_eq_true rfl) rfl ?_
      refine zw_iconst (pc := 32) (n := 0) (by decide +kernel) ?_
      refine zw_istore (pc := 33) (i := 5) (lv' := [(0, .ref 203), (1, .int (zJ v1)), (2, .int (zJ (-5))), (3, .int (zJ 0)), (4, .int (zJ 1)), (5, .int (zJ 0))]) (by decide +kernel) (Nat.le_of_ble_eq_true rfl) rfl ?_
      exact h
    · replace h := h.2 hc
      refine zw_bipush (pc := 21) (n := (-11)) (by decide +kernel) (by decide +kernel) ?_
      exact zw_iret (pc := 23) (by decide +kernel) rfl (Nat.le_refl _) (Nat.le_refl _) ⟨_, _, rfl, rfl, h⟩
  · replace h := h.2 hc
    refine zw_iconst (pc := 12) (n := (-1)) (by decide +kernel) ?_
    exact zw_iret (pc := 13) (by decide +kernel) rfl (Nat.le_refl _) (Nat.le_refl _) ⟨_, _, rfl, rfl, h⟩
theorem sg_X11_equation_35 {g : zG} {φ : Int → zMu → Prop} {v1 : Int} {v2 : Int} {v3 : Int} {v4 : Int} {v5 : Int} {μ : zMu}
    (h : (zR v5) ∧ (zR (μ 203 4)) ∧ (((μ 203 4) < v5 → (zR v1) ∧ ((¬ v1 = 0 → ((¬ v1 = 1 → ((¬ v1 = 2 → φ v3 μ) ∧ (v1 = 2 → (zR v4) ∧ ((v4 = 0 → φ 0 μ) ∧ (¬ v4 = 0 → φ 1 μ))))) ∧ (v1 = 1 → φ v2 μ))) ∧ (v1 = 0 → φ (μ 203 4) μ))) ∧ (v5 ≤ (μ 203 4) → at_X11_equation_47 g φ v1 v2 v3 v4 v5 0 μ))) : at_X11_equation_35 g φ v1 v2 v3 v4 v5 μ := by
  obtain ⟨o1, o2, h⟩ := h
  refine zw_iload (pc := 35) (i := 5) 5 (by decide +kernel) rfl ?_
  refine zw_aload_n (pc := 37) (n := 0) (i := 0) 0 (by decide +kernel) rfl rfl ?_
  refine zx_getI (pc := 38) zf_11_128 (by decide +kernel) rfl zc_203 ?_
  refine zw_icmp_gt (pc := 41) (off := 99) (tgt := 140) (by decide +kernel) (by decide) o1 o2 (fun hc => ?_) (fun hc => ?_)
  · replace h := h.1 hc
    obtain ⟨o3, h⟩ := h
    refine zw_iload_n (pc := 140) (n := 1) (i := 1) 1 (by decide +kernel) rfl rfl ?_
    refine zw_if_ne (pc := 141) (off := 10) (tgt := 151) (by decide +kernel) (by decide) o3 (fun hc => ?_) (fun hc => ?_)
    · replace h := h.1 hc
      refine zw_iload_n (pc := 151) (n := 1) (i := 1) 1 (by decide +kernel) rfl rfl ?_
      refine zw_iconst (pc := 152) (n := 1) (by decide +kernel) ?_
      refine zw_icmp_ne (pc := 153) (off := 7) (tgt := 160) (by decide +kernel) (by decide) o3 ⟨by decide, by decide⟩ (fun hc => ?_) (fun hc => ?_)
      · replace h := h.1 hc
        refine zw_iload_n (pc := 160) (n := 1) (i := 1) 1 (by decide +kernel) rfl rfl ?_
        refine zw_iconst (pc := 161) (n := 2) (by decide +kernel) ?_
        refine zw_icmp_ne (pc := 162) (off := 16) (tgt := 178) (by decide +kernel) (by decide) o3 ⟨by decide, by decide⟩ (fun hc => ?_) (fun hc => ?_)
        · replace h := h.1 hc
          refine zw_iload_n (pc := 178) (n := 3) (i := 3) 3 (by decide +kernel) rfl rfl ?_
          exact zw_iret (pc := 179) (by decide +kernel) rfl (Nat.le_refl _) (Nat.le_refl _) ⟨_, _, rfl, rfl, h⟩
        · replace h := h.2 hc
          obtain ⟨o4, h⟩ := h
          refine zw_iload (pc := 165) (i := 4) 4 (by decide +kernel) rfl ?_
          refine zw_if_eq (pc := 167) (off := 7) (tgt := 174) (by decide +kernel) (by decide) o4 (fun hc => ?_) (fun hc => ?_)
          · replace h := h.1 hc
            refine zw_iconst (pc := 174) (n := 0) (by decide +kernel) ?_
            refine zw_goto (pc := 175) (off := 4) (tgt := 179) (by decide +kernel) (by decide) ?_
            exact zw_iret (pc := 179) (by decide +kernel) rfl (Nat.le_refl _) (Nat.le_refl _) ⟨_, _, rfl, rfl, h⟩
          · replace h := h.2 hc
            refine zw_iconst (pc := 170) (n := 1) (by decide +kernel) ?_
            refine zw_goto (pc := 171) (off := 8) (tgt := 179) (by decide +kernel) (by decide) ?_
            exact zw_iret (pc := 179) (by decide +kernel) rfl (Nat.le_refl _) (Nat.le_refl _) ⟨_, _, rfl, rfl, h⟩
      · replace h := h.2 hc
        refine zw_iload_n (pc := 156) (n := 2) (i := 2) 2 (by decide +kernel) rfl rfl ?_
        refine zw_goto (pc := 157) (off := 22) (tgt := 179) (by decide +kernel) (by decide) ?_
        exact zw_iret (pc := 179) (by decide +kernel) rfl (Nat.le_refl _) (Nat.le_refl _) ⟨_, _, rfl, rfl, h⟩
    · replace h := h.2 hc
      refine zw_aload_n (pc := 144) (n := 0) (i := 0) 0 (by decide +kernel) rfl rfl ?_
      refine zx_getI (pc := 145) zf_11_128 (by decide +kernel) rfl zc_203 ?_
      refine zw_goto (pc := 148) (off := 31) (tgt := 179) (by decide +kernel) (by decide) ?_
      exact zw_iret (pc := 179) (by decide +kernel) rfl (Nat.le_refl _) (Nat.le_refl _) ⟨_, _, rfl, rfl, h⟩
  · replace h := h.2 hc
    refine zw_iconst (pc := 44) (n := 0) (by decide +kernel) ?_
    refine zw_istore (pc := 45) (i := 6) (lv' := [(0, .ref 203), (1, .int (zJ v1)), (2, .int (zJ v2)), (3, .int (zJ v3)), (4, .int (zJ v4)), (5, .int (zJ v5)), (6, .int (zJ 0))]) (by decide +kernel) (Nat.le_of_ble_eq_true rfl) rfl ?_
    exact h
theorem sg_X11_equation_47 {g : zG} {φ : Int → zMu → Prop} {v1 : Int} {v2 : Int} {v3 : Int} {v4 : Int} {v5 : Int} {v6 : Int} {μ : zMu}
    (h : (zR v6) ∧ (zR (μ 203 4)) ∧ (((μ 203 4) < v6 → at_X11_equation_35 g φ v1 v2 v3 v4 (v5 + 1) μ) ∧ (v6 ≤ (μ 203 4) → zOi g zm_X11_termAt [.ref 203, .int (zJ v5), .int (zJ v6)] μ (fun x4 μ3 => (zR x4) ∧ ((x4 = 0 → zOi g zm_X11_termAt [.ref 203, .int (zJ v5), .int (zJ v6)] μ3 (fun x7 μ6 => (zR x7) ∧ ((x7 = 0 → zOi g zm_X11_termAt [.ref 203, .int (zJ v5), .int (zJ v6)] μ6 (fun x10 μ9 => zOi g zm_X11_termAt [.ref 203, .int (zJ v6), .int (zJ v5)] μ9 (fun x12 μ11 => (zR x10) ∧ (zR x12) ∧ ((¬ x10 = x12 → at_X11_equation_47 g φ v1 v2 (v3 + 0) (zand v4 0) v5 (v6 + 1) μ11) ∧ (x10 = x12 → at_X11_equation_47 g φ v1 v2 (v3 + 0) (zand v4 1) v5 (v6 + 1) μ11))))) ∧ (¬ x7 = 0 → zOi g zm_X11_termAt [.ref 203, .int (zJ v5), .int (zJ v6)] μ6 (fun x16 μ15 => zOi g zm_X11_termAt [.ref 203, .int (zJ v6), .int (zJ v5)] μ15 (fun x18 μ17 => (zR x16) ∧ (zR x18) ∧ ((¬ x16 = x18 → at_X11_equation_47 g φ v1 v2 (v3 + 1) (zand v4 0) v5 (v6 + 1) μ17) ∧ (x16 = x18 → at_X11_equation_47 g φ v1 v2 (v3 + 1) (zand v4 1) v5 (v6 + 1) μ17)))))))) ∧ (¬ x4 = 0 → zOi g zm_X11_termAt [.ref 203, .int (zJ v5), .int (zJ v6)] μ3 (fun x22 μ21 => (zR x22) ∧ ((x22 = 0 → zOi g zm_X11_termAt [.ref 203, .int (zJ v5), .int (zJ v6)] μ21 (fun x25 μ24 => zOi g zm_X11_termAt [.ref 203, .int (zJ v6), .int (zJ v5)] μ24 (fun x27 μ26 => (zR x25) ∧ (zR x27) ∧ ((¬ x25 = x27 → at_X11_equation_47 g φ v1 ((10 * v5) + v6) (v3 + 0) (zand v4 0) v5 (v6 + 1) μ26) ∧ (x25 = x27 → at_X11_equation_47 g φ v1 ((10 * v5) + v6) (v3 + 0) (zand v4 1) v5 (v6 + 1) μ26))))) ∧ (¬ x22 = 0 → zOi g zm_X11_termAt [.ref 203, .int (zJ v5), .int (zJ v6)] μ21 (fun x31 μ30 => zOi g zm_X11_termAt [.ref 203, .int (zJ v6), .int (zJ v5)] μ30 (fun x33 μ32 => (zR x31) ∧ (zR x33) ∧ ((¬ x31 = x33 → at_X11_equation_47 g φ v1 ((10 * v5) + v6) (v3 + 1) (zand v4 0) v5 (v6 + 1) μ32) ∧ (x31 = x33 → at_X11_equation_47 g φ v1 ((10 * v5) + v6) (v3 + 1) (zand v4 1) v5 (v6 + 1) μ32))))))))))))) : at_X11_equation_47 g φ v1 v2 v3 v4 v5 v6 μ := by
  obtain ⟨o1, o2, h⟩ := h
  refine zw_iload (pc := 47) (i := 6) 6 (by decide +kernel) rfl ?_
  refine zw_aload_n (pc := 49) (n := 0) (i := 0) 0 (by decide +kernel) rfl rfl ?_
  refine zx_getI (pc := 50) zf_11_128 (by decide +kernel) rfl zc_203 ?_
  refine zw_icmp_gt (pc := 53) (off := 81) (tgt := 134) (by decide +kernel) (by decide) o1 o2 (fun hc => ?_) (fun hc => ?_)
  · replace h := h.1 hc
    refine zw_iinc (pc := 134) (i := 5) (n := 1) (lv' := [(0, .ref 203), (1, .int (zJ v1)), (2, .int (zJ v2)), (3, .int (zJ v3)), (4, .int (zJ v4)), (5, .int (zJ (v5 + 1))), (6, .int (zJ v6))]) 5 (by decide +kernel) rfl rfl (Nat.le_of_ble_eq_true rfl) rfl ?_
    refine zw_goto (pc := 137) (off := (-102)) (tgt := 35) (by decide +kernel) (by decide) ?_
    exact zw_pick (lv' := [(0, .ref 203), (1, .int (zJ v1)), (2, .int (zJ v2)), (3, .int (zJ v3)), (4, .int (zJ v4)), (5, .int (zJ (v5 + 1)))]) [0, 1, 2, 3, 4, 5] rfl h
  · replace h := h.2 hc
    refine zw_aload_n (pc := 56) (n := 0) (i := 0) 0 (by decide +kernel) rfl rfl ?_
    refine zw_iload (pc := 57) (i := 5) 5 (by decide +kernel) rfl ?_
    refine zw_iload (pc := 59) (i := 6) 6 (by decide +kernel) rfl ?_
    refine zx_callV (pc := 61) (As := [.int (zJ v5), .int (zJ v6)]) h zi_X11_termAt zii_X11_termAt zie_X11_termAt zl_11_240 (by decide +kernel) ⟨Nat.le_of_ble_eq_true rfl, Nat.le_of_ble_eq_true rfl⟩ rfl zc_203 (by decide) rfl rfl ⟨rfl, rfl⟩ ⟨Nat.zero_le _, Nat.zero_le _⟩ (zki (fun x4 μ3 h => ?_))
    obtain ⟨o5, h⟩ := h
    refine zw_if_eq (pc := 64) (off := 14) (tgt := 78) (by decide +kernel) (by decide) o5 (fun hc => ?_) (fun hc => ?_)
    · replace h := h.1 hc
      refine zw_iload_n (pc := 78) (n := 2) (i := 2) 2 (by decide +kernel) rfl rfl ?_
      refine zw_istore_n (pc := 79) (n := 2) (i := 2) (lv' := [(0, .ref 203), (1, .int (zJ v1)), (2, .int (zJ v2)), (3, .int (zJ v3)), (4, .int (zJ v4)), (5, .int (zJ v5)), (6, .int (zJ v6))]) (by decide +kernel) rfl (Nat.le_of_ble_eq_true rfl) rfl ?_
      refine zw_iload_n (pc := 80) (n := 3) (i := 3) 3 (by decide +kernel) rfl rfl ?_
      refine zw_aload_n (pc := 81) (n := 0) (i := 0) 0 (by decide +kernel) rfl rfl ?_
      refine zw_iload (pc := 82) (i := 5) 5 (by decide +kernel) rfl ?_
      refine zw_iload (pc := 84) (i := 6) 6 (by decide +kernel) rfl ?_
      refine zx_callV (pc := 86) (As := [.int (zJ v5), .int (zJ v6)]) h zi_X11_termAt zii_X11_termAt zie_X11_termAt zl_11_240 (by decide +kernel) ⟨Nat.le_of_ble_eq_true rfl, Nat.le_of_ble_eq_true rfl⟩ rfl zc_203 (by decide) rfl rfl ⟨rfl, rfl⟩ ⟨Nat.zero_le _, Nat.zero_le _⟩ (zki (fun x7 μ6 h => ?_))
      obtain ⟨o8, h⟩ := h
      refine zw_if_eq (pc := 89) (off := 7) (tgt := 96) (by decide +kernel) (by decide) o8 (fun hc => ?_) (fun hc => ?_)
      · replace h := h.1 hc
        refine zw_iconst (pc := 96) (n := 0) (by decide +kernel) ?_
        refine zw_iadd (pc := 97) (by decide +kernel) ?_
        refine zw_istore_n (pc := 98) (n := 3) (i := 3) (lv' := [(0, .ref 203), (1, .int (zJ v1)), (2, .int (zJ v2)), (3, .int (zJ (v3 + 0))), (4, .int (zJ v4)), (5, .int (zJ v5)), (6, .int (zJ v6))]) (by decide +kernel) rfl (Nat.le_of_ble_eq_true rfl) rfl ?_
        refine zw_iload (pc := 99) (i := 4) 4 (by decide +kernel) rfl ?_
        refine zw_aload_n (pc := 101) (n := 0) (i := 0) 0 (by decide +kernel) rfl rfl ?_
        refine zw_iload (pc := 102) (i := 5) 5 (by decide +kernel) rfl ?_
        refine zw_iload (pc := 104) (i := 6) 6 (by decide +kernel) rfl ?_
        refine zx_callV (pc := 106) (As := [.int (zJ v5), .int (zJ v6)]) h zi_X11_termAt zii_X11_termAt zie_X11_termAt zl_11_240 (by decide +kernel) ⟨Nat.le_of_ble_eq_true rfl, Nat.le_of_ble_eq_true rfl⟩ rfl zc_203 (by decide) rfl rfl ⟨rfl, rfl⟩ ⟨Nat.zero_le _, Nat.zero_le _⟩ (zki (fun x10 μ9 h => ?_))
        refine zw_aload_n (pc := 109) (n := 0) (i := 0) 0 (by decide +kernel) rfl rfl ?_
        refine zw_iload (pc := 110) (i := 6) 6 (by decide +kernel) rfl ?_
        refine zw_iload (pc := 112) (i := 5) 5 (by decide +kernel) rfl ?_
        refine zx_callV (pc := 114) (As := [.int (zJ v6), .int (zJ v5)]) h zi_X11_termAt zii_X11_termAt zie_X11_termAt zl_11_240 (by decide +kernel) ⟨Nat.le_of_ble_eq_true rfl, Nat.le_of_ble_eq_true rfl⟩ rfl zc_203 (by decide) rfl rfl ⟨rfl, rfl⟩ ⟨Nat.zero_le _, Nat.zero_le _⟩ (zki (fun x12 μ11 h => ?_))
        obtain ⟨o13, o14, h⟩ := h
        refine zw_icmp_ne (pc := 117) (off := 7) (tgt := 124) (by decide +kernel) (by decide) o13 o14 (fun hc => ?_) (fun hc => ?_)
        · replace h := h.1 hc
          refine zw_iconst (pc := 124) (n := 0) (by decide +kernel) ?_
          refine zw_iand (pc := 125) (by decide +kernel) ?_
          refine zw_istore (pc := 126) (i := 4) (lv' := [(0, .ref 203), (1, .int (zJ v1)), (2, .int (zJ v2)), (3, .int (zJ (v3 + 0))), (4, .int (zJ (zand v4 0))), (5, .int (zJ v5)), (6, .int (zJ v6))]) (by decide +kernel) (Nat.le_of_ble_eq_true rfl) rfl ?_
          refine zw_iinc (pc := 128) (i := 6) (n := 1) (lv' := [(0, .ref 203), (1, .int (zJ v1)), (2, .int (zJ v2)), (3, .int (zJ (v3 + 0))), (4, .int (zJ (zand v4 0))), (5, .int (zJ v5)), (6, .int (zJ (v6 + 1)))]) 6 (by decide +kernel) rfl rfl (Nat.le_of_ble_eq_true rfl) rfl ?_
          refine zw_goto (pc := 131) (off := (-84)) (tgt := 47) (by decide +kernel) (by decide) ?_
          exact h
        · replace h := h.2 hc
          refine zw_iconst (pc := 120) (n := 1) (by decide +kernel) ?_
          refine zw_goto (pc := 121) (off := 4) (tgt := 125) (by decide +kernel) (by decide) ?_
          refine zw_iand (pc := 125) (by decide +kernel) ?_
          refine zw_istore (pc := 126) (i := 4) (lv' := [(0, .ref 203), (1, .int (zJ v1)), (2, .int (zJ v2)), (3, .int (zJ (v3 + 0))), (4, .int (zJ (zand v4 1))), (5, .int (zJ v5)), (6, .int (zJ v6))]) (by decide +kernel) (Nat.le_of_ble_eq_true rfl) rfl ?_
          refine zw_iinc (pc := 128) (i := 6) (n := 1) (lv' := [(0, .ref 203), (1, .int (zJ v1)), (2, .int (zJ v2)), (3, .int (zJ (v3 + 0))), (4, .int (zJ (zand v4 1))), (5, .int (zJ v5)), (6, .int (zJ (v6 + 1)))]) 6 (by decide +kernel) rfl rfl (Nat.le_of_ble_eq_true rfl) rfl ?_
          refine zw_goto (pc := 131) (off := (-84)) (tgt := 47) (by decide +kernel) (by decide) ?_
          exact h
      · replace h := h.2 hc
        refine zw_iconst (pc := 92) (n := 1) (by decide +kernel) ?_
        refine zw_goto (pc := 93) (off := 4) (tgt := 97) (by decide +kernel) (by decide) ?_
        refine zw_iadd (pc := 97) (by decide +kernel) ?_
        refine zw_istore_n (pc := 98) (n := 3) (i := 3) (lv' := [(0, .ref 203), (1, .int (zJ v1)), (2, .int (zJ v2)), (3, .int (zJ (v3 + 1))), (4, .int (zJ v4)), (5, .int (zJ v5)), (6, .int (zJ v6))]) (by decide +kernel) rfl (Nat.le_of_ble_eq_true rfl) rfl ?_
        refine zw_iload (pc := 99) (i := 4) 4 (by decide +kernel) rfl ?_
        refine zw_aload_n (pc := 101) (n := 0) (i := 0) 0 (by decide +kernel) rfl rfl ?_
        refine zw_iload (pc := 102) (i := 5) 5 (by decide +kernel) rfl ?_
        refine zw_iload (pc := 104) (i := 6) 6 (by decide +kernel) rfl ?_
        refine zx_callV (pc := 106) (As := [.int (zJ v5), .int (zJ v6)]) h zi_X11_termAt zii_X11_termAt zie_X11_termAt zl_11_240 (by decide +kernel) ⟨Nat.le_of_ble_eq_true rfl, Nat.le_of_ble_eq_true rfl⟩ rfl zc_203 (by decide) rfl rfl ⟨rfl, rfl⟩ ⟨Nat.zero_le _, Nat.zero_le _⟩ (zki (fun x16 μ15 h => ?_))
        refine zw_aload_n (pc := 109) (n := 0) (i := 0) 0 (by decide +kernel) rfl rfl ?_
        refine zw_iload (pc := 110) (i := 6) 6 (by decide +kernel) rfl ?_
        refine zw_iload (pc := 112) (i := 5) 5 (by decide +kernel) rfl ?_
        refine zx_callV (pc := 114) (As := [.int (zJ v6), .int (zJ v5)]) h zi_X11_termAt zii_X11_termAt zie_X11_termAt zl_11_240 (by decide +kernel) ⟨Nat.le_of_ble_eq_true rfl, Nat.le_of_ble_eq_true rfl⟩ rfl zc_203 (by decide) rfl rfl ⟨rfl, rfl⟩ ⟨Nat.zero_le _, Nat.zero_le _⟩ (zki (fun x18 μ17 h => ?_))
        obtain ⟨o19, o20, h⟩ := h
        refine zw_icmp_ne (pc := 117) (off := 7) (tgt := 124) (by decide +kernel) (by decide) o19 o20 (fun hc => ?_) (fun hc => ?_)
        · replace h := h.1 hc
          refine zw_iconst (pc := 124) (n := 0) (by decide +kernel) ?_
          refine zw_iand (pc := 125) (by decide +kernel) ?_
          refine zw_istore (pc := 126) (i := 4) (lv' := [(0, .ref 203), (1, .int (zJ v1)), (2, .int (zJ v2)), (3, .int (zJ (v3 + 1))), (4, .int (zJ (zand v4 0))), (5, .int (zJ v5)), (6, .int (zJ v6))]) (by decide +kernel) (Nat.le_of_ble_eq_true rfl) rfl ?_
          refine zw_iinc (pc := 128) (i := 6) (n := 1) (lv' := [(0, .ref 203), (1, .int (zJ v1)), (2, .int (zJ v2)), (3, .int (zJ (v3 + 1))), (4, .int (zJ (zand v4 0))), (5, .int (zJ v5)), (6, .int (zJ (v6 + 1)))]) 6 (by decide +kernel) rfl rfl (Nat.le_of_ble_eq_true rfl) rfl ?_
          refine zw_goto (pc := 131) (off := (-84)) (tgt := 47) (by decide +kernel) (by decide) ?_
          exact h
        · replace h := h.2 hc
          refine zw_iconst (pc := 120) (n := 1) (by decide +kernel) ?_
          refine zw_goto (pc := 121) (off := 4) (tgt := 125) (by decide +kernel) (by decide) ?_
          refine zw_iand (pc := 125) (by decide +kernel) ?_
          refine zw_istore (pc := 126) (i := 4) (lv' := [(0, .ref 203), (1, .int (zJ v1)), (2, .int (zJ v2)), (3, .int (zJ (v3 + 1))), (4, .int (zJ (zand v4 1))), (5, .int (zJ v5)), (6, .int (zJ v6))]) (by decide +kernel) (Nat.le_of_ble_eq_true rfl) rfl ?_
          refine zw_iinc (pc := 128) (i := 6) (n := 1) (lv' := [(0, .ref 203), (1, .int (zJ v1)), (2, .int (zJ v2)), (3, .int (zJ (v3 + 1))), (4, .int (zJ (zand v4 1))), (5, .int (zJ v5)), (6, .int (zJ (v6 + 1)))]) 6 (by decide +kernel) rfl rfl (Nat.le_of_ble_eq_true rfl) rfl ?_
          refine zw_goto (pc := 131) (off := (-84)) (tgt := 47) (by decide +kernel) (by decide) ?_
          exact h
    · replace h := h.2 hc
      refine zw_bipush (pc := 67) (n := 10) (by decide +kernel) (by decide +kernel) ?_
      refine zw_iload (pc := 69) (i := 5) 5 (by decide +kernel) rfl ?_
      refine zw_imul (pc := 71) (by decide +kernel) ?_
      refine zw_iload (pc := 72) (i := 6) 6 (by decide +kernel) rfl ?_
      refine zw_iadd (pc := 74) (by decide +kernel) ?_
      refine zw_goto (pc := 75) (off := 4) (tgt := 79) (by decide +kernel) (by decide) ?_
      refine zw_istore_n (pc := 79) (n := 2) (i := 2) (lv' := [(0, .ref 203), (1, .int (zJ v1)), (2, .int (zJ ((10 * v5) + v6))), (3, .int (zJ v3)), (4, .int (zJ v4)), (5, .int (zJ v5)), (6, .int (zJ v6))]) (by decide +kernel) rfl (Nat.le_of_ble_eq_true rfl) rfl ?_
      refine zw_iload_n (pc := 80) (n := 3) (i := 3) 3 (by decide +kernel) rfl rfl ?_
      refine zw_aload_n (pc := 81) (n := 0) (i := 0) 0 (by decide +kernel) rfl rfl ?_
      refine zw_iload (pc := 82) (i := 5) 5 (by decide +kernel) rfl ?_
      refine zw_iload (pc := 84) (i := 6) 6 (by decide +kernel) rfl ?_
      refine zx_callV (pc := 86) (As := [.int (zJ v5), .int (zJ v6)]) h zi_X11_termAt zii_X11_termAt zie_X11_termAt zl_11_240 (by decide +kernel) ⟨Nat.le_of_ble_eq_true rfl, Nat.le_of_ble_eq_true rfl⟩ rfl zc_203 (by decide) rfl rfl ⟨rfl, rfl⟩ ⟨Nat.zero_le _, Nat.zero_le _⟩ (zki (fun x22 μ21 h => ?_))
      obtain ⟨o23, h⟩ := h
      refine zw_if_eq (pc := 89) (off := 7) (tgt := 96) (by decide +kernel) (by decide) o23 (fun hc => ?_) (fun hc => ?_)
      · replace h := h.1 hc
        refine zw_iconst (pc := 96) (n := 0) (by decide +kernel) ?_
        refine zw_iadd (pc := 97) (by decide +kernel) ?_
        refine zw_istore_n (pc := 98) (n := 3) (i := 3) (lv' := [(0, .ref 203), (1, .int (zJ v1)), (2, .int (zJ ((10 * v5) + v6))), (3, .int (zJ (v3 + 0))), (4, .int (zJ v4)), (5, .int (zJ v5)), (6, .int (zJ v6))]) (by decide +kernel) rfl (Nat.le_of_ble_eq_true rfl) rfl ?_
        refine zw_iload (pc := 99) (i := 4) 4 (by decide +kernel) rfl ?_
        refine zw_aload_n (pc := 101) (n := 0) (i := 0) 0 (by decide +kernel) rfl rfl ?_
        refine zw_iload (pc := 102) (i := 5) 5 (by decide +kernel) rfl ?_
        refine zw_iload (pc := 104) (i := 6) 6 (by decide +kernel) rfl ?_
        refine zx_callV (pc := 106) (As := [.int (zJ v5), .int (zJ v6)]) h zi_X11_termAt zii_X11_termAt zie_X11_termAt zl_11_240 (by decide +kernel) ⟨Nat.le_of_ble_eq_true rfl, Nat.le_of_ble_eq_true rfl⟩ rfl zc_203 (by decide) rfl rfl ⟨rfl, rfl⟩ ⟨Nat.zero_le _, Nat.zero_le _⟩ (zki (fun x25 μ24 h => ?_))
        refine zw_aload_n (pc := 109) (n := 0) (i := 0) 0 (by decide +kernel) rfl rfl ?_
        refine zw_iload (pc := 110) (i := 6) 6 (by decide +kernel) rfl ?_
        refine zw_iload (pc := 112) (i := 5) 5 (by decide +kernel) rfl ?_
        refine zx_callV (pc := 114) (As := [.int (zJ v6), .int (zJ v5)]) h zi_X11_termAt zii_X11_termAt zie_X11_termAt zl_11_240 (by decide +kernel) ⟨Nat.le_of_ble_eq_true rfl, Nat.le_of_ble_eq_true rfl⟩ rfl zc_203 (by decide) rfl rfl ⟨rfl, rfl⟩ ⟨Nat.zero_le _, Nat.zero_le _⟩ (zki (fun x27 μ26 h => ?_))
        obtain ⟨o28, o29, h⟩ := h
        refine zw_icmp_ne (pc := 117) (off := 7) (tgt := 124) (by decide +kernel) (by decide) o28 o29 (fun hc => ?_) (fun hc => ?_)
        · replace h := h.1 hc
          refine zw_iconst (pc := 124) (n := 0) (by decide +kernel) ?_
          refine zw_iand (pc := 125) (by decide +kernel) ?_
          refine zw_istore (pc := 126) (i := 4) (lv' := [(0, .ref 203), (1, .int (zJ v1)), (2, .int (zJ ((10 * v5) + v6))), (3, .int (zJ (v3 + 0))), (4, .int (zJ (zand v4 0))), (5, .int (zJ v5)), (6, .int (zJ v6))]) (by decide +kernel) (Nat.le_of_ble_eq_true rfl) rfl ?_
          refine zw_iinc (pc := 128) (i := 6) (n := 1) (lv' := [(0, .ref 203), (1, .int (zJ v1)), (2, .int (zJ ((10 * v5) + v6))), (3, .int (zJ (v3 + 0))), (4, .int (zJ (zand v4 0))), (5, .int (zJ v5)), (6, .int (zJ (v6 + 1)))]) 6 (by decide +kernel) rfl rfl (Nat.le_of_ble_eq_true rfl) rfl ?_
          refine zw_goto (pc := 131) (off := (-84)) (tgt := 47) (by decide +kernel) (by decide) ?_
          exact h
        · replace h := h.2 hc
          refine zw_iconst (pc := 120) (n := 1) (by decide +kernel) ?_
          refine zw_goto (pc := 121) (off := 4) (tgt := 125) (by decide +kernel) (by decide) ?_
          refine zw_iand (pc := 125) (by decide +kernel) ?_
          refine zw_istore (pc := 126) (i := 4) (lv' := [(0, .ref 203), (1, .int (zJ v1)), (2, .int (zJ ((10 * v5) + v6))), (3, .int (zJ (v3 + 0))), (4, .int (zJ (zand v4 1))), (5, .int (zJ v5)), (6, .int (zJ v6))]) (by decide +kernel) (Nat.le_of_ble_eq_true rfl) rfl ?_
          refine zw_iinc (pc := 128) (i := 6) (n := 1) (lv' := [(0, .ref 203), (1, .int (zJ v1)), (2, .int (zJ ((10 * v5) + v6))), (3, .int (zJ (v3 + 0))), (4, .int (zJ (zand v4 1))), (5, .int (zJ v5)), (6, .int (zJ (v6 + 1)))]) 6 (by decide +kernel) rfl rfl (Nat.le_of_ble_eq_true rfl) rfl ?_
          refine zw_goto (pc := 131) (off := (-84)) (tgt := 47) (by decide +kernel) (by decide) ?_
          exact h
      · replace h := h.2 hc
        refine zw_iconst (pc := 92) (n := 1) (by decide +kernel) ?_
        refine zw_goto (pc := 93) (off := 4) (tgt := 97) (by decide +kernel) (by decide) ?_
        refine zw_iadd (pc := 97) (by decide +kernel) ?_
        refine zw_istore_n (pc := 98) (n := 3) (i := 3) (lv' := [(0, .ref 203), (1, .int (zJ v1)), (2, .int (zJ ((10 * v5) + v6))), (3, .int (zJ (v3 + 1))), (4, .int (zJ v4)), (5, .int (zJ v5)), (6, .int (zJ v6))]) (by decide +kernel) rfl (Nat.le_of_ble_eq_true rfl) rfl ?_
        refine zw_iload (pc := 99) (i := 4) 4 (by decide +kernel) rfl ?_
        refine zw_aload_n (pc := 101) (n := 0) (i := 0) 0 (by decide +kernel) rfl rfl ?_
        refine zw_iload (pc := 102) (i := 5) 5 (by decide +kernel) rfl ?_
        refine zw_iload (pc := 104) (i := 6) 6 (by decide +kernel) rfl ?_
        refine zx_callV (pc := 106) (As := [.int (zJ v5), .int (zJ v6)]) h zi_X11_termAt zii_X11_termAt zie_X11_termAt zl_11_240 (by decide +kernel) ⟨Nat.le_of_ble_eq_true rfl, Nat.le_of_ble_eq_true rfl⟩ rfl zc_203 (by decide) rfl rfl ⟨rfl, rfl⟩ ⟨Nat.zero_le _, Nat.zero_le _⟩ (zki (fun x31 μ30 h => ?_))
        refine zw_aload_n (pc := 109) (n := 0) (i := 0) 0 (by decide +kernel) rfl rfl ?_
        refine zw_iload (pc := 110) (i := 6) 6 (by decide +kernel) rfl ?_
        refine zw_iload (pc := 112) (i := 5) 5 (by decide +kernel) rfl ?_
        refine zx_callV (pc := 114) (As := [.int (zJ v6), .int (zJ v5)]) h zi_X11_termAt zii_X11_termAt zie_X11_termAt zl_11_240 (by decide +kernel) ⟨Nat.le_of_ble_eq_true rfl, Nat.le_of_ble_eq_true rfl⟩ rfl zc_203 (by decide) rfl rfl ⟨rfl, rfl⟩ ⟨Nat.zero_le _, Nat.zero_le _⟩ (zki (fun x33 μ32 h => ?_))
        obtain ⟨o34, o35, h⟩ := h
        refine zw_icmp_ne (pc := 117) (off := 7) (tgt := 124) (by decide +kernel) (by decide) o34 o35 (fun hc => ?_) (fun hc => ?_)
        · replace h := h.1 hc
          refine zw_iconst (pc := 124) (n := 0) (by decide +kernel) ?_
          refine zw_iand (pc := 125) (by decide +kernel) ?_
          refine zw_istore (pc := 126) (i := 4) (lv' := [(0, .ref 203), (1, .int (zJ v1)), (2, .int (zJ ((10 * v5) + v6))), (3, .int (zJ (v3 + 1))), (4, .int (zJ (zand v4 0))), (5, .int (zJ v5)), (6, .int (zJ v6))]) (by decide +kernel) (Nat.le_of_ble_eq_true rfl) rfl ?_
          refine zw_iinc (pc := 128) (i := 6) (n := 1) (lv' := [(0, .ref 203), (1, .int (zJ v1)), (2, .int (zJ ((10 * v5) + v6))), (3, .int (zJ (v3 + 1))), (4, .int (zJ (zand v4 0))), (5, .int (zJ v5)), (6, .int (zJ (v6 + 1)))]) 6 (by decide +kernel) rfl rfl (Nat.le_of_ble_eq_true rfl) rfl ?_
          refine zw_goto (pc := 131) (off := (-84)) (tgt := 47) (by decide +kernel) (by decide) ?_
          exact h
        · replace h := h.2 hc
          refine zw_iconst (pc := 120) (n := 1) (by decide +kernel) ?_
          refine zw_goto (pc := 121) (off := 4) (tgt := 125) (by decide +kernel) (by decide) ?_
          refine zw_iand (pc := 125) (by decide +kernel) ?_
          refine zw_istore (pc := 126) (i := 4) (lv' := [(0, .ref 203), (1, .int (zJ v1)), (2, .int (zJ ((10 * v5) + v6))), (3, .int (zJ (v3 + 1))), (4, .int (zJ (zand v4 1))), (5, .int (zJ v5)), (6, .int (zJ v6))]) (by decide +kernel) (Nat.le_of_ble_eq_true rfl) rfl ?_
          refine zw_iinc (pc := 128) (i := 6) (n := 1) (lv' := [(0, .ref 203), (1, .int (zJ v1)), (2, .int (zJ ((10 * v5) + v6))), (3, .int (zJ (v3 + 1))), (4, .int (zJ (zand v4 1))), (5, .int (zJ v5)), (6, .int (zJ (v6 + 1)))]) 6 (by decide +kernel) rfl rfl (Nat.le_of_ble_eq_true rfl) rfl ?_
          refine zw_goto (pc := 131) (off := (-84)) (tgt := 47) (by decide +kernel) (by decide) ?_
          exact h
theorem sg_X11_termAt {g : zG} {φ : Int → zMu → Prop} {v1 : Int} {v2 : Int} {μ : zMu}
    (h : zOi g zm_X11_place [.int (zJ (μ 203 4)), .int (zJ v1), .int (zJ v2)] μ (fun x2 μ1 => (0 ≤ x2 ∧ x2 < 81) ∧ φ (μ1 207 x2.toNat) μ1)) : zOi g zm_X11_termAt [.ref 203, .int (zJ v1), .int (zJ v2)] μ φ := by
  refine zok_of (by decide +kernel) rfl ?_
  show zWP g zm_X11_termAt (zmo g zm_X11_termAt (zΦi φ)) 0 [(0, .ref 203), (1, .int (zJ v1)), (2, .int (zJ v2))] [] 0 0 (zw μ)
  refine zw_aload_n (pc := 0) (n := 0) (i := 0) 0 (by decide +kernel) rfl rfl ?_
  refine zx_getR (pc := 1) (o := 4) (r := 207) zf_11_25 (by decide +kernel) rfl zc_203 rfl (by decide) rfl ?_
  refine zw_aload_n (pc := 4) (n := 0) (i := 0) 0 (by decide +kernel) rfl rfl ?_
  refine zx_getI (pc := 5) zf_11_128 (by decide +kernel) rfl zc_203 ?_
  refine zw_iload_n (pc := 8) (n := 1) (i := 1) 1 (by decide +kernel) rfl rfl ?_
  refine zw_iload_n (pc := 9) (n := 2) (i := 2) 2 (by decide +kernel) rfl rfl ?_
  refine zx_callS (pc := 10) (As := [.int (zJ (μ 203 4)), .int (zJ v1), .int (zJ v2)]) h zi_X11_place zis_X11_place zl_11_218 (by decide +kernel) ⟨Nat.le_of_ble_eq_true rfl, Nat.le_of_ble_eq_true rfl⟩ rfl rfl ⟨rfl, rfl⟩ ⟨Nat.zero_le _, Nat.zero_le _⟩ (zki (fun x2 μ1 h => ?_))
  obtain ⟨o3, h⟩ := h
  refine zx_iaload (pc := 13) (by decide +kernel) ⟨81, zc_207, o3.1, o3.2⟩ ?_
  exact zw_iret (pc := 14) (by decide +kernel) rfl (Nat.le_refl _) (Nat.le_refl _) ⟨_, _, rfl, rfl, h⟩
theorem sg_X11_term {g : zG} {φ : Int → zMu → Prop} {v1 : Int} {v2 : Int} {μ : zMu}
    (h : (zR v1) ∧ zOi g zm_X11_in [.long (zL v1), .long (zL 0), .long (zL 8)] μ (fun x3 μ2 => (zR x3) ∧ ((x3 = 0 → φ (-1) μ2) ∧ (¬ x3 = 0 → (zR v2) ∧ zOi g zm_X11_in [.long (zL v2), .long (zL 0), .long (zL 8)] μ2 (fun x7 μ6 => (zR x7) ∧ ((¬ x7 = 0 → (zR (μ6 203 4)) ∧ ((¬ (μ6 203 4) = 0 → (((μ6 203 4) < v1 → φ (-1) μ6) ∧ (v1 ≤ (μ6 203 4) → (((μ6 203 4) < v2 → φ (-1) μ6) ∧ (v2 ≤ (μ6 203 4) → zOi g zm_X11_termAt [.ref 203, .int (zJ v1), .int (zJ v2)] μ6 (fun x11 μ10 => φ x11 μ10)))))) ∧ ((μ6 203 4) = 0 → φ (-11) μ6))) ∧ (x7 = 0 → φ (-1) μ6))))))) : zOi g zm_X11_term [.ref 203, .int (zJ v1), .int (zJ v2)] μ φ := by
  refine zok_of (by decide +kernel) rfl ?_
  show zWP g zm_X11_term (zmo g zm_X11_term (zΦi φ)) 0 [(0, .ref 203), (1, .int (zJ v1)), (2, .int (zJ v2))] [] 0 0 (zw μ)
  obtain ⟨o1, h⟩ := h
  refine zw_iload_n (pc := 0) (n := 1) (i := 1) 1 (by decide +kernel) rfl rfl ?_
  refine zw_i2l (pc := 1) (by decide +kernel) o1 ?_
  refine zw_lconst (pc := 2) (n := 0) (v := 0) (by decide +kernel) rfl ?_
  refine zw_ldc2 (pc := 3) (v := 8) (by decide +kernel) zk_11_229 ?_
  refine zx_callS (pc := 6) (As := [.long (zL v1), .long (zL 0), .long (zL 8)]) h zi_X11_in zis_X11_in zl_11_114 (by decide +kernel) ⟨Nat.le_of_ble_eq_true rfl, Nat.le_of_ble_eq_true rfl⟩ rfl rfl ⟨rfl, rfl⟩ ⟨Nat.zero_le _, Nat.zero_le _⟩ (zki (fun x3 μ2 h => ?_))
  obtain ⟨o4, h⟩ := h
  refine zw_if_eq (pc := 9) (off := 15) (tgt := 24) (by decide +kernel) (by decide) o4 (fun hc => ?_) (fun hc => ?_)
  · replace h := h.1 hc
    refine zw_iconst (pc := 24) (n := (-1)) (by decide +kernel) ?_
    exact zw_iret (pc := 25) (by decide +kernel) rfl (Nat.le_refl _) (Nat.le_refl _) ⟨_, _, rfl, rfl, h⟩
  · replace h := h.2 hc
    obtain ⟨o5, h⟩ := h
    refine zw_iload_n (pc := 12) (n := 2) (i := 2) 2 (by decide +kernel) rfl rfl ?_
    refine zw_i2l (pc := 13) (by decide +kernel) o5 ?_
    refine zw_lconst (pc := 14) (n := 0) (v := 0) (by decide +kernel) rfl ?_
    refine zw_ldc2 (pc := 15) (v := 8) (by decide +kernel) zk_11_229 ?_
    refine zx_callS (pc := 18) (As := [.long (zL v2), .long (zL 0), .long (zL 8)]) h zi_X11_in zis_X11_in zl_11_114 (by decide +kernel) ⟨Nat.le_of_ble_eq_true rfl, Nat.le_of_ble_eq_true rfl⟩ rfl rfl ⟨rfl, rfl⟩ ⟨Nat.zero_le _, Nat.zero_le _⟩ (zki (fun x7 μ6 h => ?_))
    obtain ⟨o8, h⟩ := h
    refine zw_if_ne (pc := 21) (off := 5) (tgt := 26) (by decide +kernel) (by decide) o8 (fun hc => ?_) (fun hc => ?_)
    · replace h := h.1 hc
      obtain ⟨o9, h⟩ := h
      refine zw_aload_n (pc := 26) (n := 0) (i := 0) 0 (by decide +kernel) rfl rfl ?_
      refine zx_getI (pc := 27) zf_11_128 (by decide +kernel) rfl zc_203 ?_
      refine zw_if_ne (pc := 30) (off := 6) (tgt := 36) (by decide +kernel) (by decide) o9 (fun hc => ?_) (fun hc => ?_)
      · replace h := h.1 hc
        refine zw_iload_n (pc := 36) (n := 1) (i := 1) 1 (by decide +kernel) rfl rfl ?_
        refine zw_aload_n (pc := 37) (n := 0) (i := 0) 0 (by decide +kernel) rfl rfl ?_
        refine zx_getI (pc := 38) zf_11_128 (by decide +kernel) rfl zc_203 ?_
        refine zw_icmp_gt (pc := 41) (off := 20) (tgt := 61) (by decide +kernel) (by decide) o1 o9 (fun hc => ?_) (fun hc => ?_)
        · replace h := h.1 hc
          refine zw_iconst (pc := 61) (n := (-1)) (by decide +kernel) ?_
          exact zw_iret (pc := 62) (by decide +kernel) rfl (Nat.le_refl _) (Nat.le_refl _) ⟨_, _, rfl, rfl, h⟩
        · replace h := h.2 hc
          refine zw_iload_n (pc := 44) (n := 2) (i := 2) 2 (by decide +kernel) rfl rfl ?_
          refine zw_aload_n (pc := 45) (n := 0) (i := 0) 0 (by decide +kernel) rfl rfl ?_
          refine zx_getI (pc := 46) zf_11_128 (by decide +kernel) rfl zc_203 ?_
          refine zw_icmp_gt (pc := 49) (off := 12) (tgt := 61) (by decide +kernel) (by decide) o5 o9 (fun hc => ?_) (fun hc => ?_)
          · replace h := h.1 hc
            refine zw_iconst (pc := 61) (n := (-1)) (by decide +kernel) ?_
            exact zw_iret (pc := 62) (by decide +kernel) rfl (Nat.le_refl _) (Nat.le_refl _) ⟨_, _, rfl, rfl, h⟩
          · replace h := h.2 hc
            refine zw_aload_n (pc := 52) (n := 0) (i := 0) 0 (by decide +kernel) rfl rfl ?_
            refine zw_iload_n (pc := 53) (n := 1) (i := 1) 1 (by decide +kernel) rfl rfl ?_
            refine zw_iload_n (pc := 54) (n := 2) (i := 2) 2 (by decide +kernel) rfl rfl ?_
            refine zx_callV (pc := 55) (As := [.int (zJ v1), .int (zJ v2)]) h zi_X11_termAt zii_X11_termAt zie_X11_termAt zl_11_240 (by decide +kernel) ⟨Nat.le_of_ble_eq_true rfl, Nat.le_of_ble_eq_true rfl⟩ rfl zc_203 (by decide) rfl rfl ⟨rfl, rfl⟩ ⟨Nat.zero_le _, Nat.zero_le _⟩ (zki (fun x11 μ10 h => ?_))
            refine zw_goto (pc := 58) (off := 4) (tgt := 62) (by decide +kernel) (by decide) ?_
            exact zw_iret (pc := 62) (by decide +kernel) rfl (Nat.le_refl _) (Nat.le_refl _) ⟨_, _, rfl, rfl, h⟩
      · replace h := h.2 hc
        refine zw_bipush (pc := 33) (n := (-11)) (by decide +kernel) (by decide +kernel) ?_
        exact zw_iret (pc := 35) (by decide +kernel) rfl (Nat.le_refl _) (Nat.le_refl _) ⟨_, _, rfl, rfl, h⟩
    · replace h := h.2 hc
      refine zw_iconst (pc := 24) (n := (-1)) (by decide +kernel) ?_
      exact zw_iret (pc := 25) (by decide +kernel) rfl (Nat.le_refl _) (Nat.le_refl _) ⟨_, _, rfl, rfl, h⟩
theorem sg_X11_at {g : zG} {φ : Int → zMu → Prop} {v1 : Int} {v2 : Int} {μ : zMu}
    (h : zOi g zm_X11_isValue [.ref 203, .int (zJ v1)] μ (fun x2 μ1 => (zR x2) ∧ ((x2 = 0 → φ (-2) μ1) ∧ (¬ x2 = 0 → zOi g zm_X11_isValue [.ref 203, .int (zJ v2)] μ1 (fun x5 μ4 => (zR x5) ∧ ((¬ x5 = 0 → (zR (μ4 203 4)) ∧ ((¬ (μ4 203 4) = 0 → zOi g zm_X11_puts [.ref 203, .int (zJ v1)] μ4 (fun x9 μ8 => zOi g zm_X11_worth [.ref 203, .int (zJ v2)] μ8 (fun x11 μ10 => φ x11 μ10))) ∧ ((μ4 203 4) = 0 → φ (-11) μ4))) ∧ (x5 = 0 → φ (-2) μ4))))))) : zOi g zm_X11_at [.ref 203, .int (zJ v1), .int (zJ v2)] μ φ := by
  refine zok_of (by decide +kernel) rfl ?_
  show zWP g zm_X11_at (zmo g zm_X11_at (zΦi φ)) 0 [(0, .ref 203), (1, .int (zJ v1)), (2, .int (zJ v2))] [] 0 0 (zw μ)
  refine zw_aload_n (pc := 0) (n := 0) (i := 0) 0 (by decide +kernel) rfl rfl ?_
  refine zw_iload_n (pc := 1) (n := 1) (i := 1) 1 (by decide +kernel) rfl rfl ?_
  refine zx_callV (pc := 2) (As := [.int (zJ v1)]) h zi_X11_isValue zii_X11_isValue zie_X11_isValue zl_11_243 (by decide +kernel) ⟨Nat.le_of_ble_eq_true rfl, Nat.le_of_ble_eq_true rfl⟩ rfl zc_203 (by decide) rfl rfl ⟨rfl, rfl⟩ ⟨Nat.zero_le _, Nat.zero_le _⟩ (zki (fun x2 μ1 h => ?_))
  obtain ⟨o3, h⟩ := h
  refine zw_if_eq (pc := 5) (off := 11) (tgt := 16) (by decide +kernel) (by decide) o3 (fun hc => ?_) (fun hc => ?_)
  · replace h := h.1 hc
    refine zw_bipush (pc := 16) (n := (-2)) (by decide +kernel) (by decide +kernel) ?_
    exact zw_iret (pc := 18) (by decide +kernel) rfl (Nat.le_refl _) (Nat.le_refl _) ⟨_, _, rfl, rfl, h⟩
  · replace h := h.2 hc
    refine zw_aload_n (pc := 8) (n := 0) (i := 0) 0 (by decide +kernel) rfl rfl ?_
    refine zw_iload_n (pc := 9) (n := 2) (i := 2) 2 (by decide +kernel) rfl rfl ?_
    refine zx_callV (pc := 10) (As := [.int (zJ v2)]) h zi_X11_isValue zii_X11_isValue zie_X11_isValue zl_11_243 (by decide +kernel) ⟨Nat.le_of_ble_eq_true rfl, Nat.le_of_ble_eq_true rfl⟩ rfl zc_203 (by decide) rfl rfl ⟨rfl, rfl⟩ ⟨Nat.zero_le _, Nat.zero_le _⟩ (zki (fun x5 μ4 h => ?_))
    obtain ⟨o6, h⟩ := h
    refine zw_if_ne (pc := 13) (off := 6) (tgt := 19) (by decide +kernel) (by decide) o6 (fun hc => ?_) (fun hc => ?_)
    · replace h := h.1 hc
      obtain ⟨o7, h⟩ := h
      refine zw_aload_n (pc := 19) (n := 0) (i := 0) 0 (by decide +kernel) rfl rfl ?_
      refine zx_getI (pc := 20) zf_11_128 (by decide +kernel) rfl zc_203 ?_
      refine zw_if_ne (pc := 23) (off := 6) (tgt := 29) (by decide +kernel) (by decide) o7 (fun hc => ?_) (fun hc => ?_)
      · replace h := h.1 hc
        refine zw_aload_n (pc := 29) (n := 0) (i := 0) 0 (by decide +kernel) rfl rfl ?_
        refine zw_iload_n (pc := 30) (n := 1) (i := 1) 1 (by decide +kernel) rfl rfl ?_
        refine zx_callV (pc := 31) (As := [.int (zJ v1)]) h zi_X11_puts zii_X11_puts zie_X11_puts zl_11_246 (by decide +kernel) ⟨Nat.le_of_ble_eq_true rfl, Nat.le_of_ble_eq_true rfl⟩ rfl zc_203 (by decide) rfl rfl ⟨rfl, rfl⟩ ⟨Nat.zero_le _, Nat.zero_le _⟩ (zki (fun x9 μ8 h => ?_))
        refine zw_istore_n (pc := 34) (n := 3) (i := 3) (lv' := [(0, .ref 203), (1, .int (zJ v1)), (2, .int (zJ v2)), (3, .int (zJ x9))]) (by decide +kernel) rfl (Nat.le_of_ble_eq_true rfl) rfl ?_
        refine zw_aload_n (pc := 35) (n := 0) (i := 0) 0 (by decide +kernel) rfl rfl ?_
        refine zw_iload_n (pc := 36) (n := 2) (i := 2) 2 (by decide +kernel) rfl rfl ?_
        refine zx_callV (pc := 37) (As := [.int (zJ v2)]) h zi_X11_worth zii_X11_worth zie_X11_worth zl_11_249 (by decide +kernel) ⟨Nat.le_of_ble_eq_true rfl, Nat.le_of_ble_eq_true rfl⟩ rfl zc_203 (by decide) rfl rfl ⟨rfl, rfl⟩ ⟨Nat.zero_le _, Nat.zero_le _⟩ (zki (fun x11 μ10 h => ?_))
        exact zw_iret (pc := 40) (by decide +kernel) rfl (Nat.le_refl _) (Nat.le_refl _) ⟨_, _, rfl, rfl, h⟩
      · replace h := h.2 hc
        refine zw_bipush (pc := 26) (n := (-11)) (by decide +kernel) (by decide +kernel) ?_
        exact zw_iret (pc := 28) (by decide +kernel) rfl (Nat.le_refl _) (Nat.le_refl _) ⟨_, _, rfl, rfl, h⟩
    · replace h := h.2 hc
      refine zw_bipush (pc := 16) (n := (-2)) (by decide +kernel) (by decide +kernel) ?_
      exact zw_iret (pc := 18) (by decide +kernel) rfl (Nat.le_refl _) (Nat.le_refl _) ⟨_, _, rfl, rfl, h⟩
theorem sg_X11_isValue {g : zG} {φ : Int → zMu → Prop} {v1 : Int} {μ : zMu}
    (h : (zR v1) ∧ (zR ((μ 203 0) - 1)) ∧ zOi g zm_X11_in [.long (zL v1), .long (zL 0), .long (zL ((μ 203 0) - 1))] μ (fun x4 μ3 => (x4 = 0 ∨ x4 = 1) ∧ φ x4 μ3)) : zOi g zm_X11_isValue [.ref 203, .int (zJ v1)] μ φ := by
  refine zok_of (by decide +kernel) rfl ?_
  show zWP g zm_X11_isValue (zmo g zm_X11_isValue (zΦi φ)) 0 [(0, .ref 203), (1, .int (zJ v1))] [] 0 0 (zw μ)
  obtain ⟨o1, o2, h⟩ := h
  refine zw_iload_n (pc := 0) (n := 1) (i := 1) 1 (by decide +kernel) rfl rfl ?_
  refine zw_i2l (pc := 1) (by decide +kernel) o1 ?_
  refine zw_lconst (pc := 2) (n := 0) (v := 0) (by decide +kernel) rfl ?_
  refine zw_aload_n (pc := 3) (n := 0) (i := 0) 0 (by decide +kernel) rfl rfl ?_
  refine zx_getI (pc := 4) zf_11_9 (by decide +kernel) rfl zc_203 ?_
  refine zw_iconst (pc := 7) (n := 1) (by decide +kernel) ?_
  refine zw_isub (pc := 8) (by decide +kernel) ?_
  refine zw_i2l (pc := 9) (by decide +kernel) o2 ?_
  refine zx_callS (pc := 10) (As := [.long (zL v1), .long (zL 0), .long (zL ((μ 203 0) - 1))]) h zi_X11_in zis_X11_in zl_11_114 (by decide +kernel) ⟨Nat.le_of_ble_eq_true rfl, Nat.le_of_ble_eq_true rfl⟩ rfl rfl ⟨rfl, rfl⟩ ⟨Nat.zero_le _, Nat.zero_le _⟩ (zki (fun x4 μ3 h => ?_))
  obtain ⟨o5, h⟩ := h
  exact zw_zret (pc := 13) (by decide +kernel) rfl (Nat.le_refl _) (Nat.le_refl _) o5 ⟨_, _, rfl, rfl, h⟩
abbrev at_X11_puts_4 (g : zG) (φ : Int → zMu → Prop) (v1 : Int) (v2 : Int) (v3 : Int) (μ : zMu) : Prop := zWP g zm_X11_puts (zmo g zm_X11_puts (zΦi φ)) 4 [(0, .ref 203), (1, .int (zJ v1)), (2, .int (zJ v2)), (3, .int (zJ v3))] [] 0 0 (zw μ)
abbrev at_X11_puts_21 (g : zG) (φ : Int → zMu → Prop) (v1 : Int) (v2 : Int) (v3 : Int) (v4 : Int) (v5 : Int) (μ : zMu) : Prop := zWP g zm_X11_puts (zmo g zm_X11_puts (zΦi φ)) 21 [(0, .ref 203), (1, .int (zJ v1)), (2, .int (zJ v2)), (3, .int (zJ v3)), (4, .int (zJ v4)), (5, .int (zJ v5))] [] 0 0 (zw μ)
theorem sg_X11_puts {g : zG} {φ : Int → zMu → Prop} {v1 : Int} {μ : zMu}
    (h : at_X11_puts_4 g φ v1 0 0 μ) : zOi g zm_X11_puts [.ref 203, .int (zJ v1)] μ φ := by
  refine zok_of (by decide +kernel) rfl ?_
  show zWP g zm_X11_puts (zmo g zm_X11_puts (zΦi φ)) 0 [(0, .ref 203), (1, .int (zJ v1))] [] 0 0 (zw μ)
  refine zw_iconst (pc := 0) (n := 0) (by decide +kernel) ?_
  refine zw_istore_n (pc := 1) (n := 2) (i := 2) (lv' := [(0, .ref 203), (1, .int (zJ v1)), (2, .int (zJ 0))]) (by decide +kernel) rfl (Nat.le_of_ble_eq_true rfl) rfl ?_
  refine zw_iconst (pc := 2) (n := 0) (by decide +kernel) ?_
  refine zw_istore_n (pc := 3) (n := 3) (i := 3) (lv' := [(0, .ref 203), (1, .int (zJ v1)), (2, .int (zJ 0)), (3, .int (zJ 0))]) (by decide +kernel) rfl (Nat.le_of_ble_eq_true rfl) rfl ?_
  exact h
theorem sg_X11_puts_4 {g : zG} {φ : Int → zMu → Prop} {v1 : Int} {v2 : Int} {v3 : Int} {μ : zMu}
    (h : (zR v3) ∧ (zR (μ 203 4)) ∧ (((μ 203 4) < v3 → (v2 = 0 ∨ v2 = 1) ∧ φ v2 μ) ∧ (v3 ≤ (μ 203 4) → at_X11_puts_21 g φ v1 v2 v3 0 (μ 203 4) μ))) : at_X11_puts_4 g φ v1 v2 v3 μ := by
  obtain ⟨o1, o2, h⟩ := h
  refine zw_iload_n (pc := 4) (n := 3) (i := 3) 3 (by decide +kernel) rfl rfl ?_
  refine zw_aload_n (pc := 5) (n := 0) (i := 0) 0 (by decide +kernel) rfl rfl ?_
  refine zx_getI (pc := 6) zf_11_128 (by decide +kernel) rfl zc_203 ?_
  refine zw_icmp_gt (pc := 9) (off := 69) (tgt := 78) (by decide +kernel) (by decide) o1 o2 (fun hc => ?_) (fun hc => ?_)
  · replace h := h.1 hc
    obtain ⟨o3, h⟩ := h
    refine zw_iload_n (pc := 78) (n := 2) (i := 2) 2 (by decide +kernel) rfl rfl ?_
    exact zw_zret (pc := 79) (by decide +kernel) rfl (Nat.le_refl _) (Nat.le_refl _) o3 ⟨_, _, rfl, rfl, h⟩
  · replace h := h.2 hc
    refine zw_iconst (pc := 12) (n := 0) (by decide +kernel) ?_
    refine zw_istore (pc := 13) (i := 4) (lv' := [(0, .ref 203), (1, .int (zJ v1)), (2, .int (zJ v2)), (3, .int (zJ v3)), (4, .int (zJ 0))]) (by decide +kernel) (Nat.le_of_ble_eq_true rfl) rfl ?_
    refine zw_aload_n (pc := 15) (n := 0) (i := 0) 0 (by decide +kernel) rfl rfl ?_
    refine zx_getI (pc := 16) zf_11_128 (by decide +kernel) rfl zc_203 ?_
    refine zw_istore (pc := 19) (i := 5) (lv' := [(0, .ref 203), (1, .int (zJ v1)), (2, .int (zJ v2)), (3, .int (zJ v3)), (4, .int (zJ 0)), (5, .int (zJ (μ 203 4)))]) (by decide +kernel) (Nat.le_of_ble_eq_true rfl) rfl ?_
    exact h
theorem sg_X11_puts_21 {g : zG} {φ : Int → zMu → Prop} {v1 : Int} {v2 : Int} {v3 : Int} {v4 : Int} {v5 : Int} {μ : zMu}
    (h : (zR v5) ∧ ((v5 < 0 → (0 ≤ v3 ∧ v3 < 9) ∧ (zR v4) ∧ ((v4 = 0 → at_X11_puts_4 g φ v1 (zor v2 0) (v3 + 1) (zup μ 220 v3.toNat v4)) ∧ (¬ v4 = 0 → at_X11_puts_4 g φ v1 (zor v2 1) (v3 + 1) (zup μ 220 v3.toNat v4)))) ∧ (0 ≤ v5 → zOi g zm_X11_termAt [.ref 203, .int (zJ v5), .int (zJ v3)] μ (fun x5 μ4 => (zR ((v4 * v1) + x5)) ∧ (zR (μ4 203 0)) ∧ ((μ4 203 0) ≠ 0) ∧ at_X11_puts_21 g φ v1 v2 v3 (((v4 * v1) + x5).tmod (μ4 203 0)) (v5 + (-1)) μ4)))) : at_X11_puts_21 g φ v1 v2 v3 v4 v5 μ := by
  obtain ⟨o1, h⟩ := h
  refine zw_iload (pc := 21) (i := 5) 5 (by decide +kernel) rfl ?_
  refine zw_if_lt (pc := 23) (off := 28) (tgt := 51) (by decide +kernel) (by decide) o1 (fun hc => ?_) (fun hc => ?_)
  · replace h := h.1 hc
    obtain ⟨o2, o3, h⟩ := h
    refine zw_aload_n (pc := 51) (n := 0) (i := 0) 0 (by decide +kernel) rfl rfl ?_
    refine zx_getR (pc := 52) (o := 17) (r := 220) zf_11_64 (by decide +kernel) rfl zc_203 rfl (by decide) rfl ?_
    refine zw_iload_n (pc := 55) (n := 3) (i := 3) 3 (by decide +kernel) rfl rfl ?_
    refine zw_iload (pc := 56) (i := 4) 4 (by decide +kernel) rfl ?_
    refine zx_iastore (pc := 58) (by decide +kernel) ⟨9, zc_220, o2.1, o2.2⟩ ?_
    refine zw_iload_n (pc := 59) (n := 2) (i := 2) 2 (by decide +kernel) rfl rfl ?_
    refine zw_iload (pc := 60) (i := 4) 4 (by decide +kernel) rfl ?_
    refine zw_if_eq (pc := 62) (off := 7) (tgt := 69) (by decide +kernel) (by decide) o3 (fun hc => ?_) (fun hc => ?_)
    · replace h := h.1 hc
      refine zw_iconst (pc := 69) (n := 0) (by decide +kernel) ?_
      refine zw_ior (pc := 70) (by decide +kernel) ?_
      refine zw_istore_n (pc := 71) (n := 2) (i := 2) (lv' := [(0, .ref 203), (1, .int (zJ v1)), (2, .int (zJ (zor v2 0))), (3, .int (zJ v3)), (4, .int (zJ v4)), (5, .int (zJ v5))]) (by decide +kernel) rfl (Nat.le_of_ble_eq_true rfl) rfl ?_
      refine zw_iinc (pc := 72) (i := 3) (n := 1) (lv' := [(0, .ref 203), (1, .int (zJ v1)), (2, .int (zJ (zor v2 0))), (3, .int (zJ (v3 + 1))), (4, .int (zJ v4)), (5, .int (zJ v5))]) 3 (by decide +kernel) rfl rfl (Nat.le_of_ble_eq_true rfl) rfl ?_
      refine zw_goto (pc := 75) (off := (-71)) (tgt := 4) (by decide +kernel) (by decide) ?_
      exact zw_pick (lv' := [(0, .ref 203), (1, .int (zJ v1)), (2, .int (zJ (zor v2 0))), (3, .int (zJ (v3 + 1)))]) [0, 1, 2, 3] rfl h
    · replace h := h.2 hc
      refine zw_iconst (pc := 65) (n := 1) (by decide +kernel) ?_
      refine zw_goto (pc := 66) (off := 4) (tgt := 70) (by decide +kernel) (by decide) ?_
      refine zw_ior (pc := 70) (by decide +kernel) ?_
      refine zw_istore_n (pc := 71) (n := 2) (i := 2) (lv' := [(0, .ref 203), (1, .int (zJ v1)), (2, .int (zJ (zor v2 1))), (3, .int (zJ v3)), (4, .int (zJ v4)), (5, .int (zJ v5))]) (by decide +kernel) rfl (Nat.le_of_ble_eq_true rfl) rfl ?_
      refine zw_iinc (pc := 72) (i := 3) (n := 1) (lv' := [(0, .ref 203), (1, .int (zJ v1)), (2, .int (zJ (zor v2 1))), (3, .int (zJ (v3 + 1))), (4, .int (zJ v4)), (5, .int (zJ v5))]) 3 (by decide +kernel) rfl rfl (Nat.le_of_ble_eq_true rfl) rfl ?_
      refine zw_goto (pc := 75) (off := (-71)) (tgt := 4) (by decide +kernel) (by decide) ?_
      exact zw_pick (lv' := [(0, .ref 203), (1, .int (zJ v1)), (2, .int (zJ (zor v2 1))), (3, .int (zJ (v3 + 1)))]) [0, 1, 2, 3] rfl h
  · replace h := h.2 hc
    refine zw_iload (pc := 26) (i := 4) 4 (by decide +kernel) rfl ?_
    refine zw_iload_n (pc := 28) (n := 1) (i := 1) 1 (by decide +kernel) rfl rfl ?_
    refine zw_imul (pc := 29) (by decide +kernel) ?_
    refine zw_aload_n (pc := 30) (n := 0) (i := 0) 0 (by decide +kernel) rfl rfl ?_
    refine zw_iload (pc := 31) (i := 5) 5 (by decide +kernel) rfl ?_
    refine zw_iload_n (pc := 33) (n := 3) (i := 3) 3 (by decide +kernel) rfl rfl ?_
    refine zx_callV (pc := 34) (As := [.int (zJ v5), .int (zJ v3)]) h zi_X11_termAt zii_X11_termAt zie_X11_termAt zl_11_240 (by decide +kernel) ⟨Nat.le_of_ble_eq_true rfl, Nat.le_of_ble_eq_true rfl⟩ rfl zc_203 (by decide) rfl rfl ⟨rfl, rfl⟩ ⟨Nat.zero_le _, Nat.zero_le _⟩ (zki (fun x5 μ4 h => ?_))
    obtain ⟨o6, o7, o8, h⟩ := h
    refine zw_iadd (pc := 37) (by decide +kernel) ?_
    refine zw_aload_n (pc := 38) (n := 0) (i := 0) 0 (by decide +kernel) rfl rfl ?_
    refine zx_getI (pc := 39) zf_11_9 (by decide +kernel) rfl zc_203 ?_
    refine zw_irem (pc := 42) (by decide +kernel) o6 o7 o8 ?_
    refine zw_istore (pc := 43) (i := 4) (lv' := [(0, .ref 203), (1, .int (zJ v1)), (2, .int (zJ v2)), (3, .int (zJ v3)), (4, .int (zJ (((v4 * v1) + x5).tmod (μ4 203 0)))), (5, .int (zJ v5))]) (by decide +kernel) (Nat.le_of_ble_eq_true rfl) rfl ?_
    refine zw_iinc (pc := 45) (i := 5) (n := (-1)) (lv' := [(0, .ref 203), (1, .int (zJ v1)), (2, .int (zJ v2)), (3, .int (zJ v3)), (4, .int (zJ (((v4 * v1) + x5).tmod (μ4 203 0)))), (5, .int (zJ (v5 + (-1))))]) 5 (by decide +kernel) rfl rfl (Nat.le_of_ble_eq_true rfl) rfl ?_
    refine zw_goto (pc := 48) (off := (-27)) (tgt := 21) (by decide +kernel) (by decide) ?_
    exact h
abbrev at_X11_worth_7 (g : zG) (φ : Int → zMu → Prop) (v1 : Int) (v2 : Int) (v3 : Int) (μ : zMu) : Prop := zWP g zm_X11_worth (zmo g zm_X11_worth (zΦi φ)) 7 [(0, .ref 203), (1, .int (zJ v1)), (2, .int (zJ v2)), (3, .int (zJ v3))] [] 0 0 (zw μ)
theorem sg_X11_worth {g : zG} {φ : Int → zMu → Prop} {v1 : Int} {μ : zMu}
    (h : at_X11_worth_7 g φ v1 0 (μ 203 4) μ) : zOi g zm_X11_worth [.ref 203, .int (zJ v1)] μ φ := by
  refine zok_of (by decide +kernel) rfl ?_
  show zWP g zm_X11_worth (zmo g zm_X11_worth (zΦi φ)) 0 [(0, .ref 203), (1, .int (zJ v1))] [] 0 0 (zw μ)
  refine zw_iconst (pc := 0) (n := 0) (by decide +kernel) ?_
  refine zw_istore_n (pc := 1) (n := 2) (i := 2) (lv' := [(0, .ref 203), (1, .int (zJ v1)), (2, .int (zJ 0))]) (by decide +kernel) rfl (Nat.le_of_ble_eq_true rfl) rfl ?_
  refine zw_aload_n (pc := 2) (n := 0) (i := 0) 0 (by decide +kernel) rfl rfl ?_
  refine zx_getI (pc := 3) zf_11_128 (by decide +kernel) rfl zc_203 ?_
  refine zw_istore_n (pc := 6) (n := 3) (i := 3) (lv' := [(0, .ref 203), (1, .int (zJ v1)), (2, .int (zJ 0)), (3, .int (zJ (μ 203 4)))]) (by decide +kernel) rfl (Nat.le_of_ble_eq_true rfl) rfl ?_
  exact h
theorem sg_X11_worth_7 {g : zG} {φ : Int → zMu → Prop} {v1 : Int} {v2 : Int} {v3 : Int} {μ : zMu}
    (h : (zR v3) ∧ ((v3 < 0 → φ v2 μ) ∧ (0 ≤ v3 → (0 ≤ v3 ∧ v3 < 9) ∧ (zR ((v2 * v1) + (μ 220 v3.toNat))) ∧ (zR (μ 203 0)) ∧ ((μ 203 0) ≠ 0) ∧ at_X11_worth_7 g φ v1 (((v2 * v1) + (μ 220 v3.toNat)).tmod (μ 203 0)) (v3 + (-1)) μ))) : at_X11_worth_7 g φ v1 v2 v3 μ := by
  obtain ⟨o1, h⟩ := h
  refine zw_iload_n (pc := 7) (n := 3) (i := 3) 3 (by decide +kernel) rfl rfl ?_
  refine zw_if_lt (pc := 8) (off := 25) (tgt := 33) (by decide +kernel) (by decide) o1 (fun hc => ?_) (fun hc => ?_)
  · replace h := h.1 hc
    refine zw_iload_n (pc := 33) (n := 2) (i := 2) 2 (by decide +kernel) rfl rfl ?_
    exact zw_iret (pc := 34) (by decide +kernel) rfl (Nat.le_refl _) (Nat.le_refl _) ⟨_, _, rfl, rfl, h⟩
  · replace h := h.2 hc
    obtain ⟨o2, o3, o4, o5, h⟩ := h
    refine zw_iload_n (pc := 11) (n := 2) (i := 2) 2 (by decide +kernel) rfl rfl ?_
    refine zw_iload_n (pc := 12) (n := 1) (i := 1) 1 (by decide +kernel) rfl rfl ?_
    refine zw_imul (pc := 13) (by decide +kernel) ?_
    refine zw_aload_n (pc := 14) (n := 0) (i := 0) 0 (by decide +kernel) rfl rfl ?_
    refine zx_getR (pc := 15) (o := 17) (r := 220) zf_11_64 (by decide +kernel) rfl zc_203 rfl (by decide) rfl ?_
    refine zw_iload_n (pc := 18) (n := 3) (i := 3) 3 (by decide +kernel) rfl rfl ?_
    refine zx_iaload (pc := 19) (by decide +kernel) ⟨9, zc_220, o2.1, o2.2⟩ ?_
    refine zw_iadd (pc := 20) (by decide +kernel) ?_
    refine zw_aload_n (pc := 21) (n := 0) (i := 0) 0 (by decide +kernel) rfl rfl ?_
    refine zx_getI (pc := 22) zf_11_9 (by decide +kernel) rfl zc_203 ?_
    refine zw_irem (pc := 25) (by decide +kernel) o3 o4 o5 ?_
    refine zw_istore_n (pc := 26) (n := 2) (i := 2) (lv' := [(0, .ref 203), (1, .int (zJ v1)), (2, .int (zJ (((v2 * v1) + (μ 220 v3.toNat)).tmod (μ 203 0)))), (3, .int (zJ v3))]) (by decide +kernel) rfl (Nat.le_of_ble_eq_true rfl) rfl ?_
    refine zw_iinc (pc := 27) (i := 3) (n := (-1)) (lv' := [(0, .ref 203), (1, .int (zJ v1)), (2, .int (zJ (((v2 * v1) + (μ 220 v3.toNat)).tmod (μ 203 0)))), (3, .int (zJ (v3 + (-1))))]) 3 (by decide +kernel) rfl rfl (Nat.le_of_ble_eq_true rfl) rfl ?_
    refine zw_goto (pc := 30) (off := (-23)) (tgt := 7) (by decide +kernel) (by decide) ?_
    exact h
abbrev at_X11_vanishes_58 (g : zG) (φ : Int → zMu → Prop) (v3 : Int) (μ : zMu) : Prop := zWP g zm_X11_vanishes (zmo g zm_X11_vanishes (zΦi φ)) 58 [(0, .ref 203), (3, .int (zJ v3))] [] 0 0 (zw μ)
abbrev at_X11_vanishes_69 (g : zG) (φ : Int → zMu → Prop) (v3 : Int) (v4 : Int) (μ : zMu) : Prop := zWP g zm_X11_vanishes (zmo g zm_X11_vanishes (zΦi φ)) 69 [(0, .ref 203), (3, .int (zJ v3)), (4, .int (zJ v4))] [] 0 0 (zw μ)
theorem sg_X11_vanishes {g : zG} {φ : Int → zMu → Prop} {v1 : Int} {v2 : Int} {μ : zMu}
    (h : zOi g zm_X11_isSeries [.int (zJ v1)] μ (fun x2 μ1 => (zR x2) ∧ ((x2 = 0 → φ (-1) μ1) ∧ (¬ x2 = 0 → zOi g zm_X11_isSeries [.int (zJ v2)] μ1 (fun x5 μ4 => (zR x5) ∧ ((¬ x5 = 0 → (zR (μ4 203 4)) ∧ (((μ4 203 4) = 0 → φ (-11) μ4) ∧ (¬ (μ4 203 4) = 0 → zOi g zm_X11_isThere [.ref 203, .int (zJ v1)] μ4 (fun x9 μ8 => (zR x9) ∧ ((x9 = 0 → φ (-11) μ8) ∧ (¬ x9 = 0 → zOi g zm_X11_isThere [.ref 203, .int (zJ v2)] μ8 (fun x12 μ11 => (zR x12) ∧ ((¬ x12 = 0 → zOv g zm_X11_tellsPowers [.ref 203, .int (zJ v1), .int (zJ v2), .int (zJ (μ11 203 4))] μ11 (fun μ14 => zOv g zm_X11_emptiesColumn [.ref 203] μ14 (fun μ15 => at_X11_vanishes_58 g φ 0 μ15))) ∧ (x12 = 0 → φ (-11) μ11))))))))) ∧ (x5 = 0 → φ (-1) μ4))))))) : zOi g zm_X11_vanishes [.ref 203, .int (zJ v1), .int (zJ v2)] μ φ := by
  refine zok_of (by decide +kernel) rfl ?_
  show zWP g zm_X11_vanishes (zmo g zm_X11_vanishes (zΦi φ)) 0 [(0, .ref 203), (1, .int (zJ v1)), (2, .int (zJ v2))] [] 0 0 (zw μ)
  refine zw_iload_n (pc := 0) (n := 1) (i := 1) 1 (by decide +kernel) rfl rfl ?_
  refine zx_callS (pc := 1) (As := [.int (zJ v1)]) h zi_X11_isSeries zis_X11_isSeries zl_11_141 (by decide +kernel) ⟨Nat.le_of_ble_eq_true rfl, Nat.le_of_ble_eq_true rfl⟩ rfl rfl ⟨rfl, rfl⟩ ⟨Nat.zero_le _, Nat.zero_le _⟩ (zki (fun x2 μ1 h => ?_))
  obtain ⟨o3, h⟩ := h
  refine zw_if_eq (pc := 4) (off := 10) (tgt := 14) (by decide +kernel) (by decide) o3 (fun hc => ?_) (fun hc => ?_)
  · replace h := h.1 hc
    refine zw_iconst (pc := 14) (n := (-1)) (by decide +kernel) ?_
    exact zw_iret (pc := 15) (by decide +kernel) rfl (Nat.le_refl _) (Nat.le_refl _) ⟨_, _, rfl, rfl, h⟩
  · replace h := h.2 hc
    refine zw_iload_n (pc := 7) (n := 2) (i := 2) 2 (by decide +kernel) rfl rfl ?_
    refine zx_callS (pc := 8) (As := [.int (zJ v2)]) h zi_X11_isSeries zis_X11_isSeries zl_11_141 (by decide +kernel) ⟨Nat.le_of_ble_eq_true rfl, Nat.le_of_ble_eq_true rfl⟩ rfl rfl ⟨rfl, rfl⟩ ⟨Nat.zero_le _, Nat.zero_le _⟩ (zki (fun x5 μ4 h => ?_))
    obtain ⟨o6, h⟩ := h
    refine zw_if_ne (pc := 11) (off := 5) (tgt := 16) (by decide +kernel) (by decide) o6 (fun hc => ?_) (fun hc => ?_)
    · replace h := h.1 hc
      obtain ⟨o7, h⟩ := h
      refine zw_aload_n (pc := 16) (n := 0) (i := 0) 0 (by decide +kernel) rfl rfl ?_
      refine zx_getI (pc := 17) zf_11_128 (by decide +kernel) rfl zc_203 ?_
      refine zw_if_eq (pc := 20) (off := 19) (tgt := 39) (by decide +kernel) (by decide) o7 (fun hc => ?_) (fun hc => ?_)
      · replace h := h.1 hc
        refine zw_bipush (pc := 39) (n := (-11)) (by decide +kernel) (by decide +kernel) ?_
        exact zw_iret (pc := 41) (by decide +kernel) rfl (Nat.le_refl _) (Nat.le_refl _) ⟨_, _, rfl, rfl, h⟩
      · replace h := h.2 hc
        refine zw_aload_n (pc := 23) (n := 0) (i := 0) 0 (by decide +kernel) rfl rfl ?_
        refine zw_iload_n (pc := 24) (n := 1) (i := 1) 1 (by decide +kernel) rfl rfl ?_
        refine zx_callV (pc := 25) (As := [.int (zJ v1)]) h zi_X11_isThere zii_X11_isThere zie_X11_isThere zl_11_166 (by decide +kernel) ⟨Nat.le_of_ble_eq_true rfl, Nat.le_of_ble_eq_true rfl⟩ rfl zc_203 (by decide) rfl rfl ⟨rfl, rfl⟩ ⟨Nat.zero_le _, Nat.zero_le _⟩ (zki (fun x9 μ8 h => ?_))
        obtain ⟨o10, h⟩ := h
        refine zw_if_eq (pc := 28) (off := 11) (tgt := 39) (by decide +kernel) (by decide) o10 (fun hc => ?_) (fun hc => ?_)
        · replace h := h.1 hc
          refine zw_bipush (pc := 39) (n := (-11)) (by decide +kernel) (by decide +kernel) ?_
          exact zw_iret (pc := 41) (by decide +kernel) rfl (Nat.le_refl _) (Nat.le_refl _) ⟨_, _, rfl, rfl, h⟩
        · replace h := h.2 hc
          refine zw_aload_n (pc := 31) (n := 0) (i := 0) 0 (by decide +kernel) rfl rfl ?_
          refine zw_iload_n (pc := 32) (n := 2) (i := 2) 2 (by decide +kernel) rfl rfl ?_
          refine zx_callV (pc := 33) (As := [.int (zJ v2)]) h zi_X11_isThere zii_X11_isThere zie_X11_isThere zl_11_166 (by decide +kernel) ⟨Nat.le_of_ble_eq_true rfl, Nat.le_of_ble_eq_true rfl⟩ rfl zc_203 (by decide) rfl rfl ⟨rfl, rfl⟩ ⟨Nat.zero_le _, Nat.zero_le _⟩ (zki (fun x12 μ11 h => ?_))
          obtain ⟨o13, h⟩ := h
          refine zw_if_ne (pc := 36) (off := 6) (tgt := 42) (by decide +kernel) (by decide) o13 (fun hc => ?_) (fun hc => ?_)
          · replace h := h.1 hc
            refine zw_aload_n (pc := 42) (n := 0) (i := 0) 0 (by decide +kernel) rfl rfl ?_
            refine zw_iload_n (pc := 43) (n := 1) (i := 1) 1 (by decide +kernel) rfl rfl ?_
            refine zw_iload_n (pc := 44) (n := 2) (i := 2) 2 (by decide +kernel) rfl rfl ?_
            refine zw_aload_n (pc := 45) (n := 0) (i := 0) 0 (by decide +kernel) rfl rfl ?_
            refine zx_getI (pc := 46) zf_11_128 (by decide +kernel) rfl zc_203 ?_
            refine zx_callV (pc := 49) (As := [.int (zJ v1), .int (zJ v2), .int (zJ (μ11 203 4))]) h zi_X11_tellsPowers zii_X11_tellsPowers zie_X11_tellsPowers zl_11_231 (by decide +kernel) ⟨Nat.le_of_ble_eq_true rfl, Nat.le_of_ble_eq_true rfl⟩ rfl zc_203 (by decide) rfl rfl ⟨rfl, rfl⟩ ⟨Nat.zero_le _, Nat.zero_le _⟩ (zkv (fun μ14 h => ?_))
            refine zw_aload_n (pc := 52) (n := 0) (i := 0) 0 (by decide +kernel) rfl rfl ?_
            refine zx_callV (pc := 53) (As := []) h zi_X11_emptiesColumn zii_X11_emptiesColumn zie_X11_emptiesColumn zl_11_212 (by decide +kernel) ⟨Nat.le_of_ble_eq_true rfl, Nat.le_of_ble_eq_true rfl⟩ rfl zc_203 (by decide) rfl rfl ⟨rfl, rfl⟩ ⟨Nat.zero_le _, Nat.zero_le _⟩ (zkv (fun μ15 h => ?_))
            refine zw_iconst (pc := 56) (n := 0) (by decide +kernel) ?_
            refine zw_istore_n (pc := 57) (n := 3) (i := 3) (lv' := [(0, .ref 203), (1, .int (zJ v1)), (2, .int (zJ v2)), (3, .int (zJ 0))]) (by decide +kernel) rfl (Nat.le_of_ble_eq_true rfl) rfl ?_
            exact zw_pick (lv' := [(0, .ref 203), (3, .int (zJ 0))]) [0, 3] rfl h
          · replace h := h.2 hc
            refine zw_bipush (pc := 39) (n := (-11)) (by decide +kernel) (by decide +kernel) ?_
            exact zw_iret (pc := 41) (by decide +kernel) rfl (Nat.le_refl _) (Nat.le_refl _) ⟨_, _, rfl, rfl, h⟩
    · replace h := h.2 hc
      refine zw_iconst (pc := 14) (n := (-1)) (by decide +kernel) ?_
      exact zw_iret (pc := 15) (by decide +kernel) rfl (Nat.le_refl _) (Nat.le_refl _) ⟨_, _, rfl, rfl, h⟩
theorem sg_X11_vanishes_58 {g : zG} {φ : Int → zMu → Prop} {v3 : Int} {μ : zMu}
    (h : (zR v3) ∧ (zR (μ 203 4)) ∧ (((μ 203 4) < v3 → zOi g zm_X11_firstOther [.ref 203] μ (fun x4 μ3 => (zR x4) ∧ ((¬ x4 = (-1) → φ 0 μ3) ∧ (x4 = (-1) → φ 1 μ3)))) ∧ (v3 ≤ (μ 203 4) → at_X11_vanishes_69 g φ v3 0 μ))) : at_X11_vanishes_58 g φ v3 μ := by
  obtain ⟨o1, o2, h⟩ := h
  refine zw_iload_n (pc := 58) (n := 3) (i := 3) 1 (by decide +kernel) rfl rfl ?_
  refine zw_aload_n (pc := 59) (n := 0) (i := 0) 0 (by decide +kernel) rfl rfl ?_
  refine zx_getI (pc := 60) zf_11_128 (by decide +kernel) rfl zc_203 ?_
  refine zw_icmp_gt (pc := 63) (off := 41) (tgt := 104) (by decide +kernel) (by decide) o1 o2 (fun hc => ?_) (fun hc => ?_)
  · replace h := h.1 hc
    refine zw_aload_n (pc := 104) (n := 0) (i := 0) 0 (by decide +kernel) rfl rfl ?_
    refine zx_callV (pc := 105) (As := []) h zi_X11_firstOther zii_X11_firstOther zie_X11_firstOther zl_11_208 (by decide +kernel) ⟨Nat.le_of_ble_eq_true rfl, Nat.le_of_ble_eq_true rfl⟩ rfl zc_203 (by decide) rfl rfl ⟨rfl, rfl⟩ ⟨Nat.zero_le _, Nat.zero_le _⟩ (zki (fun x4 μ3 h => ?_))
    obtain ⟨o5, h⟩ := h
    refine zw_iconst (pc := 108) (n := (-1)) (by decide +kernel) ?_
    refine zw_icmp_ne (pc := 109) (off := 7) (tgt := 116) (by decide +kernel) (by decide) o5 ⟨by decide, by decide⟩ (fun hc => ?_) (fun hc => ?_)
    · replace h := h.1 hc
      refine zw_iconst (pc := 116) (n := 0) (by decide +kernel) ?_
      exact zw_iret (pc := 117) (by decide +kernel) rfl (Nat.le_refl _) (Nat.le_refl _) ⟨_, _, rfl, rfl, h⟩
    · replace h := h.2 hc
      refine zw_iconst (pc := 112) (n := 1) (by decide +kernel) ?_
      refine zw_goto (pc := 113) (off := 4) (tgt := 117) (by decide +kernel) (by decide) ?_
      exact zw_iret (pc := 117) (by decide +kernel) rfl (Nat.le_refl _) (Nat.le_refl _) ⟨_, _, rfl, rfl, h⟩
  · replace h := h.2 hc
    refine zw_iconst (pc := 66) (n := 0) (by decide +kernel) ?_
    refine zw_istore (pc := 67) (i := 4) (lv' := [(0, .ref 203), (3, .int (zJ v3)), (4, .int (zJ 0))]) (by decide +kernel) (Nat.le_of_ble_eq_true rfl) rfl ?_
    exact h
theorem sg_X11_vanishes_69 {g : zG} {φ : Int → zMu → Prop} {v3 : Int} {v4 : Int} {μ : zMu}
    (h : (zR v4) ∧ (zR (μ 203 4)) ∧ (((μ 203 4) < v4 → at_X11_vanishes_58 g φ (v3 + 1) μ) ∧ (v4 ≤ (μ 203 4) → zOi g zm_X11_termAt [.ref 203, .int (zJ v3), .int (zJ v4)] μ (fun x4 μ3 => zOv g zm_X11_adds [.ref 203, .int (zJ v3), .int (zJ v4), .int (zJ x4)] μ3 (fun μ5 => at_X11_vanishes_69 g φ v3 (v4 + 1) μ5))))) : at_X11_vanishes_69 g φ v3 v4 μ := by
  obtain ⟨o1, o2, h⟩ := h
  refine zw_iload (pc := 69) (i := 4) 2 (by decide +kernel) rfl ?_
  refine zw_aload_n (pc := 71) (n := 0) (i := 0) 0 (by decide +kernel) rfl rfl ?_
  refine zx_getI (pc := 72) zf_11_128 (by decide +kernel) rfl zc_203 ?_
  refine zw_icmp_gt (pc := 75) (off := 23) (tgt := 98) (by decide +kernel) (by decide) o1 o2 (fun hc => ?_) (fun hc => ?_)
  · replace h := h.1 hc
    refine zw_iinc (pc := 98) (i := 3) (n := 1) (lv' := [(0, .ref 203), (3, .int (zJ (v3 + 1))), (4, .int (zJ v4))]) 1 (by decide +kernel) rfl rfl (Nat.le_of_ble_eq_true rfl) rfl ?_
    refine zw_goto (pc := 101) (off := (-43)) (tgt := 58) (by decide +kernel) (by decide) ?_
    exact zw_pick (lv' := [(0, .ref 203), (3, .int (zJ (v3 + 1)))]) [0, 1] rfl h
  · replace h := h.2 hc
    refine zw_aload_n (pc := 78) (n := 0) (i := 0) 0 (by decide +kernel) rfl rfl ?_
    refine zw_iload_n (pc := 79) (n := 3) (i := 3) 1 (by decide +kernel) rfl rfl ?_
    refine zw_iload (pc := 80) (i := 4) 2 (by decide +kernel) rfl ?_
    refine zw_aload_n (pc := 82) (n := 0) (i := 0) 0 (by decide +kernel) rfl rfl ?_
    refine zw_iload_n (pc := 83) (n := 3) (i := 3) 1 (by decide +kernel) rfl rfl ?_
    refine zw_iload (pc := 84) (i := 4) 2 (by decide +kernel) rfl ?_
    refine zx_callV (pc := 86) (As := [.int (zJ v3), .int (zJ v4)]) h zi_X11_termAt zii_X11_termAt zie_X11_termAt zl_11_240 (by decide +kernel) ⟨Nat.le_of_ble_eq_true rfl, Nat.le_of_ble_eq_true rfl⟩ rfl zc_203 (by decide) rfl rfl ⟨rfl, rfl⟩ ⟨Nat.zero_le _, Nat.zero_le _⟩ (zki (fun x4 μ3 h => ?_))
    refine zx_callV (pc := 89) (As := [.int (zJ v3), .int (zJ v4), .int (zJ x4)]) h zi_X11_adds zii_X11_adds zie_X11_adds zl_11_215 (by decide +kernel) ⟨Nat.le_of_ble_eq_true rfl, Nat.le_of_ble_eq_true rfl⟩ rfl zc_203 (by decide) rfl rfl ⟨rfl, rfl⟩ ⟨Nat.zero_le _, Nat.zero_le _⟩ (zkv (fun μ5 h => ?_))
    refine zw_iinc (pc := 92) (i := 4) (n := 1) (lv' := [(0, .ref 203), (3, .int (zJ v3)), (4, .int (zJ (v4 + 1)))]) 2 (by decide +kernel) rfl rfl (Nat.le_of_ble_eq_true rfl) rfl ?_
    refine zw_goto (pc := 95) (off := (-26)) (tgt := 69) (by decide +kernel) (by decide) ?_
    exact h
theorem sg_X11_neighbour {g : zG} {φ : Int → zMu → Prop} {v1 : Int} {v2 : Int} {μ : zMu}
    (h : zOi g zm_X11_isValue [.ref 203, .int (zJ v1)] μ (fun x2 μ1 => (zR x2) ∧ ((x2 = 0 → φ (-2) μ1) ∧ (¬ x2 = 0 → (zR v2) ∧ (((-1) ≤ v2 → (zR (μ1 203 4)) ∧ ((¬ (μ1 203 4) = 0 → zOi g zm_X11_tellsNeighbours [.ref 203, .int (zJ v1)] μ1 (fun x7 μ6 => (zR x7) ∧ ((¬ x7 = 0 → ((¬ v2 = (-1) → (zR (μ6 203 28)) ∧ (((μ6 203 28) ≤ v2 → φ (-5) μ6) ∧ (v2 < (μ6 203 28) → (0 ≤ v2 ∧ v2 < 8) ∧ φ (μ6 221 v2.toNat) μ6))) ∧ (v2 = (-1) → φ (μ6 203 28) μ6))) ∧ (x7 = 0 → φ (-3) μ6)))) ∧ ((μ1 203 4) = 0 → φ (-11) μ1))) ∧ (v2 < (-1) → φ (-2) μ1)))))) : zOi g zm_X11_neighbour [.ref 203, .int (zJ v1), .int (zJ v2)] μ φ := by
  refine zok_of (by decide +kernel) rfl ?_
  show zWP g zm_X11_neighbour (zmo g zm_X11_neighbour (zΦi φ)) 0 [(0, .ref 203), (1, .int (zJ v1)), (2, .int (zJ v2))] [] 0 0 (zw μ)
  refine zw_aload_n (pc := 0) (n := 0) (i := 0) 0 (by decide +kernel) rfl rfl ?_
  refine zw_iload_n (pc := 1) (n := 1) (i := 1) 1 (by decide +kernel) rfl rfl ?_
  refine zx_callV (pc := 2) (As := [.int (zJ v1)]) h zi_X11_isValue zii_X11_isValue zie_X11_isValue zl_11_243 (by decide +kernel) ⟨Nat.le_of_ble_eq_true rfl, Nat.le_of_ble_eq_true rfl⟩ rfl zc_203 (by decide) rfl rfl ⟨rfl, rfl⟩ ⟨Nat.zero_le _, Nat.zero_le _⟩ (zki (fun x2 μ1 h => ?_))
  obtain ⟨o3, h⟩ := h
  refine zw_if_eq (pc := 5) (off := 8) (tgt := 13) (by decide +kernel) (by decide) o3 (fun hc => ?_) (fun hc => ?_)
  · replace h := h.1 hc
    refine zw_bipush (pc := 13) (n := (-2)) (by decide +kernel) (by decide +kernel) ?_
    exact zw_iret (pc := 15) (by decide +kernel) rfl (Nat.le_refl _) (Nat.le_refl _) ⟨_, _, rfl, rfl, h⟩
  · replace h := h.2 hc
    obtain ⟨o4, h⟩ := h
    refine zw_iload_n (pc := 8) (n := 2) (i := 2) 2 (by decide +kernel) rfl rfl ?_
    refine zw_iconst (pc := 9) (n := (-1)) (by decide +kernel) ?_
    refine zw_icmp_ge (pc := 10) (off := 6) (tgt := 16) (by decide +kernel) (by decide) o4 ⟨by decide, by decide⟩ (fun hc => ?_) (fun hc => ?_)
    · replace h := h.1 hc
      obtain ⟨o5, h⟩ := h
      refine zw_aload_n (pc := 16) (n := 0) (i := 0) 0 (by decide +kernel) rfl rfl ?_
      refine zx_getI (pc := 17) zf_11_128 (by decide +kernel) rfl zc_203 ?_
      refine zw_if_ne (pc := 20) (off := 6) (tgt := 26) (by decide +kernel) (by decide) o5 (fun hc => ?_) (fun hc => ?_)
      · replace h := h.1 hc
        refine zw_aload_n (pc := 26) (n := 0) (i := 0) 0 (by decide +kernel) rfl rfl ?_
        refine zw_iload_n (pc := 27) (n := 1) (i := 1) 1 (by decide +kernel) rfl rfl ?_
        refine zx_callV (pc := 28) (As := [.int (zJ v1)]) h zi_X11_tellsNeighbours zii_X11_tellsNeighbours zie_X11_tellsNeighbours zl_11_258 (by decide +kernel) ⟨Nat.le_of_ble_eq_true rfl, Nat.le_of_ble_eq_true rfl⟩ rfl zc_203 (by decide) rfl rfl ⟨rfl, rfl⟩ ⟨Nat.zero_le _, Nat.zero_le _⟩ (zki (fun x7 μ6 h => ?_))
        obtain ⟨o8, h⟩ := h
        refine zw_if_ne (pc := 31) (off := 6) (tgt := 37) (by decide +kernel) (by decide) o8 (fun hc => ?_) (fun hc => ?_)
        · replace h := h.1 hc
          refine zw_iload_n (pc := 37) (n := 2) (i := 2) 2 (by decide +kernel) rfl rfl ?_
          refine zw_iconst (pc := 38) (n := (-1)) (by decide +kernel) ?_
          refine zw_icmp_ne (pc := 39) (off := 10) (tgt := 49) (by decide +kernel) (by decide) o4 ⟨by decide, by decide⟩ (fun hc => ?_) (fun hc => ?_)
          · replace h := h.1 hc
            obtain ⟨o9, h⟩ := h
            refine zw_iload_n (pc := 49) (n := 2) (i := 2) 2 (by decide +kernel) rfl rfl ?_
            refine zw_aload_n (pc := 50) (n := 0) (i := 0) 0 (by decide +kernel) rfl rfl ?_
            refine zx_getI (pc := 51) zf_11_252 (by decide +kernel) rfl zc_203 ?_
            refine zw_icmp_ge (pc := 54) (off := 12) (tgt := 66) (by decide +kernel) (by decide) o4 o9 (fun hc => ?_) (fun hc => ?_)
            · replace h := h.1 hc
              refine zw_bipush (pc := 66) (n := (-5)) (by decide +kernel) (by decide +kernel) ?_
              exact zw_iret (pc := 68) (by decide +kernel) rfl (Nat.le_refl _) (Nat.le_refl _) ⟨_, _, rfl, rfl, h⟩
            · replace h := h.2 hc
              obtain ⟨o10, h⟩ := h
              refine zw_aload_n (pc := 57) (n := 0) (i := 0) 0 (by decide +kernel) rfl rfl ?_
              refine zx_getR (pc := 58) (o := 18) (r := 221) zf_11_67 (by decide +kernel) rfl zc_203 rfl (by decide) rfl ?_
              refine zw_iload_n (pc := 61) (n := 2) (i := 2) 2 (by decide +kernel) rfl rfl ?_
              refine zx_iaload (pc := 62) (by decide +kernel) ⟨8, zc_221, o10.1, o10.2⟩ ?_
              refine zw_goto (pc := 63) (off := 5) (tgt := 68) (by decide +kernel) (by decide) ?_
              exact zw_iret (pc := 68) (by decide +kernel) rfl (Nat.le_refl _) (Nat.le_refl _) ⟨_, _, rfl, rfl, h⟩
          · replace h := h.2 hc
            refine zw_aload_n (pc := 42) (n := 0) (i := 0) 0 (by decide +kernel) rfl rfl ?_
            refine zx_getI (pc := 43) zf_11_252 (by decide +kernel) rfl zc_203 ?_
            refine zw_goto (pc := 46) (off := 22) (tgt := 68) (by decide +kernel) (by decide) ?_
            exact zw_iret (pc := 68) (by decide +kernel) rfl (Nat.le_refl _) (Nat.le_refl _) ⟨_, _, rfl, rfl, h⟩
        · replace h := h.2 hc
          refine zw_bipush (pc := 34) (n := (-3)) (by decide +kernel) (by decide +kernel) ?_
          exact zw_iret (pc := 36) (by decide +kernel) rfl (Nat.le_refl _) (Nat.le_refl _) ⟨_, _, rfl, rfl, h⟩
      · replace h := h.2 hc
        refine zw_bipush (pc := 23) (n := (-11)) (by decide +kernel) (by decide +kernel) ?_
        exact zw_iret (pc := 25) (by decide +kernel) rfl (Nat.le_refl _) (Nat.le_refl _) ⟨_, _, rfl, rfl, h⟩
    · replace h := h.2 hc
      refine zw_bipush (pc := 13) (n := (-2)) (by decide +kernel) (by decide +kernel) ?_
      exact zw_iret (pc := 15) (by decide +kernel) rfl (Nat.le_refl _) (Nat.le_refl _) ⟨_, _, rfl, rfl, h⟩
abbrev at_X11_tellsNeighbours_17 (g : zG) (φ : Int → zMu → Prop) (v2 : Int) (μ : zMu) : Prop := zWP g zm_X11_tellsNeighbours (zmo g zm_X11_tellsNeighbours (zΦi φ)) 17 [(0, .ref 203), (2, .int (zJ v2))] [] 0 0 (zw μ)
abbrev at_X11_tellsNeighbours_34 (g : zG) (φ : Int → zMu → Prop) (v2 : Int) (v3 : Int) (v4 : Int) (μ : zMu) : Prop := zWP g zm_X11_tellsNeighbours (zmo g zm_X11_tellsNeighbours (zΦi φ)) 34 [(0, .ref 203), (2, .int (zJ v2)), (3, .int (zJ v3)), (4, .int (zJ v4))] [] 0 0 (zw μ)
theorem sg_X11_tellsNeighbours {g : zG} {φ : Int → zMu → Prop} {v1 : Int} {μ : zMu}
    (h : zOi g zm_X11_puts [.ref 203, .int (zJ v1)] (zup μ 203 28 0) (fun x2 μ1 => (zR x2) ∧ ((¬ x2 = 0 → at_X11_tellsNeighbours_17 g φ 0 μ1) ∧ (x2 = 0 → φ 0 μ1)))) : zOi g zm_X11_tellsNeighbours [.ref 203, .int (zJ v1)] μ φ := by
  refine zok_of (by decide +kernel) rfl ?_
  show zWP g zm_X11_tellsNeighbours (zmo g zm_X11_tellsNeighbours (zΦi φ)) 0 [(0, .ref 203), (1, .int (zJ v1))] [] 0 0 (zw μ)
  refine zw_aload_n (pc := 0) (n := 0) (i := 0) 0 (by decide +kernel) rfl rfl ?_
  refine zw_iconst (pc := 1) (n := 0) (by decide +kernel) ?_
  refine zx_putI (pc := 2) zf_11_252 (by decide +kernel) rfl zc_203 ?_
  refine zw_aload_n (pc := 5) (n := 0) (i := 0) 0 (by decide +kernel) rfl rfl ?_
  refine zw_iload_n (pc := 6) (n := 1) (i := 1) 1 (by decide +kernel) rfl rfl ?_
  refine zx_callV (pc := 7) (As := [.int (zJ v1)]) h zi_X11_puts zii_X11_puts zie_X11_puts zl_11_246 (by decide +kernel) ⟨Nat.le_of_ble_eq_true rfl, Nat.le_of_ble_eq_true rfl⟩ rfl zc_203 (by decide) rfl rfl ⟨rfl, rfl⟩ ⟨Nat.zero_le _, Nat.zero_le _⟩ (zki (fun x2 μ1 h => ?_))
  obtain ⟨o3, h⟩ := h
  refine zw_if_ne (pc := 10) (off := 5) (tgt := 15) (by decide +kernel) (by decide) o3 (fun hc => ?_) (fun hc => ?_)
  · replace h := h.1 hc
    refine zw_iconst (pc := 15) (n := 0) (by decide +kernel) ?_
    refine zw_istore_n (pc := 16) (n := 2) (i := 2) (lv' := [(0, .ref 203), (1, .int (zJ v1)), (2, .int (zJ 0))]) (by decide +kernel) rfl (Nat.le_of_ble_eq_true rfl) rfl ?_
    exact zw_pick (lv' := [(0, .ref 203), (2, .int (zJ 0))]) [0, 2] rfl h
  · replace h := h.2 hc
    refine zw_iconst (pc := 13) (n := 0) (by decide +kernel) ?_
    exact zw_zret (pc := 14) (by decide +kernel) rfl (Nat.le_refl _) (Nat.le_refl _) (Or.inl rfl) ⟨_, _, rfl, rfl, h⟩
theorem sg_X11_tellsNeighbours_17 {g : zG} {φ : Int → zMu → Prop} {v2 : Int} {μ : zMu}
    (h : (zR v2) ∧ (zR (μ 203 0)) ∧ (((μ 203 0) ≤ v2 → φ 1 μ) ∧ (v2 < (μ 203 0) → zOi g zm_X11_oftenOf [.ref 203, .int (zJ v2)] μ (fun x4 μ3 => at_X11_tellsNeighbours_34 g φ v2 x4 0 μ3)))) : at_X11_tellsNeighbours_17 g φ v2 μ := by
  obtain ⟨o1, o2, h⟩ := h
  refine zw_iload_n (pc := 17) (n := 2) (i := 2) 1 (by decide +kernel) rfl rfl ?_
  refine zw_aload_n (pc := 18) (n := 0) (i := 0) 0 (by decide +kernel) rfl rfl ?_
  refine zx_getI (pc := 19) zf_11_9 (by decide +kernel) rfl zc_203 ?_
  refine zw_icmp_ge (pc := 22) (off := 50) (tgt := 72) (by decide +kernel) (by decide) o1 o2 (fun hc => ?_) (fun hc => ?_)
  · replace h := h.1 hc
    refine zw_iconst (pc := 72) (n := 1) (by decide +kernel) ?_
    exact zw_zret (pc := 73) (by decide +kernel) rfl (Nat.le_refl _) (Nat.le_refl _) (Or.inr rfl) ⟨_, _, rfl, rfl, h⟩
  · replace h := h.2 hc
    refine zw_aload_n (pc := 25) (n := 0) (i := 0) 0 (by decide +kernel) rfl rfl ?_
    refine zw_iload_n (pc := 26) (n := 2) (i := 2) 1 (by decide +kernel) rfl rfl ?_
    refine zx_callV (pc := 27) (As := [.int (zJ v2)]) h zi_X11_oftenOf zii_X11_oftenOf zie_X11_oftenOf zl_11_255 (by decide +kernel) ⟨Nat.le_of_ble_eq_true rfl, Nat.le_of_ble_eq_true rfl⟩ rfl zc_203 (by decide) rfl rfl ⟨rfl, rfl⟩ ⟨Nat.zero_le _, Nat.zero_le _⟩ (zki (fun x4 μ3 h => ?_))
    refine zw_istore_n (pc := 30) (n := 3) (i := 3) (lv' := [(0, .ref 203), (2, .int (zJ v2)), (3, .int (zJ x4))]) (by decide +kernel) rfl (Nat.le_of_ble_eq_true rfl) rfl ?_
    refine zw_iconst (pc := 31) (n := 0) (by decide +kernel) ?_
    refine zw_istore (pc := 32) (i := 4) (lv' := [(0, .ref 203), (2, .int (zJ v2)), (3, .int (zJ x4)), (4, .int (zJ 0))]) (by decide +kernel) (Nat.le_of_ble_eq_true rfl) rfl ?_
    exact h
theorem sg_X11_tellsNeighbours_34 {g : zG} {φ : Int → zMu → Prop} {v2 : Int} {v3 : Int} {v4 : Int} {μ : zMu}
    (h : (zR v4) ∧ (zR v3) ∧ ((v3 ≤ v4 → at_X11_tellsNeighbours_17 g φ (v2 + 1) μ) ∧ (v4 < v3 → (0 ≤ (μ 203 28) ∧ (μ 203 28) < 8) ∧ at_X11_tellsNeighbours_34 g φ v2 v3 (v4 + 1) (zup (zup μ 221 (Int.toNat (μ 203 28)) v2) 203 28 (((zup μ 221 (Int.toNat (μ 203 28)) v2) 203 28) + 1))))) : at_X11_tellsNeighbours_34 g φ v2 v3 v4 μ := by
  obtain ⟨o1, o2, h⟩ := h
  refine zw_iload (pc := 34) (i := 4) 3 (by decide +kernel) rfl ?_
  refine zw_iload_n (pc := 36) (n := 3) (i := 3) 2 (by decide +kernel) rfl rfl ?_
  refine zw_icmp_ge (pc := 37) (off := 29) (tgt := 66) (by decide +kernel) (by decide) o1 o2 (fun hc => ?_) (fun hc => ?_)
  · replace h := h.1 hc
    refine zw_iinc (pc := 66) (i := 2) (n := 1) (lv' := [(0, .ref 203), (2, .int (zJ (v2 + 1))), (3, .int (zJ v3)), (4, .int (zJ v4))]) 1 (by decide +kernel) rfl rfl (Nat.le_of_ble_eq_true rfl) rfl ?_
    refine zw_goto (pc := 69) (off := (-52)) (tgt := 17) (by decide +kernel) (by decide) ?_
    exact zw_pick (lv' := [(0, .ref 203), (2, .int (zJ (v2 + 1)))]) [0, 1] rfl h
  · replace h := h.2 hc
    obtain ⟨o3, h⟩ := h
    refine zw_aload_n (pc := 40) (n := 0) (i := 0) 0 (by decide +kernel) rfl rfl ?_
    refine zx_getR (pc := 41) (o := 18) (r := 221) zf_11_67 (by decide +kernel) rfl zc_203 rfl (by decide) rfl ?_
    refine zw_aload_n (pc := 44) (n := 0) (i := 0) 0 (by decide +kernel) rfl rfl ?_
    refine zx_getI (pc := 45) zf_11_252 (by decide +kernel) rfl zc_203 ?_
    refine zw_iload_n (pc := 48) (n := 2) (i := 2) 1 (by decide +kernel) rfl rfl ?_
    refine zx_iastore (pc := 49) (by decide +kernel) ⟨8, zc_221, o3.1, o3.2⟩ ?_
    refine zw_aload_n (pc := 50) (n := 0) (i := 0) 0 (by decide +kernel) rfl rfl ?_
    refine zw_dup (pc := 51) (by decide +kernel) rfl ?_
    refine zx_getI (pc := 52) zf_11_252 (by decide +kernel) rfl zc_203 ?_
    refine zw_iconst (pc := 55) (n := 1) (by decide +kernel) ?_
    refine zw_iadd (pc := 56) (by decide +kernel) ?_
    refine zx_putI (pc := 57) zf_11_252 (by decide +kernel) rfl zc_203 ?_
    refine zw_iinc (pc := 60) (i := 4) (n := 1) (lv' := [(0, .ref 203), (2, .int (zJ v2)), (3, .int (zJ v3)), (4, .int (zJ (v4 + 1)))]) 3 (by decide +kernel) rfl rfl (Nat.le_of_ble_eq_true rfl) rfl ?_
    refine zw_goto (pc := 63) (off := (-29)) (tgt := 34) (by decide +kernel) (by decide) ?_
    exact h
abbrev at_X11_oftenOf_2 (g : zG) (φ : Int → zMu → Prop) (v1 : Int) (v2 : Int) (μ : zMu) : Prop := zWP g zm_X11_oftenOf (zmo g zm_X11_oftenOf (zΦi φ)) 2 [(0, .ref 203), (1, .int (zJ v1)), (2, .int (zJ v2))] [] 0 0 (zw μ)
abbrev at_X11_oftenOf_21 (g : zG) (φ : Int → zMu → Prop) (v1 : Int) (v2 : Int) (v3 : Int) (v4 : Int) (μ : zMu) : Prop := zWP g zm_X11_oftenOf (zmo g zm_X11_oftenOf (zΦi φ)) 21 [(0, .ref 203), (1, .int (zJ v1)), (2, .int (zJ v2)), (3, .int (zJ v3)), (4, .int (zJ v4))] [] 0 0 (zw μ)
theorem sg_X11_oftenOf {g : zG} {φ : Int → zMu → Prop} {v1 : Int} {μ : zMu}
    (h : at_X11_oftenOf_2 g φ v1 0 μ) : zOi g zm_X11_oftenOf [.ref 203, .int (zJ v1)] μ φ := by
  refine zok_of (by decide +kernel) rfl ?_
  show zWP g zm_X11_oftenOf (zmo g zm_X11_oftenOf (zΦi φ)) 0 [(0, .ref 203), (1, .int (zJ v1))] [] 0 0 (zw μ)
  refine zw_iconst (pc := 0) (n := 0) (by decide +kernel) ?_
  refine zw_istore_n (pc := 1) (n := 2) (i := 2) (lv' := [(0, .ref 203), (1, .int (zJ v1)), (2, .int (zJ 0))]) (by decide +kernel) rfl (Nat.le_of_ble_eq_true rfl) rfl ?_
  exact h
theorem sg_X11_oftenOf_2 {g : zG} {φ : Int → zMu → Prop} {v1 : Int} {v2 : Int} {μ : zMu}
    (h : zOi g zm_X11_worth [.ref 203, .int (zJ v1)] μ (fun x2 μ1 => (zR x2) ∧ ((¬ x2 = 0 → φ v2 μ1) ∧ (x2 = 0 → at_X11_oftenOf_21 g φ v1 (v2 + 1) 0 (μ1 203 4) μ1)))) : at_X11_oftenOf_2 g φ v1 v2 μ := by
  refine zw_aload_n (pc := 2) (n := 0) (i := 0) 0 (by decide +kernel) rfl rfl ?_
  refine zw_iload_n (pc := 3) (n := 1) (i := 1) 1 (by decide +kernel) rfl rfl ?_
  refine zx_callV (pc := 4) (As := [.int (zJ v1)]) h zi_X11_worth zii_X11_worth zie_X11_worth zl_11_249 (by decide +kernel) ⟨Nat.le_of_ble_eq_true rfl, Nat.le_of_ble_eq_true rfl⟩ rfl zc_203 (by decide) rfl rfl ⟨rfl, rfl⟩ ⟨Nat.zero_le _, Nat.zero_le _⟩ (zki (fun x2 μ1 h => ?_))
  obtain ⟨o3, h⟩ := h
  refine zw_if_ne (pc := 7) (off := 57) (tgt := 64) (by decide +kernel) (by decide) o3 (fun hc => ?_) (fun hc => ?_)
  · replace h := h.1 hc
    refine zw_iload_n (pc := 64) (n := 2) (i := 2) 2 (by decide +kernel) rfl rfl ?_
    exact zw_iret (pc := 65) (by decide +kernel) rfl (Nat.le_refl _) (Nat.le_refl _) ⟨_, _, rfl, rfl, h⟩
  · replace h := h.2 hc
    refine zw_iinc (pc := 10) (i := 2) (n := 1) (lv' := [(0, .ref 203), (1, .int (zJ v1)), (2, .int (zJ (v2 + 1)))]) 2 (by decide +kernel) rfl rfl (Nat.le_of_ble_eq_true rfl) rfl ?_
    refine zw_iconst (pc := 13) (n := 0) (by decide +kernel) ?_
    refine zw_istore_n (pc := 14) (n := 3) (i := 3) (lv' := [(0, .ref 203), (1, .int (zJ v1)), (2, .int (zJ (v2 + 1))), (3, .int (zJ 0))]) (by decide +kernel) rfl (Nat.le_of_ble_eq_true rfl) rfl ?_
    refine zw_aload_n (pc := 15) (n := 0) (i := 0) 0 (by decide +kernel) rfl rfl ?_
    refine zx_getI (pc := 16) zf_11_128 (by decide +kernel) rfl zc_203 ?_
    refine zw_istore (pc := 19) (i := 4) (lv' := [(0, .ref 203), (1, .int (zJ v1)), (2, .int (zJ (v2 + 1))), (3, .int (zJ 0)), (4, .int (zJ (μ1 203 4)))]) (by decide +kernel) (Nat.le_of_ble_eq_true rfl) rfl ?_
    exact h
theorem sg_X11_oftenOf_21 {g : zG} {φ : Int → zMu → Prop} {v1 : Int} {v2 : Int} {v3 : Int} {v4 : Int} {μ : zMu}
    (h : (zR v4) ∧ ((v4 < 0 → at_X11_oftenOf_2 g φ v1 v2 μ) ∧ (0 ≤ v4 → (0 ≤ v4 ∧ v4 < 9) ∧ (zR ((v3 * v1) + (μ 220 v4.toNat))) ∧ (zR ((zup μ 220 v4.toNat v3) 203 0)) ∧ (((zup μ 220 v4.toNat v3) 203 0) ≠ 0) ∧ at_X11_oftenOf_21 g φ v1 v2 (((v3 * v1) + (μ 220 v4.toNat)).tmod ((zup μ 220 v4.toNat v3) 203 0)) (v4 + (-1)) (zup μ 220 v4.toNat v3)))) : at_X11_oftenOf_21 g φ v1 v2 v3 v4 μ := by
  obtain ⟨o1, h⟩ := h
  refine zw_iload (pc := 21) (i := 4) 4 (by decide +kernel) rfl ?_
  refine zw_if_lt (pc := 23) (off := 38) (tgt := 61) (by decide +kernel) (by decide) o1 (fun hc => ?_) (fun hc => ?_)
  · replace h := h.1 hc
    refine zw_goto (pc := 61) (off := (-59)) (tgt := 2) (by decide +kernel) (by decide) ?_
    exact zw_pick (lv' := [(0, .ref 203), (1, .int (zJ v1)), (2, .int (zJ v2))]) [0, 1, 2] rfl h
  · replace h := h.2 hc
    obtain ⟨o2, o3, o4, o5, h⟩ := h
    refine zw_aload_n (pc := 26) (n := 0) (i := 0) 0 (by decide +kernel) rfl rfl ?_
    refine zx_getR (pc := 27) (o := 17) (r := 220) zf_11_64 (by decide +kernel) rfl zc_203 rfl (by decide) rfl ?_
    refine zw_iload (pc := 30) (i := 4) 4 (by decide +kernel) rfl ?_
    refine zx_iaload (pc := 32) (by decide +kernel) ⟨9, zc_220, o2.1, o2.2⟩ ?_
    refine zw_istore (pc := 33) (i := 5) (lv' := [(0, .ref 203), (1, .int (zJ v1)), (2, .int (zJ v2)), (3, .int (zJ v3)), (4, .int (zJ v4)), (5, .int (zJ (μ 220 v4.toNat)))]) (by decide +kernel) (Nat.le_of_ble_eq_true rfl) rfl ?_
    refine zw_aload_n (pc := 35) (n := 0) (i := 0) 0 (by decide +kernel) rfl rfl ?_
    refine zx_getR (pc := 36) (o := 17) (r := 220) zf_11_64 (by decide +kernel) rfl zc_203 rfl (by decide) rfl ?_
    refine zw_iload (pc := 39) (i := 4) 4 (by decide +kernel) rfl ?_
    refine zw_iload_n (pc := 41) (n := 3) (i := 3) 3 (by decide +kernel) rfl rfl ?_
    refine zx_iastore (pc := 42) (by decide +kernel) ⟨9, zc_220, o2.1, o2.2⟩ ?_
    refine zw_iload_n (pc := 43) (n := 3) (i := 3) 3 (by decide +kernel) rfl rfl ?_
    refine zw_iload_n (pc := 44) (n := 1) (i := 1) 1 (by decide +kernel) rfl rfl ?_
    refine zw_imul (pc := 45) (by decide +kernel) ?_
    refine zw_iload (pc := 46) (i := 5) 5 (by decide +kernel) rfl ?_
    refine zw_iadd (pc := 48) (by decide +kernel) ?_
    refine zw_aload_n (pc := 49) (n := 0) (i := 0) 0 (by decide +kernel) rfl rfl ?_
    refine zx_getI (pc := 50) zf_11_9 (by decide +kernel) rfl zc_203 ?_
    refine zw_irem (pc := 53) (by decide +kernel) o3 o4 o5 ?_
    refine zw_istore_n (pc := 54) (n := 3) (i := 3) (lv' := [(0, .ref 203), (1, .int (zJ v1)), (2, .int (zJ v2)), (3, .int (zJ (((v3 * v1) + (μ 220 v4.toNat)).tmod ((zup μ 220 v4.toNat v3) 203 0)))), (4, .int (zJ v4)), (5, .int (zJ (μ 220 v4.toNat)))]) (by decide +kernel) rfl (Nat.le_of_ble_eq_true rfl) rfl ?_
    refine zw_iinc (pc := 55) (i := 4) (n := (-1)) (lv' := [(0, .ref 203), (1, .int (zJ v1)), (2, .int (zJ v2)), (3, .int (zJ (((v3 * v1) + (μ 220 v4.toNat)).tmod ((zup μ 220 v4.toNat v3) 203 0)))), (4, .int (zJ (v4 + (-1)))), (5, .int (zJ (μ 220 v4.toNat)))]) 4 (by decide +kernel) rfl rfl (Nat.le_of_ble_eq_true rfl) rfl ?_
    refine zw_goto (pc := 58) (off := (-37)) (tgt := 21) (by decide +kernel) (by decide) ?_
    exact zw_pick (lv' := [(0, .ref 203), (1, .int (zJ v1)), (2, .int (zJ v2)), (3, .int (zJ (((v3 * v1) + (μ 220 v4.toNat)).tmod ((zup μ 220 v4.toNat v3) 203 0)))), (4, .int (zJ (v4 + (-1))))]) [0, 1, 2, 3, 4] rfl h
theorem sg_X11_far {g : zG} {φ : Int → zMu → Prop} {v1 : Int} {v2 : Int} {μ : zMu}
    (h : zOi g zm_X11_isValue [.ref 203, .int (zJ v1)] μ (fun x2 μ1 => (zR x2) ∧ ((x2 = 0 → φ (-2) μ1) ∧ (¬ x2 = 0 → zOi g zm_X11_isValue [.ref 203, .int (zJ v2)] μ1 (fun x5 μ4 => (zR x5) ∧ ((¬ x5 = 0 → (zR (μ4 203 4)) ∧ ((¬ (μ4 203 4) = 0 → zOv g zm_X11_tellsAway [.ref 203, .int (zJ v1)] μ4 (fun μ8 => (0 ≤ v2 ∧ v2 < 200) ∧ φ (μ8 222 v2.toNat) μ8)) ∧ ((μ4 203 4) = 0 → φ (-11) μ4))) ∧ (x5 = 0 → φ (-2) μ4))))))) : zOi g zm_X11_far [.ref 203, .int (zJ v1), .int (zJ v2)] μ φ := by
  refine zok_of (by decide +kernel) rfl ?_
  show zWP g zm_X11_far (zmo g zm_X11_far (zΦi φ)) 0 [(0, .ref 203), (1, .int (zJ v1)), (2, .int (zJ v2))] [] 0 0 (zw μ)
  refine zw_aload_n (pc := 0) (n := 0) (i := 0) 0 (by decide +kernel) rfl rfl ?_
  refine zw_iload_n (pc := 1) (n := 1) (i := 1) 1 (by decide +kernel) rfl rfl ?_
  refine zx_callV (pc := 2) (As := [.int (zJ v1)]) h zi_X11_isValue zii_X11_isValue zie_X11_isValue zl_11_243 (by decide +kernel) ⟨Nat.le_of_ble_eq_true rfl, Nat.le_of_ble_eq_true rfl⟩ rfl zc_203 (by decide) rfl rfl ⟨rfl, rfl⟩ ⟨Nat.zero_le _, Nat.zero_le _⟩ (zki (fun x2 μ1 h => ?_))
  obtain ⟨o3, h⟩ := h
  refine zw_if_eq (pc := 5) (off := 11) (tgt := 16) (by decide +kernel) (by decide) o3 (fun hc => ?_) (fun hc => ?_)
  · replace h := h.1 hc
    refine zw_bipush (pc := 16) (n := (-2)) (by decide +kernel) (by decide +kernel) ?_
    exact zw_iret (pc := 18) (by decide +kernel) rfl (Nat.le_refl _) (Nat.le_refl _) ⟨_, _, rfl, rfl, h⟩
  · replace h := h.2 hc
    refine zw_aload_n (pc := 8) (n := 0) (i := 0) 0 (by decide +kernel) rfl rfl ?_
    refine zw_iload_n (pc := 9) (n := 2) (i := 2) 2 (by decide +kernel) rfl rfl ?_
    refine zx_callV (pc := 10) (As := [.int (zJ v2)]) h zi_X11_isValue zii_X11_isValue zie_X11_isValue zl_11_243 (by decide +kernel) ⟨Nat.le_of_ble_eq_true rfl, Nat.le_of_ble_eq_true rfl⟩ rfl zc_203 (by decide) rfl rfl ⟨rfl, rfl⟩ ⟨Nat.zero_le _, Nat.zero_le _⟩ (zki (fun x5 μ4 h => ?_))
    obtain ⟨o6, h⟩ := h
    refine zw_if_ne (pc := 13) (off := 6) (tgt := 19) (by decide +kernel) (by decide) o6 (fun hc => ?_) (fun hc => ?_)
    · replace h := h.1 hc
      obtain ⟨o7, h⟩ := h
      refine zw_aload_n (pc := 19) (n := 0) (i := 0) 0 (by decide +kernel) rfl rfl ?_
      refine zx_getI (pc := 20) zf_11_128 (by decide +kernel) rfl zc_203 ?_
      refine zw_if_ne (pc := 23) (off := 6) (tgt := 29) (by decide +kernel) (by decide) o7 (fun hc => ?_) (fun hc => ?_)
      · replace h := h.1 hc
        refine zw_aload_n (pc := 29) (n := 0) (i := 0) 0 (by decide +kernel) rfl rfl ?_
        refine zw_iload_n (pc := 30) (n := 1) (i := 1) 1 (by decide +kernel) rfl rfl ?_
        refine zx_callV (pc := 31) (As := [.int (zJ v1)]) h zi_X11_tellsAway zii_X11_tellsAway zie_X11_tellsAway zl_11_261 (by decide +kernel) ⟨Nat.le_of_ble_eq_true rfl, Nat.le_of_ble_eq_true rfl⟩ rfl zc_203 (by decide) rfl rfl ⟨rfl, rfl⟩ ⟨Nat.zero_le _, Nat.zero_le _⟩ (zkv (fun μ8 h => ?_))
        obtain ⟨o9, h⟩ := h
        refine zw_aload_n (pc := 34) (n := 0) (i := 0) 0 (by decide +kernel) rfl rfl ?_
        refine zx_getR (pc := 35) (o := 19) (r := 222) zf_11_70 (by decide +kernel) rfl zc_203 rfl (by decide) rfl ?_
        refine zw_iload_n (pc := 38) (n := 2) (i := 2) 2 (by decide +kernel) rfl rfl ?_
        refine zx_iaload (pc := 39) (by decide +kernel) ⟨200, zc_222, o9.1, o9.2⟩ ?_
        exact zw_iret (pc := 40) (by decide +kernel) rfl (Nat.le_refl _) (Nat.le_refl _) ⟨_, _, rfl, rfl, h⟩
      · replace h := h.2 hc
        refine zw_bipush (pc := 26) (n := (-11)) (by decide +kernel) (by decide +kernel) ?_
        exact zw_iret (pc := 28) (by decide +kernel) rfl (Nat.le_refl _) (Nat.le_refl _) ⟨_, _, rfl, rfl, h⟩
    · replace h := h.2 hc
      refine zw_bipush (pc := 16) (n := (-2)) (by decide +kernel) (by decide +kernel) ?_
      exact zw_iret (pc := 18) (by decide +kernel) rfl (Nat.le_refl _) (Nat.le_refl _) ⟨_, _, rfl, rfl, h⟩
abbrev at_X11_tellsAway_2 (g : zG) (φ : zMu → Prop) (v1 : Int) (v2 : Int) (μ : zMu) : Prop := zWP g zm_X11_tellsAway (zmo g zm_X11_tellsAway (zΦv φ)) 2 [(0, .ref 203), (1, .int (zJ v1)), (2, .int (zJ v2))] [] 0 0 (zw μ)
abbrev at_X11_tellsAway_36 (g : zG) (φ : zMu → Prop) (v2 : Int) (v3 : Int) (μ : zMu) : Prop := zWP g zm_X11_tellsAway (zmo g zm_X11_tellsAway (zΦv φ)) 36 [(0, .ref 203), (2, .int (zJ v2)), (3, .int (zJ v3))] [] 0 0 (zw μ)
abbrev at_X11_tellsAway_45 (g : zG) (φ : zMu → Prop) (v2 : Int) (v3 : Int) (v4 : Int) (μ : zMu) : Prop := zWP g zm_X11_tellsAway (zmo g zm_X11_tellsAway (zΦv φ)) 45 [(0, .ref 203), (2, .int (zJ v2)), (3, .int (zJ v3)), (4, .int (zJ v4))] [] 0 0 (zw μ)
abbrev at_X11_tellsAway_77 (g : zG) (φ : zMu → Prop) (v2 : Int) (v3 : Int) (v4 : Int) (v5 : Int) (μ : zMu) : Prop := zWP g zm_X11_tellsAway (zmo g zm_X11_tellsAway (zΦv φ)) 77 [(0, .ref 203), (2, .int (zJ v2)), (3, .int (zJ v3)), (4, .int (zJ v4)), (5, .int (zJ v5))] [] 0 0 (zw μ)
theorem sg_X11_tellsAway {g : zG} {φ : zMu → Prop} {v1 : Int} {μ : zMu}
    (h : at_X11_tellsAway_2 g φ v1 0 μ) : zOv g zm_X11_tellsAway [.ref 203, .int (zJ v1)] μ φ := by
  refine zok_of (by decide +kernel) rfl ?_
  show zWP g zm_X11_tellsAway (zmo g zm_X11_tellsAway (zΦv φ)) 0 [(0, .ref 203), (1, .int (zJ v1))] [] 0 0 (zw μ)
  refine zw_iconst (pc := 0) (n := 0) (by decide +kernel) ?_
  refine zw_istore_n (pc := 1) (n := 2) (i := 2) (lv' := [(0, .ref 203), (1, .int (zJ v1)), (2, .int (zJ 0))]) (by decide +kernel) rfl (Nat.le_of_ble_eq_true rfl) rfl ?_
  exact h
theorem sg_X11_tellsAway_2 {g : zG} {φ : zMu → Prop} {v1 : Int} {v2 : Int} {μ : zMu}
    (h : (zR v2) ∧ ((200 ≤ v2 → at_X11_tellsAway_36 g φ 1 0 μ) ∧ (v2 < 200 → (zR v1) ∧ ((¬ v2 = v1 → (0 ≤ v2 ∧ v2 < 200) ∧ at_X11_tellsAway_2 g φ v1 (v2 + 1) (zup μ 222 v2.toNat (-5))) ∧ (v2 = v1 → (0 ≤ v2 ∧ v2 < 200) ∧ at_X11_tellsAway_2 g φ v1 (v2 + 1) (zup μ 222 v2.toNat 0)))))) : at_X11_tellsAway_2 g φ v1 v2 μ := by
  obtain ⟨o1, h⟩ := h
  refine zw_iload_n (pc := 2) (n := 2) (i := 2) 2 (by decide +kernel) rfl rfl ?_
  refine zw_sipush (pc := 3) (n := 200) (by decide +kernel) (by decide +kernel) ?_
  refine zw_icmp_ge (pc := 6) (off := 26) (tgt := 32) (by decide +kernel) (by decide) o1 ⟨by decide, by decide⟩ (fun hc => ?_) (fun hc => ?_)
  · replace h := h.1 hc
    refine zw_iconst (pc := 32) (n := 1) (by decide +kernel) ?_
    refine zw_istore_n (pc := 33) (n := 2) (i := 2) (lv' := [(0, .ref 203), (1, .int (zJ v1)), (2, .int (zJ 1))]) (by decide +kernel) rfl (Nat.le_of_ble_eq_true rfl) rfl ?_
    refine zw_iconst (pc := 34) (n := 0) (by decide +kernel) ?_
    refine zw_istore_n (pc := 35) (n := 3) (i := 3) (lv' := [(0, .ref 203), (1, .int (zJ v1)), (2, .int (zJ 1)), (3, .int (zJ 0))]) (by decide +kernel) rfl (Nat.le_of_ble_eq_true rfl) rfl ?_
    exact zw_pick (lv' := [(0, .ref 203), (2, .int (zJ 1)), (3, .int (zJ 0))]) [0, 2, 3] rfl h
  · replace h := h.2 hc
    obtain ⟨o2, h⟩ := h
    refine zw_aload_n (pc := 9) (n := 0) (i := 0) 0 (by decide +kernel) rfl rfl ?_
    refine zx_getR (pc := 10) (o := 19) (r := 222) zf_11_70 (by decide +kernel) rfl zc_203 rfl (by decide) rfl ?_
    refine zw_iload_n (pc := 13) (n := 2) (i := 2) 2 (by decide +kernel) rfl rfl ?_
    refine zw_iload_n (pc := 14) (n := 2) (i := 2) 2 (by decide +kernel) rfl rfl ?_
    refine zw_iload_n (pc := 15) (n := 1) (i := 1) 1 (by decide +kernel) rfl rfl ?_
    refine zw_icmp_ne (pc := 16) (off := 7) (tgt := 23) (by decide +kernel) (by decide) o1 o2 (fun hc => ?_) (fun hc => ?_)
    · replace h := h.1 hc
      obtain ⟨o3, h⟩ := h
      refine zw_bipush (pc := 23) (n := (-5)) (by decide +kernel) (by decide +kernel) ?_
      refine zx_iastore (pc := 25) (by decide +kernel) ⟨200, zc_222, o3.1, o3.2⟩ ?_
      refine zw_iinc (pc := 26) (i := 2) (n := 1) (lv' := [(0, .ref 203), (1, .int (zJ v1)), (2, .int (zJ (v2 + 1)))]) 2 (by decide +kernel) rfl rfl (Nat.le_of_ble_eq_true rfl) rfl ?_
      refine zw_goto (pc := 29) (off := (-27)) (tgt := 2) (by decide +kernel) (by decide) ?_
      exact h
    · replace h := h.2 hc
      obtain ⟨o4, h⟩ := h
      refine zw_iconst (pc := 19) (n := 0) (by decide +kernel) ?_
      refine zw_goto (pc := 20) (off := 5) (tgt := 25) (by decide +kernel) (by decide) ?_
      refine zx_iastore (pc := 25) (by decide +kernel) ⟨200, zc_222, o4.1, o4.2⟩ ?_
      refine zw_iinc (pc := 26) (i := 2) (n := 1) (lv' := [(0, .ref 203), (1, .int (zJ v1)), (2, .int (zJ (v2 + 1)))]) 2 (by decide +kernel) rfl rfl (Nat.le_of_ble_eq_true rfl) rfl ?_
      refine zw_goto (pc := 29) (off := (-27)) (tgt := 2) (by decide +kernel) (by decide) ?_
      exact h
theorem sg_X11_tellsAway_36 {g : zG} {φ : zMu → Prop} {v2 : Int} {v3 : Int} {μ : zMu}
    (h : (zR v2) ∧ ((v2 = 0 → φ μ) ∧ (¬ v2 = 0 → at_X11_tellsAway_45 g φ 0 v3 0 μ))) : at_X11_tellsAway_36 g φ v2 v3 μ := by
  obtain ⟨o1, h⟩ := h
  refine zw_iload_n (pc := 36) (n := 2) (i := 2) 1 (by decide +kernel) rfl rfl ?_
  refine zw_if_eq (pc := 37) (off := 139) (tgt := 176) (by decide +kernel) (by decide) o1 (fun hc => ?_) (fun hc => ?_)
  · replace h := h.1 hc
    exact zw_vret (pc := 176) (by decide +kernel) rfl (Nat.le_refl _) (Nat.le_refl _) ⟨_, rfl, rfl, h⟩
  · replace h := h.2 hc
    refine zw_iconst (pc := 40) (n := 0) (by decide +kernel) ?_
    refine zw_istore_n (pc := 41) (n := 2) (i := 2) (lv' := [(0, .ref 203), (2, .int (zJ 0)), (3, .int (zJ v3))]) (by decide +kernel) rfl (Nat.le_of_ble_eq_true rfl) rfl ?_
    refine zw_iconst (pc := 42) (n := 0) (by decide +kernel) ?_
    refine zw_istore (pc := 43) (i := 4) (lv' := [(0, .ref 203), (2, .int (zJ 0)), (3, .int (zJ v3)), (4, .int (zJ 0))]) (by decide +kernel) (Nat.le_of_ble_eq_true rfl) rfl ?_
    exact h
theorem sg_X11_tellsAway_45 {g : zG} {φ : zMu → Prop} {v2 : Int} {v3 : Int} {v4 : Int} {μ : zMu}
    (h : (zR v4) ∧ (zR (μ 203 0)) ∧ (((μ 203 0) ≤ v4 → at_X11_tellsAway_36 g φ v2 (v3 + 1) μ) ∧ (v4 < (μ 203 0) → (0 ≤ v4 ∧ v4 < 200) ∧ (zR (μ 222 v4.toNat)) ∧ (zR v3) ∧ ((¬ (μ 222 v4.toNat) = v3 → at_X11_tellsAway_45 g φ v2 v3 (v4 + 1) μ) ∧ ((μ 222 v4.toNat) = v3 → zOi g zm_X11_tellsNeighbours [.ref 203, .int (zJ v4)] μ (fun x7 μ6 => (zR x7) ∧ ((x7 = 0 → at_X11_tellsAway_45 g φ v2 v3 (v4 + 1) μ6) ∧ (¬ x7 = 0 → at_X11_tellsAway_77 g φ v2 v3 v4 0 μ6)))))))) : at_X11_tellsAway_45 g φ v2 v3 v4 μ := by
  obtain ⟨o1, o2, h⟩ := h
  refine zw_iload (pc := 45) (i := 4) 3 (by decide +kernel) rfl ?_
  refine zw_aload_n (pc := 47) (n := 0) (i := 0) 0 (by decide +kernel) rfl rfl ?_
  refine zx_getI (pc := 48) zf_11_9 (by decide +kernel) rfl zc_203 ?_
  refine zw_icmp_ge (pc := 51) (off := 119) (tgt := 170) (by decide +kernel) (by decide) o1 o2 (fun hc => ?_) (fun hc => ?_)
  · replace h := h.1 hc
    refine zw_iinc (pc := 170) (i := 3) (n := 1) (lv' := [(0, .ref 203), (2, .int (zJ v2)), (3, .int (zJ (v3 + 1))), (4, .int (zJ v4))]) 2 (by decide +kernel) rfl rfl (Nat.le_of_ble_eq_true rfl) rfl ?_
    refine zw_goto (pc := 173) (off := (-137)) (tgt := 36) (by decide +kernel) (by decide) ?_
    exact zw_pick (lv' := [(0, .ref 203), (2, .int (zJ v2)), (3, .int (zJ (v3 + 1)))]) [0, 1, 2] rfl h
  · replace h := h.2 hc
    obtain ⟨o3, o4, o5, h⟩ := h
    refine zw_aload_n (pc := 54) (n := 0) (i := 0) 0 (by decide +kernel) rfl rfl ?_
    refine zx_getR (pc := 55) (o := 19) (r := 222) zf_11_70 (by decide +kernel) rfl zc_203 rfl (by decide) rfl ?_
    refine zw_iload (pc := 58) (i := 4) 3 (by decide +kernel) rfl ?_
    refine zx_iaload (pc := 60) (by decide +kernel) ⟨200, zc_222, o3.1, o3.2⟩ ?_
    refine zw_iload_n (pc := 61) (n := 3) (i := 3) 2 (by decide +kernel) rfl rfl ?_
    refine zw_icmp_ne (pc := 62) (off := 102) (tgt := 164) (by decide +kernel) (by decide) o4 o5 (fun hc => ?_) (fun hc => ?_)
    · replace h := h.1 hc
      refine zw_iinc (pc := 164) (i := 4) (n := 1) (lv' := [(0, .ref 203), (2, .int (zJ v2)), (3, .int (zJ v3)), (4, .int (zJ (v4 + 1)))]) 3 (by decide +kernel) rfl rfl (Nat.le_of_ble_eq_true rfl) rfl ?_
      refine zw_goto (pc := 167) (off := (-122)) (tgt := 45) (by decide +kernel) (by decide) ?_
      exact h
    · replace h := h.2 hc
      refine zw_aload_n (pc := 65) (n := 0) (i := 0) 0 (by decide +kernel) rfl rfl ?_
      refine zw_iload (pc := 66) (i := 4) 3 (by decide +kernel) rfl ?_
      refine zx_callV (pc := 68) (As := [.int (zJ v4)]) h zi_X11_tellsNeighbours zii_X11_tellsNeighbours zie_X11_tellsNeighbours zl_11_258 (by decide +kernel) ⟨Nat.le_of_ble_eq_true rfl, Nat.le_of_ble_eq_true rfl⟩ rfl zc_203 (by decide) rfl rfl ⟨rfl, rfl⟩ ⟨Nat.zero_le _, Nat.zero_le _⟩ (zki (fun x7 μ6 h => ?_))
      obtain ⟨o8, h⟩ := h
      refine zw_if_eq (pc := 71) (off := 93) (tgt := 164) (by decide +kernel) (by decide) o8 (fun hc => ?_) (fun hc => ?_)
      · replace h := h.1 hc
        refine zw_iinc (pc := 164) (i := 4) (n := 1) (lv' := [(0, .ref 203), (2, .int (zJ v2)), (3, .int (zJ v3)), (4, .int (zJ (v4 + 1)))]) 3 (by decide +kernel) rfl rfl (Nat.le_of_ble_eq_true rfl) rfl ?_
        refine zw_goto (pc := 167) (off := (-122)) (tgt := 45) (by decide +kernel) (by decide) ?_
        exact h
      · replace h := h.2 hc
        refine zw_iconst (pc := 74) (n := 0) (by decide +kernel) ?_
        refine zw_istore (pc := 75) (i := 5) (lv' := [(0, .ref 203), (2, .int (zJ v2)), (3, .int (zJ v3)), (4, .int (zJ v4)), (5, .int (zJ 0))]) (by decide +kernel) (Nat.le_of_ble_eq_true rfl) rfl ?_
        exact h
theorem sg_X11_tellsAway_77 {g : zG} {φ : zMu → Prop} {v2 : Int} {v3 : Int} {v4 : Int} {v5 : Int} {μ : zMu}
    (h : (zR v5) ∧ (zR (μ 203 28)) ∧ (((μ 203 28) ≤ v5 → at_X11_tellsAway_45 g φ v2 v3 (v4 + 1) μ) ∧ (v5 < (μ 203 28) → (0 ≤ v5 ∧ v5 < 8) ∧ (0 ≤ (μ 221 v5.toNat) ∧ (μ 221 v5.toNat) < 200) ∧ (zR (μ 222 (Int.toNat (μ 221 v5.toNat)))) ∧ ((¬ (μ 222 (Int.toNat (μ 221 v5.toNat))) = (-5) → ((¬ (μ 222 (Int.toNat (μ 221 v5.toNat))) = (-5) → at_X11_tellsAway_77 g φ (zor v2 0) v3 v4 (v5 + 1) (zup μ 222 (Int.toNat (μ 221 v5.toNat)) (μ 222 (Int.toNat (μ 221 v5.toNat))))) ∧ ((μ 222 (Int.toNat (μ 221 v5.toNat))) = (-5) → at_X11_tellsAway_77 g φ (zor v2 0) v3 v4 (v5 + 1) (zup μ 222 (Int.toNat (μ 221 v5.toNat)) (v3 + 1))))) ∧ ((μ 222 (Int.toNat (μ 221 v5.toNat))) = (-5) → ((¬ (μ 222 (Int.toNat (μ 221 v5.toNat))) = (-5) → at_X11_tellsAway_77 g φ (zor v2 1) v3 v4 (v5 + 1) (zup μ 222 (Int.toNat (μ 221 v5.toNat)) (μ 222 (Int.toNat (μ 221 v5.toNat))))) ∧ ((μ 222 (Int.toNat (μ 221 v5.toNat))) = (-5) → at_X11_tellsAway_77 g φ (zor v2 1) v3 v4 (v5 + 1) (zup μ 222 (Int.toNat (μ 221 v5.toNat)) (v3 + 1))))))))) : at_X11_tellsAway_77 g φ v2 v3 v4 v5 μ := by
  obtain ⟨o1, o2, h⟩ := h
  refine zw_iload (pc := 77) (i := 5) 4 (by decide +kernel) rfl ?_
  refine zw_aload_n (pc := 79) (n := 0) (i := 0) 0 (by decide +kernel) rfl rfl ?_
  refine zx_getI (pc := 80) zf_11_252 (by decide +kernel) rfl zc_203 ?_
  refine zw_icmp_ge (pc := 83) (off := 81) (tgt := 164) (by decide +kernel) (by decide) o1 o2 (fun hc => ?_) (fun hc => ?_)
  · replace h := h.1 hc
    refine zw_iinc (pc := 164) (i := 4) (n := 1) (lv' := [(0, .ref 203), (2, .int (zJ v2)), (3, .int (zJ v3)), (4, .int (zJ (v4 + 1))), (5, .int (zJ v5))]) 3 (by decide +kernel) rfl rfl (Nat.le_of_ble_eq_true rfl) rfl ?_
    refine zw_goto (pc := 167) (off := (-122)) (tgt := 45) (by decide +kernel) (by decide) ?_
    exact zw_pick (lv' := [(0, .ref 203), (2, .int (zJ v2)), (3, .int (zJ v3)), (4, .int (zJ (v4 + 1)))]) [0, 1, 2, 3] rfl h
  · replace h := h.2 hc
    obtain ⟨o3, o4, o5, h⟩ := h
    refine zw_iload_n (pc := 86) (n := 2) (i := 2) 1 (by decide +kernel) rfl rfl ?_
    refine zw_aload_n (pc := 87) (n := 0) (i := 0) 0 (by decide +kernel) rfl rfl ?_
    refine zx_getR (pc := 88) (o := 19) (r := 222) zf_11_70 (by decide +kernel) rfl zc_203 rfl (by decide) rfl ?_
    refine zw_aload_n (pc := 91) (n := 0) (i := 0) 0 (by decide +kernel) rfl rfl ?_
    refine zx_getR (pc := 92) (o := 18) (r := 221) zf_11_67 (by decide +kernel) rfl zc_203 rfl (by decide) rfl ?_
    refine zw_iload (pc := 95) (i := 5) 4 (by decide +kernel) rfl ?_
    refine zx_iaload (pc := 97) (by decide +kernel) ⟨8, zc_221, o3.1, o3.2⟩ ?_
    refine zx_iaload (pc := 98) (by decide +kernel) ⟨200, zc_222, o4.1, o4.2⟩ ?_
    refine zw_bipush (pc := 99) (n := (-5)) (by decide +kernel) (by decide +kernel) ?_
    refine zw_icmp_ne (pc := 101) (off := 7) (tgt := 108) (by decide +kernel) (by decide) o5 ⟨by decide, by decide⟩ (fun hc => ?_) (fun hc => ?_)
    · replace h := h.1 hc
      refine zw_iconst (pc := 108) (n := 0) (by decide +kernel) ?_
      refine zw_ior (pc := 109) (by decide +kernel) ?_
      refine zw_istore_n (pc := 110) (n := 2) (i := 2) (lv' := [(0, .ref 203), (2, .int (zJ (zor v2 0))), (3, .int (zJ v3)), (4, .int (zJ v4)), (5, .int (zJ v5))]) (by decide +kernel) rfl (Nat.le_of_ble_eq_true rfl) rfl ?_
      refine zw_aload_n (pc := 111) (n := 0) (i := 0) 0 (by decide +kernel) rfl rfl ?_
      refine zx_getR (pc := 112) (o := 19) (r := 222) zf_11_70 (by decide +kernel) rfl zc_203 rfl (by decide) rfl ?_
      refine zw_aload_n (pc := 115) (n := 0) (i := 0) 0 (by decide +kernel) rfl rfl ?_
      refine zx_getR (pc := 116) (o := 18) (r := 221) zf_11_67 (by decide +kernel) rfl zc_203 rfl (by decide) rfl ?_
      refine zw_iload (pc := 119) (i := 5) 4 (by decide +kernel) rfl ?_
      refine zx_iaload (pc := 121) (by decide +kernel) ⟨8, zc_221, o3.1, o3.2⟩ ?_
      refine zw_aload_n (pc := 122) (n := 0) (i := 0) 0 (by decide +kernel) rfl rfl ?_
      refine zx_getR (pc := 123) (o := 19) (r := 222) zf_11_70 (by decide +kernel) rfl zc_203 rfl (by decide) rfl ?_
      refine zw_aload_n (pc := 126) (n := 0) (i := 0) 0 (by decide +kernel) rfl rfl ?_
      refine zx_getR (pc := 127) (o := 18) (r := 221) zf_11_67 (by decide +kernel) rfl zc_203 rfl (by decide) rfl ?_
      refine zw_iload (pc := 130) (i := 5) 4 (by decide +kernel) rfl ?_
      refine zx_iaload (pc := 132) (by decide +kernel) ⟨8, zc_221, o3.1, o3.2⟩ ?_
      refine zx_iaload (pc := 133) (by decide +kernel) ⟨200, zc_222, o4.1, o4.2⟩ ?_
      refine zw_bipush (pc := 134) (n := (-5)) (by decide +kernel) (by decide +kernel) ?_
      refine zw_icmp_ne (pc := 136) (off := 9) (tgt := 145) (by decide +kernel) (by decide) o5 ⟨by decide, by decide⟩ (fun hc => ?_) (fun hc => ?_)
      · replace h := h.1 hc
        refine zw_aload_n (pc := 145) (n := 0) (i := 0) 0 (by decide +kernel) rfl rfl ?_
        refine zx_getR (pc := 146) (o := 19) (r := 222) zf_11_70 (by decide +kernel) rfl zc_203 rfl (by decide) rfl ?_
        refine zw_aload_n (pc := 149) (n := 0) (i := 0) 0 (by decide +kernel) rfl rfl ?_
        refine zx_getR (pc := 150) (o := 18) (r := 221) zf_11_67 (by decide +kernel) rfl zc_203 rfl (by decide) rfl ?_
        refine zw_iload (pc := 153) (i := 5) 4 (by decide +kernel) rfl ?_
        refine zx_iaload (pc := 155) (by decide +kernel) ⟨8, zc_221, o3.1, o3.2⟩ ?_
        refine zx_iaload (pc := 156) (by decide +kernel) ⟨200, zc_222, o4.1, o4.2⟩ ?_
        refine zx_iastore (pc := 157) (by decide +kernel) ⟨200, zc_222, o4.1, o4.2⟩ ?_
        refine zw_iinc (pc := 158) (i := 5) (n := 1) (lv' := [(0, .ref 203), (2, .int (zJ (zor v2 0))), (3, .int (zJ v3)), (4, .int (zJ v4)), (5, .int (zJ (v5 + 1)))]) 4 (by decide +kernel) rfl rfl (Nat.le_of_ble_eq_true rfl) rfl ?_
        refine zw_goto (pc := 161) (off := (-84)) (tgt := 77) (by decide +kernel) (by decide) ?_
        exact h
      · replace h := h.2 hc
        refine zw_iload_n (pc := 139) (n := 3) (i := 3) 2 (by decide +kernel) rfl rfl ?_
        refine zw_iconst (pc := 140) (n := 1) (by decide +kernel) ?_
        refine zw_iadd (pc := 141) (by decide +kernel) ?_
        refine zw_goto (pc := 142) (off := 15) (tgt := 157) (by decide +kernel) (by decide) ?_
        refine zx_iastore (pc := 157) (by decide +kernel) ⟨200, zc_222, o4.1, o4.2⟩ ?_
        refine zw_iinc (pc := 158) (i := 5) (n := 1) (lv' := [(0, .ref 203), (2, .int (zJ (zor v2 0))), (3, .int (zJ v3)), (4, .int (zJ v4)), (5, .int (zJ (v5 + 1)))]) 4 (by decide +kernel) rfl rfl (Nat.le_of_ble_eq_true rfl) rfl ?_
        refine zw_goto (pc := 161) (off := (-84)) (tgt := 77) (by decide +kernel) (by decide) ?_
        exact h
    · replace h := h.2 hc
      refine zw_iconst (pc := 104) (n := 1) (by decide +kernel) ?_
      refine zw_goto (pc := 105) (off := 4) (tgt := 109) (by decide +kernel) (by decide) ?_
      refine zw_ior (pc := 109) (by decide +kernel) ?_
      refine zw_istore_n (pc := 110) (n := 2) (i := 2) (lv' := [(0, .ref 203), (2, .int (zJ (zor v2 1))), (3, .int (zJ v3)), (4, .int (zJ v4)), (5, .int (zJ v5))]) (by decide +kernel) rfl (Nat.le_of_ble_eq_true rfl) rfl ?_
      refine zw_aload_n (pc := 111) (n := 0) (i := 0) 0 (by decide +kernel) rfl rfl ?_
      refine zx_getR (pc := 112) (o := 19) (r := 222) zf_11_70 (by decide +kernel) rfl zc_203 rfl (by decide) rfl ?_
      refine zw_aload_n (pc := 115) (n := 0) (i := 0) 0 (by decide +kernel) rfl rfl ?_
      refine zx_getR (pc := 116) (o := 18) (r := 221) zf_11_67 (by decide +kernel) rfl zc_203 rfl (by decide) rfl ?_
      refine zw_iload (pc := 119) (i := 5) 4 (by decide +kernel) rfl ?_
      refine zx_iaload (pc := 121) (by decide +kernel) ⟨8, zc_221, o3.1, o3.2⟩ ?_
      refine zw_aload_n (pc := 122) (n := 0) (i := 0) 0 (by decide +kernel) rfl rfl ?_
      refine zx_getR (pc := 123) (o := 19) (r := 222) zf_11_70 (by decide +kernel) rfl zc_203 rfl (by decide) rfl ?_
      refine zw_aload_n (pc := 126) (n := 0) (i := 0) 0 (by decide +kernel) rfl rfl ?_
      refine zx_getR (pc := 127) (o := 18) (r := 221) zf_11_67 (by decide +kernel) rfl zc_203 rfl (by decide) rfl ?_
      refine zw_iload (pc := 130) (i := 5) 4 (by decide +kernel) rfl ?_
      refine zx_iaload (pc := 132) (by decide +kernel) ⟨8, zc_221, o3.1, o3.2⟩ ?_
      refine zx_iaload (pc := 133) (by decide +kernel) ⟨200, zc_222, o4.1, o4.2⟩ ?_
      refine zw_bipush (pc := 134) (n := (-5)) (by decide +kernel) (by decide +kernel) ?_
      refine zw_icmp_ne (pc := 136) (off := 9) (tgt := 145) (by decide +kernel) (by decide) o5 ⟨by decide, by decide⟩ (fun hc => ?_) (fun hc => ?_)
      · replace h := h.1 hc
        refine zw_aload_n (pc := 145) (n := 0) (i := 0) 0 (by decide +kernel) rfl rfl ?_
        refine zx_getR (pc := 146) (o := 19) (r := 222) zf_11_70 (by decide +kernel) rfl zc_203 rfl (by decide) rfl ?_
        refine zw_aload_n (pc := 149) (n := 0) (i := 0) 0 (by decide +kernel) rfl rfl ?_
        refine zx_getR (pc := 150) (o := 18) (r := 221) zf_11_67 (by decide +kernel) rfl zc_203 rfl (by decide) rfl ?_
        refine zw_iload (pc := 153) (i := 5) 4 (by decide +kernel) rfl ?_
        refine zx_iaload (pc := 155) (by decide +kernel) ⟨8, zc_221, o3.1, o3.2⟩ ?_
        refine zx_iaload (pc := 156) (by decide +kernel) ⟨200, zc_222, o4.1, o4.2⟩ ?_
        refine zx_iastore (pc := 157) (by decide +kernel) ⟨200, zc_222, o4.1, o4.2⟩ ?_
        refine zw_iinc (pc := 158) (i := 5) (n := 1) (lv' := [(0, .ref 203), (2, .int (zJ (zor v2 1))), (3, .int (zJ v3)), (4, .int (zJ v4)), (5, .int (zJ (v5 + 1)))]) 4 (by decide +kernel) rfl rfl (Nat.le_of_ble_eq_true rfl) rfl ?_
        refine zw_goto (pc := 161) (off := (-84)) (tgt := 77) (by decide +kernel) (by decide) ?_
        exact h
      · replace h := h.2 hc
        refine zw_iload_n (pc := 139) (n := 3) (i := 3) 2 (by decide +kernel) rfl rfl ?_
        refine zw_iconst (pc := 140) (n := 1) (by decide +kernel) ?_
        refine zw_iadd (pc := 141) (by decide +kernel) ?_
        refine zw_goto (pc := 142) (off := 15) (tgt := 157) (by decide +kernel) (by decide) ?_
        refine zx_iastore (pc := 157) (by decide +kernel) ⟨200, zc_222, o4.1, o4.2⟩ ?_
        refine zw_iinc (pc := 158) (i := 5) (n := 1) (lv' := [(0, .ref 203), (2, .int (zJ (zor v2 1))), (3, .int (zJ v3)), (4, .int (zJ v4)), (5, .int (zJ (v5 + 1)))]) 4 (by decide +kernel) rfl rfl (Nat.le_of_ble_eq_true rfl) rfl ?_
        refine zw_goto (pc := 161) (off := (-84)) (tgt := 77) (by decide +kernel) (by decide) ?_
        exact h
abbrev at_X11_reach_30 (g : zG) (φ : Int → zMu → Prop) (v2 : Int) (v3 : Int) (μ : zMu) : Prop := zWP g zm_X11_reach (zmo g zm_X11_reach (zΦi φ)) 30 [(0, .ref 203), (2, .int (zJ v2)), (3, .int (zJ v3))] [] 0 0 (zw μ)
theorem sg_X11_reach {g : zG} {φ : Int → zMu → Prop} {v1 : Int} {μ : zMu}
    (h : zOi g zm_X11_isValue [.ref 203, .int (zJ v1)] μ (fun x2 μ1 => (zR x2) ∧ ((¬ x2 = 0 → (zR (μ1 203 4)) ∧ ((¬ (μ1 203 4) = 0 → zOv g zm_X11_tellsAway [.ref 203, .int (zJ v1)] μ1 (fun μ5 => at_X11_reach_30 g φ 0 0 μ5)) ∧ ((μ1 203 4) = 0 → φ (-11) μ1))) ∧ (x2 = 0 → φ (-2) μ1)))) : zOi g zm_X11_reach [.ref 203, .int (zJ v1)] μ φ := by
  refine zok_of (by decide +kernel) rfl ?_
  show zWP g zm_X11_reach (zmo g zm_X11_reach (zΦi φ)) 0 [(0, .ref 203), (1, .int (zJ v1))] [] 0 0 (zw μ)
  refine zw_aload_n (pc := 0) (n := 0) (i := 0) 0 (by decide +kernel) rfl rfl ?_
  refine zw_iload_n (pc := 1) (n := 1) (i := 1) 1 (by decide +kernel) rfl rfl ?_
  refine zx_callV (pc := 2) (As := [.int (zJ v1)]) h zi_X11_isValue zii_X11_isValue zie_X11_isValue zl_11_243 (by decide +kernel) ⟨Nat.le_of_ble_eq_true rfl, Nat.le_of_ble_eq_true rfl⟩ rfl zc_203 (by decide) rfl rfl ⟨rfl, rfl⟩ ⟨Nat.zero_le _, Nat.zero_le _⟩ (zki (fun x2 μ1 h => ?_))
  obtain ⟨o3, h⟩ := h
  refine zw_if_ne (pc := 5) (off := 6) (tgt := 11) (by decide +kernel) (by decide) o3 (fun hc => ?_) (fun hc => ?_)
  · replace h := h.1 hc
    obtain ⟨o4, h⟩ := h
    refine zw_aload_n (pc := 11) (n := 0) (i := 0) 0 (by decide +kernel) rfl rfl ?_
    refine zx_getI (pc := 12) zf_11_128 (by decide +kernel) rfl zc_203 ?_
    refine zw_if_ne (pc := 15) (off := 6) (tgt := 21) (by decide +kernel) (by decide) o4 (fun hc => ?_) (fun hc => ?_)
    · replace h := h.1 hc
      refine zw_aload_n (pc := 21) (n := 0) (i := 0) 0 (by decide +kernel) rfl rfl ?_
      refine zw_iload_n (pc := 22) (n := 1) (i := 1) 1 (by decide +kernel) rfl rfl ?_
      refine zx_callV (pc := 23) (As := [.int (zJ v1)]) h zi_X11_tellsAway zii_X11_tellsAway zie_X11_tellsAway zl_11_261 (by decide +kernel) ⟨Nat.le_of_ble_eq_true rfl, Nat.le_of_ble_eq_true rfl⟩ rfl zc_203 (by decide) rfl rfl ⟨rfl, rfl⟩ ⟨Nat.zero_le _, Nat.zero_le _⟩ (zkv (fun μ5 h => ?_))
      refine zw_iconst (pc := 26) (n := 0) (by decide +kernel) ?_
      refine zw_istore_n (pc := 27) (n := 2) (i := 2) (lv' := [(0, .ref 203), (1, .int (zJ v1)), (2, .int (zJ 0))]) (by decide +kernel) rfl (Nat.le_of_ble_eq_true rfl) rfl ?_
      refine zw_iconst (pc := 28) (n := 0) (by decide +kernel) ?_
      refine zw_istore_n (pc := 29) (n := 3) (i := 3) (lv' := [(0, .ref 203), (1, .int (zJ v1)), (2, .int (zJ 0)), (3, .int (zJ 0))]) (by decide +kernel) rfl (Nat.le_of_ble_eq_true rfl) rfl ?_
      exact zw_pick (lv' := [(0, .ref 203), (2, .int (zJ 0)), (3, .int (zJ 0))]) [0, 2, 3] rfl h
    · replace h := h.2 hc
      refine zw_bipush (pc := 18) (n := (-11)) (by decide +kernel) (by decide +kernel) ?_
      exact zw_iret (pc := 20) (by decide +kernel) rfl (Nat.le_refl _) (Nat.le_refl _) ⟨_, _, rfl, rfl, h⟩
  · replace h := h.2 hc
    refine zw_bipush (pc := 8) (n := (-2)) (by decide +kernel) (by decide +kernel) ?_
    exact zw_iret (pc := 10) (by decide +kernel) rfl (Nat.le_refl _) (Nat.le_refl _) ⟨_, _, rfl, rfl, h⟩
theorem sg_X11_reach_30 {g : zG} {φ : Int → zMu → Prop} {v2 : Int} {v3 : Int} {μ : zMu}
    (h : (zR v3) ∧ (zR (μ 203 0)) ∧ (((μ 203 0) ≤ v3 → φ v2 μ) ∧ (v3 < (μ 203 0) → (0 ≤ v3 ∧ v3 < 200) ∧ (zR (μ 222 v3.toNat)) ∧ (((μ 222 v3.toNat) = (-5) → at_X11_reach_30 g φ (v2 + 0) (v3 + 1) μ) ∧ (¬ (μ 222 v3.toNat) = (-5) → at_X11_reach_30 g φ (v2 + 1) (v3 + 1) μ))))) : at_X11_reach_30 g φ v2 v3 μ := by
  obtain ⟨o1, o2, h⟩ := h
  refine zw_iload_n (pc := 30) (n := 3) (i := 3) 2 (by decide +kernel) rfl rfl ?_
  refine zw_aload_n (pc := 31) (n := 0) (i := 0) 0 (by decide +kernel) rfl rfl ?_
  refine zx_getI (pc := 32) zf_11_9 (by decide +kernel) rfl zc_203 ?_
  refine zw_icmp_ge (pc := 35) (off := 28) (tgt := 63) (by decide +kernel) (by decide) o1 o2 (fun hc => ?_) (fun hc => ?_)
  · replace h := h.1 hc
    refine zw_iload_n (pc := 63) (n := 2) (i := 2) 1 (by decide +kernel) rfl rfl ?_
    exact zw_iret (pc := 64) (by decide +kernel) rfl (Nat.le_refl _) (Nat.le_refl _) ⟨_, _, rfl, rfl, h⟩
  · replace h := h.2 hc
    obtain ⟨o3, o4, h⟩ := h
    refine zw_iload_n (pc := 38) (n := 2) (i := 2) 1 (by decide +kernel) rfl rfl ?_
    refine zw_aload_n (pc := 39) (n := 0) (i := 0) 0 (by decide +kernel) rfl rfl ?_
    refine zx_getR (pc := 40) (o := 19) (r := 222) zf_11_70 (by decide +kernel) rfl zc_203 rfl (by decide) rfl ?_
    refine zw_iload_n (pc := 43) (n := 3) (i := 3) 2 (by decide +kernel) rfl rfl ?_
    refine zx_iaload (pc := 44) (by decide +kernel) ⟨200, zc_222, o3.1, o3.2⟩ ?_
    refine zw_bipush (pc := 45) (n := (-5)) (by decide +kernel) (by decide +kernel) ?_
    refine zw_icmp_eq (pc := 47) (off := 7) (tgt := 54) (by decide +kernel) (by decide) o4 ⟨by decide, by decide⟩ (fun hc => ?_) (fun hc => ?_)
    · replace h := h.1 hc
      refine zw_iconst (pc := 54) (n := 0) (by decide +kernel) ?_
      refine zw_iadd (pc := 55) (by decide +kernel) ?_
      refine zw_istore_n (pc := 56) (n := 2) (i := 2) (lv' := [(0, .ref 203), (2, .int (zJ (v2 + 0))), (3, .int (zJ v3))]) (by decide +kernel) rfl (Nat.le_of_ble_eq_true rfl) rfl ?_
      refine zw_iinc (pc := 57) (i := 3) (n := 1) (lv' := [(0, .ref 203), (2, .int (zJ (v2 + 0))), (3, .int (zJ (v3 + 1)))]) 2 (by decide +kernel) rfl rfl (Nat.le_of_ble_eq_true rfl) rfl ?_
      refine zw_goto (pc := 60) (off := (-30)) (tgt := 30) (by decide +kernel) (by decide) ?_
      exact h
    · replace h := h.2 hc
      refine zw_iconst (pc := 50) (n := 1) (by decide +kernel) ?_
      refine zw_goto (pc := 51) (off := 4) (tgt := 55) (by decide +kernel) (by decide) ?_
      refine zw_iadd (pc := 55) (by decide +kernel) ?_
      refine zw_istore_n (pc := 56) (n := 2) (i := 2) (lv' := [(0, .ref 203), (2, .int (zJ (v2 + 1))), (3, .int (zJ v3))]) (by decide +kernel) rfl (Nat.le_of_ble_eq_true rfl) rfl ?_
      refine zw_iinc (pc := 57) (i := 3) (n := 1) (lv' := [(0, .ref 203), (2, .int (zJ (v2 + 1))), (3, .int (zJ (v3 + 1)))]) 2 (by decide +kernel) rfl rfl (Nat.le_of_ble_eq_true rfl) rfl ?_
      refine zw_goto (pc := 60) (off := (-30)) (tgt := 30) (by decide +kernel) (by decide) ?_
      exact h
abbrev at_X11_values_37 (g : zG) (φ : Int → zMu → Prop) (v1 : Int) (v2 : Int) (v3 : Int) (v4 : Int) (v5 : Int) (v6 : Int) (μ : zMu) : Prop := zWP g zm_X11_values (zmo g zm_X11_values (zΦi φ)) 37 [(0, .ref 203), (1, .int (zJ v1)), (2, .int (zJ v2)), (3, .int (zJ v3)), (4, .int (zJ v4)), (5, .int (zJ v5)), (6, .int (zJ v6))] [] 0 0 (zw μ)
abbrev at_X11_values_115 (g : zG) (φ : Int → zMu → Prop) (v1 : Int) (v2 : Int) (v3 : Int) (v4 : Int) (v5 : Int) (v6 : Int) (v8 : Int) (v9 : Int) (μ : zMu) : Prop := zWP g zm_X11_values (zmo g zm_X11_values (zΦi φ)) 115 [(0, .ref 203), (1, .int (zJ v1)), (2, .int (zJ v2)), (3, .int (zJ v3)), (4, .int (zJ v4)), (5, .int (zJ v5)), (6, .int (zJ v6)), (8, .int (zJ v8)), (9, .int (zJ v9))] [] 0 0 (zw μ)
theorem sg_X11_values {g : zG} {φ : Int → zMu → Prop} {v1 : Int} {μ : zMu}
    (h : (zR v1) ∧ zOi g zm_X11_in [.long (zL v1), .long (zL 0), .long (zL 3)] μ (fun x3 μ2 => (zR x3) ∧ ((¬ x3 = 0 → (zR (μ2 203 4)) ∧ ((¬ (μ2 203 4) = 0 → at_X11_values_37 g φ v1 0 0 0 0 0 μ2) ∧ ((μ2 203 4) = 0 → φ (-11) μ2))) ∧ (x3 = 0 → φ (-1) μ2)))) : zOi g zm_X11_values [.ref 203, .int (zJ v1)] μ φ := by
  refine zok_of (by decide +kernel) rfl ?_
  show zWP g zm_X11_values (zmo g zm_X11_values (zΦi φ)) 0 [(0, .ref 203), (1, .int (zJ v1))] [] 0 0 (zw μ)
  obtain ⟨o1, h⟩ := h
  refine zw_iload_n (pc := 0) (n := 1) (i := 1) 1 (by decide +kernel) rfl rfl ?_
  refine zw_i2l (pc := 1) (by decide +kernel) o1 ?_
  refine zw_lconst (pc := 2) (n := 0) (v := 0) (by decide +kernel) rfl ?_
  refine zw_ldc2 (pc := 3) (v := 3) (by decide +kernel) zk_11_238 ?_
  refine zx_callS (pc := 6) (As := [.long (zL v1), .long (zL 0), .long (zL 3)]) h zi_X11_in zis_X11_in zl_11_114 (by decide +kernel) ⟨Nat.le_of_ble_eq_true rfl, Nat.le_of_ble_eq_true rfl⟩ rfl rfl ⟨rfl, rfl⟩ ⟨Nat.zero_le _, Nat.zero_le _⟩ (zki (fun x3 μ2 h => ?_))
  obtain ⟨o4, h⟩ := h
  refine zw_if_ne (pc := 9) (off := 5) (tgt := 14) (by decide +kernel) (by decide) o4 (fun hc => ?_) (fun hc => ?_)
  · replace h := h.1 hc
    obtain ⟨o5, h⟩ := h
    refine zw_aload_n (pc := 14) (n := 0) (i := 0) 0 (by decide +kernel) rfl rfl ?_
    refine zx_getI (pc := 15) zf_11_128 (by decide +kernel) rfl zc_203 ?_
    refine zw_if_ne (pc := 18) (off := 6) (tgt := 24) (by decide +kernel) (by decide) o5 (fun hc => ?_) (fun hc => ?_)
    · replace h := h.1 hc
      refine zw_iconst (pc := 24) (n := 0) (by decide +kernel) ?_
      refine zw_istore_n (pc := 25) (n := 2) (i := 2) (lv' := [(0, .ref 203), (1, .int (zJ v1)), (2, .int (zJ 0))]) (by decide +kernel) rfl (Nat.le_of_ble_eq_true rfl) rfl ?_
      refine zw_iconst (pc := 26) (n := 0) (by decide +kernel) ?_
      refine zw_istore_n (pc := 27) (n := 3) (i := 3) (lv' := [(0, .ref 203), (1, .int (zJ v1)), (2, .int (zJ 0)), (3, .int (zJ 0))]) (by decide +kernel) rfl (Nat.le_of_ble_eq_true rfl) rfl ?_
      refine zw_iconst (pc := 28) (n := 0) (by decide +kernel) ?_
      refine zw_istore (pc := 29) (i := 4) (lv' := [(0, .ref 203), (1, .int (zJ v1)), (2, .int (zJ 0)), (3, .int (zJ 0)), (4, .int (zJ 0))]) (by decide +kernel) (Nat.le_of_ble_eq_true rfl) rfl ?_
      refine zw_iconst (pc := 31) (n := 0) (by decide +kernel) ?_
      refine zw_istore (pc := 32) (i := 5) (lv' := [(0, .ref 203), (1, .int (zJ v1)), (2, .int (zJ 0)), (3, .int (zJ 0)), (4, .int (zJ 0)), (5, .int (zJ 0))]) (by decide +kernel) (Nat.le_of_ble_eq_true rfl) rfl ?_
      refine zw_iconst (pc := 34) (n := 0) (by decide +kernel) ?_
      refine zw_istore (pc := 35) (i := 6) (lv' := [(0, .ref 203), (1, .int (zJ v1)), (2, .int (zJ 0)), (3, .int (zJ 0)), (4, .int (zJ 0)), (5, .int (zJ 0)), (6, .int (zJ 0))]) (by decide +kernel) (Nat.le_of_ble_eq_true rfl) rfl ?_
      exact h
    · replace h := h.2 hc
      refine zw_bipush (pc := 21) (n := (-11)) (by decide +kernel) (by decide +kernel) ?_
      exact zw_iret (pc := 23) (by decide +kernel) rfl (Nat.le_refl _) (Nat.le_refl _) ⟨_, _, rfl, rfl, h⟩
  · replace h := h.2 hc
    refine zw_iconst (pc := 12) (n := (-1)) (by decide +kernel) ?_
    exact zw_iret (pc := 13) (by decide +kernel) rfl (Nat.le_refl _) (Nat.le_refl _) ⟨_, _, rfl, rfl, h⟩
theorem sg_X11_values_37 {g : zG} {φ : Int → zMu → Prop} {v1 : Int} {v2 : Int} {v3 : Int} {v4 : Int} {v5 : Int} {v6 : Int} {μ : zMu}
    (h : (zR v6) ∧ (zR (μ 203 0)) ∧ (((μ 203 0) ≤ v6 → (zR v1) ∧ ((¬ v1 = 0 → ((¬ v1 = 1 → ((¬ v1 = 2 → φ v5 μ) ∧ (v1 = 2 → φ v4 μ))) ∧ (v1 = 1 → φ v3 μ))) ∧ (v1 = 0 → φ v2 μ))) ∧ (v6 < (μ 203 0) → zOi g zm_X11_tellsNeighbours [.ref 203, .int (zJ v6)] μ (fun x5 μ4 => (zR x5) ∧ ((x5 = 0 → ((x5 = 0 → (zR (μ4 203 28)) ∧ (zR v5) ∧ (((μ4 203 28) ≤ v5 → at_X11_values_115 g φ v1 v2 (v3 + 1) (v4 + 0) v5 v6 0 0 μ4) ∧ (v5 < (μ4 203 28) → at_X11_values_115 g φ v1 v2 (v3 + 1) (v4 + 0) (μ4 203 28) v6 0 0 μ4))) ∧ (¬ x5 = 0 → (zR (μ4 203 28)) ∧ ((¬ (μ4 203 28) = 0 → (zR v5) ∧ (((μ4 203 28) ≤ v5 → at_X11_values_115 g φ v1 v2 (v3 + 1) (v4 + 0) v5 v6 0 0 μ4) ∧ (v5 < (μ4 203 28) → at_X11_values_115 g φ v1 v2 (v3 + 1) (v4 + 0) (μ4 203 28) v6 0 0 μ4))) ∧ ((μ4 203 28) = 0 → (zR v5) ∧ (((μ4 203 28) ≤ v5 → at_X11_values_115 g φ v1 v2 (v3 + 1) (v4 + 1) v5 v6 0 0 μ4) ∧ (v5 < (μ4 203 28) → at_X11_values_115 g φ v1 v2 (v3 + 1) (v4 + 1) (μ4 203 28) v6 0 0 μ4))))))) ∧ (¬ x5 = 0 → ((x5 = 0 → (zR (μ4 203 28)) ∧ (zR v5) ∧ (((μ4 203 28) ≤ v5 → at_X11_values_115 g φ v1 v2 (v3 + 0) (v4 + 0) v5 v6 0 0 μ4) ∧ (v5 < (μ4 203 28) → at_X11_values_115 g φ v1 v2 (v3 + 0) (v4 + 0) (μ4 203 28) v6 0 0 μ4))) ∧ (¬ x5 = 0 → (zR (μ4 203 28)) ∧ ((¬ (μ4 203 28) = 0 → (zR v5) ∧ (((μ4 203 28) ≤ v5 → at_X11_values_115 g φ v1 v2 (v3 + 0) (v4 + 0) v5 v6 0 0 μ4) ∧ (v5 < (μ4 203 28) → at_X11_values_115 g φ v1 v2 (v3 + 0) (v4 + 0) (μ4 203 28) v6 0 0 μ4))) ∧ ((μ4 203 28) = 0 → (zR v5) ∧ (((μ4 203 28) ≤ v5 → at_X11_values_115 g φ v1 v2 (v3 + 0) (v4 + 1) v5 v6 0 0 μ4) ∧ (v5 < (μ4 203 28) → at_X11_values_115 g φ v1 v2 (v3 + 0) (v4 + 1) (μ4 203 28) v6 0 0 μ4)))))))))))) : at_X11_values_37 g φ v1 v2 v3 v4 v5 v6 μ := by
  obtain ⟨o1, o2, h⟩ := h
  refine zw_iload (pc := 37) (i := 6) 6 (by decide +kernel) rfl ?_
  refine zw_aload_n (pc := 39) (n := 0) (i := 0) 0 (by decide +kernel) rfl rfl ?_
  refine zx_getI (pc := 40) zf_11_9 (by decide +kernel) rfl zc_203 ?_
  refine zw_icmp_ge (pc := 43) (off := 128) (tgt := 171) (by decide +kernel) (by decide) o1 o2 (fun hc => ?_) (fun hc => ?_)
  · replace h := h.1 hc
    obtain ⟨o3, h⟩ := h
    refine zw_iload_n (pc := 171) (n := 1) (i := 1) 1 (by decide +kernel) rfl rfl ?_
    refine zw_if_ne (pc := 172) (off := 7) (tgt := 179) (by decide +kernel) (by decide) o3 (fun hc => ?_) (fun hc => ?_)
    · replace h := h.1 hc
      refine zw_iload_n (pc := 179) (n := 1) (i := 1) 1 (by decide +kernel) rfl rfl ?_
      refine zw_iconst (pc := 180) (n := 1) (by decide +kernel) ?_
      refine zw_icmp_ne (pc := 181) (off := 7) (tgt := 188) (by decide +kernel) (by decide) o3 ⟨by decide, by decide⟩ (fun hc => ?_) (fun hc => ?_)
      · replace h := h.1 hc
        refine zw_iload_n (pc := 188) (n := 1) (i := 1) 1 (by decide +kernel) rfl rfl ?_
        refine zw_iconst (pc := 189) (n := 2) (by decide +kernel) ?_
        refine zw_icmp_ne (pc := 190) (off := 8) (tgt := 198) (by decide +kernel) (by decide) o3 ⟨by decide, by decide⟩ (fun hc => ?_) (fun hc => ?_)
        · replace h := h.1 hc
          refine zw_iload (pc := 198) (i := 5) 5 (by decide +kernel) rfl ?_
          exact zw_iret (pc := 200) (by decide +kernel) rfl (Nat.le_refl _) (Nat.le_refl _) ⟨_, _, rfl, rfl, h⟩
        · replace h := h.2 hc
          refine zw_iload (pc := 193) (i := 4) 4 (by decide +kernel) rfl ?_
          refine zw_goto (pc := 195) (off := 5) (tgt := 200) (by decide +kernel) (by decide) ?_
          exact zw_iret (pc := 200) (by decide +kernel) rfl (Nat.le_refl _) (Nat.le_refl _) ⟨_, _, rfl, rfl, h⟩
      · replace h := h.2 hc
        refine zw_iload_n (pc := 184) (n := 3) (i := 3) 3 (by decide +kernel) rfl rfl ?_
        refine zw_goto (pc := 185) (off := 15) (tgt := 200) (by decide +kernel) (by decide) ?_
        exact zw_iret (pc := 200) (by decide +kernel) rfl (Nat.le_refl _) (Nat.le_refl _) ⟨_, _, rfl, rfl, h⟩
    · replace h := h.2 hc
      refine zw_iload_n (pc := 175) (n := 2) (i := 2) 2 (by decide +kernel) rfl rfl ?_
      refine zw_goto (pc := 176) (off := 24) (tgt := 200) (by decide +kernel) (by decide) ?_
      exact zw_iret (pc := 200) (by decide +kernel) rfl (Nat.le_refl _) (Nat.le_refl _) ⟨_, _, rfl, rfl, h⟩
  · replace h := h.2 hc
    refine zw_aload_n (pc := 46) (n := 0) (i := 0) 0 (by decide +kernel) rfl rfl ?_
    refine zw_iload (pc := 47) (i := 6) 6 (by decide +kernel) rfl ?_
    refine zx_callV (pc := 49) (As := [.int (zJ v6)]) h zi_X11_tellsNeighbours zii_X11_tellsNeighbours zie_X11_tellsNeighbours zl_11_258 (by decide +kernel) ⟨Nat.le_of_ble_eq_true rfl, Nat.le_of_ble_eq_true rfl⟩ rfl zc_203 (by decide) rfl rfl ⟨rfl, rfl⟩ ⟨Nat.zero_le _, Nat.zero_le _⟩ (zki (fun x5 μ4 h => ?_))
    obtain ⟨o6, h⟩ := h
    refine zw_istore (pc := 52) (i := 7) (lv' := [(0, .ref 203), (1, .int (zJ v1)), (2, .int (zJ v2)), (3, .int (zJ v3)), (4, .int (zJ v4)), (5, .int (zJ v5)), (6, .int (zJ v6)), (7, .int (zJ x5))]) (by decide +kernel) (Nat.le_of_ble_eq_true rfl) rfl ?_
    refine zw_iload_n (pc := 54) (n := 3) (i := 3) 3 (by decide +kernel) rfl rfl ?_
    refine zw_iload (pc := 55) (i := 7) 7 (by decide +kernel) rfl ?_
    refine zw_if_eq (pc := 57) (off := 7) (tgt := 64) (by decide +kernel) (by decide) o6 (fun hc => ?_) (fun hc => ?_)
    · replace h := h.1 hc
      refine zw_iconst (pc := 64) (n := 1) (by decide +kernel) ?_
      refine zw_iadd (pc := 65) (by decide +kernel) ?_
      refine zw_istore_n (pc := 66) (n := 3) (i := 3) (lv' := [(0, .ref 203), (1, .int (zJ v1)), (2, .int (zJ v2)), (3, .int (zJ (v3 + 1))), (4, .int (zJ v4)), (5, .int (zJ v5)), (6, .int (zJ v6)), (7, .int (zJ x5))]) (by decide +kernel) rfl (Nat.le_of_ble_eq_true rfl) rfl ?_
      refine zw_iload (pc := 67) (i := 4) 4 (by decide +kernel) rfl ?_
      refine zw_iload (pc := 69) (i := 7) 7 (by decide +kernel) rfl ?_
      refine zw_if_eq (pc := 71) (off := 14) (tgt := 85) (by decide +kernel) (by decide) o6 (fun hc => ?_) (fun hc => ?_)
      · replace h := h.1 hc
        obtain ⟨o7, o8, h⟩ := h
        refine zw_iconst (pc := 85) (n := 0) (by decide +kernel) ?_
        refine zw_iadd (pc := 86) (by decide +kernel) ?_
        refine zw_istore (pc := 87) (i := 4) (lv' := [(0, .ref 203), (1, .int (zJ v1)), (2, .int (zJ v2)), (3, .int (zJ (v3 + 1))), (4, .int (zJ (v4 + 0))), (5, .int (zJ v5)), (6, .int (zJ v6)), (7, .int (zJ x5))]) (by decide +kernel) (Nat.le_of_ble_eq_true rfl) rfl ?_
        refine zw_aload_n (pc := 89) (n := 0) (i := 0) 0 (by decide +kernel) rfl rfl ?_
        refine zx_getI (pc := 90) zf_11_252 (by decide +kernel) rfl zc_203 ?_
        refine zw_iload (pc := 93) (i := 5) 5 (by decide +kernel) rfl ?_
        refine zw_icmp_le (pc := 95) (off := 10) (tgt := 105) (by decide +kernel) (by decide) o7 o8 (fun hc => ?_) (fun hc => ?_)
        · replace h := h.1 hc
          refine zw_iload (pc := 105) (i := 5) 5 (by decide +kernel) rfl ?_
          refine zw_istore (pc := 107) (i := 5) (lv' := [(0, .ref 203), (1, .int (zJ v1)), (2, .int (zJ v2)), (3, .int (zJ (v3 + 1))), (4, .int (zJ (v4 + 0))), (5, .int (zJ v5)), (6, .int (zJ v6)), (7, .int (zJ x5))]) (by decide +kernel) (Nat.le_of_ble_eq_true rfl) rfl ?_
          refine zw_iconst (pc := 109) (n := 0) (by decide +kernel) ?_
          refine zw_istore (pc := 110) (i := 8) (lv' := [(0, .ref 203), (1, .int (zJ v1)), (2, .int (zJ v2)), (3, .int (zJ (v3 + 1))), (4, .int (zJ (v4 + 0))), (5, .int (zJ v5)), (6, .int (zJ v6)), (7, .int (zJ x5)), (8, .int (zJ 0))]) (by decide +kernel) (Nat.le_of_ble_eq_true rfl) rfl ?_
          refine zw_iconst (pc := 112) (n := 0) (by decide +kernel) ?_
          refine zw_istore (pc := 113) (i := 9) (lv' := [(0, .ref 203), (1, .int (zJ v1)), (2, .int (zJ v2)), (3, .int (zJ (v3 + 1))), (4, .int (zJ (v4 + 0))), (5, .int (zJ v5)), (6, .int (zJ v6)), (7, .int (zJ x5)), (8, .int (zJ 0)), (9, .int (zJ 0))]) (by decide +kernel) (Nat.le_of_ble_eq_true rfl) rfl ?_
          exact zw_pick (lv' := [(0, .ref 203), (1, .int (zJ v1)), (2, .int (zJ v2)), (3, .int (zJ (v3 + 1))), (4, .int (zJ (v4 + 0))), (5, .int (zJ v5)), (6, .int (zJ v6)), (8, .int (zJ 0)), (9, .int (zJ 0))]) [0, 1, 2, 3, 4, 5, 6, 8, 9] rfl h
        · replace h := h.2 hc
          refine zw_aload_n (pc := 98) (n := 0) (i := 0) 0 (by decide +kernel) rfl rfl ?_
          refine zx_getI (pc := 99) zf_11_252 (by decide +kernel) rfl zc_203 ?_
          refine zw_goto (pc := 102) (off := 5) (tgt := 107) (by decide +kernel) (by decide) ?_
          refine zw_istore (pc := 107) (i := 5) (lv' := [(0, .ref 203), (1, .int (zJ v1)), (2, .int (zJ v2)), (3, .int (zJ (v3 + 1))), (4, .int (zJ (v4 + 0))), (5, .int (zJ (μ4 203 28))), (6, .int (zJ v6)), (7, .int (zJ x5))]) (by decide +kernel) (Nat.le_of_ble_eq_true rfl) rfl ?_
          refine zw_iconst (pc := 109) (n := 0) (by decide +kernel) ?_
          refine zw_istore (pc := 110) (i := 8) (lv' := [(0, .ref 203), (1, .int (zJ v1)), (2, .int (zJ v2)), (3, .int (zJ (v3 + 1))), (4, .int (zJ (v4 + 0))), (5, .int (zJ (μ4 203 28))), (6, .int (zJ v6)), (7, .int (zJ x5)), (8, .int (zJ 0))]) (by decide +kernel) (Nat.le_of_ble_eq_true rfl) rfl ?_
          refine zw_iconst (pc := 112) (n := 0) (by decide +kernel) ?_
          refine zw_istore (pc := 113) (i := 9) (lv' := [(0, .ref 203), (1, .int (zJ v1)), (2, .int (zJ v2)), (3, .int (zJ (v3 + 1))), (4, .int (zJ (v4 + 0))), (5, .int (zJ (μ4 203 28))), (6, .int (zJ v6)), (7, .int (zJ x5)), (8, .int (zJ 0)), (9, .int (zJ 0))]) (by decide +kernel) (Nat.le_of_ble_eq_true rfl) rfl ?_
          exact zw_pick (lv' := [(0, .ref 203), (1, .int (zJ v1)), (2, .int (zJ v2)), (3, .int (zJ (v3 + 1))), (4, .int (zJ (v4 + 0))), (5, .int (zJ (μ4 203 28))), (6, .int (zJ v6)), (8, .int (zJ 0)), (9, .int (zJ 0))]) [0, 1, 2, 3, 4, 5, 6, 8, 9] rfl h
      · replace h := h.2 hc
        obtain ⟨o9, h⟩ := h
        refine zw_aload_n (pc := 74) (n := 0) (i := 0) 0 (by decide +kernel) rfl rfl ?_
        refine zx_getI (pc := 75) zf_11_252 (by decide +kernel) rfl zc_203 ?_
        refine zw_if_ne (pc := 78) (off := 7) (tgt := 85) (by decide +kernel) (by decide) o9 (fun hc => ?_) (fun hc => ?_)
        · replace h := h.1 hc
          obtain ⟨o10, h⟩ := h
          refine zw_iconst (pc := 85) (n := 0) (by decide +kernel) ?_
          refine zw_iadd (pc := 86) (by decide +kernel) ?_
          refine zw_istore (pc := 87) (i := 4) (lv' := [(0, .ref 203), (1, .int (zJ v1)), (2, .int (zJ v2)), (3, .int (zJ (v3 + 1))), (4, .int (zJ (v4 + 0))), (5, .int (zJ v5)), (6, .int (zJ v6)), (7, .int (zJ x5))]) (by decide +kernel) (Nat.le_of_ble_eq_true rfl) rfl ?_
          refine zw_aload_n (pc := 89) (n := 0) (i := 0) 0 (by decide +kernel) rfl rfl ?_
          refine zx_getI (pc := 90) zf_11_252 (by decide +kernel) rfl zc_203 ?_
          refine zw_iload (pc := 93) (i := 5) 5 (by decide +kernel) rfl ?_
          refine zw_icmp_le (pc := 95) (off := 10) (tgt := 105) (by decide +kernel) (by decide) o9 o10 (fun hc => ?_) (fun hc => ?_)
          · replace h := h.1 hc
            refine zw_iload (pc := 105) (i := 5) 5 (by decide +kernel) rfl ?_
            refine zw_istore (pc := 107) (i := 5) (lv' := [(0, .ref 203), (1, .int (zJ v1)), (2, .int (zJ v2)), (3, .int (zJ (v3 + 1))), (4, .int (zJ (v4 + 0))), (5, .int (zJ v5)), (6, .int (zJ v6)), (7, .int (zJ x5))]) (by decide +kernel) (Nat.le_of_ble_eq_true rfl) rfl ?_
            refine zw_iconst (pc := 109) (n := 0) (by decide +kernel) ?_
            refine zw_istore (pc := 110) (i := 8) (lv' := [(0, .ref 203), (1, .int (zJ v1)), (2, .int (zJ v2)), (3, .int (zJ (v3 + 1))), (4, .int (zJ (v4 + 0))), (5, .int (zJ v5)), (6, .int (zJ v6)), (7, .int (zJ x5)), (8, .int (zJ 0))]) (by decide +kernel) (Nat.le_of_ble_eq_true rfl) rfl ?_
            refine zw_iconst (pc := 112) (n := 0) (by decide +kernel) ?_
            refine zw_istore (pc := 113) (i := 9) (lv' := [(0, .ref 203), (1, .int (zJ v1)), (2, .int (zJ v2)), (3, .int (zJ (v3 + 1))), (4, .int (zJ (v4 + 0))), (5, .int (zJ v5)), (6, .int (zJ v6)), (7, .int (zJ x5)), (8, .int (zJ 0)), (9, .int (zJ 0))]) (by decide +kernel) (Nat.le_of_ble_eq_true rfl) rfl ?_
            exact zw_pick (lv' := [(0, .ref 203), (1, .int (zJ v1)), (2, .int (zJ v2)), (3, .int (zJ (v3 + 1))), (4, .int (zJ (v4 + 0))), (5, .int (zJ v5)), (6, .int (zJ v6)), (8, .int (zJ 0)), (9, .int (zJ 0))]) [0, 1, 2, 3, 4, 5, 6, 8, 9] rfl h
          · replace h := h.2 hc
            refine zw_aload_n (pc := 98) (n := 0) (i := 0) 0 (by decide +kernel) rfl rfl ?_
            refine zx_getI (pc := 99) zf_11_252 (by decide +kernel) rfl zc_203 ?_
            refine zw_goto (pc := 102) (off := 5) (tgt := 107) (by decide +kernel) (by decide) ?_
            refine zw_istore (pc := 107) (i := 5) (lv' := [(0, .ref 203), (1, .int (zJ v1)), (2, .int (zJ v2)), (3, .int (zJ (v3 + 1))), (4, .int (zJ (v4 + 0))), (5, .int (zJ (μ4 203 28))), (6, .int (zJ v6)), (7, .int (zJ x5))]) (by decide +kernel) (Nat.le_of_ble_eq_true rfl) rfl ?_
            refine zw_iconst (pc := 109) (n := 0) (by decide +kernel) ?_
            refine zw_istore (pc := 110) (i := 8) (lv' := [(0, .ref 203), (1, .int (zJ v1)), (2, .int (zJ v2)), (3, .int (zJ (v3 + 1))), (4, .int (zJ (v4 + 0))), (5, .int (zJ (μ4 203 28))), (6, .int (zJ v6)), (7, .int (zJ x5)), (8, .int (zJ 0))]) (by decide +kernel) (Nat.le_of_ble_eq_true rfl) rfl ?_
            refine zw_iconst (pc := 112) (n := 0) (by decide +kernel) ?_
            refine zw_istore (pc := 113) (i := 9) (lv' := [(0, .ref 203), (1, .int (zJ v1)), (2, .int (zJ v2)), (3, .int (zJ (v3 + 1))), (4, .int (zJ (v4 + 0))), (5, .int (zJ (μ4 203 28))), (6, .int (zJ v6)), (7, .int (zJ x5)), (8, .int (zJ 0)), (9, .int (zJ 0))]) (by decide +kernel) (Nat.le_of_ble_eq_true rfl) rfl ?_
            exact zw_pick (lv' := [(0, .ref 203), (1, .int (zJ v1)), (2, .int (zJ v2)), (3, .int (zJ (v3 + 1))), (4, .int (zJ (v4 + 0))), (5, .int (zJ (μ4 203 28))), (6, .int (zJ v6)), (8, .int (zJ 0)), (9, .int (zJ 0))]) [0, 1, 2, 3, 4, 5, 6, 8, 9] rfl h
        · replace h := h.2 hc
          obtain ⟨o11, h⟩ := h
          refine zw_iconst (pc := 81) (n := 1) (by decide +kernel) ?_
          refine zw_goto (pc := 82) (off := 4) (tgt := 86) (by decide +kernel) (by decide) ?_
          refine zw_iadd (pc := 86) (by decide +kernel) ?_
          refine zw_istore (pc := 87) (i := 4) (lv' := [(0, .ref 203), (1, .int (zJ v1)), (2, .int (zJ v2)), (3, .int (zJ (v3 + 1))), (4, .int (zJ (v4 + 1))), (5, .int (zJ v5)), (6, .int (zJ v6)), (7, .int (zJ x5))]) (by decide +kernel) (Nat.le_of_ble_eq_true rfl) rfl ?_
          refine zw_aload_n (pc := 89) (n := 0) (i := 0) 0 (by decide +kernel) rfl rfl ?_
          refine zx_getI (pc := 90) zf_11_252 (by decide +kernel) rfl zc_203 ?_
          refine zw_iload (pc := 93) (i := 5) 5 (by decide +kernel) rfl ?_
          refine zw_icmp_le (pc := 95) (off := 10) (tgt := 105) (by decide +kernel) (by decide) o9 o11 (fun hc => ?_) (fun hc => ?_)
          · replace h := h.1 hc
            refine zw_iload (pc := 105) (i := 5) 5 (by decide +kernel) rfl ?_
            refine zw_istore (pc := 107) (i := 5) (lv' := [(0, .ref 203), (1, .int (zJ v1)), (2, .int (zJ v2)), (3, .int (zJ (v3 + 1))), (4, .int (zJ (v4 + 1))), (5, .int (zJ v5)), (6, .int (zJ v6)), (7, .int (zJ x5))]) (by decide +kernel) (Nat.le_of_ble_eq_true rfl) rfl ?_
            refine zw_iconst (pc := 109) (n := 0) (by decide +kernel) ?_
            refine zw_istore (pc := 110) (i := 8) (lv' := [(0, .ref 203), (1, .int (zJ v1)), (2, .int (zJ v2)), (3, .int (zJ (v3 + 1))), (4, .int (zJ (v4 + 1))), (5, .int (zJ v5)), (6, .int (zJ v6)), (7, .int (zJ x5)), (8, .int (zJ 0))]) (by decide +kernel) (Nat.le_of_ble_eq_true rfl) rfl ?_
            refine zw_iconst (pc := 112) (n := 0) (by decide +kernel) ?_
            refine zw_istore (pc := 113) (i := 9) (lv' := [(0, .ref 203), (1, .int (zJ v1)), (2, .int (zJ v2)), (3, .int (zJ (v3 + 1))), (4, .int (zJ (v4 + 1))), (5, .int (zJ v5)), (6, .int (zJ v6)), (7, .int (zJ x5)), (8, .int (zJ 0)), (9, .int (zJ 0))]) (by decide +kernel) (Nat.le_of_ble_eq_true rfl) rfl ?_
            exact zw_pick (lv' := [(0, .ref 203), (1, .int (zJ v1)), (2, .int (zJ v2)), (3, .int (zJ (v3 + 1))), (4, .int (zJ (v4 + 1))), (5, .int (zJ v5)), (6, .int (zJ v6)), (8, .int (zJ 0)), (9, .int (zJ 0))]) [0, 1, 2, 3, 4, 5, 6, 8, 9] rfl h
          · replace h := h.2 hc
            refine zw_aload_n (pc := 98) (n := 0) (i := 0) 0 (by decide +kernel) rfl rfl ?_
            refine zx_getI (pc := 99) zf_11_252 (by decide +kernel) rfl zc_203 ?_
            refine zw_goto (pc := 102) (off := 5) (tgt := 107) (by decide +kernel) (by decide) ?_
            refine zw_istore (pc := 107) (i := 5) (lv' := [(0, .ref 203), (1, .int (zJ v1)), (2, .int (zJ v2)), (3, .int (zJ (v3 + 1))), (4, .int (zJ (v4 + 1))), (5, .int (zJ (μ4 203 28))), (6, .int (zJ v6)), (7, .int (zJ x5))]) (by decide +kernel) (Nat.le_of_ble_eq_true rfl) rfl ?_
            refine zw_iconst (pc := 109) (n := 0) (by decide +kernel) ?_
            refine zw_istore (pc := 110) (i := 8) (lv' := [(0, .ref 203), (1, .int (zJ v1)), (2, .int (zJ v2)), (3, .int (zJ (v3 + 1))), (4, .int (zJ (v4 + 1))), (5, .int (zJ (μ4 203 28))), (6, .int (zJ v6)), (7, .int (zJ x5)), (8, .int (zJ 0))]) (by decide +kernel) (Nat.le_of_ble_eq_true rfl) rfl ?_
            refine zw_iconst (pc := 112) (n := 0) (by decide +kernel) ?_
            refine zw_istore (pc := 113) (i := 9) (lv' := [(0, .ref 203), (1, .int (zJ v1)), (2, .int (zJ v2)), (3, .int (zJ (v3 + 1))), (4, .int (zJ (v4 + 1))), (5, .int (zJ (μ4 203 28))), (6, .int (zJ v6)), (7, .int (zJ x5)), (8, .int (zJ 0)), (9, .int (zJ 0))]) (by decide +kernel) (Nat.le_of_ble_eq_true rfl) rfl ?_
            exact zw_pick (lv' := [(0, .ref 203), (1, .int (zJ v1)), (2, .int (zJ v2)), (3, .int (zJ (v3 + 1))), (4, .int (zJ (v4 + 1))), (5, .int (zJ (μ4 203 28))), (6, .int (zJ v6)), (8, .int (zJ 0)), (9, .int (zJ 0))]) [0, 1, 2, 3, 4, 5, 6, 8, 9] rfl h
    · replace h := h.2 hc
      refine zw_iconst (pc := 60) (n := 0) (by decide +kernel) ?_
      refine zw_goto (pc := 61) (off := 4) (tgt := 65) (by decide +kernel) (by decide) ?_
      refine zw_iadd (pc := 65) (by decide +kernel) ?_
      refine zw_istore_n (pc := 66) (n := 3) (i := 3) (lv' := [(0, .ref 203), (1, .int (zJ v1)), (2, .int (zJ v2)), (3, .int (zJ (v3 + 0))), (4, .int (zJ v4)), (5, .int (zJ v5)), (6, .int (zJ v6)), (7, .int (zJ x5))]) (by decide +kernel) rfl (Nat.le_of_ble_eq_true rfl) rfl ?_
      refine zw_iload (pc := 67) (i := 4) 4 (by decide +kernel) rfl ?_
      refine zw_iload (pc := 69) (i := 7) 7 (by decide +kernel) rfl ?_
      refine zw_if_eq (pc := 71) (off := 14) (tgt := 85) (by decide +kernel) (by decide) o6 (fun hc => ?_) (fun hc => ?_)
      · replace h := h.1 hc
        obtain ⟨o12, o13, h⟩ := h
        refine zw_iconst (pc := 85) (n := 0) (by decide +kernel) ?_
        refine zw_iadd (pc := 86) (by decide +kernel) ?_
        refine zw_istore (pc := 87) (i := 4) (lv' := [(0, .ref 203), (1, .int (zJ v1)), (2, .int (zJ v2)), (3, .int (zJ (v3 + 0))), (4, .int (zJ (v4 + 0))), (5, .int (zJ v5)), (6, .int (zJ v6)), (7, .int (zJ x5))]) (by decide +kernel) (Nat.le_of_ble_eq_true rfl) rfl ?_
        refine zw_aload_n (pc := 89) (n := 0) (i := 0) 0 (by decide +kernel) rfl rfl ?_
        refine zx_getI (pc := 90) zf_11_252 (by decide +kernel) rfl zc_203 ?_
        refine zw_iload (pc := 93) (i := 5) 5 (by decide +kernel) rfl ?_
        refine zw_icmp_le (pc := 95) (off := 10) (tgt := 105) (by decide +kernel) (by decide) o12 o13 (fun hc => ?_) (fun hc => ?_)
        · replace h := h.1 hc
          refine zw_iload (pc := 105) (i := 5) 5 (by decide +kernel) rfl ?_
          refine zw_istore (pc := 107) (i := 5) (lv' := [(0, .ref 203), (1, .int (zJ v1)), (2, .int (zJ v2)), (3, .int (zJ (v3 + 0))), (4, .int (zJ (v4 + 0))), (5, .int (zJ v5)), (6, .int (zJ v6)), (7, .int (zJ x5))]) (by decide +kernel) (Nat.le_of_ble_eq_true rfl) rfl ?_
          refine zw_iconst (pc := 109) (n := 0) (by decide +kernel) ?_
          refine zw_istore (pc := 110) (i := 8) (lv' := [(0, .ref 203), (1, .int (zJ v1)), (2, .int (zJ v2)), (3, .int (zJ (v3 + 0))), (4, .int (zJ (v4 + 0))), (5, .int (zJ v5)), (6, .int (zJ v6)), (7, .int (zJ x5)), (8, .int (zJ 0))]) (by decide +kernel) (Nat.le_of_ble_eq_true rfl) rfl ?_
          refine zw_iconst (pc := 112) (n := 0) (by decide +kernel) ?_
          refine zw_istore (pc := 113) (i := 9) (lv' := [(0, .ref 203), (1, .int (zJ v1)), (2, .int (zJ v2)), (3, .int (zJ (v3 + 0))), (4, .int (zJ (v4 + 0))), (5, .int (zJ v5)), (6, .int (zJ v6)), (7, .int (zJ x5)), (8, .int (zJ 0)), (9, .int (zJ 0))]) (by decide +kernel) (Nat.le_of_ble_eq_true rfl) rfl ?_
          exact zw_pick (lv' := [(0, .ref 203), (1, .int (zJ v1)), (2, .int (zJ v2)), (3, .int (zJ (v3 + 0))), (4, .int (zJ (v4 + 0))), (5, .int (zJ v5)), (6, .int (zJ v6)), (8, .int (zJ 0)), (9, .int (zJ 0))]) [0, 1, 2, 3, 4, 5, 6, 8, 9] rfl h
        · replace h := h.2 hc
          refine zw_aload_n (pc := 98) (n := 0) (i := 0) 0 (by decide +kernel) rfl rfl ?_
          refine zx_getI (pc := 99) zf_11_252 (by decide +kernel) rfl zc_203 ?_
          refine zw_goto (pc := 102) (off := 5) (tgt := 107) (by decide +kernel) (by decide) ?_
          refine zw_istore (pc := 107) (i := 5) (lv' := [(0, .ref 203), (1, .int (zJ v1)), (2, .int (zJ v2)), (3, .int (zJ (v3 + 0))), (4, .int (zJ (v4 + 0))), (5, .int (zJ (μ4 203 28))), (6, .int (zJ v6)), (7, .int (zJ x5))]) (by decide +kernel) (Nat.le_of_ble_eq_true rfl) rfl ?_
          refine zw_iconst (pc := 109) (n := 0) (by decide +kernel) ?_
          refine zw_istore (pc := 110) (i := 8) (lv' := [(0, .ref 203), (1, .int (zJ v1)), (2, .int (zJ v2)), (3, .int (zJ (v3 + 0))), (4, .int (zJ (v4 + 0))), (5, .int (zJ (μ4 203 28))), (6, .int (zJ v6)), (7, .int (zJ x5)), (8, .int (zJ 0))]) (by decide +kernel) (Nat.le_of_ble_eq_true rfl) rfl ?_
          refine zw_iconst (pc := 112) (n := 0) (by decide +kernel) ?_
          refine zw_istore (pc := 113) (i := 9) (lv' := [(0, .ref 203), (1, .int (zJ v1)), (2, .int (zJ v2)), (3, .int (zJ (v3 + 0))), (4, .int (zJ (v4 + 0))), (5, .int (zJ (μ4 203 28))), (6, .int (zJ v6)), (7, .int (zJ x5)), (8, .int (zJ 0)), (9, .int (zJ 0))]) (by decide +kernel) (Nat.le_of_ble_eq_true rfl) rfl ?_
          exact zw_pick (lv' := [(0, .ref 203), (1, .int (zJ v1)), (2, .int (zJ v2)), (3, .int (zJ (v3 + 0))), (4, .int (zJ (v4 + 0))), (5, .int (zJ (μ4 203 28))), (6, .int (zJ v6)), (8, .int (zJ 0)), (9, .int (zJ 0))]) [0, 1, 2, 3, 4, 5, 6, 8, 9] rfl h
      · replace h := h.2 hc
        obtain ⟨o14, h⟩ := h
        refine zw_aload_n (pc := 74) (n := 0) (i := 0) 0 (by decide +kernel) rfl rfl ?_
        refine zx_getI (pc := 75) zf_11_252 (by decide +kernel) rfl zc_203 ?_
        refine zw_if_ne (pc := 78) (off := 7) (tgt := 85) (by decide +kernel) (by decide) o14 (fun hc => ?_) (fun hc => ?_)
        · replace h := h.1 hc
          obtain ⟨o15, h⟩ := h
          refine zw_iconst (pc := 85) (n := 0) (by decide +kernel) ?_
          refine zw_iadd (pc := 86) (by decide +kernel) ?_
          refine zw_istore (pc := 87) (i := 4) (lv' := [(0, .ref 203), (1, .int (zJ v1)), (2, .int (zJ v2)), (3, .int (zJ (v3 + 0))), (4, .int (zJ (v4 + 0))), (5, .int (zJ v5)), (6, .int (zJ v6)), (7, .int (zJ x5))]) (by decide +kernel) (Nat.le_of_ble_eq_true rfl) rfl ?_
          refine zw_aload_n (pc := 89) (n := 0) (i := 0) 0 (by decide +kernel) rfl rfl ?_
          refine zx_getI (pc := 90) zf_11_252 (by decide +kernel) rfl zc_203 ?_
          refine zw_iload (pc := 93) (i := 5) 5 (by decide +kernel) rfl ?_
          refine zw_icmp_le (pc := 95) (off := 10) (tgt := 105) (by decide +kernel) (by decide) o14 o15 (fun hc => ?_) (fun hc => ?_)
          · replace h := h.1 hc
            refine zw_iload (pc := 105) (i := 5) 5 (by decide +kernel) rfl ?_
            refine zw_istore (pc := 107) (i := 5) (lv' := [(0, .ref 203), (1, .int (zJ v1)), (2, .int (zJ v2)), (3, .int (zJ (v3 + 0))), (4, .int (zJ (v4 + 0))), (5, .int (zJ v5)), (6, .int (zJ v6)), (7, .int (zJ x5))]) (by decide +kernel) (Nat.le_of_ble_eq_true rfl) rfl ?_
            refine zw_iconst (pc := 109) (n := 0) (by decide +kernel) ?_
            refine zw_istore (pc := 110) (i := 8) (lv' := [(0, .ref 203), (1, .int (zJ v1)), (2, .int (zJ v2)), (3, .int (zJ (v3 + 0))), (4, .int (zJ (v4 + 0))), (5, .int (zJ v5)), (6, .int (zJ v6)), (7, .int (zJ x5)), (8, .int (zJ 0))]) (by decide +kernel) (Nat.le_of_ble_eq_true rfl) rfl ?_
            refine zw_iconst (pc := 112) (n := 0) (by decide +kernel) ?_
            refine zw_istore (pc := 113) (i := 9) (lv' := [(0, .ref 203), (1, .int (zJ v1)), (2, .int (zJ v2)), (3, .int (zJ (v3 + 0))), (4, .int (zJ (v4 + 0))), (5, .int (zJ v5)), (6, .int (zJ v6)), (7, .int (zJ x5)), (8, .int (zJ 0)), (9, .int (zJ 0))]) (by decide +kernel) (Nat.le_of_ble_eq_true rfl) rfl ?_
            exact zw_pick (lv' := [(0, .ref 203), (1, .int (zJ v1)), (2, .int (zJ v2)), (3, .int (zJ (v3 + 0))), (4, .int (zJ (v4 + 0))), (5, .int (zJ v5)), (6, .int (zJ v6)), (8, .int (zJ 0)), (9, .int (zJ 0))]) [0, 1, 2, 3, 4, 5, 6, 8, 9] rfl h
          · replace h := h.2 hc
            refine zw_aload_n (pc := 98) (n := 0) (i := 0) 0 (by decide +kernel) rfl rfl ?_
            refine zx_getI (pc := 99) zf_11_252 (by decide +kernel) rfl zc_203 ?_
            refine zw_goto (pc := 102) (off := 5) (tgt := 107) (by decide +kernel) (by decide) ?_
            refine zw_istore (pc := 107) (i := 5) (lv' := [(0, .ref 203), (1, .int (zJ v1)), (2, .int (zJ v2)), (3, .int (zJ (v3 + 0))), (4, .int (zJ (v4 + 0))), (5, .int (zJ (μ4 203 28))), (6, .int (zJ v6)), (7, .int (zJ x5))]) (by decide +kernel) (Nat.le_of_ble_eq_true rfl) rfl ?_
            refine zw_iconst (pc := 109) (n := 0) (by decide +kernel) ?_
            refine zw_istore (pc := 110) (i := 8) (lv' := [(0, .ref 203), (1, .int (zJ v1)), (2, .int (zJ v2)), (3, .int (zJ (v3 + 0))), (4, .int (zJ (v4 + 0))), (5, .int (zJ (μ4 203 28))), (6, .int (zJ v6)), (7, .int (zJ x5)), (8, .int (zJ 0))]) (by decide +kernel) (Nat.le_of_ble_eq_true rfl) rfl ?_
            refine zw_iconst (pc := 112) (n := 0) (by decide +kernel) ?_
            refine zw_istore (pc := 113) (i := 9) (lv' := [(0, .ref 203), (1, .int (zJ v1)), (2, .int (zJ v2)), (3, .int (zJ (v3 + 0))), (4, .int (zJ (v4 + 0))), (5, .int (zJ (μ4 203 28))), (6, .int (zJ v6)), (7, .int (zJ x5)), (8, .int (zJ 0)), (9, .int (zJ 0))]) (by decide +kernel) (Nat.le_of_ble_eq_true rfl) rfl ?_
            exact zw_pick (lv' := [(0, .ref 203), (1, .int (zJ v1)), (2, .int (zJ v2)), (3, .int (zJ (v3 + 0))), (4, .int (zJ (v4 + 0))), (5, .int (zJ (μ4 203 28))), (6, .int (zJ v6)), (8, .int (zJ 0)), (9, .int (zJ 0))]) [0, 1, 2, 3, 4, 5, 6, 8, 9] rfl h
        · replace h := h.2 hc
          obtain ⟨o16, h⟩ := h
          refine zw_iconst (pc := 81) (n := 1) (by decide +kernel) ?_
          refine zw_goto (pc := 82) (off := 4) (tgt := 86) (by decide +kernel) (by decide) ?_
          refine zw_iadd (pc := 86) (by decide +kernel) ?_
          refine zw_istore (pc := 87) (i := 4) (lv' := [(0, .ref 203), (1, .int (zJ v1)), (2, .int (zJ v2)), (3, .int (zJ (v3 + 0))), (4, .int (zJ (v4 + 1))), (5, .int (zJ v5)), (6, .int (zJ v6)), (7, .int (zJ x5))]) (by decide +kernel) (Nat.le_of_ble_eq_true rfl) rfl ?_
          refine zw_aload_n (pc := 89) (n := 0) (i := 0) 0 (by decide +kernel) rfl rfl ?_
          refine zx_getI (pc := 90) zf_11_252 (by decide +kernel) rfl zc_203 ?_
          refine zw_iload (pc := 93) (i := 5) 5 (by decide +kernel) rfl ?_
          refine zw_icmp_le (pc := 95) (off := 10) (tgt := 105) (by decide +kernel) (by decide) o14 o16 (fun hc => ?_) (fun hc => ?_)
          · replace h := h.1 hc
            refine zw_iload (pc := 105) (i := 5) 5 (by decide +kernel) rfl ?_
            refine zw_istore (pc := 107) (i := 5) (lv' := [(0, .ref 203), (1, .int (zJ v1)), (2, .int (zJ v2)), (3, .int (zJ (v3 + 0))), (4, .int (zJ (v4 + 1))), (5, .int (zJ v5)), (6, .int (zJ v6)), (7, .int (zJ x5))]) (by decide +kernel) (Nat.le_of_ble_eq_true rfl) rfl ?_
            refine zw_iconst (pc := 109) (n := 0) (by decide +kernel) ?_
            refine zw_istore (pc := 110) (i := 8) (lv' := [(0, .ref 203), (1, .int (zJ v1)), (2, .int (zJ v2)), (3, .int (zJ (v3 + 0))), (4, .int (zJ (v4 + 1))), (5, .int (zJ v5)), (6, .int (zJ v6)), (7, .int (zJ x5)), (8, .int (zJ 0))]) (by decide +kernel) (Nat.le_of_ble_eq_true rfl) rfl ?_
            refine zw_iconst (pc := 112) (n := 0) (by decide +kernel) ?_
            refine zw_istore (pc := 113) (i := 9) (lv' := [(0, .ref 203), (1, .int (zJ v1)), (2, .int (zJ v2)), (3, .int (zJ (v3 + 0))), (4, .int (zJ (v4 + 1))), (5, .int (zJ v5)), (6, .int (zJ v6)), (7, .int (zJ x5)), (8, .int (zJ 0)), (9, .int (zJ 0))]) (by decide +kernel) (Nat.le_of_ble_eq_true rfl) rfl ?_
            exact zw_pick (lv' := [(0, .ref 203), (1, .int (zJ v1)), (2, .int (zJ v2)), (3, .int (zJ (v3 + 0))), (4, .int (zJ (v4 + 1))), (5, .int (zJ v5)), (6, .int (zJ v6)), (8, .int (zJ 0)), (9, .int (zJ 0))]) [0, 1, 2, 3, 4, 5, 6, 8, 9] rfl h
          · replace h := h.2 hc
            refine zw_aload_n (pc := 98) (n := 0) (i := 0) 0 (by decide +kernel) rfl rfl ?_
            refine zx_getI (pc := 99) zf_11_252 (by decide +kernel) rfl zc_203 ?_
            refine zw_goto (pc := 102) (off := 5) (tgt := 107) (by decide +kernel) (by decide) ?_
            refine zw_istore (pc := 107) (i := 5) (lv' := [(0, .ref 203), (1, .int (zJ v1)), (2, .int (zJ v2)), (3, .int (zJ (v3 + 0))), (4, .int (zJ (v4 + 1))), (5, .int (zJ (μ4 203 28))), (6, .int (zJ v6)), (7, .int (zJ x5))]) (by decide +kernel) (Nat.le_of_ble_eq_true rfl) rfl ?_
            refine zw_iconst (pc := 109) (n := 0) (by decide +kernel) ?_
            refine zw_istore (pc := 110) (i := 8) (lv' := [(0, .ref 203), (1, .int (zJ v1)), (2, .int (zJ v2)), (3, .int (zJ (v3 + 0))), (4, .int (zJ (v4 + 1))), (5, .int (zJ (μ4 203 28))), (6, .int (zJ v6)), (7, .int (zJ x5)), (8, .int (zJ 0))]) (by decide +kernel) (Nat.le_of_ble_eq_true rfl) rfl ?_
            refine zw_iconst (pc := 112) (n := 0) (by decide +kernel) ?_
            refine zw_istore (pc := 113) (i := 9) (lv' := [(0, .ref 203), (1, .int (zJ v1)), (2, .int (zJ v2)), (3, .int (zJ (v3 + 0))), (4, .int (zJ (v4 + 1))), (5, .int (zJ (μ4 203 28))), (6, .int (zJ v6)), (7, .int (zJ x5)), (8, .int (zJ 0)), (9, .int (zJ 0))]) (by decide +kernel) (Nat.le_of_ble_eq_true rfl) rfl ?_
            exact zw_pick (lv' := [(0, .ref 203), (1, .int (zJ v1)), (2, .int (zJ v2)), (3, .int (zJ (v3 + 0))), (4, .int (zJ (v4 + 1))), (5, .int (zJ (μ4 203 28))), (6, .int (zJ v6)), (8, .int (zJ 0)), (9, .int (zJ 0))]) [0, 1, 2, 3, 4, 5, 6, 8, 9] rfl h
theorem sg_X11_values_115 {g : zG} {φ : Int → zMu → Prop} {v1 : Int} {v2 : Int} {v3 : Int} {v4 : Int} {v5 : Int} {v6 : Int} {v8 : Int} {v9 : Int} {μ : zMu}
    (h : (zR v9) ∧ (zR (μ 203 28)) ∧ (((μ 203 28) ≤ v9 → (zR v8) ∧ ((v8 = 0 → at_X11_values_37 g φ v1 (v2 + 0) v3 v4 v5 (v6 + 1) μ) ∧ (¬ v8 = 0 → at_X11_values_37 g φ v1 (v2 + 1) v3 v4 v5 (v6 + 1) μ))) ∧ (v9 < (μ 203 28) → (0 ≤ v9 ∧ v9 < 8) ∧ (zR (μ 221 v9.toNat)) ∧ (zR v6) ∧ ((¬ (μ 221 v9.toNat) = v6 → at_X11_values_115 g φ v1 v2 v3 v4 v5 v6 (zor v8 0) (v9 + 1) μ) ∧ ((μ 221 v9.toNat) = v6 → at_X11_values_115 g φ v1 v2 v3 v4 v5 v6 (zor v8 1) (v9 + 1) μ))))) : at_X11_values_115 g φ v1 v2 v3 v4 v5 v6 v8 v9 μ := by
  obtain ⟨o1, o2, h⟩ := h
  refine zw_iload (pc := 115) (i := 9) 8 (by decide +kernel) rfl ?_
  refine zw_aload_n (pc := 117) (n := 0) (i := 0) 0 (by decide +kernel) rfl rfl ?_
  refine zx_getI (pc := 118) zf_11_252 (by decide +kernel) rfl zc_203 ?_
  refine zw_icmp_ge (pc := 121) (off := 31) (tgt := 152) (by decide +kernel) (by decide) o1 o2 (fun hc => ?_) (fun hc => ?_)
  · replace h := h.1 hc
    obtain ⟨o3, h⟩ := h
    refine zw_iload_n (pc := 152) (n := 2) (i := 2) 2 (by decide +kernel) rfl rfl ?_
    refine zw_iload (pc := 153) (i := 8) 7 (by decide +kernel) rfl ?_
    refine zw_if_eq (pc := 155) (off := 7) (tgt := 162) (by decide +kernel) (by decide) o3 (fun hc => ?_) (fun hc => ?_)
    · replace h := h.1 hc
      refine zw_iconst (pc := 162) (n := 0) (by decide +kernel) ?_
      refine zw_iadd (pc := 163) (by decide +kernel) ?_
      refine zw_istore_n (pc := 164) (n := 2) (i := 2) (lv' := [(0, .ref 203), (1, .int (zJ v1)), (2, .int (zJ (v2 + 0))), (3, .int (zJ v3)), (4, .int (zJ v4)), (5, .int (zJ v5)), (6, .int (zJ v6)), (8, .int (zJ v8)), (9, .int (zJ v9))]) (by decide +kernel) rfl (Nat.le_of_ble_eq_true rfl) rfl ?_
      refine zw_iinc (pc := 165) (i := 6) (n := 1) (lv' := [(0, .ref 203), (1, .int (zJ v1)), (2, .int (zJ (v2 + 0))), (3, .int (zJ v3)), (4, .int (zJ v4)), (5, .int (zJ v5)), (6, .int (zJ (v6 + 1))), (8, .int (zJ v8)), (9, .int (zJ v9))]) 6 (by decide +kernel) rfl rfl (Nat.le_of_ble_eq_true rfl) rfl ?_
      refine zw_goto (pc := 168) (off := (-131)) (tgt := 37) (by decide +kernel) (by decide) ?_
      exact zw_pick (lv' := [(0, .ref 203), (1, .int (zJ v1)), (2, .int (zJ (v2 + 0))), (3, .int (zJ v3)), (4, .int (zJ v4)), (5, .int (zJ v5)), (6, .int (zJ (v6 + 1)))]) [0, 1, 2, 3, 4, 5, 6] rfl h
    · replace h := h.2 hc
      refine zw_iconst (pc := 158) (n := 1) (by decide +kernel) ?_
      refine zw_goto (pc := 159) (off := 4) (tgt := 163) (by decide +kernel) (by decide) ?_
      refine zw_iadd (pc := 163) (by decide +kernel) ?_
      refine zw_istore_n (pc := 164) (n := 2) (i := 2) (lv' := [(0, .ref 203), (1, .int (zJ v1)), (2, .int (zJ (v2 + 1))), (3, .int (zJ v3)), (4, .int (zJ v4)), (5, .int (zJ v5)), (6, .int (zJ v6)), (8, .int (zJ v8)), (9, .int (zJ v9))]) (by decide +kernel) rfl (Nat.le_of_ble_eq_true rfl) rfl ?_
      refine zw_iinc (pc := 165) (i := 6) (n := 1) (lv' := [(0, .ref 203), (1, .int (zJ v1)), (2, .int (zJ (v2 + 1))), (3, .int (zJ v3)), (4, .int (zJ v4)), (5, .int (zJ v5)), (6, .int (zJ (v6 + 1))), (8, .int (zJ v8)), (9, .int (zJ v9))]) 6 (by decide +kernel) rfl rfl (Nat.le_of_ble_eq_true rfl) rfl ?_
      refine zw_goto (pc := 168) (off := (-131)) (tgt := 37) (by decide +kernel) (by decide) ?_
      exact zw_pick (lv' := [(0, .ref 203), (1, .int (zJ v1)), (2, .int (zJ (v2 + 1))), (3, .int (zJ v3)), (4, .int (zJ v4)), (5, .int (zJ v5)), (6, .int (zJ (v6 + 1)))]) [0, 1, 2, 3, 4, 5, 6] rfl h
  · replace h := h.2 hc
    obtain ⟨o4, o5, o6, h⟩ := h
    refine zw_iload (pc := 124) (i := 8) 7 (by decide +kernel) rfl ?_
    refine zw_aload_n (pc := 126) (n := 0) (i := 0) 0 (by decide +kernel) rfl rfl ?_
    refine zx_getR (pc := 127) (o := 18) (r := 221) zf_11_67 (by decide +kernel) rfl zc_203 rfl (by decide) rfl ?_
    refine zw_iload (pc := 130) (i := 9) 8 (by decide +kernel) rfl ?_
    refine zx_iaload (pc := 132) (by decide +kernel) ⟨8, zc_221, o4.1, o4.2⟩ ?_
    refine zw_iload (pc := 133) (i := 6) 6 (by decide +kernel) rfl ?_
    refine zw_icmp_ne (pc := 135) (off := 7) (tgt := 142) (by decide +kernel) (by decide) o5 o6 (fun hc => ?_) (fun hc => ?_)
    · replace h := h.1 hc
      refine zw_iconst (pc := 142) (n := 0) (by decide +kernel) ?_
      refine zw_ior (pc := 143) (by decide +kernel) ?_
      refine zw_istore (pc := 144) (i := 8) (lv' := [(0, .ref 203), (1, .int (zJ v1)), (2, .int (zJ v2)), (3, .int (zJ v3)), (4, .int (zJ v4)), (5, .int (zJ v5)), (6, .int (zJ v6)), (8, .int (zJ (zor v8 0))), (9, .int (zJ v9))]) (by decide +kernel) (Nat.le_of_ble_eq_true rfl) rfl ?_
      refine zw_iinc (pc := 146) (i := 9) (n := 1) (lv' := [(0, .ref 203), (1, .int (zJ v1)), (2, .int (zJ v2)), (3, .int (zJ v3)), (4, .int (zJ v4)), (5, .int (zJ v5)), (6, .int (zJ v6)), (8, .int (zJ (zor v8 0))), (9, .int (zJ (v9 + 1)))]) 8 (by decide +kernel) rfl rfl (Nat.le_of_ble_eq_true rfl) rfl ?_
      refine zw_goto (pc := 149) (off := (-34)) (tgt := 115) (by decide +kernel) (by decide) ?_
      exact h
    · replace h := h.2 hc
      refine zw_iconst (pc := 138) (n := 1) (by decide +kernel) ?_
      refine zw_goto (pc := 139) (off := 4) (tgt := 143) (by decide +kernel) (by decide) ?_
      refine zw_ior (pc := 143) (by decide +kernel) ?_
      refine zw_istore (pc := 144) (i := 8) (lv' := [(0, .ref 203), (1, .int (zJ v1)), (2, .int (zJ v2)), (3, .int (zJ v3)), (4, .int (zJ v4)), (5, .int (zJ v5)), (6, .int (zJ v6)), (8, .int (zJ (zor v8 1))), (9, .int (zJ v9))]) (by decide +kernel) (Nat.le_of_ble_eq_true rfl) rfl ?_
      refine zw_iinc (pc := 146) (i := 9) (n := 1) (lv' := [(0, .ref 203), (1, .int (zJ v1)), (2, .int (zJ v2)), (3, .int (zJ v3)), (4, .int (zJ v4)), (5, .int (zJ v5)), (6, .int (zJ v6)), (8, .int (zJ (zor v8 1))), (9, .int (zJ (v9 + 1)))]) 8 (by decide +kernel) rfl rfl (Nat.le_of_ble_eq_true rfl) rfl ?_
      refine zw_goto (pc := 149) (off := (-34)) (tgt := 115) (by decide +kernel) (by decide) ?_
      exact h
abbrev at_X11_keep_21 (g : zG) (φ : Int → zMu → Prop) (v1 : Int) (v2 : Int) (μ : zMu) : Prop := zWP g zm_X11_keep (zmo g zm_X11_keep (zΦi φ)) 21 [(0, .ref 203), (1, .int (zJ v1)), (2, .int (zJ v2))] [] 0 0 (zw μ)
abbrev at_X11_keep_82 (g : zG) (φ : Int → zMu → Prop) (v2 : Int) (v3 : Int) (μ : zMu) : Prop := zWP g zm_X11_keep (zmo g zm_X11_keep (zΦi φ)) 82 [(0, .ref 203), (2, .int (zJ v2)), (3, .int (zJ v3))] [] 0 0 (zw μ)
theorem sg_X11_keep {g : zG} {φ : Int → zMu → Prop} {v1 : Int} {μ : zMu}
    (h : zOi g zm_X11_isKept [.int (zJ v1)] μ (fun x2 μ1 => (zR x2) ∧ ((¬ x2 = 0 → (zR (μ1 203 4)) ∧ ((¬ (μ1 203 4) = 0 → at_X11_keep_21 g φ v1 0 μ1) ∧ ((μ1 203 4) = 0 → φ (-11) μ1))) ∧ (x2 = 0 → φ (-1) μ1)))) : zOi g zm_X11_keep [.ref 203, .int (zJ v1)] μ φ := by
  refine zok_of (by decide +kernel) rfl ?_
  show zWP g zm_X11_keep (zmo g zm_X11_keep (zΦi φ)) 0 [(0, .ref 203), (1, .int (zJ v1))] [] 0 0 (zw μ)
  refine zw_iload_n (pc := 0) (n := 1) (i := 1) 1 (by decide +kernel) rfl rfl ?_
  refine zx_callS (pc := 1) (As := [.int (zJ v1)]) h zi_X11_isKept zis_X11_isKept zl_11_269 (by decide +kernel) ⟨Nat.le_of_ble_eq_true rfl, Nat.le_of_ble_eq_true rfl⟩ rfl rfl ⟨rfl, rfl⟩ ⟨Nat.zero_le _, Nat.zero_le _⟩ (zki (fun x2 μ1 h => ?_))
  obtain ⟨o3, h⟩ := h
  refine zw_if_ne (pc := 4) (off := 5) (tgt := 9) (by decide +kernel) (by decide) o3 (fun hc => ?_) (fun hc => ?_)
  · replace h := h.1 hc
    obtain ⟨o4, h⟩ := h
    refine zw_aload_n (pc := 9) (n := 0) (i := 0) 0 (by decide +kernel) rfl rfl ?_
    refine zx_getI (pc := 10) zf_11_128 (by decide +kernel) rfl zc_203 ?_
    refine zw_if_ne (pc := 13) (off := 6) (tgt := 19) (by decide +kernel) (by decide) o4 (fun hc => ?_) (fun hc => ?_)
    · replace h := h.1 hc
      refine zw_iconst (pc := 19) (n := 0) (by decide +kernel) ?_
      refine zw_istore_n (pc := 20) (n := 2) (i := 2) (lv' := [(0, .ref 203), (1, .int (zJ v1)), (2, .int (zJ 0))]) (by decide +kernel) rfl (Nat.le_of_ble_eq_true rfl) rfl ?_
      exact h
    · replace h := h.2 hc
      refine zw_bipush (pc := 16) (n := (-11)) (by decide +kernel) (by decide +kernel) ?_
      exact zw_iret (pc := 18) (by decide +kernel) rfl (Nat.le_refl _) (Nat.le_refl _) ⟨_, _, rfl, rfl, h⟩
  · replace h := h.2 hc
    refine zw_iconst (pc := 7) (n := (-1)) (by decide +kernel) ?_
    exact zw_iret (pc := 8) (by decide +kernel) rfl (Nat.le_refl _) (Nat.le_refl _) ⟨_, _, rfl, rfl, h⟩
theorem sg_X11_keep_21 {g : zG} {φ : Int → zMu → Prop} {v1 : Int} {v2 : Int} {μ : zMu}
    (h : (zR v2) ∧ ((8 ≤ v2 → (0 ≤ (83 * v1) ∧ (83 * v1) < 664) ∧ (0 ≤ ((83 * v1) + 1) ∧ ((83 * v1) + 1) < 664) ∧ at_X11_keep_82 g φ (83 * v1) 0 (zup (zup μ 208 (Int.toNat (83 * v1)) (μ 203 0)) 208 (Int.toNat ((83 * v1) + 1)) ((zup μ 208 (Int.toNat (83 * v1)) (μ 203 0)) 203 4))) ∧ (v2 < 8 → (zR v1) ∧ ((v2 = v1 → at_X11_keep_21 g φ v1 (v2 + 1) μ) ∧ (¬ v2 = v1 → zOi g zm_X11_keptPrime [.ref 203, .int (zJ v2)] μ (fun x6 μ5 => (zR x6) ∧ (zR (μ5 203 0)) ∧ ((¬ x6 = (μ5 203 0) → at_X11_keep_21 g φ v1 (v2 + 1) μ5) ∧ (x6 = (μ5 203 0) → φ (-3) μ5)))))))) : at_X11_keep_21 g φ v1 v2 μ := by
  obtain ⟨o1, h⟩ := h
  refine zw_iload_n (pc := 21) (n := 2) (i := 2) 2 (by decide +kernel) rfl rfl ?_
  refine zw_bipush (pc := 22) (n := 8) (by decide +kernel) (by decide +kernel) ?_
  refine zw_icmp_ge (pc := 24) (off := 29) (tgt := 53) (by decide +kernel) (by decide) o1 ⟨by decide, by decide⟩ (fun hc => ?_) (fun hc => ?_)
  · replace h := h.1 hc
    obtain ⟨o2, o3, h⟩ := h
    refine zw_bipush (pc := 53) (n := 83) (by decide +kernel) (by decide +kernel) ?_
    refine zw_iload_n (pc := 55) (n := 1) (i := 1) 1 (by decide +kernel) rfl rfl ?_
    refine zw_imul (pc := 56) (by decide +kernel) ?_
    refine zw_istore_n (pc := 57) (n := 2) (i := 2) (lv' := [(0, .ref 203), (1, .int (zJ v1)), (2, .int (zJ (83 * v1)))]) (by decide +kernel) rfl (Nat.le_of_ble_eq_true rfl) rfl ?_
    refine zw_aload_n (pc := 58) (n := 0) (i := 0) 0 (by decide +kernel) rfl rfl ?_
    refine zx_getR (pc := 59) (o := 5) (r := 208) zf_11_28 (by decide +kernel) rfl zc_203 rfl (by decide) rfl ?_
    refine zw_iload_n (pc := 62) (n := 2) (i := 2) 2 (by decide +kernel) rfl rfl ?_
    refine zw_aload_n (pc := 63) (n := 0) (i := 0) 0 (by decide +kernel) rfl rfl ?_
    refine zx_getI (pc := 64) zf_11_9 (by decide +kernel) rfl zc_203 ?_
    refine zx_iastore (pc := 67) (by decide +kernel) ⟨664, zc_208, o2.1, o2.2⟩ ?_
    refine zw_aload_n (pc := 68) (n := 0) (i := 0) 0 (by decide +kernel) rfl rfl ?_
    refine zx_getR (pc := 69) (o := 5) (r := 208) zf_11_28 (by decide +kernel) rfl zc_203 rfl (by decide) rfl ?_
    refine zw_iload_n (pc := 72) (n := 2) (i := 2) 2 (by decide +kernel) rfl rfl ?_
    refine zw_iconst (pc := 73) (n := 1) (by decide +kernel) ?_
    refine zw_iadd (pc := 74) (by decide +kernel) ?_
    refine zw_aload_n (pc := 75) (n := 0) (i := 0) 0 (by decide +kernel) rfl rfl ?_
    refine zx_getI (pc := 76) zf_11_128 (by decide +kernel) rfl zc_203 ?_
    refine zx_iastore (pc := 79) (by decide +kernel) ⟨664, zc_208, o3.1, o3.2⟩ ?_
    refine zw_iconst (pc := 80) (n := 0) (by decide +kernel) ?_
    refine zw_istore_n (pc := 81) (n := 3) (i := 3) (lv' := [(0, .ref 203), (1, .int (zJ v1)), (2, .int (zJ (83 * v1))), (3, .int (zJ 0))]) (by decide +kernel) rfl (Nat.le_of_ble_eq_true rfl) rfl ?_
    exact zw_pick (lv' := [(0, .ref 203), (2, .int (zJ (83 * v1))), (3, .int (zJ 0))]) [0, 2, 3] rfl h
  · replace h := h.2 hc
    obtain ⟨o4, h⟩ := h
    refine zw_iload_n (pc := 27) (n := 2) (i := 2) 2 (by decide +kernel) rfl rfl ?_
    refine zw_iload_n (pc := 28) (n := 1) (i := 1) 1 (by decide +kernel) rfl rfl ?_
    refine zw_icmp_eq (pc := 29) (off := 18) (tgt := 47) (by decide +kernel) (by decide) o1 o4 (fun hc => ?_) (fun hc => ?_)
    · replace h := h.1 hc
      refine zw_iinc (pc := 47) (i := 2) (n := 1) (lv' := [(0, .ref 203), (1, .int (zJ v1)), (2, .int (zJ (v2 + 1)))]) 2 (by decide +kernel) rfl rfl (Nat.le_of_ble_eq_true rfl) rfl ?_
      refine zw_goto (pc := 50) (off := (-29)) (tgt := 21) (by decide +kernel) (by decide) ?_
      exact h
    · replace h := h.2 hc
      refine zw_aload_n (pc := 32) (n := 0) (i := 0) 0 (by decide +kernel) rfl rfl ?_
      refine zw_iload_n (pc := 33) (n := 2) (i := 2) 2 (by decide +kernel) rfl rfl ?_
      refine zx_callV (pc := 34) (As := [.int (zJ v2)]) h zi_X11_keptPrime zii_X11_keptPrime zie_X11_keptPrime zl_11_266 (by decide +kernel) ⟨Nat.le_of_ble_eq_true rfl, Nat.le_of_ble_eq_true rfl⟩ rfl zc_203 (by decide) rfl rfl ⟨rfl, rfl⟩ ⟨Nat.zero_le _, Nat.zero_le _⟩ (zki (fun x6 μ5 h => ?_))
      obtain ⟨o7, o8, h⟩ := h
      refine zw_aload_n (pc := 37) (n := 0) (i := 0) 0 (by decide +kernel) rfl rfl ?_
      refine zx_getI (pc := 38) zf_11_9 (by decide +kernel) rfl zc_203 ?_
      refine zw_icmp_ne (pc := 41) (off := 6) (tgt := 47) (by decide +kernel) (by decide) o7 o8 (fun hc => ?_) (fun hc => ?_)
      · replace h := h.1 hc
        refine zw_iinc (pc := 47) (i := 2) (n := 1) (lv' := [(0, .ref 203), (1, .int (zJ v1)), (2, .int (zJ (v2 + 1)))]) 2 (by decide +kernel) rfl rfl (Nat.le_of_ble_eq_true rfl) rfl ?_
        refine zw_goto (pc := 50) (off := (-29)) (tgt := 21) (by decide +kernel) (by decide) ?_
        exact h
      · replace h := h.2 hc
        refine zw_bipush (pc := 44) (n := (-3)) (by decide +kernel) (by decide +kernel) ?_
        exact zw_iret (pc := 46) (by decide +kernel) rfl (Nat.le_refl _) (Nat.le_refl _) ⟨_, _, rfl, rfl, h⟩
theorem sg_X11_keep_82 {g : zG} {φ : Int → zMu → Prop} {v2 : Int} {v3 : Int} {μ : zMu}
    (h : (zR v3) ∧ ((81 ≤ v3 → zOi g zm_X11_keptMany [.ref 203] μ (fun x3 μ2 => φ x3 μ2)) ∧ (v3 < 81 → (0 ≤ v3 ∧ v3 < 81) ∧ (0 ≤ ((v2 + 2) + v3) ∧ ((v2 + 2) + v3) < 664) ∧ at_X11_keep_82 g φ v2 (v3 + 1) (zup μ 208 (Int.toNat ((v2 + 2) + v3)) (μ 207 v3.toNat))))) : at_X11_keep_82 g φ v2 v3 μ := by
  obtain ⟨o1, h⟩ := h
  refine zw_iload_n (pc := 82) (n := 3) (i := 3) 2 (by decide +kernel) rfl rfl ?_
  refine zw_bipush (pc := 83) (n := 81) (by decide +kernel) (by decide +kernel) ?_
  refine zw_icmp_ge (pc := 85) (off := 25) (tgt := 110) (by decide +kernel) (by decide) o1 ⟨by decide, by decide⟩ (fun hc => ?_) (fun hc => ?_)
  · replace h := h.1 hc
    refine zw_aload_n (pc := 110) (n := 0) (i := 0) 0 (by decide +kernel) rfl rfl ?_
    refine zx_callV (pc := 111) (As := []) h zi_X11_keptMany zii_X11_keptMany zie_X11_keptMany zl_11_272 (by decide +kernel) ⟨Nat.le_of_ble_eq_true rfl, Nat.le_of_ble_eq_true rfl⟩ rfl zc_203 (by decide) rfl rfl ⟨rfl, rfl⟩ ⟨Nat.zero_le _, Nat.zero_le _⟩ (zki (fun x3 μ2 h => ?_))
    exact zw_iret (pc := 114) (by decide +kernel) rfl (Nat.le_refl _) (Nat.le_refl _) ⟨_, _, rfl, rfl, h⟩
  · replace h := h.2 hc
    obtain ⟨o4, o5, h⟩ := h
    refine zw_aload_n (pc := 88) (n := 0) (i := 0) 0 (by decide +kernel) rfl rfl ?_
    refine zx_getR (pc := 89) (o := 5) (r := 208) zf_11_28 (by decide +kernel) rfl zc_203 rfl (by decide) rfl ?_
    refine zw_iload_n (pc := 92) (n := 2) (i := 2) 1 (by decide +kernel) rfl rfl ?_
    refine zw_iconst (pc := 93) (n := 2) (by decide +kernel) ?_
    refine zw_iadd (pc := 94) (by decide +kernel) ?_
    refine zw_iload_n (pc := 95) (n := 3) (i := 3) 2 (by decide +kernel) rfl rfl ?_
    refine zw_iadd (pc := 96) (by decide +kernel) ?_
    refine zw_aload_n (pc := 97) (n := 0) (i := 0) 0 (by decide +kernel) rfl rfl ?_
    refine zx_getR (pc := 98) (o := 4) (r := 207) zf_11_25 (by decide +kernel) rfl zc_203 rfl (by decide) rfl ?_
    refine zw_iload_n (pc := 101) (n := 3) (i := 3) 2 (by decide +kernel) rfl rfl ?_
    refine zx_iaload (pc := 102) (by decide +kernel) ⟨81, zc_207, o4.1, o4.2⟩ ?_
    refine zx_iastore (pc := 103) (by decide +kernel) ⟨664, zc_208, o5.1, o5.2⟩ ?_
    refine zw_iinc (pc := 104) (i := 3) (n := 1) (lv' := [(0, .ref 203), (2, .int (zJ v2)), (3, .int (zJ (v3 + 1)))]) 2 (by decide +kernel) rfl rfl (Nat.le_of_ble_eq_true rfl) rfl ?_
    refine zw_goto (pc := 107) (off := (-25)) (tgt := 82) (by decide +kernel) (by decide) ?_
    exact h
theorem sg_X11_isKept {g : zG} {φ : Int → zMu → Prop} {v0 : Int} {μ : zMu}
    (h : (zR v0) ∧ zOi g zm_X11_in [.long (zL v0), .long (zL 0), .long (zL 7)] μ (fun x3 μ2 => (x3 = 0 ∨ x3 = 1) ∧ φ x3 μ2)) : zOi g zm_X11_isKept [.int (zJ v0)] μ φ := by
  refine zok_of (by decide +kernel) rfl ?_
  show zWP g zm_X11_isKept (zmo g zm_X11_isKept (zΦi φ)) 0 [(0, .int (zJ v0))] [] 0 0 (zw μ)
  obtain ⟨o1, h⟩ := h
  refine zw_iload_n (pc := 0) (n := 0) (i := 0) 0 (by decide +kernel) rfl rfl ?_
  refine zw_i2l (pc := 1) (by decide +kernel) o1 ?_
  refine zw_lconst (pc := 2) (n := 0) (v := 0) (by decide +kernel) rfl ?_
  refine zw_ldc2 (pc := 3) (v := 7) (by decide +kernel) zk_11_264 ?_
  refine zx_callS (pc := 6) (As := [.long (zL v0), .long (zL 0), .long (zL 7)]) h zi_X11_in zis_X11_in zl_11_114 (by decide +kernel) ⟨Nat.le_of_ble_eq_true rfl, Nat.le_of_ble_eq_true rfl⟩ rfl rfl ⟨rfl, rfl⟩ ⟨Nat.zero_le _, Nat.zero_le _⟩ (zki (fun x3 μ2 h => ?_))
  obtain ⟨o4, h⟩ := h
  exact zw_zret (pc := 9) (by decide +kernel) rfl (Nat.le_refl _) (Nat.le_refl _) o4 ⟨_, _, rfl, rfl, h⟩
theorem sg_X11_keptPrime {g : zG} {φ : Int → zMu → Prop} {v1 : Int} {μ : zMu}
    (h : (0 ≤ (83 * v1) ∧ (83 * v1) < 664) ∧ φ (μ 208 (Int.toNat (83 * v1))) μ) : zOi g zm_X11_keptPrime [.ref 203, .int (zJ v1)] μ φ := by
  refine zok_of (by decide +kernel) rfl ?_
  show zWP g zm_X11_keptPrime (zmo g zm_X11_keptPrime (zΦi φ)) 0 [(0, .ref 203), (1, .int (zJ v1))] [] 0 0 (zw μ)
  obtain ⟨o1, h⟩ := h
  refine zw_aload_n (pc := 0) (n := 0) (i := 0) 0 (by decide +kernel) rfl rfl ?_
  refine zx_getR (pc := 1) (o := 5) (r := 208) zf_11_28 (by decide +kernel) rfl zc_203 rfl (by decide) rfl ?_
  refine zw_bipush (pc := 4) (n := 83) (by decide +kernel) (by decide +kernel) ?_
  refine zw_iload_n (pc := 6) (n := 1) (i := 1) 1 (by decide +kernel) rfl rfl ?_
  refine zw_imul (pc := 7) (by decide +kernel) ?_
  refine zx_iaload (pc := 8) (by decide +kernel) ⟨664, zc_208, o1.1, o1.2⟩ ?_
  exact zw_iret (pc := 9) (by decide +kernel) rfl (Nat.le_refl _) (Nat.le_refl _) ⟨_, _, rfl, rfl, h⟩
abbrev at_X11_keptMany_4 (g : zG) (φ : Int → zMu → Prop) (v1 : Int) (v2 : Int) (μ : zMu) : Prop := zWP g zm_X11_keptMany (zmo g zm_X11_keptMany (zΦi φ)) 4 [(0, .ref 203), (1, .int (zJ v1)), (2, .int (zJ v2))] [] 0 0 (zw μ)
theorem sg_X11_keptMany {g : zG} {φ : Int → zMu → Prop} {μ : zMu}
    (h : at_X11_keptMany_4 g φ 0 0 μ) : zOi g zm_X11_keptMany [.ref 203] μ φ := by
  refine zok_of (by decide +kernel) rfl ?_
  show zWP g zm_X11_keptMany (zmo g zm_X11_keptMany (zΦi φ)) 0 [(0, .ref 203)] [] 0 0 (zw μ)
  refine zw_iconst (pc := 0) (n := 0) (by decide +kernel) ?_
  refine zw_istore_n (pc := 1) (n := 1) (i := 1) (lv' := [(0, .ref 203), (1, .int (zJ 0))]) (by decide +kernel) rfl (Nat.le_of_ble_eq_true rfl) rfl ?_
  refine zw_iconst (pc := 2) (n := 0) (by decide +kernel) ?_
  refine zw_istore_n (pc := 3) (n := 2) (i := 2) (lv' := [(0, .ref 203), (1, .int (zJ 0)), (2, .int (zJ 0))]) (by decide +kernel) rfl (Nat.le_of_ble_eq_true rfl) rfl ?_
  exact h
theorem sg_X11_keptMany_4 {g : zG} {φ : Int → zMu → Prop} {v1 : Int} {v2 : Int} {μ : zMu}
    (h : (zR v2) ∧ ((8 ≤ v2 → φ v1 μ) ∧ (v2 < 8 → zOi g zm_X11_keptPrime [.ref 203, .int (zJ v2)] μ (fun x3 μ2 => (zR x3) ∧ ((x3 ≤ 0 → at_X11_keptMany_4 g φ (v1 + 0) (v2 + 1) μ2) ∧ (0 < x3 → at_X11_keptMany_4 g φ (v1 + 1) (v2 + 1) μ2)))))) : at_X11_keptMany_4 g φ v1 v2 μ := by
  obtain ⟨o1, h⟩ := h
  refine zw_iload_n (pc := 4) (n := 2) (i := 2) 2 (by decide +kernel) rfl rfl ?_
  refine zw_bipush (pc := 5) (n := 8) (by decide +kernel) (by decide +kernel) ?_
  refine zw_icmp_ge (pc := 7) (off := 25) (tgt := 32) (by decide +kernel) (by decide) o1 ⟨by decide, by decide⟩ (fun hc => ?_) (fun hc => ?_)
  · replace h := h.1 hc
    refine zw_iload_n (pc := 32) (n := 1) (i := 1) 1 (by decide +kernel) rfl rfl ?_
    exact zw_iret (pc := 33) (by decide +kernel) rfl (Nat.le_refl _) (Nat.le_refl _) ⟨_, _, rfl, rfl, h⟩
  · replace h := h.2 hc
    refine zw_iload_n (pc := 10) (n := 1) (i := 1) 1 (by decide +kernel) rfl rfl ?_
    refine zw_aload_n (pc := 11) (n := 0) (i := 0) 0 (by decide +kernel) rfl rfl ?_
    refine zw_iload_n (pc := 12) (n := 2) (i := 2) 2 (by decide +kernel) rfl rfl ?_
    refine zx_callV (pc := 13) (As := [.int (zJ v2)]) h zi_X11_keptPrime zii_X11_keptPrime zie_X11_keptPrime zl_11_266 (by decide +kernel) ⟨Nat.le_of_ble_eq_true rfl, Nat.le_of_ble_eq_true rfl⟩ rfl zc_203 (by decide) rfl rfl ⟨rfl, rfl⟩ ⟨Nat.zero_le _, Nat.zero_le _⟩ (zki (fun x3 μ2 h => ?_))
    obtain ⟨o4, h⟩ := h
    refine zw_if_le (pc := 16) (off := 7) (tgt := 23) (by decide +kernel) (by decide) o4 (fun hc => ?_) (fun hc => ?_)
    · replace h := h.1 hc
      refine zw_iconst (pc := 23) (n := 0) (by decide +kernel) ?_
      refine zw_iadd (pc := 24) (by decide +kernel) ?_
      refine zw_istore_n (pc := 25) (n := 1) (i := 1) (lv' := [(0, .ref 203), (1, .int (zJ (v1 + 0))), (2, .int (zJ v2))]) (by decide +kernel) rfl (Nat.le_of_ble_eq_true rfl) rfl ?_
      refine zw_iinc (pc := 26) (i := 2) (n := 1) (lv' := [(0, .ref 203), (1, .int (zJ (v1 + 0))), (2, .int (zJ (v2 + 1)))]) 2 (by decide +kernel) rfl rfl (Nat.le_of_ble_eq_true rfl) rfl ?_
      refine zw_goto (pc := 29) (off := (-25)) (tgt := 4) (by decide +kernel) (by decide) ?_
      exact h
    · replace h := h.2 hc
      refine zw_iconst (pc := 19) (n := 1) (by decide +kernel) ?_
      refine zw_goto (pc := 20) (off := 4) (tgt := 24) (by decide +kernel) (by decide) ?_
      refine zw_iadd (pc := 24) (by decide +kernel) ?_
      refine zw_istore_n (pc := 25) (n := 1) (i := 1) (lv' := [(0, .ref 203), (1, .int (zJ (v1 + 1))), (2, .int (zJ v2))]) (by decide +kernel) rfl (Nat.le_of_ble_eq_true rfl) rfl ?_
      refine zw_iinc (pc := 26) (i := 2) (n := 1) (lv' := [(0, .ref 203), (1, .int (zJ (v1 + 1))), (2, .int (zJ (v2 + 1)))]) 2 (by decide +kernel) rfl rfl (Nat.le_of_ble_eq_true rfl) rfl ?_
      refine zw_goto (pc := 29) (off := (-25)) (tgt := 4) (by decide +kernel) (by decide) ?_
      exact h
theorem sg_X11_drop {g : zG} {φ : Int → zMu → Prop} {v1 : Int} {μ : zMu}
    (h : zOi g zm_X11_isKept [.int (zJ v1)] μ (fun x2 μ1 => (zR x2) ∧ ((¬ x2 = 0 → zOi g zm_X11_keptPrime [.ref 203, .int (zJ v1)] μ1 (fun x5 μ4 => (0 ≤ (83 * v1) ∧ (83 * v1) < 664) ∧ (zR x5) ∧ ((¬ x5 = 0 → φ x5 (zup μ4 208 (Int.toNat (83 * v1)) 0)) ∧ (x5 = 0 → φ (-11) (zup μ4 208 (Int.toNat (83 * v1)) 0))))) ∧ (x2 = 0 → φ (-1) μ1)))) : zOi g zm_X11_drop [.ref 203, .int (zJ v1)] μ φ := by
  refine zok_of (by decide +kernel) rfl ?_
  show zWP g zm_X11_drop (zmo g zm_X11_drop (zΦi φ)) 0 [(0, .ref 203), (1, .int (zJ v1))] [] 0 0 (zw μ)
  refine zw_iload_n (pc := 0) (n := 1) (i := 1) 1 (by decide +kernel) rfl rfl ?_
  refine zx_callS (pc := 1) (As := [.int (zJ v1)]) h zi_X11_isKept zis_X11_isKept zl_11_269 (by decide +kernel) ⟨Nat.le_of_ble_eq_true rfl, Nat.le_of_ble_eq_true rfl⟩ rfl rfl ⟨rfl, rfl⟩ ⟨Nat.zero_le _, Nat.zero_le _⟩ (zki (fun x2 μ1 h => ?_))
  obtain ⟨o3, h⟩ := h
  refine zw_if_ne (pc := 4) (off := 5) (tgt := 9) (by decide +kernel) (by decide) o3 (fun hc => ?_) (fun hc => ?_)
  · replace h := h.1 hc
    refine zw_aload_n (pc := 9) (n := 0) (i := 0) 0 (by decide +kernel) rfl rfl ?_
    refine zw_iload_n (pc := 10) (n := 1) (i := 1) 1 (by decide +kernel) rfl rfl ?_
    refine zx_callV (pc := 11) (As := [.int (zJ v1)]) h zi_X11_keptPrime zii_X11_keptPrime zie_X11_keptPrime zl_11_266 (by decide +kernel) ⟨Nat.le_of_ble_eq_true rfl, Nat.le_of_ble_eq_true rfl⟩ rfl zc_203 (by decide) rfl rfl ⟨rfl, rfl⟩ ⟨Nat.zero_le _, Nat.zero_le _⟩ (zki (fun x5 μ4 h => ?_))
    obtain ⟨o6, o7, h⟩ := h
    refine zw_istore_n (pc := 14) (n := 2) (i := 2) (lv' := [(0, .ref 203), (1, .int (zJ v1)), (2, .int (zJ x5))]) (by decide +kernel) rfl (Nat.le_of_ble_eq_true rfl) rfl ?_
    refine zw_aload_n (pc := 15) (n := 0) (i := 0) 0 (by decide +kernel) rfl rfl ?_
    refine zx_getR (pc := 16) (o := 5) (r := 208) zf_11_28 (by decide +kernel) rfl zc_203 rfl (by decide) rfl ?_
    refine zw_bipush (pc := 19) (n := 83) (by decide +kernel) (by decide +kernel) ?_
    refine zw_iload_n (pc := 21) (n := 1) (i := 1) 1 (by decide +kernel) rfl rfl ?_
    refine zw_imul (pc := 22) (by decide +kernel) ?_
    refine zw_iconst (pc := 23) (n := 0) (by decide +kernel) ?_
    refine zx_iastore (pc := 24) (by decide +kernel) ⟨664, zc_208, o6.1, o6.2⟩ ?_
    refine zw_iload_n (pc := 25) (n := 2) (i := 2) 2 (by decide +kernel) rfl rfl ?_
    refine zw_if_ne (pc := 26) (off := 8) (tgt := 34) (by decide +kernel) (by decide) o7 (fun hc => ?_) (fun hc => ?_)
    · replace h := h.1 hc
      refine zw_iload_n (pc := 34) (n := 2) (i := 2) 2 (by decide +kernel) rfl rfl ?_
      exact zw_iret (pc := 35) (by decide +kernel) rfl (Nat.le_refl _) (Nat.le_refl _) ⟨_, _, rfl, rfl, h⟩
    · replace h := h.2 hc
      refine zw_bipush (pc := 29) (n := (-11)) (by decide +kernel) (by decide +kernel) ?_
      refine zw_goto (pc := 31) (off := 4) (tgt := 35) (by decide +kernel) (by decide) ?_
      exact zw_iret (pc := 35) (by decide +kernel) rfl (Nat.le_refl _) (Nat.le_refl _) ⟨_, _, rfl, rfl, h⟩
  · replace h := h.2 hc
    refine zw_iconst (pc := 7) (n := (-1)) (by decide +kernel) ?_
    exact zw_iret (pc := 8) (by decide +kernel) rfl (Nat.le_refl _) (Nat.le_refl _) ⟨_, _, rfl, rfl, h⟩
abbrev at_X11_whole__4 (g : zG) (φ : Int → zMu → Prop) (v1 : Int) (v3 : Int) (μ : zMu) : Prop := zWP g zm_X11_whole_ (zmo g zm_X11_whole_ (zΦl φ)) 4 [(0, .ref 203), (1, .long (zL v1)), (3, .int (zJ v3))] [] 0 0 (zw μ)
theorem sg_X11_whole_ {g : zG} {φ : Int → zMu → Prop} {μ : zMu}
    (h : at_X11_whole__4 g φ 1 0 μ) : zOl g zm_X11_whole_ [.ref 203] μ φ := by
  refine zok_of (by decide +kernel) rfl ?_
  show zWP g zm_X11_whole_ (zmo g zm_X11_whole_ (zΦl φ)) 0 [(0, .ref 203)] [] 0 0 (zw μ)
  refine zw_lconst (pc := 0) (n := 1) (v := 1) (by decide +kernel) rfl ?_
  refine zw_lstore_n (pc := 1) (n := 1) (i := 1) (lv' := [(0, .ref 203), (1, .long (zL 1))]) (by decide +kernel) rfl (Nat.le_of_ble_eq_true rfl) rfl ?_
  refine zw_iconst (pc := 2) (n := 0) (by decide +kernel) ?_
  refine zw_istore_n (pc := 3) (n := 3) (i := 3) (lv' := [(0, .ref 203), (1, .long (zL 1)), (3, .int (zJ 0))]) (by decide +kernel) rfl (Nat.le_of_ble_eq_true rfl) rfl ?_
  exact h
theorem sg_X11_whole__4 {g : zG} {φ : Int → zMu → Prop} {v1 : Int} {v3 : Int} {μ : zMu}
    (h : (zR v3) ∧ ((8 ≤ v3 → zOi g zm_X11_keptMany [.ref 203] μ (fun x3 μ2 => (zR x3) ∧ ((¬ x3 = 0 → φ v1 μ2) ∧ (x3 = 0 → φ (-9223372036854775808) μ2)))) ∧ (v3 < 8 → zOi g zm_X11_keptPrime [.ref 203, .int (zJ v3)] μ (fun x6 μ5 => (zR x6) ∧ ((x6 ≤ 0 → at_X11_whole__4 g φ (v1 * 1) (v3 + 1) μ5) ∧ (0 < x6 → zOi g zm_X11_keptPrime [.ref 203, .int (zJ v3)] μ5 (fun x9 μ8 => (zR x9) ∧ at_X11_whole__4 g φ (v1 * x9) (v3 + 1) μ8))))))) : at_X11_whole__4 g φ v1 v3 μ := by
  obtain ⟨o1, h⟩ := h
  refine zw_iload_n (pc := 4) (n := 3) (i := 3) 2 (by decide +kernel) rfl rfl ?_
  refine zw_bipush (pc := 5) (n := 8) (by decide +kernel) (by decide +kernel) ?_
  refine zw_icmp_ge (pc := 7) (off := 30) (tgt := 37) (by decide +kernel) (by decide) o1 ⟨by decide, by decide⟩ (fun hc => ?_) (fun hc => ?_)
  · replace h := h.1 hc
    refine zw_aload_n (pc := 37) (n := 0) (i := 0) 0 (by decide +kernel) rfl rfl ?_
    refine zx_callV (pc := 38) (As := []) h zi_X11_keptMany zii_X11_keptMany zie_X11_keptMany zl_11_272 (by decide +kernel) ⟨Nat.le_of_ble_eq_true rfl, Nat.le_of_ble_eq_true rfl⟩ rfl zc_203 (by decide) rfl rfl ⟨rfl, rfl⟩ ⟨Nat.zero_le _, Nat.zero_le _⟩ (zki (fun x3 μ2 h => ?_))
    obtain ⟨o4, h⟩ := h
    refine zw_if_ne (pc := 41) (off := 9) (tgt := 50) (by decide +kernel) (by decide) o4 (fun hc => ?_) (fun hc => ?_)
    · replace h := h.1 hc
      refine zw_lload_n (pc := 50) (n := 1) (i := 1) 1 (by decide +kernel) rfl rfl ?_
      exact zw_lret (pc := 51) (by decide +kernel) rfl (Nat.le_refl _) (Nat.le_refl _) ⟨_, _, rfl, rfl, h⟩
    · replace h := h.2 hc
      refine zw_ldc2 (pc := 44) (v := (-9223372036854775808)) (by decide +kernel) zk_11_275 ?_
      refine zw_goto (pc := 47) (off := 4) (tgt := 51) (by decide +kernel) (by decide) ?_
      exact zw_lret (pc := 51) (by decide +kernel) rfl (Nat.le_refl _) (Nat.le_refl _) ⟨_, _, rfl, rfl, h⟩
  · replace h := h.2 hc
    refine zw_lload_n (pc := 10) (n := 1) (i := 1) 1 (by decide +kernel) rfl rfl ?_
    refine zw_aload_n (pc := 11) (n := 0) (i := 0) 0 (by decide +kernel) rfl rfl ?_
    refine zw_iload_n (pc := 12) (n := 3) (i := 3) 2 (by decide +kernel) rfl rfl ?_
    refine zx_callV (pc := 13) (As := [.int (zJ v3)]) h zi_X11_keptPrime zii_X11_keptPrime zie_X11_keptPrime zl_11_266 (by decide +kernel) ⟨Nat.le_of_ble_eq_true rfl, Nat.le_of_ble_eq_true rfl⟩ rfl zc_203 (by decide) rfl rfl ⟨rfl, rfl⟩ ⟨Nat.zero_le _, Nat.zero_le _⟩ (zki (fun x6 μ5 h => ?_))
    obtain ⟨o7, h⟩ := h
    refine zw_if_le (pc := 16) (off := 12) (tgt := 28) (by decide +kernel) (by decide) o7 (fun hc => ?_) (fun hc => ?_)
    · replace h := h.1 hc
      refine zw_lconst (pc := 28) (n := 1) (v := 1) (by decide +kernel) rfl ?_
      refine zw_lmul (pc := 29) (by decide +kernel) ?_
      refine zw_lstore_n (pc := 30) (n := 1) (i := 1) (lv' := [(0, .ref 203), (1, .long (zL (v1 * 1))), (3, .int (zJ v3))]) (by decide +kernel) rfl (Nat.le_of_ble_eq_true rfl) rfl ?_
      refine zw_iinc (pc := 31) (i := 3) (n := 1) (lv' := [(0, .ref 203), (1, .long (zL (v1 * 1))), (3, .int (zJ (v3 + 1)))]) 2 (by decide +kernel) rfl rfl (Nat.le_of_ble_eq_true rfl) rfl ?_
      refine zw_goto (pc := 34) (off := (-30)) (tgt := 4) (by decide +kernel) (by decide) ?_
      exact h
    · replace h := h.2 hc
      refine zw_aload_n (pc := 19) (n := 0) (i := 0) 0 (by decide +kernel) rfl rfl ?_
      refine zw_iload_n (pc := 20) (n := 3) (i := 3) 2 (by decide +kernel) rfl rfl ?_
      refine zx_callV (pc := 21) (As := [.int (zJ v3)]) h zi_X11_keptPrime zii_X11_keptPrime zie_X11_keptPrime zl_11_266 (by decide +kernel) ⟨Nat.le_of_ble_eq_true rfl, Nat.le_of_ble_eq_true rfl⟩ rfl zc_203 (by decide) rfl rfl ⟨rfl, rfl⟩ ⟨Nat.zero_le _, Nat.zero_le _⟩ (zki (fun x9 μ8 h => ?_))
      obtain ⟨o10, h⟩ := h
      refine zw_i2l (pc := 24) (by decide +kernel) o10 ?_
      refine zw_goto (pc := 25) (off := 4) (tgt := 29) (by decide +kernel) (by decide) ?_
      refine zw_lmul (pc := 29) (by decide +kernel) ?_
      refine zw_lstore_n (pc := 30) (n := 1) (i := 1) (lv' := [(0, .ref 203), (1, .long (zL (v1 * x9))), (3, .int (zJ v3))]) (by decide +kernel) rfl (Nat.le_of_ble_eq_true rfl) rfl ?_
      refine zw_iinc (pc := 31) (i := 3) (n := 1) (lv' := [(0, .ref 203), (1, .long (zL (v1 * x9))), (3, .int (zJ (v3 + 1)))]) 2 (by decide +kernel) rfl rfl (Nat.le_of_ble_eq_true rfl) rfl ?_
      refine zw_goto (pc := 34) (off := (-30)) (tgt := 4) (by decide +kernel) (by decide) ?_
      exact h
abbrev at_X11_joined_44 (g : zG) (φ : Int → zMu → Prop) (v1 : Int) (v2 : Int) (v3 : Int) (v4 : Int) (v6 : Int) (v8 : Int) (μ : zMu) : Prop := zWP g zm_X11_joined (zmo g zm_X11_joined (zΦl φ)) 44 [(0, .ref 203), (1, .int (zJ v1)), (2, .int (zJ v2)), (3, .int (zJ v3)), (4, .long (zL v4)), (6, .long (zL v6)), (8, .int (zJ v8))] [] 0 0 (zw μ)
abbrev at_X11_joined_88 (g : zG) (φ : Int → zMu → Prop) (v1 : Int) (v2 : Int) (v3 : Int) (v4 : Int) (v6 : Int) (v8 : Int) (v9 : Int) (v10 : Int) (v11 : Int) (μ : zMu) : Prop := zWP g zm_X11_joined (zmo g zm_X11_joined (zΦl φ)) 88 [(0, .ref 203), (1, .int (zJ v1)), (2, .int (zJ v2)), (3, .int (zJ v3)), (4, .long (zL v4)), (6, .long (zL v6)), (8, .int (zJ v8)), (9, .int (zJ v9)), (10, .int (zJ v10)), (11, .int (zJ v11))] [] 0 0 (zw μ)
theorem sg_X11_joined {g : zG} {φ : Int → zMu → Prop} {v1 : Int} {v2 : Int} {μ : zMu}
    (h : zOi g zm_X11_joinedDegree [.ref 203] μ (fun x2 μ1 => (zR x2) ∧ ((x2 < 0 → φ (-9223372036854775808) μ1) ∧ (0 ≤ x2 → (zR v1) ∧ zOi g zm_X11_in [.long (zL v1), .long (zL 0), .long (zL x2)] μ1 (fun x6 μ5 => (zR x6) ∧ ((x6 = 0 → φ (-9223372036854775808) μ5) ∧ (¬ x6 = 0 → (zR v2) ∧ zOi g zm_X11_in [.long (zL v2), .long (zL 0), .long (zL x2)] μ5 (fun x10 μ9 => (zR x10) ∧ ((¬ x10 = 0 → at_X11_joined_44 g φ v1 v2 x2 0 1 0 μ9) ∧ (x10 = 0 → φ (-9223372036854775808) μ9)))))))))) : zOl g zm_X11_joined [.ref 203, .int (zJ v1), .int (zJ v2)] μ φ := by
  refine zok_of (by decide +kernel) rfl ?_
  show zWP g zm_X11_joined (zmo g zm_X11_joined (zΦl φ)) 0 [(0, .ref 203), (1, .int (zJ v1)), (2, .int (zJ v2))] [] 0 0 (zw μ)
  refine zw_aload_n (pc := 0) (n := 0) (i := 0) 0 (by decide +kernel) rfl rfl ?_
  refine zx_callV (pc := 1) (As := []) h zi_X11_joinedDegree zii_X11_joinedDegree zie_X11_joinedDegree zl_11_277 (by decide +kernel) ⟨Nat.le_of_ble_eq_true rfl, Nat.le_of_ble_eq_true rfl⟩ rfl zc_203 (by decide) rfl rfl ⟨rfl, rfl⟩ ⟨Nat.zero_le _, Nat.zero_le _⟩ (zki (fun x2 μ1 h => ?_))
  obtain ⟨o3, h⟩ := h
  refine zw_istore_n (pc := 4) (n := 3) (i := 3) (lv' := [(0, .ref 203), (1, .int (zJ v1)), (2, .int (zJ v2)), (3, .int (zJ x2))]) (by decide +kernel) rfl (Nat.le_of_ble_eq_true rfl) rfl ?_
  refine zw_iload_n (pc := 5) (n := 3) (i := 3) 3 (by decide +kernel) rfl rfl ?_
  refine zw_if_lt (pc := 6) (off := 25) (tgt := 31) (by decide +kernel) (by decide) o3 (fun hc => ?_) (fun hc => ?_)
  · replace h := h.1 hc
    refine zw_ldc2 (pc := 31) (v := (-9223372036854775808)) (by decide +kernel) zk_11_275 ?_
    exact zw_lret (pc := 34) (by decide +kernel) rfl (Nat.le_refl _) (Nat.le_refl _) ⟨_, _, rfl, rfl, h⟩
  · replace h := h.2 hc
    obtain ⟨o4, h⟩ := h
    refine zw_iload_n (pc := 9) (n := 1) (i := 1) 1 (by decide +kernel) rfl rfl ?_
    refine zw_i2l (pc := 10) (by decide +kernel) o4 ?_
    refine zw_lconst (pc := 11) (n := 0) (v := 0) (by decide +kernel) rfl ?_
    refine zw_iload_n (pc := 12) (n := 3) (i := 3) 3 (by decide +kernel) rfl rfl ?_
    refine zw_i2l (pc := 13) (by decide +kernel) o3 ?_
    refine zx_callS (pc := 14) (As := [.long (zL v1), .long (zL 0), .long (zL x2)]) h zi_X11_in zis_X11_in zl_11_114 (by decide +kernel) ⟨Nat.le_of_ble_eq_true rfl, Nat.le_of_ble_eq_true rfl⟩ rfl rfl ⟨rfl, rfl⟩ ⟨Nat.zero_le _, Nat.zero_le _⟩ (zki (fun x6 μ5 h => ?_))
    obtain ⟨o7, h⟩ := h
    refine zw_if_eq (pc := 17) (off := 14) (tgt := 31) (by decide +kernel) (by decide) o7 (fun hc => ?_) (fun hc => ?_)
    · replace h := h.1 hc
      refine zw_ldc2 (pc := 31) (v := (-9223372036854775808)) (by decide +kernel) zk_11_275 ?_
      exact zw_lret (pc := 34) (by decide +kernel) rfl (Nat.le_refl _) (Nat.le_refl _) ⟨_, _, rfl, rfl, h⟩
    · replace h := h.2 hc
      obtain ⟨o8, h⟩ := h
      refine zw_iload_n (pc := 20) (n := 2) (i := 2) 2 (by decide +kernel) rfl rfl ?_
      refine zw_i2l (pc := 21) (by decide +kernel) o8 ?_
      refine zw_lconst (pc := 22) (n := 0) (v := 0) (by decide +kernel) rfl ?_
      refine zw_iload_n (pc := 23) (n := 3) (i := 3) 3 (by decide +kernel) rfl rfl ?_
      refine zw_i2l (pc := 24) (by decide +kernel) o3 ?_
      refine zx_callS (pc := 25) (As := [.long (zL v2), .long (zL 0), .long (zL x2)]) h zi_X11_in zis_X11_in zl_11_114 (by decide +kernel) ⟨Nat.le_of_ble_eq_true rfl, Nat.le_of_ble_eq_true rfl⟩ rfl rfl ⟨rfl, rfl⟩ ⟨Nat.zero_le _, Nat.zero_le _⟩ (zki (fun x10 μ9 h => ?_))
      obtain ⟨o11, h⟩ := h
      refine zw_if_ne (pc := 28) (off := 7) (tgt := 35) (by decide +kernel) (by decide) o11 (fun hc => ?_) (fun hc => ?_)
      · replace h := h.1 hc
        refine zw_lconst (pc := 35) (n := 0) (v := 0) (by decide +kernel) rfl ?_
        refine zw_lstore (pc := 36) (i := 4) (lv' := [(0, .ref 203), (1, .int (zJ v1)), (2, .int (zJ v2)), (3, .int (zJ x2)), (4, .long (zL 0))]) (by decide +kernel) (Nat.le_of_ble_eq_true rfl) rfl ?_
        refine zw_lconst (pc := 38) (n := 1) (v := 1) (by decide +kernel) rfl ?_
        refine zw_lstore (pc := 39) (i := 6) (lv' := [(0, .ref 203), (1, .int (zJ v1)), (2, .int (zJ v2)), (3, .int (zJ x2)), (4, .long (zL 0)), (6, .long (zL 1))]) (by decide +kernel) (Nat.le_of_ble_eq_true rfl) rfl ?_
        refine zw_iconst (pc := 41) (n := 0) (by decide +kernel) ?_
        refine zw_istore (pc := 42) (i := 8) (lv' := [(0, .ref 203), (1, .int (zJ v1)), (2, .int (zJ v2)), (3, .int (zJ x2)), (4, .long (zL 0)), (6, .long (zL 1)), (8, .int (zJ 0))]) (by decide +kernel) (Nat.le_of_ble_eq_true rfl) rfl ?_
        exact h
      · replace h := h.2 hc
        refine zw_ldc2 (pc := 31) (v := (-9223372036854775808)) (by decide +kernel) zk_11_275 ?_
        exact zw_lret (pc := 34) (by decide +kernel) rfl (Nat.le_refl _) (Nat.le_refl _) ⟨_, _, rfl, rfl, h⟩
theorem sg_X11_joined_44 {g : zG} {φ : Int → zMu → Prop} {v1 : Int} {v2 : Int} {v3 : Int} {v4 : Int} {v6 : Int} {v8 : Int} {μ : zMu}
    (h : (zR v8) ∧ ((8 ≤ v8 → (zR64 (2 * v4)) ∧ (zR64 v6) ∧ (zR (zcmp (2 * v4) v6)) ∧ ((0 < (zcmp (2 * v4) v6) → φ (v4 - v6) μ) ∧ ((zcmp (2 * v4) v6) ≤ 0 → φ v4 μ))) ∧ (v8 < 8 → zOi g zm_X11_keptPrime [.ref 203, .int (zJ v8)] μ (fun x6 μ5 => (zR x6) ∧ ((x6 ≤ 0 → at_X11_joined_44 g φ v1 v2 v3 v4 v6 (v8 + 1) μ5) ∧ (0 < x6 → zOi g zm_X11_place [.int (zJ v3), .int (zJ v1), .int (zJ v2)] μ5 (fun x9 μ8 => (0 ≤ (((83 * v8) + 2) + x9) ∧ (((83 * v8) + 2) + x9) < 664) ∧ at_X11_joined_88 g φ v1 v2 v3 v4 v6 v8 x6 (μ8 208 (Int.toNat (((83 * v8) + 2) + x9))) 0 μ8))))))) : at_X11_joined_44 g φ v1 v2 v3 v4 v6 v8 μ := by
  obtain ⟨o1, h⟩ := h
  refine zw_iload (pc := 44) (i := 8) 6 (by decide +kernel) rfl ?_
  refine zw_bipush (pc := 46) (n := 8) (by decide +kernel) (by decide +kernel) ?_
  refine zw_icmp_ge (pc := 48) (off := 87) (tgt := 135) (by decide +kernel) (by decide) o1 ⟨by decide, by decide⟩ (fun hc => ?_) (fun hc => ?_)
  · replace h := h.1 hc
    obtain ⟨o2, o3, o4, h⟩ := h
    refine zw_ldc2 (pc := 135) (v := 2) (by decide +kernel) zk_11_187 ?_
    refine zw_lload (pc := 138) (i := 4) 4 (by decide +kernel) rfl ?_
    refine zw_lmul (pc := 140) (by decide +kernel) ?_
    refine zw_lload (pc := 141) (i := 6) 5 (by decide +kernel) rfl ?_
    refine zw_lcmp (pc := 143) (by decide +kernel) o2 o3 ?_
    refine zw_if_gt (pc := 144) (off := 8) (tgt := 152) (by decide +kernel) (by decide) o4 (fun hc => ?_) (fun hc => ?_)
    · replace h := h.1 hc
      refine zw_lload (pc := 152) (i := 4) 4 (by decide +kernel) rfl ?_
      refine zw_lload (pc := 154) (i := 6) 5 (by decide +kernel) rfl ?_
      refine zw_lsub (pc := 156) (by decide +kernel) ?_
      exact zw_lret (pc := 157) (by decide +kernel) rfl (Nat.le_refl _) (Nat.le_refl _) ⟨_, _, rfl, rfl, h⟩
    · replace h := h.2 hc
      refine zw_lload (pc := 147) (i := 4) 4 (by decide +kernel) rfl ?_
      refine zw_goto (pc := 149) (off := 8) (tgt := 157) (by decide +kernel) (by decide) ?_
      exact zw_lret (pc := 157) (by decide +kernel) rfl (Nat.le_refl _) (Nat.le_refl _) ⟨_, _, rfl, rfl, h⟩
  · replace h := h.2 hc
    refine zw_aload_n (pc := 51) (n := 0) (i := 0) 0 (by decide +kernel) rfl rfl ?_
    refine zw_iload (pc := 52) (i := 8) 6 (by decide +kernel) rfl ?_
    refine zx_callV (pc := 54) (As := [.int (zJ v8)]) h zi_X11_keptPrime zii_X11_keptPrime zie_X11_keptPrime zl_11_266 (by decide +kernel) ⟨Nat.le_of_ble_eq_true rfl, Nat.le_of_ble_eq_true rfl⟩ rfl zc_203 (by decide) rfl rfl ⟨rfl, rfl⟩ ⟨Nat.zero_le _, Nat.zero_le _⟩ (zki (fun x6 μ5 h => ?_))
    obtain ⟨o7, h⟩ := h
    refine zw_istore (pc := 57) (i := 9) (lv' := [(0, .ref 203), (1, .int (zJ v1)), (2, .int (zJ v2)), (3, .int (zJ v3)), (4, .long (zL v4)), (6, .long (zL v6)), (8, .int (zJ v8)), (9, .int (zJ x6))]) (by decide +kernel) (Nat.le_of_ble_eq_true rfl) rfl ?_
    refine zw_iload (pc := 59) (i := 9) 7 (by decide +kernel) rfl ?_
    refine zw_if_le (pc := 61) (off := 68) (tgt := 129) (by decide +kernel) (by decide) o7 (fun hc => ?_) (fun hc => ?_)
    · replace h := h.1 hc
      refine zw_iinc (pc := 129) (i := 8) (n := 1) (lv' := [(0, .ref 203), (1, .int (zJ v1)), (2, .int (zJ v2)), (3, .int (zJ v3)), (4, .long (zL v4)), (6, .long (zL v6)), (8, .int (zJ (v8 + 1))), (9, .int (zJ x6))]) 6 (by decide +kernel) rfl rfl (Nat.le_of_ble_eq_true rfl) rfl ?_
      refine zw_goto (pc := 132) (off := (-88)) (tgt := 44) (by decide +kernel) (by decide) ?_
      exact zw_pick (lv' := [(0, .ref 203), (1, .int (zJ v1)), (2, .int (zJ v2)), (3, .int (zJ v3)), (4, .long (zL v4)), (6, .long (zL v6)), (8, .int (zJ (v8 + 1)))]) [0, 1, 2, 3, 4, 5, 6] rfl h
    · replace h := h.2 hc
      refine zw_aload_n (pc := 64) (n := 0) (i := 0) 0 (by decide +kernel) rfl rfl ?_
      refine zx_getR (pc := 65) (o := 5) (r := 208) zf_11_28 (by decide +kernel) rfl zc_203 rfl (by decide) rfl ?_
      refine zw_bipush (pc := 68) (n := 83) (by decide +kernel) (by decide +kernel) ?_
      refine zw_iload (pc := 70) (i := 8) 6 (by decide +kernel) rfl ?_
      refine zw_imul (pc := 72) (by decide +kernel) ?_
      refine zw_iconst (pc := 73) (n := 2) (by decide +kernel) ?_
      refine zw_iadd (pc := 74) (by decide +kernel) ?_
      refine zw_iload_n (pc := 75) (n := 3) (i := 3) 3 (by decide +kernel) rfl rfl ?_
      refine zw_iload_n (pc := 76) (n := 1) (i := 1) 1 (by decide +kernel) rfl rfl ?_
      refine zw_iload_n (pc := 77) (n := 2) (i := 2) 2 (by decide +kernel) rfl rfl ?_
      refine zx_callS (pc := 78) (As := [.int (zJ v3), .int (zJ v1), .int (zJ v2)]) h zi_X11_place zis_X11_place zl_11_218 (by decide +kernel) ⟨Nat.le_of_ble_eq_true rfl, Nat.le_of_ble_eq_true rfl⟩ rfl rfl ⟨rfl, rfl⟩ ⟨Nat.zero_le _, Nat.zero_le _⟩ (zki (fun x9 μ8 h => ?_))
      obtain ⟨o10, h⟩ := h
      refine zw_iadd (pc := 81) (by decide +kernel) ?_
      refine zx_iaload (pc := 82) (by decide +kernel) ⟨664, zc_208, o10.1, o10.2⟩ ?_
      refine zw_istore (pc := 83) (i := 10) (lv' := [(0, .ref 203), (1, .int (zJ v1)), (2, .int (zJ v2)), (3, .int (zJ v3)), (4, .long (zL v4)), (6, .long (zL v6)), (8, .int (zJ v8)), (9, .int (zJ x6)), (10, .int (zJ (μ8 208 (Int.toNat (((83 * v8) + 2) + x9)))))]) (by decide +kernel) (Nat.le_of_ble_eq_true rfl) rfl ?_
      refine zw_iconst (pc := 85) (n := 0) (by decide +kernel) ?_
      refine zw_istore (pc := 86) (i := 11) (lv' := [(0, .ref 203), (1, .int (zJ v1)), (2, .int (zJ v2)), (3, .int (zJ v3)), (4, .long (zL v4)), (6, .long (zL v6)), (8, .int (zJ v8)), (9, .int (zJ x6)), (10, .int (zJ (μ8 208 (Int.toNat (((83 * v8) + 2) + x9))))), (11, .int (zJ 0))]) (by decide +kernel) (Nat.le_of_ble_eq_true rfl) rfl ?_
      exact h
theorem sg_X11_joined_88 {g : zG} {φ : Int → zMu → Prop} {v1 : Int} {v2 : Int} {v3 : Int} {v4 : Int} {v6 : Int} {v8 : Int} {v9 : Int} {v10 : Int} {v11 : Int} {μ : zMu}
    (h : (zR v11) ∧ (zR v9) ∧ ((v9 ≤ v11 → at_X11_joined_44 g φ v1 v2 v3 v4 (v6 * v9) (v8 + 1) μ) ∧ (v11 < v9 → (zR64 v4) ∧ (zR64 v9) ∧ (v9 ≠ 0) ∧ (zR v10) ∧ (zR64 (v4.tmod v9)) ∧ (zR64 v10) ∧ (zR (zcmp (v4.tmod v9) v10)) ∧ (((zcmp (v4.tmod v9) v10) = 0 → at_X11_joined_44 g φ v1 v2 v3 v4 (v6 * v9) (v8 + 1) μ) ∧ (¬ (zcmp (v4.tmod v9) v10) = 0 → at_X11_joined_88 g φ v1 v2 v3 (v4 + v6) v6 v8 v9 v10 (v11 + 1) μ))))) : at_X11_joined_88 g φ v1 v2 v3 v4 v6 v8 v9 v10 v11 μ := by
  obtain ⟨o1, o2, h⟩ := h
  refine zw_iload (pc := 88) (i := 11) 9 (by decide +kernel) rfl ?_
  refine zw_iload (pc := 90) (i := 9) 7 (by decide +kernel) rfl ?_
  refine zw_icmp_ge (pc := 92) (off := 29) (tgt := 121) (by decide +kernel) (by decide) o1 o2 (fun hc => ?_) (fun hc => ?_)
  · replace h := h.1 hc
    refine zw_lload (pc := 121) (i := 6) 5 (by decide +kernel) rfl ?_
    refine zw_iload (pc := 123) (i := 9) 7 (by decide +kernel) rfl ?_
    refine zw_i2l (pc := 125) (by decide +kernel) o2 ?_
    refine zw_lmul (pc := 126) (by decide +kernel) ?_
    refine zw_lstore (pc := 127) (i := 6) (lv' := [(0, .ref 203), (1, .int (zJ v1)), (2, .int (zJ v2)), (3, .int (zJ v3)), (4, .long (zL v4)), (6, .long (zL (v6 * v9))), (8, .int (zJ v8)), (9, .int (zJ v9)), (10, .int (zJ v10)), (11, .int (zJ v11))]) (by decide +kernel) (Nat.le_of_ble_eq_true rfl) rfl ?_
    refine zw_iinc (pc := 129) (i := 8) (n := 1) (lv' := [(0, .ref 203), (1, .int (zJ v1)), (2, .int (zJ v2)), (3, .int (zJ v3)), (4, .long (zL v4)), (6, .long (zL (v6 * v9))), (8, .int (zJ (v8 + 1))), (9, .int (zJ v9)), (10, .int (zJ v10)), (11, .int (zJ v11))]) 6 (by decide +kernel) rfl rfl (Nat.le_of_ble_eq_true rfl) rfl ?_
    refine zw_goto (pc := 132) (off := (-88)) (tgt := 44) (by decide +kernel) (by decide) ?_
    exact zw_pick (lv' := [(0, .ref 203), (1, .int (zJ v1)), (2, .int (zJ v2)), (3, .int (zJ v3)), (4, .long (zL v4)), (6, .long (zL (v6 * v9))), (8, .int (zJ (v8 + 1)))]) [0, 1, 2, 3, 4, 5, 6] rfl h
  · replace h := h.2 hc
    obtain ⟨o3, o4, o5, o6, o7, o8, o9, h⟩ := h
    refine zw_lload (pc := 95) (i := 4) 4 (by decide +kernel) rfl ?_
    refine zw_iload (pc := 97) (i := 9) 7 (by decide +kernel) rfl ?_
    refine zw_i2l (pc := 99) (by decide +kernel) o2 ?_
    refine zw_lrem (pc := 100) (by decide +kernel) o3 o4 o5 ?_
    refine zw_iload (pc := 101) (i := 10) 8 (by decide +kernel) rfl ?_
    refine zw_i2l (pc := 103) (by decide +kernel) o6 ?_
    refine zw_lcmp (pc := 104) (by decide +kernel) o7 o8 ?_
    refine zw_if_eq (pc := 105) (off := 16) (tgt := 121) (by decide +kernel) (by decide) o9 (fun hc => ?_) (fun hc => ?_)
    · replace h := h.1 hc
      refine zw_lload (pc := 121) (i := 6) 5 (by decide +kernel) rfl ?_
      refine zw_iload (pc := 123) (i := 9) 7 (by decide +kernel) rfl ?_
      refine zw_i2l (pc := 125) (by decide +kernel) o2 ?_
      refine zw_lmul (pc := 126) (by decide +kernel) ?_
      refine zw_lstore (pc := 127) (i := 6) (lv' := [(0, .ref 203), (1, .int (zJ v1)), (2, .int (zJ v2)), (3, .int (zJ v3)), (4, .long (zL v4)), (6, .long (zL (v6 * v9))), (8, .int (zJ v8)), (9, .int (zJ v9)), (10, .int (zJ v10)), (11, .int (zJ v11))]) (by decide +kernel) (Nat.le_of_ble_eq_true rfl) rfl ?_
      refine zw_iinc (pc := 129) (i := 8) (n := 1) (lv' := [(0, .ref 203), (1, .int (zJ v1)), (2, .int (zJ v2)), (3, .int (zJ v3)), (4, .long (zL v4)), (6, .long (zL (v6 * v9))), (8, .int (zJ (v8 + 1))), (9, .int (zJ v9)), (10, .int (zJ v10)), (11, .int (zJ v11))]) 6 (by decide +kernel) rfl rfl (Nat.le_of_ble_eq_true rfl) rfl ?_
      refine zw_goto (pc := 132) (off := (-88)) (tgt := 44) (by decide +kernel) (by decide) ?_
      exact zw_pick (lv' := [(0, .ref 203), (1, .int (zJ v1)), (2, .int (zJ v2)), (3, .int (zJ v3)), (4, .long (zL v4)), (6, .long (zL (v6 * v9))), (8, .int (zJ (v8 + 1)))]) [0, 1, 2, 3, 4, 5, 6] rfl h
    · replace h := h.2 hc
      refine zw_lload (pc := 108) (i := 4) 4 (by decide +kernel) rfl ?_
      refine zw_lload (pc := 110) (i := 6) 5 (by decide +kernel) rfl ?_
      refine zw_ladd (pc := 112) (by decide +kernel) ?_
      refine zw_lstore (pc := 113) (i := 4) (lv' := [(0, .ref 203), (1, .int (zJ v1)), (2, .int (zJ v2)), (3, .int (zJ v3)), (4, .long (zL (v4 + v6))), (6, .long (zL v6)), (8, .int (zJ v8)), (9, .int (zJ v9)), (10, .int (zJ v10)), (11, .int (zJ v11))]) (by decide +kernel) (Nat.le_of_ble_eq_true rfl) rfl ?_
      refine zw_iinc (pc := 115) (i := 11) (n := 1) (lv' := [(0, .ref 203), (1, .int (zJ v1)), (2, .int (zJ v2)), (3, .int (zJ v3)), (4, .long (zL (v4 + v6))), (6, .long (zL v6)), (8, .int (zJ v8)), (9, .int (zJ v9)), (10, .int (zJ v10)), (11, .int (zJ (v11 + 1)))]) 9 (by decide +kernel) rfl rfl (Nat.le_of_ble_eq_true rfl) rfl ?_
      refine zw_goto (pc := 118) (off := (-30)) (tgt := 88) (by decide +kernel) (by decide) ?_
      exact h
abbrev at_X11_joinedDegree_6 (g : zG) (φ : Int → zMu → Prop) (v1 : Int) (v2 : Int) (v3 : Int) (μ : zMu) : Prop := zWP g zm_X11_joinedDegree (zmo g zm_X11_joinedDegree (zΦi φ)) 6 [(0, .ref 203), (1, .int (zJ v1)), (2, .int (zJ v2)), (3, .int (zJ v3))] [] 0 0 (zw μ)
theorem sg_X11_joinedDegree {g : zG} {φ : Int → zMu → Prop} {μ : zMu}
    (h : at_X11_joinedDegree_6 g φ (-1) 1 0 μ) : zOi g zm_X11_joinedDegree [.ref 203] μ φ := by
  refine zok_of (by decide +kernel) rfl ?_
  show zWP g zm_X11_joinedDegree (zmo g zm_X11_joinedDegree (zΦi φ)) 0 [(0, .ref 203)] [] 0 0 (zw μ)
  refine zw_iconst (pc := 0) (n := (-1)) (by decide +kernel) ?_
  refine zw_istore_n (pc := 1) (n := 1) (i := 1) (lv' := [(0, .ref 203), (1, .int (zJ (-1)))]) (by decide +kernel) rfl (Nat.le_of_ble_eq_true rfl) rfl ?_
  refine zw_iconst (pc := 2) (n := 1) (by decide +kernel) ?_
  refine zw_istore_n (pc := 3) (n := 2) (i := 2) (lv' := [(0, .ref 203), (1, .int (zJ (-1))), (2, .int (zJ 1))]) (by decide +kernel) rfl (Nat.le_of_ble_eq_true rfl) rfl ?_
  refine zw_iconst (pc := 4) (n := 0) (by decide +kernel) ?_
  refine zw_istore_n (pc := 5) (n := 3) (i := 3) (lv' := [(0, .ref 203), (1, .int (zJ (-1))), (2, .int (zJ 1)), (3, .int (zJ 0))]) (by decide +kernel) rfl (Nat.le_of_ble_eq_true rfl) rfl ?_
  exact h
theorem sg_X11_joinedDegree_6 {g : zG} {φ : Int → zMu → Prop} {v1 : Int} {v2 : Int} {v3 : Int} {μ : zMu}
    (h : (zR v3) ∧ ((8 ≤ v3 → (zR v2) ∧ ((v2 = 0 → φ (-1) μ) ∧ (¬ v2 = 0 → φ v1 μ))) ∧ (v3 < 8 → zOi g zm_X11_keptPrime [.ref 203, .int (zJ v3)] μ (fun x4 μ3 => (zR x4) ∧ ((x4 ≤ 0 → at_X11_joinedDegree_6 g φ v1 v2 (v3 + 1) μ3) ∧ (0 < x4 → (zR v1) ∧ ((v1 = (-1) → (0 ≤ ((83 * v3) + 1) ∧ ((83 * v3) + 1) < 664) ∧ at_X11_joinedDegree_6 g φ (μ3 208 (Int.toNat ((83 * v3) + 1))) (zand v2 1) (v3 + 1) μ3) ∧ (¬ v1 = (-1) → (0 ≤ ((83 * v3) + 1) ∧ ((83 * v3) + 1) < 664) ∧ (zR (μ3 208 (Int.toNat ((83 * v3) + 1)))) ∧ ((¬ v1 = (μ3 208 (Int.toNat ((83 * v3) + 1))) → at_X11_joinedDegree_6 g φ (μ3 208 (Int.toNat ((83 * v3) + 1))) (zand v2 0) (v3 + 1) μ3) ∧ (v1 = (μ3 208 (Int.toNat ((83 * v3) + 1))) → at_X11_joinedDegree_6 g φ (μ3 208 (Int.toNat ((83 * v3) + 1))) (zand v2 1) (v3 + 1) μ3)))))))))) : at_X11_joinedDegree_6 g φ v1 v2 v3 μ := by
  obtain ⟨o1, h⟩ := h
  refine zw_iload_n (pc := 6) (n := 3) (i := 3) 3 (by decide +kernel) rfl rfl ?_
  refine zw_bipush (pc := 7) (n := 8) (by decide +kernel) (by decide +kernel) ?_
  refine zw_icmp_ge (pc := 9) (off := 57) (tgt := 66) (by decide +kernel) (by decide) o1 ⟨by decide, by decide⟩ (fun hc => ?_) (fun hc => ?_)
  · replace h := h.1 hc
    obtain ⟨o2, h⟩ := h
    refine zw_iload_n (pc := 66) (n := 2) (i := 2) 2 (by decide +kernel) rfl rfl ?_
    refine zw_if_eq (pc := 67) (off := 7) (tgt := 74) (by decide +kernel) (by decide) o2 (fun hc => ?_) (fun hc => ?_)
    · replace h := h.1 hc
      refine zw_iconst (pc := 74) (n := (-1)) (by decide +kernel) ?_
      exact zw_iret (pc := 75) (by decide +kernel) rfl (Nat.le_refl _) (Nat.le_refl _) ⟨_, _, rfl, rfl, h⟩
    · replace h := h.2 hc
      refine zw_iload_n (pc := 70) (n := 1) (i := 1) 1 (by decide +kernel) rfl rfl ?_
      refine zw_goto (pc := 71) (off := 4) (tgt := 75) (by decide +kernel) (by decide) ?_
      exact zw_iret (pc := 75) (by decide +kernel) rfl (Nat.le_refl _) (Nat.le_refl _) ⟨_, _, rfl, rfl, h⟩
  · replace h := h.2 hc
    refine zw_aload_n (pc := 12) (n := 0) (i := 0) 0 (by decide +kernel) rfl rfl ?_
    refine zw_iload_n (pc := 13) (n := 3) (i := 3) 3 (by decide +kernel) rfl rfl ?_
    refine zx_callV (pc := 14) (As := [.int (zJ v3)]) h zi_X11_keptPrime zii_X11_keptPrime zie_X11_keptPrime zl_11_266 (by decide +kernel) ⟨Nat.le_of_ble_eq_true rfl, Nat.le_of_ble_eq_true rfl⟩ rfl zc_203 (by decide) rfl rfl ⟨rfl, rfl⟩ ⟨Nat.zero_le _, Nat.zero_le _⟩ (zki (fun x4 μ3 h => ?_))
    obtain ⟨o5, h⟩ := h
    refine zw_if_le (pc := 17) (off := 43) (tgt := 60) (by decide +kernel) (by decide) o5 (fun hc => ?_) (fun hc => ?_)
    · replace h := h.1 hc
      refine zw_iinc (pc := 60) (i := 3) (n := 1) (lv' := [(0, .ref 203), (1, .int (zJ v1)), (2, .int (zJ v2)), (3, .int (zJ (v3 + 1)))]) 3 (by decide +kernel) rfl rfl (Nat.le_of_ble_eq_true rfl) rfl ?_
      refine zw_goto (pc := 63) (off := (-57)) (tgt := 6) (by decide +kernel) (by decide) ?_
      exact h
    · replace h := h.2 hc
      obtain ⟨o6, h⟩ := h
      refine zw_iload_n (pc := 20) (n := 2) (i := 2) 2 (by decide +kernel) rfl rfl ?_
      refine zw_iload_n (pc := 21) (n := 1) (i := 1) 1 (by decide +kernel) rfl rfl ?_
      refine zw_iconst (pc := 22) (n := (-1)) (by decide +kernel) ?_
      refine zw_icmp_eq (pc := 23) (off := 18) (tgt := 41) (by decide +kernel) (by decide) o6 ⟨by decide, by decide⟩ (fun hc => ?_) (fun hc => ?_)
      · replace h := h.1 hc
        obtain ⟨o7, h⟩ := h
        refine zw_iconst (pc := 41) (n := 1) (by decide +kernel) ?_
        refine zw_goto (pc := 42) (off := 4) (tgt := 46) (by decide +kernel) (by decide) ?_
        refine zw_iand (pc := 46) (by decide +kernel) ?_
        refine zw_istore_n (pc := 47) (n := 2) (i := 2) (lv' := [(0, .ref 203), (1, .int (zJ v1)), (2, .int (zJ (zand v2 1))), (3, .int (zJ v3))]) (by decide +kernel) rfl (Nat.le_of_ble_eq_true rfl) rfl ?_
        refine zw_aload_n (pc := 48) (n := 0) (i := 0) 0 (by decide +kernel) rfl rfl ?_
        refine zx_getR (pc := 49) (o := 5) (r := 208) zf_11_28 (by decide +kernel) rfl zc_203 rfl (by decide) rfl ?_
        refine zw_bipush (pc := 52) (n := 83) (by decide +kernel) (by decide +kernel) ?_
        refine zw_iload_n (pc := 54) (n := 3) (i := 3) 3 (by decide +kernel) rfl rfl ?_
        refine zw_imul (pc := 55) (by decide +kernel) ?_
        refine zw_iconst (pc := 56) (n := 1) (by decide +kernel) ?_
        refine zw_iadd (pc := 57) (by decide +kernel) ?_
        refine zx_iaload (pc := 58) (by decide +kernel) ⟨664, zc_208, o7.1, o7.2⟩ ?_
        refine zw_istore_n (pc := 59) (n := 1) (i := 1) (lv' := [(0, .ref 203), (1, .int (zJ (μ3 208 (Int.toNat ((83 * v3) + 1))))), (2, .int (zJ (zand v2 1))), (3, .int (zJ v3))]) (by decide +kernel) rfl (Nat.le_of_ble_eq_true rfl) rfl ?_
        refine zw_iinc (pc := 60) (i := 3) (n := 1) (lv' := [(0, .ref 203), (1, .int (zJ (μ3 208 (Int.toNat ((83 * v3) + 1))))), (2, .int (zJ (zand v2 1))), (3, .int (zJ (v3 + 1)))]) 3 (by decide +kernel) rfl rfl (Nat.le_of_ble_eq_true rfl) rfl ?_
        refine zw_goto (pc := 63) (off := (-57)) (tgt := 6) (by decide +kernel) (by decide) ?_
        exact h
      · replace h := h.2 hc
        obtain ⟨o8, o9, h⟩ := h
        refine zw_iload_n (pc := 26) (n := 1) (i := 1) 1 (by decide +kernel) rfl rfl ?_
        refine zw_aload_n (pc := 27) (n := 0) (i := 0) 0 (by decide +kernel) rfl rfl ?_
        refine zx_getR (pc := 28) (o := 5) (r := 208) zf_11_28 (by decide +kernel) rfl zc_203 rfl (by decide) rfl ?_
        refine zw_bipush (pc := 31) (n := 83) (by decide +kernel) (by decide +kernel) ?_
        refine zw_iload_n (pc := 33) (n := 3) (i := 3) 3 (by decide +kernel) rfl rfl ?_
        refine zw_imul (pc := 34) (by decide +kernel) ?_
        refine zw_iconst (pc := 35) (n := 1) (by decide +kernel) ?_
        refine zw_iadd (pc := 36) (by decide +kernel) ?_
        refine zx_iaload (pc := 37) (by decide +kernel) ⟨664, zc_208, o8.1, o8.2⟩ ?_
        refine zw_icmp_ne (pc := 38) (off := 7) (tgt := 45) (by decide +kernel) (by decide) o6 o9 (fun hc => ?_) (fun hc => ?_)
        · replace h := h.1 hc
          refine zw_iconst (pc := 45) (n := 0) (by decide +kernel) ?_
          refine zw_iand (pc := 46) (by decide +kernel) ?_
          refine zw_istore_n (pc := 47) (n := 2) (i := 2) (lv' := [(0, .ref 203), (1, .int (zJ v1)), (2, .int (zJ (zand v2 0))), (3, .int (zJ v3))]) (by decide +kernel) rfl (Nat.le_of_ble_eq_true rfl) rfl ?_
          refine zw_aload_n (pc := 48) (n := 0) (i := 0) 0 (by decide +kernel) rfl rfl ?_
          refine zx_getR (pc := 49) (o := 5) (r := 208) zf_11_28 (by decide +kernel) rfl zc_203 rfl (by decide) rfl ?_
          refine zw_bipush (pc := 52) (n := 83) (by decide +kernel) (by decide +kernel) ?_
          refine zw_iload_n (pc := 54) (n := 3) (i := 3) 3 (by decide +kernel) rfl rfl ?_
          refine zw_imul (pc := 55) (by decide +kernel) ?_
          refine zw_iconst (pc := 56) (n := 1) (by decide +kernel) ?_
          refine zw_iadd (pc := 57) (by decide +kernel) ?_
          refine zx_iaload (pc := 58) (by decide +kernel) ⟨664, zc_208, o8.1, o8.2⟩ ?_
          refine zw_istore_n (pc := 59) (n := 1) (i := 1) (lv' := [(0, .ref 203), (1, .int (zJ (μ3 208 (Int.toNat ((83 * v3) + 1))))), (2, .int (zJ (zand v2 0))), (3, .int (zJ v3))]) (by decide +kernel) rfl (Nat.le_of_ble_eq_true rfl) rfl ?_
          refine zw_iinc (pc := 60) (i := 3) (n := 1) (lv' := [(0, .ref 203), (1, .int (zJ (μ3 208 (Int.toNat ((83 * v3) + 1))))), (2, .int (zJ (zand v2 0))), (3, .int (zJ (v3 + 1)))]) 3 (by decide +kernel) rfl rfl (Nat.le_of_ble_eq_true rfl) rfl ?_
          refine zw_goto (pc := 63) (off := (-57)) (tgt := 6) (by decide +kernel) (by decide) ?_
          exact h
        · replace h := h.2 hc
          refine zw_iconst (pc := 41) (n := 1) (by decide +kernel) ?_
          refine zw_goto (pc := 42) (off := 4) (tgt := 46) (by decide +kernel) (by decide) ?_
          refine zw_iand (pc := 46) (by decide +kernel) ?_
          refine zw_istore_n (pc := 47) (n := 2) (i := 2) (lv' := [(0, .ref 203), (1, .int (zJ v1)), (2, .int (zJ (zand v2 1))), (3, .int (zJ v3))]) (by decide +kernel) rfl (Nat.le_of_ble_eq_true rfl) rfl ?_
          refine zw_aload_n (pc := 48) (n := 0) (i := 0) 0 (by decide +kernel) rfl rfl ?_
          refine zx_getR (pc := 49) (o := 5) (r := 208) zf_11_28 (by decide +kernel) rfl zc_203 rfl (by decide) rfl ?_
          refine zw_bipush (pc := 52) (n := 83) (by decide +kernel) (by decide +kernel) ?_
          refine zw_iload_n (pc := 54) (n := 3) (i := 3) 3 (by decide +kernel) rfl rfl ?_
          refine zw_imul (pc := 55) (by decide +kernel) ?_
          refine zw_iconst (pc := 56) (n := 1) (by decide +kernel) ?_
          refine zw_iadd (pc := 57) (by decide +kernel) ?_
          refine zx_iaload (pc := 58) (by decide +kernel) ⟨664, zc_208, o8.1, o8.2⟩ ?_
          refine zw_istore_n (pc := 59) (n := 1) (i := 1) (lv' := [(0, .ref 203), (1, .int (zJ (μ3 208 (Int.toNat ((83 * v3) + 1))))), (2, .int (zJ (zand v2 1))), (3, .int (zJ v3))]) (by decide +kernel) rfl (Nat.le_of_ble_eq_true rfl) rfl ?_
          refine zw_iinc (pc := 60) (i := 3) (n := 1) (lv' := [(0, .ref 203), (1, .int (zJ (μ3 208 (Int.toNat ((83 * v3) + 1))))), (2, .int (zJ (zand v2 1))), (3, .int (zJ (v3 + 1)))]) 3 (by decide +kernel) rfl rfl (Nat.le_of_ble_eq_true rfl) rfl ?_
          refine zw_goto (pc := 63) (off := (-57)) (tgt := 6) (by decide +kernel) (by decide) ?_
          exact h
theorem sg_X11_feed {g : zG} {φ : Int → zMu → Prop} {v1 : Int} {μ : zMu}
    (h : (zR v1) ∧ zOi g zm_X11_in [.long (zL v1), .long (zL 1), .long (zL 127)] μ (fun x3 μ2 => (zR x3) ∧ ((¬ x3 = 0 → (zR (μ2 203 31)) ∧ ((¬ (μ2 203 31) = 100 → (0 ≤ (μ2 203 31) ∧ (μ2 203 31) < 100) ∧ φ ((zup (zup μ2 223 (Int.toNat (μ2 203 31)) v1) 203 31 (((zup μ2 223 (Int.toNat (μ2 203 31)) v1) 203 31) + 1)) 203 31) (zup (zup μ2 223 (Int.toNat (μ2 203 31)) v1) 203 31 (((zup μ2 223 (Int.toNat (μ2 203 31)) v1) 203 31) + 1))) ∧ ((μ2 203 31) = 100 → φ (-3) μ2))) ∧ (x3 = 0 → φ (-2) μ2)))) : zOi g zm_X11_feed [.ref 203, .int (zJ v1)] μ φ := by
  refine zok_of (by decide +kernel) rfl ?_
  show zWP g zm_X11_feed (zmo g zm_X11_feed (zΦi φ)) 0 [(0, .ref 203), (1, .int (zJ v1))] [] 0 0 (zw μ)
  obtain ⟨o1, h⟩ := h
  refine zw_iload_n (pc := 0) (n := 1) (i := 1) 1 (by decide +kernel) rfl rfl ?_
  refine zw_i2l (pc := 1) (by decide +kernel) o1 ?_
  refine zw_lconst (pc := 2) (n := 1) (v := 1) (by decide +kernel) rfl ?_
  refine zw_ldc2 (pc := 3) (v := 127) (by decide +kernel) zk_11_280 ?_
  refine zx_callS (pc := 6) (As := [.long (zL v1), .long (zL 1), .long (zL 127)]) h zi_X11_in zis_X11_in zl_11_114 (by decide +kernel) ⟨Nat.le_of_ble_eq_true rfl, Nat.le_of_ble_eq_true rfl⟩ rfl rfl ⟨rfl, rfl⟩ ⟨Nat.zero_le _, Nat.zero_le _⟩ (zki (fun x3 μ2 h => ?_))
  obtain ⟨o4, h⟩ := h
  refine zw_if_ne (pc := 9) (off := 6) (tgt := 15) (by decide +kernel) (by decide) o4 (fun hc => ?_) (fun hc => ?_)
  · replace h := h.1 hc
    obtain ⟨o5, h⟩ := h
    refine zw_aload_n (pc := 15) (n := 0) (i := 0) 0 (by decide +kernel) rfl rfl ?_
    refine zx_getI (pc := 16) zf_11_282 (by decide +kernel) rfl zc_203 ?_
    refine zw_bipush (pc := 19) (n := 100) (by decide +kernel) (by decide +kernel) ?_
    refine zw_icmp_ne (pc := 21) (off := 6) (tgt := 27) (by decide +kernel) (by decide) o5 ⟨by decide, by decide⟩ (fun hc => ?_) (fun hc => ?_)
    · replace h := h.1 hc
      obtain ⟨o6, h⟩ := h
      refine zw_aload_n (pc := 27) (n := 0) (i := 0) 0 (by decide +kernel) rfl rfl ?_
      refine zx_getR (pc := 28) (o := 20) (r := 223) zf_11_73 (by decide +kernel) rfl zc_203 rfl (by decide) rfl ?_
      refine zw_aload_n (pc := 31) (n := 0) (i := 0) 0 (by decide +kernel) rfl rfl ?_
      refine zx_getI (pc := 32) zf_11_282 (by decide +kernel) rfl zc_203 ?_
      refine zw_iload_n (pc := 35) (n := 1) (i := 1) 1 (by decide +kernel) rfl rfl ?_
      refine zx_iastore (pc := 36) (by decide +kernel) ⟨100, zc_223, o6.1, o6.2⟩ ?_
      refine zw_aload_n (pc := 37) (n := 0) (i := 0) 0 (by decide +kernel) rfl rfl ?_
      refine zw_dup (pc := 38) (by decide +kernel) rfl ?_
      refine zx_getI (pc := 39) zf_11_282 (by decide +kernel) rfl zc_203 ?_
      refine zw_iconst (pc := 42) (n := 1) (by decide +kernel) ?_
      refine zw_iadd (pc := 43) (by decide +kernel) ?_
      refine zx_putI (pc := 44) zf_11_282 (by decide +kernel) rfl zc_203 ?_
      refine zw_aload_n (pc := 47) (n := 0) (i := 0) 0 (by decide +kernel) rfl rfl ?_
      refine zx_getI (pc := 48) zf_11_282 (by decide +kernel) rfl zc_203 ?_
      exact zw_iret (pc := 51) (by decide +kernel) rfl (Nat.le_refl _) (Nat.le_refl _) ⟨_, _, rfl, rfl, h⟩
    · replace h := h.2 hc
      refine zw_bipush (pc := 24) (n := (-3)) (by decide +kernel) (by decide +kernel) ?_
      exact zw_iret (pc := 26) (by decide +kernel) rfl (Nat.le_refl _) (Nat.le_refl _) ⟨_, _, rfl, rfl, h⟩
  · replace h := h.2 hc
    refine zw_bipush (pc := 12) (n := (-2)) (by decide +kernel) (by decide +kernel) ?_
    exact zw_iret (pc := 14) (by decide +kernel) rfl (Nat.le_refl _) (Nat.le_refl _) ⟨_, _, rfl, rfl, h⟩
abbrev at_X11_deeds_13 (g : zG) (φ : Int → zMu → Prop) (v1 : Int) (v2 : Int) (μ : zMu) : Prop := zWP g zm_X11_deeds (zmo g zm_X11_deeds (zΦi φ)) 13 [(0, .ref 203), (1, .int (zJ v1)), (2, .int (zJ v2))] [] 0 0 (zw μ)
abbrev at_X11_deeds_91 (g : zG) (φ : Int → zMu → Prop) (v1 : Int) (v3 : Int) (v4 : Int) (μ : zMu) : Prop := zWP g zm_X11_deeds (zmo g zm_X11_deeds (zΦi φ)) 91 [(0, .ref 203), (1, .int (zJ v1)), (3, .int (zJ v3)), (4, .int (zJ v4))] [] 0 0 (zw μ)
theorem sg_X11_deeds {g : zG} {φ : Int → zMu → Prop} {μ : zMu}
    (h : zOi g zm_X11_readsDeed [.ref 203, .int (zJ 0)] (zup μ 203 32 0) (fun x2 μ1 => at_X11_deeds_13 g φ 0 x2 μ1)) : zOi g zm_X11_deeds [.ref 203] μ φ := by
  refine zok_of (by decide +kernel) rfl ?_
  show zWP g zm_X11_deeds (zmo g zm_X11_deeds (zΦi φ)) 0 [(0, .ref 203)] [] 0 0 (zw μ)
  refine zw_aload_n (pc := 0) (n := 0) (i := 0) 0 (by decide +kernel) rfl rfl ?_
  refine zw_iconst (pc := 1) (n := 0) (by decide +kernel) ?_
  refine zx_putI (pc := 2) zf_11_285 (by decide +kernel) rfl zc_203 ?_
  refine zw_iconst (pc := 5) (n := 0) (by decide +kernel) ?_
  refine zw_istore_n (pc := 6) (n := 1) (i := 1) (lv' := [(0, .ref 203), (1, .int (zJ 0))]) (by decide +kernel) rfl (Nat.le_of_ble_eq_true rfl) rfl ?_
  refine zw_aload_n (pc := 7) (n := 0) (i := 0) 0 (by decide +kernel) rfl rfl ?_
  refine zw_iconst (pc := 8) (n := 0) (by decide +kernel) ?_
  refine zx_callV (pc := 9) (As := [.int (zJ 0)]) h zi_X11_readsDeed zii_X11_readsDeed zie_X11_readsDeed zl_11_336 (by decide +kernel) ⟨Nat.le_of_ble_eq_true rfl, Nat.le_of_ble_eq_true rfl⟩ rfl zc_203 (by decide) rfl rfl ⟨rfl, rfl⟩ ⟨Nat.zero_le _, Nat.zero_le _⟩ (zki (fun x2 μ1 h => ?_))
  refine zw_istore_n (pc := 12) (n := 2) (i := 2) (lv' := [(0, .ref 203), (1, .int (zJ 0)), (2, .int (zJ x2))]) (by decide +kernel) rfl (Nat.le_of_ble_eq_true rfl) rfl ?_
  exact h
theorem sg_X11_deeds_13 {g : zG} {φ : Int → zMu → Prop} {v1 : Int} {v2 : Int} {μ : zMu}
    (h : (zR v2) ∧ ((v2 = 0 → (zR (μ 203 32)) ∧ (zR (μ 203 31)) ∧ ((¬ (μ 203 32) = (μ 203 31) → (zR (zand v2 0)) ∧ ((¬ (zand v2 0) = 0 → at_X11_deeds_91 g φ v1 0 0 (zup μ 203 31 0)) ∧ ((zand v2 0) = 0 → φ ((-100) - ((zup μ 203 31 0) 203 32)) (zup μ 203 31 0)))) ∧ ((μ 203 32) = (μ 203 31) → (zR (zand v2 1)) ∧ ((¬ (zand v2 1) = 0 → at_X11_deeds_91 g φ v1 0 0 (zup μ 203 31 0)) ∧ ((zand v2 1) = 0 → φ ((-100) - ((zup μ 203 31 0) 203 32)) (zup μ 203 31 0)))))) ∧ (¬ v2 = 0 → zOi g zm_X11_here [.ref 203] μ (fun x7 μ6 => (zR x7) ∧ ((¬ x7 = 59 → (zR (μ6 203 32)) ∧ (zR (μ6 203 31)) ∧ ((¬ (μ6 203 32) = (μ6 203 31) → (zR (zand v2 0)) ∧ ((¬ (zand v2 0) = 0 → at_X11_deeds_91 g φ v1 0 0 (zup μ6 203 31 0)) ∧ ((zand v2 0) = 0 → φ ((-100) - ((zup μ6 203 31 0) 203 32)) (zup μ6 203 31 0)))) ∧ ((μ6 203 32) = (μ6 203 31) → (zR (zand v2 1)) ∧ ((¬ (zand v2 1) = 0 → at_X11_deeds_91 g φ v1 0 0 (zup μ6 203 31 0)) ∧ ((zand v2 1) = 0 → φ ((-100) - ((zup μ6 203 31 0) 203 32)) (zup μ6 203 31 0)))))) ∧ (x7 = 59 → zOi g zm_X11_readsDeed [.ref 203, .int (zJ (5 * (v1 + 1)))] (zup μ6 203 32 ((μ6 203 32) + 1)) (fun x14 μ13 => at_X11_deeds_13 g φ (v1 + 1) x14 μ13))))))) : at_X11_deeds_13 g φ v1 v2 μ := by
  obtain ⟨o1, h⟩ := h
  refine zw_iload_n (pc := 13) (n := 2) (i := 2) 2 (by decide +kernel) rfl rfl ?_
  refine zw_if_eq (pc := 14) (off := 36) (tgt := 50) (by decide +kernel) (by decide) o1 (fun hc => ?_) (fun hc => ?_)
  · replace h := h.1 hc
    obtain ⟨o2, o3, h⟩ := h
    refine zw_iload_n (pc := 50) (n := 2) (i := 2) 2 (by decide +kernel) rfl rfl ?_
    refine zw_aload_n (pc := 51) (n := 0) (i := 0) 0 (by decide +kernel) rfl rfl ?_
    refine zx_getI (pc := 52) zf_11_285 (by decide +kernel) rfl zc_203 ?_
    refine zw_aload_n (pc := 55) (n := 0) (i := 0) 0 (by decide +kernel) rfl rfl ?_
    refine zx_getI (pc := 56) zf_11_282 (by decide +kernel) rfl zc_203 ?_
    refine zw_icmp_ne (pc := 59) (off := 7) (tgt := 66) (by decide +kernel) (by decide) o2 o3 (fun hc => ?_) (fun hc => ?_)
    · replace h := h.1 hc
      obtain ⟨o4, h⟩ := h
      refine zw_iconst (pc := 66) (n := 0) (by decide +kernel) ?_
      refine zw_iand (pc := 67) (by decide +kernel) ?_
      refine zw_istore_n (pc := 68) (n := 2) (i := 2) (lv' := [(0, .ref 203), (1, .int (zJ v1)), (2, .int (zJ (zand v2 0)))]) (by decide +kernel) rfl (Nat.le_of_ble_eq_true rfl) rfl ?_
      refine zw_aload_n (pc := 69) (n := 0) (i := 0) 0 (by decide +kernel) rfl rfl ?_
      refine zw_iconst (pc := 70) (n := 0) (by decide +kernel) ?_
      refine zx_putI (pc := 71) zf_11_282 (by decide +kernel) rfl zc_203 ?_
      refine zw_iload_n (pc := 74) (n := 2) (i := 2) 2 (by decide +kernel) rfl rfl ?_
      refine zw_if_ne (pc := 75) (off := 11) (tgt := 86) (by decide +kernel) (by decide) o4 (fun hc => ?_) (fun hc => ?_)
      · replace h := h.1 hc
        refine zw_iconst (pc := 86) (n := 0) (by decide +kernel) ?_
        refine zw_istore_n (pc := 87) (n := 3) (i := 3) (lv' := [(0, .ref 203), (1, .int (zJ v1)), (2, .int (zJ (zand v2 0))), (3, .int (zJ 0))]) (by decide +kernel) rfl (Nat.le_of_ble_eq_true rfl) rfl ?_
        refine zw_iconst (pc := 88) (n := 0) (by decide +kernel) ?_
        refine zw_istore (pc := 89) (i := 4) (lv' := [(0, .ref 203), (1, .int (zJ v1)), (2, .int (zJ (zand v2 0))), (3, .int (zJ 0)), (4, .int (zJ 0))]) (by decide +kernel) (Nat.le_of_ble_eq_true rfl) rfl ?_
        exact zw_pick (lv' := [(0, .ref 203), (1, .int (zJ v1)), (3, .int (zJ 0)), (4, .int (zJ 0))]) [0, 1, 3, 4] rfl h
      · replace h := h.2 hc
        refine zw_bipush (pc := 78) (n := (-100)) (by decide +kernel) (by decide +kernel) ?_
        refine zw_aload_n (pc := 80) (n := 0) (i := 0) 0 (by decide +kernel) rfl rfl ?_
        refine zx_getI (pc := 81) zf_11_285 (by decide +kernel) rfl zc_203 ?_
        refine zw_isub (pc := 84) (by decide +kernel) ?_
        exact zw_iret (pc := 85) (by decide +kernel) rfl (Nat.le_refl _) (Nat.le_refl _) ⟨_, _, rfl, rfl, h⟩
    · replace h := h.2 hc
      obtain ⟨o5, h⟩ := h
      refine zw_iconst (pc := 62) (n := 1) (by decide +kernel) ?_
      refine zw_goto (pc := 63) (off := 4) (tgt := 67) (by decide +kernel) (by decide) ?_
      refine zw_iand (pc := 67) (by decide +kernel) ?_
      refine zw_istore_n (pc := 68) (n := 2) (i := 2) (lv' := [(0, .ref 203), (1, .int (zJ v1)), (2, .int (zJ (zand v2 1)))]) (by decide +kernel) rfl (Nat.le_of_ble_eq_true rfl) rfl ?_
      refine zw_aload_n (pc := 69) (n := 0) (i := 0) 0 (by decide +kernel) rfl rfl ?_
      refine zw_iconst (pc := 70) (n := 0) (by decide +kernel) ?_
      refine zx_putI (pc := 71) zf_11_282 (by decide +kernel) rfl zc_203 ?_
      refine zw_iload_n (pc := 74) (n := 2) (i := 2) 2 (by decide +kernel) rfl rfl ?_
      refine zw_if_ne (pc := 75) (off := 11) (tgt := 86) (by decide +kernel) (by decide) o5 (fun hc => ?_) (fun hc => ?_)
      · replace h := h.1 hc
        refine zw_iconst (pc := 86) (n := 0) (by decide +kernel) ?_
        refine zw_istore_n (pc := 87) (n := 3) (i := 3) (lv' := [(0, .ref 203), (1, .int (zJ v1)), (2, .int (zJ (zand v2 1))), (3, .int (zJ 0))]) (by decide +kernel) rfl (Nat.le_of_ble_eq_true rfl) rfl ?_
        refine zw_iconst (pc := 88) (n := 0) (by decide +kernel) ?_
        refine zw_istore (pc := 89) (i := 4) (lv' := [(0, .ref 203), (1, .int (zJ v1)), (2, .int (zJ (zand v2 1))), (3, .int (zJ 0)), (4, .int (zJ 0))]) (by decide +kernel) (Nat.le_of_ble_eq_true rfl) rfl ?_
        exact zw_pick (lv' := [(0, .ref 203), (1, .int (zJ v1)), (3, .int (zJ 0)), (4, .int (zJ 0))]) [0, 1, 3, 4] rfl h
      · replace h := h.2 hc
        refine zw_bipush (pc := 78) (n := (-100)) (by decide +kernel) (by decide +kernel) ?_
        refine zw_aload_n (pc := 80) (n := 0) (i := 0) 0 (by decide +kernel) rfl rfl ?_
        refine zx_getI (pc := 81) zf_11_285 (by decide +kernel) rfl zc_203 ?_
        refine zw_isub (pc := 84) (by decide +kernel) ?_
        exact zw_iret (pc := 85) (by decide +kernel) rfl (Nat.le_refl _) (Nat.le_refl _) ⟨_, _, rfl, rfl, h⟩
  · replace h := h.2 hc
    refine zw_aload_n (pc := 17) (n := 0) (i := 0) 0 (by decide +kernel) rfl rfl ?_
    refine zx_callV (pc := 18) (As := []) h zi_X11_here zii_X11_here zie_X11_here zl_11_288 (by decide +kernel) ⟨Nat.le_of_ble_eq_true rfl, Nat.le_of_ble_eq_true rfl⟩ rfl zc_203 (by decide) rfl rfl ⟨rfl, rfl⟩ ⟨Nat.zero_le _, Nat.zero_le _⟩ (zki (fun x7 μ6 h => ?_))
    obtain ⟨o8, h⟩ := h
    refine zw_bipush (pc := 21) (n := 59) (by decide +kernel) (by decide +kernel) ?_
    refine zw_icmp_ne (pc := 23) (off := 27) (tgt := 50) (by decide +kernel) (by decide) o8 ⟨by decide, by decide⟩ (fun hc => ?_) (fun hc => ?_)
    · replace h := h.1 hc
      obtain ⟨o9, o10, h⟩ := h
      refine zw_iload_n (pc := 50) (n := 2) (i := 2) 2 (by decide +kernel) rfl rfl ?_
      refine zw_aload_n (pc := 51) (n := 0) (i := 0) 0 (by decide +kernel) rfl rfl ?_
      refine zx_getI (pc := 52) zf_11_285 (by decide +kernel) rfl zc_203 ?_
      refine zw_aload_n (pc := 55) (n := 0) (i := 0) 0 (by decide +kernel) rfl rfl ?_
      refine zx_getI (pc := 56) zf_11_282 (by decide +kernel) rfl zc_203 ?_
      refine zw_icmp_ne (pc := 59) (off := 7) (tgt := 66) (by decide +kernel) (by decide) o9 o10 (fun hc => ?_) (fun hc => ?_)
      · replace h := h.1 hc
        obtain ⟨o11, h⟩ := h
        refine zw_iconst (pc := 66) (n := 0) (by decide +kernel) ?_
        refine zw_iand (pc := 67) (by decide +kernel) ?_
        refine zw_istore_n (pc := 68) (n := 2) (i := 2) (lv' := [(0, .ref 203), (1, .int (zJ v1)), (2, .int (zJ (zand v2 0)))]) (by decide +kernel) rfl (Nat.le_of_ble_eq_true rfl) rfl ?_
        refine zw_aload_n (pc := 69) (n := 0) (i := 0) 0 (by decide +kernel) rfl rfl ?_
        refine zw_iconst (pc := 70) (n := 0) (by decide +kernel) ?_
        refine zx_putI (pc := 71) zf_11_282 (by decide +kernel) rfl zc_203 ?_
        refine zw_iload_n (pc := 74) (n := 2) (i := 2) 2 (by decide +kernel) rfl rfl ?_
        refine zw_if_ne (pc := 75) (off := 11) (tgt := 86) (by decide +kernel) (by decide) o11 (fun hc => ?_) (fun hc => ?_)
        · replace h := h.1 hc
          refine zw_iconst (pc := 86) (n := 0) (by decide +kernel) ?_
          refine zw_istore_n (pc := 87) (n := 3) (i := 3) (lv' := [(0, .ref 203), (1, .int (zJ v1)), (2, .int (zJ (zand v2 0))), (3, .int (zJ 0))]) (by decide +kernel) rfl (Nat.le_of_ble_eq_true rfl) rfl ?_
          refine zw_iconst (pc := 88) (n := 0) (by decide +kernel) ?_
          refine zw_istore (pc := 89) (i := 4) (lv' := [(0, .ref 203), (1, .int (zJ v1)), (2, .int (zJ (zand v2 0))), (3, .int (zJ 0)), (4, .int (zJ 0))]) (by decide +kernel) (Nat.le_of_ble_eq_true rfl) rfl ?_
          exact zw_pick (lv' := [(0, .ref 203), (1, .int (zJ v1)), (3, .int (zJ 0)), (4, .int (zJ 0))]) [0, 1, 3, 4] rfl h
        · replace h := h.2 hc
          refine zw_bipush (pc := 78) (n := (-100)) (by decide +kernel) (by decide +kernel) ?_
          refine zw_aload_n (pc := 80) (n := 0) (i := 0) 0 (by decide +kernel) rfl rfl ?_
          refine zx_getI (pc := 81) zf_11_285 (by decide +kernel) rfl zc_203 ?_
          refine zw_isub (pc := 84) (by decide +kernel) ?_
          exact zw_iret (pc := 85) (by decide +kernel) rfl (Nat.le_refl _) (Nat.le_refl _) ⟨_, _, rfl, rfl, h⟩
      · replace h := h.2 hc
        obtain ⟨o12, h⟩ := h
        refine zw_iconst (pc := 62) (n := 1) (by decide +kernel) ?_
        refine zw_goto (pc := 63) (off := 4) (tgt := 67) (by decide +kernel) (by decide) ?_
        refine zw_iand (pc := 67) (by decide +kernel) ?_
        refine zw_istore_n (pc := 68) (n := 2) (i := 2) (lv' := [(0, .ref 203), (1, .int (zJ v1)), (2, .int (zJ (zand v2 1)))]) (by decide +kernel) rfl (Nat.le_of_ble_eq_true rfl) rfl ?_
        refine zw_aload_n (pc := 69) (n := 0) (i := 0) 0 (by decide +kernel) rfl rfl ?_
        refine zw_iconst (pc := 70) (n := 0) (by decide +kernel) ?_
        refine zx_putI (pc := 71) zf_11_282 (by decide +kernel) rfl zc_203 ?_
        refine zw_iload_n (pc := 74) (n := 2) (i := 2) 2 (by decide +kernel) rfl rfl ?_
        refine zw_if_ne (pc := 75) (off := 11) (tgt := 86) (by decide +kernel) (by decide) o12 (fun hc => ?_) (fun hc => ?_)
        · replace h := h.1 hc
          refine zw_iconst (pc := 86) (n := 0) (by decide +kernel) ?_
          refine zw_istore_n (pc := 87) (n := 3) (i := 3) (lv' := [(0, .ref 203), (1, .int (zJ v1)), (2, .int (zJ (zand v2 1))), (3, .int (zJ 0))]) (by decide +kernel) rfl (Nat.le_of_ble_eq_true rfl) rfl ?_
          refine zw_iconst (pc := 88) (n := 0) (by decide +kernel) ?_
          refine zw_istore (pc := 89) (i := 4) (lv' := [(0, .ref 203), (1, .int (zJ v1)), (2, .int (zJ (zand v2 1))), (3, .int (zJ 0)), (4, .int (zJ 0))]) (by decide +kernel) (Nat.le_of_ble_eq_true rfl) rfl ?_
          exact zw_pick (lv' := [(0, .ref 203), (1, .int (zJ v1)), (3, .int (zJ 0)), (4, .int (zJ 0))]) [0, 1, 3, 4] rfl h
        · replace h := h.2 hc
          refine zw_bipush (pc := 78) (n := (-100)) (by decide +kernel) (by decide +kernel) ?_
          refine zw_aload_n (pc := 80) (n := 0) (i := 0) 0 (by decide +kernel) rfl rfl ?_
          refine zx_getI (pc := 81) zf_11_285 (by decide +kernel) rfl zc_203 ?_
          refine zw_isub (pc := 84) (by decide +kernel) ?_
          exact zw_iret (pc := 85) (by decide +kernel) rfl (Nat.le_refl _) (Nat.le_refl _) ⟨_, _, rfl, rfl, h⟩
    · replace h := h.2 hc
      refine zw_aload_n (pc := 26) (n := 0) (i := 0) 0 (by decide +kernel) rfl rfl ?_
      refine zw_dup (pc := 27) (by decide +kernel) rfl ?_
      refine zx_getI (pc := 28) zf_11_285 (by decide +kernel) rfl zc_203 ?_
      refine zw_iconst (pc := 31) (n := 1) (by decide +kernel) ?_
      refine zw_iadd (pc := 32) (by decide +kernel) ?_
      refine zx_putI (pc := 33) zf_11_285 (by decide +kernel) rfl zc_203 ?_
      refine zw_iinc (pc := 36) (i := 1) (n := 1) (lv' := [(0, .ref 203), (1, .int (zJ (v1 + 1))), (2, .int (zJ v2))]) 1 (by decide +kernel) rfl rfl (Nat.le_of_ble_eq_true rfl) rfl ?_
      refine zw_aload_n (pc := 39) (n := 0) (i := 0) 0 (by decide +kernel) rfl rfl ?_
      refine zw_iconst (pc := 40) (n := 5) (by decide +kernel) ?_
      refine zw_iload_n (pc := 41) (n := 1) (i := 1) 1 (by decide +kernel) rfl rfl ?_
      refine zw_imul (pc := 42) (by decide +kernel) ?_
      refine zx_callV (pc := 43) (As := [.int (zJ (5 * (v1 + 1)))]) h zi_X11_readsDeed zii_X11_readsDeed zie_X11_readsDeed zl_11_336 (by decide +kernel) ⟨Nat.le_of_ble_eq_true rfl, Nat.le_of_ble_eq_true rfl⟩ rfl zc_203 (by decide) rfl rfl ⟨rfl, rfl⟩ ⟨Nat.zero_le _, Nat.zero_le _⟩ (zki (fun x14 μ13 h => ?_))
      refine zw_istore_n (pc := 46) (n := 2) (i := 2) (lv' := [(0, .ref 203), (1, .int (zJ (v1 + 1))), (2, .int (zJ x14))]) (by decide +kernel) rfl (Nat.le_of_ble_eq_true rfl) rfl ?_
      refine zw_goto (pc := 47) (off := (-34)) (tgt := 13) (by decide +kernel) (by decide) ?_
      exact h
theorem sg_X11_deeds_91 {g : zG} {φ : Int → zMu → Prop} {v1 : Int} {v3 : Int} {v4 : Int} {μ : zMu}
    (h : (zR v4) ∧ (zR v1) ∧ ((v1 < v4 → φ v3 μ) ∧ (v4 ≤ v1 → zOi g zm_X11_does [.ref 203, .int (zJ (5 * v4))] μ (fun x4 μ3 => (zR x4) ∧ ((x4 < 0 → at_X11_deeds_91 g φ v1 (v3 + 0) (v4 + 1) μ3) ∧ (0 ≤ x4 → at_X11_deeds_91 g φ v1 (v3 + 1) (v4 + 1) μ3)))))) : at_X11_deeds_91 g φ v1 v3 v4 μ := by
  obtain ⟨o1, o2, h⟩ := h
  refine zw_iload (pc := 91) (i := 4) 3 (by decide +kernel) rfl ?_
  refine zw_iload_n (pc := 93) (n := 1) (i := 1) 1 (by decide +kernel) rfl rfl ?_
  refine zw_icmp_gt (pc := 94) (off := 28) (tgt := 122) (by decide +kernel) (by decide) o1 o2 (fun hc => ?_) (fun hc => ?_)
  · replace h := h.1 hc
    refine zw_iload_n (pc := 122) (n := 3) (i := 3) 2 (by decide +kernel) rfl rfl ?_
    exact zw_iret (pc := 123) (by decide +kernel) rfl (Nat.le_refl _) (Nat.le_refl _) ⟨_, _, rfl, rfl, h⟩
  · replace h := h.2 hc
    refine zw_iload_n (pc := 97) (n := 3) (i := 3) 2 (by decide +kernel) rfl rfl ?_
    refine zw_aload_n (pc := 98) (n := 0) (i := 0) 0 (by decide +kernel) rfl rfl ?_
    refine zw_iconst (pc := 99) (n := 5) (by decide +kernel) ?_
    refine zw_iload (pc := 100) (i := 4) 3 (by decide +kernel) rfl ?_
    refine zw_imul (pc := 102) (by decide +kernel) ?_
    refine zx_callV (pc := 103) (As := [.int (zJ (5 * v4))]) h zi_X11_does zii_X11_does zie_X11_does zl_11_339 (by decide +kernel) ⟨Nat.le_of_ble_eq_true rfl, Nat.le_of_ble_eq_true rfl⟩ rfl zc_203 (by decide) rfl rfl ⟨rfl, rfl⟩ ⟨Nat.zero_le _, Nat.zero_le _⟩ (zki (fun x4 μ3 h => ?_))
    obtain ⟨o5, h⟩ := h
    refine zw_if_lt (pc := 106) (off := 7) (tgt := 113) (by decide +kernel) (by decide) o5 (fun hc => ?_) (fun hc => ?_)
    · replace h := h.1 hc
      refine zw_iconst (pc := 113) (n := 0) (by decide +kernel) ?_
      refine zw_iadd (pc := 114) (by decide +kernel) ?_
      refine zw_istore_n (pc := 115) (n := 3) (i := 3) (lv' := [(0, .ref 203), (1, .int (zJ v1)), (3, .int (zJ (v3 + 0))), (4, .int (zJ v4))]) (by decide +kernel) rfl (Nat.le_of_ble_eq_true rfl) rfl ?_
      refine zw_iinc (pc := 116) (i := 4) (n := 1) (lv' := [(0, .ref 203), (1, .int (zJ v1)), (3, .int (zJ (v3 + 0))), (4, .int (zJ (v4 + 1)))]) 3 (by decide +kernel) rfl rfl (Nat.le_of_ble_eq_true rfl) rfl ?_
      refine zw_goto (pc := 119) (off := (-28)) (tgt := 91) (by decide +kernel) (by decide) ?_
      exact h
    · replace h := h.2 hc
      refine zw_iconst (pc := 109) (n := 1) (by decide +kernel) ?_
      refine zw_goto (pc := 110) (off := 4) (tgt := 114) (by decide +kernel) (by decide) ?_
      refine zw_iadd (pc := 114) (by decide +kernel) ?_
      refine zw_istore_n (pc := 115) (n := 3) (i := 3) (lv' := [(0, .ref 203), (1, .int (zJ v1)), (3, .int (zJ (v3 + 1))), (4, .int (zJ v4))]) (by decide +kernel) rfl (Nat.le_of_ble_eq_true rfl) rfl ?_
      refine zw_iinc (pc := 116) (i := 4) (n := 1) (lv' := [(0, .ref 203), (1, .int (zJ v1)), (3, .int (zJ (v3 + 1))), (4, .int (zJ (v4 + 1)))]) 3 (by decide +kernel) rfl rfl (Nat.le_of_ble_eq_true rfl) rfl ?_
      refine zw_goto (pc := 119) (off := (-28)) (tgt := 91) (by decide +kernel) (by decide) ?_
      exact h
abbrev at_X11_readsDeed_5 (g : zG) (φ : Int → zMu → Prop) (v1 : Int) (v2 : Int) (μ : zMu) : Prop := zWP g zm_X11_readsDeed (zmo g zm_X11_readsDeed (zΦi φ)) 5 [(0, .ref 203), (1, .int (zJ v1)), (2, .int (zJ v2))] [] 0 0 (zw μ)
abbrev at_X11_readsDeed_52 (g : zG) (φ : Int → zMu → Prop) (v1 : Int) (v3 : Int) (v4 : Int) (μ : zMu) : Prop := zWP g zm_X11_readsDeed (zmo g zm_X11_readsDeed (zΦi φ)) 52 [(0, .ref 203), (1, .int (zJ v1)), (3, .int (zJ v3)), (4, .int (zJ v4))] [] 0 0 (zw μ)
abbrev at_X11_readsDeed_134 (g : zG) (φ : Int → zMu → Prop) (v1 : Int) (v3 : Int) (v4 : Int) (v5 : Int) (v6 : Int) (v7 : Int) (μ : zMu) : Prop := zWP g zm_X11_readsDeed (zmo g zm_X11_readsDeed (zΦi φ)) 134 [(0, .ref 203), (1, .int (zJ v1)), (3, .int (zJ v3)), (4, .int (zJ v4)), (5, .int (zJ v5)), (6, .int (zJ v6)), (7, .int (zJ v7))] [] 0 0 (zw μ)
theorem sg_X11_readsDeed {g : zG} {φ : Int → zMu → Prop} {v1 : Int} {μ : zMu}
    (h : at_X11_readsDeed_5 g φ v1 (μ 203 32) μ) : zOi g zm_X11_readsDeed [.ref 203, .int (zJ v1)] μ φ := by
  refine zok_of (by decide +kernel) rfl ?_
  show zWP g zm_X11_readsDeed (zmo g zm_X11_readsDeed (zΦi φ)) 0 [(0, .ref 203), (1, .int (zJ v1))] [] 0 0 (zw μ)
  refine zw_aload_n (pc := 0) (n := 0) (i := 0) 0 (by decide +kernel) rfl rfl ?_
  refine zx_getI (pc := 1) zf_11_285 (by decide +kernel) rfl zc_203 ?_
  refine zw_istore_n (pc := 4) (n := 2) (i := 2) (lv' := [(0, .ref 203), (1, .int (zJ v1)), (2, .int (zJ (μ 203 32)))]) (by decide +kernel) rfl (Nat.le_of_ble_eq_true rfl) rfl ?_
  exact h
theorem sg_X11_readsDeed_5 {g : zG} {φ : Int → zMu → Prop} {v1 : Int} {v2 : Int} {μ : zMu}
    (h : zOi g zm_X11_isLetter [.ref 203] μ (fun x2 μ1 => (zR x2) ∧ ((x2 = 0 → zOi g zm_X11_wordFrom [.ref 203, .int (zJ v2)] μ1 (fun x5 μ4 => (zR x5) ∧ ((0 ≤ x5 → (0 ≤ v1 ∧ v1 < 500) ∧ at_X11_readsDeed_52 g φ v1 x5 0 (zup μ4 226 v1.toNat x5)) ∧ (x5 < 0 → φ 0 (zup μ4 203 32 v2))))) ∧ (¬ x2 = 0 → at_X11_readsDeed_5 g φ v1 v2 (zup μ1 203 32 ((μ1 203 32) + 1)))))) : at_X11_readsDeed_5 g φ v1 v2 μ := by
  refine zw_aload_n (pc := 5) (n := 0) (i := 0) 0 (by decide +kernel) rfl rfl ?_
  refine zx_callV (pc := 6) (As := []) h zi_X11_isLetter zii_X11_isLetter zie_X11_isLetter zl_11_299 (by decide +kernel) ⟨Nat.le_of_ble_eq_true rfl, Nat.le_of_ble_eq_true rfl⟩ rfl zc_203 (by decide) rfl rfl ⟨rfl, rfl⟩ ⟨Nat.zero_le _, Nat.zero_le _⟩ (zki (fun x2 μ1 h => ?_))
  obtain ⟨o3, h⟩ := h
  refine zw_if_eq (pc := 9) (off := 16) (tgt := 25) (by decide +kernel) (by decide) o3 (fun hc => ?_) (fun hc => ?_)
  · replace h := h.1 hc
    refine zw_aload_n (pc := 25) (n := 0) (i := 0) 0 (by decide +kernel) rfl rfl ?_
    refine zw_iload_n (pc := 26) (n := 2) (i := 2) 2 (by decide +kernel) rfl rfl ?_
    refine zx_callV (pc := 27) (As := [.int (zJ v2)]) h zi_X11_wordFrom zii_X11_wordFrom zie_X11_wordFrom zl_11_302 (by decide +kernel) ⟨Nat.le_of_ble_eq_true rfl, Nat.le_of_ble_eq_true rfl⟩ rfl zc_203 (by decide) rfl rfl ⟨rfl, rfl⟩ ⟨Nat.zero_le _, Nat.zero_le _⟩ (zki (fun x5 μ4 h => ?_))
    obtain ⟨o6, h⟩ := h
    refine zw_istore_n (pc := 30) (n := 3) (i := 3) (lv' := [(0, .ref 203), (1, .int (zJ v1)), (2, .int (zJ v2)), (3, .int (zJ x5))]) (by decide +kernel) rfl (Nat.le_of_ble_eq_true rfl) rfl ?_
    refine zw_iload_n (pc := 31) (n := 3) (i := 3) 3 (by decide +kernel) rfl rfl ?_
    refine zw_if_ge (pc := 32) (off := 10) (tgt := 42) (by decide +kernel) (by decide) o6 (fun hc => ?_) (fun hc => ?_)
    · replace h := h.1 hc
      obtain ⟨o7, h⟩ := h
      refine zw_aload_n (pc := 42) (n := 0) (i := 0) 0 (by decide +kernel) rfl rfl ?_
      refine zx_getR (pc := 43) (o := 23) (r := 226) zf_11_82 (by decide +kernel) rfl zc_203 rfl (by decide) rfl ?_
      refine zw_iload_n (pc := 46) (n := 1) (i := 1) 1 (by decide +kernel) rfl rfl ?_
      refine zw_iload_n (pc := 47) (n := 3) (i := 3) 3 (by decide +kernel) rfl rfl ?_
      refine zx_iastore (pc := 48) (by decide +kernel) ⟨500, zc_226, o7.1, o7.2⟩ ?_
      refine zw_iconst (pc := 49) (n := 0) (by decide +kernel) ?_
      refine zw_istore (pc := 50) (i := 4) (lv' := [(0, .ref 203), (1, .int (zJ v1)), (2, .int (zJ v2)), (3, .int (zJ x5)), (4, .int (zJ 0))]) (by decide +kernel) (Nat.le_of_ble_eq_true rfl) rfl ?_
      exact zw_pick (lv' := [(0, .ref 203), (1, .int (zJ v1)), (3, .int (zJ x5)), (4, .int (zJ 0))]) [0, 1, 3, 4] rfl h
    · replace h := h.2 hc
      refine zw_aload_n (pc := 35) (n := 0) (i := 0) 0 (by decide +kernel) rfl rfl ?_
      refine zw_iload_n (pc := 36) (n := 2) (i := 2) 2 (by decide +kernel) rfl rfl ?_
      refine zx_putI (pc := 37) zf_11_285 (by decide +kernel) rfl zc_203 ?_
      refine zw_iconst (pc := 40) (n := 0) (by decide +kernel) ?_
      exact zw_zret (pc := 41) (by decide +kernel) rfl (Nat.le_refl _) (Nat.le_refl _) (Or.inl rfl) ⟨_, _, rfl, rfl, h⟩
  · replace h := h.2 hc
    refine zw_aload_n (pc := 12) (n := 0) (i := 0) 0 (by decide +kernel) rfl rfl ?_
    refine zw_dup (pc := 13) (by decide +kernel) rfl ?_
    refine zx_getI (pc := 14) zf_11_285 (by decide +kernel) rfl zc_203 ?_
    refine zw_iconst (pc := 17) (n := 1) (by decide +kernel) ?_
    refine zw_iadd (pc := 18) (by decide +kernel) ?_
    refine zx_putI (pc := 19) zf_11_285 (by decide +kernel) rfl zc_203 ?_
    refine zw_goto (pc := 22) (off := (-17)) (tgt := 5) (by decide +kernel) (by decide) ?_
    exact h
theorem sg_X11_readsDeed_52 {g : zG} {φ : Int → zMu → Prop} {v1 : Int} {v3 : Int} {v4 : Int} {μ : zMu}
    (h : (0 ≤ v3 ∧ v3 < 9) ∧ (zR v4) ∧ (zR (μ 225 v3.toNat)) ∧ (((μ 225 v3.toNat) ≤ v4 → φ 1 μ) ∧ (v4 < (μ 225 v3.toNat) → zOi g zm_X11_here [.ref 203] μ (fun x5 μ4 => (zR x5) ∧ ((x5 = 32 → zOi g zm_X11_here [.ref 203] (zup μ4 203 32 ((μ4 203 32) + 1)) (fun x8 μ7 => (zR x8) ∧ ((¬ x8 = 45 → zOi g zm_X11_isFigure [.ref 203] (zup μ7 203 32 ((μ7 203 32) + 0)) (fun x11 μ10 => (zR x11) ∧ ((¬ x11 = 0 → at_X11_readsDeed_134 g φ v1 v3 v4 0 0 0 μ10) ∧ (x11 = 0 → φ 0 μ10)))) ∧ (x8 = 45 → zOi g zm_X11_isFigure [.ref 203] (zup μ7 203 32 ((μ7 203 32) + 1)) (fun x14 μ13 => (zR x14) ∧ ((¬ x14 = 0 → at_X11_readsDeed_134 g φ v1 v3 v4 1 0 0 μ13) ∧ (x14 = 0 → φ 0 μ13))))))) ∧ (¬ x5 = 32 → φ 0 μ4)))))) : at_X11_readsDeed_52 g φ v1 v3 v4 μ := by
  obtain ⟨o1, o2, o3, h⟩ := h
  refine zw_iload (pc := 52) (i := 4) 3 (by decide +kernel) rfl ?_
  refine zw_aload_n (pc := 54) (n := 0) (i := 0) 0 (by decide +kernel) rfl rfl ?_
  refine zx_getR (pc := 55) (o := 22) (r := 225) zf_11_79 (by decide +kernel) rfl zc_203 rfl (by decide) rfl ?_
  refine zw_iload_n (pc := 58) (n := 3) (i := 3) 2 (by decide +kernel) rfl rfl ?_
  refine zx_iaload (pc := 59) (by decide +kernel) ⟨9, zc_225, o1.1, o1.2⟩ ?_
  refine zw_icmp_ge (pc := 60) (off := 148) (tgt := 208) (by decide +kernel) (by decide) o2 o3 (fun hc => ?_) (fun hc => ?_)
  · replace h := h.1 hc
    refine zw_iconst (pc := 208) (n := 1) (by decide +kernel) ?_
    exact zw_zret (pc := 209) (by decide +kernel) rfl (Nat.le_refl _) (Nat.le_refl _) (Or.inr rfl) ⟨_, _, rfl, rfl, h⟩
  · replace h := h.2 hc
    refine zw_aload_n (pc := 63) (n := 0) (i := 0) 0 (by decide +kernel) rfl rfl ?_
    refine zx_callV (pc := 64) (As := []) h zi_X11_here zii_X11_here zie_X11_here zl_11_288 (by decide +kernel) ⟨Nat.le_of_ble_eq_true rfl, Nat.le_of_ble_eq_true rfl⟩ rfl zc_203 (by decide) rfl rfl ⟨rfl, rfl⟩ ⟨Nat.zero_le _, Nat.zero_le _⟩ (zki (fun x5 μ4 h => ?_))
    obtain ⟨o6, h⟩ := h
    refine zw_bipush (pc := 67) (n := 32) (by decide +kernel) (by decide +kernel) ?_
    refine zw_icmp_eq (pc := 69) (off := 5) (tgt := 74) (by decide +kernel) (by decide) o6 ⟨by decide, by decide⟩ (fun hc => ?_) (fun hc => ?_)
    · replace h := h.1 hc
      refine zw_aload_n (pc := 74) (n := 0) (i := 0) 0 (by decide +kernel) rfl rfl ?_
      refine zw_dup (pc := 75) (by decide +kernel) rfl ?_
      refine zx_getI (pc := 76) zf_11_285 (by decide +kernel) rfl zc_203 ?_
      refine zw_iconst (pc := 79) (n := 1) (by decide +kernel) ?_
      refine zw_iadd (pc := 80) (by decide +kernel) ?_
      refine zx_putI (pc := 81) zf_11_285 (by decide +kernel) rfl zc_203 ?_
      refine zw_aload_n (pc := 84) (n := 0) (i := 0) 0 (by decide +kernel) rfl rfl ?_
      refine zx_callV (pc := 85) (As := []) h zi_X11_here zii_X11_here zie_X11_here zl_11_288 (by decide +kernel) ⟨Nat.le_of_ble_eq_true rfl, Nat.le_of_ble_eq_true rfl⟩ rfl zc_203 (by decide) rfl rfl ⟨rfl, rfl⟩ ⟨Nat.zero_le _, Nat.zero_le _⟩ (zki (fun x8 μ7 h => ?_))
      obtain ⟨o9, h⟩ := h
      refine zw_bipush (pc := 88) (n := 45) (by decide +kernel) (by decide +kernel) ?_
      refine zw_icmp_ne (pc := 90) (off := 7) (tgt := 97) (by decide +kernel) (by decide) o9 ⟨by decide, by decide⟩ (fun hc => ?_) (fun hc => ?_)
      · replace h := h.1 hc
        refine zw_iconst (pc := 97) (n := 0) (by decide +kernel) ?_
        refine zw_istore (pc := 98) (i := 5) (lv' := [(0, .ref 203), (1, .int (zJ v1)), (3, .int (zJ v3)), (4, .int (zJ v4)), (5, .int (zJ 0))]) (by decide +kernel) (Nat.le_of_ble_eq_true rfl) rfl ?_
        refine zw_aload_n (pc := 100) (n := 0) (i := 0) 0 (by decide +kernel) rfl rfl ?_
        refine zw_dup (pc := 101) (by decide +kernel) rfl ?_
        refine zx_getI (pc := 102) zf_11_285 (by decide +kernel) rfl zc_203 ?_
        refine zw_iload (pc := 105) (i := 5) 4 (by decide +kernel) rfl ?_
        refine zw_if_eq (pc := 107) (off := 7) (tgt := 114) (by decide +kernel) (by decide) ⟨by decide, by decide⟩ (fun hc => ?_) (fun hc => absurd hc (by decide))
        refine zw_iconst (pc := 114) (n := 0) (by decide +kernel) ?_
        refine zw_iadd (pc := 115) (by decide +kernel) ?_
        refine zx_putI (pc := 116) zf_11_285 (by decide +kernel) rfl zc_203 ?_
        refine zw_aload_n (pc := 119) (n := 0) (i := 0) 0 (by decide +kernel) rfl rfl ?_
        refine zx_callV (pc := 120) (As := []) h zi_X11_isFigure zii_X11_isFigure zie_X11_isFigure zl_11_305 (by decide +kernel) ⟨Nat.le_of_ble_eq_true rfl, Nat.le_of_ble_eq_true rfl⟩ rfl zc_203 (by decide) rfl rfl ⟨rfl, rfl⟩ ⟨Nat.zero_le _, Nat.zero_le _⟩ (zki (fun x11 μ10 h => ?_))
        obtain ⟨o12, h⟩ := h
        refine zw_if_ne (pc := 123) (off := 5) (tgt := 128) (by decide +kernel) (by decide) o12 (fun hc => ?_) (fun hc => ?_)
        · replace h := h.1 hc
          refine zw_iconst (pc := 128) (n := 0) (by decide +kernel) ?_
          refine zw_istore (pc := 129) (i := 6) (lv' := [(0, .ref 203), (1, .int (zJ v1)), (3, .int (zJ v3)), (4, .int (zJ v4)), (5, .int (zJ 0)), (6, .int (zJ 0))]) (by decide +kernel) (Nat.le_of_ble_eq_true rfl) rfl ?_
          refine zw_iconst (pc := 131) (n := 0) (by decide +kernel) ?_
          refine zw_istore (pc := 132) (i := 7) (lv' := [(0, .ref 203), (1, .int (zJ v1)), (3, .int (zJ v3)), (4, .int (zJ v4)), (5, .int (zJ 0)), (6, .int (zJ 0)), (7, .int (zJ 0))]) (by decide +kernel) (Nat.le_of_ble_eq_true rfl) rfl ?_
          exact h
        · replace h := h.2 hc
          refine zw_iconst (pc := 126) (n := 0) (by decide +kernel) ?_
          exact zw_zret (pc := 127) (by decide +kernel) rfl (Nat.le_refl _) (Nat.le_refl _) (Or.inl rfl) ⟨_, _, rfl, rfl, h⟩
      · replace h := h.2 hc
        refine zw_iconst (pc := 93) (n := 1) (by decide +kernel) ?_
        refine zw_goto (pc := 94) (off := 4) (tgt := 98) (by decide +kernel) (by decide) ?_
        refine zw_istore (pc := 98) (i := 5) (lv' := [(0, .ref 203), (1, .int (zJ v1)), (3, .int (zJ v3)), (4, .int (zJ v4)), (5, .int (zJ 1))]) (by decide +kernel) (Nat.le_of_ble_eq_true rfl) rfl ?_
        refine zw_aload_n (pc := 100) (n := 0) (i := 0) 0 (by decide +kernel) rfl rfl ?_
        refine zw_dup (pc := 101) (by decide +kernel) rfl ?_
        refine zx_getI (pc := 102) zf_11_285 (by decide +kernel) rfl zc_203 ?_
        refine zw_iload (pc := 105) (i := 5) 4 (by decide +kernel) rfl ?_
        refine zw_if_eq (pc := 107) (off := 7) (tgt := 114) (by decide +kernel) (by decide) ⟨by decide, by decide⟩ (fun hc => absurd hc (by decide)) (fun hc => ?_)
        refine zw_iconst (pc := 110) (n := 1) (by decide +kernel) ?_
        refine zw_goto (pc := 111) (off := 4) (tgt := 115) (by decide +kernel) (by decide) ?_
        refine zw_iadd (pc := 115) (by decide +kernel) ?_
        refine zx_putI (pc := 116) zf_11_285 (by decide +kernel) rfl zc_203 ?_
        refine zw_aload_n (pc := 119) (n := 0) (i := 0) 0 (by decide +kernel) rfl rfl ?_
        refine zx_callV (pc := 120) (As := []) h zi_X11_isFigure zii_X11_isFigure zie_X11_isFigure zl_11_305 (by decide +kernel) ⟨Nat.le_of_ble_eq_true rfl, Nat.le_of_ble_eq_true rfl⟩ rfl zc_203 (by decide) rfl rfl ⟨rfl, rfl⟩ ⟨Nat.zero_le _, Nat.zero_le _⟩ (zki (fun x14 μ13 h => ?_))
        obtain ⟨o15, h⟩ := h
        refine zw_if_ne (pc := 123) (off := 5) (tgt := 128) (by decide +kernel) (by decide) o15 (fun hc => ?_) (fun hc => ?_)
        · replace h := h.1 hc
          refine zw_iconst (pc := 128) (n := 0) (by decide +kernel) ?_
          refine zw_istore (pc := 129) (i := 6) (lv' := [(0, .ref 203), (1, .int (zJ v1)), (3, .int (zJ v3)), (4, .int (zJ v4)), (5, .int (zJ 1)), (6, .int (zJ 0))]) (by decide +kernel) (Nat.le_of_ble_eq_true rfl) rfl ?_
          refine zw_iconst (pc := 131) (n := 0) (by decide +kernel) ?_
          refine zw_istore (pc := 132) (i := 7) (lv' := [(0, .ref 203), (1, .int (zJ v1)), (3, .int (zJ v3)), (4, .int (zJ v4)), (5, .int (zJ 1)), (6, .int (zJ 0)), (7, .int (zJ 0))]) (by decide +kernel) (Nat.le_of_ble_eq_true rfl) rfl ?_
          exact h
        · replace h := h.2 hc
          refine zw_iconst (pc := 126) (n := 0) (by decide +kernel) ?_
          exact zw_zret (pc := 127) (by decide +kernel) rfl (Nat.le_refl _) (Nat.le_refl _) (Or.inl rfl) ⟨_, _, rfl, rfl, h⟩
    · replace h := h.2 hc
      refine zw_iconst (pc := 72) (n := 0) (by decide +kernel) ?_
      exact zw_zret (pc := 73) (by decide +kernel) rfl (Nat.le_refl _) (Nat.le_refl _) (Or.inl rfl) ⟨_, _, rfl, rfl, h⟩
theorem sg_X11_readsDeed_134 {g : zG} {φ : Int → zMu → Prop} {v1 : Int} {v3 : Int} {v4 : Int} {v5 : Int} {v6 : Int} {v7 : Int} {μ : zMu}
    (h : (zR v7) ∧ ((3 ≤ v7 → (zR v5) ∧ ((v5 = 0 → (0 ≤ ((v1 + 1) + v4) ∧ ((v1 + 1) + v4) < 500) ∧ at_X11_readsDeed_52 g φ v1 v3 (v4 + 1) (zup μ 226 (Int.toNat ((v1 + 1) + v4)) v6)) ∧ (¬ v5 = 0 → (0 ≤ ((v1 + 1) + v4) ∧ ((v1 + 1) + v4) < 500) ∧ at_X11_readsDeed_52 g φ v1 v3 (v4 + 1) (zup μ 226 (Int.toNat ((v1 + 1) + v4)) (-v6))))) ∧ (v7 < 3 → zOi g zm_X11_isFigure [.ref 203] μ (fun x6 μ5 => (zR x6) ∧ ((x6 = 0 → (zR v5) ∧ ((v5 = 0 → (0 ≤ ((v1 + 1) + v4) ∧ ((v1 + 1) + v4) < 500) ∧ at_X11_readsDeed_52 g φ v1 v3 (v4 + 1) (zup μ5 226 (Int.toNat ((v1 + 1) + v4)) v6)) ∧ (¬ v5 = 0 → (0 ≤ ((v1 + 1) + v4) ∧ ((v1 + 1) + v4) < 500) ∧ at_X11_readsDeed_52 g φ v1 v3 (v4 + 1) (zup μ5 226 (Int.toNat ((v1 + 1) + v4)) (-v6))))) ∧ (¬ x6 = 0 → zOi g zm_X11_here [.ref 203] μ5 (fun x12 μ11 => at_X11_readsDeed_134 g φ v1 v3 v4 v5 (((10 * v6) + x12) - 48) (v7 + 1) (zup μ11 203 32 ((μ11 203 32) + 1))))))))) : at_X11_readsDeed_134 g φ v1 v3 v4 v5 v6 v7 μ := by
  obtain ⟨o1, h⟩ := h
  refine zw_iload (pc := 134) (i := 7) 6 (by decide +kernel) rfl ?_
  refine zw_iconst (pc := 136) (n := 3) (by decide +kernel) ?_
  refine zw_icmp_ge (pc := 137) (off := 41) (tgt := 178) (by decide +kernel) (by decide) o1 ⟨by decide, by decide⟩ (fun hc => ?_) (fun hc => ?_)
  · replace h := h.1 hc
    obtain ⟨o2, h⟩ := h
    refine zw_aload_n (pc := 178) (n := 0) (i := 0) 0 (by decide +kernel) rfl rfl ?_
    refine zx_getR (pc := 179) (o := 23) (r := 226) zf_11_82 (by decide +kernel) rfl zc_203 rfl (by decide) rfl ?_
    refine zw_iload_n (pc := 182) (n := 1) (i := 1) 1 (by decide +kernel) rfl rfl ?_
    refine zw_iconst (pc := 183) (n := 1) (by decide +kernel) ?_
    refine zw_iadd (pc := 184) (by decide +kernel) ?_
    refine zw_iload (pc := 185) (i := 4) 3 (by decide +kernel) rfl ?_
    refine zw_iadd (pc := 187) (by decide +kernel) ?_
    refine zw_iload (pc := 188) (i := 5) 4 (by decide +kernel) rfl ?_
    refine zw_if_eq (pc := 190) (off := 9) (tgt := 199) (by decide +kernel) (by decide) o2 (fun hc => ?_) (fun hc => ?_)
    · replace h := h.1 hc
      obtain ⟨o3, h⟩ := h
      refine zw_iload (pc := 199) (i := 6) 5 (by decide +kernel) rfl ?_
      refine zx_iastore (pc := 201) (by decide +kernel) ⟨500, zc_226, o3.1, o3.2⟩ ?_
      refine zw_iinc (pc := 202) (i := 4) (n := 1) (lv' := [(0, .ref 203), (1, .int (zJ v1)), (3, .int (zJ v3)), (4, .int (zJ (v4 + 1))), (5, .int (zJ v5)), (6, .int (zJ v6)), (7, .int (zJ v7))]) 3 (by decide +kernel) rfl rfl (Nat.le_of_ble_eq_true rfl) rfl ?_
      refine zw_goto (pc := 205) (off := (-153)) (tgt := 52) (by decide +kernel) (by decide) ?_
      exact zw_pick (lv' := [(0, .ref 203), (1, .int (zJ v1)), (3, .int (zJ v3)), (4, .int (zJ (v4 + 1)))]) [0, 1, 2, 3] rfl h
    · replace h := h.2 hc
      obtain ⟨o4, h⟩ := h
      refine zw_iload (pc := 193) (i := 6) 5 (by decide +kernel) rfl ?_
      refine zw_ineg (pc := 195) (by decide +kernel) ?_
      refine zw_goto (pc := 196) (off := 5) (tgt := 201) (by decide +kernel) (by decide) ?_
      refine zx_iastore (pc := 201) (by decide +kernel) ⟨500, zc_226, o4.1, o4.2⟩ ?_
      refine zw_iinc (pc := 202) (i := 4) (n := 1) (lv' := [(0, .ref 203), (1, .int (zJ v1)), (3, .int (zJ v3)), (4, .int (zJ (v4 + 1))), (5, .int (zJ v5)), (6, .int (zJ v6)), (7, .int (zJ v7))]) 3 (by decide +kernel) rfl rfl (Nat.le_of_ble_eq_true rfl) rfl ?_
      refine zw_goto (pc := 205) (off := (-153)) (tgt := 52) (by decide +kernel) (by decide) ?_
      exact zw_pick (lv' := [(0, .ref 203), (1, .int (zJ v1)), (3, .int (zJ v3)), (4, .int (zJ (v4 + 1)))]) [0, 1, 2, 3] rfl h
  · replace h := h.2 hc
    refine zw_aload_n (pc := 140) (n := 0) (i := 0) 0 (by decide +kernel) rfl rfl ?_
    refine zx_callV (pc := 141) (As := []) h zi_X11_isFigure zii_X11_isFigure zie_X11_isFigure zl_11_305 (by decide +kernel) ⟨Nat.le_of_ble_eq_true rfl, Nat.le_of_ble_eq_true rfl⟩ rfl zc_203 (by decide) rfl rfl ⟨rfl, rfl⟩ ⟨Nat.zero_le _, Nat.zero_le _⟩ (zki (fun x6 μ5 h => ?_))
    obtain ⟨o7, h⟩ := h
    refine zw_if_eq (pc := 144) (off := 34) (tgt := 178) (by decide +kernel) (by decide) o7 (fun hc => ?_) (fun hc => ?_)
    · replace h := h.1 hc
      obtain ⟨o8, h⟩ := h
      refine zw_aload_n (pc := 178) (n := 0) (i := 0) 0 (by decide +kernel) rfl rfl ?_
      refine zx_getR (pc := 179) (o := 23) (r := 226) zf_11_82 (by decide +kernel) rfl zc_203 rfl (by decide) rfl ?_
      refine zw_iload_n (pc := 182) (n := 1) (i := 1) 1 (by decide +kernel) rfl rfl ?_
      refine zw_iconst (pc := 183) (n := 1) (by decide +kernel) ?_
      refine zw_iadd (pc := 184) (by decide +kernel) ?_
      refine zw_iload (pc := 185) (i := 4) 3 (by decide +kernel) rfl ?_
      refine zw_iadd (pc := 187) (by decide +kernel) ?_
      refine zw_iload (pc := 188) (i := 5) 4 (by decide +kernel) rfl ?_
      refine zw_if_eq (pc := 190) (off := 9) (tgt := 199) (by decide +kernel) (by decide) o8 (fun hc => ?_) (fun hc => ?_)
      · replace h := h.1 hc
        obtain ⟨o9, h⟩ := h
        refine zw_iload (pc := 199) (i := 6) 5 (by decide +kernel) rfl ?_
        refine zx_iastore (pc := 201) (by decide +kernel) ⟨500, zc_226, o9.1, o9.2⟩ ?_
        refine zw_iinc (pc := 202) (i := 4) (n := 1) (lv' := [(0, .ref 203), (1, .int (zJ v1)), (3, .int (zJ v3)), (4, .int (zJ (v4 + 1))), (5, .int (zJ v5)), (6, .int (zJ v6)), (7, .int (zJ v7))]) 3 (by decide +kernel) rfl rfl (Nat.le_of_ble_eq_true rfl) rfl ?_
        refine zw_goto (pc := 205) (off := (-153)) (tgt := 52) (by decide +kernel) (by decide) ?_
        exact zw_pick (lv' := [(0, .ref 203), (1, .int (zJ v1)), (3, .int (zJ v3)), (4, .int (zJ (v4 + 1)))]) [0, 1, 2, 3] rfl h
      · replace h := h.2 hc
        obtain ⟨o10, h⟩ := h
        refine zw_iload (pc := 193) (i := 6) 5 (by decide +kernel) rfl ?_
        refine zw_ineg (pc := 195) (by decide +kernel) ?_
        refine zw_goto (pc := 196) (off := 5) (tgt := 201) (by decide +kernel) (by decide) ?_
        refine zx_iastore (pc := 201) (by decide +kernel) ⟨500, zc_226, o10.1, o10.2⟩ ?_
        refine zw_iinc (pc := 202) (i := 4) (n := 1) (lv' := [(0, .ref 203), (1, .int (zJ v1)), (3, .int (zJ v3)), (4, .int (zJ (v4 + 1))), (5, .int (zJ v5)), (6, .int (zJ v6)), (7, .int (zJ v7))]) 3 (by decide +kernel) rfl rfl (Nat.le_of_ble_eq_true rfl) rfl ?_
        refine zw_goto (pc := 205) (off := (-153)) (tgt := 52) (by decide +kernel) (by decide) ?_
        exact zw_pick (lv' := [(0, .ref 203), (1, .int (zJ v1)), (3, .int (zJ v3)), (4, .int (zJ (v4 + 1)))]) [0, 1, 2, 3] rfl h
    · replace h := h.2 hc
      refine zw_bipush (pc := 147) (n := 10) (by decide +kernel) (by decide +kernel) ?_
      refine zw_iload (pc := 149) (i := 6) 5 (by decide +kernel) rfl ?_
      refine zw_imul (pc := 151) (by decide +kernel) ?_
      refine zw_aload_n (pc := 152) (n := 0) (i := 0) 0 (by decide +kernel) rfl rfl ?_
      refine zx_callV (pc := 153) (As := []) h zi_X11_here zii_X11_here zie_X11_here zl_11_288 (by decide +kernel) ⟨Nat.le_of_ble_eq_true rfl, Nat.le_of_ble_eq_true rfl⟩ rfl zc_203 (by decide) rfl rfl ⟨rfl, rfl⟩ ⟨Nat.zero_le _, Nat.zero_le _⟩ (zki (fun x12 μ11 h => ?_))
      refine zw_iadd (pc := 156) (by decide +kernel) ?_
      refine zw_bipush (pc := 157) (n := 48) (by decide +kernel) (by decide +kernel) ?_
      refine zw_isub (pc := 159) (by decide +kernel) ?_
      refine zw_istore (pc := 160) (i := 6) (lv' := [(0, .ref 203), (1, .int (zJ v1)), (3, .int (zJ v3)), (4, .int (zJ v4)), (5, .int (zJ v5)), (6, .int (zJ (((10 * v6) + x12) - 48))), (7, .int (zJ v7))]) (by decide +kernel) (Nat.le_of_ble_eq_true rfl) rfl ?_
      refine zw_aload_n (pc := 162) (n := 0) (i := 0) 0 (by decide +kernel) rfl rfl ?_
      refine zw_dup (pc := 163) (by decide +kernel) rfl ?_
      refine zx_getI (pc := 164) zf_11_285 (by decide +kernel) rfl zc_203 ?_
      refine zw_iconst (pc := 167) (n := 1) (by decide +kernel) ?_
      refine zw_iadd (pc := 168) (by decide +kernel) ?_
      refine zx_putI (pc := 169) zf_11_285 (by decide +kernel) rfl zc_203 ?_
      refine zw_iinc (pc := 172) (i := 7) (n := 1) (lv' := [(0, .ref 203), (1, .int (zJ v1)), (3, .int (zJ v3)), (4, .int (zJ v4)), (5, .int (zJ v5)), (6, .int (zJ (((10 * v6) + x12) - 48))), (7, .int (zJ (v7 + 1)))]) 6 (by decide +kernel) rfl rfl (Nat.le_of_ble_eq_true rfl) rfl ?_
      refine zw_goto (pc := 175) (off := (-41)) (tgt := 134) (by decide +kernel) (by decide) ?_
      exact h
theorem sg_X11_isLetter {g : zG} {φ : Int → zMu → Prop} {μ : zMu}
    (h : zOi g zm_X11_here [.ref 203] μ (fun x2 μ1 => (zR x2) ∧ zOi g zm_X11_in [.long (zL x2), .long (zL 97), .long (zL 122)] μ1 (fun x5 μ4 => (x5 = 0 ∨ x5 = 1) ∧ φ x5 μ4))) : zOi g zm_X11_isLetter [.ref 203] μ φ := by
  refine zok_of (by decide +kernel) rfl ?_
  show zWP g zm_X11_isLetter (zmo g zm_X11_isLetter (zΦi φ)) 0 [(0, .ref 203)] [] 0 0 (zw μ)
  refine zw_aload_n (pc := 0) (n := 0) (i := 0) 0 (by decide +kernel) rfl rfl ?_
  refine zx_callV (pc := 1) (As := []) h zi_X11_here zii_X11_here zie_X11_here zl_11_288 (by decide +kernel) ⟨Nat.le_of_ble_eq_true rfl, Nat.le_of_ble_eq_true rfl⟩ rfl zc_203 (by decide) rfl rfl ⟨rfl, rfl⟩ ⟨Nat.zero_le _, Nat.zero_le _⟩ (zki (fun x2 μ1 h => ?_))
  obtain ⟨o3, h⟩ := h
  refine zw_i2l (pc := 4) (by decide +kernel) o3 ?_
  refine zw_ldc2 (pc := 5) (v := 97) (by decide +kernel) zk_11_295 ?_
  refine zw_ldc2 (pc := 8) (v := 122) (by decide +kernel) zk_11_297 ?_
  refine zx_callS (pc := 11) (As := [.long (zL x2), .long (zL 97), .long (zL 122)]) h zi_X11_in zis_X11_in zl_11_114 (by decide +kernel) ⟨Nat.le_of_ble_eq_true rfl, Nat.le_of_ble_eq_true rfl⟩ rfl rfl ⟨rfl, rfl⟩ ⟨Nat.zero_le _, Nat.zero_le _⟩ (zki (fun x5 μ4 h => ?_))
  obtain ⟨o6, h⟩ := h
  exact zw_zret (pc := 14) (by decide +kernel) rfl (Nat.le_refl _) (Nat.le_refl _) o6 ⟨_, _, rfl, rfl, h⟩
theorem sg_X11_here {g : zG} {φ : Int → zMu → Prop} {μ : zMu}
    (h : (zR (μ 203 32)) ∧ (zR (μ 203 31)) ∧ (((μ 203 31) ≤ (μ 203 32) → φ 0 μ) ∧ ((μ 203 32) < (μ 203 31) → (0 ≤ (μ 203 32) ∧ (μ 203 32) < 100) ∧ φ (μ 223 (Int.toNat (μ 203 32))) μ))) : zOi g zm_X11_here [.ref 203] μ φ := by
  refine zok_of (by decide +kernel) rfl ?_
  show zWP g zm_X11_here (zmo g zm_X11_here (zΦi φ)) 0 [(0, .ref 203)] [] 0 0 (zw μ)
  obtain ⟨o1, o2, h⟩ := h
  refine zw_aload_n (pc := 0) (n := 0) (i := 0) 0 (by decide +kernel) rfl rfl ?_
  refine zx_getI (pc := 1) zf_11_285 (by decide +kernel) rfl zc_203 ?_
  refine zw_aload_n (pc := 4) (n := 0) (i := 0) 0 (by decide +kernel) rfl rfl ?_
  refine zx_getI (pc := 5) zf_11_282 (by decide +kernel) rfl zc_203 ?_
  refine zw_icmp_ge (pc := 8) (off := 15) (tgt := 23) (by decide +kernel) (by decide) o1 o2 (fun hc => ?_) (fun hc => ?_)
  · replace h := h.1 hc
    refine zw_iconst (pc := 23) (n := 0) (by decide +kernel) ?_
    exact zw_iret (pc := 24) (by decide +kernel) rfl (Nat.le_refl _) (Nat.le_refl _) ⟨_, _, rfl, rfl, h⟩
  · replace h := h.2 hc
    obtain ⟨o3, h⟩ := h
    refine zw_aload_n (pc := 11) (n := 0) (i := 0) 0 (by decide +kernel) rfl rfl ?_
    refine zx_getR (pc := 12) (o := 20) (r := 223) zf_11_73 (by decide +kernel) rfl zc_203 rfl (by decide) rfl ?_
    refine zw_aload_n (pc := 15) (n := 0) (i := 0) 0 (by decide +kernel) rfl rfl ?_
    refine zx_getI (pc := 16) zf_11_285 (by decide +kernel) rfl zc_203 ?_
    refine zx_iaload (pc := 19) (by decide +kernel) ⟨100, zc_223, o3.1, o3.2⟩ ?_
    refine zw_goto (pc := 20) (off := 4) (tgt := 24) (by decide +kernel) (by decide) ?_
    exact zw_iret (pc := 24) (by decide +kernel) rfl (Nat.le_refl _) (Nat.le_refl _) ⟨_, _, rfl, rfl, h⟩
abbrev at_X11_wordFrom_4 (g : zG) (φ : Int → zMu → Prop) (v1 : Int) (v2 : Int) (v3 : Int) (μ : zMu) : Prop := zWP g zm_X11_wordFrom (zmo g zm_X11_wordFrom (zΦi φ)) 4 [(0, .ref 203), (1, .int (zJ v1)), (2, .int (zJ v2)), (3, .int (zJ v3))] [] 0 0 (zw μ)
abbrev at_X11_wordFrom_19 (g : zG) (φ : Int → zMu → Prop) (v1 : Int) (v2 : Int) (v3 : Int) (v4 : Int) (v5 : Int) (μ : zMu) : Prop := zWP g zm_X11_wordFrom (zmo g zm_X11_wordFrom (zΦi φ)) 19 [(0, .ref 203), (1, .int (zJ v1)), (2, .int (zJ v2)), (3, .int (zJ v3)), (4, .int (zJ v4)), (5, .int (zJ v5))] [] 0 0 (zw μ)
theorem sg_X11_wordFrom {g : zG} {φ : Int → zMu → Prop} {v1 : Int} {μ : zMu}
    (h : at_X11_wordFrom_4 g φ v1 0 0 μ) : zOi g zm_X11_wordFrom [.ref 203, .int (zJ v1)] μ φ := by
  refine zok_of (by decide +kernel) rfl ?_
  show zWP g zm_X11_wordFrom (zmo g zm_X11_wordFrom (zΦi φ)) 0 [(0, .ref 203), (1, .int (zJ v1))] [] 0 0 (zw μ)
  refine zw_iconst (pc := 0) (n := 0) (by decide +kernel) ?_
  refine zw_istore_n (pc := 1) (n := 2) (i := 2) (lv' := [(0, .ref 203), (1, .int (zJ v1)), (2, .int (zJ 0))]) (by decide +kernel) rfl (Nat.le_of_ble_eq_true rfl) rfl ?_
  refine zw_iconst (pc := 2) (n := 0) (by decide +kernel) ?_
  refine zw_istore_n (pc := 3) (n := 3) (i := 3) (lv' := [(0, .ref 203), (1, .int (zJ v1)), (2, .int (zJ 0)), (3, .int (zJ 0))]) (by decide +kernel) rfl (Nat.le_of_ble_eq_true rfl) rfl ?_
  exact h
theorem sg_X11_wordFrom_4 {g : zG} {φ : Int → zMu → Prop} {v1 : Int} {v2 : Int} {v3 : Int} {μ : zMu}
    (h : (zR v3) ∧ ((9 ≤ v3 → φ (-1) μ) ∧ (v3 < 9 → at_X11_wordFrom_19 g φ v1 v2 v3 0 1 μ))) : at_X11_wordFrom_4 g φ v1 v2 v3 μ := by
  obtain ⟨o1, h⟩ := h
  refine zw_iload_n (pc := 4) (n := 3) (i := 3) 3 (by decide +kernel) rfl rfl ?_
  refine zw_aload_n (pc := 5) (n := 0) (i := 0) 0 (by decide +kernel) rfl rfl ?_
  refine zx_getR (pc := 6) (o := 22) (r := 225) zf_11_79 (by decide +kernel) rfl zc_203 rfl (by decide) rfl ?_
  refine zx_alen (pc := 9) (n := 9) (by decide +kernel) zc_225 ?_
  refine zw_icmp_ge (pc := 10) (off := 102) (tgt := 112) (by decide +kernel) (by decide) o1 ⟨by decide, by decide⟩ (fun hc => ?_) (fun hc => ?_)
  · replace h := h.1 hc
    refine zw_iconst (pc := 112) (n := (-1)) (by decide +kernel) ?_
    exact zw_iret (pc := 113) (by decide +kernel) rfl (Nat.le_refl _) (Nat.le_refl _) ⟨_, _, rfl, rfl, h⟩
  · replace h := h.2 hc
    refine zw_iconst (pc := 13) (n := 0) (by decide +kernel) ?_
    refine zw_istore (pc := 14) (i := 4) (lv' := [(0, .ref 203), (1, .int (zJ v1)), (2, .int (zJ v2)), (3, .int (zJ v3)), (4, .int (zJ 0))]) (by decide +kernel) (Nat.le_of_ble_eq_true rfl) rfl ?_
    refine zw_iconst (pc := 16) (n := 1) (by decide +kernel) ?_
    refine zw_istore (pc := 17) (i := 5) (lv' := [(0, .ref 203), (1, .int (zJ v1)), (2, .int (zJ v2)), (3, .int (zJ v3)), (4, .int (zJ 0)), (5, .int (zJ 1))]) (by decide +kernel) (Nat.le_of_ble_eq_true rfl) rfl ?_
    exact h
theorem sg_X11_wordFrom_19 {g : zG} {φ : Int → zMu → Prop} {v1 : Int} {v2 : Int} {v3 : Int} {v4 : Int} {v5 : Int} {μ : zMu}
    (h : (0 ≤ (v2 + v4) ∧ (v2 + v4) < 47) ∧ (zR (μ 224 (Int.toNat (v2 + v4)))) ∧ (((μ 224 (Int.toNat (v2 + v4))) = 32 → (zR v5) ∧ ((v5 = 0 → at_X11_wordFrom_4 g φ v1 (v2 + (v4 + 1)) (v3 + 1) μ) ∧ (¬ v5 = 0 → (zR v4) ∧ (zR ((μ 203 32) - v1)) ∧ ((¬ v4 = ((μ 203 32) - v1) → at_X11_wordFrom_4 g φ v1 (v2 + (v4 + 1)) (v3 + 1) μ) ∧ (v4 = ((μ 203 32) - v1) → φ v3 μ))))) ∧ (¬ (μ 224 (Int.toNat (v2 + v4))) = 32 → (zR (v1 + v4)) ∧ (zR (μ 203 32)) ∧ (((μ 203 32) ≤ (v1 + v4) → at_X11_wordFrom_19 g φ v1 v2 v3 (v4 + 1) (zand v5 0) μ) ∧ ((v1 + v4) < (μ 203 32) → (0 ≤ (v1 + v4) ∧ (v1 + v4) < 100) ∧ (zR (μ 223 (Int.toNat (v1 + v4)))) ∧ ((¬ (μ 223 (Int.toNat (v1 + v4))) = (μ 224 (Int.toNat (v2 + v4))) → at_X11_wordFrom_19 g φ v1 v2 v3 (v4 + 1) (zand v5 0) μ) ∧ ((μ 223 (Int.toNat (v1 + v4))) = (μ 224 (Int.toNat (v2 + v4))) → at_X11_wordFrom_19 g φ v1 v2 v3 (v4 + 1) (zand v5 1) μ))))))) : at_X11_wordFrom_19 g φ v1 v2 v3 v4 v5 μ := by
  obtain ⟨o1, o2, h⟩ := h
  refine zw_aload_n (pc := 19) (n := 0) (i := 0) 0 (by decide +kernel) rfl rfl ?_
  refine zx_getR (pc := 20) (o := 21) (r := 224) zf_11_76 (by decide +kernel) rfl zc_203 rfl (by decide) rfl ?_
  refine zw_iload_n (pc := 23) (n := 2) (i := 2) 2 (by decide +kernel) rfl rfl ?_
  refine zw_iload (pc := 24) (i := 4) 4 (by decide +kernel) rfl ?_
  refine zw_iadd (pc := 26) (by decide +kernel) ?_
  refine zx_iaload (pc := 27) (by decide +kernel) ⟨47, zc_224, o1.1, o1.2⟩ ?_
  refine zw_bipush (pc := 28) (n := 32) (by decide +kernel) (by decide +kernel) ?_
  refine zw_icmp_eq (pc := 30) (off := 51) (tgt := 81) (by decide +kernel) (by decide) o2 ⟨by decide, by decide⟩ (fun hc => ?_) (fun hc => ?_)
  · replace h := h.1 hc
    obtain ⟨o3, h⟩ := h
    refine zw_iload (pc := 81) (i := 5) 5 (by decide +kernel) rfl ?_
    refine zw_if_eq (pc := 83) (off := 16) (tgt := 99) (by decide +kernel) (by decide) o3 (fun hc => ?_) (fun hc => ?_)
    · replace h := h.1 hc
      refine zw_iload_n (pc := 99) (n := 2) (i := 2) 2 (by decide +kernel) rfl rfl ?_
      refine zw_iload (pc := 100) (i := 4) 4 (by decide +kernel) rfl ?_
      refine zw_iconst (pc := 102) (n := 1) (by decide +kernel) ?_
      refine zw_iadd (pc := 103) (by decide +kernel) ?_
      refine zw_iadd (pc := 104) (by decide +kernel) ?_
      refine zw_istore_n (pc := 105) (n := 2) (i := 2) (lv' := [(0, .ref 203), (1, .int (zJ v1)), (2, .int (zJ (v2 + (v4 + 1)))), (3, .int (zJ v3)), (4, .int (zJ v4)), (5, .int (zJ v5))]) (by decide +kernel) rfl (Nat.le_of_ble_eq_true rfl) rfl ?_
      refine zw_iinc (pc := 106) (i := 3) (n := 1) (lv' := [(0, .ref 203), (1, .int (zJ v1)), (2, .int (zJ (v2 + (v4 + 1)))), (3, .int (zJ (v3 + 1))), (4, .int (zJ v4)), (5, .int (zJ v5))]) 3 (by decide +kernel) rfl rfl (Nat.le_of_ble_eq_true rfl) rfl ?_
      refine zw_goto (pc := 109) (off := (-105)) (tgt := 4) (by decide +kernel) (by decide) ?_
      exact zw_pick (lv' := [(0, .ref 203), (1, .int (zJ v1)), (2, .int (zJ (v2 + (v4 + 1)))), (3, .int (zJ (v3 + 1)))]) [0, 1, 2, 3] rfl h
    · replace h := h.2 hc
      obtain ⟨o4, o5, h⟩ := h
      refine zw_iload (pc := 86) (i := 4) 4 (by decide +kernel) rfl ?_
      refine zw_aload_n (pc := 88) (n := 0) (i := 0) 0 (by decide +kernel) rfl rfl ?_
      refine zx_getI (pc := 89) zf_11_285 (by decide +kernel) rfl zc_203 ?_
      refine zw_iload_n (pc := 92) (n := 1) (i := 1) 1 (by decide +kernel) rfl rfl ?_
      refine zw_isub (pc := 93) (by decide +kernel) ?_
      refine zw_icmp_ne (pc := 94) (off := 5) (tgt := 99) (by decide +kernel) (by decide) o4 o5 (fun hc => ?_) (fun hc => ?_)
      · replace h := h.1 hc
        refine zw_iload_n (pc := 99) (n := 2) (i := 2) 2 (by decide +kernel) rfl rfl ?_
        refine zw_iload (pc := 100) (i := 4) 4 (by decide +kernel) rfl ?_
        refine zw_iconst (pc := 102) (n := 1) (by decide +kernel) ?_
        refine zw_iadd (pc := 103) (by decide +kernel) ?_
        refine zw_iadd (pc := 104) (by decide +kernel) ?_
        refine zw_istore_n (pc := 105) (n := 2) (i := 2) (lv' := [(0, .ref 203), (1, .int (zJ v1)), (2, .int (zJ (v2 + (v4 + 1)))), (3, .int (zJ v3)), (4, .int (zJ v4)), (5, .int (zJ v5))]) (by decide +kernel) rfl (Nat.le_of_ble_eq_true rfl) rfl ?_
        refine zw_iinc (pc := 106) (i := 3) (n := 1) (lv' := [(0, .ref 203), (1, .int (zJ v1)), (2, .int (zJ (v2 + (v4 + 1)))), (3, .int (zJ (v3 + 1))), (4, .int (zJ v4)), (5, .int (zJ v5))]) 3 (by decide +kernel) rfl rfl (Nat.le_of_ble_eq_true rfl) rfl ?_
        refine zw_goto (pc := 109) (off := (-105)) (tgt := 4) (by decide +kernel) (by decide) ?_
        exact zw_pick (lv' := [(0, .ref 203), (1, .int (zJ v1)), (2, .int (zJ (v2 + (v4 + 1)))), (3, .int (zJ (v3 + 1)))]) [0, 1, 2, 3] rfl h
      · replace h := h.2 hc
        refine zw_iload_n (pc := 97) (n := 3) (i := 3) 3 (by decide +kernel) rfl rfl ?_
        exact zw_iret (pc := 98) (by decide +kernel) rfl (Nat.le_refl _) (Nat.le_refl _) ⟨_, _, rfl, rfl, h⟩
  · replace h := h.2 hc
    obtain ⟨o6, o7, h⟩ := h
    refine zw_iload (pc := 33) (i := 5) 5 (by decide +kernel) rfl ?_
    refine zw_iload_n (pc := 35) (n := 1) (i := 1) 1 (by decide +kernel) rfl rfl ?_
    refine zw_iload (pc := 36) (i := 4) 4 (by decide +kernel) rfl ?_
    refine zw_iadd (pc := 38) (by decide +kernel) ?_
    refine zw_aload_n (pc := 39) (n := 0) (i := 0) 0 (by decide +kernel) rfl rfl ?_
    refine zx_getI (pc := 40) zf_11_285 (by decide +kernel) rfl zc_203 ?_
    refine zw_icmp_ge (pc := 43) (off := 28) (tgt := 71) (by decide +kernel) (by decide) o6 o7 (fun hc => ?_) (fun hc => ?_)
    · replace h := h.1 hc
      refine zw_iconst (pc := 71) (n := 0) (by decide +kernel) ?_
      refine zw_iand (pc := 72) (by decide +kernel) ?_
      refine zw_istore (pc := 73) (i := 5) (lv' := [(0, .ref 203), (1, .int (zJ v1)), (2, .int (zJ v2)), (3, .int (zJ v3)), (4, .int (zJ v4)), (5, .int (zJ (zand v5 0)))]) (by decide +kernel) (Nat.le_of_ble_eq_true rfl) rfl ?_
      refine zw_iinc (pc := 75) (i := 4) (n := 1) (lv' := [(0, .ref 203), (1, .int (zJ v1)), (2, .int (zJ v2)), (3, .int (zJ v3)), (4, .int (zJ (v4 + 1))), (5, .int (zJ (zand v5 0)))]) 4 (by decide +kernel) rfl rfl (Nat.le_of_ble_eq_true rfl) rfl ?_
      refine zw_goto (pc := 78) (off := (-59)) (tgt := 19) (by decide +kernel) (by decide) ?_
      exact h
    · replace h := h.2 hc
      obtain ⟨o8, o9, h⟩ := h
      refine zw_aload_n (pc := 46) (n := 0) (i := 0) 0 (by decide +kernel) rfl rfl ?_
      refine zx_getR (pc := 47) (o := 20) (r := 223) zf_11_73 (by decide +kernel) rfl zc_203 rfl (by decide) rfl ?_
      refine zw_iload_n (pc := 50) (n := 1) (i := 1) 1 (by decide +kernel) rfl rfl ?_
      refine zw_iload (pc := 51) (i := 4) 4 (by decide +kernel) rfl ?_
      refine zw_iadd (pc := 53) (by decide +kernel) ?_
      refine zx_iaload (pc := 54) (by decide +kernel) ⟨100, zc_223, o8.1, o8.2⟩ ?_
      refine zw_aload_n (pc := 55) (n := 0) (i := 0) 0 (by decide +kernel) rfl rfl ?_
      refine zx_getR (pc := 56) (o := 21) (r := 224) zf_11_76 (by decide +kernel) rfl zc_203 rfl (by decide) rfl ?_
      refine zw_iload_n (pc := 59) (n := 2) (i := 2) 2 (by decide +kernel) rfl rfl ?_
      refine zw_iload (pc := 60) (i := 4) 4 (by decide +kernel) rfl ?_
      refine zw_iadd (pc := 62) (by decide +kernel) ?_
      refine zx_iaload (pc := 63) (by decide +kernel) ⟨47, zc_224, o1.1, o1.2⟩ ?_
      refine zw_icmp_ne (pc := 64) (off := 7) (tgt := 71) (by decide +kernel) (by decide) o9 o2 (fun hc => ?_) (fun hc => ?_)
      · replace h := h.1 hc
        refine zw_iconst (pc := 71) (n := 0) (by decide +kernel) ?_
        refine zw_iand (pc := 72) (by decide +kernel) ?_
        refine zw_istore (pc := 73) (i := 5) (lv' := [(0, .ref 203), (1, .int (zJ v1)), (2, .int (zJ v2)), (3, .int (zJ v3)), (4, .int (zJ v4)), (5, .int (zJ (zand v5 0)))]) (by decide +kernel) (Nat.le_of_ble_eq_true rfl) rfl ?_
        refine zw_iinc (pc := 75) (i := 4) (n := 1) (lv' := [(0, .ref 203), (1, .int (zJ v1)), (2, .int (zJ v2)), (3, .int (zJ v3)), (4, .int (zJ (v4 + 1))), (5, .int (zJ (zand v5 0)))]) 4 (by decide +kernel) rfl rfl (Nat.le_of_ble_eq_true rfl) rfl ?_
        refine zw_goto (pc := 78) (off := (-59)) (tgt := 19) (by decide +kernel) (by decide) ?_
        exact h
      · replace h := h.2 hc
        refine zw_iconst (pc := 67) (n := 1) (by decide +kernel) ?_
        refine zw_goto (pc := 68) (off := 4) (tgt := 72) (by decide +kernel) (by decide) ?_
        refine zw_iand (pc := 72) (by decide +kernel) ?_
        refine zw_istore (pc := 73) (i := 5) (lv' := [(0, .ref 203), (1, .int (zJ v1)), (2, .int (zJ v2)), (3, .int (zJ v3)), (4, .int (zJ v4)), (5, .int (zJ (zand v5 1)))]) (by decide +kernel) (Nat.le_of_ble_eq_true rfl) rfl ?_
        refine zw_iinc (pc := 75) (i := 4) (n := 1) (lv' := [(0, .ref 203), (1, .int (zJ v1)), (2, .int (zJ v2)), (3, .int (zJ v3)), (4, .int (zJ (v4 + 1))), (5, .int (zJ (zand v5 1)))]) 4 (by decide +kernel) rfl rfl (Nat.le_of_ble_eq_true rfl) rfl ?_
        refine zw_goto (pc := 78) (off := (-59)) (tgt := 19) (by decide +kernel) (by decide) ?_
        exact h
theorem sg_X11_isFigure {g : zG} {φ : Int → zMu → Prop} {μ : zMu}
    (h : zOi g zm_X11_here [.ref 203] μ (fun x2 μ1 => (zR x2) ∧ zOi g zm_X11_in [.long (zL x2), .long (zL 48), .long (zL 57)] μ1 (fun x5 μ4 => (x5 = 0 ∨ x5 = 1) ∧ φ x5 μ4))) : zOi g zm_X11_isFigure [.ref 203] μ φ := by
  refine zok_of (by decide +kernel) rfl ?_
  show zWP g zm_X11_isFigure (zmo g zm_X11_isFigure (zΦi φ)) 0 [(0, .ref 203)] [] 0 0 (zw μ)
  refine zw_aload_n (pc := 0) (n := 0) (i := 0) 0 (by decide +kernel) rfl rfl ?_
  refine zx_callV (pc := 1) (As := []) h zi_X11_here zii_X11_here zie_X11_here zl_11_288 (by decide +kernel) ⟨Nat.le_of_ble_eq_true rfl, Nat.le_of_ble_eq_true rfl⟩ rfl zc_203 (by decide) rfl rfl ⟨rfl, rfl⟩ ⟨Nat.zero_le _, Nat.zero_le _⟩ (zki (fun x2 μ1 h => ?_))
  obtain ⟨o3, h⟩ := h
  refine zw_i2l (pc := 4) (by decide +kernel) o3 ?_
  refine zw_ldc2 (pc := 5) (v := 48) (by decide +kernel) zk_11_291 ?_
  refine zw_ldc2 (pc := 8) (v := 57) (by decide +kernel) zk_11_293 ?_
  refine zx_callS (pc := 11) (As := [.long (zL x2), .long (zL 48), .long (zL 57)]) h zi_X11_in zis_X11_in zl_11_114 (by decide +kernel) ⟨Nat.le_of_ble_eq_true rfl, Nat.le_of_ble_eq_true rfl⟩ rfl rfl ⟨rfl, rfl⟩ ⟨Nat.zero_le _, Nat.zero_le _⟩ (zki (fun x5 μ4 h => ?_))
  obtain ⟨o6, h⟩ := h
  exact zw_zret (pc := 14) (by decide +kernel) rfl (Nat.le_refl _) (Nat.le_refl _) o6 ⟨_, _, rfl, rfl, h⟩
theorem sg_X11_does {g : zG} {φ : Int → zMu → Prop} {v1 : Int} {μ : zMu}
    (h : (0 ≤ (v1 + 1) ∧ (v1 + 1) < 500) ∧ (0 ≤ (v1 + 2) ∧ (v1 + 2) < 500) ∧ (0 ≤ (v1 + 3) ∧ (v1 + 3) < 500) ∧ (0 ≤ v1 ∧ v1 < 500) ∧ (zR (μ 226 v1.toNat)) ∧ (((μ 226 v1.toNat) < 0 ∨ 7 < (μ 226 v1.toNat) → zOi g zm_X11_keep [.ref 203, .int (zJ (μ 226 (Int.toNat (v1 + 1))))] μ (fun x7 μ6 => φ x7 μ6)) ∧ ((μ 226 v1.toNat) = 0 → zOi g zm_X11_prime [.ref 203, .int (zJ (μ 226 (Int.toNat (v1 + 1))))] μ (fun x10 μ9 => φ x10 μ9)) ∧ ((μ 226 v1.toNat) = 1 → zOi g zm_X11_j [.ref 203, .int (zJ (μ 226 (Int.toNat (v1 + 1)))), .int (zJ (μ 226 (Int.toNat (v1 + 2))))] μ (fun x12 μ11 => φ x12 μ11)) ∧ ((μ 226 v1.toNat) = 2 → zOi g zm_X11_sum [.ref 203, .int (zJ (μ 226 (Int.toNat (v1 + 1)))), .int (zJ (μ 226 (Int.toNat (v1 + 2)))), .int (zJ (μ 226 (Int.toNat (v1 + 3))))] μ (fun x14 μ13 => φ x14 μ13)) ∧ ((μ 226 v1.toNat) = 3 → zOi g zm_X11_times [.ref 203, .int (zJ (μ 226 (Int.toNat (v1 + 1)))), .int (zJ (μ 226 (Int.toNat (v1 + 2)))), .int (zJ (μ 226 (Int.toNat (v1 + 3))))] μ (fun x16 μ15 => φ x16 μ15)) ∧ ((μ 226 v1.toNat) = 4 → zOi g zm_X11_stretch [.ref 203, .int (zJ (μ 226 (Int.toNat (v1 + 1)))), .int (zJ (μ 226 (Int.toNat (v1 + 2)))), .int (zJ (μ 226 (Int.toNat (v1 + 3))))] μ (fun x18 μ17 => φ x18 μ17)) ∧ ((μ 226 v1.toNat) = 5 → zOi g zm_X11_over [.ref 203, .int (zJ (μ 226 (Int.toNat (v1 + 1)))), .int (zJ (μ 226 (Int.toNat (v1 + 2))))] μ (fun x20 μ19 => φ x20 μ19)) ∧ ((μ 226 v1.toNat) = 6 → zOi g zm_X11_power [.ref 203, .int (zJ (μ 226 (Int.toNat (v1 + 1)))), .int (zJ (μ 226 (Int.toNat (v1 + 2)))), .int (zJ (μ 226 (Int.toNat (v1 + 3))))] μ (fun x22 μ21 => φ x22 μ21)) ∧ ((μ 226 v1.toNat) = 7 → (0 ≤ (v1 + 4) ∧ (v1 + 4) < 500) ∧ zOi g zm_X11_find [.ref 203, .int (zJ (μ 226 (Int.toNat (v1 + 1)))), .int (zJ (μ 226 (Int.toNat (v1 + 2)))), .int (zJ (μ 226 (Int.toNat (v1 + 3)))), .int (zJ (μ 226 (Int.toNat (v1 + 4))))] μ (fun x25 μ24 => φ x25 μ24)))) : zOi g zm_X11_does [.ref 203, .int (zJ v1)] μ φ := by
  refine zok_of (by decide +kernel) rfl ?_
  show zWP g zm_X11_does (zmo g zm_X11_does (zΦi φ)) 0 [(0, .ref 203), (1, .int (zJ v1))] [] 0 0 (zw μ)
  obtain ⟨o1, o2, o3, o4, o5, h⟩ := h
  refine zw_aload_n (pc := 0) (n := 0) (i := 0) 0 (by decide +kernel) rfl rfl ?_
  refine zx_getR (pc := 1) (o := 23) (r := 226) zf_11_82 (by decide +kernel) rfl zc_203 rfl (by decide) rfl ?_
  refine zw_iload_n (pc := 4) (n := 1) (i := 1) 1 (by decide +kernel) rfl rfl ?_
  refine zw_iconst (pc := 5) (n := 1) (by decide +kernel) ?_
  refine zw_iadd (pc := 6) (by decide +kernel) ?_
  refine zx_iaload (pc := 7) (by decide +kernel) ⟨500, zc_226, o1.1, o1.2⟩ ?_
  refine zw_istore_n (pc := 8) (n := 2) (i := 2) (lv' := [(0, .ref 203), (1, .int (zJ v1)), (2, .int (zJ (μ 226 (Int.toNat (v1 + 1)))))]) (by decide +kernel) rfl (Nat.le_of_ble_eq_true rfl) rfl ?_
  refine zw_aload_n (pc := 9) (n := 0) (i := 0) 0 (by decide +kernel) rfl rfl ?_
  refine zx_getR (pc := 10) (o := 23) (r := 226) zf_11_82 (by decide +kernel) rfl zc_203 rfl (by decide) rfl ?_
  refine zw_iload_n (pc := 13) (n := 1) (i := 1) 1 (by decide +kernel) rfl rfl ?_
  refine zw_iconst (pc := 14) (n := 2) (by decide +kernel) ?_
  refine zw_iadd (pc := 15) (by decide +kernel) ?_
  refine zx_iaload (pc := 16) (by decide +kernel) ⟨500, zc_226, o2.1, o2.2⟩ ?_
  refine zw_istore_n (pc := 17) (n := 3) (i := 3) (lv' := [(0, .ref 203), (1, .int (zJ v1)), (2, .int (zJ (μ 226 (Int.toNat (v1 + 1))))), (3, .int (zJ (μ 226 (Int.toNat (v1 + 2)))))]) (by decide +kernel) rfl (Nat.le_of_ble_eq_true rfl) rfl ?_
  refine zw_aload_n (pc := 18) (n := 0) (i := 0) 0 (by decide +kernel) rfl rfl ?_
  refine zx_getR (pc := 19) (o := 23) (r := 226) zf_11_82 (by decide +kernel) rfl zc_203 rfl (by decide) rfl ?_
  refine zw_iload_n (pc := 22) (n := 1) (i := 1) 1 (by decide +kernel) rfl rfl ?_
  refine zw_iconst (pc := 23) (n := 3) (by decide +kernel) ?_
  refine zw_iadd (pc := 24) (by decide +kernel) ?_
  refine zx_iaload (pc := 25) (by decide +kernel) ⟨500, zc_226, o3.1, o3.2⟩ ?_
  refine zw_istore (pc := 26) (i := 4) (lv' := [(0, .ref 203), (1, .int (zJ v1)), (2, .int (zJ (μ 226 (Int.toNat (v1 + 1))))), (3, .int (zJ (μ 226 (Int.toNat (v1 + 2))))), (4, .int (zJ (μ 226 (Int.toNat (v1 + 3)))))]) (by decide +kernel) (Nat.le_of_ble_eq_true rfl) rfl ?_
  refine zw_aload_n (pc := 28) (n := 0) (i := 0) 0 (by decide +kernel) rfl rfl ?_
  refine zx_getR (pc := 29) (o := 23) (r := 226) zf_11_82 (by decide +kernel) rfl zc_203 rfl (by decide) rfl ?_
  refine zw_iload_n (pc := 32) (n := 1) (i := 1) 1 (by decide +kernel) rfl rfl ?_
  refine zx_iaload (pc := 33) (by decide +kernel) ⟨500, zc_226, o4.1, o4.2⟩ ?_
  by_cases e8 : (μ 226 v1.toNat) < 0 ∨ 7 < (μ 226 v1.toNat)
  · replace h := h.1 e8
    refine zw_swOut (pc := 34) (tgt := 153) (by decide +kernel : decode zm_X11_does.2.1 34 = .ok (.tableswitch 119 0 7 #[46, 52, 59, 68, 77, 86, 93, 102], 46)) o5 e8 (by decide) ?_
    refine zw_aload_n (pc := 153) (n := 0) (i := 0) 0 (by decide +kernel) rfl rfl ?_
    refine zw_iload_n (pc := 154) (n := 2) (i := 2) 2 (by decide +kernel) rfl rfl ?_
    refine zx_callV (pc := 155) (As := [.int (zJ (μ 226 (Int.toNat (v1 + 1))))]) h zi_X11_keep zii_X11_keep zie_X11_keep zl_11_333 (by decide +kernel) ⟨Nat.le_of_ble_eq_true rfl, Nat.le_of_ble_eq_true rfl⟩ rfl zc_203 (by decide) rfl rfl ⟨rfl, rfl⟩ ⟨Nat.zero_le _, Nat.zero_le _⟩ (zki (fun x7 μ6 h => ?_))
    exact zw_iret (pc := 158) (by decide +kernel) rfl (Nat.le_refl _) (Nat.le_refl _) ⟨_, _, rfl, rfl, h⟩
  · replace h := h.2
    rcases (show (μ 226 v1.toNat) = 0 ∨ (μ 226 v1.toNat) = 1 ∨ (μ 226 v1.toNat) = 2 ∨ (μ 226 v1.toNat) = 3 ∨ (μ 226 v1.toNat) = 4 ∨ (μ 226 v1.toNat) = 5 ∨ (μ 226 v1.toNat) = 6 ∨ (μ 226 v1.toNat) = 7 by omega) with e8 | e8 | e8 | e8 | e8 | e8 | e8 | e8
    · replace h := h.1 e8
      refine zw_swIn (pc := 34) (off := 46) (tgt := 80) (by decide +kernel : decode zm_X11_does.2.1 34 = .ok (.tableswitch 119 0 7 #[46, 52, 59, 68, 77, 86, 93, 102], 46)) o5 (by omega) (by omega) (by rw [e8]; rfl) (by decide) ?_
      refine zw_aload_n (pc := 80) (n := 0) (i := 0) 0 (by decide +kernel) rfl rfl ?_
      refine zw_iload_n (pc := 81) (n := 2) (i := 2) 2 (by decide +kernel) rfl rfl ?_
      refine zx_callV (pc := 82) (As := [.int (zJ (μ 226 (Int.toNat (v1 + 1))))]) h zi_X11_prime zii_X11_prime zie_X11_prime zl_11_308 (by decide +kernel) ⟨Nat.le_of_ble_eq_true rfl, Nat.le_of_ble_eq_true rfl⟩ rfl zc_203 (by decide) rfl rfl ⟨rfl, rfl⟩ ⟨Nat.zero_le _, Nat.zero_le _⟩ (zki (fun x10 μ9 h => ?_))
      exact zw_iret (pc := 85) (by decide +kernel) rfl (Nat.le_refl _) (Nat.le_refl _) ⟨_, _, rfl, rfl, h⟩
    · replace h := h.2.1 e8
      refine zw_swIn (pc := 34) (off := 52) (tgt := 86) (by decide +kernel : decode zm_X11_does.2.1 34 = .ok (.tableswitch 119 0 7 #[46, 52, 59, 68, 77, 86, 93, 102], 46)) o5 (by omega) (by omega) (by rw [e8]; rfl) (by decide) ?_
      refine zw_aload_n (pc := 86) (n := 0) (i := 0) 0 (by decide +kernel) rfl rfl ?_
      refine zw_iload_n (pc := 87) (n := 2) (i := 2) 2 (by decide +kernel) rfl rfl ?_
      refine zw_iload_n (pc := 88) (n := 3) (i := 3) 3 (by decide +kernel) rfl rfl ?_
      refine zx_callV (pc := 89) (As := [.int (zJ (μ 226 (Int.toNat (v1 + 1)))), .int (zJ (μ 226 (Int.toNat (v1 + 2))))]) h zi_X11_j zii_X11_j zie_X11_j zl_11_311 (by decide +kernel) ⟨Nat.le_of_ble_eq_true rfl, Nat.le_of_ble_eq_true rfl⟩ rfl zc_203 (by decide) rfl rfl ⟨rfl, rfl⟩ ⟨Nat.zero_le _, Nat.zero_le _⟩ (zki (fun x12 μ11 h => ?_))
      exact zw_iret (pc := 92) (by decide +kernel) rfl (Nat.le_refl _) (Nat.le_refl _) ⟨_, _, rfl, rfl, h⟩
    · replace h := h.2.2.1 e8
      refine zw_swIn (pc := 34) (off := 59) (tgt := 93) (by decide +kernel : decode zm_X11_does.2.1 34 = .ok (.tableswitch 119 0 7 #[46, 52, 59, 68, 77, 86, 93, 102], 46)) o5 (by omega) (by omega) (by rw [e8]; rfl) (by decide) ?_
      refine zw_aload_n (pc := 93) (n := 0) (i := 0) 0 (by decide +kernel) rfl rfl ?_
      refine zw_iload_n (pc := 94) (n := 2) (i := 2) 2 (by decide +kernel) rfl rfl ?_
      refine zw_iload_n (pc := 95) (n := 3) (i := 3) 3 (by decide +kernel) rfl rfl ?_
      refine zw_iload (pc := 96) (i := 4) 4 (by decide +kernel) rfl ?_
      refine zx_callV (pc := 98) (As := [.int (zJ (μ 226 (Int.toNat (v1 + 1)))), .int (zJ (μ 226 (Int.toNat (v1 + 2)))), .int (zJ (μ 226 (Int.toNat (v1 + 3))))]) h zi_X11_sum zii_X11_sum zie_X11_sum zl_11_314 (by decide +kernel) ⟨Nat.le_of_ble_eq_true rfl, Nat.le_of_ble_eq_true rfl⟩ rfl zc_203 (by decide) rfl rfl ⟨rfl, rfl⟩ ⟨Nat.zero_le _, Nat.zero_le _⟩ (zki (fun x14 μ13 h => ?_))
      exact zw_iret (pc := 101) (by decide +kernel) rfl (Nat.le_refl _) (Nat.le_refl _) ⟨_, _, rfl, rfl, h⟩
    · replace h := h.2.2.2.1 e8
      refine zw_swIn (pc := 34) (off := 68) (tgt := 102) (by decide +kernel : decode zm_X11_does.2.1 34 = .ok (.tableswitch 119 0 7 #[46, 52, 59, 68, 77, 86, 93, 102], 46)) o5 (by omega) (by omega) (by rw [e8]; rfl) (by decide) ?_
      refine zw_aload_n (pc := 102) (n := 0) (i := 0) 0 (by decide +kernel) rfl rfl ?_
      refine zw_iload_n (pc := 103) (n := 2) (i := 2) 2 (by decide +kernel) rfl rfl ?_
      refine zw_iload_n (pc := 104) (n := 3) (i := 3) 3 (by decide +kernel) rfl rfl ?_
      refine zw_iload (pc := 105) (i := 4) 4 (by decide +kernel) rfl ?_
      refine zx_callV (pc := 107) (As := [.int (zJ (μ 226 (Int.toNat (v1 + 1)))), .int (zJ (μ 226 (Int.toNat (v1 + 2)))), .int (zJ (μ 226 (Int.toNat (v1 + 3))))]) h zi_X11_times zii_X11_times zie_X11_times zl_11_317 (by decide +kernel) ⟨Nat.le_of_ble_eq_true rfl, Nat.le_of_ble_eq_true rfl⟩ rfl zc_203 (by decide) rfl rfl ⟨rfl, rfl⟩ ⟨Nat.zero_le _, Nat.zero_le _⟩ (zki (fun x16 μ15 h => ?_))
      exact zw_iret (pc := 110) (by decide +kernel) rfl (Nat.le_refl _) (Nat.le_refl _) ⟨_, _, rfl, rfl, h⟩
    · replace h := h.2.2.2.2.1 e8
      refine zw_swIn (pc := 34) (off := 77) (tgt := 111) (by decide +kernel : decode zm_X11_does.2.1 34 = .ok (.tableswitch 119 0 7 #[46, 52, 59, 68, 77, 86, 93, 102], 46)) o5 (by omega) (by omega) (by rw [e8]; rfl) (by decide) ?_
      refine zw_aload_n (pc := 111) (n := 0) (i := 0) 0 (by decide +kernel) rfl rfl ?_
      refine zw_iload_n (pc := 112) (n := 2) (i := 2) 2 (by decide +kernel) rfl rfl ?_
      refine zw_iload_n (pc := 113) (n := 3) (i := 3) 3 (by decide +kernel) rfl rfl ?_
      refine zw_iload (pc := 114) (i := 4) 4 (by decide +kernel) rfl ?_
      refine zx_callV (pc := 116) (As := [.int (zJ (μ 226 (Int.toNat (v1 + 1)))), .int (zJ (μ 226 (Int.toNat (v1 + 2)))), .int (zJ (μ 226 (Int.toNat (v1 + 3))))]) h zi_X11_stretch zii_X11_stretch zie_X11_stretch zl_11_320 (by decide +kernel) ⟨Nat.le_of_ble_eq_true rfl, Nat.le_of_ble_eq_true rfl⟩ rfl zc_203 (by decide) rfl rfl ⟨rfl, rfl⟩ ⟨Nat.zero_le _, Nat.zero_le _⟩ (zki (fun x18 μ17 h => ?_))
      exact zw_iret (pc := 119) (by decide +kernel) rfl (Nat.le_refl _) (Nat.le_refl _) ⟨_, _, rfl, rfl, h⟩
    · replace h := h.2.2.2.2.2.1 e8
      refine zw_swIn (pc := 34) (off := 86) (tgt := 120) (by decide +kernel : decode zm_X11_does.2.1 34 = .ok (.tableswitch 119 0 7 #[46, 52, 59, 68, 77, 86, 93, 102], 46)) o5 (by omega) (by omega) (by rw [e8]; rfl) (by decide) ?_
      refine zw_aload_n (pc := 120) (n := 0) (i := 0) 0 (by decide +kernel) rfl rfl ?_
      refine zw_iload_n (pc := 121) (n := 2) (i := 2) 2 (by decide +kernel) rfl rfl ?_
      refine zw_iload_n (pc := 122) (n := 3) (i := 3) 3 (by decide +kernel) rfl rfl ?_
      refine zx_callV (pc := 123) (As := [.int (zJ (μ 226 (Int.toNat (v1 + 1)))), .int (zJ (μ 226 (Int.toNat (v1 + 2))))]) h zi_X11_over zii_X11_over zie_X11_over zl_11_323 (by decide +kernel) ⟨Nat.le_of_ble_eq_true rfl, Nat.le_of_ble_eq_true rfl⟩ rfl zc_203 (by decide) rfl rfl ⟨rfl, rfl⟩ ⟨Nat.zero_le _, Nat.zero_le _⟩ (zki (fun x20 μ19 h => ?_))
      exact zw_iret (pc := 126) (by decide +kernel) rfl (Nat.le_refl _) (Nat.le_refl _) ⟨_, _, rfl, rfl, h⟩
    · replace h := h.2.2.2.2.2.2.1 e8
      refine zw_swIn (pc := 34) (off := 93) (tgt := 127) (by decide +kernel : decode zm_X11_does.2.1 34 = .ok (.tableswitch 119 0 7 #[46, 52, 59, 68, 77, 86, 93, 102], 46)) o5 (by omega) (by omega) (by rw [e8]; rfl) (by decide) ?_
      refine zw_aload_n (pc := 127) (n := 0) (i := 0) 0 (by decide +kernel) rfl rfl ?_
      refine zw_iload_n (pc := 128) (n := 2) (i := 2) 2 (by decide +kernel) rfl rfl ?_
      refine zw_iload_n (pc := 129) (n := 3) (i := 3) 3 (by decide +kernel) rfl rfl ?_
      refine zw_iload (pc := 130) (i := 4) 4 (by decide +kernel) rfl ?_
      refine zx_callV (pc := 132) (As := [.int (zJ (μ 226 (Int.toNat (v1 + 1)))), .int (zJ (μ 226 (Int.toNat (v1 + 2)))), .int (zJ (μ 226 (Int.toNat (v1 + 3))))]) h zi_X11_power zii_X11_power zie_X11_power zl_11_326 (by decide +kernel) ⟨Nat.le_of_ble_eq_true rfl, Nat.le_of_ble_eq_true rfl⟩ rfl zc_203 (by decide) rfl rfl ⟨rfl, rfl⟩ ⟨Nat.zero_le _, Nat.zero_le _⟩ (zki (fun x22 μ21 h => ?_))
      exact zw_iret (pc := 135) (by decide +kernel) rfl (Nat.le_refl _) (Nat.le_refl _) ⟨_, _, rfl, rfl, h⟩
    · replace h := h.2.2.2.2.2.2.2 e8
      refine zw_swIn (pc := 34) (off := 102) (tgt := 136) (by decide +kernel : decode zm_X11_does.2.1 34 = .ok (.tableswitch 119 0 7 #[46, 52, 59, 68, 77, 86, 93, 102], 46)) o5 (by omega) (by omega) (by rw [e8]; rfl) (by decide) ?_
      obtain ⟨o23, h⟩ := h
      refine zw_aload_n (pc := 136) (n := 0) (i := 0) 0 (by decide +kernel) rfl rfl ?_
      refine zw_iload_n (pc := 137) (n := 2) (i := 2) 2 (by decide +kernel) rfl rfl ?_
      refine zw_iload_n (pc := 138) (n := 3) (i := 3) 3 (by decide +kernel) rfl rfl ?_
      refine zw_iload (pc := 139) (i := 4) 4 (by decide +kernel) rfl ?_
      refine zw_aload_n (pc := 141) (n := 0) (i := 0) 0 (by decide +kernel) rfl rfl ?_
      refine zx_getR (pc := 142) (o := 23) (r := 226) zf_11_82 (by decide +kernel) rfl zc_203 rfl (by decide) rfl ?_
      refine zw_iload_n (pc := 145) (n := 1) (i := 1) 1 (by decide +kernel) rfl rfl ?_
      refine zw_iconst (pc := 146) (n := 4) (by decide +kernel) ?_
      refine zw_iadd (pc := 147) (by decide +kernel) ?_
      refine zx_iaload (pc := 148) (by decide +kernel) ⟨500, zc_226, o23.1, o23.2⟩ ?_
      refine zx_callV (pc := 149) (As := [.int (zJ (μ 226 (Int.toNat (v1 + 1)))), .int (zJ (μ 226 (Int.toNat (v1 + 2)))), .int (zJ (μ 226 (Int.toNat (v1 + 3)))), .int (zJ (μ 226 (Int.toNat (v1 + 4))))]) h zi_X11_find zii_X11_find zie_X11_find zl_11_329 (by decide +kernel) ⟨Nat.le_of_ble_eq_true rfl, Nat.le_of_ble_eq_true rfl⟩ rfl zc_203 (by decide) rfl rfl ⟨rfl, rfl⟩ ⟨Nat.zero_le _, Nat.zero_le _⟩ (zki (fun x25 μ24 h => ?_))
      exact zw_iret (pc := 152) (by decide +kernel) rfl (Nat.le_refl _) (Nat.le_refl _) ⟨_, _, rfl, rfl, h⟩
abbrev at_X11_read_12 (g : zG) (φ : Int → zMu → Prop) (v1 : Int) (μ : zMu) : Prop := zWP g zm_X11_read (zmo g zm_X11_read (zΦi φ)) 12 [(0, .ref 203), (1, .int (zJ v1))] [] 0 0 (zw μ)
abbrev at_X11_read_36 (g : zG) (φ : Int → zMu → Prop) (v1 : Int) (μ : zMu) : Prop := zWP g zm_X11_read (zmo g zm_X11_read (zΦi φ)) 36 [(0, .ref 203), (1, .int (zJ v1))] [] 0 0 (zw μ)
abbrev at_X11_read_113 (g : zG) (φ : Int → zMu → Prop) (v2 : Int) (μ : zMu) : Prop := zWP g zm_X11_read (zmo g zm_X11_read (zΦi φ)) 113 [(0, .ref 203), (2, .int (zJ v2))] [] 0 0 (zw μ)
abbrev at_X11_read_134 (g : zG) (φ : Int → zMu → Prop) (v2 : Int) (μ : zMu) : Prop := zWP g zm_X11_read (zmo g zm_X11_read (zΦi φ)) 134 [(0, .ref 203), (2, .int (zJ v2))] [] 0 0 (zw μ)
abbrev at_X11_read_144 (g : zG) (φ : Int → zMu → Prop) (v2 : Int) (v3 : Int) (μ : zMu) : Prop := zWP g zm_X11_read (zmo g zm_X11_read (zΦi φ)) 144 [(0, .ref 203), (2, .int (zJ v2)), (3, .int (zJ v3))] [] 0 0 (zw μ)
theorem sg_X11_read {g : zG} {φ : Int → zMu → Prop} {μ : zMu}
    (h : at_X11_read_12 g φ 0 (zup (zup μ 203 32 0) 203 37 1)) : zOi g zm_X11_read [.ref 203] μ φ := by
  refine zok_of (by decide +kernel) rfl ?_
  show zWP g zm_X11_read (zmo g zm_X11_read (zΦi φ)) 0 [(0, .ref 203)] [] 0 0 (zw μ)
  refine zw_aload_n (pc := 0) (n := 0) (i := 0) 0 (by decide +kernel) rfl rfl ?_
  refine zw_iconst (pc := 1) (n := 0) (by decide +kernel) ?_
  refine zx_putI (pc := 2) zf_11_285 (by decide +kernel) rfl zc_203 ?_
  refine zw_aload_n (pc := 5) (n := 0) (i := 0) 0 (by decide +kernel) rfl rfl ?_
  refine zw_iconst (pc := 6) (n := 1) (by decide +kernel) ?_
  refine zx_putI (pc := 7) zf_11_349 (by decide +kernel) rfl zc_203 ?_
  refine zw_iconst (pc := 10) (n := 0) (by decide +kernel) ?_
  refine zw_istore_n (pc := 11) (n := 1) (i := 1) (lv' := [(0, .ref 203), (1, .int (zJ 0))]) (by decide +kernel) rfl (Nat.le_of_ble_eq_true rfl) rfl ?_
  exact h
theorem sg_X11_read_12 {g : zG} {φ : Int → zMu → Prop} {v1 : Int} {μ : zMu}
    (h : (zR v1) ∧ ((81 ≤ v1 → zOi g zm_X11_readsTerm [.ref 203] μ (fun x3 μ2 => at_X11_read_36 g φ x3 μ2)) ∧ (v1 < 81 → (0 ≤ v1 ∧ v1 < 81) ∧ at_X11_read_12 g φ (v1 + 1) (zup μ 227 v1.toNat 0)))) : at_X11_read_12 g φ v1 μ := by
  obtain ⟨o1, h⟩ := h
  refine zw_iload_n (pc := 12) (n := 1) (i := 1) 1 (by decide +kernel) rfl rfl ?_
  refine zw_bipush (pc := 13) (n := 81) (by decide +kernel) (by decide +kernel) ?_
  refine zw_icmp_ge (pc := 15) (off := 16) (tgt := 31) (by decide +kernel) (by decide) o1 ⟨by decide, by decide⟩ (fun hc => ?_) (fun hc => ?_)
  · replace h := h.1 hc
    refine zw_aload_n (pc := 31) (n := 0) (i := 0) 0 (by decide +kernel) rfl rfl ?_
    refine zx_callV (pc := 32) (As := []) h zi_X11_readsTerm zii_X11_readsTerm zie_X11_readsTerm zl_11_355 (by decide +kernel) ⟨Nat.le_of_ble_eq_true rfl, Nat.le_of_ble_eq_true rfl⟩ rfl zc_203 (by decide) rfl rfl ⟨rfl, rfl⟩ ⟨Nat.zero_le _, Nat.zero_le _⟩ (zki (fun x3 μ2 h => ?_))
    refine zw_istore_n (pc := 35) (n := 1) (i := 1) (lv' := [(0, .ref 203), (1, .int (zJ x3))]) (by decide +kernel) rfl (Nat.le_of_ble_eq_true rfl) rfl ?_
    exact h
  · replace h := h.2 hc
    obtain ⟨o4, h⟩ := h
    refine zw_aload_n (pc := 18) (n := 0) (i := 0) 0 (by decide +kernel) rfl rfl ?_
    refine zx_getR (pc := 19) (o := 24) (r := 227) zf_11_85 (by decide +kernel) rfl zc_203 rfl (by decide) rfl ?_
    refine zw_iload_n (pc := 22) (n := 1) (i := 1) 1 (by decide +kernel) rfl rfl ?_
    refine zw_iconst (pc := 23) (n := 0) (by decide +kernel) ?_
    refine zx_iastore (pc := 24) (by decide +kernel) ⟨81, zc_227, o4.1, o4.2⟩ ?_
    refine zw_iinc (pc := 25) (i := 1) (n := 1) (lv' := [(0, .ref 203), (1, .int (zJ (v1 + 1)))]) 1 (by decide +kernel) rfl rfl (Nat.le_of_ble_eq_true rfl) rfl ?_
    refine zw_goto (pc := 28) (off := (-16)) (tgt := 12) (by decide +kernel) (by decide) ?_
    exact h
theorem sg_X11_read_36 {g : zG} {φ : Int → zMu → Prop} {v1 : Int} {μ : zMu}
    (h : (zR v1) ∧ ((v1 = 0 → (zR (μ 203 32)) ∧ (zR (μ 203 31)) ∧ ((¬ (μ 203 32) = (μ 203 31) → (zR (zand v1 0)) ∧ ((¬ (zand v1 0) = 0 → at_X11_read_113 g φ 0 (zup (zup μ 203 31 0) 203 4 ((zup μ 203 31 0) 203 37))) ∧ ((zand v1 0) = 0 → φ ((-100) - ((zup μ 203 31 0) 203 32)) (zup μ 203 31 0)))) ∧ ((μ 203 32) = (μ 203 31) → (zR (zand v1 1)) ∧ ((¬ (zand v1 1) = 0 → at_X11_read_113 g φ 0 (zup (zup μ 203 31 0) 203 4 ((zup μ 203 31 0) 203 37))) ∧ ((zand v1 1) = 0 → φ ((-100) - ((zup μ 203 31 0) 203 32)) (zup μ 203 31 0)))))) ∧ (¬ v1 = 0 → zOi g zm_X11_here [.ref 203] μ (fun x7 μ6 => (zR x7) ∧ ((¬ x7 = 43 → (zR (μ6 203 32)) ∧ (zR (μ6 203 31)) ∧ ((¬ (μ6 203 32) = (μ6 203 31) → (zR (zand v1 0)) ∧ ((¬ (zand v1 0) = 0 → at_X11_read_113 g φ 0 (zup (zup μ6 203 31 0) 203 4 ((zup μ6 203 31 0) 203 37))) ∧ ((zand v1 0) = 0 → φ ((-100) - ((zup μ6 203 31 0) 203 32)) (zup μ6 203 31 0)))) ∧ ((μ6 203 32) = (μ6 203 31) → (zR (zand v1 1)) ∧ ((¬ (zand v1 1) = 0 → at_X11_read_113 g φ 0 (zup (zup μ6 203 31 0) 203 4 ((zup μ6 203 31 0) 203 37))) ∧ ((zand v1 1) = 0 → φ ((-100) - ((zup μ6 203 31 0) 203 32)) (zup μ6 203 31 0)))))) ∧ (x7 = 43 → zOi g zm_X11_readsTerm [.ref 203] (zup μ6 203 32 ((μ6 203 32) + 1)) (fun x14 μ13 => at_X11_read_36 g φ x14 μ13))))))) : at_X11_read_36 g φ v1 μ := by
  obtain ⟨o1, h⟩ := h
  refine zw_iload_n (pc := 36) (n := 1) (i := 1) 1 (by decide +kernel) rfl rfl ?_
  refine zw_if_eq (pc := 37) (off := 30) (tgt := 67) (by decide +kernel) (by decide) o1 (fun hc => ?_) (fun hc => ?_)
  · replace h := h.1 hc
    obtain ⟨o2, o3, h⟩ := h
    refine zw_iload_n (pc := 67) (n := 1) (i := 1) 1 (by decide +kernel) rfl rfl ?_
    refine zw_aload_n (pc := 68) (n := 0) (i := 0) 0 (by decide +kernel) rfl rfl ?_
    refine zx_getI (pc := 69) zf_11_285 (by decide +kernel) rfl zc_203 ?_
    refine zw_aload_n (pc := 72) (n := 0) (i := 0) 0 (by decide +kernel) rfl rfl ?_
    refine zx_getI (pc := 73) zf_11_282 (by decide +kernel) rfl zc_203 ?_
    refine zw_icmp_ne (pc := 76) (off := 7) (tgt := 83) (by decide +kernel) (by decide) o2 o3 (fun hc => ?_) (fun hc => ?_)
    · replace h := h.1 hc
      obtain ⟨o4, h⟩ := h
      refine zw_iconst (pc := 83) (n := 0) (by decide +kernel) ?_
      refine zw_iand (pc := 84) (by decide +kernel) ?_
      refine zw_istore_n (pc := 85) (n := 1) (i := 1) (lv' := [(0, .ref 203), (1, .int (zJ (zand v1 0)))]) (by decide +kernel) rfl (Nat.le_of_ble_eq_true rfl) rfl ?_
      refine zw_aload_n (pc := 86) (n := 0) (i := 0) 0 (by decide +kernel) rfl rfl ?_
      refine zw_iconst (pc := 87) (n := 0) (by decide +kernel) ?_
      refine zx_putI (pc := 88) zf_11_282 (by decide +kernel) rfl zc_203 ?_
      refine zw_iload_n (pc := 91) (n := 1) (i := 1) 1 (by decide +kernel) rfl rfl ?_
      refine zw_if_ne (pc := 92) (off := 11) (tgt := 103) (by decide +kernel) (by decide) o4 (fun hc => ?_) (fun hc => ?_)
      · replace h := h.1 hc
        refine zw_aload_n (pc := 103) (n := 0) (i := 0) 0 (by decide +kernel) rfl rfl ?_
        refine zw_aload_n (pc := 104) (n := 0) (i := 0) 0 (by decide +kernel) rfl rfl ?_
        refine zx_getI (pc := 105) zf_11_349 (by decide +kernel) rfl zc_203 ?_
        refine zx_putI (pc := 108) zf_11_128 (by decide +kernel) rfl zc_203 ?_
        refine zw_iconst (pc := 111) (n := 0) (by decide +kernel) ?_
        refine zw_istore_n (pc := 112) (n := 2) (i := 2) (lv' := [(0, .ref 203), (1, .int (zJ (zand v1 0))), (2, .int (zJ 0))]) (by decide +kernel) rfl (Nat.le_of_ble_eq_true rfl) rfl ?_
        exact zw_pick (lv' := [(0, .ref 203), (2, .int (zJ 0))]) [0, 2] rfl h
      · replace h := h.2 hc
        refine zw_bipush (pc := 95) (n := (-100)) (by decide +kernel) (by decide +kernel) ?_
        refine zw_aload_n (pc := 97) (n := 0) (i := 0) 0 (by decide +kernel) rfl rfl ?_
        refine zx_getI (pc := 98) zf_11_285 (by decide +kernel) rfl zc_203 ?_
        refine zw_isub (pc := 101) (by decide +kernel) ?_
        exact zw_iret (pc := 102) (by decide +kernel) rfl (Nat.le_refl _) (Nat.le_refl _) ⟨_, _, rfl, rfl, h⟩
    · replace h := h.2 hc
      obtain ⟨o5, h⟩ := h
      refine zw_iconst (pc := 79) (n := 1) (by decide +kernel) ?_
      refine zw_goto (pc := 80) (off := 4) (tgt := 84) (by decide +kernel) (by decide) ?_
      refine zw_iand (pc := 84) (by decide +kernel) ?_
      refine zw_istore_n (pc := 85) (n := 1) (i := 1) (lv' := [(0, .ref 203), (1, .int (zJ (zand v1 1)))]) (by decide +kernel) rfl (Nat.le_of_ble_eq_true rfl) rfl ?_
      refine zw_aload_n (pc := 86) (n := 0) (i := 0) 0 (by decide +kernel) rfl rfl ?_
      refine zw_iconst (pc := 87) (n := 0) (by decide +kernel) ?_
      refine zx_putI (pc := 88) zf_11_282 (by decide +kernel) rfl zc_203 ?_
      refine zw_iload_n (pc := 91) (n := 1) (i := 1) 1 (by decide +kernel) rfl rfl ?_
      refine zw_if_ne (pc := 92) (off := 11) (tgt := 103) (by decide +kernel) (by decide) o5 (fun hc => ?_) (fun hc => ?_)
      · replace h := h.1 hc
        refine zw_aload_n (pc := 103) (n := 0) (i := 0) 0 (by decide +kernel) rfl rfl ?_
        refine zw_aload_n (pc := 104) (n := 0) (i := 0) 0 (by decide +kernel) rfl rfl ?_
        refine zx_getI (pc := 105) zf_11_349 (by decide +kernel) rfl zc_203 ?_
        refine zx_putI (pc := 108) zf_11_128 (by decide +kernel) rfl zc_203 ?_
        refine zw_iconst (pc := 111) (n := 0) (by decide +kernel) ?_
        refine zw_istore_n (pc := 112) (n := 2) (i := 2) (lv' := [(0, .ref 203), (1, .int (zJ (zand v1 1))), (2, .int (zJ 0))]) (by decide +kernel) rfl (Nat.le_of_ble_eq_true rfl) rfl ?_
        exact zw_pick (lv' := [(0, .ref 203), (2, .int (zJ 0))]) [0, 2] rfl h
      · replace h := h.2 hc
        refine zw_bipush (pc := 95) (n := (-100)) (by decide +kernel) (by decide +kernel) ?_
        refine zw_aload_n (pc := 97) (n := 0) (i := 0) 0 (by decide +kernel) rfl rfl ?_
        refine zx_getI (pc := 98) zf_11_285 (by decide +kernel) rfl zc_203 ?_
        refine zw_isub (pc := 101) (by decide +kernel) ?_
        exact zw_iret (pc := 102) (by decide +kernel) rfl (Nat.le_refl _) (Nat.le_refl _) ⟨_, _, rfl, rfl, h⟩
  · replace h := h.2 hc
    refine zw_aload_n (pc := 40) (n := 0) (i := 0) 0 (by decide +kernel) rfl rfl ?_
    refine zx_callV (pc := 41) (As := []) h zi_X11_here zii_X11_here zie_X11_here zl_11_288 (by decide +kernel) ⟨Nat.le_of_ble_eq_true rfl, Nat.le_of_ble_eq_true rfl⟩ rfl zc_203 (by decide) rfl rfl ⟨rfl, rfl⟩ ⟨Nat.zero_le _, Nat.zero_le _⟩ (zki (fun x7 μ6 h => ?_))
    obtain ⟨o8, h⟩ := h
    refine zw_bipush (pc := 44) (n := 43) (by decide +kernel) (by decide +kernel) ?_
    refine zw_icmp_ne (pc := 46) (off := 21) (tgt := 67) (by decide +kernel) (by decide) o8 ⟨by decide, by decide⟩ (fun hc => ?_) (fun hc => ?_)
    · replace h := h.1 hc
      obtain ⟨o9, o10, h⟩ := h
      refine zw_iload_n (pc := 67) (n := 1) (i := 1) 1 (by decide +kernel) rfl rfl ?_
      refine zw_aload_n (pc := 68) (n := 0) (i := 0) 0 (by decide +kernel) rfl rfl ?_
      refine zx_getI (pc := 69) zf_11_285 (by decide +kernel) rfl zc_203 ?_
      refine zw_aload_n (pc := 72) (n := 0) (i := 0) 0 (by decide +kernel) rfl rfl ?_
      refine zx_getI (pc := 73) zf_11_282 (by decide +kernel) rfl zc_203 ?_
      refine zw_icmp_ne (pc := 76) (off := 7) (tgt := 83) (by decide +kernel) (by decide) o9 o10 (fun hc => ?_) (fun hc => ?_)
      · replace h := h.1 hc
        obtain ⟨o11, h⟩ := h
        refine zw_iconst (pc := 83) (n := 0) (by decide +kernel) ?_
        refine zw_iand (pc := 84) (by decide +kernel) ?_
        refine zw_istore_n (pc := 85) (n := 1) (i := 1) (lv' := [(0, .ref 203), (1, .int (zJ (zand v1 0)))]) (by decide +kernel) rfl (Nat.le_of_ble_eq_true rfl) rfl ?_
        refine zw_aload_n (pc := 86) (n := 0) (i := 0) 0 (by decide +kernel) rfl rfl ?_
        refine zw_iconst (pc := 87) (n := 0) (by decide +kernel) ?_
        refine zx_putI (pc := 88) zf_11_282 (by decide +kernel) rfl zc_203 ?_
        refine zw_iload_n (pc := 91) (n := 1) (i := 1) 1 (by decide +kernel) rfl rfl ?_
        refine zw_if_ne (pc := 92) (off := 11) (tgt := 103) (by decide +kernel) (by decide) o11 (fun hc => ?_) (fun hc => ?_)
        · replace h := h.1 hc
          refine zw_aload_n (pc := 103) (n := 0) (i := 0) 0 (by decide +kernel) rfl rfl ?_
          refine zw_aload_n (pc := 104) (n := 0) (i := 0) 0 (by decide +kernel) rfl rfl ?_
          refine zx_getI (pc := 105) zf_11_349 (by decide +kernel) rfl zc_203 ?_
          refine zx_putI (pc := 108) zf_11_128 (by decide +kernel) rfl zc_203 ?_
          refine zw_iconst (pc := 111) (n := 0) (by decide +kernel) ?_
          refine zw_istore_n (pc := 112) (n := 2) (i := 2) (lv' := [(0, .ref 203), (1, .int (zJ (zand v1 0))), (2, .int (zJ 0))]) (by decide +kernel) rfl (Nat.le_of_ble_eq_true rfl) rfl ?_
          exact zw_pick (lv' := [(0, .ref 203), (2, .int (zJ 0))]) [0, 2] rfl h
        · replace h := h.2 hc
          refine zw_bipush (pc := 95) (n := (-100)) (by decide +kernel) (by decide +kernel) ?_
          refine zw_aload_n (pc := 97) (n := 0) (i := 0) 0 (by decide +kernel) rfl rfl ?_
          refine zx_getI (pc := 98) zf_11_285 (by decide +kernel) rfl zc_203 ?_
          refine zw_isub (pc := 101) (by decide +kernel) ?_
          exact zw_iret (pc := 102) (by decide +kernel) rfl (Nat.le_refl _) (Nat.le_refl _) ⟨_, _, rfl, rfl, h⟩
      · replace h := h.2 hc
        obtain ⟨o12, h⟩ := h
        refine zw_iconst (pc := 79) (n := 1) (by decide +kernel) ?_
        refine zw_goto (pc := 80) (off := 4) (tgt := 84) (by decide +kernel) (by decide) ?_
        refine zw_iand (pc := 84) (by decide +kernel) ?_
        refine zw_istore_n (pc := 85) (n := 1) (i := 1) (lv' := [(0, .ref 203), (1, .int (zJ (zand v1 1)))]) (by decide +kernel) rfl (Nat.le_of_ble_eq_true rfl) rfl ?_
        refine zw_aload_n (pc := 86) (n := 0) (i := 0) 0 (by decide +kernel) rfl rfl ?_
        refine zw_iconst (pc := 87) (n := 0) (by decide +kernel) ?_
        refine zx_putI (pc := 88) zf_11_282 (by decide +kernel) rfl zc_203 ?_
        refine zw_iload_n (pc := 91) (n := 1) (i := 1) 1 (by decide +kernel) rfl rfl ?_
        refine zw_if_ne (pc := 92) (off := 11) (tgt := 103) (by decide +kernel) (by decide) o12 (fun hc => ?_) (fun hc => ?_)
        · replace h := h.1 hc
          refine zw_aload_n (pc := 103) (n := 0) (i := 0) 0 (by decide +kernel) rfl rfl ?_
          refine zw_aload_n (pc := 104) (n := 0) (i := 0) 0 (by decide +kernel) rfl rfl ?_
          refine zx_getI (pc := 105) zf_11_349 (by decide +kernel) rfl zc_203 ?_
          refine zx_putI (pc := 108) zf_11_128 (by decide +kernel) rfl zc_203 ?_
          refine zw_iconst (pc := 111) (n := 0) (by decide +kernel) ?_
          refine zw_istore_n (pc := 112) (n := 2) (i := 2) (lv' := [(0, .ref 203), (1, .int (zJ (zand v1 1))), (2, .int (zJ 0))]) (by decide +kernel) rfl (Nat.le_of_ble_eq_true rfl) rfl ?_
          exact zw_pick (lv' := [(0, .ref 203), (2, .int (zJ 0))]) [0, 2] rfl h
        · replace h := h.2 hc
          refine zw_bipush (pc := 95) (n := (-100)) (by decide +kernel) (by decide +kernel) ?_
          refine zw_aload_n (pc := 97) (n := 0) (i := 0) 0 (by decide +kernel) rfl rfl ?_
          refine zx_getI (pc := 98) zf_11_285 (by decide +kernel) rfl zc_203 ?_
          refine zw_isub (pc := 101) (by decide +kernel) ?_
          exact zw_iret (pc := 102) (by decide +kernel) rfl (Nat.le_refl _) (Nat.le_refl _) ⟨_, _, rfl, rfl, h⟩
    · replace h := h.2 hc
      refine zw_aload_n (pc := 49) (n := 0) (i := 0) 0 (by decide +kernel) rfl rfl ?_
      refine zw_dup (pc := 50) (by decide +kernel) rfl ?_
      refine zx_getI (pc := 51) zf_11_285 (by decide +kernel) rfl zc_203 ?_
      refine zw_iconst (pc := 54) (n := 1) (by decide +kernel) ?_
      refine zw_iadd (pc := 55) (by decide +kernel) ?_
      refine zx_putI (pc := 56) zf_11_285 (by decide +kernel) rfl zc_203 ?_
      refine zw_aload_n (pc := 59) (n := 0) (i := 0) 0 (by decide +kernel) rfl rfl ?_
      refine zx_callV (pc := 60) (As := []) h zi_X11_readsTerm zii_X11_readsTerm zie_X11_readsTerm zl_11_355 (by decide +kernel) ⟨Nat.le_of_ble_eq_true rfl, Nat.le_of_ble_eq_true rfl⟩ rfl zc_203 (by decide) rfl rfl ⟨rfl, rfl⟩ ⟨Nat.zero_le _, Nat.zero_le _⟩ (zki (fun x14 μ13 h => ?_))
      refine zw_istore_n (pc := 63) (n := 1) (i := 1) (lv' := [(0, .ref 203), (1, .int (zJ x14))]) (by decide +kernel) rfl (Nat.le_of_ble_eq_true rfl) rfl ?_
      refine zw_goto (pc := 64) (off := (-28)) (tgt := 36) (by decide +kernel) (by decide) ?_
      exact h
theorem sg_X11_read_113 {g : zG} {φ : Int → zMu → Prop} {v2 : Int} {μ : zMu}
    (h : (zR v2) ∧ ((81 ≤ v2 → at_X11_read_134 g φ 0 μ) ∧ (v2 < 81 → (0 ≤ v2 ∧ v2 < 81) ∧ at_X11_read_113 g φ (v2 + 1) (zup μ 207 v2.toNat 0)))) : at_X11_read_113 g φ v2 μ := by
  obtain ⟨o1, h⟩ := h
  refine zw_iload_n (pc := 113) (n := 2) (i := 2) 1 (by decide +kernel) rfl rfl ?_
  refine zw_bipush (pc := 114) (n := 81) (by decide +kernel) (by decide +kernel) ?_
  refine zw_icmp_ge (pc := 116) (off := 16) (tgt := 132) (by decide +kernel) (by decide) o1 ⟨by decide, by decide⟩ (fun hc => ?_) (fun hc => ?_)
  · replace h := h.1 hc
    refine zw_iconst (pc := 132) (n := 0) (by decide +kernel) ?_
    refine zw_istore_n (pc := 133) (n := 2) (i := 2) (lv' := [(0, .ref 203), (2, .int (zJ 0))]) (by decide +kernel) rfl (Nat.le_of_ble_eq_true rfl) rfl ?_
    exact h
  · replace h := h.2 hc
    obtain ⟨o2, h⟩ := h
    refine zw_aload_n (pc := 119) (n := 0) (i := 0) 0 (by decide +kernel) rfl rfl ?_
    refine zx_getR (pc := 120) (o := 4) (r := 207) zf_11_25 (by decide +kernel) rfl zc_203 rfl (by decide) rfl ?_
    refine zw_iload_n (pc := 123) (n := 2) (i := 2) 1 (by decide +kernel) rfl rfl ?_
    refine zw_iconst (pc := 124) (n := 0) (by decide +kernel) ?_
    refine zx_iastore (pc := 125) (by decide +kernel) ⟨81, zc_207, o2.1, o2.2⟩ ?_
    refine zw_iinc (pc := 126) (i := 2) (n := 1) (lv' := [(0, .ref 203), (2, .int (zJ (v2 + 1)))]) 1 (by decide +kernel) rfl rfl (Nat.le_of_ble_eq_true rfl) rfl ?_
    refine zw_goto (pc := 129) (off := (-16)) (tgt := 113) (by decide +kernel) (by decide) ?_
    exact h
theorem sg_X11_read_134 {g : zG} {φ : Int → zMu → Prop} {v2 : Int} {μ : zMu}
    (h : (zR v2) ∧ (zR (μ 203 4)) ∧ (((μ 203 4) < v2 → φ (μ 203 4) μ) ∧ (v2 ≤ (μ 203 4) → at_X11_read_144 g φ v2 0 μ))) : at_X11_read_134 g φ v2 μ := by
  obtain ⟨o1, o2, h⟩ := h
  refine zw_iload_n (pc := 134) (n := 2) (i := 2) 1 (by decide +kernel) rfl rfl ?_
  refine zw_aload_n (pc := 135) (n := 0) (i := 0) 0 (by decide +kernel) rfl rfl ?_
  refine zx_getI (pc := 136) zf_11_128 (by decide +kernel) rfl zc_203 ?_
  refine zw_icmp_gt (pc := 139) (off := 50) (tgt := 189) (by decide +kernel) (by decide) o1 o2 (fun hc => ?_) (fun hc => ?_)
  · replace h := h.1 hc
    refine zw_aload_n (pc := 189) (n := 0) (i := 0) 0 (by decide +kernel) rfl rfl ?_
    refine zx_getI (pc := 190) zf_11_128 (by decide +kernel) rfl zc_203 ?_
    exact zw_iret (pc := 193) (by decide +kernel) rfl (Nat.le_refl _) (Nat.le_refl _) ⟨_, _, rfl, rfl, h⟩
  · replace h := h.2 hc
    refine zw_iconst (pc := 142) (n := 0) (by decide +kernel) ?_
    refine zw_istore_n (pc := 143) (n := 3) (i := 3) (lv' := [(0, .ref 203), (2, .int (zJ v2)), (3, .int (zJ 0))]) (by decide +kernel) rfl (Nat.le_of_ble_eq_true rfl) rfl ?_
    exact h
theorem sg_X11_read_144 {g : zG} {φ : Int → zMu → Prop} {v2 : Int} {v3 : Int} {μ : zMu}
    (h : (zR v3) ∧ (zR (μ 203 4)) ∧ (((μ 203 4) < v3 → at_X11_read_134 g φ (v2 + 1) μ) ∧ (v3 ≤ (μ 203 4) → zOi g zm_X11_place [.int (zJ (μ 203 4)), .int (zJ v2), .int (zJ v3)] μ (fun x4 μ3 => (0 ≤ ((9 * v2) + v3) ∧ ((9 * v2) + v3) < 81) ∧ (0 ≤ x4 ∧ x4 < 81) ∧ at_X11_read_144 g φ v2 (v3 + 1) (zup μ3 207 x4.toNat (μ3 227 (Int.toNat ((9 * v2) + v3)))))))) : at_X11_read_144 g φ v2 v3 μ := by
  obtain ⟨o1, o2, h⟩ := h
  refine zw_iload_n (pc := 144) (n := 3) (i := 3) 2 (by decide +kernel) rfl rfl ?_
  refine zw_aload_n (pc := 145) (n := 0) (i := 0) 0 (by decide +kernel) rfl rfl ?_
  refine zx_getI (pc := 146) zf_11_128 (by decide +kernel) rfl zc_203 ?_
  refine zw_icmp_gt (pc := 149) (off := 34) (tgt := 183) (by decide +kernel) (by decide) o1 o2 (fun hc => ?_) (fun hc => ?_)
  · replace h := h.1 hc
    refine zw_iinc (pc := 183) (i := 2) (n := 1) (lv' := [(0, .ref 203), (2, .int (zJ (v2 + 1))), (3, .int (zJ v3))]) 1 (by decide +kernel) rfl rfl (Nat.le_of_ble_eq_true rfl) rfl ?_
    refine zw_goto (pc := 186) (off := (-52)) (tgt := 134) (by decide +kernel) (by decide) ?_
    exact zw_pick (lv' := [(0, .ref 203), (2, .int (zJ (v2 + 1)))]) [0, 1] rfl h
  · replace h := h.2 hc
    refine zw_aload_n (pc := 152) (n := 0) (i := 0) 0 (by decide +kernel) rfl rfl ?_
    refine zx_getR (pc := 153) (o := 4) (r := 207) zf_11_25 (by decide +kernel) rfl zc_203 rfl (by decide) rfl ?_
    refine zw_aload_n (pc := 156) (n := 0) (i := 0) 0 (by decide +kernel) rfl rfl ?_
    refine zx_getI (pc := 157) zf_11_128 (by decide +kernel) rfl zc_203 ?_
    refine zw_iload_n (pc := 160) (n := 2) (i := 2) 1 (by decide +kernel) rfl rfl ?_
    refine zw_iload_n (pc := 161) (n := 3) (i := 3) 2 (by decide +kernel) rfl rfl ?_
    refine zx_callS (pc := 162) (As := [.int (zJ (μ 203 4)), .int (zJ v2), .int (zJ v3)]) h zi_X11_place zis_X11_place zl_11_218 (by decide +kernel) ⟨Nat.le_of_ble_eq_true rfl, Nat.le_of_ble_eq_true rfl⟩ rfl rfl ⟨rfl, rfl⟩ ⟨Nat.zero_le _, Nat.zero_le _⟩ (zki (fun x4 μ3 h => ?_))
    obtain ⟨o5, o6, h⟩ := h
    refine zw_aload_n (pc := 165) (n := 0) (i := 0) 0 (by decide +kernel) rfl rfl ?_
    refine zx_getR (pc := 166) (o := 24) (r := 227) zf_11_85 (by decide +kernel) rfl zc_203 rfl (by decide) rfl ?_
    refine zw_bipush (pc := 169) (n := 9) (by decide +kernel) (by decide +kernel) ?_
    refine zw_iload_n (pc := 171) (n := 2) (i := 2) 1 (by decide +kernel) rfl rfl ?_
    refine zw_imul (pc := 172) (by decide +kernel) ?_
    refine zw_iload_n (pc := 173) (n := 3) (i := 3) 2 (by decide +kernel) rfl rfl ?_
    refine zw_iadd (pc := 174) (by decide +kernel) ?_
    refine zx_iaload (pc := 175) (by decide +kernel) ⟨81, zc_227, o5.1, o5.2⟩ ?_
    refine zx_iastore (pc := 176) (by decide +kernel) ⟨81, zc_207, o6.1, o6.2⟩ ?_
    refine zw_iinc (pc := 177) (i := 3) (n := 1) (lv' := [(0, .ref 203), (2, .int (zJ v2)), (3, .int (zJ (v3 + 1)))]) 2 (by decide +kernel) rfl rfl (Nat.le_of_ble_eq_true rfl) rfl ?_
    refine zw_goto (pc := 180) (off := (-36)) (tgt := 144) (by decide +kernel) (by decide) ?_
    exact h
abbrev at_X11_readsTerm_13 (g : zG) (φ : Int → zMu → Prop) (v1 : Int) (v2 : Int) (μ : zMu) : Prop := zWP g zm_X11_readsTerm (zmo g zm_X11_readsTerm (zΦi φ)) 13 [(0, .ref 203), (1, .int (zJ v1)), (2, .int (zJ v2))] [] 0 0 (zw μ)
theorem sg_X11_readsTerm {g : zG} {φ : Int → zMu → Prop} {μ : zMu}
    (h : zOi g zm_X11_isFigure [.ref 203] μ (fun x2 μ1 => (zR x2) ∧ ((¬ x2 = 0 → at_X11_readsTerm_13 g φ 0 0 μ1) ∧ (x2 = 0 → φ 0 μ1)))) : zOi g zm_X11_readsTerm [.ref 203] μ φ := by
  refine zok_of (by decide +kernel) rfl ?_
  show zWP g zm_X11_readsTerm (zmo g zm_X11_readsTerm (zΦi φ)) 0 [(0, .ref 203)] [] 0 0 (zw μ)
  refine zw_aload_n (pc := 0) (n := 0) (i := 0) 0 (by decide +kernel) rfl rfl ?_
  refine zx_callV (pc := 1) (As := []) h zi_X11_isFigure zii_X11_isFigure zie_X11_isFigure zl_11_305 (by decide +kernel) ⟨Nat.le_of_ble_eq_true rfl, Nat.le_of_ble_eq_true rfl⟩ rfl zc_203 (by decide) rfl rfl ⟨rfl, rfl⟩ ⟨Nat.zero_le _, Nat.zero_le _⟩ (zki (fun x2 μ1 h => ?_))
  obtain ⟨o3, h⟩ := h
  refine zw_if_ne (pc := 4) (off := 5) (tgt := 9) (by decide +kernel) (by decide) o3 (fun hc => ?_) (fun hc => ?_)
  · replace h := h.1 hc
    refine zw_iconst (pc := 9) (n := 0) (by decide +kernel) ?_
    refine zw_istore_n (pc := 10) (n := 1) (i := 1) (lv' := [(0, .ref 203), (1, .int (zJ 0))]) (by decide +kernel) rfl (Nat.le_of_ble_eq_true rfl) rfl ?_
    refine zw_iconst (pc := 11) (n := 0) (by decide +kernel) ?_
    refine zw_istore_n (pc := 12) (n := 2) (i := 2) (lv' := [(0, .ref 203), (1, .int (zJ 0)), (2, .int (zJ 0))]) (by decide +kernel) rfl (Nat.le_of_ble_eq_true rfl) rfl ?_
    exact h
  · replace h := h.2 hc
    refine zw_iconst (pc := 7) (n := 0) (by decide +kernel) ?_
    exact zw_zret (pc := 8) (by decide +kernel) rfl (Nat.le_refl _) (Nat.le_refl _) (Or.inl rfl) ⟨_, _, rfl, rfl, h⟩
theorem sg_X11_readsTerm_13 {g : zG} {φ : Int → zMu → Prop} {v1 : Int} {v2 : Int} {μ : zMu}
    (h : (zR v2) ∧ ((3 ≤ v2 → zOi g zm_X11_readsPower [.ref 203, .int (zJ 120)] μ (fun x3 μ2 => (zR x3) ∧ ((0 ≤ x3 → zOi g zm_X11_readsPower [.ref 203, .int (zJ 121)] μ2 (fun x6 μ5 => (zR x6) ∧ ((0 ≤ x6 → (zR (μ5 203 37)) ∧ (zR (max x3 x6)) ∧ (0 ≤ ((9 * x3) + x6) ∧ ((9 * x3) + x6) < 81) ∧ (zR (((zup μ5 203 37 (max (μ5 203 37) (max x3 x6))) 227 (Int.toNat ((9 * x3) + x6))) + v1)) ∧ (zR ((zup μ5 203 37 (max (μ5 203 37) (max x3 x6))) 203 0)) ∧ (((zup μ5 203 37 (max (μ5 203 37) (max x3 x6))) 203 0) ≠ 0) ∧ φ 1 (zup (zup μ5 203 37 (max (μ5 203 37) (max x3 x6))) 227 (Int.toNat ((9 * x3) + x6)) ((((zup μ5 203 37 (max (μ5 203 37) (max x3 x6))) 227 (Int.toNat ((9 * x3) + x6))) + v1).tmod ((zup μ5 203 37 (max (μ5 203 37) (max x3 x6))) 203 0)))) ∧ (x6 < 0 → φ 0 μ5)))) ∧ (x3 < 0 → φ 0 μ2)))) ∧ (v2 < 3 → zOi g zm_X11_isFigure [.ref 203] μ (fun x15 μ14 => (zR x15) ∧ ((x15 = 0 → zOi g zm_X11_readsPower [.ref 203, .int (zJ 120)] μ14 (fun x18 μ17 => (zR x18) ∧ ((0 ≤ x18 → zOi g zm_X11_readsPower [.ref 203, .int (zJ 121)] μ17 (fun x21 μ20 => (zR x21) ∧ ((0 ≤ x21 → (zR (μ20 203 37)) ∧ (zR (max x18 x21)) ∧ (0 ≤ ((9 * x18) + x21) ∧ ((9 * x18) + x21) < 81) ∧ (zR (((zup μ20 203 37 (max (μ20 203 37) (max x18 x21))) 227 (Int.toNat ((9 * x18) + x21))) + v1)) ∧ (zR ((zup μ20 203 37 (max (μ20 203 37) (max x18 x21))) 203 0)) ∧ (((zup μ20 203 37 (max (μ20 203 37) (max x18 x21))) 203 0) ≠ 0) ∧ φ 1 (zup (zup μ20 203 37 (max (μ20 203 37) (max x18 x21))) 227 (Int.toNat ((9 * x18) + x21)) ((((zup μ20 203 37 (max (μ20 203 37) (max x18 x21))) 227 (Int.toNat ((9 * x18) + x21))) + v1).tmod ((zup μ20 203 37 (max (μ20 203 37) (max x18 x21))) 203 0)))) ∧ (x21 < 0 → φ 0 μ20)))) ∧ (x18 < 0 → φ 0 μ17)))) ∧ (¬ x15 = 0 → zOi g zm_X11_here [.ref 203] μ14 (fun x30 μ29 => at_X11_readsTerm_13 g φ (((10 * v1) + x30) - 48) (v2 + 1) (zup μ29 203 32 ((μ29 203 32) + 1))))))))) : at_X11_readsTerm_13 g φ v1 v2 μ := by
  obtain ⟨o1, h⟩ := h
  refine zw_iload_n (pc := 13) (n := 2) (i := 2) 2 (by decide +kernel) rfl rfl ?_
  refine zw_iconst (pc := 14) (n := 3) (by decide +kernel) ?_
  refine zw_icmp_ge (pc := 15) (off := 39) (tgt := 54) (by decide +kernel) (by decide) o1 ⟨by decide, by decide⟩ (fun hc => ?_) (fun hc => ?_)
  · replace h := h.1 hc
    refine zw_aload_n (pc := 54) (n := 0) (i := 0) 0 (by decide +kernel) rfl rfl ?_
    refine zw_bipush (pc := 55) (n := 120) (by decide +kernel) (by decide +kernel) ?_
    refine zx_callV (pc := 57) (As := [.int (zJ 120)]) h zi_X11_readsPower zii_X11_readsPower zie_X11_readsPower zl_11_346 (by decide +kernel) ⟨Nat.le_of_ble_eq_true rfl, Nat.le_of_ble_eq_true rfl⟩ rfl zc_203 (by decide) rfl rfl ⟨rfl, rfl⟩ ⟨Nat.zero_le _, Nat.zero_le _⟩ (zki (fun x3 μ2 h => ?_))
    obtain ⟨o4, h⟩ := h
    refine zw_istore_n (pc := 60) (n := 2) (i := 2) (lv' := [(0, .ref 203), (1, .int (zJ v1)), (2, .int (zJ x3))]) (by decide +kernel) rfl (Nat.le_of_ble_eq_true rfl) rfl ?_
    refine zw_iload_n (pc := 61) (n := 2) (i := 2) 2 (by decide +kernel) rfl rfl ?_
    refine zw_if_ge (pc := 62) (off := 7) (tgt := 69) (by decide +kernel) (by decide) o4 (fun hc => ?_) (fun hc => ?_)
    · replace h := h.1 hc
      refine zw_aload_n (pc := 69) (n := 0) (i := 0) 0 (by decide +kernel) rfl rfl ?_
      refine zw_bipush (pc := 70) (n := 121) (by decide +kernel) (by decide +kernel) ?_
      refine zx_callV (pc := 72) (As := [.int (zJ 121)]) h zi_X11_readsPower zii_X11_readsPower zie_X11_readsPower zl_11_346 (by decide +kernel) ⟨Nat.le_of_ble_eq_true rfl, Nat.le_of_ble_eq_true rfl⟩ rfl zc_203 (by decide) rfl rfl ⟨rfl, rfl⟩ ⟨Nat.zero_le _, Nat.zero_le _⟩ (zki (fun x6 μ5 h => ?_))
      obtain ⟨o7, h⟩ := h
      refine zw_istore_n (pc := 75) (n := 3) (i := 3) (lv' := [(0, .ref 203), (1, .int (zJ v1)), (2, .int (zJ x3)), (3, .int (zJ x6))]) (by decide +kernel) rfl (Nat.le_of_ble_eq_true rfl) rfl ?_
      refine zw_iload_n (pc := 76) (n := 3) (i := 3) 3 (by decide +kernel) rfl rfl ?_
      refine zw_if_ge (pc := 77) (off := 5) (tgt := 82) (by decide +kernel) (by decide) o7 (fun hc => ?_) (fun hc => ?_)
      · replace h := h.1 hc
        obtain ⟨o8, o9, o10, o11, o12, o13, h⟩ := h
        refine zw_aload_n (pc := 82) (n := 0) (i := 0) 0 (by decide +kernel) rfl rfl ?_
        refine zw_aload_n (pc := 83) (n := 0) (i := 0) 0 (by decide +kernel) rfl rfl ?_
        refine zx_getI (pc := 84) zf_11_349 (by decide +kernel) rfl zc_203 ?_
        refine zw_iload_n (pc := 87) (n := 2) (i := 2) 2 (by decide +kernel) rfl rfl ?_
        refine zw_iload_n (pc := 88) (n := 3) (i := 3) 3 (by decide +kernel) rfl rfl ?_
        refine zw_max (pc := 89) zl_11_352 zb_maxS zb_mathI zb_maxC (by decide +kernel) ⟨Nat.le_of_ble_eq_true rfl, Nat.le_of_ble_eq_true rfl⟩ (Nat.zero_le _) (Nat.zero_le _) rfl o4 o7 ?_
        refine zw_max (pc := 92) zl_11_352 zb_maxS zb_mathI zb_maxC (by decide +kernel) ⟨Nat.le_of_ble_eq_true rfl, Nat.le_of_ble_eq_true rfl⟩ (Nat.zero_le _) (Nat.zero_le _) rfl o8 o9 ?_
        refine zx_putI (pc := 95) zf_11_349 (by decide +kernel) rfl zc_203 ?_
        refine zw_aload_n (pc := 98) (n := 0) (i := 0) 0 (by decide +kernel) rfl rfl ?_
        refine zx_getR (pc := 99) (o := 24) (r := 227) zf_11_85 (by decide +kernel) rfl zc_203 rfl (by decide) rfl ?_
        refine zw_bipush (pc := 102) (n := 9) (by decide +kernel) (by decide +kernel) ?_
        refine zw_iload_n (pc := 104) (n := 2) (i := 2) 2 (by decide +kernel) rfl rfl ?_
        refine zw_imul (pc := 105) (by decide +kernel) ?_
        refine zw_iload_n (pc := 106) (n := 3) (i := 3) 3 (by decide +kernel) rfl rfl ?_
        refine zw_iadd (pc := 107) (by decide +kernel) ?_
        refine zw_aload_n (pc := 108) (n := 0) (i := 0) 0 (by decide +kernel) rfl rfl ?_
        refine zx_getR (pc := 109) (o := 24) (r := 227) zf_11_85 (by decide +kernel) rfl zc_203 rfl (by decide) rfl ?_
        refine zw_bipush (pc := 112) (n := 9) (by decide +kernel) (by decide +kernel) ?_
        refine zw_iload_n (pc := 114) (n := 2) (i := 2) 2 (by decide +kernel) rfl rfl ?_
        refine zw_imul (pc := 115) (by decide +kernel) ?_
        refine zw_iload_n (pc := 116) (n := 3) (i := 3) 3 (by decide +kernel) rfl rfl ?_
        refine zw_iadd (pc := 117) (by decide +kernel) ?_
        refine zx_iaload (pc := 118) (by decide +kernel) ⟨81, zc_227, o10.1, o10.2⟩ ?_
        refine zw_iload_n (pc := 119) (n := 1) (i := 1) 1 (by decide +kernel) rfl rfl ?_
        refine zw_iadd (pc := 120) (by decide +kernel) ?_
        refine zw_aload_n (pc := 121) (n := 0) (i := 0) 0 (by decide +kernel) rfl rfl ?_
        refine zx_getI (pc := 122) zf_11_9 (by decide +kernel) rfl zc_203 ?_
        refine zw_irem (pc := 125) (by decide +kernel) o11 o12 o13 ?_
        refine zx_iastore (pc := 126) (by decide +kernel) ⟨81, zc_227, o10.1, o10.2⟩ ?_
        refine zw_iconst (pc := 127) (n := 1) (by decide +kernel) ?_
        exact zw_zret (pc := 128) (by decide +kernel) rfl (Nat.le_refl _) (Nat.le_refl _) (Or.inr rfl) ⟨_, _, rfl, rfl, h⟩
      · replace h := h.2 hc
        refine zw_iconst (pc := 80) (n := 0) (by decide +kernel) ?_
        exact zw_zret (pc := 81) (by decide +kernel) rfl (Nat.le_refl _) (Nat.le_refl _) (Or.inl rfl) ⟨_, _, rfl, rfl, h⟩
    · replace h := h.2 hc
      refine zw_iconst (pc := 65) (n := (-1)) (by decide +kernel) ?_
      refine zw_goto (pc := 66) (off := 9) (tgt := 75) (by decide +kernel) (by decide) ?_
      refine zw_istore_n (pc := 75) (n := 3) (i := 3) (lv' := [(0, .ref 203), (1, .int (zJ v1)), (2, .int (zJ x3)), (3, .int (zJ (-1)))]) (by decide +kernel) rfl (Nat.le_of_ble_eq_true rfl) rfl ?_
      refine zw_iload_n (pc := 76) (n := 3) (i := 3) 3 (by decide +kernel) rfl rfl ?_
      refine zw_if_ge (pc := 77) (off := 5) (tgt := 82) (by decide +kernel) (by decide) ⟨by decide, by decide⟩ (fun hc => absurd hc (by decide)) (fun hc => ?_)
      refine zw_iconst (pc := 80) (n := 0) (by decide +kernel) ?_
      exact zw_zret (pc := 81) (by decide +kernel) rfl (Nat.le_refl _) (Nat.le_refl _) (Or.inl rfl) ⟨_, _, rfl, rfl, h⟩
  · replace h := h.2 hc
    refine zw_aload_n (pc := 18) (n := 0) (i := 0) 0 (by decide +kernel) rfl rfl ?_
    refine zx_callV (pc := 19) (As := []) h zi_X11_isFigure zii_X11_isFigure zie_X11_isFigure zl_11_305 (by decide +kernel) ⟨Nat.le_of_ble_eq_true rfl, Nat.le_of_ble_eq_true rfl⟩ rfl zc_203 (by decide) rfl rfl ⟨rfl, rfl⟩ ⟨Nat.zero_le _, Nat.zero_le _⟩ (zki (fun x15 μ14 h => ?_))
    obtain ⟨o16, h⟩ := h
    refine zw_if_eq (pc := 22) (off := 32) (tgt := 54) (by decide +kernel) (by decide) o16 (fun hc => ?_) (fun hc => ?_)
    · replace h := h.1 hc
      refine zw_aload_n (pc := 54) (n := 0) (i := 0) 0 (by decide +kernel) rfl rfl ?_
      refine zw_bipush (pc := 55) (n := 120) (by decide +kernel) (by decide +kernel) ?_
      refine zx_callV (pc := 57) (As := [.int (zJ 120)]) h zi_X11_readsPower zii_X11_readsPower zie_X11_readsPower zl_11_346 (by decide +kernel) ⟨Nat.le_of_ble_eq_true rfl, Nat.le_of_ble_eq_true rfl⟩ rfl zc_203 (by decide) rfl rfl ⟨rfl, rfl⟩ ⟨Nat.zero_le _, Nat.zero_le _⟩ (zki (fun x18 μ17 h => ?_))
      obtain ⟨o19, h⟩ := h
      refine zw_istore_n (pc := 60) (n := 2) (i := 2) (lv' := [(0, .ref 203), (1, .int (zJ v1)), (2, .int (zJ x18))]) (by decide +kernel) rfl (Nat.le_of_ble_eq_true rfl) rfl ?_
      refine zw_iload_n (pc := 61) (n := 2) (i := 2) 2 (by decide +kernel) rfl rfl ?_
      refine zw_if_ge (pc := 62) (off := 7) (tgt := 69) (by decide +kernel) (by decide) o19 (fun hc => ?_) (fun hc => ?_)
      · replace h := h.1 hc
        refine zw_aload_n (pc := 69) (n := 0) (i := 0) 0 (by decide +kernel) rfl rfl ?_
        refine zw_bipush (pc := 70) (n := 121) (by decide +kernel) (by decide +kernel) ?_
        refine zx_callV (pc := 72) (As := [.int (zJ 121)]) h zi_X11_readsPower zii_X11_readsPower zie_X11_readsPower zl_11_346 (by decide +kernel) ⟨Nat.le_of_ble_eq_true rfl, Nat.le_of_ble_eq_true rfl⟩ rfl zc_203 (by decide) rfl rfl ⟨rfl, rfl⟩ ⟨Nat.zero_le _, Nat.zero_le _⟩ (zki (fun x21 μ20 h => ?_))
        obtain ⟨o22, h⟩ := h
        refine zw_istore_n (pc := 75) (n := 3) (i := 3) (lv' := [(0, .ref 203), (1, .int (zJ v1)), (2, .int (zJ x18)), (3, .int (zJ x21))]) (by decide +kernel) rfl (Nat.le_of_ble_eq_true rfl) rfl ?_
        refine zw_iload_n (pc := 76) (n := 3) (i := 3) 3 (by decide +kernel) rfl rfl ?_
        refine zw_if_ge (pc := 77) (off := 5) (tgt := 82) (by decide +kernel) (by decide) o22 (fun hc => ?_) (fun hc => ?_)
        · replace h := h.1 hc
          obtain ⟨o23, o24, o25, o26, o27, o28, h⟩ := h
          refine zw_aload_n (pc := 82) (n := 0) (i := 0) 0 (by decide +kernel) rfl rfl ?_
          refine zw_aload_n (pc := 83) (n := 0) (i := 0) 0 (by decide +kernel) rfl rfl ?_
          refine zx_getI (pc := 84) zf_11_349 (by decide +kernel) rfl zc_203 ?_
          refine zw_iload_n (pc := 87) (n := 2) (i := 2) 2 (by decide +kernel) rfl rfl ?_
          refine zw_iload_n (pc := 88) (n := 3) (i := 3) 3 (by decide +kernel) rfl rfl ?_
          refine zw_max (pc := 89) zl_11_352 zb_maxS zb_mathI zb_maxC (by decide +kernel) ⟨Nat.le_of_ble_eq_true rfl, Nat.le_of_ble_eq_true rfl⟩ (Nat.zero_le _) (Nat.zero_le _) rfl o19 o22 ?_
          refine zw_max (pc := 92) zl_11_352 zb_maxS zb_mathI zb_maxC (by decide +kernel) ⟨Nat.le_of_ble_eq_true rfl, Nat.le_of_ble_eq_true rfl⟩ (Nat.zero_le _) (Nat.zero_le _) rfl o23 o24 ?_
          refine zx_putI (pc := 95) zf_11_349 (by decide +kernel) rfl zc_203 ?_
          refine zw_aload_n (pc := 98) (n := 0) (i := 0) 0 (by decide +kernel) rfl rfl ?_
          refine zx_getR (pc := 99) (o := 24) (r := 227) zf_11_85 (by decide +kernel) rfl zc_203 rfl (by decide) rfl ?_
          refine zw_bipush (pc := 102) (n := 9) (by decide +kernel) (by decide +kernel) ?_
          refine zw_iload_n (pc := 104) (n := 2) (i := 2) 2 (by decide +kernel) rfl rfl ?_
          refine zw_imul (pc := 105) (by decide +kernel) ?_
          refine zw_iload_n (pc := 106) (n := 3) (i := 3) 3 (by decide +kernel) rfl rfl ?_
          refine zw_iadd (pc := 107) (by decide +kernel) ?_
          refine zw_aload_n (pc := 108) (n := 0) (i := 0) 0 (by decide +kernel) rfl rfl ?_
          refine zx_getR (pc := 109) (o := 24) (r := 227) zf_11_85 (by decide +kernel) rfl zc_203 rfl (by decide) rfl ?_
          refine zw_bipush (pc := 112) (n := 9) (by decide +kernel) (by decide +kernel) ?_
          refine zw_iload_n (pc := 114) (n := 2) (i := 2) 2 (by decide +kernel) rfl rfl ?_
          refine zw_imul (pc := 115) (by decide +kernel) ?_
          refine zw_iload_n (pc := 116) (n := 3) (i := 3) 3 (by decide +kernel) rfl rfl ?_
          refine zw_iadd (pc := 117) (by decide +kernel) ?_
          refine zx_iaload (pc := 118) (by decide +kernel) ⟨81, zc_227, o25.1, o25.2⟩ ?_
          refine zw_iload_n (pc := 119) (n := 1) (i := 1) 1 (by decide +kernel) rfl rfl ?_
          refine zw_iadd (pc := 120) (by decide +kernel) ?_
          refine zw_aload_n (pc := 121) (n := 0) (i := 0) 0 (by decide +kernel) rfl rfl ?_
          refine zx_getI (pc := 122) zf_11_9 (by decide +kernel) rfl zc_203 ?_
          refine zw_irem (pc := 125) (by decide +kernel) o26 o27 o28 ?_
          refine zx_iastore (pc := 126) (by decide +kernel) ⟨81, zc_227, o25.1, o25.2⟩ ?_
          refine zw_iconst (pc := 127) (n := 1) (by decide +kernel) ?_
          exact zw_zret (pc := 128) (by decide +kernel) rfl (Nat.le_refl _) (Nat.le_refl _) (Or.inr rfl) ⟨_, _, rfl, rfl, h⟩
        · replace h := h.2 hc
          refine zw_iconst (pc := 80) (n := 0) (by decide +kernel) ?_
          exact zw_zret (pc := 81) (by decide +kernel) rfl (Nat.le_refl _) (Nat.le_refl _) (Or.inl rfl) ⟨_, _, rfl, rfl, h⟩
      · replace h := h.2 hc
        refine zw_iconst (pc := 65) (n := (-1)) (by decide +kernel) ?_
        refine zw_goto (pc := 66) (off := 9) (tgt := 75) (by decide +kernel) (by decide) ?_
        refine zw_istore_n (pc := 75) (n := 3) (i := 3) (lv' := [(0, .ref 203), (1, .int (zJ v1)), (2, .int (zJ x18)), (3, .int (zJ (-1)))]) (by decide +kernel) rfl (Nat.le_of_ble_eq_true rfl) rfl ?_
        refine zw_iload_n (pc := 76) (n := 3) (i := 3) 3 (by decide +kernel) rfl rfl ?_
        refine zw_if_ge (pc := 77) (off := 5) (tgt := 82) (by decide +kernel) (by decide) ⟨by decide, by decide⟩ (fun hc => absurd hc (by decide)) (fun hc => ?_)
        refine zw_iconst (pc := 80) (n := 0) (by decide +kernel) ?_
        exact zw_zret (pc := 81) (by decide +kernel) rfl (Nat.le_refl _) (Nat.le_refl _) (Or.inl rfl) ⟨_, _, rfl, rfl, h⟩
    · replace h := h.2 hc
      refine zw_bipush (pc := 25) (n := 10) (by decide +kernel) (by decide +kernel) ?_
      refine zw_iload_n (pc := 27) (n := 1) (i := 1) 1 (by decide +kernel) rfl rfl ?_
      refine zw_imul (pc := 28) (by decide +kernel) ?_
      refine zw_aload_n (pc := 29) (n := 0) (i := 0) 0 (by decide +kernel) rfl rfl ?_
      refine zx_callV (pc := 30) (As := []) h zi_X11_here zii_X11_here zie_X11_here zl_11_288 (by decide +kernel) ⟨Nat.le_of_ble_eq_true rfl, Nat.le_of_ble_eq_true rfl⟩ rfl zc_203 (by decide) rfl rfl ⟨rfl, rfl⟩ ⟨Nat.zero_le _, Nat.zero_le _⟩ (zki (fun x30 μ29 h => ?_))
      refine zw_iadd (pc := 33) (by decide +kernel) ?_
      refine zw_bipush (pc := 34) (n := 48) (by decide +kernel) (by decide +kernel) ?_
      refine zw_isub (pc := 36) (by decide +kernel) ?_
      refine zw_istore_n (pc := 37) (n := 1) (i := 1) (lv' := [(0, .ref 203), (1, .int (zJ (((10 * v1) + x30) - 48))), (2, .int (zJ v2))]) (by decide +kernel) rfl (Nat.le_of_ble_eq_true rfl) rfl ?_
      refine zw_aload_n (pc := 38) (n := 0) (i := 0) 0 (by decide +kernel) rfl rfl ?_
      refine zw_dup (pc := 39) (by decide +kernel) rfl ?_
      refine zx_getI (pc := 40) zf_11_285 (by decide +kernel) rfl zc_203 ?_
      refine zw_iconst (pc := 43) (n := 1) (by decide +kernel) ?_
      refine zw_iadd (pc := 44) (by decide +kernel) ?_
      refine zx_putI (pc := 45) zf_11_285 (by decide +kernel) rfl zc_203 ?_
      refine zw_iinc (pc := 48) (i := 2) (n := 1) (lv' := [(0, .ref 203), (1, .int (zJ (((10 * v1) + x30) - 48))), (2, .int (zJ (v2 + 1)))]) 2 (by decide +kernel) rfl rfl (Nat.le_of_ble_eq_true rfl) rfl ?_
      refine zw_goto (pc := 51) (off := (-38)) (tgt := 13) (by decide +kernel) (by decide) ?_
      exact h
theorem sg_X11_readsPower {g : zG} {φ : Int → zMu → Prop} {v1 : Int} {μ : zMu}
    (h : zOi g zm_X11_here [.ref 203] μ (fun x2 μ1 => (zR x2) ∧ (zR v1) ∧ ((x2 = v1 → zOi g zm_X11_here [.ref 203] (zup μ1 203 32 ((μ1 203 32) + 1)) (fun x6 μ5 => (zR x6) ∧ zOi g zm_X11_in [.long (zL x6), .long (zL 49), .long (zL 56)] μ5 (fun x9 μ8 => (zR x9) ∧ ((¬ x9 = 0 → (0 ≤ (((zup μ8 203 32 ((μ8 203 32) + 1)) 203 32) - 1) ∧ (((zup μ8 203 32 ((μ8 203 32) + 1)) 203 32) - 1) < 100) ∧ φ (((zup μ8 203 32 ((μ8 203 32) + 1)) 223 (Int.toNat (((zup μ8 203 32 ((μ8 203 32) + 1)) 203 32) - 1))) - 48) (zup μ8 203 32 ((μ8 203 32) + 1))) ∧ (x9 = 0 → φ (-1) μ8))))) ∧ (¬ x2 = v1 → φ 0 μ1)))) : zOi g zm_X11_readsPower [.ref 203, .int (zJ v1)] μ φ := by
  refine zok_of (by decide +kernel) rfl ?_
  show zWP g zm_X11_readsPower (zmo g zm_X11_readsPower (zΦi φ)) 0 [(0, .ref 203), (1, .int (zJ v1))] [] 0 0 (zw μ)
  refine zw_aload_n (pc := 0) (n := 0) (i := 0) 0 (by decide +kernel) rfl rfl ?_
  refine zx_callV (pc := 1) (As := []) h zi_X11_here zii_X11_here zie_X11_here zl_11_288 (by decide +kernel) ⟨Nat.le_of_ble_eq_true rfl, Nat.le_of_ble_eq_true rfl⟩ rfl zc_203 (by decide) rfl rfl ⟨rfl, rfl⟩ ⟨Nat.zero_le _, Nat.zero_le _⟩ (zki (fun x2 μ1 h => ?_))
  obtain ⟨o3, o4, h⟩ := h
  refine zw_iload_n (pc := 4) (n := 1) (i := 1) 1 (by decide +kernel) rfl rfl ?_
  refine zw_icmp_eq (pc := 5) (off := 5) (tgt := 10) (by decide +kernel) (by decide) o3 o4 (fun hc => ?_) (fun hc => ?_)
  · replace h := h.1 hc
    refine zw_aload_n (pc := 10) (n := 0) (i := 0) 0 (by decide +kernel) rfl rfl ?_
    refine zw_dup (pc := 11) (by decide +kernel) rfl ?_
    refine zx_getI (pc := 12) zf_11_285 (by decide +kernel) rfl zc_203 ?_
    refine zw_iconst (pc := 15) (n := 1) (by decide +kernel) ?_
    refine zw_iadd (pc := 16) (by decide +kernel) ?_
    refine zx_putI (pc := 17) zf_11_285 (by decide +kernel) rfl zc_203 ?_
    refine zw_aload_n (pc := 20) (n := 0) (i := 0) 0 (by decide +kernel) rfl rfl ?_
    refine zx_callV (pc := 21) (As := []) h zi_X11_here zii_X11_here zie_X11_here zl_11_288 (by decide +kernel) ⟨Nat.le_of_ble_eq_true rfl, Nat.le_of_ble_eq_true rfl⟩ rfl zc_203 (by decide) rfl rfl ⟨rfl, rfl⟩ ⟨Nat.zero_le _, Nat.zero_le _⟩ (zki (fun x6 μ5 h => ?_))
    obtain ⟨o7, h⟩ := h
    refine zw_i2l (pc := 24) (by decide +kernel) o7 ?_
    refine zw_ldc2 (pc := 25) (v := 49) (by decide +kernel) zk_11_342 ?_
    refine zw_ldc2 (pc := 28) (v := 56) (by decide +kernel) zk_11_344 ?_
    refine zx_callS (pc := 31) (As := [.long (zL x6), .long (zL 49), .long (zL 56)]) h zi_X11_in zis_X11_in zl_11_114 (by decide +kernel) ⟨Nat.le_of_ble_eq_true rfl, Nat.le_of_ble_eq_true rfl⟩ rfl rfl ⟨rfl, rfl⟩ ⟨Nat.zero_le _, Nat.zero_le _⟩ (zki (fun x9 μ8 h => ?_))
    obtain ⟨o10, h⟩ := h
    refine zw_if_ne (pc := 34) (off := 5) (tgt := 39) (by decide +kernel) (by decide) o10 (fun hc => ?_) (fun hc => ?_)
    · replace h := h.1 hc
      obtain ⟨o11, h⟩ := h
      refine zw_aload_n (pc := 39) (n := 0) (i := 0) 0 (by decide +kernel) rfl rfl ?_
      refine zw_dup (pc := 40) (by decide +kernel) rfl ?_
      refine zx_getI (pc := 41) zf_11_285 (by decide +kernel) rfl zc_203 ?_
      refine zw_iconst (pc := 44) (n := 1) (by decide +kernel) ?_
      refine zw_iadd (pc := 45) (by decide +kernel) ?_
      refine zx_putI (pc := 46) zf_11_285 (by decide +kernel) rfl zc_203 ?_
      refine zw_aload_n (pc := 49) (n := 0) (i := 0) 0 (by decide +kernel) rfl rfl ?_
      refine zx_getR (pc := 50) (o := 20) (r := 223) zf_11_73 (by decide +kernel) rfl zc_203 rfl (by decide) rfl ?_
      refine zw_aload_n (pc := 53) (n := 0) (i := 0) 0 (by decide +kernel) rfl rfl ?_
      refine zx_getI (pc := 54) zf_11_285 (by decide +kernel) rfl zc_203 ?_
      refine zw_iconst (pc := 57) (n := 1) (by decide +kernel) ?_
      refine zw_isub (pc := 58) (by decide +kernel) ?_
      refine zx_iaload (pc := 59) (by decide +kernel) ⟨100, zc_223, o11.1, o11.2⟩ ?_
      refine zw_bipush (pc := 60) (n := 48) (by decide +kernel) (by decide +kernel) ?_
      refine zw_isub (pc := 62) (by decide +kernel) ?_
      exact zw_iret (pc := 63) (by decide +kernel) rfl (Nat.le_refl _) (Nat.le_refl _) ⟨_, _, rfl, rfl, h⟩
    · replace h := h.2 hc
      refine zw_iconst (pc := 37) (n := (-1)) (by decide +kernel) ?_
      exact zw_iret (pc := 38) (by decide +kernel) rfl (Nat.le_refl _) (Nat.le_refl _) ⟨_, _, rfl, rfl, h⟩
  · replace h := h.2 hc
    refine zw_iconst (pc := 8) (n := 0) (by decide +kernel) ?_
    exact zw_iret (pc := 9) (by decide +kernel) rfl (Nat.le_refl _) (Nat.le_refl _) ⟨_, _, rfl, rfl, h⟩
abbrev at_X11_write_20 (g : zG) (φ : Int → zMu → Prop) (v1 : Int) (μ : zMu) : Prop := zWP g zm_X11_write (zmo g zm_X11_write (zΦi φ)) 20 [(0, .ref 203), (1, .int (zJ v1))] [] 0 0 (zw μ)
abbrev at_X11_write_29 (g : zG) (φ : Int → zMu → Prop) (v1 : Int) (v2 : Int) (μ : zMu) : Prop := zWP g zm_X11_write (zmo g zm_X11_write (zΦi φ)) 29 [(0, .ref 203), (1, .int (zJ v1)), (2, .int (zJ v2))] [] 0 0 (zw μ)
theorem sg_X11_write {g : zG} {φ : Int → zMu → Prop} {μ : zMu}
    (h : (zR (μ 203 4)) ∧ ((¬ (μ 203 4) = 0 → at_X11_write_20 g φ ((zup μ 203 39 0) 203 4) (zup μ 203 39 0)) ∧ ((μ 203 4) = 0 → φ (-11) μ))) : zOi g zm_X11_write [.ref 203] μ φ := by
  refine zok_of (by decide +kernel) rfl ?_
  show zWP g zm_X11_write (zmo g zm_X11_write (zΦi φ)) 0 [(0, .ref 203)] [] 0 0 (zw μ)
  obtain ⟨o1, h⟩ := h
  refine zw_aload_n (pc := 0) (n := 0) (i := 0) 0 (by decide +kernel) rfl rfl ?_
  refine zx_getI (pc := 1) zf_11_128 (by decide +kernel) rfl zc_203 ?_
  refine zw_if_ne (pc := 4) (off := 6) (tgt := 10) (by decide +kernel) (by decide) o1 (fun hc => ?_) (fun hc => ?_)
  · replace h := h.1 hc
    refine zw_aload_n (pc := 10) (n := 0) (i := 0) 0 (by decide +kernel) rfl rfl ?_
    refine zw_iconst (pc := 11) (n := 0) (by decide +kernel) ?_
    refine zx_putI (pc := 12) zf_11_358 (by decide +kernel) rfl zc_203 ?_
    refine zw_aload_n (pc := 15) (n := 0) (i := 0) 0 (by decide +kernel) rfl rfl ?_
    refine zx_getI (pc := 16) zf_11_128 (by decide +kernel) rfl zc_203 ?_
    refine zw_istore_n (pc := 19) (n := 1) (i := 1) (lv' := [(0, .ref 203), (1, .int (zJ ((zup μ 203 39 0) 203 4)))]) (by decide +kernel) rfl (Nat.le_of_ble_eq_true rfl) rfl ?_
    exact h
  · replace h := h.2 hc
    refine zw_bipush (pc := 7) (n := (-11)) (by decide +kernel) (by decide +kernel) ?_
    exact zw_iret (pc := 9) (by decide +kernel) rfl (Nat.le_refl _) (Nat.le_refl _) ⟨_, _, rfl, rfl, h⟩
theorem sg_X11_write_20 {g : zG} {φ : Int → zMu → Prop} {v1 : Int} {μ : zMu}
    (h : (zR v1) ∧ ((v1 < 0 → (zR (μ 203 39)) ∧ ((¬ (μ 203 39) = 0 → φ (μ 203 39) μ) ∧ ((μ 203 39) = 0 → zOv g zm_X11_writes [.ref 203, .int (zJ 48)] μ (fun μ3 => φ (μ3 203 39) μ3)))) ∧ (0 ≤ v1 → at_X11_write_29 g φ v1 (μ 203 4) μ))) : at_X11_write_20 g φ v1 μ := by
  obtain ⟨o1, h⟩ := h
  refine zw_iload_n (pc := 20) (n := 1) (i := 1) 1 (by decide +kernel) rfl rfl ?_
  refine zw_if_lt (pc := 21) (off := 70) (tgt := 91) (by decide +kernel) (by decide) o1 (fun hc => ?_) (fun hc => ?_)
  · replace h := h.1 hc
    obtain ⟨o2, h⟩ := h
    refine zw_aload_n (pc := 91) (n := 0) (i := 0) 0 (by decide +kernel) rfl rfl ?_
    refine zx_getI (pc := 92) zf_11_358 (by decide +kernel) rfl zc_203 ?_
    refine zw_if_ne (pc := 95) (off := 9) (tgt := 104) (by decide +kernel) (by decide) o2 (fun hc => ?_) (fun hc => ?_)
    · replace h := h.1 hc
      refine zw_aload_n (pc := 104) (n := 0) (i := 0) 0 (by decide +kernel) rfl rfl ?_
      refine zx_getI (pc := 105) zf_11_358 (by decide +kernel) rfl zc_203 ?_
      exact zw_iret (pc := 108) (by decide +kernel) rfl (Nat.le_refl _) (Nat.le_refl _) ⟨_, _, rfl, rfl, h⟩
    · replace h := h.2 hc
      refine zw_aload_n (pc := 98) (n := 0) (i := 0) 0 (by decide +kernel) rfl rfl ?_
      refine zw_bipush (pc := 99) (n := 48) (by decide +kernel) (by decide +kernel) ?_
      refine zx_callV (pc := 101) (As := [.int (zJ 48)]) h zi_X11_writes zii_X11_writes zie_X11_writes zl_11_361 (by decide +kernel) ⟨Nat.le_of_ble_eq_true rfl, Nat.le_of_ble_eq_true rfl⟩ rfl zc_203 (by decide) rfl rfl ⟨rfl, rfl⟩ ⟨Nat.zero_le _, Nat.zero_le _⟩ (zkv (fun μ3 h => ?_))
      refine zw_aload_n (pc := 104) (n := 0) (i := 0) 0 (by decide +kernel) rfl rfl ?_
      refine zx_getI (pc := 105) zf_11_358 (by decide +kernel) rfl zc_203 ?_
      exact zw_iret (pc := 108) (by decide +kernel) rfl (Nat.le_refl _) (Nat.le_refl _) ⟨_, _, rfl, rfl, h⟩
  · replace h := h.2 hc
    refine zw_aload_n (pc := 24) (n := 0) (i := 0) 0 (by decide +kernel) rfl rfl ?_
    refine zx_getI (pc := 25) zf_11_128 (by decide +kernel) rfl zc_203 ?_
    refine zw_istore_n (pc := 28) (n := 2) (i := 2) (lv' := [(0, .ref 203), (1, .int (zJ v1)), (2, .int (zJ (μ 203 4)))]) (by decide +kernel) rfl (Nat.le_of_ble_eq_true rfl) rfl ?_
    exact h
theorem sg_X11_write_29 {g : zG} {φ : Int → zMu → Prop} {v1 : Int} {v2 : Int} {μ : zMu}
    (h : (zR v2) ∧ ((v2 < 0 → at_X11_write_20 g φ (v1 + (-1)) μ) ∧ (0 ≤ v2 → zOi g zm_X11_termAt [.ref 203, .int (zJ v1), .int (zJ v2)] μ (fun x3 μ2 => (zR x3) ∧ ((x3 = 0 → at_X11_write_29 g φ v1 (v2 + (-1)) μ2) ∧ (¬ x3 = 0 → (zR (μ2 203 39)) ∧ (((μ2 203 39) ≤ 0 → zOi g zm_X11_termAt [.ref 203, .int (zJ v1), .int (zJ v2)] μ2 (fun x7 μ6 => zOv g zm_X11_writesNumber [.ref 203, .int (zJ x7)] μ6 (fun μ8 => zOv g zm_X11_writesPower [.ref 203, .int (zJ 120), .int (zJ v1)] μ8 (fun μ9 => zOv g zm_X11_writesPower [.ref 203, .int (zJ 121), .int (zJ v2)] μ9 (fun μ10 => at_X11_write_29 g φ v1 (v2 + (-1)) μ10))))) ∧ (0 < (μ2 203 39) → zOv g zm_X11_writes [.ref 203, .int (zJ 43)] μ2 (fun μ11 => zOi g zm_X11_termAt [.ref 203, .int (zJ v1), .int (zJ v2)] μ11 (fun x13 μ12 => zOv g zm_X11_writesNumber [.ref 203, .int (zJ x13)] μ12 (fun μ14 => zOv g zm_X11_writesPower [.ref 203, .int (zJ 120), .int (zJ v1)] μ14 (fun μ15 => zOv g zm_X11_writesPower [.ref 203, .int (zJ 121), .int (zJ v2)] μ15 (fun μ16 => at_X11_write_29 g φ v1 (v2 + (-1)) μ16))))))))))))) : at_X11_write_29 g φ v1 v2 μ := by
  obtain ⟨o1, h⟩ := h
  refine zw_iload_n (pc := 29) (n := 2) (i := 2) 2 (by decide +kernel) rfl rfl ?_
  refine zw_if_lt (pc := 30) (off := 55) (tgt := 85) (by decide +kernel) (by decide) o1 (fun hc => ?_) (fun hc => ?_)
  · replace h := h.1 hc
    refine zw_iinc (pc := 85) (i := 1) (n := (-1)) (lv' := [(0, .ref 203), (1, .int (zJ (v1 + (-1)))), (2, .int (zJ v2))]) 1 (by decide +kernel) rfl rfl (Nat.le_of_ble_eq_true rfl) rfl ?_
    refine zw_goto (pc := 88) (off := (-68)) (tgt := 20) (by decide +kernel) (by decide) ?_
    exact zw_pick (lv' := [(0, .ref 203), (1, .int (zJ (v1 + (-1))))]) [0, 1] rfl h
  · replace h := h.2 hc
    refine zw_aload_n (pc := 33) (n := 0) (i := 0) 0 (by decide +kernel) rfl rfl ?_
    refine zw_iload_n (pc := 34) (n := 1) (i := 1) 1 (by decide +kernel) rfl rfl ?_
    refine zw_iload_n (pc := 35) (n := 2) (i := 2) 2 (by decide +kernel) rfl rfl ?_
    refine zx_callV (pc := 36) (As := [.int (zJ v1), .int (zJ v2)]) h zi_X11_termAt zii_X11_termAt zie_X11_termAt zl_11_240 (by decide +kernel) ⟨Nat.le_of_ble_eq_true rfl, Nat.le_of_ble_eq_true rfl⟩ rfl zc_203 (by decide) rfl rfl ⟨rfl, rfl⟩ ⟨Nat.zero_le _, Nat.zero_le _⟩ (zki (fun x3 μ2 h => ?_))
    obtain ⟨o4, h⟩ := h
    refine zw_if_eq (pc := 39) (off := 40) (tgt := 79) (by decide +kernel) (by decide) o4 (fun hc => ?_) (fun hc => ?_)
    · replace h := h.1 hc
      refine zw_iinc (pc := 79) (i := 2) (n := (-1)) (lv' := [(0, .ref 203), (1, .int (zJ v1)), (2, .int (zJ (v2 + (-1))))]) 2 (by decide +kernel) rfl rfl (Nat.le_of_ble_eq_true rfl) rfl ?_
      refine zw_goto (pc := 82) (off := (-53)) (tgt := 29) (by decide +kernel) (by decide) ?_
      exact h
    · replace h := h.2 hc
      obtain ⟨o5, h⟩ := h
      refine zw_aload_n (pc := 42) (n := 0) (i := 0) 0 (by decide +kernel) rfl rfl ?_
      refine zx_getI (pc := 43) zf_11_358 (by decide +kernel) rfl zc_203 ?_
      refine zw_if_le (pc := 46) (off := 9) (tgt := 55) (by decide +kernel) (by decide) o5 (fun hc => ?_) (fun hc => ?_)
      · replace h := h.1 hc
        refine zw_aload_n (pc := 55) (n := 0) (i := 0) 0 (by decide +kernel) rfl rfl ?_
        refine zw_aload_n (pc := 56) (n := 0) (i := 0) 0 (by decide +kernel) rfl rfl ?_
        refine zw_iload_n (pc := 57) (n := 1) (i := 1) 1 (by decide +kernel) rfl rfl ?_
        refine zw_iload_n (pc := 58) (n := 2) (i := 2) 2 (by decide +kernel) rfl rfl ?_
        refine zx_callV (pc := 59) (As := [.int (zJ v1), .int (zJ v2)]) h zi_X11_termAt zii_X11_termAt zie_X11_termAt zl_11_240 (by decide +kernel) ⟨Nat.le_of_ble_eq_true rfl, Nat.le_of_ble_eq_true rfl⟩ rfl zc_203 (by decide) rfl rfl ⟨rfl, rfl⟩ ⟨Nat.zero_le _, Nat.zero_le _⟩ (zki (fun x7 μ6 h => ?_))
        refine zx_callV (pc := 62) (As := [.int (zJ x7)]) h zi_X11_writesNumber zii_X11_writesNumber zie_X11_writesNumber zl_11_364 (by decide +kernel) ⟨Nat.le_of_ble_eq_true rfl, Nat.le_of_ble_eq_true rfl⟩ rfl zc_203 (by decide) rfl rfl ⟨rfl, rfl⟩ ⟨Nat.zero_le _, Nat.zero_le _⟩ (zkv (fun μ8 h => ?_))
        refine zw_aload_n (pc := 65) (n := 0) (i := 0) 0 (by decide +kernel) rfl rfl ?_
        refine zw_bipush (pc := 66) (n := 120) (by decide +kernel) (by decide +kernel) ?_
        refine zw_iload_n (pc := 68) (n := 1) (i := 1) 1 (by decide +kernel) rfl rfl ?_
        refine zx_callV (pc := 69) (As := [.int (zJ 120), .int (zJ v1)]) h zi_X11_writesPower zii_X11_writesPower zie_X11_writesPower zl_11_367 (by decide +kernel) ⟨Nat.le_of_ble_eq_true rfl, Nat.le_of_ble_eq_true rfl⟩ rfl zc_203 (by decide) rfl rfl ⟨rfl, rfl⟩ ⟨Nat.zero_le _, Nat.zero_le _⟩ (zkv (fun μ9 h => ?_))
        refine zw_aload_n (pc := 72) (n := 0) (i := 0) 0 (by decide +kernel) rfl rfl ?_
        refine zw_bipush (pc := 73) (n := 121) (by decide +kernel) (by decide +kernel) ?_
        refine zw_iload_n (pc := 75) (n := 2) (i := 2) 2 (by decide +kernel) rfl rfl ?_
        refine zx_callV (pc := 76) (As := [.int (zJ 121), .int (zJ v2)]) h zi_X11_writesPower zii_X11_writesPower zie_X11_writesPower zl_11_367 (by decide +kernel) ⟨Nat.le_of_ble_eq_true rfl, Nat.le_of_ble_eq_true rfl⟩ rfl zc_203 (by decide) rfl rfl ⟨rfl, rfl⟩ ⟨Nat.zero_le _, Nat.zero_le _⟩ (zkv (fun μ10 h => ?_))
        refine zw_iinc (pc := 79) (i := 2) (n := (-1)) (lv' := [(0, .ref 203), (1, .int (zJ v1)), (2, .int (zJ (v2 + (-1))))]) 2 (by decide +kernel) rfl rfl (Nat.le_of_ble_eq_true rfl) rfl ?_
        refine zw_goto (pc := 82) (off := (-53)) (tgt := 29) (by decide +kernel) (by decide) ?_
        exact h
      · replace h := h.2 hc
        refine zw_aload_n (pc := 49) (n := 0) (i := 0) 0 (by decide +kernel) rfl rfl ?_
        refine zw_bipush (pc := 50) (n := 43) (by decide +kernel) (by decide +kernel) ?_
        refine zx_callV (pc := 52) (As := [.int (zJ 43)]) h zi_X11_writes zii_X11_writes zie_X11_writes zl_11_361 (by decide +kernel) ⟨Nat.le_of_ble_eq_true rfl, Nat.le_of_ble_eq_true rfl⟩ rfl zc_203 (by decide) rfl rfl ⟨rfl, rfl⟩ ⟨Nat.zero_le _, Nat.zero_le _⟩ (zkv (fun μ11 h => ?_))
        refine zw_aload_n (pc := 55) (n := 0) (i := 0) 0 (by decide +kernel) rfl rfl ?_
        refine zw_aload_n (pc := 56) (n := 0) (i := 0) 0 (by decide +kernel) rfl rfl ?_
        refine zw_iload_n (pc := 57) (n := 1) (i := 1) 1 (by decide +kernel) rfl rfl ?_
        refine zw_iload_n (pc := 58) (n := 2) (i := 2) 2 (by decide +kernel) rfl rfl ?_
        refine zx_callV (pc := 59) (As := [.int (zJ v1), .int (zJ v2)]) h zi_X11_termAt zii_X11_termAt zie_X11_termAt zl_11_240 (by decide +kernel) ⟨Nat.le_of_ble_eq_true rfl, Nat.le_of_ble_eq_true rfl⟩ rfl zc_203 (by decide) rfl rfl ⟨rfl, rfl⟩ ⟨Nat.zero_le _, Nat.zero_le _⟩ (zki (fun x13 μ12 h => ?_))
        refine zx_callV (pc := 62) (As := [.int (zJ x13)]) h zi_X11_writesNumber zii_X11_writesNumber zie_X11_writesNumber zl_11_364 (by decide +kernel) ⟨Nat.le_of_ble_eq_true rfl, Nat.le_of_ble_eq_true rfl⟩ rfl zc_203 (by decide) rfl rfl ⟨rfl, rfl⟩ ⟨Nat.zero_le _, Nat.zero_le _⟩ (zkv (fun μ14 h => ?_))
        refine zw_aload_n (pc := 65) (n := 0) (i := 0) 0 (by decide +kernel) rfl rfl ?_
        refine zw_bipush (pc := 66) (n := 120) (by decide +kernel) (by decide +kernel) ?_
        refine zw_iload_n (pc := 68) (n := 1) (i := 1) 1 (by decide +kernel) rfl rfl ?_
        refine zx_callV (pc := 69) (As := [.int (zJ 120), .int (zJ v1)]) h zi_X11_writesPower zii_X11_writesPower zie_X11_writesPower zl_11_367 (by decide +kernel) ⟨Nat.le_of_ble_eq_true rfl, Nat.le_of_ble_eq_true rfl⟩ rfl zc_203 (by decide) rfl rfl ⟨rfl, rfl⟩ ⟨Nat.zero_le _, Nat.zero_le _⟩ (zkv (fun μ15 h => ?_))
        refine zw_aload_n (pc := 72) (n := 0) (i := 0) 0 (by decide +kernel) rfl rfl ?_
        refine zw_bipush (pc := 73) (n := 121) (by decide +kernel) (by decide +kernel) ?_
        refine zw_iload_n (pc := 75) (n := 2) (i := 2) 2 (by decide +kernel) rfl rfl ?_
        refine zx_callV (pc := 76) (As := [.int (zJ 121), .int (zJ v2)]) h zi_X11_writesPower zii_X11_writesPower zie_X11_writesPower zl_11_367 (by decide +kernel) ⟨Nat.le_of_ble_eq_true rfl, Nat.le_of_ble_eq_true rfl⟩ rfl zc_203 (by decide) rfl rfl ⟨rfl, rfl⟩ ⟨Nat.zero_le _, Nat.zero_le _⟩ (zkv (fun μ16 h => ?_))
        refine zw_iinc (pc := 79) (i := 2) (n := (-1)) (lv' := [(0, .ref 203), (1, .int (zJ v1)), (2, .int (zJ (v2 + (-1))))]) 2 (by decide +kernel) rfl rfl (Nat.le_of_ble_eq_true rfl) rfl ?_
        refine zw_goto (pc := 82) (off := (-53)) (tgt := 29) (by decide +kernel) (by decide) ?_
        exact h
theorem sg_X11_writes {g : zG} {φ : zMu → Prop} {v1 : Int} {μ : zMu}
    (h : (0 ≤ (μ 203 39) ∧ (μ 203 39) < 729) ∧ φ (zup (zup μ 228 (Int.toNat (μ 203 39)) v1) 203 39 (((zup μ 228 (Int.toNat (μ 203 39)) v1) 203 39) + 1))) : zOv g zm_X11_writes [.ref 203, .int (zJ v1)] μ φ := by
  refine zok_of (by decide +kernel) rfl ?_
  show zWP g zm_X11_writes (zmo g zm_X11_writes (zΦv φ)) 0 [(0, .ref 203), (1, .int (zJ v1))] [] 0 0 (zw μ)
  obtain ⟨o1, h⟩ := h
  refine zw_aload_n (pc := 0) (n := 0) (i := 0) 0 (by decide +kernel) rfl rfl ?_
  refine zx_getR (pc := 1) (o := 25) (r := 228) zf_11_88 (by decide +kernel) rfl zc_203 rfl (by decide) rfl ?_
  refine zw_aload_n (pc := 4) (n := 0) (i := 0) 0 (by decide +kernel) rfl rfl ?_
  refine zx_getI (pc := 5) zf_11_358 (by decide +kernel) rfl zc_203 ?_
  refine zw_iload_n (pc := 8) (n := 1) (i := 1) 1 (by decide +kernel) rfl rfl ?_
  refine zx_iastore (pc := 9) (by decide +kernel) ⟨729, zc_228, o1.1, o1.2⟩ ?_
  refine zw_aload_n (pc := 10) (n := 0) (i := 0) 0 (by decide +kernel) rfl rfl ?_
  refine zw_dup (pc := 11) (by decide +kernel) rfl ?_
  refine zx_getI (pc := 12) zf_11_358 (by decide +kernel) rfl zc_203 ?_
  refine zw_iconst (pc := 15) (n := 1) (by decide +kernel) ?_
  refine zw_iadd (pc := 16) (by decide +kernel) ?_
  refine zx_putI (pc := 17) zf_11_358 (by decide +kernel) rfl zc_203 ?_
  exact zw_vret (pc := 20) (by decide +kernel) rfl (Nat.le_refl _) (Nat.le_refl _) ⟨_, rfl, rfl, h⟩
theorem sg_X11_writesNumber {g : zG} {φ : zMu → Prop} {v1 : Int} {μ : zMu}
    (h : (zR v1) ∧ ((v1 ≤ 99 → ((v1 ≤ 9 → zOv g zm_X11_writes [.ref 203, .int (zJ (48 + (v1.tmod 10)))] μ (fun μ2 => φ μ2)) ∧ (9 < v1 → (zR (v1.tdiv 10)) ∧ zOv g zm_X11_writes [.ref 203, .int (zJ (48 + ((v1.tdiv 10).tmod 10)))] μ (fun μ4 => zOv g zm_X11_writes [.ref 203, .int (zJ (48 + (v1.tmod 10)))] μ4 (fun μ5 => φ μ5))))) ∧ (99 < v1 → zOv g zm_X11_writes [.ref 203, .int (zJ (48 + (v1.tdiv 100)))] μ (fun μ6 => ((v1 ≤ 9 → zOv g zm_X11_writes [.ref 203, .int (zJ (48 + (v1.tmod 10)))] μ6 (fun μ7 => φ μ7)) ∧ (9 < v1 → (zR (v1.tdiv 10)) ∧ zOv g zm_X11_writes [.ref 203, .int (zJ (48 + ((v1.tdiv 10).tmod 10)))] μ6 (fun μ9 => zOv g zm_X11_writes [.ref 203, .int (zJ (48 + (v1.tmod 10)))] μ9 (fun μ10 => φ μ10)))))))) : zOv g zm_X11_writesNumber [.ref 203, .int (zJ v1)] μ φ := by
  refine zok_of (by decide +kernel) rfl ?_
  show zWP g zm_X11_writesNumber (zmo g zm_X11_writesNumber (zΦv φ)) 0 [(0, .ref 203), (1, .int (zJ v1))] [] 0 0 (zw μ)
  obtain ⟨o1, h⟩ := h
  refine zw_iload_n (pc := 0) (n := 1) (i := 1) 1 (by decide +kernel) rfl rfl ?_
  refine zw_bipush (pc := 1) (n := 99) (by decide +kernel) (by decide +kernel) ?_
  refine zw_icmp_le (pc := 3) (off := 14) (tgt := 17) (by decide +kernel) (by decide) o1 ⟨by decide, by decide⟩ (fun hc => ?_) (fun hc => ?_)
  · replace h := h.1 hc
    refine zw_iload_n (pc := 17) (n := 1) (i := 1) 1 (by decide +kernel) rfl rfl ?_
    refine zw_bipush (pc := 18) (n := 9) (by decide +kernel) (by decide +kernel) ?_
    refine zw_icmp_le (pc := 20) (off := 17) (tgt := 37) (by decide +kernel) (by decide) o1 ⟨by decide, by decide⟩ (fun hc => ?_) (fun hc => ?_)
    · replace h := h.1 hc
      refine zw_aload_n (pc := 37) (n := 0) (i := 0) 0 (by decide +kernel) rfl rfl ?_
      refine zw_bipush (pc := 38) (n := 48) (by decide +kernel) (by decide +kernel) ?_
      refine zw_iload_n (pc := 40) (n := 1) (i := 1) 1 (by decide +kernel) rfl rfl ?_
      refine zw_bipush (pc := 41) (n := 10) (by decide +kernel) (by decide +kernel) ?_
      refine zw_irem (pc := 43) (by decide +kernel) o1 ⟨by decide, by decide⟩ (by decide) ?_
      refine zw_iadd (pc := 44) (by decide +kernel) ?_
      refine zx_callV (pc := 45) (As := [.int (zJ (48 + (v1.tmod 10)))]) h zi_X11_writes zii_X11_writes zie_X11_writes zl_11_361 (by decide +kernel) ⟨Nat.le_of_ble_eq_true rfl, Nat.le_of_ble_eq_true rfl⟩ rfl zc_203 (by decide) rfl rfl ⟨rfl, rfl⟩ ⟨Nat.zero_le _, Nat.zero_le _⟩ (zkv (fun μ2 h => ?_))
      exact zw_vret (pc := 48) (by decide +kernel) rfl (Nat.le_refl _) (Nat.le_refl _) ⟨_, rfl, rfl, h⟩
    · replace h := h.2 hc
      obtain ⟨o3, h⟩ := h
      refine zw_aload_n (pc := 23) (n := 0) (i := 0) 0 (by decide +kernel) rfl rfl ?_
      refine zw_bipush (pc := 24) (n := 48) (by decide +kernel) (by decide +kernel) ?_
      refine zw_iload_n (pc := 26) (n := 1) (i := 1) 1 (by decide +kernel) rfl rfl ?_
      refine zw_bipush (pc := 27) (n := 10) (by decide +kernel) (by decide +kernel) ?_
      refine zw_idiv (pc := 29) (by decide +kernel) o1 ⟨by decide, by decide⟩ (by decide) ?_
      refine zw_bipush (pc := 30) (n := 10) (by decide +kernel) (by decide +kernel) ?_
      refine zw_irem (pc := 32) (by decide +kernel) o3 ⟨by decide, by decide⟩ (by decide) ?_
      refine zw_iadd (pc := 33) (by decide +kernel) ?_
      refine zx_callV (pc := 34) (As := [.int (zJ (48 + ((v1.tdiv 10).tmod 10)))]) h zi_X11_writes zii_X11_writes zie_X11_writes zl_11_361 (by decide +kernel) ⟨Nat.le_of_ble_eq_true rfl, Nat.le_of_ble_eq_true rfl⟩ rfl zc_203 (by decide) rfl rfl ⟨rfl, rfl⟩ ⟨Nat.zero_le _, Nat.zero_le _⟩ (zkv (fun μ4 h => ?_))
      refine zw_aload_n (pc := 37) (n := 0) (i := 0) 0 (by decide +kernel) rfl rfl ?_
      refine zw_bipush (pc := 38) (n := 48) (by decide +kernel) (by decide +kernel) ?_
      refine zw_iload_n (pc := 40) (n := 1) (i := 1) 1 (by decide +kernel) rfl rfl ?_
      refine zw_bipush (pc := 41) (n := 10) (by decide +kernel) (by decide +kernel) ?_
      refine zw_irem (pc := 43) (by decide +kernel) o1 ⟨by decide, by decide⟩ (by decide) ?_
      refine zw_iadd (pc := 44) (by decide +kernel) ?_
      refine zx_callV (pc := 45) (As := [.int (zJ (48 + (v1.tmod 10)))]) h zi_X11_writes zii_X11_writes zie_X11_writes zl_11_361 (by decide +kernel) ⟨Nat.le_of_ble_eq_true rfl, Nat.le_of_ble_eq_true rfl⟩ rfl zc_203 (by decide) rfl rfl ⟨rfl, rfl⟩ ⟨Nat.zero_le _, Nat.zero_le _⟩ (zkv (fun μ5 h => ?_))
      exact zw_vret (pc := 48) (by decide +kernel) rfl (Nat.le_refl _) (Nat.le_refl _) ⟨_, rfl, rfl, h⟩
  · replace h := h.2 hc
    refine zw_aload_n (pc := 6) (n := 0) (i := 0) 0 (by decide +kernel) rfl rfl ?_
    refine zw_bipush (pc := 7) (n := 48) (by decide +kernel) (by decide +kernel) ?_
    refine zw_iload_n (pc := 9) (n := 1) (i := 1) 1 (by decide +kernel) rfl rfl ?_
    refine zw_bipush (pc := 10) (n := 100) (by decide +kernel) (by decide +kernel) ?_
    refine zw_idiv (pc := 12) (by decide +kernel) o1 ⟨by decide, by decide⟩ (by decide) ?_
    refine zw_iadd (pc := 13) (by decide +kernel) ?_
    refine zx_callV (pc := 14) (As := [.int (zJ (48 + (v1.tdiv 100)))]) h zi_X11_writes zii_X11_writes zie_X11_writes zl_11_361 (by decide +kernel) ⟨Nat.le_of_ble_eq_true rfl, Nat.le_of_ble_eq_true rfl⟩ rfl zc_203 (by decide) rfl rfl ⟨rfl, rfl⟩ ⟨Nat.zero_le _, Nat.zero_le _⟩ (zkv (fun μ6 h => ?_))
    refine zw_iload_n (pc := 17) (n := 1) (i := 1) 1 (by decide +kernel) rfl rfl ?_
    refine zw_bipush (pc := 18) (n := 9) (by decide +kernel) (by decide +kernel) ?_
    refine zw_icmp_le (pc := 20) (off := 17) (tgt := 37) (by decide +kernel) (by decide) o1 ⟨by decide, by decide⟩ (fun hc => ?_) (fun hc => ?_)
    · replace h := h.1 hc
      refine zw_aload_n (pc := 37) (n := 0) (i := 0) 0 (by decide +kernel) rfl rfl ?_
      refine zw_bipush (pc := 38) (n := 48) (by decide +kernel) (by decide +kernel) ?_
      refine zw_iload_n (pc := 40) (n := 1) (i := 1) 1 (by decide +kernel) rfl rfl ?_
      refine zw_bipush (pc := 41) (n := 10) (by decide +kernel) (by decide +kernel) ?_
      refine zw_irem (pc := 43) (by decide +kernel) o1 ⟨by decide, by decide⟩ (by decide) ?_
      refine zw_iadd (pc := 44) (by decide +kernel) ?_
      refine zx_callV (pc := 45) (As := [.int (zJ (48 + (v1.tmod 10)))]) h zi_X11_writes zii_X11_writes zie_X11_writes zl_11_361 (by decide +kernel) ⟨Nat.le_of_ble_eq_true rfl, Nat.le_of_ble_eq_true rfl⟩ rfl zc_203 (by decide) rfl rfl ⟨rfl, rfl⟩ ⟨Nat.zero_le _, Nat.zero_le _⟩ (zkv (fun μ7 h => ?_))
      exact zw_vret (pc := 48) (by decide +kernel) rfl (Nat.le_refl _) (Nat.le_refl _) ⟨_, rfl, rfl, h⟩
    · replace h := h.2 hc
      obtain ⟨o8, h⟩ := h
      refine zw_aload_n (pc := 23) (n := 0) (i := 0) 0 (by decide +kernel) rfl rfl ?_
      refine zw_bipush (pc := 24) (n := 48) (by decide +kernel) (by decide +kernel) ?_
      refine zw_iload_n (pc := 26) (n := 1) (i := 1) 1 (by decide +kernel) rfl rfl ?_
      refine zw_bipush (pc := 27) (n := 10) (by decide +kernel) (by decide +kernel) ?_
      refine zw_idiv (pc := 29) (by decide +kernel) o1 ⟨by decide, by decide⟩ (by decide) ?_
      refine zw_bipush (pc := 30) (n := 10) (by decide +kernel) (by decide +kernel) ?_
      refine zw_irem (pc := 32) (by decide +kernel) o8 ⟨by decide, by decide⟩ (by decide) ?_
      refine zw_iadd (pc := 33) (by decide +kernel) ?_
      refine zx_callV (pc := 34) (As := [.int (zJ (48 + ((v1.tdiv 10).tmod 10)))]) h zi_X11_writes zii_X11_writes zie_X11_writes zl_11_361 (by decide +kernel) ⟨Nat.le_of_ble_eq_true rfl, Nat.le_of_ble_eq_true rfl⟩ rfl zc_203 (by decide) rfl rfl ⟨rfl, rfl⟩ ⟨Nat.zero_le _, Nat.zero_le _⟩ (zkv (fun μ9 h => ?_))
      refine zw_aload_n (pc := 37) (n := 0) (i := 0) 0 (by decide +kernel) rfl rfl ?_
      refine zw_bipush (pc := 38) (n := 48) (by decide +kernel) (by decide +kernel) ?_
      refine zw_iload_n (pc := 40) (n := 1) (i := 1) 1 (by decide +kernel) rfl rfl ?_
      refine zw_bipush (pc := 41) (n := 10) (by decide +kernel) (by decide +kernel) ?_
      refine zw_irem (pc := 43) (by decide +kernel) o1 ⟨by decide, by decide⟩ (by decide) ?_
      refine zw_iadd (pc := 44) (by decide +kernel) ?_
      refine zx_callV (pc := 45) (As := [.int (zJ (48 + (v1.tmod 10)))]) h zi_X11_writes zii_X11_writes zie_X11_writes zl_11_361 (by decide +kernel) ⟨Nat.le_of_ble_eq_true rfl, Nat.le_of_ble_eq_true rfl⟩ rfl zc_203 (by decide) rfl rfl ⟨rfl, rfl⟩ ⟨Nat.zero_le _, Nat.zero_le _⟩ (zkv (fun μ10 h => ?_))
      exact zw_vret (pc := 48) (by decide +kernel) rfl (Nat.le_refl _) (Nat.le_refl _) ⟨_, rfl, rfl, h⟩
theorem sg_X11_writesPower {g : zG} {φ : zMu → Prop} {v1 : Int} {v2 : Int} {μ : zMu}
    (h : (zR v2) ∧ ((v2 ≤ 0 → φ μ) ∧ (0 < v2 → zOv g zm_X11_writes [.ref 203, .int (zJ v1)] μ (fun μ2 => zOv g zm_X11_writes [.ref 203, .int (zJ (48 + v2))] μ2 (fun μ3 => φ μ3))))) : zOv g zm_X11_writesPower [.ref 203, .int (zJ v1), .int (zJ v2)] μ φ := by
  refine zok_of (by decide +kernel) rfl ?_
  show zWP g zm_X11_writesPower (zmo g zm_X11_writesPower (zΦv φ)) 0 [(0, .ref 203), (1, .int (zJ v1)), (2, .int (zJ v2))] [] 0 0 (zw μ)
  obtain ⟨o1, h⟩ := h
  refine zw_iload_n (pc := 0) (n := 2) (i := 2) 2 (by decide +kernel) rfl rfl ?_
  refine zw_if_le (pc := 1) (off := 16) (tgt := 17) (by decide +kernel) (by decide) o1 (fun hc => ?_) (fun hc => ?_)
  · replace h := h.1 hc
    exact zw_vret (pc := 17) (by decide +kernel) rfl (Nat.le_refl _) (Nat.le_refl _) ⟨_, rfl, rfl, h⟩
  · replace h := h.2 hc
    refine zw_aload_n (pc := 4) (n := 0) (i := 0) 0 (by decide +kernel) rfl rfl ?_
    refine zw_iload_n (pc := 5) (n := 1) (i := 1) 1 (by decide +kernel) rfl rfl ?_
    refine zx_callV (pc := 6) (As := [.int (zJ v1)]) h zi_X11_writes zii_X11_writes zie_X11_writes zl_11_361 (by decide +kernel) ⟨Nat.le_of_ble_eq_true rfl, Nat.le_of_ble_eq_true rfl⟩ rfl zc_203 (by decide) rfl rfl ⟨rfl, rfl⟩ ⟨Nat.zero_le _, Nat.zero_le _⟩ (zkv (fun μ2 h => ?_))
    refine zw_aload_n (pc := 9) (n := 0) (i := 0) 0 (by decide +kernel) rfl rfl ?_
    refine zw_bipush (pc := 10) (n := 48) (by decide +kernel) (by decide +kernel) ?_
    refine zw_iload_n (pc := 12) (n := 2) (i := 2) 2 (by decide +kernel) rfl rfl ?_
    refine zw_iadd (pc := 13) (by decide +kernel) ?_
    refine zx_callV (pc := 14) (As := [.int (zJ (48 + v2))]) h zi_X11_writes zii_X11_writes zie_X11_writes zl_11_361 (by decide +kernel) ⟨Nat.le_of_ble_eq_true rfl, Nat.le_of_ble_eq_true rfl⟩ rfl zc_203 (by decide) rfl rfl ⟨rfl, rfl⟩ ⟨Nat.zero_le _, Nat.zero_le _⟩ (zkv (fun μ3 h => ?_))
    exact zw_vret (pc := 17) (by decide +kernel) rfl (Nat.le_refl _) (Nat.le_refl _) ⟨_, rfl, rfl, h⟩
theorem sg_X11_paper {g : zG} {φ : Int → zMu → Prop} {v1 : Int} {μ : zMu}
    (h : (zR v1) ∧ (zR ((μ 203 39) - 1)) ∧ zOi g zm_X11_in [.long (zL v1), .long (zL 0), .long (zL ((μ 203 39) - 1))] μ (fun x4 μ3 => (zR x4) ∧ ((x4 = 0 → φ (-1) μ3) ∧ (¬ x4 = 0 → (0 ≤ v1 ∧ v1 < 729) ∧ φ (μ3 228 v1.toNat) μ3)))) : zOi g zm_X11_paper [.ref 203, .int (zJ v1)] μ φ := by
  refine zok_of (by decide +kernel) rfl ?_
  show zWP g zm_X11_paper (zmo g zm_X11_paper (zΦi φ)) 0 [(0, .ref 203), (1, .int (zJ v1))] [] 0 0 (zw μ)
  obtain ⟨o1, o2, h⟩ := h
  refine zw_iload_n (pc := 0) (n := 1) (i := 1) 1 (by decide +kernel) rfl rfl ?_
  refine zw_i2l (pc := 1) (by decide +kernel) o1 ?_
  refine zw_lconst (pc := 2) (n := 0) (v := 0) (by decide +kernel) rfl ?_
  refine zw_aload_n (pc := 3) (n := 0) (i := 0) 0 (by decide +kernel) rfl rfl ?_
  refine zx_getI (pc := 4) zf_11_358 (by decide +kernel) rfl zc_203 ?_
  refine zw_iconst (pc := 7) (n := 1) (by decide +kernel) ?_
  refine zw_isub (pc := 8) (by decide +kernel) ?_
  refine zw_i2l (pc := 9) (by decide +kernel) o2 ?_
  refine zx_callS (pc := 10) (As := [.long (zL v1), .long (zL 0), .long (zL ((μ 203 39) - 1))]) h zi_X11_in zis_X11_in zl_11_114 (by decide +kernel) ⟨Nat.le_of_ble_eq_true rfl, Nat.le_of_ble_eq_true rfl⟩ rfl rfl ⟨rfl, rfl⟩ ⟨Nat.zero_le _, Nat.zero_le _⟩ (zki (fun x4 μ3 h => ?_))
  obtain ⟨o5, h⟩ := h
  refine zw_if_eq (pc := 13) (off := 12) (tgt := 25) (by decide +kernel) (by decide) o5 (fun hc => ?_) (fun hc => ?_)
  · replace h := h.1 hc
    refine zw_iconst (pc := 25) (n := (-1)) (by decide +kernel) ?_
    exact zw_iret (pc := 26) (by decide +kernel) rfl (Nat.le_refl _) (Nat.le_refl _) ⟨_, _, rfl, rfl, h⟩
  · replace h := h.2 hc
    obtain ⟨o6, h⟩ := h
    refine zw_aload_n (pc := 16) (n := 0) (i := 0) 0 (by decide +kernel) rfl rfl ?_
    refine zx_getR (pc := 17) (o := 25) (r := 228) zf_11_88 (by decide +kernel) rfl zc_203 rfl (by decide) rfl ?_
    refine zw_iload_n (pc := 20) (n := 1) (i := 1) 1 (by decide +kernel) rfl rfl ?_
    refine zx_iaload (pc := 21) (by decide +kernel) ⟨729, zc_228, o6.1, o6.2⟩ ?_
    refine zw_goto (pc := 22) (off := 4) (tgt := 26) (by decide +kernel) (by decide) ?_
    exact zw_iret (pc := 26) (by decide +kernel) rfl (Nat.le_refl _) (Nat.le_refl _) ⟨_, _, rfl, rfl, h⟩
abbrev at_X11_tell_68 (g : zG) (φ : Int → zMu → Prop) (v1 : Int) (v2 : Int) (v4 : Int) (μ : zMu) : Prop := zWP g zm_X11_tell (zmo g zm_X11_tell (zΦi φ)) 68 [(0, .ref 203), (1, .int (zJ v1)), (2, .int (zJ v2)), (4, .int (zJ v4))] [] 0 0 (zw μ)
theorem sg_X11_tell {g : zG} {φ : Int → zMu → Prop} {v1 : Int} {v2 : Int} {v3 : Int} {μ : zMu}
    (h : zOi g zm_X11_isSeries [.int (zJ v1)] μ (fun x2 μ1 => (zR x2) ∧ ((x2 = 0 → φ (-1) μ1) ∧ (¬ x2 = 0 → zOi g zm_X11_isList [.int (zJ v2)] μ1 (fun x5 μ4 => (zR x5) ∧ ((¬ x5 = 0 → zOi g zm_X11_isStart [.int (zJ v3)] μ4 (fun x8 μ7 => (zR x8) ∧ ((¬ x8 = 0 → (0 ≤ v2 ∧ v2 < 4) ∧ (zR (μ7 229 v2.toNat)) ∧ ((0 ≤ (μ7 229 v2.toNat) → ((¬ (μ7 229 v2.toNat) = 0 → at_X11_tell_68 g φ v1 v2 0 (zup (zup μ7 203 7 v3) 203 8 ((zup μ7 203 7 v3) 229 v2.toNat))) ∧ ((μ7 229 v2.toNat) = 0 → φ (-3) μ7))) ∧ ((μ7 229 v2.toNat) < 0 → φ (-11) μ7))) ∧ (x8 = 0 → φ (-2) μ7)))) ∧ (x5 = 0 → φ (-1) μ4))))))) : zOi g zm_X11_tell [.ref 203, .int (zJ v1), .int (zJ v2), .int (zJ v3)] μ φ := by
  refine zok_of (by decide +kernel) rfl ?_
  show zWP g zm_X11_tell (zmo g zm_X11_tell (zΦi φ)) 0 [(0, .ref 203), (1, .int (zJ v1)), (2, .int (zJ v2)), (3, .int (zJ v3))] [] 0 0 (zw μ)
  refine zw_iload_n (pc := 0) (n := 1) (i := 1) 1 (by decide +kernel) rfl rfl ?_
  refine zx_callS (pc := 1) (As := [.int (zJ v1)]) h zi_X11_isSeries zis_X11_isSeries zl_11_141 (by decide +kernel) ⟨Nat.le_of_ble_eq_true rfl, Nat.le_of_ble_eq_true rfl⟩ rfl rfl ⟨rfl, rfl⟩ ⟨Nat.zero_le _, Nat.zero_le _⟩ (zki (fun x2 μ1 h => ?_))
  obtain ⟨o3, h⟩ := h
  refine zw_if_eq (pc := 4) (off := 10) (tgt := 14) (by decide +kernel) (by decide) o3 (fun hc => ?_) (fun hc => ?_)
  · replace h := h.1 hc
    refine zw_iconst (pc := 14) (n := (-1)) (by decide +kernel) ?_
    exact zw_iret (pc := 15) (by decide +kernel) rfl (Nat.le_refl _) (Nat.le_refl _) ⟨_, _, rfl, rfl, h⟩
  · replace h := h.2 hc
    refine zw_iload_n (pc := 7) (n := 2) (i := 2) 2 (by decide +kernel) rfl rfl ?_
    refine zx_callS (pc := 8) (As := [.int (zJ v2)]) h zi_X11_isList zis_X11_isList zl_11_371 (by decide +kernel) ⟨Nat.le_of_ble_eq_true rfl, Nat.le_of_ble_eq_true rfl⟩ rfl rfl ⟨rfl, rfl⟩ ⟨Nat.zero_le _, Nat.zero_le _⟩ (zki (fun x5 μ4 h => ?_))
    obtain ⟨o6, h⟩ := h
    refine zw_if_ne (pc := 11) (off := 5) (tgt := 16) (by decide +kernel) (by decide) o6 (fun hc => ?_) (fun hc => ?_)
    · replace h := h.1 hc
      refine zw_iload_n (pc := 16) (n := 3) (i := 3) 3 (by decide +kernel) rfl rfl ?_
      refine zx_callS (pc := 17) (As := [.int (zJ v3)]) h zi_X11_isStart zis_X11_isStart zl_11_178 (by decide +kernel) ⟨Nat.le_of_ble_eq_true rfl, Nat.le_of_ble_eq_true rfl⟩ rfl rfl ⟨rfl, rfl⟩ ⟨Nat.zero_le _, Nat.zero_le _⟩ (zki (fun x8 μ7 h => ?_))
      obtain ⟨o9, h⟩ := h
      refine zw_if_ne (pc := 20) (off := 6) (tgt := 26) (by decide +kernel) (by decide) o9 (fun hc => ?_) (fun hc => ?_)
      · replace h := h.1 hc
        obtain ⟨o10, o11, h⟩ := h
        refine zw_aload_n (pc := 26) (n := 0) (i := 0) 0 (by decide +kernel) rfl rfl ?_
        refine zx_getR (pc := 27) (o := 26) (r := 229) zf_11_91 (by decide +kernel) rfl zc_203 rfl (by decide) rfl ?_
        refine zw_iload_n (pc := 30) (n := 2) (i := 2) 2 (by decide +kernel) rfl rfl ?_
        refine zx_iaload (pc := 31) (by decide +kernel) ⟨4, zc_229, o10.1, o10.2⟩ ?_
        refine zw_if_ge (pc := 32) (off := 6) (tgt := 38) (by decide +kernel) (by decide) o11 (fun hc => ?_) (fun hc => ?_)
        · replace h := h.1 hc
          refine zw_aload_n (pc := 38) (n := 0) (i := 0) 0 (by decide +kernel) rfl rfl ?_
          refine zx_getR (pc := 39) (o := 26) (r := 229) zf_11_91 (by decide +kernel) rfl zc_203 rfl (by decide) rfl ?_
          refine zw_iload_n (pc := 42) (n := 2) (i := 2) 2 (by decide +kernel) rfl rfl ?_
          refine zx_iaload (pc := 43) (by decide +kernel) ⟨4, zc_229, o10.1, o10.2⟩ ?_
          refine zw_if_ne (pc := 44) (off := 6) (tgt := 50) (by decide +kernel) (by decide) o11 (fun hc => ?_) (fun hc => ?_)
          · replace h := h.1 hc
            refine zw_aload_n (pc := 50) (n := 0) (i := 0) 0 (by decide +kernel) rfl rfl ?_
            refine zw_iload_n (pc := 51) (n := 3) (i := 3) 3 (by decide +kernel) rfl rfl ?_
            refine zx_putI (pc := 52) zf_11_131 (by decide +kernel) rfl zc_203 ?_
            refine zw_aload_n (pc := 55) (n := 0) (i := 0) 0 (by decide +kernel) rfl rfl ?_
            refine zw_aload_n (pc := 56) (n := 0) (i := 0) 0 (by decide +kernel) rfl rfl ?_
            refine zx_getR (pc := 57) (o := 26) (r := 229) zf_11_91 (by decide +kernel) rfl zc_203 rfl (by decide) rfl ?_
            refine zw_iload_n (pc := 60) (n := 2) (i := 2) 2 (by decide +kernel) rfl rfl ?_
            refine zx_iaload (pc := 61) (by decide +kernel) ⟨4, zc_229, o10.1, o10.2⟩ ?_
            refine zx_putI (pc := 62) zf_11_134 (by decide +kernel) rfl zc_203 ?_
            refine zw_iconst (pc := 65) (n := 0) (by decide +kernel) ?_
            refine zw_istore (pc := 66) (i := 4) (lv' := [(0, .ref 203), (1, .int (zJ v1)), (2, .int (zJ v2)), (3, .int (zJ v3)), (4, .int (zJ 0))]) (by decide +kernel) (Nat.le_of_ble_eq_true rfl) rfl ?_
            exact zw_pick (lv' := [(0, .ref 203), (1, .int (zJ v1)), (2, .int (zJ v2)), (4, .int (zJ 0))]) [0, 1, 2, 4] rfl h
          · replace h := h.2 hc
            refine zw_bipush (pc := 47) (n := (-3)) (by decide +kernel) (by decide +kernel) ?_
            exact zw_iret (pc := 49) (by decide +kernel) rfl (Nat.le_refl _) (Nat.le_refl _) ⟨_, _, rfl, rfl, h⟩
        · replace h := h.2 hc
          refine zw_bipush (pc := 35) (n := (-11)) (by decide +kernel) (by decide +kernel) ?_
          exact zw_iret (pc := 37) (by decide +kernel) rfl (Nat.le_refl _) (Nat.le_refl _) ⟨_, _, rfl, rfl, h⟩
      · replace h := h.2 hc
        refine zw_bipush (pc := 23) (n := (-2)) (by decide +kernel) (by decide +kernel) ?_
        exact zw_iret (pc := 25) (by decide +kernel) rfl (Nat.le_refl _) (Nat.le_refl _) ⟨_, _, rfl, rfl, h⟩
    · replace h := h.2 hc
      refine zw_iconst (pc := 14) (n := (-1)) (by decide +kernel) ?_
      exact zw_iret (pc := 15) (by decide +kernel) rfl (Nat.le_refl _) (Nat.le_refl _) ⟨_, _, rfl, rfl, h⟩
theorem sg_X11_tell_68 {g : zG} {φ : Int → zMu → Prop} {v1 : Int} {v2 : Int} {v4 : Int} {μ : zMu}
    (h : (zR v4) ∧ (zR (μ 203 8)) ∧ (((μ 203 8) ≤ v4 → zOi g zm_X11_becomes [.ref 203, .int (zJ v1)] μ (fun x4 μ3 => φ x4 μ3)) ∧ (v4 < (μ 203 8) → (0 ≤ ((80 * v2) + v4) ∧ ((80 * v2) + v4) < 320) ∧ (zR (μ 230 (Int.toNat ((80 * v2) + v4)))) ∧ zOi g zm_X11_whole [.ref 203, .long (zL (μ 230 (Int.toNat ((80 * v2) + v4))))] μ (fun x8 μ7 => (0 ≤ v4 ∧ v4 < 80) ∧ at_X11_tell_68 g φ v1 v2 (v4 + 1) (zup μ7 209 v4.toNat x8))))) : at_X11_tell_68 g φ v1 v2 v4 μ := by
  obtain ⟨o1, o2, h⟩ := h
  refine zw_iload (pc := 68) (i := 4) 3 (by decide +kernel) rfl ?_
  refine zw_aload_n (pc := 70) (n := 0) (i := 0) 0 (by decide +kernel) rfl rfl ?_
  refine zx_getI (pc := 71) zf_11_134 (by decide +kernel) rfl zc_203 ?_
  refine zw_icmp_ge (pc := 74) (off := 33) (tgt := 107) (by decide +kernel) (by decide) o1 o2 (fun hc => ?_) (fun hc => ?_)
  · replace h := h.1 hc
    refine zw_aload_n (pc := 107) (n := 0) (i := 0) 0 (by decide +kernel) rfl rfl ?_
    refine zw_iload_n (pc := 108) (n := 1) (i := 1) 1 (by decide +kernel) rfl rfl ?_
    refine zx_callV (pc := 109) (As := [.int (zJ v1)]) h zi_X11_becomes zii_X11_becomes zie_X11_becomes zl_11_163 (by decide +kernel) ⟨Nat.le_of_ble_eq_true rfl, Nat.le_of_ble_eq_true rfl⟩ rfl zc_203 (by decide) rfl rfl ⟨rfl, rfl⟩ ⟨Nat.zero_le _, Nat.zero_le _⟩ (zki (fun x4 μ3 h => ?_))
    exact zw_iret (pc := 112) (by decide +kernel) rfl (Nat.le_refl _) (Nat.le_refl _) ⟨_, _, rfl, rfl, h⟩
  · replace h := h.2 hc
    obtain ⟨o5, o6, h⟩ := h
    refine zw_aload_n (pc := 77) (n := 0) (i := 0) 0 (by decide +kernel) rfl rfl ?_
    refine zx_getR (pc := 78) (o := 6) (r := 209) zf_11_31 (by decide +kernel) rfl zc_203 rfl (by decide) rfl ?_
    refine zw_iload (pc := 81) (i := 4) 3 (by decide +kernel) rfl ?_
    refine zw_aload_n (pc := 83) (n := 0) (i := 0) 0 (by decide +kernel) rfl rfl ?_
    refine zw_aload_n (pc := 84) (n := 0) (i := 0) 0 (by decide +kernel) rfl rfl ?_
    refine zx_getR (pc := 85) (o := 27) (r := 230) zf_11_94 (by decide +kernel) rfl zc_203 rfl (by decide) rfl ?_
    refine zw_bipush (pc := 88) (n := 80) (by decide +kernel) (by decide +kernel) ?_
    refine zw_iload_n (pc := 90) (n := 2) (i := 2) 2 (by decide +kernel) rfl rfl ?_
    refine zw_imul (pc := 91) (by decide +kernel) ?_
    refine zw_iload (pc := 92) (i := 4) 3 (by decide +kernel) rfl ?_
    refine zw_iadd (pc := 94) (by decide +kernel) ?_
    refine zx_iaload (pc := 95) (by decide +kernel) ⟨320, zc_230, o5.1, o5.2⟩ ?_
    refine zw_i2l (pc := 96) (by decide +kernel) o6 ?_
    refine zx_callV (pc := 97) (As := [.long (zL (μ 230 (Int.toNat ((80 * v2) + v4))))]) h zi_X11_whole zii_X11_whole zie_X11_whole zl_11_148 (by decide +kernel) ⟨Nat.le_of_ble_eq_true rfl, Nat.le_of_ble_eq_true rfl⟩ rfl zc_203 (by decide) rfl rfl ⟨rfl, rfl⟩ ⟨Nat.zero_le _, Nat.zero_le _⟩ (zki (fun x8 μ7 h => ?_))
    obtain ⟨o9, h⟩ := h
    refine zx_iastore (pc := 100) (by decide +kernel) ⟨80, zc_209, o9.1, o9.2⟩ ?_
    refine zw_iinc (pc := 101) (i := 4) (n := 1) (lv' := [(0, .ref 203), (1, .int (zJ v1)), (2, .int (zJ v2)), (4, .int (zJ (v4 + 1)))]) 3 (by decide +kernel) rfl rfl (Nat.le_of_ble_eq_true rfl) rfl ?_
    refine zw_goto (pc := 104) (off := (-36)) (tgt := 68) (by decide +kernel) (by decide) ?_
    exact h
theorem sg_X11_isList {g : zG} {φ : Int → zMu → Prop} {v0 : Int} {μ : zMu}
    (h : (zR v0) ∧ zOi g zm_X11_in [.long (zL v0), .long (zL 0), .long (zL 3)] μ (fun x3 μ2 => (x3 = 0 ∨ x3 = 1) ∧ φ x3 μ2)) : zOi g zm_X11_isList [.int (zJ v0)] μ φ := by
  refine zok_of (by decide +kernel) rfl ?_
  show zWP g zm_X11_isList (zmo g zm_X11_isList (zΦi φ)) 0 [(0, .int (zJ v0))] [] 0 0 (zw μ)
  obtain ⟨o1, h⟩ := h
  refine zw_iload_n (pc := 0) (n := 0) (i := 0) 0 (by decide +kernel) rfl rfl ?_
  refine zw_i2l (pc := 1) (by decide +kernel) o1 ?_
  refine zw_lconst (pc := 2) (n := 0) (v := 0) (by decide +kernel) rfl ?_
  refine zw_ldc2 (pc := 3) (v := 3) (by decide +kernel) zk_11_238 ?_
  refine zx_callS (pc := 6) (As := [.long (zL v0), .long (zL 0), .long (zL 3)]) h zi_X11_in zis_X11_in zl_11_114 (by decide +kernel) ⟨Nat.le_of_ble_eq_true rfl, Nat.le_of_ble_eq_true rfl⟩ rfl rfl ⟨rfl, rfl⟩ ⟨Nat.zero_le _, Nat.zero_le _⟩ (zki (fun x3 μ2 h => ?_))
  obtain ⟨o4, h⟩ := h
  exact zw_zret (pc := 9) (by decide +kernel) rfl (Nat.le_refl _) (Nat.le_refl _) o4 ⟨_, _, rfl, rfl, h⟩
abbrev at_X11_list_34 (g : zG) (φ : Int → zMu → Prop) (v1 : Int) (v3 : Int) (μ : zMu) : Prop := zWP g zm_X11_list (zmo g zm_X11_list (zΦi φ)) 34 [(0, .ref 203), (1, .int (zJ v1)), (3, .int (zJ v3))] [] 0 0 (zw μ)
theorem sg_X11_list {g : zG} {φ : Int → zMu → Prop} {v1 : Int} {v2 : Int} {μ : zMu}
    (h : zOi g zm_X11_isList [.int (zJ v1)] μ (fun x2 μ1 => (zR x2) ∧ ((¬ x2 = 0 → (zR v2) ∧ ((v2 ≤ 80 → ((0 ≤ v2 → (0 ≤ v1 ∧ v1 < 4) ∧ at_X11_list_34 g φ v1 0 (zup μ1 229 v1.toNat v2)) ∧ (v2 < 0 → φ (-14) μ1))) ∧ (80 < v2 → φ (-2) μ1))) ∧ (x2 = 0 → φ (-1) μ1)))) : zOi g zm_X11_list [.ref 203, .int (zJ v1), .int (zJ v2)] μ φ := by
  refine zok_of (by decide +kernel) rfl ?_
  show zWP g zm_X11_list (zmo g zm_X11_list (zΦi φ)) 0 [(0, .ref 203), (1, .int (zJ v1)), (2, .int (zJ v2))] [] 0 0 (zw μ)
  refine zw_iload_n (pc := 0) (n := 1) (i := 1) 1 (by decide +kernel) rfl rfl ?_
  refine zx_callS (pc := 1) (As := [.int (zJ v1)]) h zi_X11_isList zis_X11_isList zl_11_371 (by decide +kernel) ⟨Nat.le_of_ble_eq_true rfl, Nat.le_of_ble_eq_true rfl⟩ rfl rfl ⟨rfl, rfl⟩ ⟨Nat.zero_le _, Nat.zero_le _⟩ (zki (fun x2 μ1 h => ?_))
  obtain ⟨o3, h⟩ := h
  refine zw_if_ne (pc := 4) (off := 5) (tgt := 9) (by decide +kernel) (by decide) o3 (fun hc => ?_) (fun hc => ?_)
  · replace h := h.1 hc
    obtain ⟨o4, h⟩ := h
    refine zw_iload_n (pc := 9) (n := 2) (i := 2) 2 (by decide +kernel) rfl rfl ?_
    refine zw_bipush (pc := 10) (n := 80) (by decide +kernel) (by decide +kernel) ?_
    refine zw_icmp_le (pc := 12) (off := 6) (tgt := 18) (by decide +kernel) (by decide) o4 ⟨by decide, by decide⟩ (fun hc => ?_) (fun hc => ?_)
    · replace h := h.1 hc
      refine zw_iload_n (pc := 18) (n := 2) (i := 2) 2 (by decide +kernel) rfl rfl ?_
      refine zw_if_ge (pc := 19) (off := 6) (tgt := 25) (by decide +kernel) (by decide) o4 (fun hc => ?_) (fun hc => ?_)
      · replace h := h.1 hc
        obtain ⟨o5, h⟩ := h
        refine zw_aload_n (pc := 25) (n := 0) (i := 0) 0 (by decide +kernel) rfl rfl ?_
        refine zx_getR (pc := 26) (o := 26) (r := 229) zf_11_91 (by decide +kernel) rfl zc_203 rfl (by decide) rfl ?_
        refine zw_iload_n (pc := 29) (n := 1) (i := 1) 1 (by decide +kernel) rfl rfl ?_
        refine zw_iload_n (pc := 30) (n := 2) (i := 2) 2 (by decide +kernel) rfl rfl ?_
        refine zx_iastore (pc := 31) (by decide +kernel) ⟨4, zc_229, o5.1, o5.2⟩ ?_
        refine zw_iconst (pc := 32) (n := 0) (by decide +kernel) ?_
        refine zw_istore_n (pc := 33) (n := 3) (i := 3) (lv' := [(0, .ref 203), (1, .int (zJ v1)), (2, .int (zJ v2)), (3, .int (zJ 0))]) (by decide +kernel) rfl (Nat.le_of_ble_eq_true rfl) rfl ?_
        exact zw_pick (lv' := [(0, .ref 203), (1, .int (zJ v1)), (3, .int (zJ 0))]) [0, 1, 3] rfl h
      · replace h := h.2 hc
        refine zw_bipush (pc := 22) (n := (-14)) (by decide +kernel) (by decide +kernel) ?_
        exact zw_iret (pc := 24) (by decide +kernel) rfl (Nat.le_refl _) (Nat.le_refl _) ⟨_, _, rfl, rfl, h⟩
    · replace h := h.2 hc
      refine zw_bipush (pc := 15) (n := (-2)) (by decide +kernel) (by decide +kernel) ?_
      exact zw_iret (pc := 17) (by decide +kernel) rfl (Nat.le_refl _) (Nat.le_refl _) ⟨_, _, rfl, rfl, h⟩
  · replace h := h.2 hc
    refine zw_iconst (pc := 7) (n := (-1)) (by decide +kernel) ?_
    exact zw_iret (pc := 8) (by decide +kernel) rfl (Nat.le_refl _) (Nat.le_refl _) ⟨_, _, rfl, rfl, h⟩
theorem sg_X11_list_34 {g : zG} {φ : Int → zMu → Prop} {v1 : Int} {v3 : Int} {μ : zMu}
    (h : (zR v3) ∧ ((80 ≤ v3 → φ 1 μ) ∧ (v3 < 80 → (0 ≤ ((80 * v1) + v3) ∧ ((80 * v1) + v3) < 320) ∧ at_X11_list_34 g φ v1 (v3 + 1) (zup μ 230 (Int.toNat ((80 * v1) + v3)) 0)))) : at_X11_list_34 g φ v1 v3 μ := by
  obtain ⟨o1, h⟩ := h
  refine zw_iload_n (pc := 34) (n := 3) (i := 3) 2 (by decide +kernel) rfl rfl ?_
  refine zw_bipush (pc := 35) (n := 80) (by decide +kernel) (by decide +kernel) ?_
  refine zw_icmp_ge (pc := 37) (off := 21) (tgt := 58) (by decide +kernel) (by decide) o1 ⟨by decide, by decide⟩ (fun hc => ?_) (fun hc => ?_)
  · replace h := h.1 hc
    refine zw_iconst (pc := 58) (n := 1) (by decide +kernel) ?_
    exact zw_iret (pc := 59) (by decide +kernel) rfl (Nat.le_refl _) (Nat.le_refl _) ⟨_, _, rfl, rfl, h⟩
  · replace h := h.2 hc
    obtain ⟨o2, h⟩ := h
    refine zw_aload_n (pc := 40) (n := 0) (i := 0) 0 (by decide +kernel) rfl rfl ?_
    refine zx_getR (pc := 41) (o := 27) (r := 230) zf_11_94 (by decide +kernel) rfl zc_203 rfl (by decide) rfl ?_
    refine zw_bipush (pc := 44) (n := 80) (by decide +kernel) (by decide +kernel) ?_
    refine zw_iload_n (pc := 46) (n := 1) (i := 1) 1 (by decide +kernel) rfl rfl ?_
    refine zw_imul (pc := 47) (by decide +kernel) ?_
    refine zw_iload_n (pc := 48) (n := 3) (i := 3) 2 (by decide +kernel) rfl rfl ?_
    refine zw_iadd (pc := 49) (by decide +kernel) ?_
    refine zw_iconst (pc := 50) (n := 0) (by decide +kernel) ?_
    refine zx_iastore (pc := 51) (by decide +kernel) ⟨320, zc_230, o2.1, o2.2⟩ ?_
    refine zw_iinc (pc := 52) (i := 3) (n := 1) (lv' := [(0, .ref 203), (1, .int (zJ v1)), (3, .int (zJ (v3 + 1)))]) 2 (by decide +kernel) rfl rfl (Nat.le_of_ble_eq_true rfl) rfl ?_
    refine zw_goto (pc := 55) (off := (-21)) (tgt := 34) (by decide +kernel) (by decide) ?_
    exact h
theorem sg_X11_put {g : zG} {φ : Int → zMu → Prop} {v1 : Int} {v2 : Int} {v3 : Int} {μ : zMu}
    (h : zOi g zm_X11_isList [.int (zJ v1)] μ (fun x2 μ1 => (zR x2) ∧ ((¬ x2 = 0 → (0 ≤ v1 ∧ v1 < 4) ∧ (zR (μ1 229 v1.toNat)) ∧ ((0 ≤ (μ1 229 v1.toNat) → (zR v2) ∧ (zR ((μ1 229 v1.toNat) - 1)) ∧ zOi g zm_X11_in [.long (zL v2), .long (zL 0), .long (zL ((μ1 229 v1.toNat) - 1))] μ1 (fun x9 μ8 => (zR x9) ∧ ((¬ x9 = 0 → (0 ≤ ((80 * v1) + v2) ∧ ((80 * v1) + v2) < 320) ∧ φ 1 (zup μ8 230 (Int.toNat ((80 * v1) + v2)) v3)) ∧ (x9 = 0 → φ (-13) μ8)))) ∧ ((μ1 229 v1.toNat) < 0 → φ (-11) μ1))) ∧ (x2 = 0 → φ (-1) μ1)))) : zOi g zm_X11_put [.ref 203, .int (zJ v1), .int (zJ v2), .int (zJ v3)] μ φ := by
  refine zok_of (by decide +kernel) rfl ?_
  show zWP g zm_X11_put (zmo g zm_X11_put (zΦi φ)) 0 [(0, .ref 203), (1, .int (zJ v1)), (2, .int (zJ v2)), (3, .int (zJ v3))] [] 0 0 (zw μ)
  refine zw_iload_n (pc := 0) (n := 1) (i := 1) 1 (by decide +kernel) rfl rfl ?_
  refine zx_callS (pc := 1) (As := [.int (zJ v1)]) h zi_X11_isList zis_X11_isList zl_11_371 (by decide +kernel) ⟨Nat.le_of_ble_eq_true rfl, Nat.le_of_ble_eq_true rfl⟩ rfl rfl ⟨rfl, rfl⟩ ⟨Nat.zero_le _, Nat.zero_le _⟩ (zki (fun x2 μ1 h => ?_))
  obtain ⟨o3, h⟩ := h
  refine zw_if_ne (pc := 4) (off := 5) (tgt := 9) (by decide +kernel) (by decide) o3 (fun hc => ?_) (fun hc => ?_)
  · replace h := h.1 hc
    obtain ⟨o4, o5, h⟩ := h
    refine zw_aload_n (pc := 9) (n := 0) (i := 0) 0 (by decide +kernel) rfl rfl ?_
    refine zx_getR (pc := 10) (o := 26) (r := 229) zf_11_91 (by decide +kernel) rfl zc_203 rfl (by decide) rfl ?_
    refine zw_iload_n (pc := 13) (n := 1) (i := 1) 1 (by decide +kernel) rfl rfl ?_
    refine zx_iaload (pc := 14) (by decide +kernel) ⟨4, zc_229, o4.1, o4.2⟩ ?_
    refine zw_if_ge (pc := 15) (off := 6) (tgt := 21) (by decide +kernel) (by decide) o5 (fun hc => ?_) (fun hc => ?_)
    · replace h := h.1 hc
      obtain ⟨o6, o7, h⟩ := h
      refine zw_iload_n (pc := 21) (n := 2) (i := 2) 2 (by decide +kernel) rfl rfl ?_
      refine zw_i2l (pc := 22) (by decide +kernel) o6 ?_
      refine zw_lconst (pc := 23) (n := 0) (v := 0) (by decide +kernel) rfl ?_
      refine zw_aload_n (pc := 24) (n := 0) (i := 0) 0 (by decide +kernel) rfl rfl ?_
      refine zx_getR (pc := 25) (o := 26) (r := 229) zf_11_91 (by decide +kernel) rfl zc_203 rfl (by decide) rfl ?_
      refine zw_iload_n (pc := 28) (n := 1) (i := 1) 1 (by decide +kernel) rfl rfl ?_
      refine zx_iaload (pc := 29) (by decide +kernel) ⟨4, zc_229, o4.1, o4.2⟩ ?_
      refine zw_iconst (pc := 30) (n := 1) (by decide +kernel) ?_
      refine zw_isub (pc := 31) (by decide +kernel) ?_
      refine zw_i2l (pc := 32) (by decide +kernel) o7 ?_
      refine zx_callS (pc := 33) (As := [.long (zL v2), .long (zL 0), .long (zL ((μ1 229 v1.toNat) - 1))]) h zi_X11_in zis_X11_in zl_11_114 (by decide +kernel) ⟨Nat.le_of_ble_eq_true rfl, Nat.le_of_ble_eq_true rfl⟩ rfl rfl ⟨rfl, rfl⟩ ⟨Nat.zero_le _, Nat.zero_le _⟩ (zki (fun x9 μ8 h => ?_))
      obtain ⟨o10, h⟩ := h
      refine zw_if_ne (pc := 36) (off := 6) (tgt := 42) (by decide +kernel) (by decide) o10 (fun hc => ?_) (fun hc => ?_)
      · replace h := h.1 hc
        obtain ⟨o11, h⟩ := h
        refine zw_aload_n (pc := 42) (n := 0) (i := 0) 0 (by decide +kernel) rfl rfl ?_
        refine zx_getR (pc := 43) (o := 27) (r := 230) zf_11_94 (by decide +kernel) rfl zc_203 rfl (by decide) rfl ?_
        refine zw_bipush (pc := 46) (n := 80) (by decide +kernel) (by decide +kernel) ?_
        refine zw_iload_n (pc := 48) (n := 1) (i := 1) 1 (by decide +kernel) rfl rfl ?_
        refine zw_imul (pc := 49) (by decide +kernel) ?_
        refine zw_iload_n (pc := 50) (n := 2) (i := 2) 2 (by decide +kernel) rfl rfl ?_
        refine zw_iadd (pc := 51) (by decide +kernel) ?_
        refine zw_iload_n (pc := 52) (n := 3) (i := 3) 3 (by decide +kernel) rfl rfl ?_
        refine zx_iastore (pc := 53) (by decide +kernel) ⟨320, zc_230, o11.1, o11.2⟩ ?_
        refine zw_iconst (pc := 54) (n := 1) (by decide +kernel) ?_
        exact zw_iret (pc := 55) (by decide +kernel) rfl (Nat.le_refl _) (Nat.le_refl _) ⟨_, _, rfl, rfl, h⟩
      · replace h := h.2 hc
        refine zw_bipush (pc := 39) (n := (-13)) (by decide +kernel) (by decide +kernel) ?_
        exact zw_iret (pc := 41) (by decide +kernel) rfl (Nat.le_refl _) (Nat.le_refl _) ⟨_, _, rfl, rfl, h⟩
    · replace h := h.2 hc
      refine zw_bipush (pc := 18) (n := (-11)) (by decide +kernel) (by decide +kernel) ?_
      exact zw_iret (pc := 20) (by decide +kernel) rfl (Nat.le_refl _) (Nat.le_refl _) ⟨_, _, rfl, rfl, h⟩
  · replace h := h.2 hc
    refine zw_iconst (pc := 7) (n := (-1)) (by decide +kernel) ?_
    exact zw_iret (pc := 8) (by decide +kernel) rfl (Nat.le_refl _) (Nat.le_refl _) ⟨_, _, rfl, rfl, h⟩
theorem sg_X11_get {g : zG} {φ : Int → zMu → Prop} {v1 : Int} {v2 : Int} {μ : zMu}
    (h : zOi g zm_X11_isList [.int (zJ v1)] μ (fun x2 μ1 => (zR x2) ∧ ((x2 = 0 → φ (-9223372036854775808) μ1) ∧ (¬ x2 = 0 → (zR v2) ∧ (0 ≤ v1 ∧ v1 < 4) ∧ (zR ((μ1 229 v1.toNat) - 1)) ∧ zOi g zm_X11_in [.long (zL v2), .long (zL 0), .long (zL ((μ1 229 v1.toNat) - 1))] μ1 (fun x8 μ7 => (zR x8) ∧ ((x8 = 0 → φ (-9223372036854775808) μ7) ∧ (¬ x8 = 0 → (0 ≤ ((80 * v1) + v2) ∧ ((80 * v1) + v2) < 320) ∧ (zR (μ7 230 (Int.toNat ((80 * v1) + v2)))) ∧ φ (μ7 230 (Int.toNat ((80 * v1) + v2))) μ7))))))) : zOl g zm_X11_get [.ref 203, .int (zJ v1), .int (zJ v2)] μ φ := by
  refine zok_of (by decide +kernel) rfl ?_
  show zWP g zm_X11_get (zmo g zm_X11_get (zΦl φ)) 0 [(0, .ref 203), (1, .int (zJ v1)), (2, .int (zJ v2))] [] 0 0 (zw μ)
  refine zw_iload_n (pc := 0) (n := 1) (i := 1) 1 (by decide +kernel) rfl rfl ?_
  refine zx_callS (pc := 1) (As := [.int (zJ v1)]) h zi_X11_isList zis_X11_isList zl_11_371 (by decide +kernel) ⟨Nat.le_of_ble_eq_true rfl, Nat.le_of_ble_eq_true rfl⟩ rfl rfl ⟨rfl, rfl⟩ ⟨Nat.zero_le _, Nat.zero_le _⟩ (zki (fun x2 μ1 h => ?_))
  obtain ⟨o3, h⟩ := h
  refine zw_if_eq (pc := 4) (off := 36) (tgt := 40) (by decide +kernel) (by decide) o3 (fun hc => ?_) (fun hc => ?_)
  · replace h := h.1 hc
    refine zw_ldc2 (pc := 40) (v := (-9223372036854775808)) (by decide +kernel) zk_11_275 ?_
    exact zw_lret (pc := 43) (by decide +kernel) rfl (Nat.le_refl _) (Nat.le_refl _) ⟨_, _, rfl, rfl, h⟩
  · replace h := h.2 hc
    obtain ⟨o4, o5, o6, h⟩ := h
    refine zw_iload_n (pc := 7) (n := 2) (i := 2) 2 (by decide +kernel) rfl rfl ?_
    refine zw_i2l (pc := 8) (by decide +kernel) o4 ?_
    refine zw_lconst (pc := 9) (n := 0) (v := 0) (by decide +kernel) rfl ?_
    refine zw_aload_n (pc := 10) (n := 0) (i := 0) 0 (by decide +kernel) rfl rfl ?_
    refine zx_getR (pc := 11) (o := 26) (r := 229) zf_11_91 (by decide +kernel) rfl zc_203 rfl (by decide) rfl ?_
    refine zw_iload_n (pc := 14) (n := 1) (i := 1) 1 (by decide +kernel) rfl rfl ?_
    refine zx_iaload (pc := 15) (by decide +kernel) ⟨4, zc_229, o5.1, o5.2⟩ ?_
    refine zw_iconst (pc := 16) (n := 1) (by decide +kernel) ?_
    refine zw_isub (pc := 17) (by decide +kernel) ?_
    refine zw_i2l (pc := 18) (by decide +kernel) o6 ?_
    refine zx_callS (pc := 19) (As := [.long (zL v2), .long (zL 0), .long (zL ((μ1 229 v1.toNat) - 1))]) h zi_X11_in zis_X11_in zl_11_114 (by decide +kernel) ⟨Nat.le_of_ble_eq_true rfl, Nat.le_of_ble_eq_true rfl⟩ rfl rfl ⟨rfl, rfl⟩ ⟨Nat.zero_le _, Nat.zero_le _⟩ (zki (fun x8 μ7 h => ?_))
    obtain ⟨o9, h⟩ := h
    refine zw_if_eq (pc := 22) (off := 18) (tgt := 40) (by decide +kernel) (by decide) o9 (fun hc => ?_) (fun hc => ?_)
    · replace h := h.1 hc
      refine zw_ldc2 (pc := 40) (v := (-9223372036854775808)) (by decide +kernel) zk_11_275 ?_
      exact zw_lret (pc := 43) (by decide +kernel) rfl (Nat.le_refl _) (Nat.le_refl _) ⟨_, _, rfl, rfl, h⟩
    · replace h := h.2 hc
      obtain ⟨o10, o11, h⟩ := h
      refine zw_aload_n (pc := 25) (n := 0) (i := 0) 0 (by decide +kernel) rfl rfl ?_
      refine zx_getR (pc := 26) (o := 27) (r := 230) zf_11_94 (by decide +kernel) rfl zc_203 rfl (by decide) rfl ?_
      refine zw_bipush (pc := 29) (n := 80) (by decide +kernel) (by decide +kernel) ?_
      refine zw_iload_n (pc := 31) (n := 1) (i := 1) 1 (by decide +kernel) rfl rfl ?_
      refine zw_imul (pc := 32) (by decide +kernel) ?_
      refine zw_iload_n (pc := 33) (n := 2) (i := 2) 2 (by decide +kernel) rfl rfl ?_
      refine zw_iadd (pc := 34) (by decide +kernel) ?_
      refine zx_iaload (pc := 35) (by decide +kernel) ⟨320, zc_230, o10.1, o10.2⟩ ?_
      refine zw_i2l (pc := 36) (by decide +kernel) o11 ?_
      refine zw_goto (pc := 37) (off := 6) (tgt := 43) (by decide +kernel) (by decide) ?_
      exact zw_lret (pc := 43) (by decide +kernel) rfl (Nat.le_refl _) (Nat.le_refl _) ⟨_, _, rfl, rfl, h⟩
abbrev at_X11_lay_55 (g : zG) (φ : Int → zMu → Prop) (v1 : Int) (v2 : Int) (v3 : Int) (v4 : Int) (μ : zMu) : Prop := zWP g zm_X11_lay (zmo g zm_X11_lay (zΦi φ)) 55 [(0, .ref 203), (1, .int (zJ v1)), (2, .int (zJ v2)), (3, .int (zJ v3)), (4, .int (zJ v4))] [] 0 0 (zw μ)
theorem sg_X11_lay {g : zG} {φ : Int → zMu → Prop} {v1 : Int} {v2 : Int} {μ : zMu}
    (h : zOi g zm_X11_isList [.int (zJ v1)] μ (fun x2 μ1 => (zR x2) ∧ ((x2 = 0 → φ (-1) μ1) ∧ (¬ x2 = 0 → zOi g zm_X11_isSeries [.int (zJ v2)] μ1 (fun x5 μ4 => (zR x5) ∧ ((¬ x5 = 0 → (0 ≤ v1 ∧ v1 < 4) ∧ (zR (μ4 229 v1.toNat)) ∧ (((μ4 229 v1.toNat) < 0 → φ (-11) μ4) ∧ (0 ≤ (μ4 229 v1.toNat) → zOi g zm_X11_isThere [.ref 203, .int (zJ v2)] μ4 (fun x10 μ9 => (zR x10) ∧ ((¬ x10 = 0 → (0 ≤ v2 ∧ v2 < 6) ∧ (zR (μ9 229 v1.toNat)) ∧ (zR (μ9 205 v2.toNat)) ∧ at_X11_lay_55 g φ v1 v2 (min (μ9 229 v1.toNat) (μ9 205 v2.toNat)) 0 μ9) ∧ (x10 = 0 → φ (-11) μ9)))))) ∧ (x5 = 0 → φ (-1) μ4))))))) : zOi g zm_X11_lay [.ref 203, .int (zJ v1), .int (zJ v2)] μ φ := by
  refine zok_of (by decide +kernel) rfl ?_
  show zWP g zm_X11_lay (zmo g zm_X11_lay (zΦi φ)) 0 [(0, .ref 203), (1, .int (zJ v1)), (2, .int (zJ v2))] [] 0 0 (zw μ)
  refine zw_iload_n (pc := 0) (n := 1) (i := 1) 1 (by decide +kernel) rfl rfl ?_
  refine zx_callS (pc := 1) (As := [.int (zJ v1)]) h zi_X11_isList zis_X11_isList zl_11_371 (by decide +kernel) ⟨Nat.le_of_ble_eq_true rfl, Nat.le_of_ble_eq_true rfl⟩ rfl rfl ⟨rfl, rfl⟩ ⟨Nat.zero_le _, Nat.zero_le _⟩ (zki (fun x2 μ1 h => ?_))
  obtain ⟨o3, h⟩ := h
  refine zw_if_eq (pc := 4) (off := 10) (tgt := 14) (by decide +kernel) (by decide) o3 (fun hc => ?_) (fun hc => ?_)
  · replace h := h.1 hc
    refine zw_iconst (pc := 14) (n := (-1)) (by decide +kernel) ?_
    exact zw_iret (pc := 15) (by decide +kernel) rfl (Nat.le_refl _) (Nat.le_refl _) ⟨_, _, rfl, rfl, h⟩
  · replace h := h.2 hc
    refine zw_iload_n (pc := 7) (n := 2) (i := 2) 2 (by decide +kernel) rfl rfl ?_
    refine zx_callS (pc := 8) (As := [.int (zJ v2)]) h zi_X11_isSeries zis_X11_isSeries zl_11_141 (by decide +kernel) ⟨Nat.le_of_ble_eq_true rfl, Nat.le_of_ble_eq_true rfl⟩ rfl rfl ⟨rfl, rfl⟩ ⟨Nat.zero_le _, Nat.zero_le _⟩ (zki (fun x5 μ4 h => ?_))
    obtain ⟨o6, h⟩ := h
    refine zw_if_ne (pc := 11) (off := 5) (tgt := 16) (by decide +kernel) (by decide) o6 (fun hc => ?_) (fun hc => ?_)
    · replace h := h.1 hc
      obtain ⟨o7, o8, h⟩ := h
      refine zw_aload_n (pc := 16) (n := 0) (i := 0) 0 (by decide +kernel) rfl rfl ?_
      refine zx_getR (pc := 17) (o := 26) (r := 229) zf_11_91 (by decide +kernel) rfl zc_203 rfl (by decide) rfl ?_
      refine zw_iload_n (pc := 20) (n := 1) (i := 1) 1 (by decide +kernel) rfl rfl ?_
      refine zx_iaload (pc := 21) (by decide +kernel) ⟨4, zc_229, o7.1, o7.2⟩ ?_
      refine zw_if_lt (pc := 22) (off := 11) (tgt := 33) (by decide +kernel) (by decide) o8 (fun hc => ?_) (fun hc => ?_)
      · replace h := h.1 hc
        refine zw_bipush (pc := 33) (n := (-11)) (by decide +kernel) (by decide +kernel) ?_
        exact zw_iret (pc := 35) (by decide +kernel) rfl (Nat.le_refl _) (Nat.le_refl _) ⟨_, _, rfl, rfl, h⟩
      · replace h := h.2 hc
        refine zw_aload_n (pc := 25) (n := 0) (i := 0) 0 (by decide +kernel) rfl rfl ?_
        refine zw_iload_n (pc := 26) (n := 2) (i := 2) 2 (by decide +kernel) rfl rfl ?_
        refine zx_callV (pc := 27) (As := [.int (zJ v2)]) h zi_X11_isThere zii_X11_isThere zie_X11_isThere zl_11_166 (by decide +kernel) ⟨Nat.le_of_ble_eq_true rfl, Nat.le_of_ble_eq_true rfl⟩ rfl zc_203 (by decide) rfl rfl ⟨rfl, rfl⟩ ⟨Nat.zero_le _, Nat.zero_le _⟩ (zki (fun x10 μ9 h => ?_))
        obtain ⟨o11, h⟩ := h
        refine zw_if_ne (pc := 30) (off := 6) (tgt := 36) (by decide +kernel) (by decide) o11 (fun hc => ?_) (fun hc => ?_)
        · replace h := h.1 hc
          obtain ⟨o12, o13, o14, h⟩ := h
          refine zw_aload_n (pc := 36) (n := 0) (i := 0) 0 (by decide +kernel) rfl rfl ?_
          refine zx_getR (pc := 37) (o := 26) (r := 229) zf_11_91 (by decide +kernel) rfl zc_203 rfl (by decide) rfl ?_
          refine zw_iload_n (pc := 40) (n := 1) (i := 1) 1 (by decide +kernel) rfl rfl ?_
          refine zx_iaload (pc := 41) (by decide +kernel) ⟨4, zc_229, o7.1, o7.2⟩ ?_
          refine zw_aload_n (pc := 42) (n := 0) (i := 0) 0 (by decide +kernel) rfl rfl ?_
          refine zx_getR (pc := 43) (o := 2) (r := 205) zf_11_19 (by decide +kernel) rfl zc_203 rfl (by decide) rfl ?_
          refine zw_iload_n (pc := 46) (n := 2) (i := 2) 2 (by decide +kernel) rfl rfl ?_
          refine zx_iaload (pc := 47) (by decide +kernel) ⟨6, zc_205, o12.1, o12.2⟩ ?_
          refine zw_min (pc := 48) zl_11_169 zb_minS zb_mathI zb_minC (by decide +kernel) ⟨Nat.le_of_ble_eq_true rfl, Nat.le_of_ble_eq_true rfl⟩ (Nat.zero_le _) (Nat.zero_le _) rfl o13 o14 ?_
          refine zw_istore_n (pc := 51) (n := 3) (i := 3) (lv' := [(0, .ref 203), (1, .int (zJ v1)), (2, .int (zJ v2)), (3, .int (zJ (min (μ9 229 v1.toNat) (μ9 205 v2.toNat))))]) (by decide +kernel) rfl (Nat.le_of_ble_eq_true rfl) rfl ?_
          refine zw_iconst (pc := 52) (n := 0) (by decide +kernel) ?_
          refine zw_istore (pc := 53) (i := 4) (lv' := [(0, .ref 203), (1, .int (zJ v1)), (2, .int (zJ v2)), (3, .int (zJ (min (μ9 229 v1.toNat) (μ9 205 v2.toNat)))), (4, .int (zJ 0))]) (by decide +kernel) (Nat.le_of_ble_eq_true rfl) rfl ?_
          exact h
        · replace h := h.2 hc
          refine zw_bipush (pc := 33) (n := (-11)) (by decide +kernel) (by decide +kernel) ?_
          exact zw_iret (pc := 35) (by decide +kernel) rfl (Nat.le_refl _) (Nat.le_refl _) ⟨_, _, rfl, rfl, h⟩
    · replace h := h.2 hc
      refine zw_iconst (pc := 14) (n := (-1)) (by decide +kernel) ?_
      exact zw_iret (pc := 15) (by decide +kernel) rfl (Nat.le_refl _) (Nat.le_refl _) ⟨_, _, rfl, rfl, h⟩
theorem sg_X11_lay_55 {g : zG} {φ : Int → zMu → Prop} {v1 : Int} {v2 : Int} {v3 : Int} {v4 : Int} {μ : zMu}
    (h : (zR v4) ∧ (zR v3) ∧ ((v3 ≤ v4 → φ v3 μ) ∧ (v4 < v3 → (0 ≤ ((80 * v2) + v4) ∧ ((80 * v2) + v4) < 480) ∧ (0 ≤ ((80 * v1) + v4) ∧ ((80 * v1) + v4) < 320) ∧ at_X11_lay_55 g φ v1 v2 v3 (v4 + 1) (zup μ 230 (Int.toNat ((80 * v1) + v4)) (μ 206 (Int.toNat ((80 * v2) + v4))))))) : at_X11_lay_55 g φ v1 v2 v3 v4 μ := by
  obtain ⟨o1, o2, h⟩ := h
  refine zw_iload (pc := 55) (i := 4) 4 (by decide +kernel) rfl ?_
  refine zw_iload_n (pc := 57) (n := 3) (i := 3) 3 (by decide +kernel) rfl rfl ?_
  refine zw_icmp_ge (pc := 58) (off := 33) (tgt := 91) (by decide +kernel) (by decide) o1 o2 (fun hc => ?_) (fun hc => ?_)
  · replace h := h.1 hc
    refine zw_iload_n (pc := 91) (n := 3) (i := 3) 3 (by decide +kernel) rfl rfl ?_
    exact zw_iret (pc := 92) (by decide +kernel) rfl (Nat.le_refl _) (Nat.le_refl _) ⟨_, _, rfl, rfl, h⟩
  · replace h := h.2 hc
    obtain ⟨o3, o4, h⟩ := h
    refine zw_aload_n (pc := 61) (n := 0) (i := 0) 0 (by decide +kernel) rfl rfl ?_
    refine zx_getR (pc := 62) (o := 27) (r := 230) zf_11_94 (by decide +kernel) rfl zc_203 rfl (by decide) rfl ?_
    refine zw_bipush (pc := 65) (n := 80) (by decide +kernel) (by decide +kernel) ?_
    refine zw_iload_n (pc := 67) (n := 1) (i := 1) 1 (by decide +kernel) rfl rfl ?_
    refine zw_imul (pc := 68) (by decide +kernel) ?_
    refine zw_iload (pc := 69) (i := 4) 4 (by decide +kernel) rfl ?_
    refine zw_iadd (pc := 71) (by decide +kernel) ?_
    refine zw_aload_n (pc := 72) (n := 0) (i := 0) 0 (by decide +kernel) rfl rfl ?_
    refine zx_getR (pc := 73) (o := 3) (r := 206) zf_11_22 (by decide +kernel) rfl zc_203 rfl (by decide) rfl ?_
    refine zw_bipush (pc := 76) (n := 80) (by decide +kernel) (by decide +kernel) ?_
    refine zw_iload_n (pc := 78) (n := 2) (i := 2) 2 (by decide +kernel) rfl rfl ?_
    refine zw_imul (pc := 79) (by decide +kernel) ?_
    refine zw_iload (pc := 80) (i := 4) 4 (by decide +kernel) rfl ?_
    refine zw_iadd (pc := 82) (by decide +kernel) ?_
    refine zx_iaload (pc := 83) (by decide +kernel) ⟨480, zc_206, o3.1, o3.2⟩ ?_
    refine zx_iastore (pc := 84) (by decide +kernel) ⟨320, zc_230, o4.1, o4.2⟩ ?_
    refine zw_iinc (pc := 85) (i := 4) (n := 1) (lv' := [(0, .ref 203), (1, .int (zJ v1)), (2, .int (zJ v2)), (3, .int (zJ v3)), (4, .int (zJ (v4 + 1)))]) 4 (by decide +kernel) rfl rfl (Nat.le_of_ble_eq_true rfl) rfl ?_
    refine zw_goto (pc := 88) (off := (-33)) (tgt := 55) (by decide +kernel) (by decide) ?_
    exact h
abbrev at_X11_judge_38 (g : zG) (φ : Int → zMu → Prop) (v1 : Int) (v2 : Int) (v3 : Int) (μ : zMu) : Prop := zWP g zm_X11_judge (zmo g zm_X11_judge (zΦi φ)) 38 [(0, .ref 203), (1, .int (zJ v1)), (2, .int (zJ v2)), (3, .int (zJ v3))] [] 0 0 (zw μ)
theorem sg_X11_judge {g : zG} {φ : Int → zMu → Prop} {v1 : Int} {v2 : Int} {μ : zMu}
    (h : zOi g zm_X11_isList [.int (zJ v1)] μ (fun x2 μ1 => (zR x2) ∧ ((x2 = 0 → φ (-1) μ1) ∧ (¬ x2 = 0 → zOi g zm_X11_isSeries [.int (zJ v2)] μ1 (fun x5 μ4 => (zR x5) ∧ ((¬ x5 = 0 → (0 ≤ v1 ∧ v1 < 4) ∧ (zR (μ4 229 v1.toNat)) ∧ (((μ4 229 v1.toNat) < 0 → φ (-11) μ4) ∧ (0 ≤ (μ4 229 v1.toNat) → zOi g zm_X11_isThere [.ref 203, .int (zJ v2)] μ4 (fun x10 μ9 => (zR x10) ∧ ((¬ x10 = 0 → at_X11_judge_38 g φ v1 v2 0 μ9) ∧ (x10 = 0 → φ (-11) μ9)))))) ∧ (x5 = 0 → φ (-1) μ4))))))) : zOi g zm_X11_judge [.ref 203, .int (zJ v1), .int (zJ v2)] μ φ := by
  refine zok_of (by decide +kernel) rfl ?_
  show zWP g zm_X11_judge (zmo g zm_X11_judge (zΦi φ)) 0 [(0, .ref 203), (1, .int (zJ v1)), (2, .int (zJ v2))] [] 0 0 (zw μ)
  refine zw_iload_n (pc := 0) (n := 1) (i := 1) 1 (by decide +kernel) rfl rfl ?_
  refine zx_callS (pc := 1) (As := [.int (zJ v1)]) h zi_X11_isList zis_X11_isList zl_11_371 (by decide +kernel) ⟨Nat.le_of_ble_eq_true rfl, Nat.le_of_ble_eq_true rfl⟩ rfl rfl ⟨rfl, rfl⟩ ⟨Nat.zero_le _, Nat.zero_le _⟩ (zki (fun x2 μ1 h => ?_))
  obtain ⟨o3, h⟩ := h
  refine zw_if_eq (pc := 4) (off := 10) (tgt := 14) (by decide +kernel) (by decide) o3 (fun hc => ?_) (fun hc => ?_)
  · replace h := h.1 hc
    refine zw_iconst (pc := 14) (n := (-1)) (by decide +kernel) ?_
    exact zw_iret (pc := 15) (by decide +kernel) rfl (Nat.le_refl _) (Nat.le_refl _) ⟨_, _, rfl, rfl, h⟩
  · replace h := h.2 hc
    refine zw_iload_n (pc := 7) (n := 2) (i := 2) 2 (by decide +kernel) rfl rfl ?_
    refine zx_callS (pc := 8) (As := [.int (zJ v2)]) h zi_X11_isSeries zis_X11_isSeries zl_11_141 (by decide +kernel) ⟨Nat.le_of_ble_eq_true rfl, Nat.le_of_ble_eq_true rfl⟩ rfl rfl ⟨rfl, rfl⟩ ⟨Nat.zero_le _, Nat.zero_le _⟩ (zki (fun x5 μ4 h => ?_))
    obtain ⟨o6, h⟩ := h
    refine zw_if_ne (pc := 11) (off := 5) (tgt := 16) (by decide +kernel) (by decide) o6 (fun hc => ?_) (fun hc => ?_)
    · replace h := h.1 hc
      obtain ⟨o7, o8, h⟩ := h
      refine zw_aload_n (pc := 16) (n := 0) (i := 0) 0 (by decide +kernel) rfl rfl ?_
      refine zx_getR (pc := 17) (o := 26) (r := 229) zf_11_91 (by decide +kernel) rfl zc_203 rfl (by decide) rfl ?_
      refine zw_iload_n (pc := 20) (n := 1) (i := 1) 1 (by decide +kernel) rfl rfl ?_
      refine zx_iaload (pc := 21) (by decide +kernel) ⟨4, zc_229, o7.1, o7.2⟩ ?_
      refine zw_if_lt (pc := 22) (off := 11) (tgt := 33) (by decide +kernel) (by decide) o8 (fun hc => ?_) (fun hc => ?_)
      · replace h := h.1 hc
        refine zw_bipush (pc := 33) (n := (-11)) (by decide +kernel) (by decide +kernel) ?_
        exact zw_iret (pc := 35) (by decide +kernel) rfl (Nat.le_refl _) (Nat.le_refl _) ⟨_, _, rfl, rfl, h⟩
      · replace h := h.2 hc
        refine zw_aload_n (pc := 25) (n := 0) (i := 0) 0 (by decide +kernel) rfl rfl ?_
        refine zw_iload_n (pc := 26) (n := 2) (i := 2) 2 (by decide +kernel) rfl rfl ?_
        refine zx_callV (pc := 27) (As := [.int (zJ v2)]) h zi_X11_isThere zii_X11_isThere zie_X11_isThere zl_11_166 (by decide +kernel) ⟨Nat.le_of_ble_eq_true rfl, Nat.le_of_ble_eq_true rfl⟩ rfl zc_203 (by decide) rfl rfl ⟨rfl, rfl⟩ ⟨Nat.zero_le _, Nat.zero_le _⟩ (zki (fun x10 μ9 h => ?_))
        obtain ⟨o11, h⟩ := h
        refine zw_if_ne (pc := 30) (off := 6) (tgt := 36) (by decide +kernel) (by decide) o11 (fun hc => ?_) (fun hc => ?_)
        · replace h := h.1 hc
          refine zw_iconst (pc := 36) (n := 0) (by decide +kernel) ?_
          refine zw_istore_n (pc := 37) (n := 3) (i := 3) (lv' := [(0, .ref 203), (1, .int (zJ v1)), (2, .int (zJ v2)), (3, .int (zJ 0))]) (by decide +kernel) rfl (Nat.le_of_ble_eq_true rfl) rfl ?_
          exact h
        · replace h := h.2 hc
          refine zw_bipush (pc := 33) (n := (-11)) (by decide +kernel) (by decide +kernel) ?_
          exact zw_iret (pc := 35) (by decide +kernel) rfl (Nat.le_refl _) (Nat.le_refl _) ⟨_, _, rfl, rfl, h⟩
    · replace h := h.2 hc
      refine zw_iconst (pc := 14) (n := (-1)) (by decide +kernel) ?_
      exact zw_iret (pc := 15) (by decide +kernel) rfl (Nat.le_refl _) (Nat.le_refl _) ⟨_, _, rfl, rfl, h⟩
theorem sg_X11_judge_38 {g : zG} {φ : Int → zMu → Prop} {v1 : Int} {v2 : Int} {v3 : Int} {μ : zMu}
    (h : (0 ≤ v1 ∧ v1 < 4) ∧ (zR v3) ∧ (zR (μ 229 v1.toNat)) ∧ (((μ 229 v1.toNat) ≤ v3 → φ (-5) μ) ∧ (v3 < (μ 229 v1.toNat) → (0 ≤ v2 ∧ v2 < 6) ∧ (zR (μ 205 v2.toNat)) ∧ (((μ 205 v2.toNat) ≤ v3 → φ v3 μ) ∧ (v3 < (μ 205 v2.toNat) → (0 ≤ ((80 * v1) + v3) ∧ ((80 * v1) + v3) < 320) ∧ (0 ≤ ((80 * v2) + v3) ∧ ((80 * v2) + v3) < 480) ∧ (zR (μ 230 (Int.toNat ((80 * v1) + v3)))) ∧ (zR (μ 206 (Int.toNat ((80 * v2) + v3)))) ∧ (((μ 230 (Int.toNat ((80 * v1) + v3))) = (μ 206 (Int.toNat ((80 * v2) + v3))) → at_X11_judge_38 g φ v1 v2 (v3 + 1) μ) ∧ (¬ (μ 230 (Int.toNat ((80 * v1) + v3))) = (μ 206 (Int.toNat ((80 * v2) + v3))) → φ v3 μ))))))) : at_X11_judge_38 g φ v1 v2 v3 μ := by
  obtain ⟨o1, o2, o3, h⟩ := h
  refine zw_iload_n (pc := 38) (n := 3) (i := 3) 3 (by decide +kernel) rfl rfl ?_
  refine zw_aload_n (pc := 39) (n := 0) (i := 0) 0 (by decide +kernel) rfl rfl ?_
  refine zx_getR (pc := 40) (o := 26) (r := 229) zf_11_91 (by decide +kernel) rfl zc_203 rfl (by decide) rfl ?_
  refine zw_iload_n (pc := 43) (n := 1) (i := 1) 1 (by decide +kernel) rfl rfl ?_
  refine zx_iaload (pc := 44) (by decide +kernel) ⟨4, zc_229, o1.1, o1.2⟩ ?_
  refine zw_icmp_ge (pc := 45) (off := 46) (tgt := 91) (by decide +kernel) (by decide) o2 o3 (fun hc => ?_) (fun hc => ?_)
  · replace h := h.1 hc
    refine zw_bipush (pc := 91) (n := (-5)) (by decide +kernel) (by decide +kernel) ?_
    exact zw_iret (pc := 93) (by decide +kernel) rfl (Nat.le_refl _) (Nat.le_refl _) ⟨_, _, rfl, rfl, h⟩
  · replace h := h.2 hc
    obtain ⟨o4, o5, h⟩ := h
    refine zw_iload_n (pc := 48) (n := 3) (i := 3) 3 (by decide +kernel) rfl rfl ?_
    refine zw_aload_n (pc := 49) (n := 0) (i := 0) 0 (by decide +kernel) rfl rfl ?_
    refine zx_getR (pc := 50) (o := 2) (r := 205) zf_11_19 (by decide +kernel) rfl zc_203 rfl (by decide) rfl ?_
    refine zw_iload_n (pc := 53) (n := 2) (i := 2) 2 (by decide +kernel) rfl rfl ?_
    refine zx_iaload (pc := 54) (by decide +kernel) ⟨6, zc_205, o4.1, o4.2⟩ ?_
    refine zw_icmp_ge (pc := 55) (off := 28) (tgt := 83) (by decide +kernel) (by decide) o2 o5 (fun hc => ?_) (fun hc => ?_)
    · replace h := h.1 hc
      refine zw_iload_n (pc := 83) (n := 3) (i := 3) 3 (by decide +kernel) rfl rfl ?_
      exact zw_iret (pc := 84) (by decide +kernel) rfl (Nat.le_refl _) (Nat.le_refl _) ⟨_, _, rfl, rfl, h⟩
    · replace h := h.2 hc
      obtain ⟨o6, o7, o8, o9, h⟩ := h
      refine zw_aload_n (pc := 58) (n := 0) (i := 0) 0 (by decide +kernel) rfl rfl ?_
      refine zx_getR (pc := 59) (o := 27) (r := 230) zf_11_94 (by decide +kernel) rfl zc_203 rfl (by decide) rfl ?_
      refine zw_bipush (pc := 62) (n := 80) (by decide +kernel) (by decide +kernel) ?_
      refine zw_iload_n (pc := 64) (n := 1) (i := 1) 1 (by decide +kernel) rfl rfl ?_
      refine zw_imul (pc := 65) (by decide +kernel) ?_
      refine zw_iload_n (pc := 66) (n := 3) (i := 3) 3 (by decide +kernel) rfl rfl ?_
      refine zw_iadd (pc := 67) (by decide +kernel) ?_
      refine zx_iaload (pc := 68) (by decide +kernel) ⟨320, zc_230, o6.1, o6.2⟩ ?_
      refine zw_aload_n (pc := 69) (n := 0) (i := 0) 0 (by decide +kernel) rfl rfl ?_
      refine zx_getR (pc := 70) (o := 3) (r := 206) zf_11_22 (by decide +kernel) rfl zc_203 rfl (by decide) rfl ?_
      refine zw_bipush (pc := 73) (n := 80) (by decide +kernel) (by decide +kernel) ?_
      refine zw_iload_n (pc := 75) (n := 2) (i := 2) 2 (by decide +kernel) rfl rfl ?_
      refine zw_imul (pc := 76) (by decide +kernel) ?_
      refine zw_iload_n (pc := 77) (n := 3) (i := 3) 3 (by decide +kernel) rfl rfl ?_
      refine zw_iadd (pc := 78) (by decide +kernel) ?_
      refine zx_iaload (pc := 79) (by decide +kernel) ⟨480, zc_206, o7.1, o7.2⟩ ?_
      refine zw_icmp_eq (pc := 80) (off := 5) (tgt := 85) (by decide +kernel) (by decide) o8 o9 (fun hc => ?_) (fun hc => ?_)
      · replace h := h.1 hc
        refine zw_iinc (pc := 85) (i := 3) (n := 1) (lv' := [(0, .ref 203), (1, .int (zJ v1)), (2, .int (zJ v2)), (3, .int (zJ (v3 + 1)))]) 3 (by decide +kernel) rfl rfl (Nat.le_of_ble_eq_true rfl) rfl ?_
        refine zw_goto (pc := 88) (off := (-50)) (tgt := 38) (by decide +kernel) (by decide) ?_
        exact h
      · replace h := h.2 hc
        refine zw_iload_n (pc := 83) (n := 3) (i := 3) 3 (by decide +kernel) rfl rfl ?_
        exact zw_iret (pc := 84) (by decide +kernel) rfl (Nat.le_refl _) (Nat.le_refl _) ⟨_, _, rfl, rfl, h⟩
theorem sg_X11_image {g : zG} {φ : Int → zMu → Prop} {μ : zMu}
    (h : zOv g zm_X11_copies [.ref 204, .ref 231] (zup (zup (zup μ 203 42 1) 203 43 ((zup μ 203 42 1) 203 0)) 203 44 ((zup (zup μ 203 42 1) 203 43 ((zup μ 203 42 1) 203 0)) 203 4)) (fun μ1 => zOv g zm_X11_copies [.ref 205, .ref 232] μ1 (fun μ2 => zOv g zm_X11_copies [.ref 206, .ref 233] μ2 (fun μ3 => zOv g zm_X11_copies [.ref 207, .ref 234] μ3 (fun μ4 => zOv g zm_X11_copies [.ref 208, .ref 235] μ4 (fun μ5 => zOi g zm_X11_seriesMany [.ref 203] μ5 (fun x7 μ6 => φ x7 μ6))))))) : zOi g zm_X11_image [.ref 203] μ φ := by
  refine zok_of (by decide +kernel) rfl ?_
  show zWP g zm_X11_image (zmo g zm_X11_image (zΦi φ)) 0 [(0, .ref 203)] [] 0 0 (zw μ)
  refine zw_aload_n (pc := 0) (n := 0) (i := 0) 0 (by decide +kernel) rfl rfl ?_
  refine zw_iconst (pc := 1) (n := 1) (by decide +kernel) ?_
  refine zx_putZ (pc := 2) zf_11_374 (by decide +kernel) rfl zc_203 (Or.inr rfl) ?_
  refine zw_aload_n (pc := 5) (n := 0) (i := 0) 0 (by decide +kernel) rfl rfl ?_
  refine zw_aload_n (pc := 6) (n := 0) (i := 0) 0 (by decide +kernel) rfl rfl ?_
  refine zx_getI (pc := 7) zf_11_9 (by decide +kernel) rfl zc_203 ?_
  refine zx_putI (pc := 10) zf_11_378 (by decide +kernel) rfl zc_203 ?_
  refine zw_aload_n (pc := 13) (n := 0) (i := 0) 0 (by decide +kernel) rfl rfl ?_
  refine zw_aload_n (pc := 14) (n := 0) (i := 0) 0 (by decide +kernel) rfl rfl ?_
  refine zx_getI (pc := 15) zf_11_128 (by decide +kernel) rfl zc_203 ?_
  refine zx_putI (pc := 18) zf_11_381 (by decide +kernel) rfl zc_203 ?_
  refine zw_aload_n (pc := 21) (n := 0) (i := 0) 0 (by decide +kernel) rfl rfl ?_
  refine zx_getR (pc := 22) (o := 1) (r := 204) zf_11_15 (by decide +kernel) rfl zc_203 rfl (by decide) rfl ?_
  refine zw_aload_n (pc := 25) (n := 0) (i := 0) 0 (by decide +kernel) rfl rfl ?_
  refine zx_getR (pc := 26) (o := 28) (r := 231) zf_11_97 (by decide +kernel) rfl zc_203 rfl (by decide) rfl ?_
  refine zx_callS (pc := 29) (As := [.ref 204, .ref 231]) h zi_X11_copies zis_X11_copies zl_11_384 (by decide +kernel) ⟨Nat.le_of_ble_eq_true rfl, Nat.le_of_ble_eq_true rfl⟩ rfl rfl ⟨rfl, rfl⟩ ⟨Nat.zero_le _, Nat.zero_le _⟩ (zkv (fun μ1 h => ?_))
  refine zw_aload_n (pc := 32) (n := 0) (i := 0) 0 (by decide +kernel) rfl rfl ?_
  refine zx_getR (pc := 33) (o := 2) (r := 205) zf_11_19 (by decide +kernel) rfl zc_203 rfl (by decide) rfl ?_
  refine zw_aload_n (pc := 36) (n := 0) (i := 0) 0 (by decide +kernel) rfl rfl ?_
  refine zx_getR (pc := 37) (o := 29) (r := 232) zf_11_100 (by decide +kernel) rfl zc_203 rfl (by decide) rfl ?_
  refine zx_callS (pc := 40) (As := [.ref 205, .ref 232]) h zi_X11_copies zis_X11_copies zl_11_384 (by decide +kernel) ⟨Nat.le_of_ble_eq_true rfl, Nat.le_of_ble_eq_true rfl⟩ rfl rfl ⟨rfl, rfl⟩ ⟨Nat.zero_le _, Nat.zero_le _⟩ (zkv (fun μ2 h => ?_))
  refine zw_aload_n (pc := 43) (n := 0) (i := 0) 0 (by decide +kernel) rfl rfl ?_
  refine zx_getR (pc := 44) (o := 3) (r := 206) zf_11_22 (by decide +kernel) rfl zc_203 rfl (by decide) rfl ?_
  refine zw_aload_n (pc := 47) (n := 0) (i := 0) 0 (by decide +kernel) rfl rfl ?_
  refine zx_getR (pc := 48) (o := 30) (r := 233) zf_11_103 (by decide +kernel) rfl zc_203 rfl (by decide) rfl ?_
  refine zx_callS (pc := 51) (As := [.ref 206, .ref 233]) h zi_X11_copies zis_X11_copies zl_11_384 (by decide +kernel) ⟨Nat.le_of_ble_eq_true rfl, Nat.le_of_ble_eq_true rfl⟩ rfl rfl ⟨rfl, rfl⟩ ⟨Nat.zero_le _, Nat.zero_le _⟩ (zkv (fun μ3 h => ?_))
  refine zw_aload_n (pc := 54) (n := 0) (i := 0) 0 (by decide +kernel) rfl rfl ?_
  refine zx_getR (pc := 55) (o := 4) (r := 207) zf_11_25 (by decide +kernel) rfl zc_203 rfl (by decide) rfl ?_
  refine zw_aload_n (pc := 58) (n := 0) (i := 0) 0 (by decide +kernel) rfl rfl ?_
  refine zx_getR (pc := 59) (o := 31) (r := 234) zf_11_106 (by decide +kernel) rfl zc_203 rfl (by decide) rfl ?_
  refine zx_callS (pc := 62) (As := [.ref 207, .ref 234]) h zi_X11_copies zis_X11_copies zl_11_384 (by decide +kernel) ⟨Nat.le_of_ble_eq_true rfl, Nat.le_of_ble_eq_true rfl⟩ rfl rfl ⟨rfl, rfl⟩ ⟨Nat.zero_le _, Nat.zero_le _⟩ (zkv (fun μ4 h => ?_))
  refine zw_aload_n (pc := 65) (n := 0) (i := 0) 0 (by decide +kernel) rfl rfl ?_
  refine zx_getR (pc := 66) (o := 5) (r := 208) zf_11_28 (by decide +kernel) rfl zc_203 rfl (by decide) rfl ?_
  refine zw_aload_n (pc := 69) (n := 0) (i := 0) 0 (by decide +kernel) rfl rfl ?_
  refine zx_getR (pc := 70) (o := 32) (r := 235) zf_11_109 (by decide +kernel) rfl zc_203 rfl (by decide) rfl ?_
  refine zx_callS (pc := 73) (As := [.ref 208, .ref 235]) h zi_X11_copies zis_X11_copies zl_11_384 (by decide +kernel) ⟨Nat.le_of_ble_eq_true rfl, Nat.le_of_ble_eq_true rfl⟩ rfl rfl ⟨rfl, rfl⟩ ⟨Nat.zero_le _, Nat.zero_le _⟩ (zkv (fun μ5 h => ?_))
  refine zw_aload_n (pc := 76) (n := 0) (i := 0) 0 (by decide +kernel) rfl rfl ?_
  refine zx_callV (pc := 77) (As := []) h zi_X11_seriesMany zii_X11_seriesMany zie_X11_seriesMany zl_11_388 (by decide +kernel) ⟨Nat.le_of_ble_eq_true rfl, Nat.le_of_ble_eq_true rfl⟩ rfl zc_203 (by decide) rfl rfl ⟨rfl, rfl⟩ ⟨Nat.zero_le _, Nat.zero_le _⟩ (zki (fun x7 μ6 h => ?_))
  exact zw_iret (pc := 80) (by decide +kernel) rfl (Nat.le_refl _) (Nat.le_refl _) ⟨_, _, rfl, rfl, h⟩
abbrev at_X11_copies_2 (g : zG) (φ : zMu → Prop) (v0 : Nat) (v1 : Nat) (v2 : Int) (μ : zMu) : Prop := zWP g zm_X11_copies (zmo g zm_X11_copies (zΦv φ)) 2 [(0, .ref v0), (1, .ref v1), (2, .int (zJ v2))] [] 0 0 (zw μ)
theorem sg_X11_copies {g : zG} {φ : zMu → Prop} {v0 : Nat} {v1 : Nat} {n0 : Nat} {n1 : Nat} {μ : zMu} (h_v0 : zS v0 12 n0) (h_v1 : zS v1 12 n1)
    (h : at_X11_copies_2 g φ v0 v1 0 μ) : zOv g zm_X11_copies [.ref v0, .ref v1] μ φ := by
  refine zok_of (by decide +kernel) rfl ?_
  show zWP g zm_X11_copies (zmo g zm_X11_copies (zΦv φ)) 0 [(0, .ref v0), (1, .ref v1)] [] 0 0 (zw μ)
  refine zw_iconst (pc := 0) (n := 0) (by decide +kernel) ?_
  refine zw_istore_n (pc := 1) (n := 2) (i := 2) (lv' := [(0, .ref v0), (1, .ref v1), (2, .int (zJ 0))]) (by decide +kernel) rfl (Nat.le_of_ble_eq_true rfl) rfl ?_
  exact h
theorem sg_X11_copies_2 {g : zG} {φ : zMu → Prop} {v0 : Nat} {v1 : Nat} {v2 : Int} {n0 : Nat} {n1 : Nat} {μ : zMu} (h_v0 : zS v0 12 n0) (h_v1 : zS v1 12 n1)
    (h : (zR v2) ∧ (zR (n0 : Int)) ∧ (((n0 : Int) ≤ v2 → φ μ) ∧ (v2 < (n0 : Int) → (0 ≤ v2 ∧ v2 < n0) ∧ (0 ≤ v2 ∧ v2 < n1) ∧ at_X11_copies_2 g φ v0 v1 (v2 + 1) (zup μ v1 v2.toNat (μ v0 v2.toNat))))) : at_X11_copies_2 g φ v0 v1 v2 μ := by
  obtain ⟨o1, o2, h⟩ := h
  refine zw_iload_n (pc := 2) (n := 2) (i := 2) 2 (by decide +kernel) rfl rfl ?_
  refine zw_aload_n (pc := 3) (n := 0) (i := 0) 0 (by decide +kernel) rfl rfl ?_
  refine zx_alen (pc := 4) (n := n0) (by decide +kernel) h_v0 ?_
  refine zw_icmp_ge (pc := 5) (off := 15) (tgt := 20) (by decide +kernel) (by decide) o1 o2 (fun hc => ?_) (fun hc => ?_)
  · replace h := h.1 hc
    exact zw_vret (pc := 20) (by decide +kernel) rfl (Nat.le_refl _) (Nat.le_refl _) ⟨_, rfl, rfl, h⟩
  · replace h := h.2 hc
    obtain ⟨o3, o4, h⟩ := h
    refine zw_aload_n (pc := 8) (n := 1) (i := 1) 1 (by decide +kernel) rfl rfl ?_
    refine zw_iload_n (pc := 9) (n := 2) (i := 2) 2 (by decide +kernel) rfl rfl ?_
    refine zw_aload_n (pc := 10) (n := 0) (i := 0) 0 (by decide +kernel) rfl rfl ?_
    refine zw_iload_n (pc := 11) (n := 2) (i := 2) 2 (by decide +kernel) rfl rfl ?_
    refine zx_iaload (pc := 12) (by decide +kernel) ⟨n0, h_v0, o3.1, o3.2⟩ ?_
    refine zx_iastore (pc := 13) (by decide +kernel) ⟨n1, h_v1, o4.1, o4.2⟩ ?_
    refine zw_iinc (pc := 14) (i := 2) (n := 1) (lv' := [(0, .ref v0), (1, .ref v1), (2, .int (zJ (v2 + 1)))]) 2 (by decide +kernel) rfl rfl (Nat.le_of_ble_eq_true rfl) rfl ?_
    refine zw_goto (pc := 17) (off := (-15)) (tgt := 2) (by decide +kernel) (by decide) ?_
    exact h
abbrev at_X11_seriesMany_4 (g : zG) (φ : Int → zMu → Prop) (v1 : Int) (v2 : Int) (μ : zMu) : Prop := zWP g zm_X11_seriesMany (zmo g zm_X11_seriesMany (zΦi φ)) 4 [(0, .ref 203), (1, .int (zJ v1)), (2, .int (zJ v2))] [] 0 0 (zw μ)
theorem sg_X11_seriesMany {g : zG} {φ : Int → zMu → Prop} {μ : zMu}
    (h : at_X11_seriesMany_4 g φ 0 0 μ) : zOi g zm_X11_seriesMany [.ref 203] μ φ := by
  refine zok_of (by decide +kernel) rfl ?_
  show zWP g zm_X11_seriesMany (zmo g zm_X11_seriesMany (zΦi φ)) 0 [(0, .ref 203)] [] 0 0 (zw μ)
  refine zw_iconst (pc := 0) (n := 0) (by decide +kernel) ?_
  refine zw_istore_n (pc := 1) (n := 1) (i := 1) (lv' := [(0, .ref 203), (1, .int (zJ 0))]) (by decide +kernel) rfl (Nat.le_of_ble_eq_true rfl) rfl ?_
  refine zw_iconst (pc := 2) (n := 0) (by decide +kernel) ?_
  refine zw_istore_n (pc := 3) (n := 2) (i := 2) (lv' := [(0, .ref 203), (1, .int (zJ 0)), (2, .int (zJ 0))]) (by decide +kernel) rfl (Nat.le_of_ble_eq_true rfl) rfl ?_
  exact h
theorem sg_X11_seriesMany_4 {g : zG} {φ : Int → zMu → Prop} {v1 : Int} {v2 : Int} {μ : zMu}
    (h : (zR v2) ∧ ((6 ≤ v2 → φ v1 μ) ∧ (v2 < 6 → zOi g zm_X11_isThere [.ref 203, .int (zJ v2)] μ (fun x3 μ2 => (zR x3) ∧ ((x3 = 0 → at_X11_seriesMany_4 g φ (v1 + 0) (v2 + 1) μ2) ∧ (¬ x3 = 0 → at_X11_seriesMany_4 g φ (v1 + 1) (v2 + 1) μ2)))))) : at_X11_seriesMany_4 g φ v1 v2 μ := by
  obtain ⟨o1, h⟩ := h
  refine zw_iload_n (pc := 4) (n := 2) (i := 2) 2 (by decide +kernel) rfl rfl ?_
  refine zw_bipush (pc := 5) (n := 6) (by decide +kernel) (by decide +kernel) ?_
  refine zw_icmp_ge (pc := 7) (off := 25) (tgt := 32) (by decide +kernel) (by decide) o1 ⟨by decide, by decide⟩ (fun hc => ?_) (fun hc => ?_)
  · replace h := h.1 hc
    refine zw_iload_n (pc := 32) (n := 1) (i := 1) 1 (by decide +kernel) rfl rfl ?_
    exact zw_iret (pc := 33) (by decide +kernel) rfl (Nat.le_refl _) (Nat.le_refl _) ⟨_, _, rfl, rfl, h⟩
  · replace h := h.2 hc
    refine zw_iload_n (pc := 10) (n := 1) (i := 1) 1 (by decide +kernel) rfl rfl ?_
    refine zw_aload_n (pc := 11) (n := 0) (i := 0) 0 (by decide +kernel) rfl rfl ?_
    refine zw_iload_n (pc := 12) (n := 2) (i := 2) 2 (by decide +kernel) rfl rfl ?_
    refine zx_callV (pc := 13) (As := [.int (zJ v2)]) h zi_X11_isThere zii_X11_isThere zie_X11_isThere zl_11_166 (by decide +kernel) ⟨Nat.le_of_ble_eq_true rfl, Nat.le_of_ble_eq_true rfl⟩ rfl zc_203 (by decide) rfl rfl ⟨rfl, rfl⟩ ⟨Nat.zero_le _, Nat.zero_le _⟩ (zki (fun x3 μ2 h => ?_))
    obtain ⟨o4, h⟩ := h
    refine zw_if_eq (pc := 16) (off := 7) (tgt := 23) (by decide +kernel) (by decide) o4 (fun hc => ?_) (fun hc => ?_)
    · replace h := h.1 hc
      refine zw_iconst (pc := 23) (n := 0) (by decide +kernel) ?_
      refine zw_iadd (pc := 24) (by decide +kernel) ?_
      refine zw_istore_n (pc := 25) (n := 1) (i := 1) (lv' := [(0, .ref 203), (1, .int (zJ (v1 + 0))), (2, .int (zJ v2))]) (by decide +kernel) rfl (Nat.le_of_ble_eq_true rfl) rfl ?_
      refine zw_iinc (pc := 26) (i := 2) (n := 1) (lv' := [(0, .ref 203), (1, .int (zJ (v1 + 0))), (2, .int (zJ (v2 + 1)))]) 2 (by decide +kernel) rfl rfl (Nat.le_of_ble_eq_true rfl) rfl ?_
      refine zw_goto (pc := 29) (off := (-25)) (tgt := 4) (by decide +kernel) (by decide) ?_
      exact h
    · replace h := h.2 hc
      refine zw_iconst (pc := 19) (n := 1) (by decide +kernel) ?_
      refine zw_goto (pc := 20) (off := 4) (tgt := 24) (by decide +kernel) (by decide) ?_
      refine zw_iadd (pc := 24) (by decide +kernel) ?_
      refine zw_istore_n (pc := 25) (n := 1) (i := 1) (lv' := [(0, .ref 203), (1, .int (zJ (v1 + 1))), (2, .int (zJ v2))]) (by decide +kernel) rfl (Nat.le_of_ble_eq_true rfl) rfl ?_
      refine zw_iinc (pc := 26) (i := 2) (n := 1) (lv' := [(0, .ref 203), (1, .int (zJ (v1 + 1))), (2, .int (zJ (v2 + 1)))]) 2 (by decide +kernel) rfl rfl (Nat.le_of_ble_eq_true rfl) rfl ?_
      refine zw_goto (pc := 29) (off := (-25)) (tgt := 4) (by decide +kernel) (by decide) ?_
      exact h
theorem sg_X11_back {g : zG} {φ : Int → zMu → Prop} {μ : zMu}
    (h : (zR (μ 203 42)) ∧ ((¬ (μ 203 42) = 0 → zOv g zm_X11_copies [.ref 231, .ref 204] (zup (zup μ 203 0 (μ 203 43)) 203 4 ((zup μ 203 0 (μ 203 43)) 203 44)) (fun μ2 => zOv g zm_X11_copies [.ref 232, .ref 205] μ2 (fun μ3 => zOv g zm_X11_copies [.ref 233, .ref 206] μ3 (fun μ4 => zOv g zm_X11_copies [.ref 234, .ref 207] μ4 (fun μ5 => zOv g zm_X11_copies [.ref 235, .ref 208] μ5 (fun μ6 => zOi g zm_X11_seriesMany [.ref 203] μ6 (fun x8 μ7 => φ x8 μ7))))))) ∧ ((μ 203 42) = 0 → φ (-3) μ))) : zOi g zm_X11_back [.ref 203] μ φ := by
  refine zok_of (by decide +kernel) rfl ?_
  show zWP g zm_X11_back (zmo g zm_X11_back (zΦi φ)) 0 [(0, .ref 203)] [] 0 0 (zw μ)
  obtain ⟨o1, h⟩ := h
  refine zw_aload_n (pc := 0) (n := 0) (i := 0) 0 (by decide +kernel) rfl rfl ?_
  refine zx_getI (pc := 1) zf_11_374 (by decide +kernel) rfl zc_203 ?_
  refine zw_if_ne (pc := 4) (off := 6) (tgt := 10) (by decide +kernel) (by decide) o1 (fun hc => ?_) (fun hc => ?_)
  · replace h := h.1 hc
    refine zw_aload_n (pc := 10) (n := 0) (i := 0) 0 (by decide +kernel) rfl rfl ?_
    refine zw_aload_n (pc := 11) (n := 0) (i := 0) 0 (by decide +kernel) rfl rfl ?_
    refine zx_getI (pc := 12) zf_11_378 (by decide +kernel) rfl zc_203 ?_
    refine zx_putI (pc := 15) zf_11_9 (by decide +kernel) rfl zc_203 ?_
    refine zw_aload_n (pc := 18) (n := 0) (i := 0) 0 (by decide +kernel) rfl rfl ?_
    refine zw_aload_n (pc := 19) (n := 0) (i := 0) 0 (by decide +kernel) rfl rfl ?_
    refine zx_getI (pc := 20) zf_11_381 (by decide +kernel) rfl zc_203 ?_
    refine zx_putI (pc := 23) zf_11_128 (by decide +kernel) rfl zc_203 ?_
    refine zw_aload_n (pc := 26) (n := 0) (i := 0) 0 (by decide +kernel) rfl rfl ?_
    refine zx_getR (pc := 27) (o := 28) (r := 231) zf_11_97 (by decide +kernel) rfl zc_203 rfl (by decide) rfl ?_
    refine zw_aload_n (pc := 30) (n := 0) (i := 0) 0 (by decide +kernel) rfl rfl ?_
    refine zx_getR (pc := 31) (o := 1) (r := 204) zf_11_15 (by decide +kernel) rfl zc_203 rfl (by decide) rfl ?_
    refine zx_callS (pc := 34) (As := [.ref 231, .ref 204]) h zi_X11_copies zis_X11_copies zl_11_384 (by decide +kernel) ⟨Nat.le_of_ble_eq_true rfl, Nat.le_of_ble_eq_true rfl⟩ rfl rfl ⟨rfl, rfl⟩ ⟨Nat.zero_le _, Nat.zero_le _⟩ (zkv (fun μ2 h => ?_))
    refine zw_aload_n (pc := 37) (n := 0) (i := 0) 0 (by decide +kernel) rfl rfl ?_
    refine zx_getR (pc := 38) (o := 29) (r := 232) zf_11_100 (by decide +kernel) rfl zc_203 rfl (by decide) rfl ?_
    refine zw_aload_n (pc := 41) (n := 0) (i := 0) 0 (by decide +kernel) rfl rfl ?_
    refine zx_getR (pc := 42) (o := 2) (r := 205) zf_11_19 (by decide +kernel) rfl zc_203 rfl (by decide) rfl ?_
    refine zx_callS (pc := 45) (As := [.ref 232, .ref 205]) h zi_X11_copies zis_X11_copies zl_11_384 (by decide +kernel) ⟨Nat.le_of_ble_eq_true rfl, Nat.le_of_ble_eq_true rfl⟩ rfl rfl ⟨rfl, rfl⟩ ⟨Nat.zero_le _, Nat.zero_le _⟩ (zkv (fun μ3 h => ?_))
    refine zw_aload_n (pc := 48) (n := 0) (i := 0) 0 (by decide +kernel) rfl rfl ?_
    refine zx_getR (pc := 49) (o := 30) (r := 233) zf_11_103 (by decide +kernel) rfl zc_203 rfl (by decide) rfl ?_
    refine zw_aload_n (pc := 52) (n := 0) (i := 0) 0 (by decide +kernel) rfl rfl ?_
    refine zx_getR (pc := 53) (o := 3) (r := 206) zf_11_22 (by decide +kernel) rfl zc_203 rfl (by decide) rfl ?_
    refine zx_callS (pc := 56) (As := [.ref 233, .ref 206]) h zi_X11_copies zis_X11_copies zl_11_384 (by decide +kernel) ⟨Nat.le_of_ble_eq_true rfl, Nat.le_of_ble_eq_true rfl⟩ rfl rfl ⟨rfl, rfl⟩ ⟨Nat.zero_le _, Nat.zero_le _⟩ (zkv (fun μ4 h => ?_))
    refine zw_aload_n (pc := 59) (n := 0) (i := 0) 0 (by decide +kernel) rfl rfl ?_
    refine zx_getR (pc := 60) (o := 31) (r := 234) zf_11_106 (by decide +kernel) rfl zc_203 rfl (by decide) rfl ?_
    refine zw_aload_n (pc := 63) (n := 0) (i := 0) 0 (by decide +kernel) rfl rfl ?_
    refine zx_getR (pc := 64) (o := 4) (r := 207) zf_11_25 (by decide +kernel) rfl zc_203 rfl (by decide) rfl ?_
    refine zx_callS (pc := 67) (As := [.ref 234, .ref 207]) h zi_X11_copies zis_X11_copies zl_11_384 (by decide +kernel) ⟨Nat.le_of_ble_eq_true rfl, Nat.le_of_ble_eq_true rfl⟩ rfl rfl ⟨rfl, rfl⟩ ⟨Nat.zero_le _, Nat.zero_le _⟩ (zkv (fun μ5 h => ?_))
    refine zw_aload_n (pc := 70) (n := 0) (i := 0) 0 (by decide +kernel) rfl rfl ?_
    refine zx_getR (pc := 71) (o := 32) (r := 235) zf_11_109 (by decide +kernel) rfl zc_203 rfl (by decide) rfl ?_
    refine zw_aload_n (pc := 74) (n := 0) (i := 0) 0 (by decide +kernel) rfl rfl ?_
    refine zx_getR (pc := 75) (o := 5) (r := 208) zf_11_28 (by decide +kernel) rfl zc_203 rfl (by decide) rfl ?_
    refine zx_callS (pc := 78) (As := [.ref 235, .ref 208]) h zi_X11_copies zis_X11_copies zl_11_384 (by decide +kernel) ⟨Nat.le_of_ble_eq_true rfl, Nat.le_of_ble_eq_true rfl⟩ rfl rfl ⟨rfl, rfl⟩ ⟨Nat.zero_le _, Nat.zero_le _⟩ (zkv (fun μ6 h => ?_))
    refine zw_aload_n (pc := 81) (n := 0) (i := 0) 0 (by decide +kernel) rfl rfl ?_
    refine zx_callV (pc := 82) (As := []) h zi_X11_seriesMany zii_X11_seriesMany zie_X11_seriesMany zl_11_388 (by decide +kernel) ⟨Nat.le_of_ble_eq_true rfl, Nat.le_of_ble_eq_true rfl⟩ rfl zc_203 (by decide) rfl rfl ⟨rfl, rfl⟩ ⟨Nat.zero_le _, Nat.zero_le _⟩ (zki (fun x8 μ7 h => ?_))
    exact zw_iret (pc := 85) (by decide +kernel) rfl (Nat.le_refl _) (Nat.le_refl _) ⟨_, _, rfl, rfl, h⟩
  · replace h := h.2 hc
    refine zw_bipush (pc := 7) (n := (-3)) (by decide +kernel) (by decide +kernel) ?_
    exact zw_iret (pc := 9) (by decide +kernel) rfl (Nat.le_refl _) (Nat.le_refl _) ⟨_, _, rfl, rfl, h⟩
theorem sg_X11_count {g : zG} {φ : Int → zMu → Prop} {v1 : Int} {μ : zMu}
    (h : (zR v1) ∧ ((v1 < 0 ∨ 4 < v1 → φ (-2) μ) ∧ (v1 = 0 → φ (μ 203 0) μ) ∧ (v1 = 1 → zOi g zm_X11_seriesMany [.ref 203] μ (fun x4 μ3 => φ x4 μ3)) ∧ (v1 = 2 → zOi g zm_X11_keptMany [.ref 203] μ (fun x6 μ5 => φ x6 μ5)) ∧ (v1 = 3 → φ (μ 203 31) μ) ∧ (v1 = 4 → φ (μ 203 39) μ))) : zOi g zm_X11_count [.ref 203, .int (zJ v1)] μ φ := by
  refine zok_of (by decide +kernel) rfl ?_
  show zWP g zm_X11_count (zmo g zm_X11_count (zΦi φ)) 0 [(0, .ref 203), (1, .int (zJ v1))] [] 0 0 (zw μ)
  obtain ⟨o1, h⟩ := h
  refine zw_iload_n (pc := 0) (n := 1) (i := 1) 1 (by decide +kernel) rfl rfl ?_
  by_cases e2 : v1 < 0 ∨ 4 < v1
  · replace h := h.1 e2
    refine zw_swOut (pc := 1) (tgt := 61) (by decide +kernel : decode zm_X11_count.2.1 1 = .ok (.tableswitch 60 0 4 #[35, 40, 45, 50, 55], 35)) o1 e2 (by decide) ?_
    refine zw_bipush (pc := 61) (n := (-2)) (by decide +kernel) (by decide +kernel) ?_
    exact zw_iret (pc := 63) (by decide +kernel) rfl (Nat.le_refl _) (Nat.le_refl _) ⟨_, _, rfl, rfl, h⟩
  · replace h := h.2
    rcases (show v1 = 0 ∨ v1 = 1 ∨ v1 = 2 ∨ v1 = 3 ∨ v1 = 4 by omega) with e2 | e2 | e2 | e2 | e2
    · replace h := h.1 e2
      refine zw_swIn (pc := 1) (off := 35) (tgt := 36) (by decide +kernel : decode zm_X11_count.2.1 1 = .ok (.tableswitch 60 0 4 #[35, 40, 45, 50, 55], 35)) o1 (by omega) (by omega) (by rw [e2]; rfl) (by decide) ?_
      refine zw_aload_n (pc := 36) (n := 0) (i := 0) 0 (by decide +kernel) rfl rfl ?_
      refine zx_getI (pc := 37) zf_11_9 (by decide +kernel) rfl zc_203 ?_
      exact zw_iret (pc := 40) (by decide +kernel) rfl (Nat.le_refl _) (Nat.le_refl _) ⟨_, _, rfl, rfl, h⟩
    · replace h := h.2.1 e2
      refine zw_swIn (pc := 1) (off := 40) (tgt := 41) (by decide +kernel : decode zm_X11_count.2.1 1 = .ok (.tableswitch 60 0 4 #[35, 40, 45, 50, 55], 35)) o1 (by omega) (by omega) (by rw [e2]; rfl) (by decide) ?_
      refine zw_aload_n (pc := 41) (n := 0) (i := 0) 0 (by decide +kernel) rfl rfl ?_
      refine zx_callV (pc := 42) (As := []) h zi_X11_seriesMany zii_X11_seriesMany zie_X11_seriesMany zl_11_388 (by decide +kernel) ⟨Nat.le_of_ble_eq_true rfl, Nat.le_of_ble_eq_true rfl⟩ rfl zc_203 (by decide) rfl rfl ⟨rfl, rfl⟩ ⟨Nat.zero_le _, Nat.zero_le _⟩ (zki (fun x4 μ3 h => ?_))
      exact zw_iret (pc := 45) (by decide +kernel) rfl (Nat.le_refl _) (Nat.le_refl _) ⟨_, _, rfl, rfl, h⟩
    · replace h := h.2.2.1 e2
      refine zw_swIn (pc := 1) (off := 45) (tgt := 46) (by decide +kernel : decode zm_X11_count.2.1 1 = .ok (.tableswitch 60 0 4 #[35, 40, 45, 50, 55], 35)) o1 (by omega) (by omega) (by rw [e2]; rfl) (by decide) ?_
      refine zw_aload_n (pc := 46) (n := 0) (i := 0) 0 (by decide +kernel) rfl rfl ?_
      refine zx_callV (pc := 47) (As := []) h zi_X11_keptMany zii_X11_keptMany zie_X11_keptMany zl_11_272 (by decide +kernel) ⟨Nat.le_of_ble_eq_true rfl, Nat.le_of_ble_eq_true rfl⟩ rfl zc_203 (by decide) rfl rfl ⟨rfl, rfl⟩ ⟨Nat.zero_le _, Nat.zero_le _⟩ (zki (fun x6 μ5 h => ?_))
      exact zw_iret (pc := 50) (by decide +kernel) rfl (Nat.le_refl _) (Nat.le_refl _) ⟨_, _, rfl, rfl, h⟩
    · replace h := h.2.2.2.1 e2
      refine zw_swIn (pc := 1) (off := 50) (tgt := 51) (by decide +kernel : decode zm_X11_count.2.1 1 = .ok (.tableswitch 60 0 4 #[35, 40, 45, 50, 55], 35)) o1 (by omega) (by omega) (by rw [e2]; rfl) (by decide) ?_
      refine zw_aload_n (pc := 51) (n := 0) (i := 0) 0 (by decide +kernel) rfl rfl ?_
      refine zx_getI (pc := 52) zf_11_282 (by decide +kernel) rfl zc_203 ?_
      exact zw_iret (pc := 55) (by decide +kernel) rfl (Nat.le_refl _) (Nat.le_refl _) ⟨_, _, rfl, rfl, h⟩
    · replace h := h.2.2.2.2 e2
      refine zw_swIn (pc := 1) (off := 55) (tgt := 56) (by decide +kernel : decode zm_X11_count.2.1 1 = .ok (.tableswitch 60 0 4 #[35, 40, 45, 50, 55], 35)) o1 (by omega) (by omega) (by rw [e2]; rfl) (by decide) ?_
      refine zw_aload_n (pc := 56) (n := 0) (i := 0) 0 (by decide +kernel) rfl rfl ?_
      refine zx_getI (pc := 57) zf_11_358 (by decide +kernel) rfl zc_203 ?_
      exact zw_iret (pc := 60) (by decide +kernel) rfl (Nat.le_refl _) (Nat.le_refl _) ⟨_, _, rfl, rfl, h⟩
