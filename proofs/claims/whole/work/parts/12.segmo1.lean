abbrev at_X11_prime_22 (g : zG) (φ : Int → zMu → Prop) (v2 : Int) (v3 : Int) (μ : zMu) : Prop := zWP g zm_X11_prime (zmo g zm_X11_prime (zΦi φ)) 22 [(0, .ref 203), (2, .int (zJ v2)), (3, .int (zJ v3))] [] 0 0 (zw μ)
theorem sg_X11_prime {g : zG} {φ : Int → zMu → Prop} {v1 : Int} {μ : zMu}
    (h : zOi g zm_X11_isPrime [.int (zJ v1)] μ (fun x2 μ1 => (zR x2) ∧ ((¬ x2 = 0 → at_X11_prime_22 g φ (μ1 203 0) 0 (zup μ1 203 0 v1)) ∧ (x2 = 0 → φ (-2) μ1)))) : zOi g zm_X11_prime [.ref 203, .int (zJ v1)] μ φ := by
  refine zok_of (by decide +kernel) rfl ?_
  show zWP g zm_X11_prime (zmo g zm_X11_prime (zΦi φ)) 0 [(0, .ref 203), (1, .int (zJ v1))] [] 0 0 (zw μ)
  refine zw_iload_n (pc := 0) (n := 1) (i := 1) 1 (by decide +kernel) rfl rfl ?_
  refine zx_callS (pc := 1) (As := [.int (zJ v1)]) h zi_X11_isPrime zis_X11_isPrime zl_11_124 (by decide +kernel) ⟨Nat.le_of_ble_eq_true rfl, Nat.le_of_ble_eq_true rfl⟩ rfl rfl ⟨rfl, rfl⟩ ⟨Nat.zero_le _, Nat.zero_le _⟩ (zki (fun x2 μ1 h => ?_))
  obtain ⟨o3, h⟩ := h
  refine zw_if_ne (pc := 4) (off := 6) (tgt := 10) (by decide +kernel) (by decide) o3 (fun hc => ?_) (fun hc => ?_)
  · replace h := h.1 hc
    refine zw_aload_n (pc := 10) (n := 0) (i := 0) 0 (by decide +kernel) rfl rfl ?_
    refine zx_getI (pc := 11) zf_11_9 (by decide +kernel) rfl zc_203 ?_
    refine zw_istore_n (pc := 14) (n := 2) (i := 2) (lv' := [(0, .ref 203), (1, .int (zJ v1)), (2, .int (zJ (μ1 203 0)))]) (by decide +kernel) rfl (Nat.le_of_ble_eq_true rfl) rfl ?_
    refine zw_aload_n (pc := 15) (n := 0) (i := 0) 0 (by decide +kernel) rfl rfl ?_
    refine zw_iload_n (pc := 16) (n := 1) (i := 1) 1 (by decide +kernel) rfl rfl ?_
    refine zx_putI (pc := 17) zf_11_9 (by decide +kernel) rfl zc_203 ?_
    refine zw_iconst (pc := 20) (n := 0) (by decide +kernel) ?_
    refine zw_istore_n (pc := 21) (n := 3) (i := 3) (lv' := [(0, .ref 203), (1, .int (zJ v1)), (2, .int (zJ (μ1 203 0))), (3, .int (zJ 0))]) (by decide +kernel) rfl (Nat.le_of_ble_eq_true rfl) rfl ?_
    exact zw_pick (lv' := [(0, .ref 203), (2, .int (zJ (μ1 203 0))), (3, .int (zJ 0))]) [0, 2, 3] rfl h
  · replace h := h.2 hc
    refine zw_bipush (pc := 7) (n := (-2)) (by decide +kernel) (by decide +kernel) ?_
    exact zw_iret (pc := 9) (by decide +kernel) rfl (Nat.le_refl _) (Nat.le_refl _) ⟨_, _, rfl, rfl, h⟩
theorem sg_X11_prime_22 {g : zG} {φ : Int → zMu → Prop} {v2 : Int} {v3 : Int} {μ : zMu}
    (h : (zR v3) ∧ ((6 ≤ v3 → φ v2 (zup μ 203 4 0)) ∧ (v3 < 6 → (0 ≤ v3 ∧ v3 < 6) ∧ at_X11_prime_22 g φ v2 (v3 + 1) (zup μ 205 v3.toNat 0)))) : at_X11_prime_22 g φ v2 v3 μ := by
  obtain ⟨o1, h⟩ := h
  refine zw_iload_n (pc := 22) (n := 3) (i := 3) 2 (by decide +kernel) rfl rfl ?_
  refine zw_bipush (pc := 23) (n := 6) (by decide +kernel) (by decide +kernel) ?_
  refine zw_icmp_ge (pc := 25) (off := 16) (tgt := 41) (by decide +kernel) (by decide) o1 ⟨by decide, by decide⟩ (fun hc => ?_) (fun hc => ?_)
  · replace h := h.1 hc
    refine zw_aload_n (pc := 41) (n := 0) (i := 0) 0 (by decide +kernel) rfl rfl ?_
    refine zw_iconst (pc := 42) (n := 0) (by decide +kernel) ?_
    refine zx_putI (pc := 43) zf_11_128 (by decide +kernel) rfl zc_203 ?_
    refine zw_iload_n (pc := 46) (n := 2) (i := 2) 1 (by decide +kernel) rfl rfl ?_
    exact zw_iret (pc := 47) (by decide +kernel) rfl (Nat.le_refl _) (Nat.le_refl _) ⟨_, _, rfl, rfl, h⟩
  · replace h := h.2 hc
    obtain ⟨o2, h⟩ := h
    refine zw_aload_n (pc := 28) (n := 0) (i := 0) 0 (by decide +kernel) rfl rfl ?_
    refine zx_getR (pc := 29) (o := 2) (r := 205) zf_11_19 (by decide +kernel) rfl zc_203 rfl (by decide) rfl ?_
    refine zw_iload_n (pc := 32) (n := 3) (i := 3) 2 (by decide +kernel) rfl rfl ?_
    refine zw_iconst (pc := 33) (n := 0) (by decide +kernel) ?_
    refine zx_iastore (pc := 34) (by decide +kernel) ⟨6, zc_205, o2.1, o2.2⟩ ?_
    refine zw_iinc (pc := 35) (i := 3) (n := 1) (lv' := [(0, .ref 203), (2, .int (zJ v2)), (3, .int (zJ (v3 + 1)))]) 2 (by decide +kernel) rfl rfl (Nat.le_of_ble_eq_true rfl) rfl ?_
    refine zw_goto (pc := 38) (off := (-16)) (tgt := 22) (by decide +kernel) (by decide) ?_
    exact h
abbrev at_X11_isPrime_14 (g : zG) (φ : Int → zMu → Prop) (v0 : Int) (v1 : Int) (v2 : Int) (μ : zMu) : Prop := zWP g zm_X11_isPrime (zmo g zm_X11_isPrime (zΦi φ)) 14 [(0, .int (zJ v0)), (1, .int (zJ v1)), (2, .int (zJ v2))] [] 0 0 (zw μ)
theorem sg_X11_isPrime {g : zG} {φ : Int → zMu → Prop} {v0 : Int} {μ : zMu}
    (h : (zR v0) ∧ zOi g zm_X11_in [.long (zL v0), .long (zL 5), .long (zL 199)] μ (fun x3 μ2 => at_X11_isPrime_14 g φ v0 x3 2 μ2)) : zOi g zm_X11_isPrime [.int (zJ v0)] μ φ := by
  refine zok_of (by decide +kernel) rfl ?_
  show zWP g zm_X11_isPrime (zmo g zm_X11_isPrime (zΦi φ)) 0 [(0, .int (zJ v0))] [] 0 0 (zw μ)
  obtain ⟨o1, h⟩ := h
  refine zw_iload_n (pc := 0) (n := 0) (i := 0) 0 (by decide +kernel) rfl rfl ?_
  refine zw_i2l (pc := 1) (by decide +kernel) o1 ?_
  refine zw_ldc2 (pc := 2) (v := 5) (by decide +kernel) zk_11_112 ?_
  refine zw_ldc2 (pc := 5) (v := 199) (by decide +kernel) zk_11_122 ?_
  refine zx_callS (pc := 8) (As := [.long (zL v0), .long (zL 5), .long (zL 199)]) h zi_X11_in zis_X11_in zl_11_114 (by decide +kernel) ⟨Nat.le_of_ble_eq_true rfl, Nat.le_of_ble_eq_true rfl⟩ rfl rfl ⟨rfl, rfl⟩ ⟨Nat.zero_le _, Nat.zero_le _⟩ (zki (fun x3 μ2 h => ?_))
  refine zw_istore_n (pc := 11) (n := 1) (i := 1) (lv' := [(0, .int (zJ v0)), (1, .int (zJ x3))]) (by decide +kernel) rfl (Nat.le_of_ble_eq_true rfl) rfl ?_
  refine zw_iconst (pc := 12) (n := 2) (by decide +kernel) ?_
  refine zw_istore_n (pc := 13) (n := 2) (i := 2) (lv' := [(0, .int (zJ v0)), (1, .int (zJ x3)), (2, .int (zJ 2))]) (by decide +kernel) rfl (Nat.le_of_ble_eq_true rfl) rfl ?_
  exact h
theorem sg_X11_isPrime_14 {g : zG} {φ : Int → zMu → Prop} {v0 : Int} {v1 : Int} {v2 : Int} {μ : zMu}
    (h : (zR v1) ∧ ((v1 = 0 → (v1 = 0 ∨ v1 = 1) ∧ φ v1 μ) ∧ (¬ v1 = 0 → (zR v2) ∧ (zR v0) ∧ ((v0 ≤ v2 → (v1 = 0 ∨ v1 = 1) ∧ φ v1 μ) ∧ (v2 < v0 → (v2 ≠ 0) ∧ (zR (v0.tmod v2)) ∧ (((v0.tmod v2) = 0 → at_X11_isPrime_14 g φ v0 0 (v2 + 1) μ) ∧ (¬ (v0.tmod v2) = 0 → at_X11_isPrime_14 g φ v0 1 (v2 + 1) μ))))))) : at_X11_isPrime_14 g φ v0 v1 v2 μ := by
  obtain ⟨o1, h⟩ := h
  refine zw_iload_n (pc := 14) (n := 1) (i := 1) 1 (by decide +kernel) rfl rfl ?_
  refine zw_if_eq (pc := 15) (off := 26) (tgt := 41) (by decide +kernel) (by decide) o1 (fun hc => ?_) (fun hc => ?_)
  · replace h := h.1 hc
    obtain ⟨o2, h⟩ := h
    refine zw_iload_n (pc := 41) (n := 1) (i := 1) 1 (by decide +kernel) rfl rfl ?_
    exact zw_zret (pc := 42) (by decide +kernel) rfl (Nat.le_refl _) (Nat.le_refl _) o2 ⟨_, _, rfl, rfl, h⟩
  · replace h := h.2 hc
    obtain ⟨o3, o4, h⟩ := h
    refine zw_iload_n (pc := 18) (n := 2) (i := 2) 2 (by decide +kernel) rfl rfl ?_
    refine zw_iload_n (pc := 19) (n := 0) (i := 0) 0 (by decide +kernel) rfl rfl ?_
    refine zw_icmp_ge (pc := 20) (off := 21) (tgt := 41) (by decide +kernel) (by decide) o3 o4 (fun hc => ?_) (fun hc => ?_)
    · replace h := h.1 hc
      obtain ⟨o5, h⟩ := h
      refine zw_iload_n (pc := 41) (n := 1) (i := 1) 1 (by decide +kernel) rfl rfl ?_
      exact zw_zret (pc := 42) (by decide +kernel) rfl (Nat.le_refl _) (Nat.le_refl _) o5 ⟨_, _, rfl, rfl, h⟩
    · replace h := h.2 hc
      obtain ⟨o6, o7, h⟩ := h
      refine zw_iload_n (pc := 23) (n := 0) (i := 0) 0 (by decide +kernel) rfl rfl ?_
      refine zw_iload_n (pc := 24) (n := 2) (i := 2) 2 (by decide +kernel) rfl rfl ?_
      refine zw_irem (pc := 25) (by decide +kernel) o4 o3 o6 ?_
      refine zw_if_eq (pc := 26) (off := 7) (tgt := 33) (by decide +kernel) (by decide) o7 (fun hc => ?_) (fun hc => ?_)
      · replace h := h.1 hc
        refine zw_iconst (pc := 33) (n := 0) (by decide +kernel) ?_
        refine zw_istore_n (pc := 34) (n := 1) (i := 1) (lv' := [(0, .int (zJ v0)), (1, .int (zJ 0)), (2, .int (zJ v2))]) (by decide +kernel) rfl (Nat.le_of_ble_eq_true rfl) rfl ?_
        refine zw_iinc (pc := 35) (i := 2) (n := 1) (lv' := [(0, .int (zJ v0)), (1, .int (zJ 0)), (2, .int (zJ (v2 + 1)))]) 2 (by decide +kernel) rfl rfl (Nat.le_of_ble_eq_true rfl) rfl ?_
        refine zw_goto (pc := 38) (off := (-24)) (tgt := 14) (by decide +kernel) (by decide) ?_
        exact h
      · replace h := h.2 hc
        refine zw_iconst (pc := 29) (n := 1) (by decide +kernel) ?_
        refine zw_goto (pc := 30) (off := 4) (tgt := 34) (by decide +kernel) (by decide) ?_
        refine zw_istore_n (pc := 34) (n := 1) (i := 1) (lv' := [(0, .int (zJ v0)), (1, .int (zJ 1)), (2, .int (zJ v2))]) (by decide +kernel) rfl (Nat.le_of_ble_eq_true rfl) rfl ?_
        refine zw_iinc (pc := 35) (i := 2) (n := 1) (lv' := [(0, .int (zJ v0)), (1, .int (zJ 1)), (2, .int (zJ (v2 + 1)))]) 2 (by decide +kernel) rfl rfl (Nat.le_of_ble_eq_true rfl) rfl ?_
        refine zw_goto (pc := 38) (off := (-24)) (tgt := 14) (by decide +kernel) (by decide) ?_
        exact h
theorem sg_X11_in {g : zG} {φ : Int → zMu → Prop} {v0 : Int} {v2 : Int} {v4 : Int} {μ : zMu}
    (h : (zR64 v0) ∧ (zR64 v2) ∧ (zR (zcmp v0 v2)) ∧ (((zcmp v0 v2) < 0 → φ 0 μ) ∧ (0 ≤ (zcmp v0 v2) → (zR64 v4) ∧ (zR (zcmp v0 v4)) ∧ ((0 < (zcmp v0 v4) → φ 0 μ) ∧ ((zcmp v0 v4) ≤ 0 → φ 1 μ))))) : zOi g zm_X11_in [.long (zL v0), .long (zL v2), .long (zL v4)] μ φ := by
  refine zok_of (by decide +kernel) rfl ?_
  show zWP g zm_X11_in (zmo g zm_X11_in (zΦi φ)) 0 [(0, .long (zL v0)), (2, .long (zL v2)), (4, .long (zL v4))] [] 0 0 (zw μ)
  obtain ⟨o1, o2, o3, h⟩ := h
  refine zw_lload_n (pc := 0) (n := 0) (i := 0) 0 (by decide +kernel) rfl rfl ?_
  refine zw_lload_n (pc := 1) (n := 2) (i := 2) 1 (by decide +kernel) rfl rfl ?_
  refine zw_lcmp (pc := 2) (by decide +kernel) o1 o2 ?_
  refine zw_if_lt (pc := 3) (off := 14) (tgt := 17) (by decide +kernel) (by decide) o3 (fun hc => ?_) (fun hc => ?_)
  · replace h := h.1 hc
    refine zw_iconst (pc := 17) (n := 0) (by decide +kernel) ?_
    exact zw_zret (pc := 18) (by decide +kernel) rfl (Nat.le_refl _) (Nat.le_refl _) (Or.inl rfl) ⟨_, _, rfl, rfl, h⟩
  · replace h := h.2 hc
    obtain ⟨o4, o5, h⟩ := h
    refine zw_lload_n (pc := 6) (n := 0) (i := 0) 0 (by decide +kernel) rfl rfl ?_
    refine zw_lload (pc := 7) (i := 4) 2 (by decide +kernel) rfl ?_
    refine zw_lcmp (pc := 9) (by decide +kernel) o1 o4 ?_
    refine zw_if_gt (pc := 10) (off := 7) (tgt := 17) (by decide +kernel) (by decide) o5 (fun hc => ?_) (fun hc => ?_)
    · replace h := h.1 hc
      refine zw_iconst (pc := 17) (n := 0) (by decide +kernel) ?_
      exact zw_zret (pc := 18) (by decide +kernel) rfl (Nat.le_refl _) (Nat.le_refl _) (Or.inl rfl) ⟨_, _, rfl, rfl, h⟩
    · replace h := h.2 hc
      refine zw_iconst (pc := 13) (n := 1) (by decide +kernel) ?_
      refine zw_goto (pc := 14) (off := 4) (tgt := 18) (by decide +kernel) (by decide) ?_
      exact zw_zret (pc := 18) (by decide +kernel) rfl (Nat.le_refl _) (Nat.le_refl _) (Or.inr rfl) ⟨_, _, rfl, rfl, h⟩
abbrev at_X11_j_26 (g : zG) (φ : Int → zMu → Prop) (v1 : Int) (v2 : Int) (v3 : Int) (μ : zMu) : Prop := zWP g zm_X11_j (zmo g zm_X11_j (zΦi φ)) 26 [(0, .ref 203), (1, .int (zJ v1)), (2, .int (zJ v2)), (3, .int (zJ v3))] [] 0 0 (zw μ)
abbrev at_X11_j_126 (g : zG) (φ : Int → zMu → Prop) (v1 : Int) (v2 : Int) (v3 : Int) (μ : zMu) : Prop := zWP g zm_X11_j (zmo g zm_X11_j (zΦi φ)) 126 [(0, .ref 203), (1, .int (zJ v1)), (2, .int (zJ v2)), (3, .int (zJ v3))] [] 0 0 (zw μ)
abbrev at_X11_j_38 (g : zG) (φ : Int → zMu → Prop) (v1 : Int) (v2 : Int) (v3 : Int) (v4 : Int) (v6 : Int) (μ : zMu) : Prop := zWP g zm_X11_j (zmo g zm_X11_j (zΦi φ)) 38 [(0, .ref 203), (1, .int (zJ v1)), (2, .int (zJ v2)), (3, .int (zJ v3)), (4, .long (zL v4)), (6, .int (zJ v6))] [] 0 0 (zw μ)
abbrev at_X11_j_165 (g : zG) (φ : Int → zMu → Prop) (v1 : Int) (v2 : Int) (v3 : Int) (μ : zMu) : Prop := zWP g zm_X11_j (zmo g zm_X11_j (zΦi φ)) 165 [(0, .ref 203), (1, .int (zJ v1)), (2, .int (zJ v2)), (3, .int (zJ v3))] [] 0 0 (zw μ)
abbrev at_X11_j_194 (g : zG) (φ : Int → zMu → Prop) (v1 : Int) (v2 : Int) (v3 : Int) (μ : zMu) : Prop := zWP g zm_X11_j (zmo g zm_X11_j (zΦi φ)) 194 [(0, .ref 203), (1, .int (zJ v1)), (2, .int (zJ v2)), (3, .int (zJ v3))] [] 0 0 (zw μ)
abbrev at_X11_j_203 (g : zG) (φ : Int → zMu → Prop) (v1 : Int) (v2 : Int) (v3 : Int) (v4 : Int) (μ : zMu) : Prop := zWP g zm_X11_j (zmo g zm_X11_j (zΦi φ)) 203 [(0, .ref 203), (1, .int (zJ v1)), (2, .int (zJ v2)), (3, .int (zJ v3)), (4, .int (zJ v4))] [] 0 0 (zw μ)
abbrev at_X11_j_214 (g : zG) (φ : Int → zMu → Prop) (v1 : Int) (v2 : Int) (v3 : Int) (v4 : Int) (v5 : Int) (μ : zMu) : Prop := zWP g zm_X11_j (zmo g zm_X11_j (zΦi φ)) 214 [(0, .ref 203), (1, .int (zJ v1)), (2, .int (zJ v2)), (3, .int (zJ v3)), (4, .int (zJ v4)), (5, .int (zJ v5))] [] 0 0 (zw μ)
theorem sg_X11_j {g : zG} {φ : Int → zMu → Prop} {v1 : Int} {v2 : Int} {μ : zMu}
    (h : zOi g zm_X11_isSeries [.int (zJ v1)] μ (fun x2 μ1 => (zR x2) ∧ ((¬ x2 = 0 → (zR v2) ∧ zOi g zm_X11_in [.long (zL v2), .long (zL 1), .long (zL 80)] μ1 (fun x6 μ5 => (zR x6) ∧ ((¬ x6 = 0 → at_X11_j_26 g φ v1 v2 0 μ5) ∧ (x6 = 0 → φ (-2) μ5)))) ∧ (x2 = 0 → φ (-1) μ1)))) : zOi g zm_X11_j [.ref 203, .int (zJ v1), .int (zJ v2)] μ φ := by
  refine zok_of (by decide +kernel) rfl ?_
  show zWP g zm_X11_j (zmo g zm_X11_j (zΦi φ)) 0 [(0, .ref 203), (1, .int (zJ v1)), (2, .int (zJ v2))] [] 0 0 (zw μ)
  refine zw_iload_n (pc := 0) (n := 1) (i := 1) 1 (by decide +kernel) rfl rfl ?_
  refine zx_callS (pc := 1) (As := [.int (zJ v1)]) h zi_X11_isSeries zis_X11_isSeries zl_11_141 (by decide +kernel) ⟨Nat.le_of_ble_eq_true rfl, Nat.le_of_ble_eq_true rfl⟩ rfl rfl ⟨rfl, rfl⟩ ⟨Nat.zero_le _, Nat.zero_le _⟩ (zki (fun x2 μ1 h => ?_))
  obtain ⟨o3, h⟩ := h
  refine zw_if_ne (pc := 4) (off := 5) (tgt := 9) (by decide +kernel) (by decide) o3 (fun hc => ?_) (fun hc => ?_)
  · replace h := h.1 hc
    obtain ⟨o4, h⟩ := h
    refine zw_iload_n (pc := 9) (n := 2) (i := 2) 2 (by decide +kernel) rfl rfl ?_
    refine zw_i2l (pc := 10) (by decide +kernel) o4 ?_
    refine zw_lconst (pc := 11) (n := 1) (v := 1) (by decide +kernel) rfl ?_
    refine zw_ldc2 (pc := 12) (v := 80) (by decide +kernel) zk_11_144 ?_
    refine zx_callS (pc := 15) (As := [.long (zL v2), .long (zL 1), .long (zL 80)]) h zi_X11_in zis_X11_in zl_11_114 (by decide +kernel) ⟨Nat.le_of_ble_eq_true rfl, Nat.le_of_ble_eq_true rfl⟩ rfl rfl ⟨rfl, rfl⟩ ⟨Nat.zero_le _, Nat.zero_le _⟩ (zki (fun x6 μ5 h => ?_))
    obtain ⟨o7, h⟩ := h
    refine zw_if_ne (pc := 18) (off := 6) (tgt := 24) (by decide +kernel) (by decide) o7 (fun hc => ?_) (fun hc => ?_)
    · replace h := h.1 hc
      refine zw_iconst (pc := 24) (n := 0) (by decide +kernel) ?_
      refine zw_istore_n (pc := 25) (n := 3) (i := 3) (lv' := [(0, .ref 203), (1, .int (zJ v1)), (2, .int (zJ v2)), (3, .int (zJ 0))]) (by decide +kernel) rfl (Nat.le_of_ble_eq_true rfl) rfl ?_
      exact h
    · replace h := h.2 hc
      refine zw_bipush (pc := 21) (n := (-2)) (by decide +kernel) (by decide +kernel) ?_
      exact zw_iret (pc := 23) (by decide +kernel) rfl (Nat.le_refl _) (Nat.le_refl _) ⟨_, _, rfl, rfl, h⟩
  · replace h := h.2 hc
    refine zw_iconst (pc := 7) (n := (-1)) (by decide +kernel) ?_
    exact zw_iret (pc := 8) (by decide +kernel) rfl (Nat.le_refl _) (Nat.le_refl _) ⟨_, _, rfl, rfl, h⟩
theorem sg_X11_j_26 {g : zG} {φ : Int → zMu → Prop} {v1 : Int} {v2 : Int} {v3 : Int} {μ : zMu}
    (h : (zR v3) ∧ ((80 ≤ v3 → at_X11_j_126 g φ v1 v2 0 μ) ∧ (v3 < 80 → at_X11_j_38 g φ v1 v2 v3 0 1 μ))) : at_X11_j_26 g φ v1 v2 v3 μ := by
  obtain ⟨o1, h⟩ := h
  refine zw_iload_n (pc := 26) (n := 3) (i := 3) 3 (by decide +kernel) rfl rfl ?_
  refine zw_bipush (pc := 27) (n := 80) (by decide +kernel) (by decide +kernel) ?_
  refine zw_icmp_ge (pc := 29) (off := 95) (tgt := 124) (by decide +kernel) (by decide) o1 ⟨by decide, by decide⟩ (fun hc => ?_) (fun hc => ?_)
  · replace h := h.1 hc
    refine zw_iconst (pc := 124) (n := 0) (by decide +kernel) ?_
    refine zw_istore_n (pc := 125) (n := 3) (i := 3) (lv' := [(0, .ref 203), (1, .int (zJ v1)), (2, .int (zJ v2)), (3, .int (zJ 0))]) (by decide +kernel) rfl (Nat.le_of_ble_eq_true rfl) rfl ?_
    exact h
  · replace h := h.2 hc
    refine zw_lconst (pc := 32) (n := 0) (v := 0) (by decide +kernel) rfl ?_
    refine zw_lstore (pc := 33) (i := 4) (lv' := [(0, .ref 203), (1, .int (zJ v1)), (2, .int (zJ v2)), (3, .int (zJ v3)), (4, .long (zL 0))]) (by decide +kernel) (Nat.le_of_ble_eq_true rfl) rfl ?_
    refine zw_iconst (pc := 35) (n := 1) (by decide +kernel) ?_
    refine zw_istore (pc := 36) (i := 6) (lv' := [(0, .ref 203), (1, .int (zJ v1)), (2, .int (zJ v2)), (3, .int (zJ v3)), (4, .long (zL 0)), (6, .int (zJ 1))]) (by decide +kernel) (Nat.le_of_ble_eq_true rfl) rfl ?_
    exact h
theorem sg_X11_j_126 {g : zG} {φ : Int → zMu → Prop} {v1 : Int} {v2 : Int} {v3 : Int} {μ : zMu}
    (h : (zR v3) ∧ ((2 ≤ v3 → at_X11_j_165 g φ v1 v2 0 μ) ∧ (v3 < 2 → zOv g zm_X11_multiplies [.ref 203, .ref 210, .ref 211, .int (zJ 80)] μ (fun μ2 => zOv g zm_X11_lays [.ref 209, .int (zJ 0), .ref 210] μ2 (fun μ3 => at_X11_j_126 g φ v1 v2 (v3 + 1) μ3))))) : at_X11_j_126 g φ v1 v2 v3 μ := by
  obtain ⟨o1, h⟩ := h
  refine zw_iload_n (pc := 126) (n := 3) (i := 3) 3 (by decide +kernel) rfl rfl ?_
  refine zw_iconst (pc := 127) (n := 2) (by decide +kernel) ?_
  refine zw_icmp_ge (pc := 128) (off := 35) (tgt := 163) (by decide +kernel) (by decide) o1 ⟨by decide, by decide⟩ (fun hc => ?_) (fun hc => ?_)
  · replace h := h.1 hc
    refine zw_iconst (pc := 163) (n := 0) (by decide +kernel) ?_
    refine zw_istore_n (pc := 164) (n := 3) (i := 3) (lv' := [(0, .ref 203), (1, .int (zJ v1)), (2, .int (zJ v2)), (3, .int (zJ 0))]) (by decide +kernel) rfl (Nat.le_of_ble_eq_true rfl) rfl ?_
    exact h
  · replace h := h.2 hc
    refine zw_aload_n (pc := 131) (n := 0) (i := 0) 0 (by decide +kernel) rfl rfl ?_
    refine zw_aload_n (pc := 132) (n := 0) (i := 0) 0 (by decide +kernel) rfl rfl ?_
    refine zx_getR (pc := 133) (o := 7) (r := 210) zf_11_34 (by decide +kernel) rfl zc_203 rfl (by decide) rfl ?_
    refine zw_aload_n (pc := 136) (n := 0) (i := 0) 0 (by decide +kernel) rfl rfl ?_
    refine zx_getR (pc := 137) (o := 8) (r := 211) zf_11_37 (by decide +kernel) rfl zc_203 rfl (by decide) rfl ?_
    refine zw_bipush (pc := 140) (n := 80) (by decide +kernel) (by decide +kernel) ?_
    refine zx_callV (pc := 142) (As := [.ref 210, .ref 211, .int (zJ 80)]) h zi_X11_multiplies zii_X11_multiplies zie_X11_multiplies zl_11_152 (by decide +kernel) ⟨Nat.le_of_ble_eq_true rfl, Nat.le_of_ble_eq_true rfl⟩ rfl zc_203 (by decide) rfl rfl ⟨rfl, rfl⟩ ⟨Nat.zero_le _, Nat.zero_le _⟩ (zkv (fun μ2 h => ?_))
    refine zw_aload_n (pc := 145) (n := 0) (i := 0) 0 (by decide +kernel) rfl rfl ?_
    refine zx_getR (pc := 146) (o := 6) (r := 209) zf_11_31 (by decide +kernel) rfl zc_203 rfl (by decide) rfl ?_
    refine zw_iconst (pc := 149) (n := 0) (by decide +kernel) ?_
    refine zw_aload_n (pc := 150) (n := 0) (i := 0) 0 (by decide +kernel) rfl rfl ?_
    refine zx_getR (pc := 151) (o := 7) (r := 210) zf_11_34 (by decide +kernel) rfl zc_203 rfl (by decide) rfl ?_
    refine zx_callS (pc := 154) (As := [.ref 209, .int (zJ 0), .ref 210]) h zi_X11_lays zis_X11_lays zl_11_156 (by decide +kernel) ⟨Nat.le_of_ble_eq_true rfl, Nat.le_of_ble_eq_true rfl⟩ rfl rfl ⟨rfl, rfl⟩ ⟨Nat.zero_le _, Nat.zero_le _⟩ (zkv (fun μ3 h => ?_))
    refine zw_iinc (pc := 157) (i := 3) (n := 1) (lv' := [(0, .ref 203), (1, .int (zJ v1)), (2, .int (zJ v2)), (3, .int (zJ (v3 + 1)))]) 3 (by decide +kernel) rfl rfl (Nat.le_of_ble_eq_true rfl) rfl ?_
    refine zw_goto (pc := 160) (off := (-34)) (tgt := 126) (by decide +kernel) (by decide) ?_
    exact h
theorem sg_X11_j_38 {g : zG} {φ : Int → zMu → Prop} {v1 : Int} {v2 : Int} {v3 : Int} {v4 : Int} {v6 : Int} {μ : zMu}
    (h : (zR v6) ∧ (zR v3) ∧ ((v3 < v6 → ((¬ v3 = 0 → zOi g zm_X11_whole [.ref 203, .long (zL v4)] μ (fun x4 μ3 => (zR x4) ∧ zOi g zm_X11_whole [.ref 203, .long (zL (240 * x4))] μ3 (fun x7 μ6 => (0 ≤ v3 ∧ v3 < 80) ∧ at_X11_j_26 g φ v1 v2 (v3 + 1) (zup (zup μ6 210 v3.toNat x7) 211 v3.toNat ((zup μ6 210 v3.toNat x7) 210 v3.toNat))))) ∧ (v3 = 0 → (0 ≤ v3 ∧ v3 < 80) ∧ at_X11_j_26 g φ v1 v2 (v3 + 1) (zup (zup μ 210 v3.toNat 1) 211 v3.toNat ((zup μ 210 v3.toNat 1) 210 v3.toNat))))) ∧ (v6 ≤ v3 → (v6 ≠ 0) ∧ (zR (v3.tmod v6)) ∧ ((¬ (v3.tmod v6) = 0 → at_X11_j_38 g φ v1 v2 v3 (v4 + 0) (v6 + 1) μ) ∧ ((v3.tmod v6) = 0 → at_X11_j_38 g φ v1 v2 v3 (v4 + ((v6 * v6) * v6)) (v6 + 1) μ))))) : at_X11_j_38 g φ v1 v2 v3 v4 v6 μ := by
  obtain ⟨o1, o2, h⟩ := h
  refine zw_iload (pc := 38) (i := 6) 5 (by decide +kernel) rfl ?_
  refine zw_iload_n (pc := 40) (n := 3) (i := 3) 3 (by decide +kernel) rfl rfl ?_
  refine zw_icmp_gt (pc := 41) (off := 36) (tgt := 77) (by decide +kernel) (by decide) o1 o2 (fun hc => ?_) (fun hc => ?_)
  · replace h := h.1 hc
    refine zw_aload_n (pc := 77) (n := 0) (i := 0) 0 (by decide +kernel) rfl rfl ?_
    refine zx_getR (pc := 78) (o := 7) (r := 210) zf_11_34 (by decide +kernel) rfl zc_203 rfl (by decide) rfl ?_
    refine zw_iload_n (pc := 81) (n := 3) (i := 3) 3 (by decide +kernel) rfl rfl ?_
    refine zw_iload_n (pc := 82) (n := 3) (i := 3) 3 (by decide +kernel) rfl rfl ?_
    refine zw_if_ne (pc := 83) (off := 7) (tgt := 90) (by decide +kernel) (by decide) o2 (fun hc => ?_) (fun hc => ?_)
    · replace h := h.1 hc
      refine zw_aload_n (pc := 90) (n := 0) (i := 0) 0 (by decide +kernel) rfl rfl ?_
      refine zw_ldc2 (pc := 91) (v := 240) (by decide +kernel) zk_11_146 ?_
      refine zw_aload_n (pc := 94) (n := 0) (i := 0) 0 (by decide +kernel) rfl rfl ?_
      refine zw_lload (pc := 95) (i := 4) 4 (by decide +kernel) rfl ?_
      refine zx_callV (pc := 97) (As := [.long (zL v4)]) h zi_X11_whole zii_X11_whole zie_X11_whole zl_11_148 (by decide +kernel) ⟨Nat.le_of_ble_eq_true rfl, Nat.le_of_ble_eq_true rfl⟩ rfl zc_203 (by decide) rfl rfl ⟨rfl, rfl⟩ ⟨Nat.zero_le _, Nat.zero_le _⟩ (zki (fun x4 μ3 h => ?_))
      obtain ⟨o5, h⟩ := h
      refine zw_i2l (pc := 100) (by decide +kernel) o5 ?_
      refine zw_lmul (pc := 101) (by decide +kernel) ?_
      refine zx_callV (pc := 102) (As := [.long (zL (240 * x4))]) h zi_X11_whole zii_X11_whole zie_X11_whole zl_11_148 (by decide +kernel) ⟨Nat.le_of_ble_eq_true rfl, Nat.le_of_ble_eq_true rfl⟩ rfl zc_203 (by decide) rfl rfl ⟨rfl, rfl⟩ ⟨Nat.zero_le _, Nat.zero_le _⟩ (zki (fun x7 μ6 h => ?_))
      obtain ⟨o8, h⟩ := h
      refine zx_iastore (pc := 105) (by decide +kernel) ⟨80, zc_210, o8.1, o8.2⟩ ?_
      refine zw_aload_n (pc := 106) (n := 0) (i := 0) 0 (by decide +kernel) rfl rfl ?_
      refine zx_getR (pc := 107) (o := 8) (r := 211) zf_11_37 (by decide +kernel) rfl zc_203 rfl (by decide) rfl ?_
      refine zw_iload_n (pc := 110) (n := 3) (i := 3) 3 (by decide +kernel) rfl rfl ?_
      refine zw_aload_n (pc := 111) (n := 0) (i := 0) 0 (by decide +kernel) rfl rfl ?_
      refine zx_getR (pc := 112) (o := 7) (r := 210) zf_11_34 (by decide +kernel) rfl zc_203 rfl (by decide) rfl ?_
      refine zw_iload_n (pc := 115) (n := 3) (i := 3) 3 (by decide +kernel) rfl rfl ?_
      refine zx_iaload (pc := 116) (by decide +kernel) ⟨80, zc_210, o8.1, o8.2⟩ ?_
      refine zx_iastore (pc := 117) (by decide +kernel) ⟨80, zc_211, o8.1, o8.2⟩ ?_
      refine zw_iinc (pc := 118) (i := 3) (n := 1) (lv' := [(0, .ref 203), (1, .int (zJ v1)), (2, .int (zJ v2)), (3, .int (zJ (v3 + 1))), (4, .long (zL v4)), (6, .int (zJ v6))]) 3 (by decide +kernel) rfl rfl (Nat.le_of_ble_eq_true rfl) rfl ?_
      refine zw_goto (pc := 121) (off := (-95)) (tgt := 26) (by decide +kernel) (by decide) ?_
      exact zw_pick (lv' := [(0, .ref 203), (1, .int (zJ v1)), (2, .int (zJ v2)), (3, .int (zJ (v3 + 1)))]) [0, 1, 2, 3] rfl h
    · replace h := h.2 hc
      obtain ⟨o9, h⟩ := h
      refine zw_iconst (pc := 86) (n := 1) (by decide +kernel) ?_
      refine zw_goto (pc := 87) (off := 18) (tgt := 105) (by decide +kernel) (by decide) ?_
      refine zx_iastore (pc := 105) (by decide +kernel) ⟨80, zc_210, o9.1, o9.2⟩ ?_
      refine zw_aload_n (pc := 106) (n := 0) (i := 0) 0 (by decide +kernel) rfl rfl ?_
      refine zx_getR (pc := 107) (o := 8) (r := 211) zf_11_37 (by decide +kernel) rfl zc_203 rfl (by decide) rfl ?_
      refine zw_iload_n (pc := 110) (n := 3) (i := 3) 3 (by decide +kernel) rfl rfl ?_
      refine zw_aload_n (pc := 111) (n := 0) (i := 0) 0 (by decide +kernel) rfl rfl ?_
      refine zx_getR (pc := 112) (o := 7) (r := 210) zf_11_34 (by decide +kernel) rfl zc_203 rfl (by decide) rfl ?_
      refine zw_iload_n (pc := 115) (n := 3) (i := 3) 3 (by decide +kernel) rfl rfl ?_
      refine zx_iaload (pc := 116) (by decide +kernel) ⟨80, zc_210, o9.1, o9.2⟩ ?_
      refine zx_iastore (pc := 117) (by decide +kernel) ⟨80, zc_211, o9.1, o9.2⟩ ?_
      refine zw_iinc (pc := 118) (i := 3) (n := 1) (lv' := [(0, .ref 203), (1, .int (zJ v1)), (2, .int (zJ v2)), (3, .int (zJ (v3 + 1))), (4, .long (zL v4)), (6, .int (zJ v6))]) 3 (by decide +kernel) rfl rfl (Nat.le_of_ble_eq_true rfl) rfl ?_
      refine zw_goto (pc := 121) (off := (-95)) (tgt := 26) (by decide +kernel) (by decide) ?_
      exact zw_pick (lv' := [(0, .ref 203), (1, .int (zJ v1)), (2, .int (zJ v2)), (3, .int (zJ (v3 + 1)))]) [0, 1, 2, 3] rfl h
  · replace h := h.2 hc
    obtain ⟨o10, o11, h⟩ := h
    refine zw_lload (pc := 44) (i := 4) 4 (by decide +kernel) rfl ?_
    refine zw_iload_n (pc := 46) (n := 3) (i := 3) 3 (by decide +kernel) rfl rfl ?_
    refine zw_iload (pc := 47) (i := 6) 5 (by decide +kernel) rfl ?_
    refine zw_irem (pc := 49) (by decide +kernel) o2 o1 o10 ?_
    refine zw_if_ne (pc := 50) (off := 17) (tgt := 67) (by decide +kernel) (by decide) o11 (fun hc => ?_) (fun hc => ?_)
    · replace h := h.1 hc
      refine zw_lconst (pc := 67) (n := 0) (v := 0) (by decide +kernel) rfl ?_
      refine zw_ladd (pc := 68) (by decide +kernel) ?_
      refine zw_lstore (pc := 69) (i := 4) (lv' := [(0, .ref 203), (1, .int (zJ v1)), (2, .int (zJ v2)), (3, .int (zJ v3)), (4, .long (zL (v4 + 0))), (6, .int (zJ v6))]) (by decide +kernel) (Nat.le_of_ble_eq_true rfl) rfl ?_
      refine zw_iinc (pc := 71) (i := 6) (n := 1) (lv' := [(0, .ref 203), (1, .int (zJ v1)), (2, .int (zJ v2)), (3, .int (zJ v3)), (4, .long (zL (v4 + 0))), (6, .int (zJ (v6 + 1)))]) 5 (by decide +kernel) rfl rfl (Nat.le_of_ble_eq_true rfl) rfl ?_
      refine zw_goto (pc := 74) (off := (-36)) (tgt := 38) (by decide +kernel) (by decide) ?_
      exact h
    · replace h := h.2 hc
      refine zw_iload (pc := 53) (i := 6) 5 (by decide +kernel) rfl ?_
      refine zw_i2l (pc := 55) (by decide +kernel) o1 ?_
      refine zw_iload (pc := 56) (i := 6) 5 (by decide +kernel) rfl ?_
      refine zw_i2l (pc := 58) (by decide +kernel) o1 ?_
      refine zw_lmul (pc := 59) (by decide +kernel) ?_
      refine zw_iload (pc := 60) (i := 6) 5 (by decide +kernel) rfl ?_
      refine zw_i2l (pc := 62) (by decide +kernel) o1 ?_
      refine zw_lmul (pc := 63) (by decide +kernel) ?_
      refine zw_goto (pc := 64) (off := 4) (tgt := 68) (by decide +kernel) (by decide) ?_
      refine zw_ladd (pc := 68) (by decide +kernel) ?_
      refine zw_lstore (pc := 69) (i := 4) (lv' := [(0, .ref 203), (1, .int (zJ v1)), (2, .int (zJ v2)), (3, .int (zJ v3)), (4, .long (zL (v4 + ((v6 * v6) * v6)))), (6, .int (zJ v6))]) (by decide +kernel) (Nat.le_of_ble_eq_true rfl) rfl ?_
      refine zw_iinc (pc := 71) (i := 6) (n := 1) (lv' := [(0, .ref 203), (1, .int (zJ v1)), (2, .int (zJ v2)), (3, .int (zJ v3)), (4, .long (zL (v4 + ((v6 * v6) * v6)))), (6, .int (zJ (v6 + 1)))]) 5 (by decide +kernel) rfl rfl (Nat.le_of_ble_eq_true rfl) rfl ?_
      refine zw_goto (pc := 74) (off := (-36)) (tgt := 38) (by decide +kernel) (by decide) ?_
      exact h
theorem sg_X11_j_165 {g : zG} {φ : Int → zMu → Prop} {v1 : Int} {v2 : Int} {v3 : Int} {μ : zMu}
    (h : (zR v3) ∧ ((80 ≤ v3 → at_X11_j_194 g φ v1 v2 1 μ) ∧ (v3 < 80 → ((¬ v3 = 0 → (0 ≤ v3 ∧ v3 < 80) ∧ at_X11_j_165 g φ v1 v2 (v3 + 1) (zup μ 211 v3.toNat 0)) ∧ (v3 = 0 → (0 ≤ v3 ∧ v3 < 80) ∧ at_X11_j_165 g φ v1 v2 (v3 + 1) (zup μ 211 v3.toNat 1)))))) : at_X11_j_165 g φ v1 v2 v3 μ := by
  obtain ⟨o1, h⟩ := h
  refine zw_iload_n (pc := 165) (n := 3) (i := 3) 3 (by decide +kernel) rfl rfl ?_
  refine zw_bipush (pc := 166) (n := 80) (by decide +kernel) (by decide +kernel) ?_
  refine zw_icmp_ge (pc := 168) (off := 24) (tgt := 192) (by decide +kernel) (by decide) o1 ⟨by decide, by decide⟩ (fun hc => ?_) (fun hc => ?_)
  · replace h := h.1 hc
    refine zw_iconst (pc := 192) (n := 1) (by decide +kernel) ?_
    refine zw_istore_n (pc := 193) (n := 3) (i := 3) (lv' := [(0, .ref 203), (1, .int (zJ v1)), (2, .int (zJ v2)), (3, .int (zJ 1))]) (by decide +kernel) rfl (Nat.le_of_ble_eq_true rfl) rfl ?_
    exact h
  · replace h := h.2 hc
    refine zw_aload_n (pc := 171) (n := 0) (i := 0) 0 (by decide +kernel) rfl rfl ?_
    refine zx_getR (pc := 172) (o := 8) (r := 211) zf_11_37 (by decide +kernel) rfl zc_203 rfl (by decide) rfl ?_
    refine zw_iload_n (pc := 175) (n := 3) (i := 3) 3 (by decide +kernel) rfl rfl ?_
    refine zw_iload_n (pc := 176) (n := 3) (i := 3) 3 (by decide +kernel) rfl rfl ?_
    refine zw_if_ne (pc := 177) (off := 7) (tgt := 184) (by decide +kernel) (by decide) o1 (fun hc => ?_) (fun hc => ?_)
    · replace h := h.1 hc
      obtain ⟨o2, h⟩ := h
      refine zw_iconst (pc := 184) (n := 0) (by decide +kernel) ?_
      refine zx_iastore (pc := 185) (by decide +kernel) ⟨80, zc_211, o2.1, o2.2⟩ ?_
      refine zw_iinc (pc := 186) (i := 3) (n := 1) (lv' := [(0, .ref 203), (1, .int (zJ v1)), (2, .int (zJ v2)), (3, .int (zJ (v3 + 1)))]) 3 (by decide +kernel) rfl rfl (Nat.le_of_ble_eq_true rfl) rfl ?_
      refine zw_goto (pc := 189) (off := (-24)) (tgt := 165) (by decide +kernel) (by decide) ?_
      exact h
    · replace h := h.2 hc
      obtain ⟨o3, h⟩ := h
      refine zw_iconst (pc := 180) (n := 1) (by decide +kernel) ?_
      refine zw_goto (pc := 181) (off := 4) (tgt := 185) (by decide +kernel) (by decide) ?_
      refine zx_iastore (pc := 185) (by decide +kernel) ⟨80, zc_211, o3.1, o3.2⟩ ?_
      refine zw_iinc (pc := 186) (i := 3) (n := 1) (lv' := [(0, .ref 203), (1, .int (zJ v1)), (2, .int (zJ v2)), (3, .int (zJ (v3 + 1)))]) 3 (by decide +kernel) rfl rfl (Nat.le_of_ble_eq_true rfl) rfl ?_
      refine zw_goto (pc := 189) (off := (-24)) (tgt := 165) (by decide +kernel) (by decide) ?_
      exact h
theorem sg_X11_j_194 {g : zG} {φ : Int → zMu → Prop} {v1 : Int} {v2 : Int} {v3 : Int} {μ : zMu}
    (h : (zR v3) ∧ ((80 ≤ v3 → zOv g zm_X11_divides [.ref 203, .ref 210, .ref 211, .int (zJ 80)] μ (fun μ2 => zOi g zm_X11_becomes [.ref 203, .int (zJ v1)] (zup (zup μ2 203 7 (-1)) 203 8 v2) (fun x4 μ3 => φ x4 μ3))) ∧ (v3 < 80 → at_X11_j_203 g φ v1 v2 v3 0 μ))) : at_X11_j_194 g φ v1 v2 v3 μ := by
  obtain ⟨o1, h⟩ := h
  refine zw_iload_n (pc := 194) (n := 3) (i := 3) 3 (by decide +kernel) rfl rfl ?_
  refine zw_bipush (pc := 195) (n := 80) (by decide +kernel) (by decide +kernel) ?_
  refine zw_icmp_ge (pc := 197) (off := 75) (tgt := 272) (by decide +kernel) (by decide) o1 ⟨by decide, by decide⟩ (fun hc => ?_) (fun hc => ?_)
  · replace h := h.1 hc
    refine zw_aload_n (pc := 272) (n := 0) (i := 0) 0 (by decide +kernel) rfl rfl ?_
    refine zw_aload_n (pc := 273) (n := 0) (i := 0) 0 (by decide +kernel) rfl rfl ?_
    refine zx_getR (pc := 274) (o := 7) (r := 210) zf_11_34 (by decide +kernel) rfl zc_203 rfl (by decide) rfl ?_
    refine zw_aload_n (pc := 277) (n := 0) (i := 0) 0 (by decide +kernel) rfl rfl ?_
    refine zx_getR (pc := 278) (o := 8) (r := 211) zf_11_37 (by decide +kernel) rfl zc_203 rfl (by decide) rfl ?_
    refine zw_bipush (pc := 281) (n := 80) (by decide +kernel) (by decide +kernel) ?_
    refine zx_callV (pc := 283) (As := [.ref 210, .ref 211, .int (zJ 80)]) h zi_X11_divides zii_X11_divides zie_X11_divides zl_11_160 (by decide +kernel) ⟨Nat.le_of_ble_eq_true rfl, Nat.le_of_ble_eq_true rfl⟩ rfl zc_203 (by decide) rfl rfl ⟨rfl, rfl⟩ ⟨Nat.zero_le _, Nat.zero_le _⟩ (zkv (fun μ2 h => ?_))
    refine zw_aload_n (pc := 286) (n := 0) (i := 0) 0 (by decide +kernel) rfl rfl ?_
    refine zw_iconst (pc := 287) (n := (-1)) (by decide +kernel) ?_
    refine zx_putI (pc := 288) zf_11_131 (by decide +kernel) rfl zc_203 ?_
    refine zw_aload_n (pc := 291) (n := 0) (i := 0) 0 (by decide +kernel) rfl rfl ?_
    refine zw_iload_n (pc := 292) (n := 2) (i := 2) 2 (by decide +kernel) rfl rfl ?_
    refine zx_putI (pc := 293) zf_11_134 (by decide +kernel) rfl zc_203 ?_
    refine zw_aload_n (pc := 296) (n := 0) (i := 0) 0 (by decide +kernel) rfl rfl ?_
    refine zw_iload_n (pc := 297) (n := 1) (i := 1) 1 (by decide +kernel) rfl rfl ?_
    refine zx_callV (pc := 298) (As := [.int (zJ v1)]) h zi_X11_becomes zii_X11_becomes zie_X11_becomes zl_11_163 (by decide +kernel) ⟨Nat.le_of_ble_eq_true rfl, Nat.le_of_ble_eq_true rfl⟩ rfl zc_203 (by decide) rfl rfl ⟨rfl, rfl⟩ ⟨Nat.zero_le _, Nat.zero_le _⟩ (zki (fun x4 μ3 h => ?_))
    exact zw_iret (pc := 301) (by decide +kernel) rfl (Nat.le_refl _) (Nat.le_refl _) ⟨_, _, rfl, rfl, h⟩
  · replace h := h.2 hc
    refine zw_iconst (pc := 200) (n := 0) (by decide +kernel) ?_
    refine zw_istore (pc := 201) (i := 4) (lv' := [(0, .ref 203), (1, .int (zJ v1)), (2, .int (zJ v2)), (3, .int (zJ v3)), (4, .int (zJ 0))]) (by decide +kernel) (Nat.le_of_ble_eq_true rfl) rfl ?_
    exact h
theorem sg_X11_j_203 {g : zG} {φ : Int → zMu → Prop} {v1 : Int} {v2 : Int} {v3 : Int} {v4 : Int} {μ : zMu}
    (h : (zR v4) ∧ ((24 ≤ v4 → at_X11_j_194 g φ v1 v2 (v3 + 1) μ) ∧ (v4 < 24 → at_X11_j_214 g φ v1 v2 v3 v4 79 μ))) : at_X11_j_203 g φ v1 v2 v3 v4 μ := by
  obtain ⟨o1, h⟩ := h
  refine zw_iload (pc := 203) (i := 4) 4 (by decide +kernel) rfl ?_
  refine zw_bipush (pc := 205) (n := 24) (by decide +kernel) (by decide +kernel) ?_
  refine zw_icmp_ge (pc := 207) (off := 59) (tgt := 266) (by decide +kernel) (by decide) o1 ⟨by decide, by decide⟩ (fun hc => ?_) (fun hc => ?_)
  · replace h := h.1 hc
    refine zw_iinc (pc := 266) (i := 3) (n := 1) (lv' := [(0, .ref 203), (1, .int (zJ v1)), (2, .int (zJ v2)), (3, .int (zJ (v3 + 1))), (4, .int (zJ v4))]) 3 (by decide +kernel) rfl rfl (Nat.le_of_ble_eq_true rfl) rfl ?_
    refine zw_goto (pc := 269) (off := (-75)) (tgt := 194) (by decide +kernel) (by decide) ?_
    exact zw_pick (lv' := [(0, .ref 203), (1, .int (zJ v1)), (2, .int (zJ v2)), (3, .int (zJ (v3 + 1)))]) [0, 1, 2, 3] rfl h
  · replace h := h.2 hc
    refine zw_bipush (pc := 210) (n := 79) (by decide +kernel) (by decide +kernel) ?_
    refine zw_istore (pc := 212) (i := 5) (lv' := [(0, .ref 203), (1, .int (zJ v1)), (2, .int (zJ v2)), (3, .int (zJ v3)), (4, .int (zJ v4)), (5, .int (zJ 79))]) (by decide +kernel) (Nat.le_of_ble_eq_true rfl) rfl ?_
    exact h
theorem sg_X11_j_214 {g : zG} {φ : Int → zMu → Prop} {v1 : Int} {v2 : Int} {v3 : Int} {v4 : Int} {v5 : Int} {μ : zMu}
    (h : (zR v5) ∧ (zR v3) ∧ ((v5 < v3 → at_X11_j_203 g φ v1 v2 v3 (v4 + 1) μ) ∧ (v3 ≤ v5 → (0 ≤ v5 ∧ v5 < 80) ∧ (0 ≤ (v5 - v3) ∧ (v5 - v3) < 80) ∧ (zR (((μ 211 v5.toNat) + (μ 203 0)) - (μ 211 (Int.toNat (v5 - v3))))) ∧ (zR (μ 203 0)) ∧ ((μ 203 0) ≠ 0) ∧ at_X11_j_214 g φ v1 v2 v3 v4 (v5 + (-1)) (zup μ 211 v5.toNat ((((μ 211 v5.toNat) + (μ 203 0)) - (μ 211 (Int.toNat (v5 - v3)))).tmod (μ 203 0)))))) : at_X11_j_214 g φ v1 v2 v3 v4 v5 μ := by
  obtain ⟨o1, o2, h⟩ := h
  refine zw_iload (pc := 214) (i := 5) 5 (by decide +kernel) rfl ?_
  refine zw_iload_n (pc := 216) (n := 3) (i := 3) 3 (by decide +kernel) rfl rfl ?_
  refine zw_icmp_lt (pc := 217) (off := 43) (tgt := 260) (by decide +kernel) (by decide) o1 o2 (fun hc => ?_) (fun hc => ?_)
  · replace h := h.1 hc
    refine zw_iinc (pc := 260) (i := 4) (n := 1) (lv' := [(0, .ref 203), (1, .int (zJ v1)), (2, .int (zJ v2)), (3, .int (zJ v3)), (4, .int (zJ (v4 + 1))), (5, .int (zJ v5))]) 4 (by decide +kernel) rfl rfl (Nat.le_of_ble_eq_true rfl) rfl ?_
    refine zw_goto (pc := 263) (off := (-60)) (tgt := 203) (by decide +kernel) (by decide) ?_
    exact zw_pick (lv' := [(0, .ref 203), (1, .int (zJ v1)), (2, .int (zJ v2)), (3, .int (zJ v3)), (4, .int (zJ (v4 + 1)))]) [0, 1, 2, 3, 4] rfl h
  · replace h := h.2 hc
    obtain ⟨o3, o4, o5, o6, o7, h⟩ := h
    refine zw_aload_n (pc := 220) (n := 0) (i := 0) 0 (by decide +kernel) rfl rfl ?_
    refine zx_getR (pc := 221) (o := 8) (r := 211) zf_11_37 (by decide +kernel) rfl zc_203 rfl (by decide) rfl ?_
    refine zw_iload (pc := 224) (i := 5) 5 (by decide +kernel) rfl ?_
    refine zw_aload_n (pc := 226) (n := 0) (i := 0) 0 (by decide +kernel) rfl rfl ?_
    refine zx_getR (pc := 227) (o := 8) (r := 211) zf_11_37 (by decide +kernel) rfl zc_203 rfl (by decide) rfl ?_
    refine zw_iload (pc := 230) (i := 5) 5 (by decide +kernel) rfl ?_
    refine zx_iaload (pc := 232) (by decide +kernel) ⟨80, zc_211, o3.1, o3.2⟩ ?_
    refine zw_aload_n (pc := 233) (n := 0) (i := 0) 0 (by decide +kernel) rfl rfl ?_
    refine zx_getI (pc := 234) zf_11_9 (by decide +kernel) rfl zc_203 ?_
    refine zw_iadd (pc := 237) (by decide +kernel) ?_
    refine zw_aload_n (pc := 238) (n := 0) (i := 0) 0 (by decide +kernel) rfl rfl ?_
    refine zx_getR (pc := 239) (o := 8) (r := 211) zf_11_37 (by decide +kernel) rfl zc_203 rfl (by decide) rfl ?_
    refine zw_iload (pc := 242) (i := 5) 5 (by decide +kernel) rfl ?_
    refine zw_iload_n (pc := 244) (n := 3) (i := 3) 3 (by decide +kernel) rfl rfl ?_
    refine zw_isub (pc := 245) (by decide +kernel) ?_
    refine zx_iaload (pc := 246) (by decide +kernel) ⟨80, zc_211, o4.1, o4.2⟩ ?_
    refine zw_isub (pc := 247) (by decide +kernel) ?_
    refine zw_aload_n (pc := 248) (n := 0) (i := 0) 0 (by decide +kernel) rfl rfl ?_
    refine zx_getI (pc := 249) zf_11_9 (by decide +kernel) rfl zc_203 ?_
    refine zw_irem (pc := 252) (by decide +kernel) o5 o6 o7 ?_
    refine zx_iastore (pc := 253) (by decide +kernel) ⟨80, zc_211, o3.1, o3.2⟩ ?_
    refine zw_iinc (pc := 254) (i := 5) (n := (-1)) (lv' := [(0, .ref 203), (1, .int (zJ v1)), (2, .int (zJ v2)), (3, .int (zJ v3)), (4, .int (zJ v4)), (5, .int (zJ (v5 + (-1))))]) 5 (by decide +kernel) rfl rfl (Nat.le_of_ble_eq_true rfl) rfl ?_
    refine zw_goto (pc := 257) (off := (-43)) (tgt := 214) (by decide +kernel) (by decide) ?_
    exact h
theorem sg_X11_isSeries {g : zG} {φ : Int → zMu → Prop} {v0 : Int} {μ : zMu}
    (h : (zR v0) ∧ zOi g zm_X11_in [.long (zL v0), .long (zL 0), .long (zL 5)] μ (fun x3 μ2 => (x3 = 0 ∨ x3 = 1) ∧ φ x3 μ2)) : zOi g zm_X11_isSeries [.int (zJ v0)] μ φ := by
  refine zok_of (by decide +kernel) rfl ?_
  show zWP g zm_X11_isSeries (zmo g zm_X11_isSeries (zΦi φ)) 0 [(0, .int (zJ v0))] [] 0 0 (zw μ)
  obtain ⟨o1, h⟩ := h
  refine zw_iload_n (pc := 0) (n := 0) (i := 0) 0 (by decide +kernel) rfl rfl ?_
  refine zw_i2l (pc := 1) (by decide +kernel) o1 ?_
  refine zw_lconst (pc := 2) (n := 0) (v := 0) (by decide +kernel) rfl ?_
  refine zw_ldc2 (pc := 3) (v := 5) (by decide +kernel) zk_11_112 ?_
  refine zx_callS (pc := 6) (As := [.long (zL v0), .long (zL 0), .long (zL 5)]) h zi_X11_in zis_X11_in zl_11_114 (by decide +kernel) ⟨Nat.le_of_ble_eq_true rfl, Nat.le_of_ble_eq_true rfl⟩ rfl rfl ⟨rfl, rfl⟩ ⟨Nat.zero_le _, Nat.zero_le _⟩ (zki (fun x3 μ2 h => ?_))
  obtain ⟨o4, h⟩ := h
  exact zw_zret (pc := 9) (by decide +kernel) rfl (Nat.le_refl _) (Nat.le_refl _) o4 ⟨_, _, rfl, rfl, h⟩
theorem sg_X11_whole {g : zG} {φ : Int → zMu → Prop} {v1 : Int} {μ : zMu}
    (h : (zR (μ 203 0)) ∧ (zR64 v1) ∧ (zR64 (μ 203 0)) ∧ ((μ 203 0) ≠ 0) ∧ (zR64 ((v1.tmod (μ 203 0)) + (μ 203 0))) ∧ φ (((v1.tmod (μ 203 0)) + (μ 203 0)).tmod (μ 203 0)) μ) : zOi g zm_X11_whole [.ref 203, .long (zL v1)] μ φ := by
  refine zok_of (by decide +kernel) rfl ?_
  show zWP g zm_X11_whole (zmo g zm_X11_whole (zΦi φ)) 0 [(0, .ref 203), (1, .long (zL v1))] [] 0 0 (zw μ)
  obtain ⟨o1, o2, o3, o4, o5, h⟩ := h
  refine zw_lload_n (pc := 0) (n := 1) (i := 1) 1 (by decide +kernel) rfl rfl ?_
  refine zw_aload_n (pc := 1) (n := 0) (i := 0) 0 (by decide +kernel) rfl rfl ?_
  refine zx_getI (pc := 2) zf_11_9 (by decide +kernel) rfl zc_203 ?_
  refine zw_i2l (pc := 5) (by decide +kernel) o1 ?_
  refine zw_lrem (pc := 6) (by decide +kernel) o2 o3 o4 ?_
  refine zw_aload_n (pc := 7) (n := 0) (i := 0) 0 (by decide +kernel) rfl rfl ?_
  refine zx_getI (pc := 8) zf_11_9 (by decide +kernel) rfl zc_203 ?_
  refine zw_i2l (pc := 11) (by decide +kernel) o1 ?_
  refine zw_ladd (pc := 12) (by decide +kernel) ?_
  refine zw_aload_n (pc := 13) (n := 0) (i := 0) 0 (by decide +kernel) rfl rfl ?_
  refine zx_getI (pc := 14) zf_11_9 (by decide +kernel) rfl zc_203 ?_
  refine zw_i2l (pc := 17) (by decide +kernel) o1 ?_
  refine zw_lrem (pc := 18) (by decide +kernel) o5 o3 o4 ?_
  refine zw_l2i (pc := 19) (by decide +kernel) ?_
  exact zw_iret (pc := 20) (by decide +kernel) rfl (Nat.le_refl _) (Nat.le_refl _) ⟨_, _, rfl, rfl, h⟩
abbrev at_X11_multiplies_3 (g : zG) (φ : zMu → Prop) (v1 : Nat) (v2 : Nat) (v3 : Int) (v4 : Int) (μ : zMu) : Prop := zWP g zm_X11_multiplies (zmo g zm_X11_multiplies (zΦv φ)) 3 [(0, .ref 203), (1, .ref v1), (2, .ref v2), (3, .int (zJ v3)), (4, .int (zJ v4))] [] 0 0 (zw μ)
abbrev at_X11_multiplies_15 (g : zG) (φ : zMu → Prop) (v1 : Nat) (v2 : Nat) (v3 : Int) (v4 : Int) (v5 : Int) (v6 : Int) (μ : zMu) : Prop := zWP g zm_X11_multiplies (zmo g zm_X11_multiplies (zΦv φ)) 15 [(0, .ref 203), (1, .ref v1), (2, .ref v2), (3, .int (zJ v3)), (4, .int (zJ v4)), (5, .int (zJ v5)), (6, .int (zJ v6))] [] 0 0 (zw μ)
theorem sg_X11_multiplies {g : zG} {φ : zMu → Prop} {v1 : Nat} {v2 : Nat} {v3 : Int} {μ : zMu}
    (h : at_X11_multiplies_3 g φ v1 v2 v3 0 μ) : zOv g zm_X11_multiplies [.ref 203, .ref v1, .ref v2, .int (zJ v3)] μ φ := by
  refine zok_of (by decide +kernel) rfl ?_
  show zWP g zm_X11_multiplies (zmo g zm_X11_multiplies (zΦv φ)) 0 [(0, .ref 203), (1, .ref v1), (2, .ref v2), (3, .int (zJ v3))] [] 0 0 (zw μ)
  refine zw_iconst (pc := 0) (n := 0) (by decide +kernel) ?_
  refine zw_istore (pc := 1) (i := 4) (lv' := [(0, .ref 203), (1, .ref v1), (2, .ref v2), (3, .int (zJ v3)), (4, .int (zJ 0))]) (by decide +kernel) (Nat.le_of_ble_eq_true rfl) rfl ?_
  exact h
theorem sg_X11_multiplies_3 {g : zG} {φ : zMu → Prop} {v1 : Nat} {v2 : Nat} {v3 : Int} {v4 : Int} {μ : zMu}
    (h : (zR v4) ∧ (zR v3) ∧ ((v3 ≤ v4 → φ μ) ∧ (v4 < v3 → at_X11_multiplies_15 g φ v1 v2 v3 v4 0 0 μ))) : at_X11_multiplies_3 g φ v1 v2 v3 v4 μ := by
  obtain ⟨o1, o2, h⟩ := h
  refine zw_iload (pc := 3) (i := 4) 4 (by decide +kernel) rfl ?_
  refine zw_iload_n (pc := 5) (n := 3) (i := 3) 3 (by decide +kernel) rfl rfl ?_
  refine zw_icmp_ge (pc := 6) (off := 59) (tgt := 65) (by decide +kernel) (by decide) o1 o2 (fun hc => ?_) (fun hc => ?_)
  · replace h := h.1 hc
    exact zw_vret (pc := 65) (by decide +kernel) rfl (Nat.le_refl _) (Nat.le_refl _) ⟨_, rfl, rfl, h⟩
  · replace h := h.2 hc
    refine zw_iconst (pc := 9) (n := 0) (by decide +kernel) ?_
    refine zw_istore (pc := 10) (i := 5) (lv' := [(0, .ref 203), (1, .ref v1), (2, .ref v2), (3, .int (zJ v3)), (4, .int (zJ v4)), (5, .int (zJ 0))]) (by decide +kernel) (Nat.le_of_ble_eq_true rfl) rfl ?_
    refine zw_iconst (pc := 12) (n := 0) (by decide +kernel) ?_
    refine zw_istore (pc := 13) (i := 6) (lv' := [(0, .ref 203), (1, .ref v1), (2, .ref v2), (3, .int (zJ v3)), (4, .int (zJ v4)), (5, .int (zJ 0)), (6, .int (zJ 0))]) (by decide +kernel) (Nat.le_of_ble_eq_true rfl) rfl ?_
    exact h
theorem sg_X11_multiplies_15 {g : zG} {φ : zMu → Prop} {v1 : Nat} {v2 : Nat} {v3 : Int} {v4 : Int} {v5 : Int} {v6 : Int} {μ : zMu}
    (h : (zR v6) ∧ (zR v4) ∧ ((v4 < v6 → (0 ≤ v4 ∧ v4 < 80) ∧ at_X11_multiplies_3 g φ v1 v2 v3 (v4 + 1) (zup μ 209 v4.toNat v5)) ∧ (v6 ≤ v4 → (zIx v1 v6) ∧ (zIx v2 (v4 - v6)) ∧ (zR (v5 + ((μ v1 v6.toNat) * (μ v2 (Int.toNat (v4 - v6)))))) ∧ (zR (μ 203 0)) ∧ ((μ 203 0) ≠ 0) ∧ at_X11_multiplies_15 g φ v1 v2 v3 v4 ((v5 + ((μ v1 v6.toNat) * (μ v2 (Int.toNat (v4 - v6))))).tmod (μ 203 0)) (v6 + 1) μ))) : at_X11_multiplies_15 g φ v1 v2 v3 v4 v5 v6 μ := by
  obtain ⟨o1, o2, h⟩ := h
  refine zw_iload (pc := 15) (i := 6) 6 (by decide +kernel) rfl ?_
  refine zw_iload (pc := 17) (i := 4) 4 (by decide +kernel) rfl ?_
  refine zw_icmp_gt (pc := 19) (off := 31) (tgt := 50) (by decide +kernel) (by decide) o1 o2 (fun hc => ?_) (fun hc => ?_)
  · replace h := h.1 hc
    obtain ⟨o3, h⟩ := h
    refine zw_aload_n (pc := 50) (n := 0) (i := 0) 0 (by decide +kernel) rfl rfl ?_
    refine zx_getR (pc := 51) (o := 6) (r := 209) zf_11_31 (by decide +kernel) rfl zc_203 rfl (by decide) rfl ?_
    refine zw_iload (pc := 54) (i := 4) 4 (by decide +kernel) rfl ?_
    refine zw_iload (pc := 56) (i := 5) 5 (by decide +kernel) rfl ?_
    refine zx_iastore (pc := 58) (by decide +kernel) ⟨80, zc_209, o3.1, o3.2⟩ ?_
    refine zw_iinc (pc := 59) (i := 4) (n := 1) (lv' := [(0, .ref 203), (1, .ref v1), (2, .ref v2), (3, .int (zJ v3)), (4, .int (zJ (v4 + 1))), (5, .int (zJ v5)), (6, .int (zJ v6))]) 4 (by decide +kernel) rfl rfl (Nat.le_of_ble_eq_true rfl) rfl ?_
    refine zw_goto (pc := 62) (off := (-59)) (tgt := 3) (by decide +kernel) (by decide) ?_
    exact zw_pick (lv' := [(0, .ref 203), (1, .ref v1), (2, .ref v2), (3, .int (zJ v3)), (4, .int (zJ (v4 + 1)))]) [0, 1, 2, 3, 4] rfl h
  · replace h := h.2 hc
    obtain ⟨o4, o5, o6, o7, o8, h⟩ := h
    refine zw_iload (pc := 22) (i := 5) 5 (by decide +kernel) rfl ?_
    refine zw_aload_n (pc := 24) (n := 1) (i := 1) 1 (by decide +kernel) rfl rfl ?_
    refine zw_iload (pc := 25) (i := 6) 6 (by decide +kernel) rfl ?_
    refine zx_iaload (pc := 27) (by decide +kernel) o4 ?_
    refine zw_aload_n (pc := 28) (n := 2) (i := 2) 2 (by decide +kernel) rfl rfl ?_
    refine zw_iload (pc := 29) (i := 4) 4 (by decide +kernel) rfl ?_
    refine zw_iload (pc := 31) (i := 6) 6 (by decide +kernel) rfl ?_
    refine zw_isub (pc := 33) (by decide +kernel) ?_
    refine zx_iaload (pc := 34) (by decide +kernel) o5 ?_
    refine zw_imul (pc := 35) (by decide +kernel) ?_
    refine zw_iadd (pc := 36) (by decide +kernel) ?_
    refine zw_aload_n (pc := 37) (n := 0) (i := 0) 0 (by decide +kernel) rfl rfl ?_
    refine zx_getI (pc := 38) zf_11_9 (by decide +kernel) rfl zc_203 ?_
    refine zw_irem (pc := 41) (by decide +kernel) o6 o7 o8 ?_
    refine zw_istore (pc := 42) (i := 5) (lv' := [(0, .ref 203), (1, .ref v1), (2, .ref v2), (3, .int (zJ v3)), (4, .int (zJ v4)), (5, .int (zJ ((v5 + ((μ v1 v6.toNat) * (μ v2 (Int.toNat (v4 - v6))))).tmod (μ 203 0)))), (6, .int (zJ v6))]) (by decide +kernel) (Nat.le_of_ble_eq_true rfl) rfl ?_
    refine zw_iinc (pc := 44) (i := 6) (n := 1) (lv' := [(0, .ref 203), (1, .ref v1), (2, .ref v2), (3, .int (zJ v3)), (4, .int (zJ v4)), (5, .int (zJ ((v5 + ((μ v1 v6.toNat) * (μ v2 (Int.toNat (v4 - v6))))).tmod (μ 203 0)))), (6, .int (zJ (v6 + 1)))]) 6 (by decide +kernel) rfl rfl (Nat.le_of_ble_eq_true rfl) rfl ?_
    refine zw_goto (pc := 47) (off := (-32)) (tgt := 15) (by decide +kernel) (by decide) ?_
    exact h
abbrev at_X11_lays_2 (g : zG) (φ : zMu → Prop) (v0 : Nat) (v1 : Int) (v2 : Nat) (v3 : Int) (μ : zMu) : Prop := zWP g zm_X11_lays (zmo g zm_X11_lays (zΦv φ)) 2 [(0, .ref v0), (1, .int (zJ v1)), (2, .ref v2), (3, .int (zJ v3))] [] 0 0 (zw μ)
theorem sg_X11_lays {g : zG} {φ : zMu → Prop} {v0 : Nat} {v1 : Int} {v2 : Nat} {μ : zMu}
    (h : at_X11_lays_2 g φ v0 v1 v2 0 μ) : zOv g zm_X11_lays [.ref v0, .int (zJ v1), .ref v2] μ φ := by
  refine zok_of (by decide +kernel) rfl ?_
  show zWP g zm_X11_lays (zmo g zm_X11_lays (zΦv φ)) 0 [(0, .ref v0), (1, .int (zJ v1)), (2, .ref v2)] [] 0 0 (zw μ)
  refine zw_iconst (pc := 0) (n := 0) (by decide +kernel) ?_
  refine zw_istore_n (pc := 1) (n := 3) (i := 3) (lv' := [(0, .ref v0), (1, .int (zJ v1)), (2, .ref v2), (3, .int (zJ 0))]) (by decide +kernel) rfl (Nat.le_of_ble_eq_true rfl) rfl ?_
  exact h
theorem sg_X11_lays_2 {g : zG} {φ : zMu → Prop} {v0 : Nat} {v1 : Int} {v2 : Nat} {v3 : Int} {μ : zMu}
    (h : (zR v3) ∧ ((80 ≤ v3 → φ μ) ∧ (v3 < 80 → (zIx v0 (v1 + v3)) ∧ (zIx v2 v3) ∧ at_X11_lays_2 g φ v0 v1 v2 (v3 + 1) (zup μ v2 v3.toNat (μ v0 (Int.toNat (v1 + v3))))))) : at_X11_lays_2 g φ v0 v1 v2 v3 μ := by
  obtain ⟨o1, h⟩ := h
  refine zw_iload_n (pc := 2) (n := 3) (i := 3) 3 (by decide +kernel) rfl rfl ?_
  refine zw_bipush (pc := 3) (n := 80) (by decide +kernel) (by decide +kernel) ?_
  refine zw_icmp_ge (pc := 5) (off := 17) (tgt := 22) (by decide +kernel) (by decide) o1 ⟨by decide, by decide⟩ (fun hc => ?_) (fun hc => ?_)
  · replace h := h.1 hc
    exact zw_vret (pc := 22) (by decide +kernel) rfl (Nat.le_refl _) (Nat.le_refl _) ⟨_, rfl, rfl, h⟩
  · replace h := h.2 hc
    obtain ⟨o2, o3, h⟩ := h
    refine zw_aload_n (pc := 8) (n := 2) (i := 2) 2 (by decide +kernel) rfl rfl ?_
    refine zw_iload_n (pc := 9) (n := 3) (i := 3) 3 (by decide +kernel) rfl rfl ?_
    refine zw_aload_n (pc := 10) (n := 0) (i := 0) 0 (by decide +kernel) rfl rfl ?_
    refine zw_iload_n (pc := 11) (n := 1) (i := 1) 1 (by decide +kernel) rfl rfl ?_
    refine zw_iload_n (pc := 12) (n := 3) (i := 3) 3 (by decide +kernel) rfl rfl ?_
    refine zw_iadd (pc := 13) (by decide +kernel) ?_
    refine zx_iaload (pc := 14) (by decide +kernel) o2 ?_
    refine zx_iastore (pc := 15) (by decide +kernel) o3 ?_
    refine zw_iinc (pc := 16) (i := 3) (n := 1) (lv' := [(0, .ref v0), (1, .int (zJ v1)), (2, .ref v2), (3, .int (zJ (v3 + 1)))]) 3 (by decide +kernel) rfl rfl (Nat.le_of_ble_eq_true rfl) rfl ?_
    refine zw_goto (pc := 19) (off := (-17)) (tgt := 2) (by decide +kernel) (by decide) ?_
    exact h
abbrev at_X11_divides_12 (g : zG) (φ : zMu → Prop) (v1 : Nat) (v2 : Nat) (v3 : Int) (v4 : Int) (v5 : Int) (μ : zMu) : Prop := zWP g zm_X11_divides (zmo g zm_X11_divides (zΦv φ)) 12 [(0, .ref 203), (1, .ref v1), (2, .ref v2), (3, .int (zJ v3)), (4, .int (zJ v4)), (5, .int (zJ v5))] [] 0 0 (zw μ)
abbrev at_X11_divides_27 (g : zG) (φ : zMu → Prop) (v1 : Nat) (v2 : Nat) (v3 : Int) (v4 : Int) (v5 : Int) (v6 : Int) (v7 : Int) (μ : zMu) : Prop := zWP g zm_X11_divides (zmo g zm_X11_divides (zΦv φ)) 27 [(0, .ref 203), (1, .ref v1), (2, .ref v2), (3, .int (zJ v3)), (4, .int (zJ v4)), (5, .int (zJ v5)), (6, .int (zJ v6)), (7, .int (zJ v7))] [] 0 0 (zw μ)
theorem sg_X11_divides {g : zG} {φ : zMu → Prop} {v1 : Nat} {v2 : Nat} {v3 : Int} {μ : zMu}
    (h : (zIx v2 0) ∧ zOi g zm_X11_inverse [.ref 203, .int (zJ (μ v2 0))] μ (fun x3 μ2 => at_X11_divides_12 g φ v1 v2 v3 x3 0 μ2)) : zOv g zm_X11_divides [.ref 203, .ref v1, .ref v2, .int (zJ v3)] μ φ := by
  refine zok_of (by decide +kernel) rfl ?_
  show zWP g zm_X11_divides (zmo g zm_X11_divides (zΦv φ)) 0 [(0, .ref 203), (1, .ref v1), (2, .ref v2), (3, .int (zJ v3))] [] 0 0 (zw μ)
  obtain ⟨o1, h⟩ := h
  refine zw_aload_n (pc := 0) (n := 0) (i := 0) 0 (by decide +kernel) rfl rfl ?_
  refine zw_aload_n (pc := 1) (n := 2) (i := 2) 2 (by decide +kernel) rfl rfl ?_
  refine zw_iconst (pc := 2) (n := 0) (by decide +kernel) ?_
  refine zx_iaload (pc := 3) (by decide +kernel) o1 ?_
  refine zx_callV (pc := 4) (As := [.int (zJ (μ v2 0))]) h zi_X11_inverse zii_X11_inverse zie_X11_inverse zl_11_137 (by decide +kernel) ⟨Nat.le_of_ble_eq_true rfl, Nat.le_of_ble_eq_true rfl⟩ rfl zc_203 (by decide) rfl rfl ⟨rfl, rfl⟩ ⟨Nat.zero_le _, Nat.zero_le _⟩ (zki (fun x3 μ2 h => ?_))
  refine zw_istore (pc := 7) (i := 4) (lv' := [(0, .ref 203), (1, .ref v1), (2, .ref v2), (3, .int (zJ v3)), (4, .int (zJ x3))]) (by decide +kernel) (Nat.le_of_ble_eq_true rfl) rfl ?_
  refine zw_iconst (pc := 9) (n := 0) (by decide +kernel) ?_
  refine zw_istore (pc := 10) (i := 5) (lv' := [(0, .ref 203), (1, .ref v1), (2, .ref v2), (3, .int (zJ v3)), (4, .int (zJ x3)), (5, .int (zJ 0))]) (by decide +kernel) (Nat.le_of_ble_eq_true rfl) rfl ?_
  exact h
theorem sg_X11_divides_12 {g : zG} {φ : zMu → Prop} {v1 : Nat} {v2 : Nat} {v3 : Int} {v4 : Int} {v5 : Int} {μ : zMu}
    (h : (zR v5) ∧ (zR v3) ∧ ((v3 ≤ v5 → φ μ) ∧ (v5 < v3 → (zIx v1 v5) ∧ at_X11_divides_27 g φ v1 v2 v3 v4 v5 (μ v1 v5.toNat) 1 μ))) : at_X11_divides_12 g φ v1 v2 v3 v4 v5 μ := by
  obtain ⟨o1, o2, h⟩ := h
  refine zw_iload (pc := 12) (i := 5) 5 (by decide +kernel) rfl ?_
  refine zw_iload_n (pc := 14) (n := 3) (i := 3) 3 (by decide +kernel) rfl rfl ?_
  refine zw_icmp_ge (pc := 15) (off := 83) (tgt := 98) (by decide +kernel) (by decide) o1 o2 (fun hc => ?_) (fun hc => ?_)
  · replace h := h.1 hc
    exact zw_vret (pc := 98) (by decide +kernel) rfl (Nat.le_refl _) (Nat.le_refl _) ⟨_, rfl, rfl, h⟩
  · replace h := h.2 hc
    obtain ⟨o3, h⟩ := h
    refine zw_aload_n (pc := 18) (n := 1) (i := 1) 1 (by decide +kernel) rfl rfl ?_
    refine zw_iload (pc := 19) (i := 5) 5 (by decide +kernel) rfl ?_
    refine zx_iaload (pc := 21) (by decide +kernel) o3 ?_
    refine zw_istore (pc := 22) (i := 6) (lv' := [(0, .ref 203), (1, .ref v1), (2, .ref v2), (3, .int (zJ v3)), (4, .int (zJ v4)), (5, .int (zJ v5)), (6, .int (zJ (μ v1 v5.toNat)))]) (by decide +kernel) (Nat.le_of_ble_eq_true rfl) rfl ?_
    refine zw_iconst (pc := 24) (n := 1) (by decide +kernel) ?_
    refine zw_istore (pc := 25) (i := 7) (lv' := [(0, .ref 203), (1, .ref v1), (2, .ref v2), (3, .int (zJ v3)), (4, .int (zJ v4)), (5, .int (zJ v5)), (6, .int (zJ (μ v1 v5.toNat))), (7, .int (zJ 1))]) (by decide +kernel) (Nat.le_of_ble_eq_true rfl) rfl ?_
    exact h
theorem sg_X11_divides_27 {g : zG} {φ : zMu → Prop} {v1 : Nat} {v2 : Nat} {v3 : Int} {v4 : Int} {v5 : Int} {v6 : Int} {v7 : Int} {μ : zMu}
    (h : (zR v7) ∧ (zR v5) ∧ ((v5 < v7 → (zR v6) ∧ (zR (μ 203 0)) ∧ ((μ 203 0) ≠ 0) ∧ (zR ((v6.tmod (μ 203 0)) * v4)) ∧ (0 ≤ v5 ∧ v5 < 80) ∧ at_X11_divides_12 g φ v1 v2 v3 v4 (v5 + 1) (zup μ 209 v5.toNat (((v6.tmod (μ 203 0)) * v4).tmod (μ 203 0)))) ∧ (v7 ≤ v5 → (zIx v2 v7) ∧ (0 ≤ (v5 - v7) ∧ (v5 - v7) < 80) ∧ (zR (v6 + (((μ 203 0) - (μ v2 v7.toNat)) * (μ 209 (Int.toNat (v5 - v7)))))) ∧ (zR (μ 203 0)) ∧ ((μ 203 0) ≠ 0) ∧ at_X11_divides_27 g φ v1 v2 v3 v4 v5 ((v6 + (((μ 203 0) - (μ v2 v7.toNat)) * (μ 209 (Int.toNat (v5 - v7))))).tmod (μ 203 0)) (v7 + 1) μ))) : at_X11_divides_27 g φ v1 v2 v3 v4 v5 v6 v7 μ := by
  obtain ⟨o1, o2, h⟩ := h
  refine zw_iload (pc := 27) (i := 7) 7 (by decide +kernel) rfl ?_
  refine zw_iload (pc := 29) (i := 5) 5 (by decide +kernel) rfl ?_
  refine zw_icmp_gt (pc := 31) (off := 39) (tgt := 70) (by decide +kernel) (by decide) o1 o2 (fun hc => ?_) (fun hc => ?_)
  · replace h := h.1 hc
    obtain ⟨o3, o4, o5, o6, o7, h⟩ := h
    refine zw_aload_n (pc := 70) (n := 0) (i := 0) 0 (by decide +kernel) rfl rfl ?_
    refine zx_getR (pc := 71) (o := 6) (r := 209) zf_11_31 (by decide +kernel) rfl zc_203 rfl (by decide) rfl ?_
    refine zw_iload (pc := 74) (i := 5) 5 (by decide +kernel) rfl ?_
    refine zw_iload (pc := 76) (i := 6) 6 (by decide +kernel) rfl ?_
    refine zw_aload_n (pc := 78) (n := 0) (i := 0) 0 (by decide +kernel) rfl rfl ?_
    refine zx_getI (pc := 79) zf_11_9 (by decide +kernel) rfl zc_203 ?_
    refine zw_irem (pc := 82) (by decide +kernel) o3 o4 o5 ?_
    refine zw_iload (pc := 83) (i := 4) 4 (by decide +kernel) rfl ?_
    refine zw_imul (pc := 85) (by decide +kernel) ?_
    refine zw_aload_n (pc := 86) (n := 0) (i := 0) 0 (by decide +kernel) rfl rfl ?_
    refine zx_getI (pc := 87) zf_11_9 (by decide +kernel) rfl zc_203 ?_
    refine zw_irem (pc := 90) (by decide +kernel) o6 o4 o5 ?_
    refine zx_iastore (pc := 91) (by decide +kernel) ⟨80, zc_209, o7.1, o7.2⟩ ?_
    refine zw_iinc (pc := 92) (i := 5) (n := 1) (lv' := [(0, .ref 203), (1, .ref v1), (2, .ref v2), (3, .int (zJ v3)), (4, .int (zJ v4)), (5, .int (zJ (v5 + 1))), (6, .int (zJ v6)), (7, .int (zJ v7))]) 5 (by decide +kernel) rfl rfl (Nat.le_of_ble_eq_true rfl) rfl ?_
    refine zw_goto (pc := 95) (off := (-83)) (tgt := 12) (by decide +kernel) (by decide) ?_
    exact zw_pick (lv' := [(0, .ref 203), (1, .ref v1), (2, .ref v2), (3, .int (zJ v3)), (4, .int (zJ v4)), (5, .int (zJ (v5 + 1)))]) [0, 1, 2, 3, 4, 5] rfl h
  · replace h := h.2 hc
    obtain ⟨o8, o9, o10, o11, o12, h⟩ := h
    refine zw_iload (pc := 34) (i := 6) 6 (by decide +kernel) rfl ?_
    refine zw_aload_n (pc := 36) (n := 0) (i := 0) 0 (by decide +kernel) rfl rfl ?_
    refine zx_getI (pc := 37) zf_11_9 (by decide +kernel) rfl zc_203 ?_
    refine zw_aload_n (pc := 40) (n := 2) (i := 2) 2 (by decide +kernel) rfl rfl ?_
    refine zw_iload (pc := 41) (i := 7) 7 (by decide +kernel) rfl ?_
    refine zx_iaload (pc := 43) (by decide +kernel) o8 ?_
    refine zw_isub (pc := 44) (by decide +kernel) ?_
    refine zw_aload_n (pc := 45) (n := 0) (i := 0) 0 (by decide +kernel) rfl rfl ?_
    refine zx_getR (pc := 46) (o := 6) (r := 209) zf_11_31 (by decide +kernel) rfl zc_203 rfl (by decide) rfl ?_
    refine zw_iload (pc := 49) (i := 5) 5 (by decide +kernel) rfl ?_
    refine zw_iload (pc := 51) (i := 7) 7 (by decide +kernel) rfl ?_
    refine zw_isub (pc := 53) (by decide +kernel) ?_
    refine zx_iaload (pc := 54) (by decide +kernel) ⟨80, zc_209, o9.1, o9.2⟩ ?_
    refine zw_imul (pc := 55) (by decide +kernel) ?_
    refine zw_iadd (pc := 56) (by decide +kernel) ?_
    refine zw_aload_n (pc := 57) (n := 0) (i := 0) 0 (by decide +kernel) rfl rfl ?_
    refine zx_getI (pc := 58) zf_11_9 (by decide +kernel) rfl zc_203 ?_
    refine zw_irem (pc := 61) (by decide +kernel) o10 o11 o12 ?_
    refine zw_istore (pc := 62) (i := 6) (lv' := [(0, .ref 203), (1, .ref v1), (2, .ref v2), (3, .int (zJ v3)), (4, .int (zJ v4)), (5, .int (zJ v5)), (6, .int (zJ ((v6 + (((μ 203 0) - (μ v2 v7.toNat)) * (μ 209 (Int.toNat (v5 - v7))))).tmod (μ 203 0)))), (7, .int (zJ v7))]) (by decide +kernel) (Nat.le_of_ble_eq_true rfl) rfl ?_
    refine zw_iinc (pc := 64) (i := 7) (n := 1) (lv' := [(0, .ref 203), (1, .ref v1), (2, .ref v2), (3, .int (zJ v3)), (4, .int (zJ v4)), (5, .int (zJ v5)), (6, .int (zJ ((v6 + (((μ 203 0) - (μ v2 v7.toNat)) * (μ 209 (Int.toNat (v5 - v7))))).tmod (μ 203 0)))), (7, .int (zJ (v7 + 1)))]) 7 (by decide +kernel) rfl rfl (Nat.le_of_ble_eq_true rfl) rfl ?_
    refine zw_goto (pc := 67) (off := (-40)) (tgt := 27) (by decide +kernel) (by decide) ?_
    exact h
abbrev at_X11_inverse_2 (g : zG) (φ : Int → zMu → Prop) (v1 : Int) (v2 : Int) (μ : zMu) : Prop := zWP g zm_X11_inverse (zmo g zm_X11_inverse (zΦi φ)) 2 [(0, .ref 203), (1, .int (zJ v1)), (2, .int (zJ v2))] [] 0 0 (zw μ)
theorem sg_X11_inverse {g : zG} {φ : Int → zMu → Prop} {v1 : Int} {μ : zMu}
    (h : at_X11_inverse_2 g φ v1 1 μ) : zOi g zm_X11_inverse [.ref 203, .int (zJ v1)] μ φ := by
  refine zok_of (by decide +kernel) rfl ?_
  show zWP g zm_X11_inverse (zmo g zm_X11_inverse (zΦi φ)) 0 [(0, .ref 203), (1, .int (zJ v1))] [] 0 0 (zw μ)
  refine zw_iconst (pc := 0) (n := 1) (by decide +kernel) ?_
  refine zw_istore_n (pc := 1) (n := 2) (i := 2) (lv' := [(0, .ref 203), (1, .int (zJ v1)), (2, .int (zJ 1))]) (by decide +kernel) rfl (Nat.le_of_ble_eq_true rfl) rfl ?_
  exact h
theorem sg_X11_inverse_2 {g : zG} {φ : Int → zMu → Prop} {v1 : Int} {v2 : Int} {μ : zMu}
    (h : (zR (v1 * v2)) ∧ (zR (μ 203 0)) ∧ ((μ 203 0) ≠ 0) ∧ (zR ((v1 * v2).tmod (μ 203 0))) ∧ ((((v1 * v2).tmod (μ 203 0)) = 1 → φ v2 μ) ∧ (¬ ((v1 * v2).tmod (μ 203 0)) = 1 → at_X11_inverse_2 g φ v1 (v2 + 1) μ))) : at_X11_inverse_2 g φ v1 v2 μ := by
  obtain ⟨o1, o2, o3, o4, h⟩ := h
  refine zw_iload_n (pc := 2) (n := 1) (i := 1) 1 (by decide +kernel) rfl rfl ?_
  refine zw_iload_n (pc := 3) (n := 2) (i := 2) 2 (by decide +kernel) rfl rfl ?_
  refine zw_imul (pc := 4) (by decide +kernel) ?_
  refine zw_aload_n (pc := 5) (n := 0) (i := 0) 0 (by decide +kernel) rfl rfl ?_
  refine zx_getI (pc := 6) zf_11_9 (by decide +kernel) rfl zc_203 ?_
  refine zw_irem (pc := 9) (by decide +kernel) o1 o2 o3 ?_
  refine zw_iconst (pc := 10) (n := 1) (by decide +kernel) ?_
  refine zw_icmp_eq (pc := 11) (off := 9) (tgt := 20) (by decide +kernel) (by decide) o4 ⟨by decide, by decide⟩ (fun hc => ?_) (fun hc => ?_)
  · replace h := h.1 hc
    refine zw_iload_n (pc := 20) (n := 2) (i := 2) 2 (by decide +kernel) rfl rfl ?_
    exact zw_iret (pc := 21) (by decide +kernel) rfl (Nat.le_refl _) (Nat.le_refl _) ⟨_, _, rfl, rfl, h⟩
  · replace h := h.2 hc
    refine zw_iinc (pc := 14) (i := 2) (n := 1) (lv' := [(0, .ref 203), (1, .int (zJ v1)), (2, .int (zJ (v2 + 1)))]) 2 (by decide +kernel) rfl rfl (Nat.le_of_ble_eq_true rfl) rfl ?_
    refine zw_goto (pc := 17) (off := (-15)) (tgt := 2) (by decide +kernel) (by decide) ?_
    exact h
abbrev at_X11_becomes_22 (g : zG) (φ : Int → zMu → Prop) (v1 : Int) (v2 : Int) (μ : zMu) : Prop := zWP g zm_X11_becomes (zmo g zm_X11_becomes (zΦi φ)) 22 [(0, .ref 203), (1, .int (zJ v1)), (2, .int (zJ v2))] [] 0 0 (zw μ)
theorem sg_X11_becomes {g : zG} {φ : Int → zMu → Prop} {v1 : Int} {μ : zMu}
    (h : (0 ≤ v1 ∧ v1 < 6) ∧ at_X11_becomes_22 g φ v1 0 (zup (zup μ 204 v1.toNat (μ 203 7)) 205 v1.toNat ((zup μ 204 v1.toNat (μ 203 7)) 203 8))) : zOi g zm_X11_becomes [.ref 203, .int (zJ v1)] μ φ := by
  refine zok_of (by decide +kernel) rfl ?_
  show zWP g zm_X11_becomes (zmo g zm_X11_becomes (zΦi φ)) 0 [(0, .ref 203), (1, .int (zJ v1))] [] 0 0 (zw μ)
  obtain ⟨o1, h⟩ := h
  refine zw_aload_n (pc := 0) (n := 0) (i := 0) 0 (by decide +kernel) rfl rfl ?_
  refine zx_getR (pc := 1) (o := 1) (r := 204) zf_11_15 (by decide +kernel) rfl zc_203 rfl (by decide) rfl ?_
  refine zw_iload_n (pc := 4) (n := 1) (i := 1) 1 (by decide +kernel) rfl rfl ?_
  refine zw_aload_n (pc := 5) (n := 0) (i := 0) 0 (by decide +kernel) rfl rfl ?_
  refine zx_getI (pc := 6) zf_11_131 (by decide +kernel) rfl zc_203 ?_
  refine zx_iastore (pc := 9) (by decide +kernel) ⟨6, zc_204, o1.1, o1.2⟩ ?_
  refine zw_aload_n (pc := 10) (n := 0) (i := 0) 0 (by decide +kernel) rfl rfl ?_
  refine zx_getR (pc := 11) (o := 2) (r := 205) zf_11_19 (by decide +kernel) rfl zc_203 rfl (by decide) rfl ?_
  refine zw_iload_n (pc := 14) (n := 1) (i := 1) 1 (by decide +kernel) rfl rfl ?_
  refine zw_aload_n (pc := 15) (n := 0) (i := 0) 0 (by decide +kernel) rfl rfl ?_
  refine zx_getI (pc := 16) zf_11_134 (by decide +kernel) rfl zc_203 ?_
  refine zx_iastore (pc := 19) (by decide +kernel) ⟨6, zc_205, o1.1, o1.2⟩ ?_
  refine zw_iconst (pc := 20) (n := 0) (by decide +kernel) ?_
  refine zw_istore_n (pc := 21) (n := 2) (i := 2) (lv' := [(0, .ref 203), (1, .int (zJ v1)), (2, .int (zJ 0))]) (by decide +kernel) rfl (Nat.le_of_ble_eq_true rfl) rfl ?_
  exact h
theorem sg_X11_becomes_22 {g : zG} {φ : Int → zMu → Prop} {v1 : Int} {v2 : Int} {μ : zMu}
    (h : (zR v2) ∧ ((80 ≤ v2 → φ (μ 203 8) μ) ∧ (v2 < 80 → (zR (μ 203 8)) ∧ (((μ 203 8) ≤ v2 → (0 ≤ ((80 * v1) + v2) ∧ ((80 * v1) + v2) < 480) ∧ at_X11_becomes_22 g φ v1 (v2 + 1) (zup μ 206 (Int.toNat ((80 * v1) + v2)) 0)) ∧ (v2 < (μ 203 8) → (0 ≤ v2 ∧ v2 < 80) ∧ (0 ≤ ((80 * v1) + v2) ∧ ((80 * v1) + v2) < 480) ∧ at_X11_becomes_22 g φ v1 (v2 + 1) (zup μ 206 (Int.toNat ((80 * v1) + v2)) (μ 209 v2.toNat))))))) : at_X11_becomes_22 g φ v1 v2 μ := by
  obtain ⟨o1, h⟩ := h
  refine zw_iload_n (pc := 22) (n := 2) (i := 2) 2 (by decide +kernel) rfl rfl ?_
  refine zw_bipush (pc := 23) (n := 80) (by decide +kernel) (by decide +kernel) ?_
  refine zw_icmp_ge (pc := 25) (off := 38) (tgt := 63) (by decide +kernel) (by decide) o1 ⟨by decide, by decide⟩ (fun hc => ?_) (fun hc => ?_)
  · replace h := h.1 hc
    refine zw_aload_n (pc := 63) (n := 0) (i := 0) 0 (by decide +kernel) rfl rfl ?_
    refine zx_getI (pc := 64) zf_11_134 (by decide +kernel) rfl zc_203 ?_
    exact zw_iret (pc := 67) (by decide +kernel) rfl (Nat.le_refl _) (Nat.le_refl _) ⟨_, _, rfl, rfl, h⟩
  · replace h := h.2 hc
    obtain ⟨o2, h⟩ := h
    refine zw_aload_n (pc := 28) (n := 0) (i := 0) 0 (by decide +kernel) rfl rfl ?_
    refine zx_getR (pc := 29) (o := 3) (r := 206) zf_11_22 (by decide +kernel) rfl zc_203 rfl (by decide) rfl ?_
    refine zw_bipush (pc := 32) (n := 80) (by decide +kernel) (by decide +kernel) ?_
    refine zw_iload_n (pc := 34) (n := 1) (i := 1) 1 (by decide +kernel) rfl rfl ?_
    refine zw_imul (pc := 35) (by decide +kernel) ?_
    refine zw_iload_n (pc := 36) (n := 2) (i := 2) 2 (by decide +kernel) rfl rfl ?_
    refine zw_iadd (pc := 37) (by decide +kernel) ?_
    refine zw_iload_n (pc := 38) (n := 2) (i := 2) 2 (by decide +kernel) rfl rfl ?_
    refine zw_aload_n (pc := 39) (n := 0) (i := 0) 0 (by decide +kernel) rfl rfl ?_
    refine zx_getI (pc := 40) zf_11_134 (by decide +kernel) rfl zc_203 ?_
    refine zw_icmp_ge (pc := 43) (off := 12) (tgt := 55) (by decide +kernel) (by decide) o1 o2 (fun hc => ?_) (fun hc => ?_)
    · replace h := h.1 hc
      obtain ⟨o3, h⟩ := h
      refine zw_iconst (pc := 55) (n := 0) (by decide +kernel) ?_
      refine zx_iastore (pc := 56) (by decide +kernel) ⟨480, zc_206, o3.1, o3.2⟩ ?_
      refine zw_iinc (pc := 57) (i := 2) (n := 1) (lv' := [(0, .ref 203), (1, .int (zJ v1)), (2, .int (zJ (v2 + 1)))]) 2 (by decide +kernel) rfl rfl (Nat.le_of_ble_eq_true rfl) rfl ?_
      refine zw_goto (pc := 60) (off := (-38)) (tgt := 22) (by decide +kernel) (by decide) ?_
      exact h
    · replace h := h.2 hc
      obtain ⟨o4, o5, h⟩ := h
      refine zw_aload_n (pc := 46) (n := 0) (i := 0) 0 (by decide +kernel) rfl rfl ?_
      refine zx_getR (pc := 47) (o := 6) (r := 209) zf_11_31 (by decide +kernel) rfl zc_203 rfl (by decide) rfl ?_
      refine zw_iload_n (pc := 50) (n := 2) (i := 2) 2 (by decide +kernel) rfl rfl ?_
      refine zx_iaload (pc := 51) (by decide +kernel) ⟨80, zc_209, o4.1, o4.2⟩ ?_
      refine zw_goto (pc := 52) (off := 4) (tgt := 56) (by decide +kernel) (by decide) ?_
      refine zx_iastore (pc := 56) (by decide +kernel) ⟨480, zc_206, o5.1, o5.2⟩ ?_
      refine zw_iinc (pc := 57) (i := 2) (n := 1) (lv' := [(0, .ref 203), (1, .int (zJ v1)), (2, .int (zJ (v2 + 1)))]) 2 (by decide +kernel) rfl rfl (Nat.le_of_ble_eq_true rfl) rfl ?_
      refine zw_goto (pc := 60) (off := (-38)) (tgt := 22) (by decide +kernel) (by decide) ?_
      exact h
abbrev at_X11_sum_117 (g : zG) (φ : Int → zMu → Prop) (v1 : Int) (v2 : Int) (v3 : Int) (v4 : Int) (v6 : Int) (μ : zMu) : Prop := zWP g zm_X11_sum (zmo g zm_X11_sum (zΦi φ)) 117 [(0, .ref 203), (1, .int (zJ v1)), (2, .int (zJ v2)), (3, .int (zJ v3)), (4, .int (zJ v4)), (6, .int (zJ v6))] [] 0 0 (zw μ)
theorem sg_X11_sum {g : zG} {φ : Int → zMu → Prop} {v1 : Int} {v2 : Int} {v3 : Int} {μ : zMu}
    (h : zOi g zm_X11_isSeries [.int (zJ v1)] μ (fun x2 μ1 => (zR x2) ∧ ((x2 = 0 → φ (-1) μ1) ∧ (¬ x2 = 0 → zOi g zm_X11_isSeries [.int (zJ v2)] μ1 (fun x5 μ4 => (zR x5) ∧ ((x5 = 0 → φ (-1) μ4) ∧ (¬ x5 = 0 → zOi g zm_X11_isSeries [.int (zJ v3)] μ4 (fun x8 μ7 => (zR x8) ∧ ((¬ x8 = 0 → zOi g zm_X11_isThere [.ref 203, .int (zJ v1)] μ7 (fun x11 μ10 => (zR x11) ∧ ((x11 = 0 → φ (-11) μ10) ∧ (¬ x11 = 0 → zOi g zm_X11_isThere [.ref 203, .int (zJ v2)] μ10 (fun x14 μ13 => (zR x14) ∧ ((¬ x14 = 0 → (0 ≤ v1 ∧ v1 < 6) ∧ (0 ≤ v2 ∧ v2 < 6) ∧ (zR (μ13 204 v1.toNat)) ∧ (zR (μ13 204 v2.toNat)) ∧ (zR ((μ13 204 v1.toNat) + (μ13 205 v1.toNat))) ∧ (zR ((μ13 204 v2.toNat) + (μ13 205 v2.toNat))) ∧ (zR ((((min ((μ13 204 v1.toNat) + (μ13 205 v1.toNat)) ((μ13 204 v2.toNat) + (μ13 205 v2.toNat))) - 1) - (min (μ13 204 v1.toNat) (μ13 204 v2.toNat))) + 1)) ∧ at_X11_sum_117 g φ v1 v2 v3 (min (μ13 204 v1.toNat) (μ13 204 v2.toNat)) 0 (zup (zup μ13 203 7 (min (μ13 204 v1.toNat) (μ13 204 v2.toNat))) 203 8 (min 80 ((((min ((μ13 204 v1.toNat) + (μ13 205 v1.toNat)) ((μ13 204 v2.toNat) + (μ13 205 v2.toNat))) - 1) - (min (μ13 204 v1.toNat) (μ13 204 v2.toNat))) + 1)))) ∧ (x14 = 0 → φ (-11) μ13))))))) ∧ (x8 = 0 → φ (-1) μ7)))))))))) : zOi g zm_X11_sum [.ref 203, .int (zJ v1), .int (zJ v2), .int (zJ v3)] μ φ := by
  refine zok_of (by decide +kernel) rfl ?_
  show zWP g zm_X11_sum (zmo g zm_X11_sum (zΦi φ)) 0 [(0, .ref 203), (1, .int (zJ v1)), (2, .int (zJ v2)), (3, .int (zJ v3))] [] 0 0 (zw μ)
  refine zw_iload_n (pc := 0) (n := 1) (i := 1) 1 (by decide +kernel) rfl rfl ?_
  refine zx_callS (pc := 1) (As := [.int (zJ v1)]) h zi_X11_isSeries zis_X11_isSeries zl_11_141 (by decide +kernel) ⟨Nat.le_of_ble_eq_true rfl, Nat.le_of_ble_eq_true rfl⟩ rfl rfl ⟨rfl, rfl⟩ ⟨Nat.zero_le _, Nat.zero_le _⟩ (zki (fun x2 μ1 h => ?_))
  obtain ⟨o3, h⟩ := h
  refine zw_if_eq (pc := 4) (off := 17) (tgt := 21) (by decide +kernel) (by decide) o3 (fun hc => ?_) (fun hc => ?_)
  · replace h := h.1 hc
    refine zw_iconst (pc := 21) (n := (-1)) (by decide +kernel) ?_
    exact zw_iret (pc := 22) (by decide +kernel) rfl (Nat.le_refl _) (Nat.le_refl _) ⟨_, _, rfl, rfl, h⟩
  · replace h := h.2 hc
    refine zw_iload_n (pc := 7) (n := 2) (i := 2) 2 (by decide +kernel) rfl rfl ?_
    refine zx_callS (pc := 8) (As := [.int (zJ v2)]) h zi_X11_isSeries zis_X11_isSeries zl_11_141 (by decide +kernel) ⟨Nat.le_of_ble_eq_true rfl, Nat.le_of_ble_eq_true rfl⟩ rfl rfl ⟨rfl, rfl⟩ ⟨Nat.zero_le _, Nat.zero_le _⟩ (zki (fun x5 μ4 h => ?_))
    obtain ⟨o6, h⟩ := h
    refine zw_if_eq (pc := 11) (off := 10) (tgt := 21) (by decide +kernel) (by decide) o6 (fun hc => ?_) (fun hc => ?_)
    · replace h := h.1 hc
      refine zw_iconst (pc := 21) (n := (-1)) (by decide +kernel) ?_
      exact zw_iret (pc := 22) (by decide +kernel) rfl (Nat.le_refl _) (Nat.le_refl _) ⟨_, _, rfl, rfl, h⟩
    · replace h := h.2 hc
      refine zw_iload_n (pc := 14) (n := 3) (i := 3) 3 (by decide +kernel) rfl rfl ?_
      refine zx_callS (pc := 15) (As := [.int (zJ v3)]) h zi_X11_isSeries zis_X11_isSeries zl_11_141 (by decide +kernel) ⟨Nat.le_of_ble_eq_true rfl, Nat.le_of_ble_eq_true rfl⟩ rfl rfl ⟨rfl, rfl⟩ ⟨Nat.zero_le _, Nat.zero_le _⟩ (zki (fun x8 μ7 h => ?_))
      obtain ⟨o9, h⟩ := h
      refine zw_if_ne (pc := 18) (off := 5) (tgt := 23) (by decide +kernel) (by decide) o9 (fun hc => ?_) (fun hc => ?_)
      · replace h := h.1 hc
        refine zw_aload_n (pc := 23) (n := 0) (i := 0) 0 (by decide +kernel) rfl rfl ?_
        refine zw_iload_n (pc := 24) (n := 1) (i := 1) 1 (by decide +kernel) rfl rfl ?_
        refine zx_callV (pc := 25) (As := [.int (zJ v1)]) h zi_X11_isThere zii_X11_isThere zie_X11_isThere zl_11_166 (by decide +kernel) ⟨Nat.le_of_ble_eq_true rfl, Nat.le_of_ble_eq_true rfl⟩ rfl zc_203 (by decide) rfl rfl ⟨rfl, rfl⟩ ⟨Nat.zero_le _, Nat.zero_le _⟩ (zki (fun x11 μ10 h => ?_))
        obtain ⟨o12, h⟩ := h
        refine zw_if_eq (pc := 28) (off := 11) (tgt := 39) (by decide +kernel) (by decide) o12 (fun hc => ?_) (fun hc => ?_)
        · replace h := h.1 hc
          refine zw_bipush (pc := 39) (n := (-11)) (by decide +kernel) (by decide +kernel) ?_
          exact zw_iret (pc := 41) (by decide +kernel) rfl (Nat.le_refl _) (Nat.le_refl _) ⟨_, _, rfl, rfl, h⟩
        · replace h := h.2 hc
          refine zw_aload_n (pc := 31) (n := 0) (i := 0) 0 (by decide +kernel) rfl rfl ?_
          refine zw_iload_n (pc := 32) (n := 2) (i := 2) 2 (by decide +kernel) rfl rfl ?_
          refine zx_callV (pc := 33) (As := [.int (zJ v2)]) h zi_X11_isThere zii_X11_isThere zie_X11_isThere zl_11_166 (by decide +kernel) ⟨Nat.le_of_ble_eq_true rfl, Nat.le_of_ble_eq_true rfl⟩ rfl zc_203 (by decide) rfl rfl ⟨rfl, rfl⟩ ⟨Nat.zero_le _, Nat.zero_le _⟩ (zki (fun x14 μ13 h => ?_))
          obtain ⟨o15, h⟩ := h
          refine zw_if_ne (pc := 36) (off := 6) (tgt := 42) (by decide +kernel) (by decide) o15 (fun hc => ?_) (fun hc => ?_)
          · replace h := h.1 hc
            obtain ⟨o16, o17, o18, o19, o20, o21, o22, h⟩ := h
            refine zw_aload_n (pc := 42) (n := 0) (i := 0) 0 (by decide +kernel) rfl rfl ?_
            refine zx_getR (pc := 43) (o := 1) (r := 204) zf_11_15 (by decide +kernel) rfl zc_203 rfl (by decide) rfl ?_
            refine zw_iload_n (pc := 46) (n := 1) (i := 1) 1 (by decide +kernel) rfl rfl ?_
            refine zx_iaload (pc := 47) (by decide +kernel) ⟨6, zc_204, o16.1, o16.2⟩ ?_
            refine zw_aload_n (pc := 48) (n := 0) (i := 0) 0 (by decide +kernel) rfl rfl ?_
            refine zx_getR (pc := 49) (o := 1) (r := 204) zf_11_15 (by decide +kernel) rfl zc_203 rfl (by decide) rfl ?_
            refine zw_iload_n (pc := 52) (n := 2) (i := 2) 2 (by decide +kernel) rfl rfl ?_
            refine zx_iaload (pc := 53) (by decide +kernel) ⟨6, zc_204, o17.1, o17.2⟩ ?_
            refine zw_min (pc := 54) zl_11_169 zb_minS zb_mathI zb_minC (by decide +kernel) ⟨Nat.le_of_ble_eq_true rfl, Nat.le_of_ble_eq_true rfl⟩ (Nat.zero_le _) (Nat.zero_le _) rfl o18 o19 ?_
            refine zw_istore (pc := 57) (i := 4) (lv' := [(0, .ref 203), (1, .int (zJ v1)), (2, .int (zJ v2)), (3, .int (zJ v3)), (4, .int (zJ (min (μ13 204 v1.toNat) (μ13 204 v2.toNat))))]) (by decide +kernel) (Nat.le_of_ble_eq_true rfl) rfl ?_
            refine zw_aload_n (pc := 59) (n := 0) (i := 0) 0 (by decide +kernel) rfl rfl ?_
            refine zx_getR (pc := 60) (o := 1) (r := 204) zf_11_15 (by decide +kernel) rfl zc_203 rfl (by decide) rfl ?_
            refine zw_iload_n (pc := 63) (n := 1) (i := 1) 1 (by decide +kernel) rfl rfl ?_
            refine zx_iaload (pc := 64) (by decide +kernel) ⟨6, zc_204, o16.1, o16.2⟩ ?_
            refine zw_aload_n (pc := 65) (n := 0) (i := 0) 0 (by decide +kernel) rfl rfl ?_
            refine zx_getR (pc := 66) (o := 2) (r := 205) zf_11_19 (by decide +kernel) rfl zc_203 rfl (by decide) rfl ?_
            refine zw_iload_n (pc := 69) (n := 1) (i := 1) 1 (by decide +kernel) rfl rfl ?_
            refine zx_iaload (pc := 70) (by decide +kernel) ⟨6, zc_205, o16.1, o16.2⟩ ?_
            refine zw_iadd (pc := 71) (by decide +kernel) ?_
            refine zw_aload_n (pc := 72) (n := 0) (i := 0) 0 (by decide +kernel) rfl rfl ?_
            refine zx_getR (pc := 73) (o := 1) (r := 204) zf_11_15 (by decide +kernel) rfl zc_203 rfl (by decide) rfl ?_
            refine zw_iload_n (pc := 76) (n := 2) (i := 2) 2 (by decide +kernel) rfl rfl ?_
            refine zx_iaload (pc := 77) (by decide +kernel) ⟨6, zc_204, o17.1, o17.2⟩ ?_
            refine zw_aload_n (pc := 78) (n := 0) (i := 0) 0 (by decide +kernel) rfl rfl ?_
            refine zx_getR (pc := 79) (o := 2) (r := 205) zf_11_19 (by decide +kernel) rfl zc_203 rfl (by decide) rfl ?_
            refine zw_iload_n (pc := 82) (n := 2) (i := 2) 2 (by decide +kernel) rfl rfl ?_
            refine zx_iaload (pc := 83) (by decide +kernel) ⟨6, zc_205, o17.1, o17.2⟩ ?_
            refine zw_iadd (pc := 84) (by decide +kernel) ?_
            refine zw_min (pc := 85) zl_11_169 zb_minS zb_mathI zb_minC (by decide +kernel) ⟨Nat.le_of_ble_eq_true rfl, Nat.le_of_ble_eq_true rfl⟩ (Nat.zero_le _) (Nat.zero_le _) rfl o20 o21 ?_
            refine zw_iconst (pc := 88) (n := 1) (by decide +kernel) ?_
            refine zw_isub (pc := 89) (by decide +kernel) ?_
            refine zw_istore (pc := 90) (i := 5) (lv' := [(0, .ref 203), (1, .int (zJ v1)), (2, .int (zJ v2)), (3, .int (zJ v3)), (4, .int (zJ (min (μ13 204 v1.toNat) (μ13 204 v2.toNat)))), (5, .int (zJ ((min ((μ13 204 v1.toNat) + (μ13 205 v1.toNat)) ((μ13 204 v2.toNat) + (μ13 205 v2.toNat))) - 1)))]) (by decide +kernel) (Nat.le_of_ble_eq_true rfl) rfl ?_
            refine zw_aload_n (pc := 92) (n := 0) (i := 0) 0 (by decide +kernel) rfl rfl ?_
            refine zw_iload (pc := 93) (i := 4) 4 (by decide +kernel) rfl ?_
            refine zx_putI (pc := 95) zf_11_131 (by decide +kernel) rfl zc_203 ?_
            refine zw_aload_n (pc := 98) (n := 0) (i := 0) 0 (by decide +kernel) rfl rfl ?_
            refine zw_bipush (pc := 99) (n := 80) (by decide +kernel) (by decide +kernel) ?_
            refine zw_iload (pc := 101) (i := 5) 5 (by decide +kernel) rfl ?_
            refine zw_iload (pc := 103) (i := 4) 4 (by decide +kernel) rfl ?_
            refine zw_isub (pc := 105) (by decide +kernel) ?_
            refine zw_iconst (pc := 106) (n := 1) (by decide +kernel) ?_
            refine zw_iadd (pc := 107) (by decide +kernel) ?_
            refine zw_min (pc := 108) zl_11_169 zb_minS zb_mathI zb_minC (by decide +kernel) ⟨Nat.le_of_ble_eq_true rfl, Nat.le_of_ble_eq_true rfl⟩ (Nat.zero_le _) (Nat.zero_le _) rfl ⟨by decide, by decide⟩ o22 ?_
            refine zx_putI (pc := 111) zf_11_134 (by decide +kernel) rfl zc_203 ?_
            refine zw_iconst (pc := 114) (n := 0) (by decide +kernel) ?_
            refine zw_istore (pc := 115) (i := 6) (lv' := [(0, .ref 203), (1, .int (zJ v1)), (2, .int (zJ v2)), (3, .int (zJ v3)), (4, .int (zJ (min (μ13 204 v1.toNat) (μ13 204 v2.toNat)))), (5, .int (zJ ((min ((μ13 204 v1.toNat) + (μ13 205 v1.toNat)) ((μ13 204 v2.toNat) + (μ13 205 v2.toNat))) - 1))), (6, .int (zJ 0))]) (by decide +kernel) (Nat.le_of_ble_eq_true rfl) rfl ?_
            exact zw_pick (lv' := [(0, .ref 203), (1, .int (zJ v1)), (2, .int (zJ v2)), (3, .int (zJ v3)), (4, .int (zJ (min (μ13 204 v1.toNat) (μ13 204 v2.toNat)))), (6, .int (zJ 0))]) [0, 1, 2, 3, 4, 6] rfl h
          · replace h := h.2 hc
            refine zw_bipush (pc := 39) (n := (-11)) (by decide +kernel) (by decide +kernel) ?_
            exact zw_iret (pc := 41) (by decide +kernel) rfl (Nat.le_refl _) (Nat.le_refl _) ⟨_, _, rfl, rfl, h⟩
      · replace h := h.2 hc
        refine zw_iconst (pc := 21) (n := (-1)) (by decide +kernel) ?_
        exact zw_iret (pc := 22) (by decide +kernel) rfl (Nat.le_refl _) (Nat.le_refl _) ⟨_, _, rfl, rfl, h⟩
theorem sg_X11_sum_117 {g : zG} {φ : Int → zMu → Prop} {v1 : Int} {v2 : Int} {v3 : Int} {v4 : Int} {v6 : Int} {μ : zMu}
    (h : (zR v6) ∧ (zR (μ 203 8)) ∧ (((μ 203 8) ≤ v6 → zOi g zm_X11_becomes [.ref 203, .int (zJ v3)] μ (fun x4 μ3 => φ x4 μ3)) ∧ (v6 < (μ 203 8) → zOi g zm_X11_numberOf [.ref 203, .int (zJ v1), .int (zJ (v4 + v6))] μ (fun x6 μ5 => zOi g zm_X11_numberOf [.ref 203, .int (zJ v2), .int (zJ (v4 + v6))] μ5 (fun x8 μ7 => (zR (x6 + x8)) ∧ (zR (μ7 203 0)) ∧ ((μ7 203 0) ≠ 0) ∧ (0 ≤ v6 ∧ v6 < 80) ∧ at_X11_sum_117 g φ v1 v2 v3 v4 (v6 + 1) (zup μ7 209 v6.toNat ((x6 + x8).tmod (μ7 203 0)))))))) : at_X11_sum_117 g φ v1 v2 v3 v4 v6 μ := by
  obtain ⟨o1, o2, h⟩ := h
  refine zw_iload (pc := 117) (i := 6) 5 (by decide +kernel) rfl ?_
  refine zw_aload_n (pc := 119) (n := 0) (i := 0) 0 (by decide +kernel) rfl rfl ?_
  refine zx_getI (pc := 120) zf_11_134 (by decide +kernel) rfl zc_203 ?_
  refine zw_icmp_ge (pc := 123) (off := 42) (tgt := 165) (by decide +kernel) (by decide) o1 o2 (fun hc => ?_) (fun hc => ?_)
  · replace h := h.1 hc
    refine zw_aload_n (pc := 165) (n := 0) (i := 0) 0 (by decide +kernel) rfl rfl ?_
    refine zw_iload_n (pc := 166) (n := 3) (i := 3) 3 (by decide +kernel) rfl rfl ?_
    refine zx_callV (pc := 167) (As := [.int (zJ v3)]) h zi_X11_becomes zii_X11_becomes zie_X11_becomes zl_11_163 (by decide +kernel) ⟨Nat.le_of_ble_eq_true rfl, Nat.le_of_ble_eq_true rfl⟩ rfl zc_203 (by decide) rfl rfl ⟨rfl, rfl⟩ ⟨Nat.zero_le _, Nat.zero_le _⟩ (zki (fun x4 μ3 h => ?_))
    exact zw_iret (pc := 170) (by decide +kernel) rfl (Nat.le_refl _) (Nat.le_refl _) ⟨_, _, rfl, rfl, h⟩
  · replace h := h.2 hc
    refine zw_aload_n (pc := 126) (n := 0) (i := 0) 0 (by decide +kernel) rfl rfl ?_
    refine zx_getR (pc := 127) (o := 6) (r := 209) zf_11_31 (by decide +kernel) rfl zc_203 rfl (by decide) rfl ?_
    refine zw_iload (pc := 130) (i := 6) 5 (by decide +kernel) rfl ?_
    refine zw_aload_n (pc := 132) (n := 0) (i := 0) 0 (by decide +kernel) rfl rfl ?_
    refine zw_iload_n (pc := 133) (n := 1) (i := 1) 1 (by decide +kernel) rfl rfl ?_
    refine zw_iload (pc := 134) (i := 4) 4 (by decide +kernel) rfl ?_
    refine zw_iload (pc := 136) (i := 6) 5 (by decide +kernel) rfl ?_
    refine zw_iadd (pc := 138) (by decide +kernel) ?_
    refine zx_callV (pc := 139) (As := [.int (zJ v1), .int (zJ (v4 + v6))]) h zi_X11_numberOf zii_X11_numberOf zie_X11_numberOf zl_11_175 (by decide +kernel) ⟨Nat.le_of_ble_eq_true rfl, Nat.le_of_ble_eq_true rfl⟩ rfl zc_203 (by decide) rfl rfl ⟨rfl, rfl⟩ ⟨Nat.zero_le _, Nat.zero_le _⟩ (zki (fun x6 μ5 h => ?_))
    refine zw_aload_n (pc := 142) (n := 0) (i := 0) 0 (by decide +kernel) rfl rfl ?_
    refine zw_iload_n (pc := 143) (n := 2) (i := 2) 2 (by decide +kernel) rfl rfl ?_
    refine zw_iload (pc := 144) (i := 4) 4 (by decide +kernel) rfl ?_
    refine zw_iload (pc := 146) (i := 6) 5 (by decide +kernel) rfl ?_
    refine zw_iadd (pc := 148) (by decide +kernel) ?_
    refine zx_callV (pc := 149) (As := [.int (zJ v2), .int (zJ (v4 + v6))]) h zi_X11_numberOf zii_X11_numberOf zie_X11_numberOf zl_11_175 (by decide +kernel) ⟨Nat.le_of_ble_eq_true rfl, Nat.le_of_ble_eq_true rfl⟩ rfl zc_203 (by decide) rfl rfl ⟨rfl, rfl⟩ ⟨Nat.zero_le _, Nat.zero_le _⟩ (zki (fun x8 μ7 h => ?_))
    obtain ⟨o9, o10, o11, o12, h⟩ := h
    refine zw_iadd (pc := 152) (by decide +kernel) ?_
    refine zw_aload_n (pc := 153) (n := 0) (i := 0) 0 (by decide +kernel) rfl rfl ?_
    refine zx_getI (pc := 154) zf_11_9 (by decide +kernel) rfl zc_203 ?_
    refine zw_irem (pc := 157) (by decide +kernel) o9 o10 o11 ?_
    refine zx_iastore (pc := 158) (by decide +kernel) ⟨80, zc_209, o12.1, o12.2⟩ ?_
    refine zw_iinc (pc := 159) (i := 6) (n := 1) (lv' := [(0, .ref 203), (1, .int (zJ v1)), (2, .int (zJ v2)), (3, .int (zJ v3)), (4, .int (zJ v4)), (6, .int (zJ (v6 + 1)))]) 5 (by decide +kernel) rfl rfl (Nat.le_of_ble_eq_true rfl) rfl ?_
    refine zw_goto (pc := 162) (off := (-45)) (tgt := 117) (by decide +kernel) (by decide) ?_
    exact h
theorem sg_X11_isThere {g : zG} {φ : Int → zMu → Prop} {v1 : Int} {μ : zMu}
    (h : (0 ≤ v1 ∧ v1 < 6) ∧ (zR (μ 205 v1.toNat)) ∧ (((μ 205 v1.toNat) ≤ 0 → φ 0 μ) ∧ (0 < (μ 205 v1.toNat) → φ 1 μ))) : zOi g zm_X11_isThere [.ref 203, .int (zJ v1)] μ φ := by
  refine zok_of (by decide +kernel) rfl ?_
  show zWP g zm_X11_isThere (zmo g zm_X11_isThere (zΦi φ)) 0 [(0, .ref 203), (1, .int (zJ v1))] [] 0 0 (zw μ)
  obtain ⟨o1, o2, h⟩ := h
  refine zw_aload_n (pc := 0) (n := 0) (i := 0) 0 (by decide +kernel) rfl rfl ?_
  refine zx_getR (pc := 1) (o := 2) (r := 205) zf_11_19 (by decide +kernel) rfl zc_203 rfl (by decide) rfl ?_
  refine zw_iload_n (pc := 4) (n := 1) (i := 1) 1 (by decide +kernel) rfl rfl ?_
  refine zx_iaload (pc := 5) (by decide +kernel) ⟨6, zc_205, o1.1, o1.2⟩ ?_
  refine zw_if_le (pc := 6) (off := 7) (tgt := 13) (by decide +kernel) (by decide) o2 (fun hc => ?_) (fun hc => ?_)
  · replace h := h.1 hc
    refine zw_iconst (pc := 13) (n := 0) (by decide +kernel) ?_
    exact zw_zret (pc := 14) (by decide +kernel) rfl (Nat.le_refl _) (Nat.le_refl _) (Or.inl rfl) ⟨_, _, rfl, rfl, h⟩
  · replace h := h.2 hc
    refine zw_iconst (pc := 9) (n := 1) (by decide +kernel) ?_
    refine zw_goto (pc := 10) (off := 4) (tgt := 14) (by decide +kernel) (by decide) ?_
    exact zw_zret (pc := 14) (by decide +kernel) rfl (Nat.le_refl _) (Nat.le_refl _) (Or.inr rfl) ⟨_, _, rfl, rfl, h⟩
theorem sg_X11_numberOf {g : zG} {φ : Int → zMu → Prop} {v1 : Int} {v2 : Int} {μ : zMu}
    (h : (0 ≤ v1 ∧ v1 < 6) ∧ (zR (v2 - (μ 204 v1.toNat))) ∧ (zR ((μ 205 v1.toNat) - 1)) ∧ zOi g zm_X11_in [.long (zL (v2 - (μ 204 v1.toNat))), .long (zL 0), .long (zL ((μ 205 v1.toNat) - 1))] μ (fun x5 μ4 => (zR x5) ∧ ((x5 = 0 → φ 0 μ4) ∧ (¬ x5 = 0 → (0 ≤ (((80 * v1) + v2) - (μ4 204 v1.toNat)) ∧ (((80 * v1) + v2) - (μ4 204 v1.toNat)) < 480) ∧ φ (μ4 206 (Int.toNat (((80 * v1) + v2) - (μ4 204 v1.toNat)))) μ4)))) : zOi g zm_X11_numberOf [.ref 203, .int (zJ v1), .int (zJ v2)] μ φ := by
  refine zok_of (by decide +kernel) rfl ?_
  show zWP g zm_X11_numberOf (zmo g zm_X11_numberOf (zΦi φ)) 0 [(0, .ref 203), (1, .int (zJ v1)), (2, .int (zJ v2))] [] 0 0 (zw μ)
  obtain ⟨o1, o2, o3, h⟩ := h
  refine zw_iload_n (pc := 0) (n := 2) (i := 2) 2 (by decide +kernel) rfl rfl ?_
  refine zw_aload_n (pc := 1) (n := 0) (i := 0) 0 (by decide +kernel) rfl rfl ?_
  refine zx_getR (pc := 2) (o := 1) (r := 204) zf_11_15 (by decide +kernel) rfl zc_203 rfl (by decide) rfl ?_
  refine zw_iload_n (pc := 5) (n := 1) (i := 1) 1 (by decide +kernel) rfl rfl ?_
  refine zx_iaload (pc := 6) (by decide +kernel) ⟨6, zc_204, o1.1, o1.2⟩ ?_
  refine zw_isub (pc := 7) (by decide +kernel) ?_
  refine zw_i2l (pc := 8) (by decide +kernel) o2 ?_
  refine zw_lconst (pc := 9) (n := 0) (v := 0) (by decide +kernel) rfl ?_
  refine zw_aload_n (pc := 10) (n := 0) (i := 0) 0 (by decide +kernel) rfl rfl ?_
  refine zx_getR (pc := 11) (o := 2) (r := 205) zf_11_19 (by decide +kernel) rfl zc_203 rfl (by decide) rfl ?_
  refine zw_iload_n (pc := 14) (n := 1) (i := 1) 1 (by decide +kernel) rfl rfl ?_
  refine zx_iaload (pc := 15) (by decide +kernel) ⟨6, zc_205, o1.1, o1.2⟩ ?_
  refine zw_iconst (pc := 16) (n := 1) (by decide +kernel) ?_
  refine zw_isub (pc := 17) (by decide +kernel) ?_
  refine zw_i2l (pc := 18) (by decide +kernel) o3 ?_
  refine zx_callS (pc := 19) (As := [.long (zL (v2 - (μ 204 v1.toNat))), .long (zL 0), .long (zL ((μ 205 v1.toNat) - 1))]) h zi_X11_in zis_X11_in zl_11_114 (by decide +kernel) ⟨Nat.le_of_ble_eq_true rfl, Nat.le_of_ble_eq_true rfl⟩ rfl rfl ⟨rfl, rfl⟩ ⟨Nat.zero_le _, Nat.zero_le _⟩ (zki (fun x5 μ4 h => ?_))
  obtain ⟨o6, h⟩ := h
  refine zw_if_eq (pc := 22) (off := 24) (tgt := 46) (by decide +kernel) (by decide) o6 (fun hc => ?_) (fun hc => ?_)
  · replace h := h.1 hc
    refine zw_iconst (pc := 46) (n := 0) (by decide +kernel) ?_
    exact zw_iret (pc := 47) (by decide +kernel) rfl (Nat.le_refl _) (Nat.le_refl _) ⟨_, _, rfl, rfl, h⟩
  · replace h := h.2 hc
    obtain ⟨o7, h⟩ := h
    refine zw_aload_n (pc := 25) (n := 0) (i := 0) 0 (by decide +kernel) rfl rfl ?_
    refine zx_getR (pc := 26) (o := 3) (r := 206) zf_11_22 (by decide +kernel) rfl zc_203 rfl (by decide) rfl ?_
    refine zw_bipush (pc := 29) (n := 80) (by decide +kernel) (by decide +kernel) ?_
    refine zw_iload_n (pc := 31) (n := 1) (i := 1) 1 (by decide +kernel) rfl rfl ?_
    refine zw_imul (pc := 32) (by decide +kernel) ?_
    refine zw_iload_n (pc := 33) (n := 2) (i := 2) 2 (by decide +kernel) rfl rfl ?_
    refine zw_iadd (pc := 34) (by decide +kernel) ?_
    refine zw_aload_n (pc := 35) (n := 0) (i := 0) 0 (by decide +kernel) rfl rfl ?_
    refine zx_getR (pc := 36) (o := 1) (r := 204) zf_11_15 (by decide +kernel) rfl zc_203 rfl (by decide) rfl ?_
    refine zw_iload_n (pc := 39) (n := 1) (i := 1) 1 (by decide +kernel) rfl rfl ?_
    refine zx_iaload (pc := 40) (by decide +kernel) ⟨6, zc_204, o1.1, o1.2⟩ ?_
    refine zw_isub (pc := 41) (by decide +kernel) ?_
    refine zx_iaload (pc := 42) (by decide +kernel) ⟨480, zc_206, o7.1, o7.2⟩ ?_
    refine zw_goto (pc := 43) (off := 4) (tgt := 47) (by decide +kernel) (by decide) ?_
    exact zw_iret (pc := 47) (by decide +kernel) rfl (Nat.le_refl _) (Nat.le_refl _) ⟨_, _, rfl, rfl, h⟩
theorem sg_X11_times {g : zG} {φ : Int → zMu → Prop} {v1 : Int} {v2 : Int} {v3 : Int} {μ : zMu}
    (h : zOi g zm_X11_isSeries [.int (zJ v1)] μ (fun x2 μ1 => (zR x2) ∧ ((x2 = 0 → φ (-1) μ1) ∧ (¬ x2 = 0 → zOi g zm_X11_isSeries [.int (zJ v2)] μ1 (fun x5 μ4 => (zR x5) ∧ ((x5 = 0 → φ (-1) μ4) ∧ (¬ x5 = 0 → zOi g zm_X11_isSeries [.int (zJ v3)] μ4 (fun x8 μ7 => (zR x8) ∧ ((¬ x8 = 0 → zOi g zm_X11_isThere [.ref 203, .int (zJ v1)] μ7 (fun x11 μ10 => (zR x11) ∧ ((x11 = 0 → φ (-11) μ10) ∧ (¬ x11 = 0 → zOi g zm_X11_isThere [.ref 203, .int (zJ v2)] μ10 (fun x14 μ13 => (zR x14) ∧ ((¬ x14 = 0 → (0 ≤ v1 ∧ v1 < 6) ∧ (0 ≤ v2 ∧ v2 < 6) ∧ zOi g zm_X11_isStart [.int (zJ ((μ13 204 v1.toNat) + (μ13 204 v2.toNat)))] μ13 (fun x19 μ18 => (zR x19) ∧ ((¬ x19 = 0 → zOv g zm_X11_lays [.ref 206, .int (zJ (80 * v1)), .ref 210] μ18 (fun μ21 => zOv g zm_X11_lays [.ref 206, .int (zJ (80 * v2)), .ref 211] μ21 (fun μ22 => (zR ((zup μ22 203 7 ((μ22 204 v1.toNat) + (μ22 204 v2.toNat))) 205 v1.toNat)) ∧ (zR ((zup μ22 203 7 ((μ22 204 v1.toNat) + (μ22 204 v2.toNat))) 205 v2.toNat)) ∧ zOv g zm_X11_multiplies [.ref 203, .ref 210, .ref 211, .int (zJ ((zup (zup μ22 203 7 ((μ22 204 v1.toNat) + (μ22 204 v2.toNat))) 203 8 (min ((zup μ22 203 7 ((μ22 204 v1.toNat) + (μ22 204 v2.toNat))) 205 v1.toNat) ((zup μ22 203 7 ((μ22 204 v1.toNat) + (μ22 204 v2.toNat))) 205 v2.toNat))) 203 8))] (zup (zup μ22 203 7 ((μ22 204 v1.toNat) + (μ22 204 v2.toNat))) 203 8 (min ((zup μ22 203 7 ((μ22 204 v1.toNat) + (μ22 204 v2.toNat))) 205 v1.toNat) ((zup μ22 203 7 ((μ22 204 v1.toNat) + (μ22 204 v2.toNat))) 205 v2.toNat))) (fun μ25 => zOi g zm_X11_becomes [.ref 203, .int (zJ v3)] μ25 (fun x27 μ26 => φ x27 μ26))))) ∧ (x19 = 0 → φ (-3) μ18)))) ∧ (x14 = 0 → φ (-11) μ13))))))) ∧ (x8 = 0 → φ (-1) μ7)))))))))) : zOi g zm_X11_times [.ref 203, .int (zJ v1), .int (zJ v2), .int (zJ v3)] μ φ := by
  refine zok_of (by decide +kernel) rfl ?_
  show zWP g zm_X11_times (zmo g zm_X11_times (zΦi φ)) 0 [(0, .ref 203), (1, .int (zJ v1)), (2, .int (zJ v2)), (3, .int (zJ v3))] [] 0 0 (zw μ)
  refine zw_iload_n (pc := 0) (n := 1) (i := 1) 1 (by decide +kernel) rfl rfl ?_
  refine zx_callS (pc := 1) (As := [.int (zJ v1)]) h zi_X11_isSeries zis_X11_isSeries zl_11_141 (by decide +kernel) ⟨Nat.le_of_ble_eq_true rfl, Nat.le_of_ble_eq_true rfl⟩ rfl rfl ⟨rfl, rfl⟩ ⟨Nat.zero_le _, Nat.zero_le _⟩ (zki (fun x2 μ1 h => ?_))
  obtain ⟨o3, h⟩ := h
  refine zw_if_eq (pc := 4) (off := 17) (tgt := 21) (by decide +kernel) (by decide) o3 (fun hc => ?_) (fun hc => ?_)
  · replace h := h.1 hc
    refine zw_iconst (pc := 21) (n := (-1)) (by decide +kernel) ?_
    exact zw_iret (pc := 22) (by decide +kernel) rfl (Nat.le_refl _) (Nat.le_refl _) ⟨_, _, rfl, rfl, h⟩
  · replace h := h.2 hc
    refine zw_iload_n (pc := 7) (n := 2) (i := 2) 2 (by decide +kernel) rfl rfl ?_
    refine zx_callS (pc := 8) (As := [.int (zJ v2)]) h zi_X11_isSeries zis_X11_isSeries zl_11_141 (by decide +kernel) ⟨Nat.le_of_ble_eq_true rfl, Nat.le_of_ble_eq_true rfl⟩ rfl rfl ⟨rfl, rfl⟩ ⟨Nat.zero_le _, Nat.zero_le _⟩ (zki (fun x5 μ4 h => ?_))
    obtain ⟨o6, h⟩ := h
    refine zw_if_eq (pc := 11) (off := 10) (tgt := 21) (by decide +kernel) (by decide) o6 (fun hc => ?_) (fun hc => ?_)
    · replace h := h.1 hc
      refine zw_iconst (pc := 21) (n := (-1)) (by decide +kernel) ?_
      exact zw_iret (pc := 22) (by decide +kernel) rfl (Nat.le_refl _) (Nat.le_refl _) ⟨_, _, rfl, rfl, h⟩
    · replace h := h.2 hc
      refine zw_iload_n (pc := 14) (n := 3) (i := 3) 3 (by decide +kernel) rfl rfl ?_
      refine zx_callS (pc := 15) (As := [.int (zJ v3)]) h zi_X11_isSeries zis_X11_isSeries zl_11_141 (by decide +kernel) ⟨Nat.le_of_ble_eq_true rfl, Nat.le_of_ble_eq_true rfl⟩ rfl rfl ⟨rfl, rfl⟩ ⟨Nat.zero_le _, Nat.zero_le _⟩ (zki (fun x8 μ7 h => ?_))
      obtain ⟨o9, h⟩ := h
      refine zw_if_ne (pc := 18) (off := 5) (tgt := 23) (by decide +kernel) (by decide) o9 (fun hc => ?_) (fun hc => ?_)
      · replace h := h.1 hc
        refine zw_aload_n (pc := 23) (n := 0) (i := 0) 0 (by decide +kernel) rfl rfl ?_
        refine zw_iload_n (pc := 24) (n := 1) (i := 1) 1 (by decide +kernel) rfl rfl ?_
        refine zx_callV (pc := 25) (As := [.int (zJ v1)]) h zi_X11_isThere zii_X11_isThere zie_X11_isThere zl_11_166 (by decide +kernel) ⟨Nat.le_of_ble_eq_true rfl, Nat.le_of_ble_eq_true rfl⟩ rfl zc_203 (by decide) rfl rfl ⟨rfl, rfl⟩ ⟨Nat.zero_le _, Nat.zero_le _⟩ (zki (fun x11 μ10 h => ?_))
        obtain ⟨o12, h⟩ := h
        refine zw_if_eq (pc := 28) (off := 11) (tgt := 39) (by decide +kernel) (by decide) o12 (fun hc => ?_) (fun hc => ?_)
        · replace h := h.1 hc
          refine zw_bipush (pc := 39) (n := (-11)) (by decide +kernel) (by decide +kernel) ?_
          exact zw_iret (pc := 41) (by decide +kernel) rfl (Nat.le_refl _) (Nat.le_refl _) ⟨_, _, rfl, rfl, h⟩
        · replace h := h.2 hc
          refine zw_aload_n (pc := 31) (n := 0) (i := 0) 0 (by decide +kernel) rfl rfl ?_
          refine zw_iload_n (pc := 32) (n := 2) (i := 2) 2 (by decide +kernel) rfl rfl ?_
          refine zx_callV (pc := 33) (As := [.int (zJ v2)]) h zi_X11_isThere zii_X11_isThere zie_X11_isThere zl_11_166 (by decide +kernel) ⟨Nat.le_of_ble_eq_true rfl, Nat.le_of_ble_eq_true rfl⟩ rfl zc_203 (by decide) rfl rfl ⟨rfl, rfl⟩ ⟨Nat.zero_le _, Nat.zero_le _⟩ (zki (fun x14 μ13 h => ?_))
          obtain ⟨o15, h⟩ := h
          refine zw_if_ne (pc := 36) (off := 6) (tgt := 42) (by decide +kernel) (by decide) o15 (fun hc => ?_) (fun hc => ?_)
          · replace h := h.1 hc
            obtain ⟨o16, o17, h⟩ := h
            refine zw_aload_n (pc := 42) (n := 0) (i := 0) 0 (by decide +kernel) rfl rfl ?_
            refine zx_getR (pc := 43) (o := 1) (r := 204) zf_11_15 (by decide +kernel) rfl zc_203 rfl (by decide) rfl ?_
            refine zw_iload_n (pc := 46) (n := 1) (i := 1) 1 (by decide +kernel) rfl rfl ?_
            refine zx_iaload (pc := 47) (by decide +kernel) ⟨6, zc_204, o16.1, o16.2⟩ ?_
            refine zw_aload_n (pc := 48) (n := 0) (i := 0) 0 (by decide +kernel) rfl rfl ?_
            refine zx_getR (pc := 49) (o := 1) (r := 204) zf_11_15 (by decide +kernel) rfl zc_203 rfl (by decide) rfl ?_
            refine zw_iload_n (pc := 52) (n := 2) (i := 2) 2 (by decide +kernel) rfl rfl ?_
            refine zx_iaload (pc := 53) (by decide +kernel) ⟨6, zc_204, o17.1, o17.2⟩ ?_
            refine zw_iadd (pc := 54) (by decide +kernel) ?_
            refine zx_callS (pc := 55) (As := [.int (zJ ((μ13 204 v1.toNat) + (μ13 204 v2.toNat)))]) h zi_X11_isStart zis_X11_isStart zl_11_178 (by decide +kernel) ⟨Nat.le_of_ble_eq_true rfl, Nat.le_of_ble_eq_true rfl⟩ rfl rfl ⟨rfl, rfl⟩ ⟨Nat.zero_le _, Nat.zero_le _⟩ (zki (fun x19 μ18 h => ?_))
            obtain ⟨o20, h⟩ := h
            refine zw_if_ne (pc := 58) (off := 6) (tgt := 64) (by decide +kernel) (by decide) o20 (fun hc => ?_) (fun hc => ?_)
            · replace h := h.1 hc
              refine zw_aload_n (pc := 64) (n := 0) (i := 0) 0 (by decide +kernel) rfl rfl ?_
              refine zx_getR (pc := 65) (o := 3) (r := 206) zf_11_22 (by decide +kernel) rfl zc_203 rfl (by decide) rfl ?_
              refine zw_bipush (pc := 68) (n := 80) (by decide +kernel) (by decide +kernel) ?_
              refine zw_iload_n (pc := 70) (n := 1) (i := 1) 1 (by decide +kernel) rfl rfl ?_
              refine zw_imul (pc := 71) (by decide +kernel) ?_
              refine zw_aload_n (pc := 72) (n := 0) (i := 0) 0 (by decide +kernel) rfl rfl ?_
              refine zx_getR (pc := 73) (o := 7) (r := 210) zf_11_34 (by decide +kernel) rfl zc_203 rfl (by decide) rfl ?_
              refine zx_callS (pc := 76) (As := [.ref 206, .int (zJ (80 * v1)), .ref 210]) h zi_X11_lays zis_X11_lays zl_11_156 (by decide +kernel) ⟨Nat.le_of_ble_eq_true rfl, Nat.le_of_ble_eq_true rfl⟩ rfl rfl ⟨rfl, rfl⟩ ⟨Nat.zero_le _, Nat.zero_le _⟩ (zkv (fun μ21 h => ?_))
              refine zw_aload_n (pc := 79) (n := 0) (i := 0) 0 (by decide +kernel) rfl rfl ?_
              refine zx_getR (pc := 80) (o := 3) (r := 206) zf_11_22 (by decide +kernel) rfl zc_203 rfl (by decide) rfl ?_
              refine zw_bipush (pc := 83) (n := 80) (by decide +kernel) (by decide +kernel) ?_
              refine zw_iload_n (pc := 85) (n := 2) (i := 2) 2 (by decide +kernel) rfl rfl ?_
              refine zw_imul (pc := 86) (by decide +kernel) ?_
              refine zw_aload_n (pc := 87) (n := 0) (i := 0) 0 (by decide +kernel) rfl rfl ?_
              refine zx_getR (pc := 88) (o := 8) (r := 211) zf_11_37 (by decide +kernel) rfl zc_203 rfl (by decide) rfl ?_
              refine zx_callS (pc := 91) (As := [.ref 206, .int (zJ (80 * v2)), .ref 211]) h zi_X11_lays zis_X11_lays zl_11_156 (by decide +kernel) ⟨Nat.le_of_ble_eq_true rfl, Nat.le_of_ble_eq_true rfl⟩ rfl rfl ⟨rfl, rfl⟩ ⟨Nat.zero_le _, Nat.zero_le _⟩ (zkv (fun μ22 h => ?_))
              obtain ⟨o23, o24, h⟩ := h
              refine zw_aload_n (pc := 94) (n := 0) (i := 0) 0 (by decide +kernel) rfl rfl ?_
              refine zw_aload_n (pc := 95) (n := 0) (i := 0) 0 (by decide +kernel) rfl rfl ?_
              refine zx_getR (pc := 96) (o := 1) (r := 204) zf_11_15 (by decide +kernel) rfl zc_203 rfl (by decide) rfl ?_
              refine zw_iload_n (pc := 99) (n := 1) (i := 1) 1 (by decide +kernel) rfl rfl ?_
              refine zx_iaload (pc := 100) (by decide +kernel) ⟨6, zc_204, o16.1, o16.2⟩ ?_
              refine zw_aload_n (pc := 101) (n := 0) (i := 0) 0 (by decide +kernel) rfl rfl ?_
              refine zx_getR (pc := 102) (o := 1) (r := 204) zf_11_15 (by decide +kernel) rfl zc_203 rfl (by decide) rfl ?_
              refine zw_iload_n (pc := 105) (n := 2) (i := 2) 2 (by decide +kernel) rfl rfl ?_
              refine zx_iaload (pc := 106) (by decide +kernel) ⟨6, zc_204, o17.1, o17.2⟩ ?_
              refine zw_iadd (pc := 107) (by decide +kernel) ?_
              refine zx_putI (pc := 108) zf_11_131 (by decide +kernel) rfl zc_203 ?_
              refine zw_aload_n (pc := 111) (n := 0) (i := 0) 0 (by decide +kernel) rfl rfl ?_
              refine zw_aload_n (pc := 112) (n := 0) (i := 0) 0 (by decide +kernel) rfl rfl ?_
              refine zx_getR (pc := 113) (o := 2) (r := 205) zf_11_19 (by decide +kernel) rfl zc_203 rfl (by decide) rfl ?_
              refine zw_iload_n (pc := 116) (n := 1) (i := 1) 1 (by decide +kernel) rfl rfl ?_
              refine zx_iaload (pc := 117) (by decide +kernel) ⟨6, zc_205, o16.1, o16.2⟩ ?_
              refine zw_aload_n (pc := 118) (n := 0) (i := 0) 0 (by decide +kernel) rfl rfl ?_
              refine zx_getR (pc := 119) (o := 2) (r := 205) zf_11_19 (by decide +kernel) rfl zc_203 rfl (by decide) rfl ?_
              refine zw_iload_n (pc := 122) (n := 2) (i := 2) 2 (by decide +kernel) rfl rfl ?_
              refine zx_iaload (pc := 123) (by decide +kernel) ⟨6, zc_205, o17.1, o17.2⟩ ?_
              refine zw_min (pc := 124) zl_11_169 zb_minS zb_mathI zb_minC (by decide +kernel) ⟨Nat.le_of_ble_eq_true rfl, Nat.le_of_ble_eq_true rfl⟩ (Nat.zero_le _) (Nat.zero_le _) rfl o23 o24 ?_
              refine zx_putI (pc := 127) zf_11_134 (by decide +kernel) rfl zc_203 ?_
              refine zw_aload_n (pc := 130) (n := 0) (i := 0) 0 (by decide +kernel) rfl rfl ?_
              refine zw_aload_n (pc := 131) (n := 0) (i := 0) 0 (by decide +kernel) rfl rfl ?_
              refine zx_getR (pc := 132) (o := 7) (r := 210) zf_11_34 (by decide +kernel) rfl zc_203 rfl (by decide) rfl ?_
              refine zw_aload_n (pc := 135) (n := 0) (i := 0) 0 (by decide +kernel) rfl rfl ?_
              refine zx_getR (pc := 136) (o := 8) (r := 211) zf_11_37 (by decide +kernel) rfl zc_203 rfl (by decide) rfl ?_
              refine zw_aload_n (pc := 139) (n := 0) (i := 0) 0 (by decide +kernel) rfl rfl ?_
              refine zx_getI (pc := 140) zf_11_134 (by decide +kernel) rfl zc_203 ?_
              refine zx_callV (pc := 143) (As := [.ref 210, .ref 211, .int (zJ ((zup (zup μ22 203 7 ((μ22 204 v1.toNat) + (μ22 204 v2.toNat))) 203 8 (min ((zup μ22 203 7 ((μ22 204 v1.toNat) + (μ22 204 v2.toNat))) 205 v1.toNat) ((zup μ22 203 7 ((μ22 204 v1.toNat) + (μ22 204 v2.toNat))) 205 v2.toNat))) 203 8))]) h zi_X11_multiplies zii_X11_multiplies zie_X11_multiplies zl_11_152 (by decide +kernel) ⟨Nat.le_of_ble_eq_true rfl, Nat.le_of_ble_eq_true rfl⟩ rfl zc_203 (by decide) rfl rfl ⟨rfl, rfl⟩ ⟨Nat.zero_le _, Nat.zero_le _⟩ (zkv (fun μ25 h => ?_))
              refine zw_aload_n (pc := 146) (n := 0) (i := 0) 0 (by decide +kernel) rfl rfl ?_
              refine zw_iload_n (pc := 147) (n := 3) (i := 3) 3 (by decide +kernel) rfl rfl ?_
              refine zx_callV (pc := 148) (As := [.int (zJ v3)]) h zi_X11_becomes zii_X11_becomes zie_X11_becomes zl_11_163 (by decide +kernel) ⟨Nat.le_of_ble_eq_true rfl, Nat.le_of_ble_eq_true rfl⟩ rfl zc_203 (by decide) rfl rfl ⟨rfl, rfl⟩ ⟨Nat.zero_le _, Nat.zero_le _⟩ (zki (fun x27 μ26 h => ?_))
              exact zw_iret (pc := 151) (by decide +kernel) rfl (Nat.le_refl _) (Nat.le_refl _) ⟨_, _, rfl, rfl, h⟩
            · replace h := h.2 hc
              refine zw_bipush (pc := 61) (n := (-3)) (by decide +kernel) (by decide +kernel) ?_
              exact zw_iret (pc := 63) (by decide +kernel) rfl (Nat.le_refl _) (Nat.le_refl _) ⟨_, _, rfl, rfl, h⟩
          · replace h := h.2 hc
            refine zw_bipush (pc := 39) (n := (-11)) (by decide +kernel) (by decide +kernel) ?_
            exact zw_iret (pc := 41) (by decide +kernel) rfl (Nat.le_refl _) (Nat.le_refl _) ⟨_, _, rfl, rfl, h⟩
      · replace h := h.2 hc
        refine zw_iconst (pc := 21) (n := (-1)) (by decide +kernel) ?_
        exact zw_iret (pc := 22) (by decide +kernel) rfl (Nat.le_refl _) (Nat.le_refl _) ⟨_, _, rfl, rfl, h⟩
theorem sg_X11_isStart {g : zG} {φ : Int → zMu → Prop} {v0 : Int} {μ : zMu}
    (h : (zR v0) ∧ zOi g zm_X11_in [.long (zL v0), .long (zL (-99)), .long (zL 99)] μ (fun x3 μ2 => (x3 = 0 ∨ x3 = 1) ∧ φ x3 μ2)) : zOi g zm_X11_isStart [.int (zJ v0)] μ φ := by
  refine zok_of (by decide +kernel) rfl ?_
  show zWP g zm_X11_isStart (zmo g zm_X11_isStart (zΦi φ)) 0 [(0, .int (zJ v0))] [] 0 0 (zw μ)
  obtain ⟨o1, h⟩ := h
  refine zw_iload_n (pc := 0) (n := 0) (i := 0) 0 (by decide +kernel) rfl rfl ?_
  refine zw_i2l (pc := 1) (by decide +kernel) o1 ?_
  refine zw_ldc2 (pc := 2) (v := (-99)) (by decide +kernel) zk_11_118 ?_
  refine zw_ldc2 (pc := 5) (v := 99) (by decide +kernel) zk_11_120 ?_
  refine zx_callS (pc := 8) (As := [.long (zL v0), .long (zL (-99)), .long (zL 99)]) h zi_X11_in zis_X11_in zl_11_114 (by decide +kernel) ⟨Nat.le_of_ble_eq_true rfl, Nat.le_of_ble_eq_true rfl⟩ rfl rfl ⟨rfl, rfl⟩ ⟨Nat.zero_le _, Nat.zero_le _⟩ (zki (fun x3 μ2 h => ?_))
  obtain ⟨o4, h⟩ := h
  exact zw_zret (pc := 11) (by decide +kernel) rfl (Nat.le_refl _) (Nat.le_refl _) o4 ⟨_, _, rfl, rfl, h⟩
abbrev at_X11_stretch_91 (g : zG) (φ : Int → zMu → Prop) (v1 : Int) (v2 : Int) (v3 : Int) (v4 : Int) (μ : zMu) : Prop := zWP g zm_X11_stretch (zmo g zm_X11_stretch (zΦi φ)) 91 [(0, .ref 203), (1, .int (zJ v1)), (2, .int (zJ v2)), (3, .int (zJ v3)), (4, .int (zJ v4))] [] 0 0 (zw μ)
theorem sg_X11_stretch {g : zG} {φ : Int → zMu → Prop} {v1 : Int} {v2 : Int} {v3 : Int} {μ : zMu}
    (h : zOi g zm_X11_isSeries [.int (zJ v1)] μ (fun x2 μ1 => (zR x2) ∧ ((x2 = 0 → φ (-1) μ1) ∧ (¬ x2 = 0 → zOi g zm_X11_isSeries [.int (zJ v3)] μ1 (fun x5 μ4 => (zR x5) ∧ ((¬ x5 = 0 → (zR v2) ∧ zOi g zm_X11_in [.long (zL v2), .long (zL 1), .long (zL 9)] μ4 (fun x9 μ8 => (zR x9) ∧ ((¬ x9 = 0 → zOi g zm_X11_isThere [.ref 203, .int (zJ v1)] μ8 (fun x12 μ11 => (zR x12) ∧ ((¬ x12 = 0 → (0 ≤ v1 ∧ v1 < 6) ∧ zOi g zm_X11_isStart [.int (zJ (v2 * (μ11 204 v1.toNat)))] μ11 (fun x16 μ15 => (zR x16) ∧ ((¬ x16 = 0 → (zR (v2 * ((zup μ15 203 7 (v2 * (μ15 204 v1.toNat))) 205 v1.toNat))) ∧ at_X11_stretch_91 g φ v1 v2 v3 0 (zup (zup μ15 203 7 (v2 * (μ15 204 v1.toNat))) 203 8 (min 80 (v2 * ((zup μ15 203 7 (v2 * (μ15 204 v1.toNat))) 205 v1.toNat))))) ∧ (x16 = 0 → φ (-3) μ15)))) ∧ (x12 = 0 → φ (-11) μ11)))) ∧ (x9 = 0 → φ (-2) μ8)))) ∧ (x5 = 0 → φ (-1) μ4))))))) : zOi g zm_X11_stretch [.ref 203, .int (zJ v1), .int (zJ v2), .int (zJ v3)] μ φ := by
  refine zok_of (by decide +kernel) rfl ?_
  show zWP g zm_X11_stretch (zmo g zm_X11_stretch (zΦi φ)) 0 [(0, .ref 203), (1, .int (zJ v1)), (2, .int (zJ v2)), (3, .int (zJ v3))] [] 0 0 (zw μ)
  refine zw_iload_n (pc := 0) (n := 1) (i := 1) 1 (by decide +kernel) rfl rfl ?_
  refine zx_callS (pc := 1) (As := [.int (zJ v1)]) h zi_X11_isSeries zis_X11_isSeries zl_11_141 (by decide +kernel) ⟨Nat.le_of_ble_eq_true rfl, Nat.le_of_ble_eq_true rfl⟩ rfl rfl ⟨rfl, rfl⟩ ⟨Nat.zero_le _, Nat.zero_le _⟩ (zki (fun x2 μ1 h => ?_))
  obtain ⟨o3, h⟩ := h
  refine zw_if_eq (pc := 4) (off := 10) (tgt := 14) (by decide +kernel) (by decide) o3 (fun hc => ?_) (fun hc => ?_)
  · replace h := h.1 hc
    refine zw_iconst (pc := 14) (n := (-1)) (by decide +kernel) ?_
    exact zw_iret (pc := 15) (by decide +kernel) rfl (Nat.le_refl _) (Nat.le_refl _) ⟨_, _, rfl, rfl, h⟩
  · replace h := h.2 hc
    refine zw_iload_n (pc := 7) (n := 3) (i := 3) 3 (by decide +kernel) rfl rfl ?_
    refine zx_callS (pc := 8) (As := [.int (zJ v3)]) h zi_X11_isSeries zis_X11_isSeries zl_11_141 (by decide +kernel) ⟨Nat.le_of_ble_eq_true rfl, Nat.le_of_ble_eq_true rfl⟩ rfl rfl ⟨rfl, rfl⟩ ⟨Nat.zero_le _, Nat.zero_le _⟩ (zki (fun x5 μ4 h => ?_))
    obtain ⟨o6, h⟩ := h
    refine zw_if_ne (pc := 11) (off := 5) (tgt := 16) (by decide +kernel) (by decide) o6 (fun hc => ?_) (fun hc => ?_)
    · replace h := h.1 hc
      obtain ⟨o7, h⟩ := h
      refine zw_iload_n (pc := 16) (n := 2) (i := 2) 2 (by decide +kernel) rfl rfl ?_
      refine zw_i2l (pc := 17) (by decide +kernel) o7 ?_
      refine zw_lconst (pc := 18) (n := 1) (v := 1) (by decide +kernel) rfl ?_
      refine zw_ldc2 (pc := 19) (v := 9) (by decide +kernel) zk_11_181 ?_
      refine zx_callS (pc := 22) (As := [.long (zL v2), .long (zL 1), .long (zL 9)]) h zi_X11_in zis_X11_in zl_11_114 (by decide +kernel) ⟨Nat.le_of_ble_eq_true rfl, Nat.le_of_ble_eq_true rfl⟩ rfl rfl ⟨rfl, rfl⟩ ⟨Nat.zero_le _, Nat.zero_le _⟩ (zki (fun x9 μ8 h => ?_))
      obtain ⟨o10, h⟩ := h
      refine zw_if_ne (pc := 25) (off := 6) (tgt := 31) (by decide +kernel) (by decide) o10 (fun hc => ?_) (fun hc => ?_)
      · replace h := h.1 hc
        refine zw_aload_n (pc := 31) (n := 0) (i := 0) 0 (by decide +kernel) rfl rfl ?_
        refine zw_iload_n (pc := 32) (n := 1) (i := 1) 1 (by decide +kernel) rfl rfl ?_
        refine zx_callV (pc := 33) (As := [.int (zJ v1)]) h zi_X11_isThere zii_X11_isThere zie_X11_isThere zl_11_166 (by decide +kernel) ⟨Nat.le_of_ble_eq_true rfl, Nat.le_of_ble_eq_true rfl⟩ rfl zc_203 (by decide) rfl rfl ⟨rfl, rfl⟩ ⟨Nat.zero_le _, Nat.zero_le _⟩ (zki (fun x12 μ11 h => ?_))
        obtain ⟨o13, h⟩ := h
        refine zw_if_ne (pc := 36) (off := 6) (tgt := 42) (by decide +kernel) (by decide) o13 (fun hc => ?_) (fun hc => ?_)
        · replace h := h.1 hc
          obtain ⟨o14, h⟩ := h
          refine zw_iload_n (pc := 42) (n := 2) (i := 2) 2 (by decide +kernel) rfl rfl ?_
          refine zw_aload_n (pc := 43) (n := 0) (i := 0) 0 (by decide +kernel) rfl rfl ?_
          refine zx_getR (pc := 44) (o := 1) (r := 204) zf_11_15 (by decide +kernel) rfl zc_203 rfl (by decide) rfl ?_
          refine zw_iload_n (pc := 47) (n := 1) (i := 1) 1 (by decide +kernel) rfl rfl ?_
          refine zx_iaload (pc := 48) (by decide +kernel) ⟨6, zc_204, o14.1, o14.2⟩ ?_
          refine zw_imul (pc := 49) (by decide +kernel) ?_
          refine zx_callS (pc := 50) (As := [.int (zJ (v2 * (μ11 204 v1.toNat)))]) h zi_X11_isStart zis_X11_isStart zl_11_178 (by decide +kernel) ⟨Nat.le_of_ble_eq_true rfl, Nat.le_of_ble_eq_true rfl⟩ rfl rfl ⟨rfl, rfl⟩ ⟨Nat.zero_le _, Nat.zero_le _⟩ (zki (fun x16 μ15 h => ?_))
          obtain ⟨o17, h⟩ := h
          refine zw_if_ne (pc := 53) (off := 6) (tgt := 59) (by decide +kernel) (by decide) o17 (fun hc => ?_) (fun hc => ?_)
          · replace h := h.1 hc
            obtain ⟨o18, h⟩ := h
            refine zw_aload_n (pc := 59) (n := 0) (i := 0) 0 (by decide +kernel) rfl rfl ?_
            refine zw_iload_n (pc := 60) (n := 2) (i := 2) 2 (by decide +kernel) rfl rfl ?_
            refine zw_aload_n (pc := 61) (n := 0) (i := 0) 0 (by decide +kernel) rfl rfl ?_
            refine zx_getR (pc := 62) (o := 1) (r := 204) zf_11_15 (by decide +kernel) rfl zc_203 rfl (by decide) rfl ?_
            refine zw_iload_n (pc := 65) (n := 1) (i := 1) 1 (by decide +kernel) rfl rfl ?_
            refine zx_iaload (pc := 66) (by decide +kernel) ⟨6, zc_204, o14.1, o14.2⟩ ?_
            refine zw_imul (pc := 67) (by decide +kernel) ?_
            refine zx_putI (pc := 68) zf_11_131 (by decide +kernel) rfl zc_203 ?_
            refine zw_aload_n (pc := 71) (n := 0) (i := 0) 0 (by decide +kernel) rfl rfl ?_
            refine zw_bipush (pc := 72) (n := 80) (by decide +kernel) (by decide +kernel) ?_
            refine zw_iload_n (pc := 74) (n := 2) (i := 2) 2 (by decide +kernel) rfl rfl ?_
            refine zw_aload_n (pc := 75) (n := 0) (i := 0) 0 (by decide +kernel) rfl rfl ?_
            refine zx_getR (pc := 76) (o := 2) (r := 205) zf_11_19 (by decide +kernel) rfl zc_203 rfl (by decide) rfl ?_
            refine zw_iload_n (pc := 79) (n := 1) (i := 1) 1 (by decide +kernel) rfl rfl ?_
            refine zx_iaload (pc := 80) (by decide +kernel) ⟨6, zc_205, o14.1, o14.2⟩ ?_
            refine zw_imul (pc := 81) (by decide +kernel) ?_
            refine zw_min (pc := 82) zl_11_169 zb_minS zb_mathI zb_minC (by decide +kernel) ⟨Nat.le_of_ble_eq_true rfl, Nat.le_of_ble_eq_true rfl⟩ (Nat.zero_le _) (Nat.zero_le _) rfl ⟨by decide, by decide⟩ o18 ?_
            refine zx_putI (pc := 85) zf_11_134 (by decide +kernel) rfl zc_203 ?_
            refine zw_iconst (pc := 88) (n := 0) (by decide +kernel) ?_
            refine zw_istore (pc := 89) (i := 4) (lv' := [(0, .ref 203), (1, .int (zJ v1)), (2, .int (zJ v2)), (3, .int (zJ v3)), (4, .int (zJ 0))]) (by decide +kernel) (Nat.le_of_ble_eq_true rfl) rfl ?_
            exact h
          · replace h := h.2 hc
            refine zw_bipush (pc := 56) (n := (-3)) (by decide +kernel) (by decide +kernel) ?_
            exact zw_iret (pc := 58) (by decide +kernel) rfl (Nat.le_refl _) (Nat.le_refl _) ⟨_, _, rfl, rfl, h⟩
        · replace h := h.2 hc
          refine zw_bipush (pc := 39) (n := (-11)) (by decide +kernel) (by decide +kernel) ?_
          exact zw_iret (pc := 41) (by decide +kernel) rfl (Nat.le_refl _) (Nat.le_refl _) ⟨_, _, rfl, rfl, h⟩
      · replace h := h.2 hc
        refine zw_bipush (pc := 28) (n := (-2)) (by decide +kernel) (by decide +kernel) ?_
        exact zw_iret (pc := 30) (by decide +kernel) rfl (Nat.le_refl _) (Nat.le_refl _) ⟨_, _, rfl, rfl, h⟩
    · replace h := h.2 hc
      refine zw_iconst (pc := 14) (n := (-1)) (by decide +kernel) ?_
      exact zw_iret (pc := 15) (by decide +kernel) rfl (Nat.le_refl _) (Nat.le_refl _) ⟨_, _, rfl, rfl, h⟩
theorem sg_X11_stretch_91 {g : zG} {φ : Int → zMu → Prop} {v1 : Int} {v2 : Int} {v3 : Int} {v4 : Int} {μ : zMu}
    (h : (zR v4) ∧ (zR (μ 203 8)) ∧ (((μ 203 8) ≤ v4 → zOi g zm_X11_becomes [.ref 203, .int (zJ v3)] μ (fun x4 μ3 => φ x4 μ3)) ∧ (v4 < (μ 203 8) → (zR v2) ∧ (v2 ≠ 0) ∧ (zR (v4.tmod v2)) ∧ ((¬ (v4.tmod v2) = 0 → (0 ≤ v4 ∧ v4 < 80) ∧ at_X11_stretch_91 g φ v1 v2 v3 (v4 + 1) (zup μ 209 v4.toNat 0)) ∧ ((v4.tmod v2) = 0 → (0 ≤ ((80 * v1) + (v4.tdiv v2)) ∧ ((80 * v1) + (v4.tdiv v2)) < 480) ∧ (0 ≤ v4 ∧ v4 < 80) ∧ at_X11_stretch_91 g φ v1 v2 v3 (v4 + 1) (zup μ 209 v4.toNat (μ 206 (Int.toNat ((80 * v1) + (v4.tdiv v2)))))))))) : at_X11_stretch_91 g φ v1 v2 v3 v4 μ := by
  obtain ⟨o1, o2, h⟩ := h
  refine zw_iload (pc := 91) (i := 4) 4 (by decide +kernel) rfl ?_
  refine zw_aload_n (pc := 93) (n := 0) (i := 0) 0 (by decide +kernel) rfl rfl ?_
  refine zx_getI (pc := 94) zf_11_134 (by decide +kernel) rfl zc_203 ?_
  refine zw_icmp_ge (pc := 97) (off := 41) (tgt := 138) (by decide +kernel) (by decide) o1 o2 (fun hc => ?_) (fun hc => ?_)
  · replace h := h.1 hc
    refine zw_aload_n (pc := 138) (n := 0) (i := 0) 0 (by decide +kernel) rfl rfl ?_
    refine zw_iload_n (pc := 139) (n := 3) (i := 3) 3 (by decide +kernel) rfl rfl ?_
    refine zx_callV (pc := 140) (As := [.int (zJ v3)]) h zi_X11_becomes zii_X11_becomes zie_X11_becomes zl_11_163 (by decide +kernel) ⟨Nat.le_of_ble_eq_true rfl, Nat.le_of_ble_eq_true rfl⟩ rfl zc_203 (by decide) rfl rfl ⟨rfl, rfl⟩ ⟨Nat.zero_le _, Nat.zero_le _⟩ (zki (fun x4 μ3 h => ?_))
    exact zw_iret (pc := 143) (by decide +kernel) rfl (Nat.le_refl _) (Nat.le_refl _) ⟨_, _, rfl, rfl, h⟩
  · replace h := h.2 hc
    obtain ⟨o5, o6, o7, h⟩ := h
    refine zw_aload_n (pc := 100) (n := 0) (i := 0) 0 (by decide +kernel) rfl rfl ?_
    refine zx_getR (pc := 101) (o := 6) (r := 209) zf_11_31 (by decide +kernel) rfl zc_203 rfl (by decide) rfl ?_
    refine zw_iload (pc := 104) (i := 4) 4 (by decide +kernel) rfl ?_
    refine zw_iload (pc := 106) (i := 4) 4 (by decide +kernel) rfl ?_
    refine zw_iload_n (pc := 108) (n := 2) (i := 2) 2 (by decide +kernel) rfl rfl ?_
    refine zw_irem (pc := 109) (by decide +kernel) o1 o5 o6 ?_
    refine zw_if_ne (pc := 110) (off := 20) (tgt := 130) (by decide +kernel) (by decide) o7 (fun hc => ?_) (fun hc => ?_)
    · replace h := h.1 hc
      obtain ⟨o8, h⟩ := h
      refine zw_iconst (pc := 130) (n := 0) (by decide +kernel) ?_
      refine zx_iastore (pc := 131) (by decide +kernel) ⟨80, zc_209, o8.1, o8.2⟩ ?_
      refine zw_iinc (pc := 132) (i := 4) (n := 1) (lv' := [(0, .ref 203), (1, .int (zJ v1)), (2, .int (zJ v2)), (3, .int (zJ v3)), (4, .int (zJ (v4 + 1)))]) 4 (by decide +kernel) rfl rfl (Nat.le_of_ble_eq_true rfl) rfl ?_
      refine zw_goto (pc := 135) (off := (-44)) (tgt := 91) (by decide +kernel) (by decide) ?_
      exact h
    · replace h := h.2 hc
      obtain ⟨o9, o10, h⟩ := h
      refine zw_aload_n (pc := 113) (n := 0) (i := 0) 0 (by decide +kernel) rfl rfl ?_
      refine zx_getR (pc := 114) (o := 3) (r := 206) zf_11_22 (by decide +kernel) rfl zc_203 rfl (by decide) rfl ?_
      refine zw_bipush (pc := 117) (n := 80) (by decide +kernel) (by decide +kernel) ?_
      refine zw_iload_n (pc := 119) (n := 1) (i := 1) 1 (by decide +kernel) rfl rfl ?_
      refine zw_imul (pc := 120) (by decide +kernel) ?_
      refine zw_iload (pc := 121) (i := 4) 4 (by decide +kernel) rfl ?_
      refine zw_iload_n (pc := 123) (n := 2) (i := 2) 2 (by decide +kernel) rfl rfl ?_
      refine zw_idiv (pc := 124) (by decide +kernel) o1 o5 o6 ?_
      refine zw_iadd (pc := 125) (by decide +kernel) ?_
      refine zx_iaload (pc := 126) (by decide +kernel) ⟨480, zc_206, o9.1, o9.2⟩ ?_
      refine zw_goto (pc := 127) (off := 4) (tgt := 131) (by decide +kernel) (by decide) ?_
      refine zx_iastore (pc := 131) (by decide +kernel) ⟨80, zc_209, o10.1, o10.2⟩ ?_
      refine zw_iinc (pc := 132) (i := 4) (n := 1) (lv' := [(0, .ref 203), (1, .int (zJ v1)), (2, .int (zJ v2)), (3, .int (zJ v3)), (4, .int (zJ (v4 + 1)))]) 4 (by decide +kernel) rfl rfl (Nat.le_of_ble_eq_true rfl) rfl ?_
      refine zw_goto (pc := 135) (off := (-44)) (tgt := 91) (by decide +kernel) (by decide) ?_
      exact h
abbrev at_X11_over_59 (g : zG) (φ : Int → zMu → Prop) (v1 : Int) (v2 : Int) (v3 : Int) (μ : zMu) : Prop := zWP g zm_X11_over (zmo g zm_X11_over (zΦi φ)) 59 [(0, .ref 203), (1, .int (zJ v1)), (2, .int (zJ v2)), (3, .int (zJ v3))] [] 0 0 (zw μ)
theorem sg_X11_over {g : zG} {φ : Int → zMu → Prop} {v1 : Int} {v2 : Int} {μ : zMu}
    (h : zOi g zm_X11_isSeries [.int (zJ v1)] μ (fun x2 μ1 => (zR x2) ∧ ((x2 = 0 → φ (-1) μ1) ∧ (¬ x2 = 0 → zOi g zm_X11_isSeries [.int (zJ v2)] μ1 (fun x5 μ4 => (zR x5) ∧ ((¬ x5 = 0 → zOi g zm_X11_isThere [.ref 203, .int (zJ v1)] μ4 (fun x8 μ7 => (zR x8) ∧ ((¬ x8 = 0 → (0 ≤ (80 * v1) ∧ (80 * v1) < 480) ∧ (zR (μ7 206 (Int.toNat (80 * v1)))) ∧ ((¬ (μ7 206 (Int.toNat (80 * v1))) = 0 → zOv g zm_X11_lays [.ref 206, .int (zJ (80 * v1)), .ref 211] μ7 (fun μ12 => at_X11_over_59 g φ v1 v2 0 μ12)) ∧ ((μ7 206 (Int.toNat (80 * v1))) = 0 → φ (-3) μ7))) ∧ (x8 = 0 → φ (-11) μ7)))) ∧ (x5 = 0 → φ (-1) μ4))))))) : zOi g zm_X11_over [.ref 203, .int (zJ v1), .int (zJ v2)] μ φ := by
  refine zok_of (by decide +kernel) rfl ?_
  show zWP g zm_X11_over (zmo g zm_X11_over (zΦi φ)) 0 [(0, .ref 203), (1, .int (zJ v1)), (2, .int (zJ v2))] [] 0 0 (zw μ)
  refine zw_iload_n (pc := 0) (n := 1) (i := 1) 1 (by decide +kernel) rfl rfl ?_
  refine zx_callS (pc := 1) (As := [.int (zJ v1)]) h zi_X11_isSeries zis_X11_isSeries zl_11_141 (by decide +kernel) ⟨Nat.le_of_ble_eq_true rfl, Nat.le_of_ble_eq_true rfl⟩ rfl rfl ⟨rfl, rfl⟩ ⟨Nat.zero_le _, Nat.zero_le _⟩ (zki (fun x2 μ1 h => ?_))
  obtain ⟨o3, h⟩ := h
  refine zw_if_eq (pc := 4) (off := 10) (tgt := 14) (by decide +kernel) (by decide) o3 (fun hc => ?_) (fun hc => ?_)
  · replace h := h.1 hc
    refine zw_iconst (pc := 14) (n := (-1)) (by decide +kernel) ?_
    exact zw_iret (pc := 15) (by decide +kernel) rfl (Nat.le_refl _) (Nat.le_refl _) ⟨_, _, rfl, rfl, h⟩
  · replace h := h.2 hc
    refine zw_iload_n (pc := 7) (n := 2) (i := 2) 2 (by decide +kernel) rfl rfl ?_
    refine zx_callS (pc := 8) (As := [.int (zJ v2)]) h zi_X11_isSeries zis_X11_isSeries zl_11_141 (by decide +kernel) ⟨Nat.le_of_ble_eq_true rfl, Nat.le_of_ble_eq_true rfl⟩ rfl rfl ⟨rfl, rfl⟩ ⟨Nat.zero_le _, Nat.zero_le _⟩ (zki (fun x5 μ4 h => ?_))
    obtain ⟨o6, h⟩ := h
    refine zw_if_ne (pc := 11) (off := 5) (tgt := 16) (by decide +kernel) (by decide) o6 (fun hc => ?_) (fun hc => ?_)
    · replace h := h.1 hc
      refine zw_aload_n (pc := 16) (n := 0) (i := 0) 0 (by decide +kernel) rfl rfl ?_
      refine zw_iload_n (pc := 17) (n := 1) (i := 1) 1 (by decide +kernel) rfl rfl ?_
      refine zx_callV (pc := 18) (As := [.int (zJ v1)]) h zi_X11_isThere zii_X11_isThere zie_X11_isThere zl_11_166 (by decide +kernel) ⟨Nat.le_of_ble_eq_true rfl, Nat.le_of_ble_eq_true rfl⟩ rfl zc_203 (by decide) rfl rfl ⟨rfl, rfl⟩ ⟨Nat.zero_le _, Nat.zero_le _⟩ (zki (fun x8 μ7 h => ?_))
      obtain ⟨o9, h⟩ := h
      refine zw_if_ne (pc := 21) (off := 6) (tgt := 27) (by decide +kernel) (by decide) o9 (fun hc => ?_) (fun hc => ?_)
      · replace h := h.1 hc
        obtain ⟨o10, o11, h⟩ := h
        refine zw_aload_n (pc := 27) (n := 0) (i := 0) 0 (by decide +kernel) rfl rfl ?_
        refine zx_getR (pc := 28) (o := 3) (r := 206) zf_11_22 (by decide +kernel) rfl zc_203 rfl (by decide) rfl ?_
        refine zw_bipush (pc := 31) (n := 80) (by decide +kernel) (by decide +kernel) ?_
        refine zw_iload_n (pc := 33) (n := 1) (i := 1) 1 (by decide +kernel) rfl rfl ?_
        refine zw_imul (pc := 34) (by decide +kernel) ?_
        refine zx_iaload (pc := 35) (by decide +kernel) ⟨480, zc_206, o10.1, o10.2⟩ ?_
        refine zw_if_ne (pc := 36) (off := 6) (tgt := 42) (by decide +kernel) (by decide) o11 (fun hc => ?_) (fun hc => ?_)
        · replace h := h.1 hc
          refine zw_aload_n (pc := 42) (n := 0) (i := 0) 0 (by decide +kernel) rfl rfl ?_
          refine zx_getR (pc := 43) (o := 3) (r := 206) zf_11_22 (by decide +kernel) rfl zc_203 rfl (by decide) rfl ?_
          refine zw_bipush (pc := 46) (n := 80) (by decide +kernel) (by decide +kernel) ?_
          refine zw_iload_n (pc := 48) (n := 1) (i := 1) 1 (by decide +kernel) rfl rfl ?_
          refine zw_imul (pc := 49) (by decide +kernel) ?_
          refine zw_aload_n (pc := 50) (n := 0) (i := 0) 0 (by decide +kernel) rfl rfl ?_
          refine zx_getR (pc := 51) (o := 8) (r := 211) zf_11_37 (by decide +kernel) rfl zc_203 rfl (by decide) rfl ?_
          refine zx_callS (pc := 54) (As := [.ref 206, .int (zJ (80 * v1)), .ref 211]) h zi_X11_lays zis_X11_lays zl_11_156 (by decide +kernel) ⟨Nat.le_of_ble_eq_true rfl, Nat.le_of_ble_eq_true rfl⟩ rfl rfl ⟨rfl, rfl⟩ ⟨Nat.zero_le _, Nat.zero_le _⟩ (zkv (fun μ12 h => ?_))
          refine zw_iconst (pc := 57) (n := 0) (by decide +kernel) ?_
          refine zw_istore_n (pc := 58) (n := 3) (i := 3) (lv' := [(0, .ref 203), (1, .int (zJ v1)), (2, .int (zJ v2)), (3, .int (zJ 0))]) (by decide +kernel) rfl (Nat.le_of_ble_eq_true rfl) rfl ?_
          exact h
        · replace h := h.2 hc
          refine zw_bipush (pc := 39) (n := (-3)) (by decide +kernel) (by decide +kernel) ?_
          exact zw_iret (pc := 41) (by decide +kernel) rfl (Nat.le_refl _) (Nat.le_refl _) ⟨_, _, rfl, rfl, h⟩
      · replace h := h.2 hc
        refine zw_bipush (pc := 24) (n := (-11)) (by decide +kernel) (by decide +kernel) ?_
        exact zw_iret (pc := 26) (by decide +kernel) rfl (Nat.le_refl _) (Nat.le_refl _) ⟨_, _, rfl, rfl, h⟩
    · replace h := h.2 hc
      refine zw_iconst (pc := 14) (n := (-1)) (by decide +kernel) ?_
      exact zw_iret (pc := 15) (by decide +kernel) rfl (Nat.le_refl _) (Nat.le_refl _) ⟨_, _, rfl, rfl, h⟩
theorem sg_X11_over_59 {g : zG} {φ : Int → zMu → Prop} {v1 : Int} {v2 : Int} {v3 : Int} {μ : zMu}
    (h : (zR v3) ∧ ((80 ≤ v3 → (0 ≤ v1 ∧ v1 < 6) ∧ zOv g zm_X11_divides [.ref 203, .ref 210, .ref 211, .int (zJ ((zup (zup μ 203 7 (-(μ 204 v1.toNat))) 203 8 ((zup μ 203 7 (-(μ 204 v1.toNat))) 205 v1.toNat)) 203 8))] (zup (zup μ 203 7 (-(μ 204 v1.toNat))) 203 8 ((zup μ 203 7 (-(μ 204 v1.toNat))) 205 v1.toNat)) (fun μ3 => zOi g zm_X11_becomes [.ref 203, .int (zJ v2)] μ3 (fun x5 μ4 => φ x5 μ4))) ∧ (v3 < 80 → ((¬ v3 = 0 → (0 ≤ v3 ∧ v3 < 80) ∧ at_X11_over_59 g φ v1 v2 (v3 + 1) (zup μ 210 v3.toNat 0)) ∧ (v3 = 0 → (0 ≤ v3 ∧ v3 < 80) ∧ at_X11_over_59 g φ v1 v2 (v3 + 1) (zup μ 210 v3.toNat 1)))))) : at_X11_over_59 g φ v1 v2 v3 μ := by
  obtain ⟨o1, h⟩ := h
  refine zw_iload_n (pc := 59) (n := 3) (i := 3) 3 (by decide +kernel) rfl rfl ?_
  refine zw_bipush (pc := 60) (n := 80) (by decide +kernel) (by decide +kernel) ?_
  refine zw_icmp_ge (pc := 62) (off := 24) (tgt := 86) (by decide +kernel) (by decide) o1 ⟨by decide, by decide⟩ (fun hc => ?_) (fun hc => ?_)
  · replace h := h.1 hc
    obtain ⟨o2, h⟩ := h
    refine zw_aload_n (pc := 86) (n := 0) (i := 0) 0 (by decide +kernel) rfl rfl ?_
    refine zw_aload_n (pc := 87) (n := 0) (i := 0) 0 (by decide +kernel) rfl rfl ?_
    refine zx_getR (pc := 88) (o := 1) (r := 204) zf_11_15 (by decide +kernel) rfl zc_203 rfl (by decide) rfl ?_
    refine zw_iload_n (pc := 91) (n := 1) (i := 1) 1 (by decide +kernel) rfl rfl ?_
    refine zx_iaload (pc := 92) (by decide +kernel) ⟨6, zc_204, o2.1, o2.2⟩ ?_
    refine zw_ineg (pc := 93) (by decide +kernel) ?_
    refine zx_putI (pc := 94) zf_11_131 (by decide +kernel) rfl zc_203 ?_
    refine zw_aload_n (pc := 97) (n := 0) (i := 0) 0 (by decide +kernel) rfl rfl ?_
    refine zw_aload_n (pc := 98) (n := 0) (i := 0) 0 (by decide +kernel) rfl rfl ?_
    refine zx_getR (pc := 99) (o := 2) (r := 205) zf_11_19 (by decide +kernel) rfl zc_203 rfl (by decide) rfl ?_
    refine zw_iload_n (pc := 102) (n := 1) (i := 1) 1 (by decide +kernel) rfl rfl ?_
    refine zx_iaload (pc := 103) (by decide +kernel) ⟨6, zc_205, o2.1, o2.2⟩ ?_
    refine zx_putI (pc := 104) zf_11_134 (by decide +kernel) rfl zc_203 ?_
    refine zw_aload_n (pc := 107) (n := 0) (i := 0) 0 (by decide +kernel) rfl rfl ?_
    refine zw_aload_n (pc := 108) (n := 0) (i := 0) 0 (by decide +kernel) rfl rfl ?_
    refine zx_getR (pc := 109) (o := 7) (r := 210) zf_11_34 (by decide +kernel) rfl zc_203 rfl (by decide) rfl ?_
    refine zw_aload_n (pc := 112) (n := 0) (i := 0) 0 (by decide +kernel) rfl rfl ?_
    refine zx_getR (pc := 113) (o := 8) (r := 211) zf_11_37 (by decide +kernel) rfl zc_203 rfl (by decide) rfl ?_
    refine zw_aload_n (pc := 116) (n := 0) (i := 0) 0 (by decide +kernel) rfl rfl ?_
    refine zx_getI (pc := 117) zf_11_134 (by decide +kernel) rfl zc_203 ?_
    refine zx_callV (pc := 120) (As := [.ref 210, .ref 211, .int (zJ ((zup (zup μ 203 7 (-(μ 204 v1.toNat))) 203 8 ((zup μ 203 7 (-(μ 204 v1.toNat))) 205 v1.toNat)) 203 8))]) h zi_X11_divides zii_X11_divides zie_X11_divides zl_11_160 (by decide +kernel) ⟨Nat.le_of_ble_eq_true rfl, Nat.le_of_ble_eq_true rfl⟩ rfl zc_203 (by decide) rfl rfl ⟨rfl, rfl⟩ ⟨Nat.zero_le _, Nat.zero_le _⟩ (zkv (fun μ3 h => ?_))
    refine zw_aload_n (pc := 123) (n := 0) (i := 0) 0 (by decide +kernel) rfl rfl ?_
    refine zw_iload_n (pc := 124) (n := 2) (i := 2) 2 (by decide +kernel) rfl rfl ?_
    refine zx_callV (pc := 125) (As := [.int (zJ v2)]) h zi_X11_becomes zii_X11_becomes zie_X11_becomes zl_11_163 (by decide +kernel) ⟨Nat.le_of_ble_eq_true rfl, Nat.le_of_ble_eq_true rfl⟩ rfl zc_203 (by decide) rfl rfl ⟨rfl, rfl⟩ ⟨Nat.zero_le _, Nat.zero_le _⟩ (zki (fun x5 μ4 h => ?_))
    exact zw_iret (pc := 128) (by decide +kernel) rfl (Nat.le_refl _) (Nat.le_refl _) ⟨_, _, rfl, rfl, h⟩
  · replace h := h.2 hc
    refine zw_aload_n (pc := 65) (n := 0) (i := 0) 0 (by decide +kernel) rfl rfl ?_
    refine zx_getR (pc := 66) (o := 7) (r := 210) zf_11_34 (by decide +kernel) rfl zc_203 rfl (by decide) rfl ?_
    refine zw_iload_n (pc := 69) (n := 3) (i := 3) 3 (by decide +kernel) rfl rfl ?_
    refine zw_iload_n (pc := 70) (n := 3) (i := 3) 3 (by decide +kernel) rfl rfl ?_
    refine zw_if_ne (pc := 71) (off := 7) (tgt := 78) (by decide +kernel) (by decide) o1 (fun hc => ?_) (fun hc => ?_)
    · replace h := h.1 hc
      obtain ⟨o6, h⟩ := h
      refine zw_iconst (pc := 78) (n := 0) (by decide +kernel) ?_
      refine zx_iastore (pc := 79) (by decide +kernel) ⟨80, zc_210, o6.1, o6.2⟩ ?_
      refine zw_iinc (pc := 80) (i := 3) (n := 1) (lv' := [(0, .ref 203), (1, .int (zJ v1)), (2, .int (zJ v2)), (3, .int (zJ (v3 + 1)))]) 3 (by decide +kernel) rfl rfl (Nat.le_of_ble_eq_true rfl) rfl ?_
      refine zw_goto (pc := 83) (off := (-24)) (tgt := 59) (by decide +kernel) (by decide) ?_
      exact h
    · replace h := h.2 hc
      obtain ⟨o7, h⟩ := h
      refine zw_iconst (pc := 74) (n := 1) (by decide +kernel) ?_
      refine zw_goto (pc := 75) (off := 4) (tgt := 79) (by decide +kernel) (by decide) ?_
      refine zx_iastore (pc := 79) (by decide +kernel) ⟨80, zc_210, o7.1, o7.2⟩ ?_
      refine zw_iinc (pc := 80) (i := 3) (n := 1) (lv' := [(0, .ref 203), (1, .int (zJ v1)), (2, .int (zJ v2)), (3, .int (zJ (v3 + 1)))]) 3 (by decide +kernel) rfl rfl (Nat.le_of_ble_eq_true rfl) rfl ?_
      refine zw_goto (pc := 83) (off := (-24)) (tgt := 59) (by decide +kernel) (by decide) ?_
      exact h
theorem sg_X11_power {g : zG} {φ : Int → zMu → Prop} {v1 : Int} {v2 : Int} {v3 : Int} {μ : zMu}
    (h : zOi g zm_X11_isSeries [.int (zJ v1)] μ (fun x2 μ1 => (zR x2) ∧ ((x2 = 0 → φ (-1) μ1) ∧ (¬ x2 = 0 → zOi g zm_X11_isSeries [.int (zJ v3)] μ1 (fun x5 μ4 => (zR x5) ∧ ((¬ x5 = 0 → (zR v2) ∧ zOi g zm_X11_in [.long (zL v2), .long (zL 0), .long (zL 9)] μ4 (fun x9 μ8 => (zR x9) ∧ ((¬ x9 = 0 → zOi g zm_X11_isThere [.ref 203, .int (zJ v1)] μ8 (fun x12 μ11 => (zR x12) ∧ ((¬ x12 = 0 → (0 ≤ v1 ∧ v1 < 6) ∧ zOi g zm_X11_isStart [.int (zJ (v2 * (μ11 204 v1.toNat)))] μ11 (fun x16 μ15 => (zR x16) ∧ ((¬ x16 = 0 → zOv g zm_X11_powers [.ref 203, .int (zJ v1), .int (zJ v2), .int (zJ ((zup (zup μ15 203 7 (v2 * (μ15 204 v1.toNat))) 203 8 ((zup μ15 203 7 (v2 * (μ15 204 v1.toNat))) 205 v1.toNat)) 203 8))] (zup (zup μ15 203 7 (v2 * (μ15 204 v1.toNat))) 203 8 ((zup μ15 203 7 (v2 * (μ15 204 v1.toNat))) 205 v1.toNat)) (fun μ18 => zOi g zm_X11_becomes [.ref 203, .int (zJ v3)] μ18 (fun x20 μ19 => φ x20 μ19))) ∧ (x16 = 0 → φ (-3) μ15)))) ∧ (x12 = 0 → φ (-11) μ11)))) ∧ (x9 = 0 → φ (-2) μ8)))) ∧ (x5 = 0 → φ (-1) μ4))))))) : zOi g zm_X11_power [.ref 203, .int (zJ v1), .int (zJ v2), .int (zJ v3)] μ φ := by
  refine zok_of (by decide +kernel) rfl ?_
  show zWP g zm_X11_power (zmo g zm_X11_power (zΦi φ)) 0 [(0, .ref 203), (1, .int (zJ v1)), (2, .int (zJ v2)), (3, .int (zJ v3))] [] 0 0 (zw μ)
  refine zw_iload_n (pc := 0) (n := 1) (i := 1) 1 (by decide +kernel) rfl rfl ?_
  refine zx_callS (pc := 1) (As := [.int (zJ v1)]) h zi_X11_isSeries zis_X11_isSeries zl_11_141 (by decide +kernel) ⟨Nat.le_of_ble_eq_true rfl, Nat.le_of_ble_eq_true rfl⟩ rfl rfl ⟨rfl, rfl⟩ ⟨Nat.zero_le _, Nat.zero_le _⟩ (zki (fun x2 μ1 h => ?_))
  obtain ⟨o3, h⟩ := h
  refine zw_if_eq (pc := 4) (off := 10) (tgt := 14) (by decide +kernel) (by decide) o3 (fun hc => ?_) (fun hc => ?_)
  · replace h := h.1 hc
    refine zw_iconst (pc := 14) (n := (-1)) (by decide +kernel) ?_
    exact zw_iret (pc := 15) (by decide +kernel) rfl (Nat.le_refl _) (Nat.le_refl _) ⟨_, _, rfl, rfl, h⟩
  · replace h := h.2 hc
    refine zw_iload_n (pc := 7) (n := 3) (i := 3) 3 (by decide +kernel) rfl rfl ?_
    refine zx_callS (pc := 8) (As := [.int (zJ v3)]) h zi_X11_isSeries zis_X11_isSeries zl_11_141 (by decide +kernel) ⟨Nat.le_of_ble_eq_true rfl, Nat.le_of_ble_eq_true rfl⟩ rfl rfl ⟨rfl, rfl⟩ ⟨Nat.zero_le _, Nat.zero_le _⟩ (zki (fun x5 μ4 h => ?_))
    obtain ⟨o6, h⟩ := h
    refine zw_if_ne (pc := 11) (off := 5) (tgt := 16) (by decide +kernel) (by decide) o6 (fun hc => ?_) (fun hc => ?_)
    · replace h := h.1 hc
      obtain ⟨o7, h⟩ := h
      refine zw_iload_n (pc := 16) (n := 2) (i := 2) 2 (by decide +kernel) rfl rfl ?_
      refine zw_i2l (pc := 17) (by decide +kernel) o7 ?_
      refine zw_lconst (pc := 18) (n := 0) (v := 0) (by decide +kernel) rfl ?_
      refine zw_ldc2 (pc := 19) (v := 9) (by decide +kernel) zk_11_181 ?_
      refine zx_callS (pc := 22) (As := [.long (zL v2), .long (zL 0), .long (zL 9)]) h zi_X11_in zis_X11_in zl_11_114 (by decide +kernel) ⟨Nat.le_of_ble_eq_true rfl, Nat.le_of_ble_eq_true rfl⟩ rfl rfl ⟨rfl, rfl⟩ ⟨Nat.zero_le _, Nat.zero_le _⟩ (zki (fun x9 μ8 h => ?_))
      obtain ⟨o10, h⟩ := h
      refine zw_if_ne (pc := 25) (off := 6) (tgt := 31) (by decide +kernel) (by decide) o10 (fun hc => ?_) (fun hc => ?_)
      · replace h := h.1 hc
        refine zw_aload_n (pc := 31) (n := 0) (i := 0) 0 (by decide +kernel) rfl rfl ?_
        refine zw_iload_n (pc := 32) (n := 1) (i := 1) 1 (by decide +kernel) rfl rfl ?_
        refine zx_callV (pc := 33) (As := [.int (zJ v1)]) h zi_X11_isThere zii_X11_isThere zie_X11_isThere zl_11_166 (by decide +kernel) ⟨Nat.le_of_ble_eq_true rfl, Nat.le_of_ble_eq_true rfl⟩ rfl zc_203 (by decide) rfl rfl ⟨rfl, rfl⟩ ⟨Nat.zero_le _, Nat.zero_le _⟩ (zki (fun x12 μ11 h => ?_))
        obtain ⟨o13, h⟩ := h
        refine zw_if_ne (pc := 36) (off := 6) (tgt := 42) (by decide +kernel) (by decide) o13 (fun hc => ?_) (fun hc => ?_)
        · replace h := h.1 hc
          obtain ⟨o14, h⟩ := h
          refine zw_iload_n (pc := 42) (n := 2) (i := 2) 2 (by decide +kernel) rfl rfl ?_
          refine zw_aload_n (pc := 43) (n := 0) (i := 0) 0 (by decide +kernel) rfl rfl ?_
          refine zx_getR (pc := 44) (o := 1) (r := 204) zf_11_15 (by decide +kernel) rfl zc_203 rfl (by decide) rfl ?_
          refine zw_iload_n (pc := 47) (n := 1) (i := 1) 1 (by decide +kernel) rfl rfl ?_
          refine zx_iaload (pc := 48) (by decide +kernel) ⟨6, zc_204, o14.1, o14.2⟩ ?_
          refine zw_imul (pc := 49) (by decide +kernel) ?_
          refine zx_callS (pc := 50) (As := [.int (zJ (v2 * (μ11 204 v1.toNat)))]) h zi_X11_isStart zis_X11_isStart zl_11_178 (by decide +kernel) ⟨Nat.le_of_ble_eq_true rfl, Nat.le_of_ble_eq_true rfl⟩ rfl rfl ⟨rfl, rfl⟩ ⟨Nat.zero_le _, Nat.zero_le _⟩ (zki (fun x16 μ15 h => ?_))
          obtain ⟨o17, h⟩ := h
          refine zw_if_ne (pc := 53) (off := 6) (tgt := 59) (by decide +kernel) (by decide) o17 (fun hc => ?_) (fun hc => ?_)
          · replace h := h.1 hc
            refine zw_aload_n (pc := 59) (n := 0) (i := 0) 0 (by decide +kernel) rfl rfl ?_
            refine zw_iload_n (pc := 60) (n := 2) (i := 2) 2 (by decide +kernel) rfl rfl ?_
            refine zw_aload_n (pc := 61) (n := 0) (i := 0) 0 (by decide +kernel) rfl rfl ?_
            refine zx_getR (pc := 62) (o := 1) (r := 204) zf_11_15 (by decide +kernel) rfl zc_203 rfl (by decide) rfl ?_
            refine zw_iload_n (pc := 65) (n := 1) (i := 1) 1 (by decide +kernel) rfl rfl ?_
            refine zx_iaload (pc := 66) (by decide +kernel) ⟨6, zc_204, o14.1, o14.2⟩ ?_
            refine zw_imul (pc := 67) (by decide +kernel) ?_
            refine zx_putI (pc := 68) zf_11_131 (by decide +kernel) rfl zc_203 ?_
            refine zw_aload_n (pc := 71) (n := 0) (i := 0) 0 (by decide +kernel) rfl rfl ?_
            refine zw_aload_n (pc := 72) (n := 0) (i := 0) 0 (by decide +kernel) rfl rfl ?_
            refine zx_getR (pc := 73) (o := 2) (r := 205) zf_11_19 (by decide +kernel) rfl zc_203 rfl (by decide) rfl ?_
            refine zw_iload_n (pc := 76) (n := 1) (i := 1) 1 (by decide +kernel) rfl rfl ?_
            refine zx_iaload (pc := 77) (by decide +kernel) ⟨6, zc_205, o14.1, o14.2⟩ ?_
            refine zx_putI (pc := 78) zf_11_134 (by decide +kernel) rfl zc_203 ?_
            refine zw_aload_n (pc := 81) (n := 0) (i := 0) 0 (by decide +kernel) rfl rfl ?_
            refine zw_iload_n (pc := 82) (n := 1) (i := 1) 1 (by decide +kernel) rfl rfl ?_
            refine zw_iload_n (pc := 83) (n := 2) (i := 2) 2 (by decide +kernel) rfl rfl ?_
            refine zw_aload_n (pc := 84) (n := 0) (i := 0) 0 (by decide +kernel) rfl rfl ?_
            refine zx_getI (pc := 85) zf_11_134 (by decide +kernel) rfl zc_203 ?_
            refine zx_callV (pc := 88) (As := [.int (zJ v1), .int (zJ v2), .int (zJ ((zup (zup μ15 203 7 (v2 * (μ15 204 v1.toNat))) 203 8 ((zup μ15 203 7 (v2 * (μ15 204 v1.toNat))) 205 v1.toNat)) 203 8))]) h zi_X11_powers zii_X11_powers zie_X11_powers zl_11_183 (by decide +kernel) ⟨Nat.le_of_ble_eq_true rfl, Nat.le_of_ble_eq_true rfl⟩ rfl zc_203 (by decide) rfl rfl ⟨rfl, rfl⟩ ⟨Nat.zero_le _, Nat.zero_le _⟩ (zkv (fun μ18 h => ?_))
            refine zw_aload_n (pc := 91) (n := 0) (i := 0) 0 (by decide +kernel) rfl rfl ?_
            refine zw_iload_n (pc := 92) (n := 3) (i := 3) 3 (by decide +kernel) rfl rfl ?_
            refine zx_callV (pc := 93) (As := [.int (zJ v3)]) h zi_X11_becomes zii_X11_becomes zie_X11_becomes zl_11_163 (by decide +kernel) ⟨Nat.le_of_ble_eq_true rfl, Nat.le_of_ble_eq_true rfl⟩ rfl zc_203 (by decide) rfl rfl ⟨rfl, rfl⟩ ⟨Nat.zero_le _, Nat.zero_le _⟩ (zki (fun x20 μ19 h => ?_))
            exact zw_iret (pc := 96) (by decide +kernel) rfl (Nat.le_refl _) (Nat.le_refl _) ⟨_, _, rfl, rfl, h⟩
          · replace h := h.2 hc
            refine zw_bipush (pc := 56) (n := (-3)) (by decide +kernel) (by decide +kernel) ?_
            exact zw_iret (pc := 58) (by decide +kernel) rfl (Nat.le_refl _) (Nat.le_refl _) ⟨_, _, rfl, rfl, h⟩
        · replace h := h.2 hc
          refine zw_bipush (pc := 39) (n := (-11)) (by decide +kernel) (by decide +kernel) ?_
          exact zw_iret (pc := 41) (by decide +kernel) rfl (Nat.le_refl _) (Nat.le_refl _) ⟨_, _, rfl, rfl, h⟩
      · replace h := h.2 hc
        refine zw_bipush (pc := 28) (n := (-2)) (by decide +kernel) (by decide +kernel) ?_
        exact zw_iret (pc := 30) (by decide +kernel) rfl (Nat.le_refl _) (Nat.le_refl _) ⟨_, _, rfl, rfl, h⟩
    · replace h := h.2 hc
      refine zw_iconst (pc := 14) (n := (-1)) (by decide +kernel) ?_
      exact zw_iret (pc := 15) (by decide +kernel) rfl (Nat.le_refl _) (Nat.le_refl _) ⟨_, _, rfl, rfl, h⟩
