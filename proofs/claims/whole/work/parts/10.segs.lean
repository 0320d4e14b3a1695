theorem zok_ofF {g : zG} {M : zM} {args : List Value} {w : zWS} {Φ : Option Value → zWS → Prop} (hy : plainFor M.1 = true) (hn : Nat.ble (lg_sl args).length M.2.2.1 = true) (k : zWP g M (zmo g M Φ) 0 (lv_args 0 args) [] 0 0 w) : zOK g M args w Φ := by
  refine va_MetF (cc := M.2.1) (maxL := M.2.2.1) (ret := M.2.2.2.1) hy rfl ?_
  intro p e s m av below meth c s₁ B hml hv
  obtain ⟨rfl, hU, hB, hW⟩ := hv
  have hts := atoms_spec (ws := zws M) B.pre
  have hl := lv_entry (args.map (ztv g)) (n := M.2.2.1) (by rw [zlg_len]; exact Nat.le_of_ble_eq_true hn)
  rw [lg_entry_eq]
  generalize (lg_sl (args.map (ztv g)) ++ List.replicate (M.2.2.1 - (lg_sl (args.map (ztv g))).length) Slot.unset).toArray = ls at hl ⊢
  rw [zlv_args] at hl
  exact k p e s m _ below meth c s.heap [] ls ⟨B.exec, B.bytes, hml, B.returns, fun x hx => hts x (List.mem_cons_of_mem _ hx), findClass_of_methodNamed B.named, B.notSynchronized, fun _ => (name_of_methodNamed B.named B.method).1.trans (by assumption), hU, hB, trivial⟩ hl hW va_S.rf
theorem sg_J9_floorMod_7cf53 {g : zG} {φ : Int → zMu → Prop} {v0 : Int} {v1 : Int} {μ : zMu}
    (h : (zR v0) ∧ (zR v1) ∧ (v1 ≠ 0) ∧ (zR (zxor v0 v1)) ∧ ((0 ≤ (zxor v0 v1) → φ (v0.tmod v1) μ) ∧ ((zxor v0 v1) < 0 → (zR (v0.tmod v1)) ∧ (((v0.tmod v1) = 0 → φ (v0.tmod v1) μ) ∧ (¬ (v0.tmod v1) = 0 → φ ((v0.tmod v1) + v1) μ))))) : zOi g zm_J9_floorMod_7cf53 [.int (zJ v0), .int (zJ v1)] μ φ := by
  refine zok_ofF (by decide +kernel) rfl ?_
  show zWP g zm_J9_floorMod_7cf53 (zmo g zm_J9_floorMod_7cf53 (zΦi φ)) 0 [(0, .int (zJ v0)), (1, .int (zJ v1))] [] 0 0 (zw μ)
  obtain ⟨o1, o2, o3, o4, h⟩ := h
  refine zw_iload_n (pc := 0) (n := 0) (i := 0) 0 (by decide +kernel) rfl rfl ?_
  refine zw_iload_n (pc := 1) (n := 1) (i := 1) 1 (by decide +kernel) rfl rfl ?_
  refine zw_irem (pc := 2) (by decide +kernel) o1 o2 o3 ?_
  refine zw_istore_n (pc := 3) (n := 2) (i := 2) (lv' := [(0, .int (zJ v0)), (1, .int (zJ v1)), (2, .int (zJ (v0.tmod v1)))]) (by decide +kernel) rfl (Nat.le_of_ble_eq_true rfl) rfl ?_
  refine zw_iload_n (pc := 4) (n := 0) (i := 0) 0 (by decide +kernel) rfl rfl ?_
  refine zw_iload_n (pc := 5) (n := 1) (i := 1) 1 (by decide +kernel) rfl rfl ?_
  refine zw_ixor (pc := 6) (by decide +kernel) ?_
  refine zw_if_ge (pc := 7) (off := 11) (tgt := 18) (by decide +kernel) (by decide) o4 (fun hc => ?_) (fun hc => ?_)
  · replace h := h.1 hc
    refine zw_iload_n (pc := 18) (n := 2) (i := 2) 2 (by decide +kernel) rfl rfl ?_
    exact zw_iret (pc := 19) (by decide +kernel) rfl (Nat.le_refl _) (Nat.le_refl _) ⟨_, _, rfl, rfl, h⟩
  · replace h := h.2 hc
    obtain ⟨o5, h⟩ := h
    refine zw_iload_n (pc := 10) (n := 2) (i := 2) 2 (by decide +kernel) rfl rfl ?_
    refine zw_if_eq (pc := 11) (off := 7) (tgt := 18) (by decide +kernel) (by decide) o5 (fun hc => ?_) (fun hc => ?_)
    · replace h := h.1 hc
      refine zw_iload_n (pc := 18) (n := 2) (i := 2) 2 (by decide +kernel) rfl rfl ?_
      exact zw_iret (pc := 19) (by decide +kernel) rfl (Nat.le_refl _) (Nat.le_refl _) ⟨_, _, rfl, rfl, h⟩
    · replace h := h.2 hc
      refine zw_iload_n (pc := 14) (n := 2) (i := 2) 2 (by decide +kernel) rfl rfl ?_
      refine zw_iload_n (pc := 15) (n := 1) (i := 1) 1 (by decide +kernel) rfl rfl ?_
      refine zw_iadd (pc := 16) (by decide +kernel) ?_
      exact zw_iret (pc := 17) (by decide +kernel) rfl (Nat.le_refl _) (Nat.le_refl _) ⟨_, _, rfl, rfl, h⟩
theorem sg_X6_become {g : zG} {φ : zMu → Prop} {c : Nat} {v1 : Int} {v2 : Int} {v3 : Nat} {μ : zMu} (h_c : zS c 6 3)
    (h : (∃ n0 n1, zS v3 12 n0 ∧ zS (c + 1) 12 n1 ∧ 0 ≤ (0 : Int) ∧ 0 ≤ (0 : Int) ∧ 0 ≤ v2 ∧ (0 : Int) + v2 ≤ n0 ∧ (0 : Int) + v2 ≤ n1) ∧ φ (zcp (zup (zup μ c 1 v1) c 2 v2) v3 0 (c + 1) 0 v2.toNat)) : zOv g zm_X6_become [.ref c, .int (zJ v1), .int (zJ v2), .ref v3] μ φ := by
  refine zok_of (by decide +kernel) rfl ?_
  show zWP g zm_X6_become (zmo g zm_X6_become (zΦv φ)) 0 [(0, .ref c), (1, .int (zJ v1)), (2, .int (zJ v2)), (3, .ref v3)] [] 0 0 (zw μ)
  obtain ⟨o2, h⟩ := h
  refine zw_aload_n (pc := 0) (n := 0) (i := 0) 0 (by decide +kernel) rfl rfl ?_
  refine zw_iload_n (pc := 1) (n := 1) (i := 1) 1 (by decide +kernel) rfl rfl ?_
  refine zx_putI (pc := 2) zf_6_15 (by decide +kernel) rfl h_c ?_
  refine zw_aload_n (pc := 5) (n := 0) (i := 0) 0 (by decide +kernel) rfl rfl ?_
  refine zw_iload_n (pc := 6) (n := 2) (i := 2) 2 (by decide +kernel) rfl rfl ?_
  refine zx_putI (pc := 7) zf_6_19 (by decide +kernel) rfl h_c ?_
  refine zw_aload_n (pc := 10) (n := 3) (i := 3) 3 (by decide +kernel) rfl rfl ?_
  refine zw_iconst (pc := 11) (n := 0) (by decide +kernel) ?_
  refine zw_aload_n (pc := 12) (n := 0) (i := 0) 0 (by decide +kernel) rfl rfl ?_
  have q1 : zS (c + 1) 12 80 := zq 0 h_c rfl
  refine zx_getR (pc := 13) (o := 1) (r := (c + 1)) zf_6_9 (by decide +kernel) rfl h_c rfl (by decide) rfl ?_
  refine zw_iconst (pc := 16) (n := 0) (by decide +kernel) ?_
  refine zw_iload_n (pc := 17) (n := 2) (i := 2) 2 (by decide +kernel) rfl rfl ?_
  refine zx_copy (pc := 18) zl_6_22 zb_cpN zb_cpS zb_cpI (by decide +kernel) ⟨Nat.le_of_ble_eq_true rfl, by decide +kernel⟩ rfl o2 ?_
  exact zw_vret (pc := 21) (by decide +kernel) rfl (Nat.le_refl _) (Nat.le_refl _) ⟨_, rfl, rfl, h⟩
theorem sg_X6_isMissing {g : zG} {φ : Int → zMu → Prop} {c : Nat} {μ : zMu} (h_c : zS c 6 3)
    (h : (zR (μ c 2)) ∧ ((¬ (μ c 2) = 0 → φ 0 μ) ∧ ((μ c 2) = 0 → φ 1 μ))) : zOi g zm_X6_isMissing [.ref c] μ φ := by
  refine zok_of (by decide +kernel) rfl ?_
  show zWP g zm_X6_isMissing (zmo g zm_X6_isMissing (zΦi φ)) 0 [(0, .ref c)] [] 0 0 (zw μ)
  obtain ⟨o1, h⟩ := h
  refine zw_aload_n (pc := 0) (n := 0) (i := 0) 0 (by decide +kernel) rfl rfl ?_
  refine zx_getI (pc := 1) zf_6_19 (by decide +kernel) rfl h_c ?_
  refine zw_if_ne (pc := 4) (off := 7) (tgt := 11) (by decide +kernel) (by decide) o1 (fun hc => ?_) (fun hc => ?_)
  · replace h := h.1 hc
    refine zw_iconst (pc := 11) (n := 0) (by decide +kernel) ?_
    exact zw_zret (pc := 12) (by decide +kernel) rfl (Nat.le_refl _) (Nat.le_refl _) (Or.inl rfl) ⟨_, _, rfl, rfl, h⟩
  · replace h := h.2 hc
    refine zw_iconst (pc := 7) (n := 1) (by decide +kernel) ?_
    refine zw_goto (pc := 8) (off := 4) (tgt := 12) (by decide +kernel) (by decide) ?_
    exact zw_zret (pc := 12) (by decide +kernel) rfl (Nat.le_refl _) (Nat.le_refl _) (Or.inr rfl) ⟨_, _, rfl, rfl, h⟩
theorem sg_X6_last {g : zG} {φ : Int → zMu → Prop} {c : Nat} {μ : zMu} (h_c : zS c 6 3)
    (h : φ (((μ c 1) + (μ c 2)) - 1) μ) : zOi g zm_X6_last [.ref c] μ φ := by
  refine zok_of (by decide +kernel) rfl ?_
  show zWP g zm_X6_last (zmo g zm_X6_last (zΦi φ)) 0 [(0, .ref c)] [] 0 0 (zw μ)
  refine zw_aload_n (pc := 0) (n := 0) (i := 0) 0 (by decide +kernel) rfl rfl ?_
  refine zx_getI (pc := 1) zf_6_15 (by decide +kernel) rfl h_c ?_
  refine zw_aload_n (pc := 4) (n := 0) (i := 0) 0 (by decide +kernel) rfl rfl ?_
  refine zx_getI (pc := 5) zf_6_19 (by decide +kernel) rfl h_c ?_
  refine zw_iadd (pc := 8) (by decide +kernel) ?_
  refine zw_iconst (pc := 9) (n := 1) (by decide +kernel) ?_
  refine zw_isub (pc := 10) (by decide +kernel) ?_
  exact zw_iret (pc := 11) (by decide +kernel) rfl (Nat.le_refl _) (Nat.le_refl _) ⟨_, _, rfl, rfl, h⟩
theorem sg_X6_valueOf {g : zG} {φ : Int → zMu → Prop} {c : Nat} {v1 : Int} {μ : zMu} (h_c : zS c 6 3)
    (h : (zR v1) ∧ (zR (μ c 1)) ∧ (((μ c 1) ≤ v1 → (0 ≤ (v1 - (μ c 1)) ∧ (v1 - (μ c 1)) < 80) ∧ φ (μ (c + 1) (Int.toNat (v1 - (μ c 1)))) μ) ∧ (v1 < (μ c 1) → φ 0 μ))) : zOi g zm_X6_valueOf [.ref c, .int (zJ v1)] μ φ := by
  refine zok_of (by decide +kernel) rfl ?_
  show zWP g zm_X6_valueOf (zmo g zm_X6_valueOf (zΦi φ)) 0 [(0, .ref c), (1, .int (zJ v1))] [] 0 0 (zw μ)
  obtain ⟨o1, o2, h⟩ := h
  refine zw_iload_n (pc := 0) (n := 1) (i := 1) 1 (by decide +kernel) rfl rfl ?_
  refine zw_aload_n (pc := 1) (n := 0) (i := 0) 0 (by decide +kernel) rfl rfl ?_
  refine zx_getI (pc := 2) zf_6_15 (by decide +kernel) rfl h_c ?_
  refine zw_icmp_ge (pc := 5) (off := 7) (tgt := 12) (by decide +kernel) (by decide) o1 o2 (fun hc => ?_) (fun hc => ?_)
  · replace h := h.1 hc
    obtain ⟨o4, h⟩ := h
    refine zw_aload_n (pc := 12) (n := 0) (i := 0) 0 (by decide +kernel) rfl rfl ?_
    have q3 : zS (c + 1) 12 80 := zq 0 h_c rfl
    refine zx_getR (pc := 13) (o := 1) (r := (c + 1)) zf_6_9 (by decide +kernel) rfl h_c rfl (by decide) rfl ?_
    refine zw_iload_n (pc := 16) (n := 1) (i := 1) 1 (by decide +kernel) rfl rfl ?_
    refine zw_aload_n (pc := 17) (n := 0) (i := 0) 0 (by decide +kernel) rfl rfl ?_
    refine zx_getI (pc := 18) zf_6_15 (by decide +kernel) rfl h_c ?_
    refine zw_isub (pc := 21) (by decide +kernel) ?_
    refine zx_iaload (pc := 22) (by decide +kernel) ⟨80, q3, o4.1, o4.2⟩ ?_
    exact zw_iret (pc := 23) (by decide +kernel) rfl (Nat.le_refl _) (Nat.le_refl _) ⟨_, _, rfl, rfl, h⟩
  · replace h := h.2 hc
    refine zw_iconst (pc := 8) (n := 0) (by decide +kernel) ?_
    refine zw_goto (pc := 9) (off := 14) (tgt := 23) (by decide +kernel) (by decide) ?_
    exact zw_iret (pc := 23) (by decide +kernel) rfl (Nat.le_refl _) (Nat.le_refl _) ⟨_, _, rfl, rfl, h⟩
abbrev at_X6_firstNonzero_2 (g : zG) (φ : Int → zMu → Prop) (c : Nat) (v1 : Int) (μ : zMu) : Prop := zWP g zm_X6_firstNonzero (zmo g zm_X6_firstNonzero (zΦi φ)) 2 [(0, .ref c), (1, .int (zJ v1))] [] 0 0 (zw μ)
theorem sg_X6_firstNonzero {g : zG} {φ : Int → zMu → Prop} {c : Nat} {μ : zMu} (h_c : zS c 6 3)
    (h : at_X6_firstNonzero_2 g φ c 0 μ) : zOi g zm_X6_firstNonzero [.ref c] μ φ := by
  refine zok_of (by decide +kernel) rfl ?_
  show zWP g zm_X6_firstNonzero (zmo g zm_X6_firstNonzero (zΦi φ)) 0 [(0, .ref c)] [] 0 0 (zw μ)
  refine zw_iconst (pc := 0) (n := 0) (by decide +kernel) ?_
  refine zw_istore_n (pc := 1) (n := 1) (i := 1) (lv' := [(0, .ref c), (1, .int (zJ 0))]) (by decide +kernel) rfl (Nat.le_of_ble_eq_true rfl) rfl ?_
  exact h
theorem sg_X6_firstNonzero_2 {g : zG} {φ : Int → zMu → Prop} {c : Nat} {v1 : Int} {μ : zMu} (h_c : zS c 6 3)
    (h : (zR v1) ∧ (zR (μ c 2)) ∧ (((μ c 2) ≤ v1 → φ (-1) μ) ∧ (v1 < (μ c 2) → (0 ≤ v1 ∧ v1 < 80) ∧ (zR (μ (c + 1) v1.toNat)) ∧ (((μ (c + 1) v1.toNat) = 0 → at_X6_firstNonzero_2 g φ c (v1 + 1) μ) ∧ (¬ (μ (c + 1) v1.toNat) = 0 → φ v1 μ))))) : at_X6_firstNonzero_2 g φ c v1 μ := by
  obtain ⟨o1, o2, h⟩ := h
  refine zw_iload_n (pc := 2) (n := 1) (i := 1) 1 (by decide +kernel) rfl rfl ?_
  refine zw_aload_n (pc := 3) (n := 0) (i := 0) 0 (by decide +kernel) rfl rfl ?_
  refine zx_getI (pc := 4) zf_6_19 (by decide +kernel) rfl h_c ?_
  refine zw_icmp_ge (pc := 7) (off := 20) (tgt := 27) (by decide +kernel) (by decide) o1 o2 (fun hc => ?_) (fun hc => ?_)
  · replace h := h.1 hc
    refine zw_iconst (pc := 27) (n := (-1)) (by decide +kernel) ?_
    exact zw_iret (pc := 28) (by decide +kernel) rfl (Nat.le_refl _) (Nat.le_refl _) ⟨_, _, rfl, rfl, h⟩
  · replace h := h.2 hc
    obtain ⟨o4, o5, h⟩ := h
    refine zw_aload_n (pc := 10) (n := 0) (i := 0) 0 (by decide +kernel) rfl rfl ?_
    have q3 : zS (c + 1) 12 80 := zq 0 h_c rfl
    refine zx_getR (pc := 11) (o := 1) (r := (c + 1)) zf_6_9 (by decide +kernel) rfl h_c rfl (by decide) rfl ?_
    refine zw_iload_n (pc := 14) (n := 1) (i := 1) 1 (by decide +kernel) rfl rfl ?_
    refine zx_iaload (pc := 15) (by decide +kernel) ⟨80, q3, o4.1, o4.2⟩ ?_
    refine zw_if_eq (pc := 16) (off := 5) (tgt := 21) (by decide +kernel) (by decide) o5 (fun hc => ?_) (fun hc => ?_)
    · replace h := h.1 hc
      refine zw_iinc (pc := 21) (i := 1) (n := 1) (lv' := [(0, .ref c), (1, .int (zJ (v1 + 1)))]) 1 (by decide +kernel) rfl rfl (Nat.le_of_ble_eq_true rfl) rfl ?_
      refine zw_goto (pc := 24) (off := (-22)) (tgt := 2) (by decide +kernel) (by decide) ?_
      exact h
    · replace h := h.2 hc
      refine zw_iload_n (pc := 19) (n := 1) (i := 1) 1 (by decide +kernel) rfl rfl ?_
      exact zw_iret (pc := 20) (by decide +kernel) rfl (Nat.le_refl _) (Nat.le_refl _) ⟨_, _, rfl, rfl, h⟩
theorem sg_X6_copyFrom {g : zG} {φ : zMu → Prop} {c : Nat} {v1 : Nat} {μ : zMu} (h_c : zS c 6 3) (h_v1 : zS v1 6 3)
    (h : zOv g zm_X6_become [.ref c, .int (zJ (μ v1 1)), .int (zJ (μ v1 2)), .ref (v1 + 1)] μ (fun μ2 => φ μ2)) : zOv g zm_X6_copyFrom [.ref c, .ref v1] μ φ := by
  refine zok_of (by decide +kernel) rfl ?_
  show zWP g zm_X6_copyFrom (zmo g zm_X6_copyFrom (zΦv φ)) 0 [(0, .ref c), (1, .ref v1)] [] 0 0 (zw μ)
  refine zw_aload_n (pc := 0) (n := 0) (i := 0) 0 (by decide +kernel) rfl rfl ?_
  refine zw_aload_n (pc := 1) (n := 1) (i := 1) 1 (by decide +kernel) rfl rfl ?_
  refine zx_getI (pc := 2) zf_6_15 (by decide +kernel) rfl h_v1 ?_
  refine zw_aload_n (pc := 5) (n := 1) (i := 1) 1 (by decide +kernel) rfl rfl ?_
  refine zx_getI (pc := 6) zf_6_19 (by decide +kernel) rfl h_v1 ?_
  refine zw_aload_n (pc := 9) (n := 1) (i := 1) 1 (by decide +kernel) rfl rfl ?_
  have q1 : zS (v1 + 1) 12 80 := zq 0 h_v1 rfl
  refine zx_getR (pc := 10) (o := 1) (r := (v1 + 1)) zf_6_9 (by decide +kernel) rfl h_v1 rfl (by decide) rfl ?_
  refine zx_callV (pc := 13) (As := [.int (zJ (μ v1 1)), .int (zJ (μ v1 2)), .ref (v1 + 1)]) h zi_X6_become zii_X6_become zie_X6_become zl_6_28 (by decide +kernel) ⟨Nat.le_of_ble_eq_true rfl, Nat.le_of_ble_eq_true rfl⟩ rfl h_c (by decide) rfl rfl ⟨rfl, rfl⟩ ⟨Nat.zero_le _, Nat.zero_le _⟩ (zkv (fun μ2 h => ?_))
  exact zw_vret (pc := 16) (by decide +kernel) rfl (Nat.le_refl _) (Nat.le_refl _) ⟨_, rfl, rfl, h⟩
theorem sg_X3_clear {g : zG} {φ : zMu → Prop} {c : Nat} {v1 : Int} {μ : zMu} (h_c : zS c 3 2)
    (h : zOv g zm_J7_fill_53178 [.ref (c + 1), .int (zJ 0)] (zup μ c 1 v1) (fun μ2 => φ μ2)) : zOv g zm_X3_clear [.ref c, .int (zJ v1)] μ φ := by
  refine zok_of (by decide +kernel) rfl ?_
  show zWP g zm_X3_clear (zmo g zm_X3_clear (zΦv φ)) 0 [(0, .ref c), (1, .int (zJ v1))] [] 0 0 (zw μ)
  refine zw_aload_n (pc := 0) (n := 0) (i := 0) 0 (by decide +kernel) rfl rfl ?_
  refine zw_iload_n (pc := 1) (n := 1) (i := 1) 1 (by decide +kernel) rfl rfl ?_
  refine zx_putI (pc := 2) zf_3_15 (by decide +kernel) rfl h_c ?_
  refine zw_aload_n (pc := 5) (n := 0) (i := 0) 0 (by decide +kernel) rfl rfl ?_
  have q1 : zS (c + 1) 12 81 := zq 0 h_c rfl
  refine zx_getR (pc := 6) (o := 1) (r := (c + 1)) zf_3_9 (by decide +kernel) rfl h_c rfl (by decide) rfl ?_
  refine zw_iconst (pc := 9) (n := 0) (by decide +kernel) ?_
  refine zx_callS (pc := 10) (As := [.ref (c + 1), .int (zJ 0)]) h zi_J7_fill_53178 zis_J7_fill_53178 zl_3_19 (by decide +kernel) ⟨Nat.le_of_ble_eq_true rfl, Nat.le_of_ble_eq_true rfl⟩ rfl rfl ⟨rfl, rfl⟩ ⟨Nat.zero_le _, Nat.zero_le _⟩ (zkv (fun μ2 h => ?_))
  exact zw_vret (pc := 13) (by decide +kernel) rfl (Nat.le_refl _) (Nat.le_refl _) ⟨_, rfl, rfl, h⟩
theorem sg_X3_isMissing {g : zG} {φ : Int → zMu → Prop} {c : Nat} {μ : zMu} (h_c : zS c 3 2)
    (h : (zR (μ c 1)) ∧ ((¬ (μ c 1) = 0 → φ 0 μ) ∧ ((μ c 1) = 0 → φ 1 μ))) : zOi g zm_X3_isMissing [.ref c] μ φ := by
  refine zok_of (by decide +kernel) rfl ?_
  show zWP g zm_X3_isMissing (zmo g zm_X3_isMissing (zΦi φ)) 0 [(0, .ref c)] [] 0 0 (zw μ)
  obtain ⟨o1, h⟩ := h
  refine zw_aload_n (pc := 0) (n := 0) (i := 0) 0 (by decide +kernel) rfl rfl ?_
  refine zx_getI (pc := 1) zf_3_15 (by decide +kernel) rfl h_c ?_
  refine zw_if_ne (pc := 4) (off := 7) (tgt := 11) (by decide +kernel) (by decide) o1 (fun hc => ?_) (fun hc => ?_)
  · replace h := h.1 hc
    refine zw_iconst (pc := 11) (n := 0) (by decide +kernel) ?_
    exact zw_zret (pc := 12) (by decide +kernel) rfl (Nat.le_refl _) (Nat.le_refl _) (Or.inl rfl) ⟨_, _, rfl, rfl, h⟩
  · replace h := h.2 hc
    refine zw_iconst (pc := 7) (n := 1) (by decide +kernel) ?_
    refine zw_goto (pc := 8) (off := 4) (tgt := 12) (by decide +kernel) (by decide) ?_
    exact zw_zret (pc := 12) (by decide +kernel) rfl (Nat.le_refl _) (Nat.le_refl _) (Or.inr rfl) ⟨_, _, rfl, rfl, h⟩
abbrev at_X3_leadingTerm_3 (g : zG) (φ : Int → zMu → Prop) (c : Nat) (v1 : Int) (μ : zMu) : Prop := zWP g zm_X3_leadingTerm (zmo g zm_X3_leadingTerm (zΦi φ)) 3 [(0, .ref c), (1, .int (zJ v1))] [] 0 0 (zw μ)
theorem sg_X3_leadingTerm {g : zG} {φ : Int → zMu → Prop} {c : Nat} {μ : zMu} (h_c : zS c 3 2)
    (h : at_X3_leadingTerm_3 g φ c 80 μ) : zOi g zm_X3_leadingTerm [.ref c] μ φ := by
  refine zok_of (by decide +kernel) rfl ?_
  show zWP g zm_X3_leadingTerm (zmo g zm_X3_leadingTerm (zΦi φ)) 0 [(0, .ref c)] [] 0 0 (zw μ)
  refine zw_bipush (pc := 0) (n := 80) (by decide +kernel) (by decide +kernel) ?_
  refine zw_istore_n (pc := 2) (n := 1) (i := 1) (lv' := [(0, .ref c), (1, .int (zJ 80))]) (by decide +kernel) rfl (Nat.le_of_ble_eq_true rfl) rfl ?_
  exact h
theorem sg_X3_leadingTerm_3 {g : zG} {φ : Int → zMu → Prop} {c : Nat} {v1 : Int} {μ : zMu} (h_c : zS c 3 2)
    (h : (zR v1) ∧ ((v1 < 0 → φ (-5) μ) ∧ (0 ≤ v1 → (0 ≤ v1 ∧ v1 < 81) ∧ (zR (μ (c + 1) v1.toNat)) ∧ (((μ (c + 1) v1.toNat) = 0 → at_X3_leadingTerm_3 g φ c (v1 + (-1)) μ) ∧ (¬ (μ (c + 1) v1.toNat) = 0 → φ ((10 * (v1.tdiv 9)) + (v1.tmod 9)) μ))))) : at_X3_leadingTerm_3 g φ c v1 μ := by
  obtain ⟨o1, h⟩ := h
  refine zw_iload_n (pc := 3) (n := 1) (i := 1) 1 (by decide +kernel) rfl rfl ?_
  refine zw_if_lt (pc := 4) (off := 31) (tgt := 35) (by decide +kernel) (by decide) o1 (fun hc => ?_) (fun hc => ?_)
  · replace h := h.1 hc
    refine zw_bipush (pc := 35) (n := (-5)) (by decide +kernel) (by decide +kernel) ?_
    exact zw_iret (pc := 37) (by decide +kernel) rfl (Nat.le_refl _) (Nat.le_refl _) ⟨_, _, rfl, rfl, h⟩
  · replace h := h.2 hc
    obtain ⟨o3, o4, h⟩ := h
    refine zw_aload_n (pc := 7) (n := 0) (i := 0) 0 (by decide +kernel) rfl rfl ?_
    have q2 : zS (c + 1) 12 81 := zq 0 h_c rfl
    refine zx_getR (pc := 8) (o := 1) (r := (c + 1)) zf_3_9 (by decide +kernel) rfl h_c rfl (by decide) rfl ?_
    refine zw_iload_n (pc := 11) (n := 1) (i := 1) 1 (by decide +kernel) rfl rfl ?_
    refine zx_iaload (pc := 12) (by decide +kernel) ⟨81, q2, o3.1, o3.2⟩ ?_
    refine zw_if_eq (pc := 13) (off := 16) (tgt := 29) (by decide +kernel) (by decide) o4 (fun hc => ?_) (fun hc => ?_)
    · replace h := h.1 hc
      refine zw_iinc (pc := 29) (i := 1) (n := (-1)) (lv' := [(0, .ref c), (1, .int (zJ (v1 + (-1))))]) 1 (by decide +kernel) rfl rfl (Nat.le_of_ble_eq_true rfl) rfl ?_
      refine zw_goto (pc := 32) (off := (-29)) (tgt := 3) (by decide +kernel) (by decide) ?_
      exact h
    · replace h := h.2 hc
      refine zw_bipush (pc := 16) (n := 10) (by decide +kernel) (by decide +kernel) ?_
      refine zw_iload_n (pc := 18) (n := 1) (i := 1) 1 (by decide +kernel) rfl rfl ?_
      refine zw_bipush (pc := 19) (n := 9) (by decide +kernel) (by decide +kernel) ?_
      refine zw_idiv (pc := 21) (by decide +kernel) o1 ⟨by decide, by decide⟩ (by decide) ?_
      refine zw_imul (pc := 22) (by decide +kernel) ?_
      refine zw_iload_n (pc := 23) (n := 1) (i := 1) 1 (by decide +kernel) rfl rfl ?_
      refine zw_bipush (pc := 24) (n := 9) (by decide +kernel) (by decide +kernel) ?_
      refine zw_irem (pc := 26) (by decide +kernel) o1 ⟨by decide, by decide⟩ (by decide) ?_
      refine zw_iadd (pc := 27) (by decide +kernel) ?_
      exact zw_iret (pc := 28) (by decide +kernel) rfl (Nat.le_refl _) (Nat.le_refl _) ⟨_, _, rfl, rfl, h⟩
abbrev at_X3_isSymmetric_2 (g : zG) (φ : Int → zMu → Prop) (c : Nat) (v1 : Int) (μ : zMu) : Prop := zWP g zm_X3_isSymmetric (zmo g zm_X3_isSymmetric (zΦi φ)) 2 [(0, .ref c), (1, .int (zJ v1))] [] 0 0 (zw μ)
abbrev at_X3_isSymmetric_12 (g : zG) (φ : Int → zMu → Prop) (c : Nat) (v1 : Int) (v2 : Int) (μ : zMu) : Prop := zWP g zm_X3_isSymmetric (zmo g zm_X3_isSymmetric (zΦi φ)) 12 [(0, .ref c), (1, .int (zJ v1)), (2, .int (zJ v2))] [] 0 0 (zw μ)
theorem sg_X3_isSymmetric {g : zG} {φ : Int → zMu → Prop} {c : Nat} {μ : zMu} (h_c : zS c 3 2)
    (h : at_X3_isSymmetric_2 g φ c 0 μ) : zOi g zm_X3_isSymmetric [.ref c] μ φ := by
  refine zok_of (by decide +kernel) rfl ?_
  show zWP g zm_X3_isSymmetric (zmo g zm_X3_isSymmetric (zΦi φ)) 0 [(0, .ref c)] [] 0 0 (zw μ)
  refine zw_iconst (pc := 0) (n := 0) (by decide +kernel) ?_
  refine zw_istore_n (pc := 1) (n := 1) (i := 1) (lv' := [(0, .ref c), (1, .int (zJ 0))]) (by decide +kernel) rfl (Nat.le_of_ble_eq_true rfl) rfl ?_
  exact h
theorem sg_X3_isSymmetric_2 {g : zG} {φ : Int → zMu → Prop} {c : Nat} {v1 : Int} {μ : zMu} (h_c : zS c 3 2)
    (h : (zR v1) ∧ (zR (μ c 1)) ∧ (((μ c 1) < v1 → φ 1 μ) ∧ (v1 ≤ (μ c 1) → at_X3_isSymmetric_12 g φ c v1 0 μ))) : at_X3_isSymmetric_2 g φ c v1 μ := by
  obtain ⟨o1, o2, h⟩ := h
  refine zw_iload_n (pc := 2) (n := 1) (i := 1) 1 (by decide +kernel) rfl rfl ?_
  refine zw_aload_n (pc := 3) (n := 0) (i := 0) 0 (by decide +kernel) rfl rfl ?_
  refine zx_getI (pc := 4) zf_3_15 (by decide +kernel) rfl h_c ?_
  refine zw_icmp_gt (pc := 7) (off := 49) (tgt := 56) (by decide +kernel) (by decide) o1 o2 (fun hc => ?_) (fun hc => ?_)
  · replace h := h.1 hc
    refine zw_iconst (pc := 56) (n := 1) (by decide +kernel) ?_
    exact zw_zret (pc := 57) (by decide +kernel) rfl (Nat.le_refl _) (Nat.le_refl _) (Or.inr rfl) ⟨_, _, rfl, rfl, h⟩
  · replace h := h.2 hc
    refine zw_iconst (pc := 10) (n := 0) (by decide +kernel) ?_
    refine zw_istore_n (pc := 11) (n := 2) (i := 2) (lv' := [(0, .ref c), (1, .int (zJ v1)), (2, .int (zJ 0))]) (by decide +kernel) rfl (Nat.le_of_ble_eq_true rfl) rfl ?_
    exact h
theorem sg_X3_isSymmetric_12 {g : zG} {φ : Int → zMu → Prop} {c : Nat} {v1 : Int} {v2 : Int} {μ : zMu} (h_c : zS c 3 2)
    (h : (zR v2) ∧ (zR v1) ∧ ((v1 ≤ v2 → at_X3_isSymmetric_2 g φ c (v1 + 1) μ) ∧ (v2 < v1 → (0 ≤ ((9 * v1) + v2) ∧ ((9 * v1) + v2) < 81) ∧ (0 ≤ ((9 * v2) + v1) ∧ ((9 * v2) + v1) < 81) ∧ (zR (μ (c + 1) (Int.toNat ((9 * v1) + v2)))) ∧ (zR (μ (c + 1) (Int.toNat ((9 * v2) + v1)))) ∧ (((μ (c + 1) (Int.toNat ((9 * v1) + v2))) = (μ (c + 1) (Int.toNat ((9 * v2) + v1))) → at_X3_isSymmetric_12 g φ c v1 (v2 + 1) μ) ∧ (¬ (μ (c + 1) (Int.toNat ((9 * v1) + v2))) = (μ (c + 1) (Int.toNat ((9 * v2) + v1))) → φ 0 μ))))) : at_X3_isSymmetric_12 g φ c v1 v2 μ := by
  obtain ⟨o1, o2, h⟩ := h
  refine zw_iload_n (pc := 12) (n := 2) (i := 2) 2 (by decide +kernel) rfl rfl ?_
  refine zw_iload_n (pc := 13) (n := 1) (i := 1) 1 (by decide +kernel) rfl rfl ?_
  refine zw_icmp_ge (pc := 14) (off := 36) (tgt := 50) (by decide +kernel) (by decide) o1 o2 (fun hc => ?_) (fun hc => ?_)
  · replace h := h.1 hc
    refine zw_iinc (pc := 50) (i := 1) (n := 1) (lv' := [(0, .ref c), (1, .int (zJ (v1 + 1))), (2, .int (zJ v2))]) 1 (by decide +kernel) rfl rfl (Nat.le_of_ble_eq_true rfl) rfl ?_
    refine zw_goto (pc := 53) (off := (-51)) (tgt := 2) (by decide +kernel) (by decide) ?_
    exact zw_pick (lv' := [(0, .ref c), (1, .int (zJ (v1 + 1)))]) [0, 1] rfl h
  · replace h := h.2 hc
    obtain ⟨o4, o6, o7, o8, h⟩ := h
    refine zw_aload_n (pc := 17) (n := 0) (i := 0) 0 (by decide +kernel) rfl rfl ?_
    have q3 : zS (c + 1) 12 81 := zq 0 h_c rfl
    refine zx_getR (pc := 18) (o := 1) (r := (c + 1)) zf_3_9 (by decide +kernel) rfl h_c rfl (by decide) rfl ?_
    refine zw_bipush (pc := 21) (n := 9) (by decide +kernel) (by decide +kernel) ?_
    refine zw_iload_n (pc := 23) (n := 1) (i := 1) 1 (by decide +kernel) rfl rfl ?_
    refine zw_imul (pc := 24) (by decide +kernel) ?_
    refine zw_iload_n (pc := 25) (n := 2) (i := 2) 2 (by decide +kernel) rfl rfl ?_
    refine zw_iadd (pc := 26) (by decide +kernel) ?_
    refine zx_iaload (pc := 27) (by decide +kernel) ⟨81, q3, o4.1, o4.2⟩ ?_
    refine zw_aload_n (pc := 28) (n := 0) (i := 0) 0 (by decide +kernel) rfl rfl ?_
    have q5 : zS (c + 1) 12 81 := zq 0 h_c rfl
    refine zx_getR (pc := 29) (o := 1) (r := (c + 1)) zf_3_9 (by decide +kernel) rfl h_c rfl (by decide) rfl ?_
    refine zw_bipush (pc := 32) (n := 9) (by decide +kernel) (by decide +kernel) ?_
    refine zw_iload_n (pc := 34) (n := 2) (i := 2) 2 (by decide +kernel) rfl rfl ?_
    refine zw_imul (pc := 35) (by decide +kernel) ?_
    refine zw_iload_n (pc := 36) (n := 1) (i := 1) 1 (by decide +kernel) rfl rfl ?_
    refine zw_iadd (pc := 37) (by decide +kernel) ?_
    refine zx_iaload (pc := 38) (by decide +kernel) ⟨81, q5, o6.1, o6.2⟩ ?_
    refine zw_icmp_eq (pc := 39) (off := 5) (tgt := 44) (by decide +kernel) (by decide) o7 o8 (fun hc => ?_) (fun hc => ?_)
    · replace h := h.1 hc
      refine zw_iinc (pc := 44) (i := 2) (n := 1) (lv' := [(0, .ref c), (1, .int (zJ v1)), (2, .int (zJ (v2 + 1)))]) 2 (by decide +kernel) rfl rfl (Nat.le_of_ble_eq_true rfl) rfl ?_
      refine zw_goto (pc := 47) (off := (-35)) (tgt := 12) (by decide +kernel) (by decide) ?_
      exact h
    · replace h := h.2 hc
      refine zw_iconst (pc := 42) (n := 0) (by decide +kernel) ?_
      exact zw_zret (pc := 43) (by decide +kernel) rfl (Nat.le_refl _) (Nat.le_refl _) (Or.inl rfl) ⟨_, _, rfl, rfl, h⟩
abbrev at_X3_nonzeroCount_4 (g : zG) (φ : Int → zMu → Prop) (c : Nat) (v1 : Int) (v2 : Int) (μ : zMu) : Prop := zWP g zm_X3_nonzeroCount (zmo g zm_X3_nonzeroCount (zΦi φ)) 4 [(0, .ref c), (1, .int (zJ v1)), (2, .int (zJ v2))] [] 0 0 (zw μ)
theorem sg_X3_nonzeroCount {g : zG} {φ : Int → zMu → Prop} {c : Nat} {μ : zMu} (h_c : zS c 3 2)
    (h : at_X3_nonzeroCount_4 g φ c 0 0 μ) : zOi g zm_X3_nonzeroCount [.ref c] μ φ := by
  refine zok_of (by decide +kernel) rfl ?_
  show zWP g zm_X3_nonzeroCount (zmo g zm_X3_nonzeroCount (zΦi φ)) 0 [(0, .ref c)] [] 0 0 (zw μ)
  refine zw_iconst (pc := 0) (n := 0) (by decide +kernel) ?_
  refine zw_istore_n (pc := 1) (n := 1) (i := 1) (lv' := [(0, .ref c), (1, .int (zJ 0))]) (by decide +kernel) rfl (Nat.le_of_ble_eq_true rfl) rfl ?_
  refine zw_iconst (pc := 2) (n := 0) (by decide +kernel) ?_
  refine zw_istore_n (pc := 3) (n := 2) (i := 2) (lv' := [(0, .ref c), (1, .int (zJ 0)), (2, .int (zJ 0))]) (by decide +kernel) rfl (Nat.le_of_ble_eq_true rfl) rfl ?_
  exact h
theorem sg_X3_nonzeroCount_4 {g : zG} {φ : Int → zMu → Prop} {c : Nat} {v1 : Int} {v2 : Int} {μ : zMu} (h_c : zS c 3 2)
    (h : (zR v2) ∧ ((81 ≤ v2 → φ v1 μ) ∧ (v2 < 81 → (0 ≤ v2 ∧ v2 < 81) ∧ (zR (μ (c + 1) v2.toNat)) ∧ (((μ (c + 1) v2.toNat) = 0 → at_X3_nonzeroCount_4 g φ c v1 (v2 + 1) μ) ∧ (¬ (μ (c + 1) v2.toNat) = 0 → at_X3_nonzeroCount_4 g φ c (v1 + 1) (v2 + 1) μ))))) : at_X3_nonzeroCount_4 g φ c v1 v2 μ := by
  obtain ⟨o1, h⟩ := h
  refine zw_iload_n (pc := 4) (n := 2) (i := 2) 2 (by decide +kernel) rfl rfl ?_
  refine zw_bipush (pc := 5) (n := 81) (by decide +kernel) (by decide +kernel) ?_
  refine zw_icmp_ge (pc := 7) (off := 21) (tgt := 28) (by decide +kernel) (by decide) o1 ⟨by decide, by decide⟩ (fun hc => ?_) (fun hc => ?_)
  · replace h := h.1 hc
    refine zw_iload_n (pc := 28) (n := 1) (i := 1) 1 (by decide +kernel) rfl rfl ?_
    exact zw_iret (pc := 29) (by decide +kernel) rfl (Nat.le_refl _) (Nat.le_refl _) ⟨_, _, rfl, rfl, h⟩
  · replace h := h.2 hc
    obtain ⟨o3, o4, h⟩ := h
    refine zw_aload_n (pc := 10) (n := 0) (i := 0) 0 (by decide +kernel) rfl rfl ?_
    have q2 : zS (c + 1) 12 81 := zq 0 h_c rfl
    refine zx_getR (pc := 11) (o := 1) (r := (c + 1)) zf_3_9 (by decide +kernel) rfl h_c rfl (by decide) rfl ?_
    refine zw_iload_n (pc := 14) (n := 2) (i := 2) 2 (by decide +kernel) rfl rfl ?_
    refine zx_iaload (pc := 15) (by decide +kernel) ⟨81, q2, o3.1, o3.2⟩ ?_
    refine zw_if_eq (pc := 16) (off := 6) (tgt := 22) (by decide +kernel) (by decide) o4 (fun hc => ?_) (fun hc => ?_)
    · replace h := h.1 hc
      refine zw_iinc (pc := 22) (i := 2) (n := 1) (lv' := [(0, .ref c), (1, .int (zJ v1)), (2, .int (zJ (v2 + 1)))]) 2 (by decide +kernel) rfl rfl (Nat.le_of_ble_eq_true rfl) rfl ?_
      refine zw_goto (pc := 25) (off := (-21)) (tgt := 4) (by decide +kernel) (by decide) ?_
      exact h
    · replace h := h.2 hc
      refine zw_iinc (pc := 19) (i := 1) (n := 1) (lv' := [(0, .ref c), (1, .int (zJ (v1 + 1))), (2, .int (zJ v2))]) 1 (by decide +kernel) rfl rfl (Nat.le_of_ble_eq_true rfl) rfl ?_
      refine zw_iinc (pc := 22) (i := 2) (n := 1) (lv' := [(0, .ref c), (1, .int (zJ (v1 + 1))), (2, .int (zJ (v2 + 1)))]) 2 (by decide +kernel) rfl rfl (Nat.le_of_ble_eq_true rfl) rfl ?_
      refine zw_goto (pc := 25) (off := (-21)) (tgt := 4) (by decide +kernel) (by decide) ?_
      exact h
theorem sg_X3_has {g : zG} {φ : Int → zMu → Prop} {c : Nat} {v1 : Int} {v2 : Int} {μ : zMu} (h_c : zS c 3 2)
    (h : (zR v1) ∧ (zR (μ c 1)) ∧ (((μ c 1) < v1 → φ 0 μ) ∧ (v1 ≤ (μ c 1) → (zR v2) ∧ (((μ c 1) < v2 → φ 0 μ) ∧ (v2 ≤ (μ c 1) → φ 1 μ))))) : zOi g zm_X3_has [.ref c, .int (zJ v1), .int (zJ v2)] μ φ := by
  refine zok_of (by decide +kernel) rfl ?_
  show zWP g zm_X3_has (zmo g zm_X3_has (zΦi φ)) 0 [(0, .ref c), (1, .int (zJ v1)), (2, .int (zJ v2))] [] 0 0 (zw μ)
  obtain ⟨o1, o2, h⟩ := h
  refine zw_iload_n (pc := 0) (n := 1) (i := 1) 1 (by decide +kernel) rfl rfl ?_
  refine zw_aload_n (pc := 1) (n := 0) (i := 0) 0 (by decide +kernel) rfl rfl ?_
  refine zx_getI (pc := 2) zf_3_15 (by decide +kernel) rfl h_c ?_
  refine zw_icmp_gt (pc := 5) (off := 15) (tgt := 20) (by decide +kernel) (by decide) o1 o2 (fun hc => ?_) (fun hc => ?_)
  · replace h := h.1 hc
    refine zw_iconst (pc := 20) (n := 0) (by decide +kernel) ?_
    exact zw_zret (pc := 21) (by decide +kernel) rfl (Nat.le_refl _) (Nat.le_refl _) (Or.inl rfl) ⟨_, _, rfl, rfl, h⟩
  · replace h := h.2 hc
    obtain ⟨o3, h⟩ := h
    refine zw_iload_n (pc := 8) (n := 2) (i := 2) 2 (by decide +kernel) rfl rfl ?_
    refine zw_aload_n (pc := 9) (n := 0) (i := 0) 0 (by decide +kernel) rfl rfl ?_
    refine zx_getI (pc := 10) zf_3_15 (by decide +kernel) rfl h_c ?_
    refine zw_icmp_gt (pc := 13) (off := 7) (tgt := 20) (by decide +kernel) (by decide) o3 o2 (fun hc => ?_) (fun hc => ?_)
    · replace h := h.1 hc
      refine zw_iconst (pc := 20) (n := 0) (by decide +kernel) ?_
      exact zw_zret (pc := 21) (by decide +kernel) rfl (Nat.le_refl _) (Nat.le_refl _) (Or.inl rfl) ⟨_, _, rfl, rfl, h⟩
    · replace h := h.2 hc
      refine zw_iconst (pc := 16) (n := 1) (by decide +kernel) ?_
      refine zw_goto (pc := 17) (off := 4) (tgt := 21) (by decide +kernel) (by decide) ?_
      exact zw_zret (pc := 21) (by decide +kernel) rfl (Nat.le_refl _) (Nat.le_refl _) (Or.inr rfl) ⟨_, _, rfl, rfl, h⟩
abbrev at_X3_valueOf_9 (g : zG) (φ : Int → zMu → Prop) (c : Nat) (v1 : Int) (v2 : Int) (v3 : Int) (v4 : Int) (v5 : Int) (μ : zMu) : Prop := zWP g zm_X3_valueOf (zmo g zm_X3_valueOf (zΦi φ)) 9 [(0, .ref c), (1, .int (zJ v1)), (2, .int (zJ v2)), (3, .int (zJ v3)), (4, .int (zJ v4)), (5, .int (zJ v5))] [] 0 0 (zw μ)
abbrev at_X3_valueOf_23 (g : zG) (φ : Int → zMu → Prop) (c : Nat) (v1 : Int) (v2 : Int) (v3 : Int) (v4 : Int) (v5 : Int) (v6 : Int) (v7 : Int) (μ : zMu) : Prop := zWP g zm_X3_valueOf (zmo g zm_X3_valueOf (zΦi φ)) 23 [(0, .ref c), (1, .int (zJ v1)), (2, .int (zJ v2)), (3, .int (zJ v3)), (4, .int (zJ v4)), (5, .int (zJ v5)), (6, .int (zJ v6)), (7, .int (zJ v7))] [] 0 0 (zw μ)
theorem sg_X3_valueOf {g : zG} {φ : Int → zMu → Prop} {c : Nat} {v1 : Int} {v2 : Int} {v3 : Int} {μ : zMu} (h_c : zS c 3 2)
    (h : at_X3_valueOf_9 g φ c v1 v2 v3 0 (μ c 1) μ) : zOi g zm_X3_valueOf [.ref c, .int (zJ v1), .int (zJ v2), .int (zJ v3)] μ φ := by
  refine zok_of (by decide +kernel) rfl ?_
  show zWP g zm_X3_valueOf (zmo g zm_X3_valueOf (zΦi φ)) 0 [(0, .ref c), (1, .int (zJ v1)), (2, .int (zJ v2)), (3, .int (zJ v3))] [] 0 0 (zw μ)
  refine zw_iconst (pc := 0) (n := 0) (by decide +kernel) ?_
  refine zw_istore (pc := 1) (i := 4) (lv' := [(0, .ref c), (1, .int (zJ v1)), (2, .int (zJ v2)), (3, .int (zJ v3)), (4, .int (zJ 0))]) (by decide +kernel) (Nat.le_of_ble_eq_true rfl) rfl ?_
  refine zw_aload_n (pc := 3) (n := 0) (i := 0) 0 (by decide +kernel) rfl rfl ?_
  refine zx_getI (pc := 4) zf_3_15 (by decide +kernel) rfl h_c ?_
  refine zw_istore (pc := 7) (i := 5) (lv' := [(0, .ref c), (1, .int (zJ v1)), (2, .int (zJ v2)), (3, .int (zJ v3)), (4, .int (zJ 0)), (5, .int (zJ (μ c 1)))]) (by decide +kernel) (Nat.le_of_ble_eq_true rfl) rfl ?_
  exact h
theorem sg_X3_valueOf_9 {g : zG} {φ : Int → zMu → Prop} {c : Nat} {v1 : Int} {v2 : Int} {v3 : Int} {v4 : Int} {v5 : Int} {μ : zMu} (h_c : zS c 3 2)
    (h : (zR v5) ∧ ((v5 < 0 → φ v4 μ) ∧ (0 ≤ v5 → at_X3_valueOf_23 g φ c v1 v2 v3 v4 v5 0 (μ c 1) μ))) : at_X3_valueOf_9 g φ c v1 v2 v3 v4 v5 μ := by
  obtain ⟨o1, h⟩ := h
  refine zw_iload (pc := 9) (i := 5) 5 (by decide +kernel) rfl ?_
  refine zw_if_lt (pc := 11) (off := 62) (tgt := 73) (by decide +kernel) (by decide) o1 (fun hc => ?_) (fun hc => ?_)
  · replace h := h.1 hc
    refine zw_iload (pc := 73) (i := 4) 4 (by decide +kernel) rfl ?_
    exact zw_iret (pc := 75) (by decide +kernel) rfl (Nat.le_refl _) (Nat.le_refl _) ⟨_, _, rfl, rfl, h⟩
  · replace h := h.2 hc
    refine zw_iconst (pc := 14) (n := 0) (by decide +kernel) ?_
    refine zw_istore (pc := 15) (i := 6) (lv' := [(0, .ref c), (1, .int (zJ v1)), (2, .int (zJ v2)), (3, .int (zJ v3)), (4, .int (zJ v4)), (5, .int (zJ v5)), (6, .int (zJ 0))]) (by decide +kernel) (Nat.le_of_ble_eq_true rfl) rfl ?_
    refine zw_aload_n (pc := 17) (n := 0) (i := 0) 0 (by decide +kernel) rfl rfl ?_
    refine zx_getI (pc := 18) zf_3_15 (by decide +kernel) rfl h_c ?_
    refine zw_istore (pc := 21) (i := 7) (lv' := [(0, .ref c), (1, .int (zJ v1)), (2, .int (zJ v2)), (3, .int (zJ v3)), (4, .int (zJ v4)), (5, .int (zJ v5)), (6, .int (zJ 0)), (7, .int (zJ (μ c 1)))]) (by decide +kernel) (Nat.le_of_ble_eq_true rfl) rfl ?_
    exact h
theorem sg_X3_valueOf_23 {g : zG} {φ : Int → zMu → Prop} {c : Nat} {v1 : Int} {v2 : Int} {v3 : Int} {v4 : Int} {v5 : Int} {v6 : Int} {v7 : Int} {μ : zMu} (h_c : zS c 3 2)
    (h : (zR v7) ∧ ((v7 < 0 → (zR ((v4 * v1) + v6)) ∧ (zR v3) ∧ (v3 ≠ 0) ∧ at_X3_valueOf_9 g φ c v1 v2 v3 (((v4 * v1) + v6).tmod v3) (v5 + (-1)) μ) ∧ (0 ≤ v7 → (0 ≤ ((9 * v5) + v7) ∧ ((9 * v5) + v7) < 81) ∧ (zR ((v6 * v2) + (μ (c + 1) (Int.toNat ((9 * v5) + v7))))) ∧ (zR v3) ∧ (v3 ≠ 0) ∧ at_X3_valueOf_23 g φ c v1 v2 v3 v4 v5 (((v6 * v2) + (μ (c + 1) (Int.toNat ((9 * v5) + v7)))).tmod v3) (v7 + (-1)) μ))) : at_X3_valueOf_23 g φ c v1 v2 v3 v4 v5 v6 v7 μ := by
  obtain ⟨o1, h⟩ := h
  refine zw_iload (pc := 23) (i := 7) 7 (by decide +kernel) rfl ?_
  refine zw_if_lt (pc := 25) (off := 31) (tgt := 56) (by decide +kernel) (by decide) o1 (fun hc => ?_) (fun hc => ?_)
  · replace h := h.1 hc
    obtain ⟨o2, o3, o4, h⟩ := h
    refine zw_iload (pc := 56) (i := 4) 4 (by decide +kernel) rfl ?_
    refine zw_iload_n (pc := 58) (n := 1) (i := 1) 1 (by decide +kernel) rfl rfl ?_
    refine zw_imul (pc := 59) (by decide +kernel) ?_
    refine zw_iload (pc := 60) (i := 6) 6 (by decide +kernel) rfl ?_
    refine zw_iadd (pc := 62) (by decide +kernel) ?_
    refine zw_iload_n (pc := 63) (n := 3) (i := 3) 3 (by decide +kernel) rfl rfl ?_
    refine zw_irem (pc := 64) (by decide +kernel) o2 o3 o4 ?_
    refine zw_istore (pc := 65) (i := 4) (lv' := [(0, .ref c), (1, .int (zJ v1)), (2, .int (zJ v2)), (3, .int (zJ v3)), (4, .int (zJ (((v4 * v1) + v6).tmod v3))), (5, .int (zJ v5)), (6, .int (zJ v6)), (7, .int (zJ v7))]) (by decide +kernel) (Nat.le_of_ble_eq_true rfl) rfl ?_
    refine zw_iinc (pc := 67) (i := 5) (n := (-1)) (lv' := [(0, .ref c), (1, .int (zJ v1)), (2, .int (zJ v2)), (3, .int (zJ v3)), (4, .int (zJ (((v4 * v1) + v6).tmod v3))), (5, .int (zJ (v5 + (-1)))), (6, .int (zJ v6)), (7, .int (zJ v7))]) 5 (by decide +kernel) rfl rfl (Nat.le_of_ble_eq_true rfl) rfl ?_
    refine zw_goto (pc := 70) (off := (-61)) (tgt := 9) (by decide +kernel) (by decide) ?_
    exact zw_pick (lv' := [(0, .ref c), (1, .int (zJ v1)), (2, .int (zJ v2)), (3, .int (zJ v3)), (4, .int (zJ (((v4 * v1) + v6).tmod v3))), (5, .int (zJ (v5 + (-1))))]) [0, 1, 2, 3, 4, 5] rfl h
  · replace h := h.2 hc
    obtain ⟨o6, o7, o8, o9, h⟩ := h
    refine zw_iload (pc := 28) (i := 6) 6 (by decide +kernel) rfl ?_
    refine zw_iload_n (pc := 30) (n := 2) (i := 2) 2 (by decide +kernel) rfl rfl ?_
    refine zw_imul (pc := 31) (by decide +kernel) ?_
    refine zw_aload_n (pc := 32) (n := 0) (i := 0) 0 (by decide +kernel) rfl rfl ?_
    have q5 : zS (c + 1) 12 81 := zq 0 h_c rfl
    refine zx_getR (pc := 33) (o := 1) (r := (c + 1)) zf_3_9 (by decide +kernel) rfl h_c rfl (by decide) rfl ?_
    refine zw_bipush (pc := 36) (n := 9) (by decide +kernel) (by decide +kernel) ?_
    refine zw_iload (pc := 38) (i := 5) 5 (by decide +kernel) rfl ?_
    refine zw_imul (pc := 40) (by decide +kernel) ?_
    refine zw_iload (pc := 41) (i := 7) 7 (by decide +kernel) rfl ?_
    refine zw_iadd (pc := 43) (by decide +kernel) ?_
    refine zx_iaload (pc := 44) (by decide +kernel) ⟨81, q5, o6.1, o6.2⟩ ?_
    refine zw_iadd (pc := 45) (by decide +kernel) ?_
    refine zw_iload_n (pc := 46) (n := 3) (i := 3) 3 (by decide +kernel) rfl rfl ?_
    refine zw_irem (pc := 47) (by decide +kernel) o7 o8 o9 ?_
    refine zw_istore (pc := 48) (i := 6) (lv' := [(0, .ref c), (1, .int (zJ v1)), (2, .int (zJ v2)), (3, .int (zJ v3)), (4, .int (zJ v4)), (5, .int (zJ v5)), (6, .int (zJ (((v6 * v2) + (μ (c + 1) (Int.toNat ((9 * v5) + v7)))).tmod v3))), (7, .int (zJ v7))]) (by decide +kernel) (Nat.le_of_ble_eq_true rfl) rfl ?_
    refine zw_iinc (pc := 50) (i := 7) (n := (-1)) (lv' := [(0, .ref c), (1, .int (zJ v1)), (2, .int (zJ v2)), (3, .int (zJ v3)), (4, .int (zJ v4)), (5, .int (zJ v5)), (6, .int (zJ (((v6 * v2) + (μ (c + 1) (Int.toNat ((9 * v5) + v7)))).tmod v3))), (7, .int (zJ (v7 + (-1))))]) 7 (by decide +kernel) rfl rfl (Nat.le_of_ble_eq_true rfl) rfl ?_
    refine zw_goto (pc := 53) (off := (-30)) (tgt := 23) (by decide +kernel) (by decide) ?_
    exact h
abbrev at_X3_lineCoefficient_9 (g : zG) (φ : Int → zMu → Prop) (c : Nat) (v1 : Int) (v2 : Int) (v3 : Int) (v4 : Int) (v5 : Int) (μ : zMu) : Prop := zWP g zm_X3_lineCoefficient (zmo g zm_X3_lineCoefficient (zΦi φ)) 9 [(0, .ref c), (1, .int (zJ v1)), (2, .int (zJ v2)), (3, .int (zJ v3)), (4, .int (zJ v4)), (5, .int (zJ v5))] [] 0 0 (zw μ)
theorem sg_X3_lineCoefficient {g : zG} {φ : Int → zMu → Prop} {c : Nat} {v1 : Int} {v2 : Int} {v3 : Int} {μ : zMu} (h_c : zS c 3 2)
    (h : at_X3_lineCoefficient_9 g φ c v1 v2 v3 0 (μ c 1) μ) : zOi g zm_X3_lineCoefficient [.ref c, .int (zJ v1), .int (zJ v2), .int (zJ v3)] μ φ := by
  refine zok_of (by decide +kernel) rfl ?_
  show zWP g zm_X3_lineCoefficient (zmo g zm_X3_lineCoefficient (zΦi φ)) 0 [(0, .ref c), (1, .int (zJ v1)), (2, .int (zJ v2)), (3, .int (zJ v3))] [] 0 0 (zw μ)
  refine zw_iconst (pc := 0) (n := 0) (by decide +kernel) ?_
  refine zw_istore (pc := 1) (i := 4) (lv' := [(0, .ref c), (1, .int (zJ v1)), (2, .int (zJ v2)), (3, .int (zJ v3)), (4, .int (zJ 0))]) (by decide +kernel) (Nat.le_of_ble_eq_true rfl) rfl ?_
  refine zw_aload_n (pc := 3) (n := 0) (i := 0) 0 (by decide +kernel) rfl rfl ?_
  refine zx_getI (pc := 4) zf_3_15 (by decide +kernel) rfl h_c ?_
  refine zw_istore (pc := 7) (i := 5) (lv' := [(0, .ref c), (1, .int (zJ v1)), (2, .int (zJ v2)), (3, .int (zJ v3)), (4, .int (zJ 0)), (5, .int (zJ (μ c 1)))]) (by decide +kernel) (Nat.le_of_ble_eq_true rfl) rfl ?_
  exact h
theorem sg_X3_lineCoefficient_9 {g : zG} {φ : Int → zMu → Prop} {c : Nat} {v1 : Int} {v2 : Int} {v3 : Int} {v4 : Int} {v5 : Int} {μ : zMu} (h_c : zS c 3 2)
    (h : (zR v5) ∧ ((v5 < 0 → φ v4 μ) ∧ (0 ≤ v5 → (0 ≤ ((9 * v5) + v2) ∧ ((9 * v5) + v2) < 81) ∧ (zR ((v4 * v1) + (μ (c + 1) (Int.toNat ((9 * v5) + v2))))) ∧ (zR v3) ∧ (v3 ≠ 0) ∧ at_X3_lineCoefficient_9 g φ c v1 v2 v3 (((v4 * v1) + (μ (c + 1) (Int.toNat ((9 * v5) + v2)))).tmod v3) (v5 + (-1)) μ))) : at_X3_lineCoefficient_9 g φ c v1 v2 v3 v4 v5 μ := by
  obtain ⟨o1, h⟩ := h
  refine zw_iload (pc := 9) (i := 5) 5 (by decide +kernel) rfl ?_
  refine zw_if_lt (pc := 11) (off := 30) (tgt := 41) (by decide +kernel) (by decide) o1 (fun hc => ?_) (fun hc => ?_)
  · replace h := h.1 hc
    refine zw_iload (pc := 41) (i := 4) 4 (by decide +kernel) rfl ?_
    exact zw_iret (pc := 43) (by decide +kernel) rfl (Nat.le_refl _) (Nat.le_refl _) ⟨_, _, rfl, rfl, h⟩
  · replace h := h.2 hc
    obtain ⟨o3, o4, o5, o6, h⟩ := h
    refine zw_iload (pc := 14) (i := 4) 4 (by decide +kernel) rfl ?_
    refine zw_iload_n (pc := 16) (n := 1) (i := 1) 1 (by decide +kernel) rfl rfl ?_
    refine zw_imul (pc := 17) (by decide +kernel) ?_
    refine zw_aload_n (pc := 18) (n := 0) (i := 0) 0 (by decide +kernel) rfl rfl ?_
    have q2 : zS (c + 1) 12 81 := zq 0 h_c rfl
    refine zx_getR (pc := 19) (o := 1) (r := (c + 1)) zf_3_9 (by decide +kernel) rfl h_c rfl (by decide) rfl ?_
    refine zw_bipush (pc := 22) (n := 9) (by decide +kernel) (by decide +kernel) ?_
    refine zw_iload (pc := 24) (i := 5) 5 (by decide +kernel) rfl ?_
    refine zw_imul (pc := 26) (by decide +kernel) ?_
    refine zw_iload_n (pc := 27) (n := 2) (i := 2) 2 (by decide +kernel) rfl rfl ?_
    refine zw_iadd (pc := 28) (by decide +kernel) ?_
    refine zx_iaload (pc := 29) (by decide +kernel) ⟨81, q2, o3.1, o3.2⟩ ?_
    refine zw_iadd (pc := 30) (by decide +kernel) ?_
    refine zw_iload_n (pc := 31) (n := 3) (i := 3) 3 (by decide +kernel) rfl rfl ?_
    refine zw_irem (pc := 32) (by decide +kernel) o4 o5 o6 ?_
    refine zw_istore (pc := 33) (i := 4) (lv' := [(0, .ref c), (1, .int (zJ v1)), (2, .int (zJ v2)), (3, .int (zJ v3)), (4, .int (zJ (((v4 * v1) + (μ (c + 1) (Int.toNat ((9 * v5) + v2)))).tmod v3))), (5, .int (zJ v5))]) (by decide +kernel) (Nat.le_of_ble_eq_true rfl) rfl ?_
    refine zw_iinc (pc := 35) (i := 5) (n := (-1)) (lv' := [(0, .ref c), (1, .int (zJ v1)), (2, .int (zJ v2)), (3, .int (zJ v3)), (4, .int (zJ (((v4 * v1) + (μ (c + 1) (Int.toNat ((9 * v5) + v2)))).tmod v3))), (5, .int (zJ (v5 + (-1))))]) 5 (by decide +kernel) rfl rfl (Nat.le_of_ble_eq_true rfl) rfl ?_
    refine zw_goto (pc := 38) (off := (-29)) (tgt := 9) (by decide +kernel) (by decide) ?_
    exact h
theorem sg_X3_copyFrom {g : zG} {φ : zMu → Prop} {c : Nat} {v1 : Nat} {μ : zMu} (h_c : zS c 3 2) (h_v1 : zS v1 3 2)
    (h : (0 ≤ (0 : Int) ∧ 0 ≤ (0 : Int) ∧ 0 ≤ (81 : Int) ∧ (0 : Int) + 81 ≤ 81 ∧ (0 : Int) + 81 ≤ 81) ∧ φ (zcp (zup μ c 1 (μ v1 1)) (v1 + 1) 0 (c + 1) 0 81)) : zOv g zm_X3_copyFrom [.ref c, .ref v1] μ φ := by
  refine zok_of (by decide +kernel) rfl ?_
  show zWP g zm_X3_copyFrom (zmo g zm_X3_copyFrom (zΦv φ)) 0 [(0, .ref c), (1, .ref v1)] [] 0 0 (zw μ)
  obtain ⟨o3, h⟩ := h
  refine zw_aload_n (pc := 0) (n := 0) (i := 0) 0 (by decide +kernel) rfl rfl ?_
  refine zw_aload_n (pc := 1) (n := 1) (i := 1) 1 (by decide +kernel) rfl rfl ?_
  refine zx_getI (pc := 2) zf_3_15 (by decide +kernel) rfl h_v1 ?_
  refine zx_putI (pc := 5) zf_3_15 (by decide +kernel) rfl h_c ?_
  refine zw_aload_n (pc := 8) (n := 1) (i := 1) 1 (by decide +kernel) rfl rfl ?_
  have q1 : zS (v1 + 1) 12 81 := zq 0 h_v1 rfl
  refine zx_getR (pc := 9) (o := 1) (r := (v1 + 1)) zf_3_9 (by decide +kernel) rfl h_v1 rfl (by decide) rfl ?_
  refine zw_iconst (pc := 12) (n := 0) (by decide +kernel) ?_
  refine zw_aload_n (pc := 13) (n := 0) (i := 0) 0 (by decide +kernel) rfl rfl ?_
  have q2 : zS (c + 1) 12 81 := zq 0 h_c rfl
  refine zx_getR (pc := 14) (o := 1) (r := (c + 1)) zf_3_9 (by decide +kernel) rfl h_c rfl (by decide) rfl ?_
  refine zw_iconst (pc := 17) (n := 0) (by decide +kernel) ?_
  refine zw_bipush (pc := 18) (n := 81) (by decide +kernel) (by decide +kernel) ?_
  refine zx_copy (pc := 20) zl_3_25 zb_cpN zb_cpS zb_cpI (by decide +kernel) ⟨Nat.le_of_ble_eq_true rfl, by decide +kernel⟩ rfl ⟨81, 81, q1, q2, o3⟩ ?_
  exact zw_vret (pc := 23) (by decide +kernel) rfl (Nat.le_refl _) (Nat.le_refl _) ⟨_, rfl, rfl, h⟩
theorem sg_X8_append {g : zG} {φ : zMu → Prop} {v1 : Int} {μ : zMu}
    (h : (0 ≤ (μ 188 1) ∧ (μ 188 1) < 100) ∧ φ (zup (zup μ 189 (Int.toNat (μ 188 1)) v1) 188 1 (((zup μ 189 (Int.toNat (μ 188 1)) v1) 188 1) + 1))) : zOv g zm_X8_append [.ref 188, .int (zJ v1)] μ φ := by
  refine zok_of (by decide +kernel) rfl ?_
  show zWP g zm_X8_append (zmo g zm_X8_append (zΦv φ)) 0 [(0, .ref 188), (1, .int (zJ v1))] [] 0 0 (zw μ)
  obtain ⟨o1, h⟩ := h
  refine zw_aload_n (pc := 0) (n := 0) (i := 0) 0 (by decide +kernel) rfl rfl ?_
  refine zx_getR (pc := 1) (o := 1) (r := 189) zf_8_9 (by decide +kernel) rfl zc_188 rfl (by decide) rfl ?_
  refine zw_aload_n (pc := 4) (n := 0) (i := 0) 0 (by decide +kernel) rfl rfl ?_
  refine zx_getI (pc := 5) zf_8_15 (by decide +kernel) rfl zc_188 ?_
  refine zw_iload_n (pc := 8) (n := 1) (i := 1) 1 (by decide +kernel) rfl rfl ?_
  refine zx_iastore (pc := 9) (by decide +kernel) ⟨100, zc_189, o1.1, o1.2⟩ ?_
  refine zw_aload_n (pc := 10) (n := 0) (i := 0) 0 (by decide +kernel) rfl rfl ?_
  refine zw_dup (pc := 11) (by decide +kernel) rfl ?_
  refine zx_getI (pc := 12) zf_8_15 (by decide +kernel) rfl zc_188 ?_
  refine zw_iconst (pc := 15) (n := 1) (by decide +kernel) ?_
  refine zw_iadd (pc := 16) (by decide +kernel) ?_
  refine zx_putI (pc := 17) zf_8_15 (by decide +kernel) rfl zc_188 ?_
  exact zw_vret (pc := 20) (by decide +kernel) rfl (Nat.le_refl _) (Nat.le_refl _) ⟨_, rfl, rfl, h⟩
theorem sg_X8_rewind {g : zG} {φ : zMu → Prop} {μ : zMu}
    (h : φ (zup μ 188 2 0)) : zOv g zm_X8_rewind [.ref 188] μ φ := by
  refine zok_of (by decide +kernel) rfl ?_
  show zWP g zm_X8_rewind (zmo g zm_X8_rewind (zΦv φ)) 0 [(0, .ref 188)] [] 0 0 (zw μ)
  refine zw_aload_n (pc := 0) (n := 0) (i := 0) 0 (by decide +kernel) rfl rfl ?_
  refine zw_iconst (pc := 1) (n := 0) (by decide +kernel) ?_
  refine zx_putI (pc := 2) zf_8_19 (by decide +kernel) rfl zc_188 ?_
  exact zw_vret (pc := 5) (by decide +kernel) rfl (Nat.le_refl _) (Nat.le_refl _) ⟨_, rfl, rfl, h⟩
abbrev at_X8_wordEnd_5 (g : zG) (φ : Int → zMu → Prop) (v1 : Int) (μ : zMu) : Prop := zWP g zm_X8_wordEnd (zmo g zm_X8_wordEnd (zΦi φ)) 5 [(0, .ref 188), (1, .int (zJ v1))] [] 0 0 (zw μ)
theorem sg_X8_wordEnd {g : zG} {φ : Int → zMu → Prop} {μ : zMu}
    (h : at_X8_wordEnd_5 g φ (μ 188 2) μ) : zOi g zm_X8_wordEnd [.ref 188] μ φ := by
  refine zok_of (by decide +kernel) rfl ?_
  show zWP g zm_X8_wordEnd (zmo g zm_X8_wordEnd (zΦi φ)) 0 [(0, .ref 188)] [] 0 0 (zw μ)
  refine zw_aload_n (pc := 0) (n := 0) (i := 0) 0 (by decide +kernel) rfl rfl ?_
  refine zx_getI (pc := 1) zf_8_19 (by decide +kernel) rfl zc_188 ?_
  refine zw_istore_n (pc := 4) (n := 1) (i := 1) (lv' := [(0, .ref 188), (1, .int (zJ (μ 188 2)))]) (by decide +kernel) rfl (Nat.le_of_ble_eq_true rfl) rfl ?_
  exact h
theorem sg_X8_wordEnd_5 {g : zG} {φ : Int → zMu → Prop} {v1 : Int} {μ : zMu}
    (h : (zR v1) ∧ (zR (μ 188 1)) ∧ (((μ 188 1) ≤ v1 → φ v1 μ) ∧ (v1 < (μ 188 1) → (0 ≤ v1 ∧ v1 < 100) ∧ (zR (μ 189 v1.toNat)) ∧ (((μ 189 v1.toNat) < 97 → φ v1 μ) ∧ (97 ≤ (μ 189 v1.toNat) → ((122 < (μ 189 v1.toNat) → φ v1 μ) ∧ ((μ 189 v1.toNat) ≤ 122 → at_X8_wordEnd_5 g φ (v1 + 1) μ))))))) : at_X8_wordEnd_5 g φ v1 μ := by
  obtain ⟨o1, o2, h⟩ := h
  refine zw_iload_n (pc := 5) (n := 1) (i := 1) 1 (by decide +kernel) rfl rfl ?_
  refine zw_aload_n (pc := 6) (n := 0) (i := 0) 0 (by decide +kernel) rfl rfl ?_
  refine zx_getI (pc := 7) zf_8_15 (by decide +kernel) rfl zc_188 ?_
  refine zw_icmp_ge (pc := 10) (off := 31) (tgt := 41) (by decide +kernel) (by decide) o1 o2 (fun hc => ?_) (fun hc => ?_)
  · replace h := h.1 hc
    refine zw_iload_n (pc := 41) (n := 1) (i := 1) 1 (by decide +kernel) rfl rfl ?_
    exact zw_iret (pc := 42) (by decide +kernel) rfl (Nat.le_refl _) (Nat.le_refl _) ⟨_, _, rfl, rfl, h⟩
  · replace h := h.2 hc
    obtain ⟨o3, o4, h⟩ := h
    refine zw_aload_n (pc := 13) (n := 0) (i := 0) 0 (by decide +kernel) rfl rfl ?_
    refine zx_getR (pc := 14) (o := 1) (r := 189) zf_8_9 (by decide +kernel) rfl zc_188 rfl (by decide) rfl ?_
    refine zw_iload_n (pc := 17) (n := 1) (i := 1) 1 (by decide +kernel) rfl rfl ?_
    refine zx_iaload (pc := 18) (by decide +kernel) ⟨100, zc_189, o3.1, o3.2⟩ ?_
    refine zw_bipush (pc := 19) (n := 97) (by decide +kernel) (by decide +kernel) ?_
    refine zw_icmp_lt (pc := 21) (off := 20) (tgt := 41) (by decide +kernel) (by decide) o4 ⟨by decide, by decide⟩ (fun hc => ?_) (fun hc => ?_)
    · replace h := h.1 hc
      refine zw_iload_n (pc := 41) (n := 1) (i := 1) 1 (by decide +kernel) rfl rfl ?_
      exact zw_iret (pc := 42) (by decide +kernel) rfl (Nat.le_refl _) (Nat.le_refl _) ⟨_, _, rfl, rfl, h⟩
    · replace h := h.2 hc
      refine zw_aload_n (pc := 24) (n := 0) (i := 0) 0 (by decide +kernel) rfl rfl ?_
      refine zx_getR (pc := 25) (o := 1) (r := 189) zf_8_9 (by decide +kernel) rfl zc_188 rfl (by decide) rfl ?_
      refine zw_iload_n (pc := 28) (n := 1) (i := 1) 1 (by decide +kernel) rfl rfl ?_
      refine zx_iaload (pc := 29) (by decide +kernel) ⟨100, zc_189, o3.1, o3.2⟩ ?_
      refine zw_bipush (pc := 30) (n := 122) (by decide +kernel) (by decide +kernel) ?_
      refine zw_icmp_gt (pc := 32) (off := 9) (tgt := 41) (by decide +kernel) (by decide) o4 ⟨by decide, by decide⟩ (fun hc => ?_) (fun hc => ?_)
      · replace h := h.1 hc
        refine zw_iload_n (pc := 41) (n := 1) (i := 1) 1 (by decide +kernel) rfl rfl ?_
        exact zw_iret (pc := 42) (by decide +kernel) rfl (Nat.le_refl _) (Nat.le_refl _) ⟨_, _, rfl, rfl, h⟩
      · replace h := h.2 hc
        refine zw_iinc (pc := 35) (i := 1) (n := 1) (lv' := [(0, .ref 188), (1, .int (zJ (v1 + 1)))]) 1 (by decide +kernel) rfl rfl (Nat.le_of_ble_eq_true rfl) rfl ?_
        refine zw_goto (pc := 38) (off := (-33)) (tgt := 5) (by decide +kernel) (by decide) ?_
        exact h
abbrev at_X8_hasWord_17 (g : zG) (φ : Int → zMu → Prop) (v1 : Nat) (v3 : Int) (μ : zMu) : Prop := zWP g zm_X8_hasWord (zmo g zm_X8_hasWord (zΦi φ)) 17 [(0, .ref 188), (1, .ref v1), (3, .int (zJ v3))] [] 0 0 (zw μ)
theorem sg_X8_hasWord {g : zG} {φ : Int → zMu → Prop} {v1 : Nat} {v2 : Int} {μ : zMu}
    (h : (∃ k, k < 9 ∧ v1 = 90001 + k) ∧ zOi g zm_J0_length_8abf5 [.ref v1] μ (fun x2 μ1 => (zR (v2 - (μ 188 2))) ∧ (zR x2) ∧ (((v2 - (μ 188 2)) = x2 → at_X8_hasWord_17 g φ v1 0 μ1) ∧ (¬ (v2 - (μ 188 2)) = x2 → φ 0 μ1)))) : zOi g zm_X8_hasWord [.ref 188, .ref v1, .int (zJ v2)] μ φ := by
  refine zok_of (by decide +kernel) rfl ?_
  show zWP g zm_X8_hasWord (zmo g zm_X8_hasWord (zΦi φ)) 0 [(0, .ref 188), (1, .ref v1), (2, .int (zJ v2))] [] 0 0 (zw μ)
  obtain ⟨o5, h⟩ := h
  refine zw_iload_n (pc := 0) (n := 2) (i := 2) 2 (by decide +kernel) rfl rfl ?_
  refine zw_aload_n (pc := 1) (n := 0) (i := 0) 0 (by decide +kernel) rfl rfl ?_
  refine zx_getI (pc := 2) zf_8_19 (by decide +kernel) rfl zc_188 ?_
  refine zw_isub (pc := 5) (by decide +kernel) ?_
  refine zw_aload_n (pc := 6) (n := 1) (i := 1) 1 (by decide +kernel) rfl rfl ?_
  refine zx_callT (pc := 7) (As := []) h zi_J0_length_8abf5 zii_J0_length_8abf5 zie_J0_length_8abf5 zl_8_37 (by decide +kernel) ⟨Nat.le_of_ble_eq_true rfl, Nat.le_of_ble_eq_true rfl⟩ rfl o5 rfl rfl ⟨rfl, rfl⟩ ⟨Nat.zero_le _, Nat.zero_le _⟩ (zki (fun x2 μ1 h => ?_))
  obtain ⟨o3, o4, h⟩ := h
  refine zw_icmp_eq (pc := 10) (off := 5) (tgt := 15) (by decide +kernel) (by decide) o3 o4 (fun hc => ?_) (fun hc => ?_)
  · replace h := h.1 hc
    refine zw_iconst (pc := 15) (n := 0) (by decide +kernel) ?_
    refine zw_istore_n (pc := 16) (n := 3) (i := 3) (lv' := [(0, .ref 188), (1, .ref v1), (2, .int (zJ v2)), (3, .int (zJ 0))]) (by decide +kernel) rfl (Nat.le_of_ble_eq_true rfl) rfl ?_
    exact zw_pick (lv' := [(0, .ref 188), (1, .ref v1), (3, .int (zJ 0))]) [0, 1, 3] rfl h
  · replace h := h.2 hc
    refine zw_iconst (pc := 13) (n := 0) (by decide +kernel) ?_
    exact zw_zret (pc := 14) (by decide +kernel) rfl (Nat.le_refl _) (Nat.le_refl _) (Or.inl rfl) ⟨_, _, rfl, rfl, h⟩
theorem sg_X8_hasWord_17 {g : zG} {φ : Int → zMu → Prop} {v1 : Nat} {v3 : Int} {μ : zMu}
    (h : (∃ k, k < 9 ∧ v1 = 90001 + k) ∧ zOi g zm_J0_length_8abf5 [.ref v1] μ (fun x2 μ1 => (zR v3) ∧ (zR x2) ∧ ((x2 ≤ v3 → φ 1 μ1) ∧ (v3 < x2 → (0 ≤ ((μ1 188 2) + v3) ∧ ((μ1 188 2) + v3) < 100) ∧ (∃ k, k < 9 ∧ v1 = 90001 + k) ∧ zOi g zm_J0_charAt_5068e [.ref v1, .int (zJ v3)] μ1 (fun x7 μ6 => (zR (μ1 189 (Int.toNat ((μ1 188 2) + v3)))) ∧ (zR x7) ∧ (((μ1 189 (Int.toNat ((μ1 188 2) + v3))) = x7 → at_X8_hasWord_17 g φ v1 (v3 + 1) μ6) ∧ (¬ (μ1 189 (Int.toNat ((μ1 188 2) + v3))) = x7 → φ 0 μ6))))))) : at_X8_hasWord_17 g φ v1 v3 μ := by
  obtain ⟨o11, h⟩ := h
  refine zw_iload_n (pc := 17) (n := 3) (i := 3) 2 (by decide +kernel) rfl rfl ?_
  refine zw_aload_n (pc := 18) (n := 1) (i := 1) 1 (by decide +kernel) rfl rfl ?_
  refine zx_callT (pc := 19) (As := []) h zi_J0_length_8abf5 zii_J0_length_8abf5 zie_J0_length_8abf5 zl_8_37 (by decide +kernel) ⟨Nat.le_of_ble_eq_true rfl, Nat.le_of_ble_eq_true rfl⟩ rfl o11 rfl rfl ⟨rfl, rfl⟩ ⟨Nat.zero_le _, Nat.zero_le _⟩ (zki (fun x2 μ1 h => ?_))
  obtain ⟨o3, o4, h⟩ := h
  refine zw_icmp_ge (pc := 22) (off := 30) (tgt := 52) (by decide +kernel) (by decide) o3 o4 (fun hc => ?_) (fun hc => ?_)
  · replace h := h.1 hc
    refine zw_iconst (pc := 52) (n := 1) (by decide +kernel) ?_
    exact zw_zret (pc := 53) (by decide +kernel) rfl (Nat.le_refl _) (Nat.le_refl _) (Or.inr rfl) ⟨_, _, rfl, rfl, h⟩
  · replace h := h.2 hc
    obtain ⟨o5, o10, h⟩ := h
    refine zw_aload_n (pc := 25) (n := 0) (i := 0) 0 (by decide +kernel) rfl rfl ?_
    refine zx_getR (pc := 26) (o := 1) (r := 189) zf_8_9 (by decide +kernel) rfl zc_188 rfl (by decide) rfl ?_
    refine zw_aload_n (pc := 29) (n := 0) (i := 0) 0 (by decide +kernel) rfl rfl ?_
    refine zx_getI (pc := 30) zf_8_19 (by decide +kernel) rfl zc_188 ?_
    refine zw_iload_n (pc := 33) (n := 3) (i := 3) 2 (by decide +kernel) rfl rfl ?_
    refine zw_iadd (pc := 34) (by decide +kernel) ?_
    refine zx_iaload (pc := 35) (by decide +kernel) ⟨100, zc_189, o5.1, o5.2⟩ ?_
    refine zw_aload_n (pc := 36) (n := 1) (i := 1) 1 (by decide +kernel) rfl rfl ?_
    refine zw_iload_n (pc := 37) (n := 3) (i := 3) 2 (by decide +kernel) rfl rfl ?_
    refine zx_callT (pc := 38) (As := [.int (zJ v3)]) h zi_J0_charAt_5068e zii_J0_charAt_5068e zie_J0_charAt_5068e zl_8_42 (by decide +kernel) ⟨Nat.le_of_ble_eq_true rfl, Nat.le_of_ble_eq_true rfl⟩ rfl o10 rfl rfl ⟨rfl, rfl⟩ ⟨Nat.zero_le _, Nat.zero_le _⟩ (zki (fun x7 μ6 h => ?_))
    obtain ⟨o8, o9, h⟩ := h
    refine zw_icmp_eq (pc := 41) (off := 5) (tgt := 46) (by decide +kernel) (by decide) o8 o9 (fun hc => ?_) (fun hc => ?_)
    · replace h := h.1 hc
      refine zw_iinc (pc := 46) (i := 3) (n := 1) (lv' := [(0, .ref 188), (1, .ref v1), (3, .int (zJ (v3 + 1)))]) 2 (by decide +kernel) rfl rfl (Nat.le_of_ble_eq_true rfl) rfl ?_
      refine zw_goto (pc := 49) (off := (-32)) (tgt := 17) (by decide +kernel) (by decide) ?_
      exact h
    · replace h := h.2 hc
      refine zw_iconst (pc := 44) (n := 0) (by decide +kernel) ?_
      exact zw_zret (pc := 45) (by decide +kernel) rfl (Nat.le_refl _) (Nat.le_refl _) (Or.inl rfl) ⟨_, _, rfl, rfl, h⟩
theorem sg_X8_accept {g : zG} {φ : Int → zMu → Prop} {v1 : Int} {μ : zMu}
    (h : (zR (μ 188 2)) ∧ (zR (μ 188 1)) ∧ (((μ 188 1) ≤ (μ 188 2) → φ 0 μ) ∧ ((μ 188 2) < (μ 188 1) → (0 ≤ (μ 188 2) ∧ (μ 188 2) < 100) ∧ (zR (μ 189 (Int.toNat (μ 188 2)))) ∧ (zR v1) ∧ ((¬ (μ 189 (Int.toNat (μ 188 2))) = v1 → φ 0 μ) ∧ ((μ 189 (Int.toNat (μ 188 2))) = v1 → φ 1 (zup μ 188 2 ((μ 188 2) + 1))))))) : zOi g zm_X8_accept [.ref 188, .int (zJ v1)] μ φ := by
  refine zok_of (by decide +kernel) rfl ?_
  show zWP g zm_X8_accept (zmo g zm_X8_accept (zΦi φ)) 0 [(0, .ref 188), (1, .int (zJ v1))] [] 0 0 (zw μ)
  obtain ⟨o1, o2, h⟩ := h
  refine zw_aload_n (pc := 0) (n := 0) (i := 0) 0 (by decide +kernel) rfl rfl ?_
  refine zx_getI (pc := 1) zf_8_19 (by decide +kernel) rfl zc_188 ?_
  refine zw_aload_n (pc := 4) (n := 0) (i := 0) 0 (by decide +kernel) rfl rfl ?_
  refine zx_getI (pc := 5) zf_8_15 (by decide +kernel) rfl zc_188 ?_
  refine zw_icmp_ge (pc := 8) (off := 28) (tgt := 36) (by decide +kernel) (by decide) o1 o2 (fun hc => ?_) (fun hc => ?_)
  · replace h := h.1 hc
    refine zw_iconst (pc := 36) (n := 0) (by decide +kernel) ?_
    exact zw_zret (pc := 37) (by decide +kernel) rfl (Nat.le_refl _) (Nat.le_refl _) (Or.inl rfl) ⟨_, _, rfl, rfl, h⟩
  · replace h := h.2 hc
    obtain ⟨o3, o4, o5, h⟩ := h
    refine zw_aload_n (pc := 11) (n := 0) (i := 0) 0 (by decide +kernel) rfl rfl ?_
    refine zx_getR (pc := 12) (o := 1) (r := 189) zf_8_9 (by decide +kernel) rfl zc_188 rfl (by decide) rfl ?_
    refine zw_aload_n (pc := 15) (n := 0) (i := 0) 0 (by decide +kernel) rfl rfl ?_
    refine zx_getI (pc := 16) zf_8_19 (by decide +kernel) rfl zc_188 ?_
    refine zx_iaload (pc := 19) (by decide +kernel) ⟨100, zc_189, o3.1, o3.2⟩ ?_
    refine zw_iload_n (pc := 20) (n := 1) (i := 1) 1 (by decide +kernel) rfl rfl ?_
    refine zw_icmp_ne (pc := 21) (off := 15) (tgt := 36) (by decide +kernel) (by decide) o4 o5 (fun hc => ?_) (fun hc => ?_)
    · replace h := h.1 hc
      refine zw_iconst (pc := 36) (n := 0) (by decide +kernel) ?_
      exact zw_zret (pc := 37) (by decide +kernel) rfl (Nat.le_refl _) (Nat.le_refl _) (Or.inl rfl) ⟨_, _, rfl, rfl, h⟩
    · replace h := h.2 hc
      refine zw_aload_n (pc := 24) (n := 0) (i := 0) 0 (by decide +kernel) rfl rfl ?_
      refine zw_dup (pc := 25) (by decide +kernel) rfl ?_
      refine zx_getI (pc := 26) zf_8_19 (by decide +kernel) rfl zc_188 ?_
      refine zw_iconst (pc := 29) (n := 1) (by decide +kernel) ?_
      refine zw_iadd (pc := 30) (by decide +kernel) ?_
      refine zx_putI (pc := 31) zf_8_19 (by decide +kernel) rfl zc_188 ?_
      refine zw_iconst (pc := 34) (n := 1) (by decide +kernel) ?_
      exact zw_zret (pc := 35) (by decide +kernel) rfl (Nat.le_refl _) (Nat.le_refl _) (Or.inr rfl) ⟨_, _, rfl, rfl, h⟩
theorem sg_X8_acceptSignedNumber {g : zG} {φ : Int → zMu → Prop} {μ : zMu}
    (h : zOi g zm_X8_accept [.ref 188, .int (zJ 45)] μ (fun x2 μ1 => zOi g zm_X8_acceptNumber [.ref 188] μ1 (fun x4 μ3 => (zR x2) ∧ ((x2 = 0 → (x4 = 0 ∨ x4 = 1) ∧ φ x4 μ3) ∧ (¬ x2 = 0 → (x4 = 0 ∨ x4 = 1) ∧ φ x4 (zup μ3 188 3 (-(μ3 188 3)))))))) : zOi g zm_X8_acceptSignedNumber [.ref 188] μ φ := by
  refine zok_of (by decide +kernel) rfl ?_
  show zWP g zm_X8_acceptSignedNumber (zmo g zm_X8_acceptSignedNumber (zΦi φ)) 0 [(0, .ref 188)] [] 0 0 (zw μ)
  refine zw_aload_n (pc := 0) (n := 0) (i := 0) 0 (by decide +kernel) rfl rfl ?_
  refine zw_bipush (pc := 1) (n := 45) (by decide +kernel) (by decide +kernel) ?_
  refine zx_callV (pc := 3) (As := [.int (zJ 45)]) h zi_X8_accept zii_X8_accept zie_X8_accept zl_8_29 (by decide +kernel) ⟨Nat.le_of_ble_eq_true rfl, Nat.le_of_ble_eq_true rfl⟩ rfl zc_188 (by decide) rfl rfl ⟨rfl, rfl⟩ ⟨Nat.zero_le _, Nat.zero_le _⟩ (zki (fun x2 μ1 h => ?_))
  refine zw_istore_n (pc := 6) (n := 1) (i := 1) (lv' := [(0, .ref 188), (1, .int (zJ x2))]) (by decide +kernel) rfl (Nat.le_of_ble_eq_true rfl) rfl ?_
  refine zw_aload_n (pc := 7) (n := 0) (i := 0) 0 (by decide +kernel) rfl rfl ?_
  refine zx_callV (pc := 8) (As := []) h zi_X8_acceptNumber zii_X8_acceptNumber zie_X8_acceptNumber zl_8_33 (by decide +kernel) ⟨Nat.le_of_ble_eq_true rfl, Nat.le_of_ble_eq_true rfl⟩ rfl zc_188 (by decide) rfl rfl ⟨rfl, rfl⟩ ⟨Nat.zero_le _, Nat.zero_le _⟩ (zki (fun x4 μ3 h => ?_))
  obtain ⟨o5, h⟩ := h
  refine zw_istore_n (pc := 11) (n := 2) (i := 2) (lv' := [(0, .ref 188), (1, .int (zJ x2)), (2, .int (zJ x4))]) (by decide +kernel) rfl (Nat.le_of_ble_eq_true rfl) rfl ?_
  refine zw_iload_n (pc := 12) (n := 1) (i := 1) 1 (by decide +kernel) rfl rfl ?_
  refine zw_if_eq (pc := 13) (off := 12) (tgt := 25) (by decide +kernel) (by decide) o5 (fun hc => ?_) (fun hc => ?_)
  · replace h := h.1 hc
    obtain ⟨o6, h⟩ := h
    refine zw_iload_n (pc := 25) (n := 2) (i := 2) 2 (by decide +kernel) rfl rfl ?_
    exact zw_zret (pc := 26) (by decide +kernel) rfl (Nat.le_refl _) (Nat.le_refl _) o6 ⟨_, _, rfl, rfl, h⟩
  · replace h := h.2 hc
    obtain ⟨o7, h⟩ := h
    refine zw_aload_n (pc := 16) (n := 0) (i := 0) 0 (by decide +kernel) rfl rfl ?_
    refine zw_aload_n (pc := 17) (n := 0) (i := 0) 0 (by decide +kernel) rfl rfl ?_
    refine zx_getI (pc := 18) zf_8_22 (by decide +kernel) rfl zc_188 ?_
    refine zw_ineg (pc := 21) (by decide +kernel) ?_
    refine zx_putI (pc := 22) zf_8_22 (by decide +kernel) rfl zc_188 ?_
    refine zw_iload_n (pc := 25) (n := 2) (i := 2) 2 (by decide +kernel) rfl rfl ?_
    exact zw_zret (pc := 26) (by decide +kernel) rfl (Nat.le_refl _) (Nat.le_refl _) o7 ⟨_, _, rfl, rfl, h⟩
abbrev at_X8_acceptNumber_7 (g : zG) (φ : Int → zMu → Prop) (v1 : Int) (μ : zMu) : Prop := zWP g zm_X8_acceptNumber (zmo g zm_X8_acceptNumber (zΦi φ)) 7 [(0, .ref 188), (1, .int (zJ v1))] [] 0 0 (zw μ)
theorem sg_X8_acceptNumber {g : zG} {φ : Int → zMu → Prop} {μ : zMu}
    (h : at_X8_acceptNumber_7 g φ 0 (zup μ 188 3 0)) : zOi g zm_X8_acceptNumber [.ref 188] μ φ := by
  refine zok_of (by decide +kernel) rfl ?_
  show zWP g zm_X8_acceptNumber (zmo g zm_X8_acceptNumber (zΦi φ)) 0 [(0, .ref 188)] [] 0 0 (zw μ)
  refine zw_aload_n (pc := 0) (n := 0) (i := 0) 0 (by decide +kernel) rfl rfl ?_
  refine zw_iconst (pc := 1) (n := 0) (by decide +kernel) ?_
  refine zx_putI (pc := 2) zf_8_22 (by decide +kernel) rfl zc_188 ?_
  refine zw_iconst (pc := 5) (n := 0) (by decide +kernel) ?_
  refine zw_istore_n (pc := 6) (n := 1) (i := 1) (lv' := [(0, .ref 188), (1, .int (zJ 0))]) (by decide +kernel) rfl (Nat.le_of_ble_eq_true rfl) rfl ?_
  exact h
theorem sg_X8_acceptNumber_7 {g : zG} {φ : Int → zMu → Prop} {v1 : Int} {μ : zMu}
    (h : (zR v1) ∧ ((3 ≤ v1 → ((v1 ≤ 0 → φ 0 μ) ∧ (0 < v1 → φ 1 μ))) ∧ (v1 < 3 → zOi g zm_X8_isAtDigit [.ref 188, .int (zJ 0), .int (zJ 9)] μ (fun x3 μ2 => (zR x3) ∧ ((x3 = 0 → ((v1 ≤ 0 → φ 0 μ2) ∧ (0 < v1 → φ 1 μ2))) ∧ (¬ x3 = 0 → (0 ≤ (μ2 188 2) ∧ (μ2 188 2) < 100) ∧ at_X8_acceptNumber_7 g φ (v1 + 1) (zup (zup μ2 188 3 (((10 * (μ2 188 3)) + (μ2 189 (Int.toNat (μ2 188 2)))) - 48)) 188 2 (((zup μ2 188 3 (((10 * (μ2 188 3)) + (μ2 189 (Int.toNat (μ2 188 2)))) - 48)) 188 2) + 1)))))))) : at_X8_acceptNumber_7 g φ v1 μ := by
  obtain ⟨o1, h⟩ := h
  refine zw_iload_n (pc := 7) (n := 1) (i := 1) 1 (by decide +kernel) rfl rfl ?_
  refine zw_iconst (pc := 8) (n := 3) (by decide +kernel) ?_
  refine zw_icmp_ge (pc := 9) (off := 53) (tgt := 62) (by decide +kernel) (by decide) o1 ⟨by decide, by decide⟩ (fun hc => ?_) (fun hc => ?_)
  · replace h := h.1 hc
    refine zw_iload_n (pc := 62) (n := 1) (i := 1) 1 (by decide +kernel) rfl rfl ?_
    refine zw_if_le (pc := 63) (off := 7) (tgt := 70) (by decide +kernel) (by decide) o1 (fun hc => ?_) (fun hc => ?_)
    · replace h := h.1 hc
      refine zw_iconst (pc := 70) (n := 0) (by decide +kernel) ?_
      exact zw_zret (pc := 71) (by decide +kernel) rfl (Nat.le_refl _) (Nat.le_refl _) (Or.inl rfl) ⟨_, _, rfl, rfl, h⟩
    · replace h := h.2 hc
      refine zw_iconst (pc := 66) (n := 1) (by decide +kernel) ?_
      refine zw_goto (pc := 67) (off := 4) (tgt := 71) (by decide +kernel) (by decide) ?_
      exact zw_zret (pc := 71) (by decide +kernel) rfl (Nat.le_refl _) (Nat.le_refl _) (Or.inr rfl) ⟨_, _, rfl, rfl, h⟩
  · replace h := h.2 hc
    refine zw_aload_n (pc := 12) (n := 0) (i := 0) 0 (by decide +kernel) rfl rfl ?_
    refine zw_iconst (pc := 13) (n := 0) (by decide +kernel) ?_
    refine zw_bipush (pc := 14) (n := 9) (by decide +kernel) (by decide +kernel) ?_
    refine zx_callV (pc := 16) (As := [.int (zJ 0), .int (zJ 9)]) h zi_X8_isAtDigit zii_X8_isAtDigit zie_X8_isAtDigit zl_8_25 (by decide +kernel) ⟨Nat.le_of_ble_eq_true rfl, Nat.le_of_ble_eq_true rfl⟩ rfl zc_188 (by decide) rfl rfl ⟨rfl, rfl⟩ ⟨Nat.zero_le _, Nat.zero_le _⟩ (zki (fun x3 μ2 h => ?_))
    obtain ⟨o4, h⟩ := h
    refine zw_if_eq (pc := 19) (off := 43) (tgt := 62) (by decide +kernel) (by decide) o4 (fun hc => ?_) (fun hc => ?_)
    · replace h := h.1 hc
      refine zw_iload_n (pc := 62) (n := 1) (i := 1) 1 (by decide +kernel) rfl rfl ?_
      refine zw_if_le (pc := 63) (off := 7) (tgt := 70) (by decide +kernel) (by decide) o1 (fun hc => ?_) (fun hc => ?_)
      · replace h := h.1 hc
        refine zw_iconst (pc := 70) (n := 0) (by decide +kernel) ?_
        exact zw_zret (pc := 71) (by decide +kernel) rfl (Nat.le_refl _) (Nat.le_refl _) (Or.inl rfl) ⟨_, _, rfl, rfl, h⟩
      · replace h := h.2 hc
        refine zw_iconst (pc := 66) (n := 1) (by decide +kernel) ?_
        refine zw_goto (pc := 67) (off := 4) (tgt := 71) (by decide +kernel) (by decide) ?_
        exact zw_zret (pc := 71) (by decide +kernel) rfl (Nat.le_refl _) (Nat.le_refl _) (Or.inr rfl) ⟨_, _, rfl, rfl, h⟩
    · replace h := h.2 hc
      obtain ⟨o5, h⟩ := h
      refine zw_aload_n (pc := 22) (n := 0) (i := 0) 0 (by decide +kernel) rfl rfl ?_
      refine zw_bipush (pc := 23) (n := 10) (by decide +kernel) (by decide +kernel) ?_
      refine zw_aload_n (pc := 25) (n := 0) (i := 0) 0 (by decide +kernel) rfl rfl ?_
      refine zx_getI (pc := 26) zf_8_22 (by decide +kernel) rfl zc_188 ?_
      refine zw_imul (pc := 29) (by decide +kernel) ?_
      refine zw_aload_n (pc := 30) (n := 0) (i := 0) 0 (by decide +kernel) rfl rfl ?_
      refine zx_getR (pc := 31) (o := 1) (r := 189) zf_8_9 (by decide +kernel) rfl zc_188 rfl (by decide) rfl ?_
      refine zw_aload_n (pc := 34) (n := 0) (i := 0) 0 (by decide +kernel) rfl rfl ?_
      refine zx_getI (pc := 35) zf_8_19 (by decide +kernel) rfl zc_188 ?_
      refine zx_iaload (pc := 38) (by decide +kernel) ⟨100, zc_189, o5.1, o5.2⟩ ?_
      refine zw_iadd (pc := 39) (by decide +kernel) ?_
      refine zw_bipush (pc := 40) (n := 48) (by decide +kernel) (by decide +kernel) ?_
      refine zw_isub (pc := 42) (by decide +kernel) ?_
      refine zx_putI (pc := 43) zf_8_22 (by decide +kernel) rfl zc_188 ?_
      refine zw_aload_n (pc := 46) (n := 0) (i := 0) 0 (by decide +kernel) rfl rfl ?_
      refine zw_dup (pc := 47) (by decide +kernel) rfl ?_
      refine zx_getI (pc := 48) zf_8_19 (by decide +kernel) rfl zc_188 ?_
      refine zw_iconst (pc := 51) (n := 1) (by decide +kernel) ?_
      refine zw_iadd (pc := 52) (by decide +kernel) ?_
      refine zx_putI (pc := 53) zf_8_19 (by decide +kernel) rfl zc_188 ?_
      refine zw_iinc (pc := 56) (i := 1) (n := 1) (lv' := [(0, .ref 188), (1, .int (zJ (v1 + 1)))]) 1 (by decide +kernel) rfl rfl (Nat.le_of_ble_eq_true rfl) rfl ?_
      refine zw_goto (pc := 59) (off := (-52)) (tgt := 7) (by decide +kernel) (by decide) ?_
      exact h
theorem sg_X8_isAtDigit {g : zG} {φ : Int → zMu → Prop} {v1 : Int} {v2 : Int} {μ : zMu}
    (h : (zR (μ 188 2)) ∧ (zR (μ 188 1)) ∧ (((μ 188 1) ≤ (μ 188 2) → φ 0 μ) ∧ ((μ 188 2) < (μ 188 1) → (0 ≤ (μ 188 2) ∧ (μ 188 2) < 100) ∧ (zR (μ 189 (Int.toNat (μ 188 2)))) ∧ (zR (48 + v1)) ∧ (((μ 189 (Int.toNat (μ 188 2))) < (48 + v1) → φ 0 μ) ∧ ((48 + v1) ≤ (μ 189 (Int.toNat (μ 188 2))) → (zR (48 + v2)) ∧ (((48 + v2) < (μ 189 (Int.toNat (μ 188 2))) → φ 0 μ) ∧ ((μ 189 (Int.toNat (μ 188 2))) ≤ (48 + v2) → φ 1 μ))))))) : zOi g zm_X8_isAtDigit [.ref 188, .int (zJ v1), .int (zJ v2)] μ φ := by
  refine zok_of (by decide +kernel) rfl ?_
  show zWP g zm_X8_isAtDigit (zmo g zm_X8_isAtDigit (zΦi φ)) 0 [(0, .ref 188), (1, .int (zJ v1)), (2, .int (zJ v2))] [] 0 0 (zw μ)
  obtain ⟨o1, o2, h⟩ := h
  refine zw_aload_n (pc := 0) (n := 0) (i := 0) 0 (by decide +kernel) rfl rfl ?_
  refine zx_getI (pc := 1) zf_8_19 (by decide +kernel) rfl zc_188 ?_
  refine zw_aload_n (pc := 4) (n := 0) (i := 0) 0 (by decide +kernel) rfl rfl ?_
  refine zx_getI (pc := 5) zf_8_15 (by decide +kernel) rfl zc_188 ?_
  refine zw_icmp_ge (pc := 8) (off := 39) (tgt := 47) (by decide +kernel) (by decide) o1 o2 (fun hc => ?_) (fun hc => ?_)
  · replace h := h.1 hc
    refine zw_iconst (pc := 47) (n := 0) (by decide +kernel) ?_
    exact zw_zret (pc := 48) (by decide +kernel) rfl (Nat.le_refl _) (Nat.le_refl _) (Or.inl rfl) ⟨_, _, rfl, rfl, h⟩
  · replace h := h.2 hc
    obtain ⟨o3, o4, o5, h⟩ := h
    refine zw_aload_n (pc := 11) (n := 0) (i := 0) 0 (by decide +kernel) rfl rfl ?_
    refine zx_getR (pc := 12) (o := 1) (r := 189) zf_8_9 (by decide +kernel) rfl zc_188 rfl (by decide) rfl ?_
    refine zw_aload_n (pc := 15) (n := 0) (i := 0) 0 (by decide +kernel) rfl rfl ?_
    refine zx_getI (pc := 16) zf_8_19 (by decide +kernel) rfl zc_188 ?_
    refine zx_iaload (pc := 19) (by decide +kernel) ⟨100, zc_189, o3.1, o3.2⟩ ?_
    refine zw_bipush (pc := 20) (n := 48) (by decide +kernel) (by decide +kernel) ?_
    refine zw_iload_n (pc := 22) (n := 1) (i := 1) 1 (by decide +kernel) rfl rfl ?_
    refine zw_iadd (pc := 23) (by decide +kernel) ?_
    refine zw_icmp_lt (pc := 24) (off := 23) (tgt := 47) (by decide +kernel) (by decide) o4 o5 (fun hc => ?_) (fun hc => ?_)
    · replace h := h.1 hc
      refine zw_iconst (pc := 47) (n := 0) (by decide +kernel) ?_
      exact zw_zret (pc := 48) (by decide +kernel) rfl (Nat.le_refl _) (Nat.le_refl _) (Or.inl rfl) ⟨_, _, rfl, rfl, h⟩
    · replace h := h.2 hc
      obtain ⟨o6, h⟩ := h
      refine zw_aload_n (pc := 27) (n := 0) (i := 0) 0 (by decide +kernel) rfl rfl ?_
      refine zx_getR (pc := 28) (o := 1) (r := 189) zf_8_9 (by decide +kernel) rfl zc_188 rfl (by decide) rfl ?_
      refine zw_aload_n (pc := 31) (n := 0) (i := 0) 0 (by decide +kernel) rfl rfl ?_
      refine zx_getI (pc := 32) zf_8_19 (by decide +kernel) rfl zc_188 ?_
      refine zx_iaload (pc := 35) (by decide +kernel) ⟨100, zc_189, o3.1, o3.2⟩ ?_
      refine zw_bipush (pc := 36) (n := 48) (by decide +kernel) (by decide +kernel) ?_
      refine zw_iload_n (pc := 38) (n := 2) (i := 2) 2 (by decide +kernel) rfl rfl ?_
      refine zw_iadd (pc := 39) (by decide +kernel) ?_
      refine zw_icmp_gt (pc := 40) (off := 7) (tgt := 47) (by decide +kernel) (by decide) o4 o6 (fun hc => ?_) (fun hc => ?_)
      · replace h := h.1 hc
        refine zw_iconst (pc := 47) (n := 0) (by decide +kernel) ?_
        exact zw_zret (pc := 48) (by decide +kernel) rfl (Nat.le_refl _) (Nat.le_refl _) (Or.inl rfl) ⟨_, _, rfl, rfl, h⟩
      · replace h := h.2 hc
        refine zw_iconst (pc := 43) (n := 1) (by decide +kernel) ?_
        refine zw_goto (pc := 44) (off := 4) (tgt := 48) (by decide +kernel) (by decide) ?_
        exact zw_zret (pc := 48) (by decide +kernel) rfl (Nat.le_refl _) (Nat.le_refl _) (Or.inr rfl) ⟨_, _, rfl, rfl, h⟩
theorem sg_X8_isAtEnd {g : zG} {φ : Int → zMu → Prop} {μ : zMu}
    (h : (zR (μ 188 2)) ∧ (zR (μ 188 1)) ∧ ((¬ (μ 188 2) = (μ 188 1) → φ 0 μ) ∧ ((μ 188 2) = (μ 188 1) → φ 1 μ))) : zOi g zm_X8_isAtEnd [.ref 188] μ φ := by
  refine zok_of (by decide +kernel) rfl ?_
  show zWP g zm_X8_isAtEnd (zmo g zm_X8_isAtEnd (zΦi φ)) 0 [(0, .ref 188)] [] 0 0 (zw μ)
  obtain ⟨o1, o2, h⟩ := h
  refine zw_aload_n (pc := 0) (n := 0) (i := 0) 0 (by decide +kernel) rfl rfl ?_
  refine zx_getI (pc := 1) zf_8_19 (by decide +kernel) rfl zc_188 ?_
  refine zw_aload_n (pc := 4) (n := 0) (i := 0) 0 (by decide +kernel) rfl rfl ?_
  refine zx_getI (pc := 5) zf_8_15 (by decide +kernel) rfl zc_188 ?_
  refine zw_icmp_ne (pc := 8) (off := 7) (tgt := 15) (by decide +kernel) (by decide) o1 o2 (fun hc => ?_) (fun hc => ?_)
  · replace h := h.1 hc
    refine zw_iconst (pc := 15) (n := 0) (by decide +kernel) ?_
    exact zw_zret (pc := 16) (by decide +kernel) rfl (Nat.le_refl _) (Nat.le_refl _) (Or.inl rfl) ⟨_, _, rfl, rfl, h⟩
  · replace h := h.2 hc
    refine zw_iconst (pc := 11) (n := 1) (by decide +kernel) ?_
    refine zw_goto (pc := 12) (off := 4) (tgt := 16) (by decide +kernel) (by decide) ?_
    exact zw_zret (pc := 16) (by decide +kernel) rfl (Nat.le_refl _) (Nat.le_refl _) (Or.inr rfl) ⟨_, _, rfl, rfl, h⟩
theorem sg_X8_clear {g : zG} {φ : zMu → Prop} {μ : zMu}
    (h : φ (zup μ 188 1 0)) : zOv g zm_X8_clear [.ref 188] μ φ := by
  refine zok_of (by decide +kernel) rfl ?_
  show zWP g zm_X8_clear (zmo g zm_X8_clear (zΦv φ)) 0 [(0, .ref 188)] [] 0 0 (zw μ)
  refine zw_aload_n (pc := 0) (n := 0) (i := 0) 0 (by decide +kernel) rfl rfl ?_
  refine zw_iconst (pc := 1) (n := 0) (by decide +kernel) ?_
  refine zx_putI (pc := 2) zf_8_15 (by decide +kernel) rfl zc_188 ?_
  exact zw_vret (pc := 5) (by decide +kernel) rfl (Nat.le_refl _) (Nat.le_refl _) ⟨_, rfl, rfl, h⟩
theorem sg_X8_acceptExponent {g : zG} {φ : Int → zMu → Prop} {μ : zMu}
    (h : zOi g zm_X8_isAtDigit [.ref 188, .int (zJ 1), .int (zJ 8)] μ (fun x2 μ1 => (zR x2) ∧ ((¬ x2 = 0 → (0 ≤ (μ1 188 2) ∧ (μ1 188 2) < 100) ∧ φ 1 (zup (zup μ1 188 3 ((μ1 189 (Int.toNat (μ1 188 2))) - 48)) 188 2 (((zup μ1 188 3 ((μ1 189 (Int.toNat (μ1 188 2))) - 48)) 188 2) + 1))) ∧ (x2 = 0 → φ 0 μ1)))) : zOi g zm_X8_acceptExponent [.ref 188] μ φ := by
  refine zok_of (by decide +kernel) rfl ?_
  show zWP g zm_X8_acceptExponent (zmo g zm_X8_acceptExponent (zΦi φ)) 0 [(0, .ref 188)] [] 0 0 (zw μ)
  refine zw_aload_n (pc := 0) (n := 0) (i := 0) 0 (by decide +kernel) rfl rfl ?_
  refine zw_iconst (pc := 1) (n := 1) (by decide +kernel) ?_
  refine zw_bipush (pc := 2) (n := 8) (by decide +kernel) (by decide +kernel) ?_
  refine zx_callV (pc := 4) (As := [.int (zJ 1), .int (zJ 8)]) h zi_X8_isAtDigit zii_X8_isAtDigit zie_X8_isAtDigit zl_8_25 (by decide +kernel) ⟨Nat.le_of_ble_eq_true rfl, Nat.le_of_ble_eq_true rfl⟩ rfl zc_188 (by decide) rfl rfl ⟨rfl, rfl⟩ ⟨Nat.zero_le _, Nat.zero_le _⟩ (zki (fun x2 μ1 h => ?_))
  obtain ⟨o3, h⟩ := h
  refine zw_if_ne (pc := 7) (off := 5) (tgt := 12) (by decide +kernel) (by decide) o3 (fun hc => ?_) (fun hc => ?_)
  · replace h := h.1 hc
    obtain ⟨o4, h⟩ := h
    refine zw_aload_n (pc := 12) (n := 0) (i := 0) 0 (by decide +kernel) rfl rfl ?_
    refine zw_aload_n (pc := 13) (n := 0) (i := 0) 0 (by decide +kernel) rfl rfl ?_
    refine zx_getR (pc := 14) (o := 1) (r := 189) zf_8_9 (by decide +kernel) rfl zc_188 rfl (by decide) rfl ?_
    refine zw_aload_n (pc := 17) (n := 0) (i := 0) 0 (by decide +kernel) rfl rfl ?_
    refine zx_getI (pc := 18) zf_8_19 (by decide +kernel) rfl zc_188 ?_
    refine zx_iaload (pc := 21) (by decide +kernel) ⟨100, zc_189, o4.1, o4.2⟩ ?_
    refine zw_bipush (pc := 22) (n := 48) (by decide +kernel) (by decide +kernel) ?_
    refine zw_isub (pc := 24) (by decide +kernel) ?_
    refine zx_putI (pc := 25) zf_8_22 (by decide +kernel) rfl zc_188 ?_
    refine zw_aload_n (pc := 28) (n := 0) (i := 0) 0 (by decide +kernel) rfl rfl ?_
    refine zw_dup (pc := 29) (by decide +kernel) rfl ?_
    refine zx_getI (pc := 30) zf_8_19 (by decide +kernel) rfl zc_188 ?_
    refine zw_iconst (pc := 33) (n := 1) (by decide +kernel) ?_
    refine zw_iadd (pc := 34) (by decide +kernel) ?_
    refine zx_putI (pc := 35) zf_8_19 (by decide +kernel) rfl zc_188 ?_
    refine zw_iconst (pc := 38) (n := 1) (by decide +kernel) ?_
    exact zw_zret (pc := 39) (by decide +kernel) rfl (Nat.le_refl _) (Nat.le_refl _) (Or.inr rfl) ⟨_, _, rfl, rfl, h⟩
  · replace h := h.2 hc
    refine zw_iconst (pc := 10) (n := 0) (by decide +kernel) ?_
    exact zw_zret (pc := 11) (by decide +kernel) rfl (Nat.le_refl _) (Nat.le_refl _) (Or.inl rfl) ⟨_, _, rfl, rfl, h⟩
abbrev at_X5_parse_11 (g : zG) (φ : Int → zMu → Prop) (v2 : Int) (μ : zMu) : Prop := zWP g zm_X5_parse (zmo g zm_X5_parse (zΦi φ)) 11 [(0, .ref 190), (1, .ref 188), (2, .int (zJ v2))] [] 0 0 (zw μ)
theorem sg_X5_parse {g : zG} {φ : Int → zMu → Prop} {μ : zMu}
    (h : zOv g zm_X8_rewind [.ref 188] μ (fun μ1 => at_X5_parse_11 g φ 1 (zup μ1 190 2 0))) : zOi g zm_X5_parse [.ref 190, .ref 188] μ φ := by
  refine zok_of (by decide +kernel) rfl ?_
  show zWP g zm_X5_parse (zmo g zm_X5_parse (zΦi φ)) 0 [(0, .ref 190), (1, .ref 188)] [] 0 0 (zw μ)
  refine zw_aload_n (pc := 0) (n := 1) (i := 1) 1 (by decide +kernel) rfl rfl ?_
  refine zx_callV (pc := 1) (As := []) h zi_X8_rewind zii_X8_rewind zie_X8_rewind zl_5_18 (by decide +kernel) ⟨Nat.le_of_ble_eq_true rfl, Nat.le_of_ble_eq_true rfl⟩ rfl zc_188 (by decide) rfl rfl ⟨rfl, rfl⟩ ⟨Nat.zero_le _, Nat.zero_le _⟩ (zkv (fun μ1 h => ?_))
  refine zw_aload_n (pc := 4) (n := 0) (i := 0) 0 (by decide +kernel) rfl rfl ?_
  refine zw_iconst (pc := 5) (n := 0) (by decide +kernel) ?_
  refine zx_putI (pc := 6) zf_5_23 (by decide +kernel) rfl zc_190 ?_
  refine zw_iconst (pc := 9) (n := 1) (by decide +kernel) ?_
  refine zw_istore_n (pc := 10) (n := 2) (i := 2) (lv' := [(0, .ref 190), (1, .ref 188), (2, .int (zJ 1))]) (by decide +kernel) rfl (Nat.le_of_ble_eq_true rfl) rfl ?_
  exact h
theorem sg_X5_parse_11 {g : zG} {φ : Int → zMu → Prop} {v2 : Int} {μ : zMu}
    (h : (zR v2) ∧ ((v2 = 0 → zOi g zm_X8_isAtEnd [.ref 188] μ (fun x3 μ2 => (x3 = 0 ∨ x3 = 1) ∧ φ x3 μ2)) ∧ (¬ v2 = 0 → (zR (μ 190 2)) ∧ ((100 ≤ (μ 190 2) → zOi g zm_X8_isAtEnd [.ref 188] μ (fun x7 μ6 => (x7 = 0 ∨ x7 = 1) ∧ φ x7 μ6)) ∧ ((μ 190 2) < 100 → zOi g zm_X5_parseCommand [.ref 190, .ref 188] μ (fun x10 μ9 => (zR x10) ∧ ((¬ x10 = 0 → zOi g zm_X8_accept [.ref 188, .int (zJ 59)] (zup μ9 190 2 ((μ9 190 2) + 1)) (fun x13 μ12 => at_X5_parse_11 g φ x13 μ12)) ∧ (x10 = 0 → φ 0 μ9)))))))) : at_X5_parse_11 g φ v2 μ := by
  obtain ⟨o1, h⟩ := h
  refine zw_iload_n (pc := 11) (n := 2) (i := 2) 2 (by decide +kernel) rfl rfl ?_
  refine zw_if_eq (pc := 12) (off := 42) (tgt := 54) (by decide +kernel) (by decide) o1 (fun hc => ?_) (fun hc => ?_)
  · replace h := h.1 hc
    refine zw_aload_n (pc := 54) (n := 1) (i := 1) 1 (by decide +kernel) rfl rfl ?_
    refine zx_callV (pc := 55) (As := []) h zi_X8_isAtEnd zii_X8_isAtEnd zie_X8_isAtEnd zl_5_35 (by decide +kernel) ⟨Nat.le_of_ble_eq_true rfl, Nat.le_of_ble_eq_true rfl⟩ rfl zc_188 (by decide) rfl rfl ⟨rfl, rfl⟩ ⟨Nat.zero_le _, Nat.zero_le _⟩ (zki (fun x3 μ2 h => ?_))
    obtain ⟨o4, h⟩ := h
    exact zw_zret (pc := 58) (by decide +kernel) rfl (Nat.le_refl _) (Nat.le_refl _) o4 ⟨_, _, rfl, rfl, h⟩
  · replace h := h.2 hc
    obtain ⟨o5, h⟩ := h
    refine zw_aload_n (pc := 15) (n := 0) (i := 0) 0 (by decide +kernel) rfl rfl ?_
    refine zx_getI (pc := 16) zf_5_23 (by decide +kernel) rfl zc_190 ?_
    refine zw_bipush (pc := 19) (n := 100) (by decide +kernel) (by decide +kernel) ?_
    refine zw_icmp_ge (pc := 21) (off := 33) (tgt := 54) (by decide +kernel) (by decide) o5 ⟨by decide, by decide⟩ (fun hc => ?_) (fun hc => ?_)
    · replace h := h.1 hc
      refine zw_aload_n (pc := 54) (n := 1) (i := 1) 1 (by decide +kernel) rfl rfl ?_
      refine zx_callV (pc := 55) (As := []) h zi_X8_isAtEnd zii_X8_isAtEnd zie_X8_isAtEnd zl_5_35 (by decide +kernel) ⟨Nat.le_of_ble_eq_true rfl, Nat.le_of_ble_eq_true rfl⟩ rfl zc_188 (by decide) rfl rfl ⟨rfl, rfl⟩ ⟨Nat.zero_le _, Nat.zero_le _⟩ (zki (fun x7 μ6 h => ?_))
      obtain ⟨o8, h⟩ := h
      exact zw_zret (pc := 58) (by decide +kernel) rfl (Nat.le_refl _) (Nat.le_refl _) o8 ⟨_, _, rfl, rfl, h⟩
    · replace h := h.2 hc
      refine zw_aload_n (pc := 24) (n := 0) (i := 0) 0 (by decide +kernel) rfl rfl ?_
      refine zw_aload_n (pc := 25) (n := 1) (i := 1) 1 (by decide +kernel) rfl rfl ?_
      refine zx_callV (pc := 26) (As := [.ref 188]) h zi_X5_parseCommand zii_X5_parseCommand zie_X5_parseCommand zl_5_27 (by decide +kernel) ⟨Nat.le_of_ble_eq_true rfl, Nat.le_of_ble_eq_true rfl⟩ rfl zc_190 (by decide) rfl rfl ⟨rfl, rfl⟩ ⟨Nat.zero_le _, Nat.zero_le _⟩ (zki (fun x10 μ9 h => ?_))
      obtain ⟨o11, h⟩ := h
      refine zw_if_ne (pc := 29) (off := 5) (tgt := 34) (by decide +kernel) (by decide) o11 (fun hc => ?_) (fun hc => ?_)
      · replace h := h.1 hc
        refine zw_aload_n (pc := 34) (n := 0) (i := 0) 0 (by decide +kernel) rfl rfl ?_
        refine zw_dup (pc := 35) (by decide +kernel) rfl ?_
        refine zx_getI (pc := 36) zf_5_23 (by decide +kernel) rfl zc_190 ?_
        refine zw_iconst (pc := 39) (n := 1) (by decide +kernel) ?_
        refine zw_iadd (pc := 40) (by decide +kernel) ?_
        refine zx_putI (pc := 41) zf_5_23 (by decide +kernel) rfl zc_190 ?_
        refine zw_aload_n (pc := 44) (n := 1) (i := 1) 1 (by decide +kernel) rfl rfl ?_
        refine zw_bipush (pc := 45) (n := 59) (by decide +kernel) (by decide +kernel) ?_
        refine zx_callV (pc := 47) (As := [.int (zJ 59)]) h zi_X8_accept zii_X8_accept zie_X8_accept zl_5_31 (by decide +kernel) ⟨Nat.le_of_ble_eq_true rfl, Nat.le_of_ble_eq_true rfl⟩ rfl zc_188 (by decide) rfl rfl ⟨rfl, rfl⟩ ⟨Nat.zero_le _, Nat.zero_le _⟩ (zki (fun x13 μ12 h => ?_))
        refine zw_istore_n (pc := 50) (n := 2) (i := 2) (lv' := [(0, .ref 190), (1, .ref 188), (2, .int (zJ x13))]) (by decide +kernel) rfl (Nat.le_of_ble_eq_true rfl) rfl ?_
        refine zw_goto (pc := 51) (off := (-40)) (tgt := 11) (by decide +kernel) (by decide) ?_
        exact h
      · replace h := h.2 hc
        refine zw_iconst (pc := 32) (n := 0) (by decide +kernel) ?_
        exact zw_zret (pc := 33) (by decide +kernel) rfl (Nat.le_refl _) (Nat.le_refl _) (Or.inl rfl) ⟨_, _, rfl, rfl, h⟩
abbrev at_X5_parseCommand_41 (g : zG) (φ : Int → zMu → Prop) (v4 : Int) (v5 : Int) (μ : zMu) : Prop := zWP g zm_X5_parseCommand (zmo g zm_X5_parseCommand (zΦi φ)) 41 [(0, .ref 190), (1, .ref 188), (4, .int (zJ v4)), (5, .int (zJ v5))] [] 0 0 (zw μ)
theorem sg_X5_parseCommand {g : zG} {φ : Int → zMu → Prop} {μ : zMu}
    (h : zOi g zm_X8_wordEnd [.ref 188] μ (fun x2 μ1 => zOi g zm_X5_commandAt [.ref 188, .int (zJ x2)] μ1 (fun x4 μ3 => (zR x4) ∧ ((0 ≤ x4 → (0 ≤ ((zup μ3 188 2 x2) 190 2) ∧ ((zup μ3 188 2 x2) 190 2) < 100) ∧ zOi g zm_X5_numbersAfter [.int (zJ x4)] (zup (zup μ3 188 2 x2) 191 (Int.toNat ((zup μ3 188 2 x2) 190 2)) x4) (fun x8 μ7 => at_X5_parseCommand_41 g φ x8 0 μ7)) ∧ (x4 < 0 → φ 0 μ3))))) : zOi g zm_X5_parseCommand [.ref 190, .ref 188] μ φ := by
  refine zok_of (by decide +kernel) rfl ?_
  show zWP g zm_X5_parseCommand (zmo g zm_X5_parseCommand (zΦi φ)) 0 [(0, .ref 190), (1, .ref 188)] [] 0 0 (zw μ)
  refine zw_aload_n (pc := 0) (n := 1) (i := 1) 1 (by decide +kernel) rfl rfl ?_
  refine zx_callV (pc := 1) (As := []) h zi_X8_wordEnd zii_X8_wordEnd zie_X8_wordEnd zl_5_39 (by decide +kernel) ⟨Nat.le_of_ble_eq_true rfl, Nat.le_of_ble_eq_true rfl⟩ rfl zc_188 (by decide) rfl rfl ⟨rfl, rfl⟩ ⟨Nat.zero_le _, Nat.zero_le _⟩ (zki (fun x2 μ1 h => ?_))
  refine zw_istore_n (pc := 4) (n := 2) (i := 2) (lv' := [(0, .ref 190), (1, .ref 188), (2, .int (zJ x2))]) (by decide +kernel) rfl (Nat.le_of_ble_eq_true rfl) rfl ?_
  refine zw_aload_n (pc := 5) (n := 1) (i := 1) 1 (by decide +kernel) rfl rfl ?_
  refine zw_iload_n (pc := 6) (n := 2) (i := 2) 2 (by decide +kernel) rfl rfl ?_
  refine zx_callS (pc := 7) (As := [.ref 188, .int (zJ x2)]) h zi_X5_commandAt zis_X5_commandAt zl_5_43 (by decide +kernel) ⟨Nat.le_of_ble_eq_true rfl, Nat.le_of_ble_eq_true rfl⟩ rfl rfl ⟨rfl, rfl⟩ ⟨Nat.zero_le _, Nat.zero_le _⟩ (zki (fun x4 μ3 h => ?_))
  obtain ⟨o5, h⟩ := h
  refine zw_istore_n (pc := 10) (n := 3) (i := 3) (lv' := [(0, .ref 190), (1, .ref 188), (2, .int (zJ x2)), (3, .int (zJ x4))]) (by decide +kernel) rfl (Nat.le_of_ble_eq_true rfl) rfl ?_
  refine zw_iload_n (pc := 11) (n := 3) (i := 3) 3 (by decide +kernel) rfl rfl ?_
  refine zw_if_ge (pc := 12) (off := 5) (tgt := 17) (by decide +kernel) (by decide) o5 (fun hc => ?_) (fun hc => ?_)
  · replace h := h.1 hc
    obtain ⟨o6, h⟩ := h
    refine zw_aload_n (pc := 17) (n := 1) (i := 1) 1 (by decide +kernel) rfl rfl ?_
    refine zw_iload_n (pc := 18) (n := 2) (i := 2) 2 (by decide +kernel) rfl rfl ?_
    refine zx_putI (pc := 19) zf_5_47 (by decide +kernel) rfl zc_188 ?_
    refine zw_aload_n (pc := 22) (n := 0) (i := 0) 0 (by decide +kernel) rfl rfl ?_
    refine zx_getR (pc := 23) (o := 1) (r := 191) zf_5_9 (by decide +kernel) rfl zc_190 rfl (by decide) rfl ?_
    refine zw_aload_n (pc := 26) (n := 0) (i := 0) 0 (by decide +kernel) rfl rfl ?_
    refine zx_getI (pc := 27) zf_5_23 (by decide +kernel) rfl zc_190 ?_
    refine zw_iload_n (pc := 30) (n := 3) (i := 3) 3 (by decide +kernel) rfl rfl ?_
    refine zx_iastore (pc := 31) (by decide +kernel) ⟨100, zc_191, o6.1, o6.2⟩ ?_
    refine zw_iload_n (pc := 32) (n := 3) (i := 3) 3 (by decide +kernel) rfl rfl ?_
    refine zx_callS (pc := 33) (As := [.int (zJ x4)]) h zi_X5_numbersAfter zis_X5_numbersAfter zl_5_50 (by decide +kernel) ⟨Nat.le_of_ble_eq_true rfl, Nat.le_of_ble_eq_true rfl⟩ rfl rfl ⟨rfl, rfl⟩ ⟨Nat.zero_le _, Nat.zero_le _⟩ (zki (fun x8 μ7 h => ?_))
    refine zw_istore (pc := 36) (i := 4) (lv' := [(0, .ref 190), (1, .ref 188), (2, .int (zJ x2)), (3, .int (zJ x4)), (4, .int (zJ x8))]) (by decide +kernel) (Nat.le_of_ble_eq_true rfl) rfl ?_
    refine zw_iconst (pc := 38) (n := 0) (by decide +kernel) ?_
    refine zw_istore (pc := 39) (i := 5) (lv' := [(0, .ref 190), (1, .ref 188), (2, .int (zJ x2)), (3, .int (zJ x4)), (4, .int (zJ x8)), (5, .int (zJ 0))]) (by decide +kernel) (Nat.le_of_ble_eq_true rfl) rfl ?_
    exact zw_pick (lv' := [(0, .ref 190), (1, .ref 188), (4, .int (zJ x8)), (5, .int (zJ 0))]) [0, 1, 4, 5] rfl h
  · replace h := h.2 hc
    refine zw_iconst (pc := 15) (n := 0) (by decide +kernel) ?_
    exact zw_zret (pc := 16) (by decide +kernel) rfl (Nat.le_refl _) (Nat.le_refl _) (Or.inl rfl) ⟨_, _, rfl, rfl, h⟩
theorem sg_X5_parseCommand_41 {g : zG} {φ : Int → zMu → Prop} {v4 : Int} {v5 : Int} {μ : zMu}
    (h : (zR v5) ∧ (zR v4) ∧ ((v4 ≤ v5 → φ 1 μ) ∧ (v5 < v4 → zOi g zm_X8_accept [.ref 188, .int (zJ 32)] μ (fun x4 μ3 => (zR x4) ∧ ((x4 = 0 → φ 0 μ3) ∧ (¬ x4 = 0 → zOi g zm_X8_acceptSignedNumber [.ref 188] μ3 (fun x7 μ6 => (zR x7) ∧ ((¬ x7 = 0 → (0 ≤ ((4 * (μ6 190 2)) + v5) ∧ ((4 * (μ6 190 2)) + v5) < 400) ∧ at_X5_parseCommand_41 g φ v4 (v5 + 1) (zup μ6 192 (Int.toNat ((4 * (μ6 190 2)) + v5)) (μ6 188 3))) ∧ (x7 = 0 → φ 0 μ6))))))))) : at_X5_parseCommand_41 g φ v4 v5 μ := by
  obtain ⟨o1, o2, h⟩ := h
  refine zw_iload (pc := 41) (i := 5) 3 (by decide +kernel) rfl ?_
  refine zw_iload (pc := 43) (i := 4) 2 (by decide +kernel) rfl ?_
  refine zw_icmp_ge (pc := 45) (off := 45) (tgt := 90) (by decide +kernel) (by decide) o1 o2 (fun hc => ?_) (fun hc => ?_)
  · replace h := h.1 hc
    refine zw_iconst (pc := 90) (n := 1) (by decide +kernel) ?_
    exact zw_zret (pc := 91) (by decide +kernel) rfl (Nat.le_refl _) (Nat.le_refl _) (Or.inr rfl) ⟨_, _, rfl, rfl, h⟩
  · replace h := h.2 hc
    refine zw_aload_n (pc := 48) (n := 1) (i := 1) 1 (by decide +kernel) rfl rfl ?_
    refine zw_bipush (pc := 49) (n := 32) (by decide +kernel) (by decide +kernel) ?_
    refine zx_callV (pc := 51) (As := [.int (zJ 32)]) h zi_X8_accept zii_X8_accept zie_X8_accept zl_5_31 (by decide +kernel) ⟨Nat.le_of_ble_eq_true rfl, Nat.le_of_ble_eq_true rfl⟩ rfl zc_188 (by decide) rfl rfl ⟨rfl, rfl⟩ ⟨Nat.zero_le _, Nat.zero_le _⟩ (zki (fun x4 μ3 h => ?_))
    obtain ⟨o5, h⟩ := h
    refine zw_if_eq (pc := 54) (off := 10) (tgt := 64) (by decide +kernel) (by decide) o5 (fun hc => ?_) (fun hc => ?_)
    · replace h := h.1 hc
      refine zw_iconst (pc := 64) (n := 0) (by decide +kernel) ?_
      exact zw_zret (pc := 65) (by decide +kernel) rfl (Nat.le_refl _) (Nat.le_refl _) (Or.inl rfl) ⟨_, _, rfl, rfl, h⟩
    · replace h := h.2 hc
      refine zw_aload_n (pc := 57) (n := 1) (i := 1) 1 (by decide +kernel) rfl rfl ?_
      refine zx_callV (pc := 58) (As := []) h zi_X8_acceptSignedNumber zii_X8_acceptSignedNumber zie_X8_acceptSignedNumber zl_5_54 (by decide +kernel) ⟨Nat.le_of_ble_eq_true rfl, Nat.le_of_ble_eq_true rfl⟩ rfl zc_188 (by decide) rfl rfl ⟨rfl, rfl⟩ ⟨Nat.zero_le _, Nat.zero_le _⟩ (zki (fun x7 μ6 h => ?_))
      obtain ⟨o8, h⟩ := h
      refine zw_if_ne (pc := 61) (off := 5) (tgt := 66) (by decide +kernel) (by decide) o8 (fun hc => ?_) (fun hc => ?_)
      · replace h := h.1 hc
        obtain ⟨o9, h⟩ := h
        refine zw_aload_n (pc := 66) (n := 0) (i := 0) 0 (by decide +kernel) rfl rfl ?_
        refine zx_getR (pc := 67) (o := 2) (r := 192) zf_5_15 (by decide +kernel) rfl zc_190 rfl (by decide) rfl ?_
        refine zw_iconst (pc := 70) (n := 4) (by decide +kernel) ?_
        refine zw_aload_n (pc := 71) (n := 0) (i := 0) 0 (by decide +kernel) rfl rfl ?_
        refine zx_getI (pc := 72) zf_5_23 (by decide +kernel) rfl zc_190 ?_
        refine zw_imul (pc := 75) (by decide +kernel) ?_
        refine zw_iload (pc := 76) (i := 5) 3 (by decide +kernel) rfl ?_
        refine zw_iadd (pc := 78) (by decide +kernel) ?_
        refine zw_aload_n (pc := 79) (n := 1) (i := 1) 1 (by decide +kernel) rfl rfl ?_
        refine zx_getI (pc := 80) zf_5_57 (by decide +kernel) rfl zc_188 ?_
        refine zx_iastore (pc := 83) (by decide +kernel) ⟨400, zc_192, o9.1, o9.2⟩ ?_
        refine zw_iinc (pc := 84) (i := 5) (n := 1) (lv' := [(0, .ref 190), (1, .ref 188), (4, .int (zJ v4)), (5, .int (zJ (v5 + 1)))]) 3 (by decide +kernel) rfl rfl (Nat.le_of_ble_eq_true rfl) rfl ?_
        refine zw_goto (pc := 87) (off := (-46)) (tgt := 41) (by decide +kernel) (by decide) ?_
        exact h
      · replace h := h.2 hc
        refine zw_iconst (pc := 64) (n := 0) (by decide +kernel) ?_
        exact zw_zret (pc := 65) (by decide +kernel) rfl (Nat.le_refl _) (Nat.le_refl _) (Or.inl rfl) ⟨_, _, rfl, rfl, h⟩
abbrev at_X5_commandAt_2 (g : zG) (φ : Int → zMu → Prop) (v1 : Int) (v2 : Int) (μ : zMu) : Prop := zWP g zm_X5_commandAt (zmo g zm_X5_commandAt (zΦi φ)) 2 [(0, .ref 188), (1, .int (zJ v1)), (2, .int (zJ v2))] [] 0 0 (zw μ)
theorem sg_X5_commandAt {g : zG} {φ : Int → zMu → Prop} {v1 : Int} {μ : zMu}
    (h : at_X5_commandAt_2 g φ v1 0 μ) : zOi g zm_X5_commandAt [.ref 188, .int (zJ v1)] μ φ := by
  refine zok_of (by decide +kernel) rfl ?_
  show zWP g zm_X5_commandAt (zmo g zm_X5_commandAt (zΦi φ)) 0 [(0, .ref 188), (1, .int (zJ v1))] [] 0 0 (zw μ)
  refine zw_iconst (pc := 0) (n := 0) (by decide +kernel) ?_
  refine zw_istore_n (pc := 1) (n := 2) (i := 2) (lv' := [(0, .ref 188), (1, .int (zJ v1)), (2, .int (zJ 0))]) (by decide +kernel) rfl (Nat.le_of_ble_eq_true rfl) rfl ?_
  exact h
theorem sg_X5_commandAt_2 {g : zG} {φ : Int → zMu → Prop} {v1 : Int} {v2 : Int} {μ : zMu}
    (h : (zR v2) ∧ ((9 ≤ v2 → φ (-1) μ) ∧ (v2 < 9 → zOr g zm_X5_wordOf [.int (zJ v2)] μ (fun x3 μ2 => zOi g zm_X8_hasWord [.ref 188, .ref x3, .int (zJ v1)] μ2 (fun x5 μ4 => (zR x5) ∧ ((x5 = 0 → at_X5_commandAt_2 g φ v1 (v2 + 1) μ4) ∧ (¬ x5 = 0 → φ v2 μ4))))))) : at_X5_commandAt_2 g φ v1 v2 μ := by
  obtain ⟨o1, h⟩ := h
  refine zw_iload_n (pc := 2) (n := 2) (i := 2) 2 (by decide +kernel) rfl rfl ?_
  refine zw_bipush (pc := 3) (n := 9) (by decide +kernel) (by decide +kernel) ?_
  refine zw_icmp_ge (pc := 5) (off := 23) (tgt := 28) (by decide +kernel) (by decide) o1 ⟨by decide, by decide⟩ (fun hc => ?_) (fun hc => ?_)
  · replace h := h.1 hc
    refine zw_iconst (pc := 28) (n := (-1)) (by decide +kernel) ?_
    exact zw_iret (pc := 29) (by decide +kernel) rfl (Nat.le_refl _) (Nat.le_refl _) ⟨_, _, rfl, rfl, h⟩
  · replace h := h.2 hc
    refine zw_aload_n (pc := 8) (n := 0) (i := 0) 0 (by decide +kernel) rfl rfl ?_
    refine zw_iload_n (pc := 9) (n := 2) (i := 2) 2 (by decide +kernel) rfl rfl ?_
    refine zx_callS (pc := 10) (As := [.int (zJ v2)]) h zi_X5_wordOf zis_X5_wordOf zl_5_60 (by decide +kernel) ⟨Nat.le_of_ble_eq_true rfl, Nat.le_of_ble_eq_true rfl⟩ rfl rfl ⟨rfl, rfl⟩ ⟨Nat.zero_le _, Nat.zero_le _⟩ (zkr (fun x3 μ2 h => ?_))
    refine zw_iload_n (pc := 13) (n := 1) (i := 1) 1 (by decide +kernel) rfl rfl ?_
    refine zx_callV (pc := 14) (As := [.ref x3, .int (zJ v1)]) h zi_X8_hasWord zii_X8_hasWord zie_X8_hasWord zl_5_64 (by decide +kernel) ⟨Nat.le_of_ble_eq_true rfl, Nat.le_of_ble_eq_true rfl⟩ rfl zc_188 (by decide) rfl rfl ⟨rfl, rfl⟩ ⟨Nat.zero_le _, Nat.zero_le _⟩ (zki (fun x5 μ4 h => ?_))
    obtain ⟨o6, h⟩ := h
    refine zw_if_eq (pc := 17) (off := 5) (tgt := 22) (by decide +kernel) (by decide) o6 (fun hc => ?_) (fun hc => ?_)
    · replace h := h.1 hc
      refine zw_iinc (pc := 22) (i := 2) (n := 1) (lv' := [(0, .ref 188), (1, .int (zJ v1)), (2, .int (zJ (v2 + 1)))]) 2 (by decide +kernel) rfl rfl (Nat.le_of_ble_eq_true rfl) rfl ?_
      refine zw_goto (pc := 25) (off := (-23)) (tgt := 2) (by decide +kernel) (by decide) ?_
      exact h
    · replace h := h.2 hc
      refine zw_iload_n (pc := 20) (n := 2) (i := 2) 2 (by decide +kernel) rfl rfl ?_
      exact zw_iret (pc := 21) (by decide +kernel) rfl (Nat.le_refl _) (Nat.le_refl _) ⟨_, _, rfl, rfl, h⟩
theorem sg_X5_wordOf {g : zG} {φ : Nat → zMu → Prop} {v0 : Int} {μ : zMu}
    (h : (zR v0) ∧ ((v0 < 0 ∨ 7 < v0 → φ 90009 μ) ∧ (v0 = 0 → φ 90001 μ) ∧ (v0 = 1 → φ 90002 μ) ∧ (v0 = 2 → φ 90003 μ) ∧ (v0 = 3 → φ 90004 μ) ∧ (v0 = 4 → φ 90005 μ) ∧ (v0 = 5 → φ 90006 μ) ∧ (v0 = 6 → φ 90007 μ) ∧ (v0 = 7 → φ 90008 μ))) : zOr g zm_X5_wordOf [.int (zJ v0)] μ φ := by
  refine zok_of (by decide +kernel) rfl ?_
  show zWP g zm_X5_wordOf (zmo g zm_X5_wordOf (zΦr φ)) 0 [(0, .int (zJ v0))] [] 0 0 (zw μ)
  obtain ⟨o1, h⟩ := h
  refine zw_iload_n (pc := 0) (n := 0) (i := 0) 0 (by decide +kernel) rfl rfl ?_
  by_cases e2 : v0 < 0 ∨ 7 < v0
  · replace h := h.1 e2
    refine zw_swOut (pc := 1) (tgt := 72) (by decide +kernel : decode zm_X5_wordOf.2.1 1 = .ok (.tableswitch 71 0 7 #[47, 50, 53, 56, 59, 62, 65, 68], 47)) o1 e2 (by decide) ?_
    refine zx_ldcS (pc := 72) (k := 8) (tx := "") (by decide +kernel) rfl (by decide) rfl ?_
    exact zw_aret (pc := 74) (by decide +kernel) rfl (Nat.le_refl _) (Nat.le_refl _) ⟨_, _, rfl, rfl, h⟩
  · replace h := h.2
    rcases (show v0 = 0 ∨ v0 = 1 ∨ v0 = 2 ∨ v0 = 3 ∨ v0 = 4 ∨ v0 = 5 ∨ v0 = 6 ∨ v0 = 7 by omega) with e2 | e2 | e2 | e2 | e2 | e2 | e2 | e2
    · replace h := h.1 e2
      refine zw_swIn (pc := 1) (off := 47) (tgt := 48) (by decide +kernel : decode zm_X5_wordOf.2.1 1 = .ok (.tableswitch 71 0 7 #[47, 50, 53, 56, 59, 62, 65, 68], 47)) o1 (by omega) (by omega) (by rw [e2]; rfl) (by decide) ?_
      refine zx_ldcS (pc := 48) (k := 0) (tx := "") (by decide +kernel) rfl (by decide) rfl ?_
      exact zw_aret (pc := 50) (by decide +kernel) rfl (Nat.le_refl _) (Nat.le_refl _) ⟨_, _, rfl, rfl, h⟩
    · replace h := h.2.1 e2
      refine zw_swIn (pc := 1) (off := 50) (tgt := 51) (by decide +kernel : decode zm_X5_wordOf.2.1 1 = .ok (.tableswitch 71 0 7 #[47, 50, 53, 56, 59, 62, 65, 68], 47)) o1 (by omega) (by omega) (by rw [e2]; rfl) (by decide) ?_
      refine zx_ldcS (pc := 51) (k := 1) (tx := "") (by decide +kernel) rfl (by decide) rfl ?_
      exact zw_aret (pc := 53) (by decide +kernel) rfl (Nat.le_refl _) (Nat.le_refl _) ⟨_, _, rfl, rfl, h⟩
    · replace h := h.2.2.1 e2
      refine zw_swIn (pc := 1) (off := 53) (tgt := 54) (by decide +kernel : decode zm_X5_wordOf.2.1 1 = .ok (.tableswitch 71 0 7 #[47, 50, 53, 56, 59, 62, 65, 68], 47)) o1 (by omega) (by omega) (by rw [e2]; rfl) (by decide) ?_
      refine zx_ldcS (pc := 54) (k := 2) (tx := "") (by decide +kernel) rfl (by decide) rfl ?_
      exact zw_aret (pc := 56) (by decide +kernel) rfl (Nat.le_refl _) (Nat.le_refl _) ⟨_, _, rfl, rfl, h⟩
    · replace h := h.2.2.2.1 e2
      refine zw_swIn (pc := 1) (off := 56) (tgt := 57) (by decide +kernel : decode zm_X5_wordOf.2.1 1 = .ok (.tableswitch 71 0 7 #[47, 50, 53, 56, 59, 62, 65, 68], 47)) o1 (by omega) (by omega) (by rw [e2]; rfl) (by decide) ?_
      refine zx_ldcS (pc := 57) (k := 3) (tx := "") (by decide +kernel) rfl (by decide) rfl ?_
      exact zw_aret (pc := 59) (by decide +kernel) rfl (Nat.le_refl _) (Nat.le_refl _) ⟨_, _, rfl, rfl, h⟩
    · replace h := h.2.2.2.2.1 e2
      refine zw_swIn (pc := 1) (off := 59) (tgt := 60) (by decide +kernel : decode zm_X5_wordOf.2.1 1 = .ok (.tableswitch 71 0 7 #[47, 50, 53, 56, 59, 62, 65, 68], 47)) o1 (by omega) (by omega) (by rw [e2]; rfl) (by decide) ?_
      refine zx_ldcS (pc := 60) (k := 4) (tx := "") (by decide +kernel) rfl (by decide) rfl ?_
      exact zw_aret (pc := 62) (by decide +kernel) rfl (Nat.le_refl _) (Nat.le_refl _) ⟨_, _, rfl, rfl, h⟩
    · replace h := h.2.2.2.2.2.1 e2
      refine zw_swIn (pc := 1) (off := 62) (tgt := 63) (by decide +kernel : decode zm_X5_wordOf.2.1 1 = .ok (.tableswitch 71 0 7 #[47, 50, 53, 56, 59, 62, 65, 68], 47)) o1 (by omega) (by omega) (by rw [e2]; rfl) (by decide) ?_
      refine zx_ldcS (pc := 63) (k := 5) (tx := "") (by decide +kernel) rfl (by decide) rfl ?_
      exact zw_aret (pc := 65) (by decide +kernel) rfl (Nat.le_refl _) (Nat.le_refl _) ⟨_, _, rfl, rfl, h⟩
    · replace h := h.2.2.2.2.2.2.1 e2
      refine zw_swIn (pc := 1) (off := 65) (tgt := 66) (by decide +kernel : decode zm_X5_wordOf.2.1 1 = .ok (.tableswitch 71 0 7 #[47, 50, 53, 56, 59, 62, 65, 68], 47)) o1 (by omega) (by omega) (by rw [e2]; rfl) (by decide) ?_
      refine zx_ldcS (pc := 66) (k := 6) (tx := "") (by decide +kernel) rfl (by decide) rfl ?_
      exact zw_aret (pc := 68) (by decide +kernel) rfl (Nat.le_refl _) (Nat.le_refl _) ⟨_, _, rfl, rfl, h⟩
    · replace h := h.2.2.2.2.2.2.2 e2
      refine zw_swIn (pc := 1) (off := 68) (tgt := 69) (by decide +kernel : decode zm_X5_wordOf.2.1 1 = .ok (.tableswitch 71 0 7 #[47, 50, 53, 56, 59, 62, 65, 68], 47)) o1 (by omega) (by omega) (by rw [e2]; rfl) (by decide) ?_
      refine zx_ldcS (pc := 69) (k := 7) (tx := "") (by decide +kernel) rfl (by decide) rfl ?_
      exact zw_aret (pc := 71) (by decide +kernel) rfl (Nat.le_refl _) (Nat.le_refl _) ⟨_, _, rfl, rfl, h⟩
theorem sg_X5_numbersAfter {g : zG} {φ : Int → zMu → Prop} {v0 : Int} {μ : zMu}
    (h : (zR v0) ∧ ((v0 < 0 ∨ 8 < v0 → φ 3 μ) ∧ (v0 = 0 → φ 1 μ) ∧ (v0 = 1 → φ 2 μ) ∧ (v0 = 2 → φ 3 μ) ∧ (v0 = 3 → φ 3 μ) ∧ (v0 = 4 → φ 3 μ) ∧ (v0 = 5 → φ 2 μ) ∧ (v0 = 6 → φ 3 μ) ∧ (v0 = 7 → φ 4 μ) ∧ (v0 = 8 → φ 1 μ))) : zOi g zm_X5_numbersAfter [.int (zJ v0)] μ φ := by
  refine zok_of (by decide +kernel) rfl ?_
  show zWP g zm_X5_numbersAfter (zmo g zm_X5_numbersAfter (zΦi φ)) 0 [(0, .int (zJ v0))] [] 0 0 (zw μ)
  obtain ⟨o1, h⟩ := h
  refine zw_iload_n (pc := 0) (n := 0) (i := 0) 0 (by decide +kernel) rfl rfl ?_
  by_cases e2 : v0 < 0 ∨ 8 < v0
  · replace h := h.1 e2
    refine zw_swOut (pc := 1) (tgt := 58) (by decide +kernel : decode zm_X5_numbersAfter.2.1 1 = .ok (.tableswitch 57 0 8 #[51, 53, 57, 57, 57, 53, 57, 55, 51], 51)) o1 e2 (by decide) ?_
    refine zw_iconst (pc := 58) (n := 3) (by decide +kernel) ?_
    exact zw_iret (pc := 59) (by decide +kernel) rfl (Nat.le_refl _) (Nat.le_refl _) ⟨_, _, rfl, rfl, h⟩
  · replace h := h.2
    rcases (show v0 = 0 ∨ v0 = 1 ∨ v0 = 2 ∨ v0 = 3 ∨ v0 = 4 ∨ v0 = 5 ∨ v0 = 6 ∨ v0 = 7 ∨ v0 = 8 by omega) with e2 | e2 | e2 | e2 | e2 | e2 | e2 | e2 | e2
    · replace h := h.1 e2
      refine zw_swIn (pc := 1) (off := 51) (tgt := 52) (by decide +kernel : decode zm_X5_numbersAfter.2.1 1 = .ok (.tableswitch 57 0 8 #[51, 53, 57, 57, 57, 53, 57, 55, 51], 51)) o1 (by omega) (by omega) (by rw [e2]; rfl) (by decide) ?_
      refine zw_iconst (pc := 52) (n := 1) (by decide +kernel) ?_
      exact zw_iret (pc := 53) (by decide +kernel) rfl (Nat.le_refl _) (Nat.le_refl _) ⟨_, _, rfl, rfl, h⟩
    · replace h := h.2.1 e2
      refine zw_swIn (pc := 1) (off := 53) (tgt := 54) (by decide +kernel : decode zm_X5_numbersAfter.2.1 1 = .ok (.tableswitch 57 0 8 #[51, 53, 57, 57, 57, 53, 57, 55, 51], 51)) o1 (by omega) (by omega) (by rw [e2]; rfl) (by decide) ?_
      refine zw_iconst (pc := 54) (n := 2) (by decide +kernel) ?_
      exact zw_iret (pc := 55) (by decide +kernel) rfl (Nat.le_refl _) (Nat.le_refl _) ⟨_, _, rfl, rfl, h⟩
    · replace h := h.2.2.1 e2
      refine zw_swIn (pc := 1) (off := 57) (tgt := 58) (by decide +kernel : decode zm_X5_numbersAfter.2.1 1 = .ok (.tableswitch 57 0 8 #[51, 53, 57, 57, 57, 53, 57, 55, 51], 51)) o1 (by omega) (by omega) (by rw [e2]; rfl) (by decide) ?_
      refine zw_iconst (pc := 58) (n := 3) (by decide +kernel) ?_
      exact zw_iret (pc := 59) (by decide +kernel) rfl (Nat.le_refl _) (Nat.le_refl _) ⟨_, _, rfl, rfl, h⟩
    · replace h := h.2.2.2.1 e2
      refine zw_swIn (pc := 1) (off := 57) (tgt := 58) (by decide +kernel : decode zm_X5_numbersAfter.2.1 1 = .ok (.tableswitch 57 0 8 #[51, 53, 57, 57, 57, 53, 57, 55, 51], 51)) o1 (by omega) (by omega) (by rw [e2]; rfl) (by decide) ?_
      refine zw_iconst (pc := 58) (n := 3) (by decide +kernel) ?_
      exact zw_iret (pc := 59) (by decide +kernel) rfl (Nat.le_refl _) (Nat.le_refl _) ⟨_, _, rfl, rfl, h⟩
    · replace h := h.2.2.2.2.1 e2
      refine zw_swIn (pc := 1) (off := 57) (tgt := 58) (by decide +kernel : decode zm_X5_numbersAfter.2.1 1 = .ok (.tableswitch 57 0 8 #[51, 53, 57, 57, 57, 53, 57, 55, 51], 51)) o1 (by omega) (by omega) (by rw [e2]; rfl) (by decide) ?_
      refine zw_iconst (pc := 58) (n := 3) (by decide +kernel) ?_
      exact zw_iret (pc := 59) (by decide +kernel) rfl (Nat.le_refl _) (Nat.le_refl _) ⟨_, _, rfl, rfl, h⟩
    · replace h := h.2.2.2.2.2.1 e2
      refine zw_swIn (pc := 1) (off := 53) (tgt := 54) (by decide +kernel : decode zm_X5_numbersAfter.2.1 1 = .ok (.tableswitch 57 0 8 #[51, 53, 57, 57, 57, 53, 57, 55, 51], 51)) o1 (by omega) (by omega) (by rw [e2]; rfl) (by decide) ?_
      refine zw_iconst (pc := 54) (n := 2) (by decide +kernel) ?_
      exact zw_iret (pc := 55) (by decide +kernel) rfl (Nat.le_refl _) (Nat.le_refl _) ⟨_, _, rfl, rfl, h⟩
    · replace h := h.2.2.2.2.2.2.1 e2
      refine zw_swIn (pc := 1) (off := 57) (tgt := 58) (by decide +kernel : decode zm_X5_numbersAfter.2.1 1 = .ok (.tableswitch 57 0 8 #[51, 53, 57, 57, 57, 53, 57, 55, 51], 51)) o1 (by omega) (by omega) (by rw [e2]; rfl) (by decide) ?_
      refine zw_iconst (pc := 58) (n := 3) (by decide +kernel) ?_
      exact zw_iret (pc := 59) (by decide +kernel) rfl (Nat.le_refl _) (Nat.le_refl _) ⟨_, _, rfl, rfl, h⟩
    · replace h := h.2.2.2.2.2.2.2.1 e2
      refine zw_swIn (pc := 1) (off := 55) (tgt := 56) (by decide +kernel : decode zm_X5_numbersAfter.2.1 1 = .ok (.tableswitch 57 0 8 #[51, 53, 57, 57, 57, 53, 57, 55, 51], 51)) o1 (by omega) (by omega) (by rw [e2]; rfl) (by decide) ?_
      refine zw_iconst (pc := 56) (n := 4) (by decide +kernel) ?_
      exact zw_iret (pc := 57) (by decide +kernel) rfl (Nat.le_refl _) (Nat.le_refl _) ⟨_, _, rfl, rfl, h⟩
    · replace h := h.2.2.2.2.2.2.2.2 e2
      refine zw_swIn (pc := 1) (off := 51) (tgt := 52) (by decide +kernel : decode zm_X5_numbersAfter.2.1 1 = .ok (.tableswitch 57 0 8 #[51, 53, 57, 57, 57, 53, 57, 55, 51], 51)) o1 (by omega) (by omega) (by rw [e2]; rfl) (by decide) ?_
      refine zw_iconst (pc := 52) (n := 1) (by decide +kernel) ?_
      exact zw_iret (pc := 53) (by decide +kernel) rfl (Nat.le_refl _) (Nat.le_refl _) ⟨_, _, rfl, rfl, h⟩
theorem sg_X5_numberOf {g : zG} {φ : Int → zMu → Prop} {v1 : Int} {v2 : Int} {μ : zMu}
    (h : (0 ≤ ((4 * v1) + v2) ∧ ((4 * v1) + v2) < 400) ∧ φ (μ 192 (Int.toNat ((4 * v1) + v2))) μ) : zOi g zm_X5_numberOf [.ref 190, .int (zJ v1), .int (zJ v2)] μ φ := by
  refine zok_of (by decide +kernel) rfl ?_
  show zWP g zm_X5_numberOf (zmo g zm_X5_numberOf (zΦi φ)) 0 [(0, .ref 190), (1, .int (zJ v1)), (2, .int (zJ v2))] [] 0 0 (zw μ)
  obtain ⟨o1, h⟩ := h
  refine zw_aload_n (pc := 0) (n := 0) (i := 0) 0 (by decide +kernel) rfl rfl ?_
  refine zx_getR (pc := 1) (o := 2) (r := 192) zf_5_15 (by decide +kernel) rfl zc_190 rfl (by decide) rfl ?_
  refine zw_iconst (pc := 4) (n := 4) (by decide +kernel) ?_
  refine zw_iload_n (pc := 5) (n := 1) (i := 1) 1 (by decide +kernel) rfl rfl ?_
  refine zw_imul (pc := 6) (by decide +kernel) ?_
  refine zw_iload_n (pc := 7) (n := 2) (i := 2) 2 (by decide +kernel) rfl rfl ?_
  refine zw_iadd (pc := 8) (by decide +kernel) ?_
  refine zx_iaload (pc := 9) (by decide +kernel) ⟨400, zc_192, o1.1, o1.2⟩ ?_
  exact zw_iret (pc := 10) (by decide +kernel) rfl (Nat.le_refl _) (Nat.le_refl _) ⟨_, _, rfl, rfl, h⟩
abbrev at_X4_parse_17 (g : zG) (φ : Int → zMu → Prop) (v2 : Int) (v3 : Int) (v4 : Int) (μ : zMu) : Prop := zWP g zm_X4_parse (zmo g zm_X4_parse (zΦi φ)) 17 [(0, .ref 193), (1, .ref 188), (2, .int (zJ v2)), (3, .int (zJ v3)), (4, .int (zJ v4))] [] 0 0 (zw μ)
theorem sg_X4_parse {g : zG} {φ : Int → zMu → Prop} {v2 : Int} {μ : zMu}
    (h : zOv g zm_X8_rewind [.ref 188] μ (fun μ1 => zOv g zm_X3_clear [.ref 194, .int (zJ 1)] μ1 (fun μ2 => at_X4_parse_17 g φ v2 1 0 μ2))) : zOi g zm_X4_parse [.ref 193, .ref 188, .int (zJ v2)] μ φ := by
  refine zok_of (by decide +kernel) rfl ?_
  show zWP g zm_X4_parse (zmo g zm_X4_parse (zΦi φ)) 0 [(0, .ref 193), (1, .ref 188), (2, .int (zJ v2))] [] 0 0 (zw μ)
  refine zw_aload_n (pc := 0) (n := 1) (i := 1) 1 (by decide +kernel) rfl rfl ?_
  refine zx_callV (pc := 1) (As := []) h zi_X8_rewind zii_X8_rewind zie_X8_rewind zl_4_22 (by decide +kernel) ⟨Nat.le_of_ble_eq_true rfl, Nat.le_of_ble_eq_true rfl⟩ rfl zc_188 (by decide) rfl rfl ⟨rfl, rfl⟩ ⟨Nat.zero_le _, Nat.zero_le _⟩ (zkv (fun μ1 h => ?_))
  refine zw_aload_n (pc := 4) (n := 0) (i := 0) 0 (by decide +kernel) rfl rfl ?_
  refine zx_getR (pc := 5) (o := 1) (r := 194) zf_4_12 (by decide +kernel) rfl zc_193 rfl (by decide) rfl ?_
  refine zw_iconst (pc := 8) (n := 1) (by decide +kernel) ?_
  refine zx_callV (pc := 9) (As := [.int (zJ 1)]) h zi_X3_clear zii_X3_clear zie_X3_clear zl_4_27 (by decide +kernel) ⟨Nat.le_of_ble_eq_true rfl, Nat.le_of_ble_eq_true rfl⟩ rfl zc_194 (by decide) rfl rfl ⟨rfl, rfl⟩ ⟨Nat.zero_le _, Nat.zero_le _⟩ (zkv (fun μ2 h => ?_))
  refine zw_iconst (pc := 12) (n := 1) (by decide +kernel) ?_
  refine zw_istore_n (pc := 13) (n := 3) (i := 3) (lv' := [(0, .ref 193), (1, .ref 188), (2, .int (zJ v2)), (3, .int (zJ 1))]) (by decide +kernel) rfl (Nat.le_of_ble_eq_true rfl) rfl ?_
  refine zw_iconst (pc := 14) (n := 0) (by decide +kernel) ?_
  refine zw_istore (pc := 15) (i := 4) (lv' := [(0, .ref 193), (1, .ref 188), (2, .int (zJ v2)), (3, .int (zJ 1)), (4, .int (zJ 0))]) (by decide +kernel) (Nat.le_of_ble_eq_true rfl) rfl ?_
  exact h
theorem sg_X4_parse_17 {g : zG} {φ : Int → zMu → Prop} {v2 : Int} {v3 : Int} {v4 : Int} {μ : zMu}
    (h : (zR v3) ∧ ((v3 = 0 → zOi g zm_X8_isAtEnd [.ref 188] μ (fun x3 μ2 => (x3 = 0 ∨ x3 = 1) ∧ φ x3 μ2)) ∧ (¬ v3 = 0 → (zR v4) ∧ ((100 ≤ v4 → zOi g zm_X8_isAtEnd [.ref 188] μ (fun x7 μ6 => (x7 = 0 ∨ x7 = 1) ∧ φ x7 μ6)) ∧ (v4 < 100 → zOi g zm_X4_parseTerm [.ref 193, .ref 188, .int (zJ v2)] μ (fun x10 μ9 => (zR x10) ∧ ((¬ x10 = 0 → zOi g zm_X8_accept [.ref 188, .int (zJ 43)] μ9 (fun x13 μ12 => at_X4_parse_17 g φ v2 x13 (v4 + 1) μ12)) ∧ (x10 = 0 → φ 0 μ9)))))))) : at_X4_parse_17 g φ v2 v3 v4 μ := by
  obtain ⟨o1, h⟩ := h
  refine zw_iload_n (pc := 17) (n := 3) (i := 3) 3 (by decide +kernel) rfl rfl ?_
  refine zw_if_eq (pc := 18) (off := 34) (tgt := 52) (by decide +kernel) (by decide) o1 (fun hc => ?_) (fun hc => ?_)
  · replace h := h.1 hc
    refine zw_aload_n (pc := 52) (n := 1) (i := 1) 1 (by decide +kernel) rfl rfl ?_
    refine zx_callV (pc := 53) (As := []) h zi_X8_isAtEnd zii_X8_isAtEnd zie_X8_isAtEnd zl_4_39 (by decide +kernel) ⟨Nat.le_of_ble_eq_true rfl, Nat.le_of_ble_eq_true rfl⟩ rfl zc_188 (by decide) rfl rfl ⟨rfl, rfl⟩ ⟨Nat.zero_le _, Nat.zero_le _⟩ (zki (fun x3 μ2 h => ?_))
    obtain ⟨o4, h⟩ := h
    exact zw_zret (pc := 56) (by decide +kernel) rfl (Nat.le_refl _) (Nat.le_refl _) o4 ⟨_, _, rfl, rfl, h⟩
  · replace h := h.2 hc
    obtain ⟨o5, h⟩ := h
    refine zw_iload (pc := 21) (i := 4) 4 (by decide +kernel) rfl ?_
    refine zw_bipush (pc := 23) (n := 100) (by decide +kernel) (by decide +kernel) ?_
    refine zw_icmp_ge (pc := 25) (off := 27) (tgt := 52) (by decide +kernel) (by decide) o5 ⟨by decide, by decide⟩ (fun hc => ?_) (fun hc => ?_)
    · replace h := h.1 hc
      refine zw_aload_n (pc := 52) (n := 1) (i := 1) 1 (by decide +kernel) rfl rfl ?_
      refine zx_callV (pc := 53) (As := []) h zi_X8_isAtEnd zii_X8_isAtEnd zie_X8_isAtEnd zl_4_39 (by decide +kernel) ⟨Nat.le_of_ble_eq_true rfl, Nat.le_of_ble_eq_true rfl⟩ rfl zc_188 (by decide) rfl rfl ⟨rfl, rfl⟩ ⟨Nat.zero_le _, Nat.zero_le _⟩ (zki (fun x7 μ6 h => ?_))
      obtain ⟨o8, h⟩ := h
      exact zw_zret (pc := 56) (by decide +kernel) rfl (Nat.le_refl _) (Nat.le_refl _) o8 ⟨_, _, rfl, rfl, h⟩
    · replace h := h.2 hc
      refine zw_aload_n (pc := 28) (n := 0) (i := 0) 0 (by decide +kernel) rfl rfl ?_
      refine zw_aload_n (pc := 29) (n := 1) (i := 1) 1 (by decide +kernel) rfl rfl ?_
      refine zw_iload_n (pc := 30) (n := 2) (i := 2) 2 (by decide +kernel) rfl rfl ?_
      refine zx_callV (pc := 31) (As := [.ref 188, .int (zJ v2)]) h zi_X4_parseTerm zii_X4_parseTerm zie_X4_parseTerm zl_4_31 (by decide +kernel) ⟨Nat.le_of_ble_eq_true rfl, Nat.le_of_ble_eq_true rfl⟩ rfl zc_193 (by decide) rfl rfl ⟨rfl, rfl⟩ ⟨Nat.zero_le _, Nat.zero_le _⟩ (zki (fun x10 μ9 h => ?_))
      obtain ⟨o11, h⟩ := h
      refine zw_if_ne (pc := 34) (off := 5) (tgt := 39) (by decide +kernel) (by decide) o11 (fun hc => ?_) (fun hc => ?_)
      · replace h := h.1 hc
        refine zw_aload_n (pc := 39) (n := 1) (i := 1) 1 (by decide +kernel) rfl rfl ?_
        refine zw_bipush (pc := 40) (n := 43) (by decide +kernel) (by decide +kernel) ?_
        refine zx_callV (pc := 42) (As := [.int (zJ 43)]) h zi_X8_accept zii_X8_accept zie_X8_accept zl_4_35 (by decide +kernel) ⟨Nat.le_of_ble_eq_true rfl, Nat.le_of_ble_eq_true rfl⟩ rfl zc_188 (by decide) rfl rfl ⟨rfl, rfl⟩ ⟨Nat.zero_le _, Nat.zero_le _⟩ (zki (fun x13 μ12 h => ?_))
        refine zw_istore_n (pc := 45) (n := 3) (i := 3) (lv' := [(0, .ref 193), (1, .ref 188), (2, .int (zJ v2)), (3, .int (zJ x13)), (4, .int (zJ v4))]) (by decide +kernel) rfl (Nat.le_of_ble_eq_true rfl) rfl ?_
        refine zw_iinc (pc := 46) (i := 4) (n := 1) (lv' := [(0, .ref 193), (1, .ref 188), (2, .int (zJ v2)), (3, .int (zJ x13)), (4, .int (zJ (v4 + 1)))]) 4 (by decide +kernel) rfl rfl (Nat.le_of_ble_eq_true rfl) rfl ?_
        refine zw_goto (pc := 49) (off := (-32)) (tgt := 17) (by decide +kernel) (by decide) ?_
        exact h
      · replace h := h.2 hc
        refine zw_iconst (pc := 37) (n := 0) (by decide +kernel) ?_
        exact zw_zret (pc := 38) (by decide +kernel) rfl (Nat.le_refl _) (Nat.le_refl _) (Or.inl rfl) ⟨_, _, rfl, rfl, h⟩
theorem sg_X4_parseTerm {g : zG} {φ : Int → zMu → Prop} {v2 : Int} {μ : zMu}
    (h : zOi g zm_X8_acceptNumber [.ref 188] μ (fun x2 μ1 => (zR x2) ∧ ((¬ x2 = 0 → zOi g zm_X8_accept [.ref 188, .int (zJ 120)] μ1 (fun x5 μ4 => (zR x5) ∧ ((x5 = 0 → zOi g zm_X8_accept [.ref 188, .int (zJ 121)] μ4 (fun x8 μ7 => (zR x8) ∧ ((x8 = 0 → (0 ≤ (((9 * 0) + 0) : Int) ∧ (((9 * 0) + 0) : Int) < 81) ∧ (zR ((μ7 195 (Int.toNat ((9 * 0) + 0))) + (μ1 188 3))) ∧ (zR v2) ∧ (v2 ≠ 0) ∧ (zR ((zup μ7 195 (Int.toNat ((9 * 0) + 0)) (((μ7 195 (Int.toNat ((9 * 0) + 0))) + (μ1 188 3)).tmod v2)) 194 1)) ∧ (zR (max 0 0)) ∧ φ 1 (zup (zup μ7 195 (Int.toNat ((9 * 0) + 0)) (((μ7 195 (Int.toNat ((9 * 0) + 0))) + (μ1 188 3)).tmod v2)) 194 1 (max ((zup μ7 195 (Int.toNat ((9 * 0) + 0)) (((μ7 195 (Int.toNat ((9 * 0) + 0))) + (μ1 188 3)).tmod v2)) 194 1) (max 0 0)))) ∧ (¬ x8 = 0 → zOi g zm_X8_acceptExponent [.ref 188] μ7 (fun x17 μ16 => (zR x17) ∧ ((¬ x17 = 0 → (0 ≤ ((9 * 0) + (μ16 188 3)) ∧ ((9 * 0) + (μ16 188 3)) < 81) ∧ (zR ((μ16 195 (Int.toNat ((9 * 0) + (μ16 188 3)))) + (μ1 188 3))) ∧ (zR v2) ∧ (v2 ≠ 0) ∧ (zR (μ16 188 3)) ∧ (zR ((zup μ16 195 (Int.toNat ((9 * 0) + (μ16 188 3))) (((μ16 195 (Int.toNat ((9 * 0) + (μ16 188 3)))) + (μ1 188 3)).tmod v2)) 194 1)) ∧ (zR (max 0 (μ16 188 3))) ∧ φ 1 (zup (zup μ16 195 (Int.toNat ((9 * 0) + (μ16 188 3))) (((μ16 195 (Int.toNat ((9 * 0) + (μ16 188 3)))) + (μ1 188 3)).tmod v2)) 194 1 (max ((zup μ16 195 (Int.toNat ((9 * 0) + (μ16 188 3))) (((μ16 195 (Int.toNat ((9 * 0) + (μ16 188 3)))) + (μ1 188 3)).tmod v2)) 194 1) (max 0 (μ16 188 3))))) ∧ (x17 = 0 → φ 0 μ16))))))) ∧ (¬ x5 = 0 → zOi g zm_X8_acceptExponent [.ref 188] μ4 (fun x27 μ26 => (zR x27) ∧ ((¬ x27 = 0 → zOi g zm_X8_accept [.ref 188, .int (zJ 121)] μ26 (fun x30 μ29 => (zR x30) ∧ ((x30 = 0 → (0 ≤ ((9 * (μ26 188 3)) + 0) ∧ ((9 * (μ26 188 3)) + 0) < 81) ∧ (zR ((μ29 195 (Int.toNat ((9 * (μ26 188 3)) + 0))) + (μ1 188 3))) ∧ (zR v2) ∧ (v2 ≠ 0) ∧ (zR (μ26 188 3)) ∧ (zR ((zup μ29 195 (Int.toNat ((9 * (μ26 188 3)) + 0)) (((μ29 195 (Int.toNat ((9 * (μ26 188 3)) + 0))) + (μ1 188 3)).tmod v2)) 194 1)) ∧ (zR (max (μ26 188 3) 0)) ∧ φ 1 (zup (zup μ29 195 (Int.toNat ((9 * (μ26 188 3)) + 0)) (((μ29 195 (Int.toNat ((9 * (μ26 188 3)) + 0))) + (μ1 188 3)).tmod v2)) 194 1 (max ((zup μ29 195 (Int.toNat ((9 * (μ26 188 3)) + 0)) (((μ29 195 (Int.toNat ((9 * (μ26 188 3)) + 0))) + (μ1 188 3)).tmod v2)) 194 1) (max (μ26 188 3) 0)))) ∧ (¬ x30 = 0 → zOi g zm_X8_acceptExponent [.ref 188] μ29 (fun x40 μ39 => (zR x40) ∧ ((¬ x40 = 0 → (0 ≤ ((9 * (μ26 188 3)) + (μ39 188 3)) ∧ ((9 * (μ26 188 3)) + (μ39 188 3)) < 81) ∧ (zR ((μ39 195 (Int.toNat ((9 * (μ26 188 3)) + (μ39 188 3)))) + (μ1 188 3))) ∧ (zR v2) ∧ (v2 ≠ 0) ∧ (zR (μ26 188 3)) ∧ (zR (μ39 188 3)) ∧ (zR ((zup μ39 195 (Int.toNat ((9 * (μ26 188 3)) + (μ39 188 3))) (((μ39 195 (Int.toNat ((9 * (μ26 188 3)) + (μ39 188 3)))) + (μ1 188 3)).tmod v2)) 194 1)) ∧ (zR (max (μ26 188 3) (μ39 188 3))) ∧ φ 1 (zup (zup μ39 195 (Int.toNat ((9 * (μ26 188 3)) + (μ39 188 3))) (((μ39 195 (Int.toNat ((9 * (μ26 188 3)) + (μ39 188 3)))) + (μ1 188 3)).tmod v2)) 194 1 (max ((zup μ39 195 (Int.toNat ((9 * (μ26 188 3)) + (μ39 188 3))) (((μ39 195 (Int.toNat ((9 * (μ26 188 3)) + (μ39 188 3)))) + (μ1 188 3)).tmod v2)) 194 1) (max (μ26 188 3) (μ39 188 3))))) ∧ (x40 = 0 → φ 0 μ39))))))) ∧ (x27 = 0 → φ 0 μ26))))))) ∧ (x2 = 0 → φ 0 μ1)))) : zOi g zm_X4_parseTerm [.ref 193, .ref 188, .int (zJ v2)] μ φ := by
  refine zok_of (by decide +kernel) rfl ?_
  show zWP g zm_X4_parseTerm (zmo g zm_X4_parseTerm (zΦi φ)) 0 [(0, .ref 193), (1, .ref 188), (2, .int (zJ v2))] [] 0 0 (zw μ)
  refine zw_aload_n (pc := 0) (n := 1) (i := 1) 1 (by decide +kernel) rfl rfl ?_
  refine zx_callV (pc := 1) (As := []) h zi_X8_acceptNumber zii_X8_acceptNumber zie_X8_acceptNumber zl_4_43 (by decide +kernel) ⟨Nat.le_of_ble_eq_true rfl, Nat.le_of_ble_eq_true rfl⟩ rfl zc_188 (by decide) rfl rfl ⟨rfl, rfl⟩ ⟨Nat.zero_le _, Nat.zero_le _⟩ (zki (fun x2 μ1 h => ?_))
  obtain ⟨o3, h⟩ := h
  refine zw_if_ne (pc := 4) (off := 5) (tgt := 9) (by decide +kernel) (by decide) o3 (fun hc => ?_) (fun hc => ?_)
  · replace h := h.1 hc
    refine zw_aload_n (pc := 9) (n := 1) (i := 1) 1 (by decide +kernel) rfl rfl ?_
    refine zx_getI (pc := 10) zf_4_46 (by decide +kernel) rfl zc_188 ?_
    refine zw_istore_n (pc := 13) (n := 3) (i := 3) (lv' := [(0, .ref 193), (1, .ref 188), (2, .int (zJ v2)), (3, .int (zJ (μ1 188 3)))]) (by decide +kernel) rfl (Nat.le_of_ble_eq_true rfl) rfl ?_
    refine zw_iconst (pc := 14) (n := 0) (by decide +kernel) ?_
    refine zw_istore (pc := 15) (i := 4) (lv' := [(0, .ref 193), (1, .ref 188), (2, .int (zJ v2)), (3, .int (zJ (μ1 188 3))), (4, .int (zJ 0))]) (by decide +kernel) (Nat.le_of_ble_eq_true rfl) rfl ?_
    refine zw_aload_n (pc := 17) (n := 1) (i := 1) 1 (by decide +kernel) rfl rfl ?_
    refine zw_bipush (pc := 18) (n := 120) (by decide +kernel) (by decide +kernel) ?_
    refine zx_callV (pc := 20) (As := [.int (zJ 120)]) h zi_X8_accept zii_X8_accept zie_X8_accept zl_4_35 (by decide +kernel) ⟨Nat.le_of_ble_eq_true rfl, Nat.le_of_ble_eq_true rfl⟩ rfl zc_188 (by decide) rfl rfl ⟨rfl, rfl⟩ ⟨Nat.zero_le _, Nat.zero_le _⟩ (zki (fun x5 μ4 h => ?_))
    obtain ⟨o6, h⟩ := h
    refine zw_if_eq (pc := 23) (off := 18) (tgt := 41) (by decide +kernel) (by decide) o6 (fun hc => ?_) (fun hc => ?_)
    · replace h := h.1 hc
      refine zw_iconst (pc := 41) (n := 0) (by decide +kernel) ?_
      refine zw_istore (pc := 42) (i := 5) (lv' := [(0, .ref 193), (1, .ref 188), (2, .int (zJ v2)), (3, .int (zJ (μ1 188 3))), (4, .int (zJ 0)), (5, .int (zJ 0))]) (by decide +kernel) (Nat.le_of_ble_eq_true rfl) rfl ?_
      refine zw_aload_n (pc := 44) (n := 1) (i := 1) 1 (by decide +kernel) rfl rfl ?_
      refine zw_bipush (pc := 45) (n := 121) (by decide +kernel) (by decide +kernel) ?_
      refine zx_callV (pc := 47) (As := [.int (zJ 121)]) h zi_X8_accept zii_X8_accept zie_X8_accept zl_4_35 (by decide +kernel) ⟨Nat.le_of_ble_eq_true rfl, Nat.le_of_ble_eq_true rfl⟩ rfl zc_188 (by decide) rfl rfl ⟨rfl, rfl⟩ ⟨Nat.zero_le _, Nat.zero_le _⟩ (zki (fun x8 μ7 h => ?_))
      obtain ⟨o9, h⟩ := h
      refine zw_if_eq (pc := 50) (off := 18) (tgt := 68) (by decide +kernel) (by decide) o9 (fun hc => ?_) (fun hc => ?_)
      · replace h := h.1 hc
        obtain ⟨o10, o11, o12, o13, o14, o15, h⟩ := h
        refine zw_bipush (pc := 68) (n := 9) (by decide +kernel) (by decide +kernel) ?_
        refine zw_iload (pc := 70) (i := 4) 4 (by decide +kernel) rfl ?_
        refine zw_imul (pc := 72) (by decide +kernel) ?_
        refine zw_iload (pc := 73) (i := 5) 5 (by decide +kernel) rfl ?_
        refine zw_iadd (pc := 75) (by decide +kernel) ?_
        refine zw_istore (pc := 76) (i := 6) (lv' := [(0, .ref 193), (1, .ref 188), (2, .int (zJ v2)), (3, .int (zJ (μ1 188 3))), (4, .int (zJ 0)), (5, .int (zJ 0)), (6, .int (zJ ((9 * 0) + 0)))]) (by decide +kernel) (Nat.le_of_ble_eq_true rfl) rfl ?_
        refine zw_aload_n (pc := 78) (n := 0) (i := 0) 0 (by decide +kernel) rfl rfl ?_
        refine zx_getR (pc := 79) (o := 1) (r := 194) zf_4_12 (by decide +kernel) rfl zc_193 rfl (by decide) rfl ?_
        refine zx_getR (pc := 82) (o := 1) (r := 195) zf_4_53 (by decide +kernel) rfl zc_194 rfl (by decide) rfl ?_
        refine zw_iload (pc := 85) (i := 6) 6 (by decide +kernel) rfl ?_
        refine zw_aload_n (pc := 87) (n := 0) (i := 0) 0 (by decide +kernel) rfl rfl ?_
        refine zx_getR (pc := 88) (o := 1) (r := 194) zf_4_12 (by decide +kernel) rfl zc_193 rfl (by decide) rfl ?_
        refine zx_getR (pc := 91) (o := 1) (r := 195) zf_4_53 (by decide +kernel) rfl zc_194 rfl (by decide) rfl ?_
        refine zw_iload (pc := 94) (i := 6) 6 (by decide +kernel) rfl ?_
        refine zx_iaload (pc := 96) (by decide +kernel) ⟨81, zc_195, o10.1, o10.2⟩ ?_
        refine zw_iload_n (pc := 97) (n := 3) (i := 3) 3 (by decide +kernel) rfl rfl ?_
        refine zw_iadd (pc := 98) (by decide +kernel) ?_
        refine zw_iload_n (pc := 99) (n := 2) (i := 2) 2 (by decide +kernel) rfl rfl ?_
        refine zw_irem (pc := 100) (by decide +kernel) o11 o12 o13 ?_
        refine zx_iastore (pc := 101) (by decide +kernel) ⟨81, zc_195, o10.1, o10.2⟩ ?_
        refine zw_aload_n (pc := 102) (n := 0) (i := 0) 0 (by decide +kernel) rfl rfl ?_
        refine zx_getR (pc := 103) (o := 1) (r := 194) zf_4_12 (by decide +kernel) rfl zc_193 rfl (by decide) rfl ?_
        refine zw_aload_n (pc := 106) (n := 0) (i := 0) 0 (by decide +kernel) rfl rfl ?_
        refine zx_getR (pc := 107) (o := 1) (r := 194) zf_4_12 (by decide +kernel) rfl zc_193 rfl (by decide) rfl ?_
        refine zx_getI (pc := 110) zf_4_56 (by decide +kernel) rfl zc_194 ?_
        refine zw_iload (pc := 113) (i := 4) 4 (by decide +kernel) rfl ?_
        refine zw_iload (pc := 115) (i := 5) 5 (by decide +kernel) rfl ?_
        refine zw_max (pc := 117) zl_4_59 zb_maxS zb_mathI zb_maxC (by decide +kernel) ⟨Nat.le_of_ble_eq_true rfl, Nat.le_of_ble_eq_true rfl⟩ (Nat.zero_le _) (Nat.zero_le _) rfl ⟨by decide, by decide⟩ ⟨by decide, by decide⟩ ?_
        refine zw_max (pc := 120) zl_4_59 zb_maxS zb_mathI zb_maxC (by decide +kernel) ⟨Nat.le_of_ble_eq_true rfl, Nat.le_of_ble_eq_true rfl⟩ (Nat.zero_le _) (Nat.zero_le _) rfl o14 o15 ?_
        refine zx_putI (pc := 123) zf_4_56 (by decide +kernel) rfl zc_194 ?_
        refine zw_iconst (pc := 126) (n := 1) (by decide +kernel) ?_
        exact zw_zret (pc := 127) (by decide +kernel) rfl (Nat.le_refl _) (Nat.le_refl _) (Or.inr rfl) ⟨_, _, rfl, rfl, h⟩
      · replace h := h.2 hc
        refine zw_aload_n (pc := 53) (n := 1) (i := 1) 1 (by decide +kernel) rfl rfl ?_
        refine zx_callV (pc := 54) (As := []) h zi_X8_acceptExponent zii_X8_acceptExponent zie_X8_acceptExponent zl_4_50 (by decide +kernel) ⟨Nat.le_of_ble_eq_true rfl, Nat.le_of_ble_eq_true rfl⟩ rfl zc_188 (by decide) rfl rfl ⟨rfl, rfl⟩ ⟨Nat.zero_le _, Nat.zero_le _⟩ (zki (fun x17 μ16 h => ?_))
        obtain ⟨o18, h⟩ := h
        refine zw_if_ne (pc := 57) (off := 5) (tgt := 62) (by decide +kernel) (by decide) o18 (fun hc => ?_) (fun hc => ?_)
        · replace h := h.1 hc
          obtain ⟨o19, o20, o21, o22, o23, o24, o25, h⟩ := h
          refine zw_aload_n (pc := 62) (n := 1) (i := 1) 1 (by decide +kernel) rfl rfl ?_
          refine zx_getI (pc := 63) zf_4_46 (by decide +kernel) rfl zc_188 ?_
          refine zw_istore (pc := 66) (i := 5) (lv' := [(0, .ref 193), (1, .ref 188), (2, .int (zJ v2)), (3, .int (zJ (μ1 188 3))), (4, .int (zJ 0)), (5, .int (zJ (μ16 188 3)))]) (by decide +kernel) (Nat.le_of_ble_eq_true rfl) rfl ?_
          refine zw_bipush (pc := 68) (n := 9) (by decide +kernel) (by decide +kernel) ?_
          refine zw_iload (pc := 70) (i := 4) 4 (by decide +kernel) rfl ?_
          refine zw_imul (pc := 72) (by decide +kernel) ?_
          refine zw_iload (pc := 73) (i := 5) 5 (by decide +kernel) rfl ?_
          refine zw_iadd (pc := 75) (by decide +kernel) ?_
          refine zw_istore (pc := 76) (i := 6) (lv' := [(0, .ref 193), (1, .ref 188), (2, .int (zJ v2)), (3, .int (zJ (μ1 188 3))), (4, .int (zJ 0)), (5, .int (zJ (μ16 188 3))), (6, .int (zJ ((9 * 0) + (μ16 188 3))))]) (by decide +kernel) (Nat.le_of_ble_eq_true rfl) rfl ?_
          refine zw_aload_n (pc := 78) (n := 0) (i := 0) 0 (by decide +kernel) rfl rfl ?_
          refine zx_getR (pc := 79) (o := 1) (r := 194) zf_4_12 (by decide +kernel) rfl zc_193 rfl (by decide) rfl ?_
          refine zx_getR (pc := 82) (o := 1) (r := 195) zf_4_53 (by decide +kernel) rfl zc_194 rfl (by decide) rfl ?_
          refine zw_iload (pc := 85) (i := 6) 6 (by decide +kernel) rfl ?_
          refine zw_aload_n (pc := 87) (n := 0) (i := 0) 0 (by decide +kernel) rfl rfl ?_
          refine zx_getR (pc := 88) (o := 1) (r := 194) zf_4_12 (by decide +kernel) rfl zc_193 rfl (by decide) rfl ?_
          refine zx_getR (pc := 91) (o := 1) (r := 195) zf_4_53 (by decide +kernel) rfl zc_194 rfl (by decide) rfl ?_
          refine zw_iload (pc := 94) (i := 6) 6 (by decide +kernel) rfl ?_
          refine zx_iaload (pc := 96) (by decide +kernel) ⟨81, zc_195, o19.1, o19.2⟩ ?_
          refine zw_iload_n (pc := 97) (n := 3) (i := 3) 3 (by decide +kernel) rfl rfl ?_
          refine zw_iadd (pc := 98) (by decide +kernel) ?_
          refine zw_iload_n (pc := 99) (n := 2) (i := 2) 2 (by decide +kernel) rfl rfl ?_
          refine zw_irem (pc := 100) (by decide +kernel) o20 o21 o22 ?_
          refine zx_iastore (pc := 101) (by decide +kernel) ⟨81, zc_195, o19.1, o19.2⟩ ?_
          refine zw_aload_n (pc := 102) (n := 0) (i := 0) 0 (by decide +kernel) rfl rfl ?_
          refine zx_getR (pc := 103) (o := 1) (r := 194) zf_4_12 (by decide +kernel) rfl zc_193 rfl (by decide) rfl ?_
          refine zw_aload_n (pc := 106) (n := 0) (i := 0) 0 (by decide +kernel) rfl rfl ?_
          refine zx_getR (pc := 107) (o := 1) (r := 194) zf_4_12 (by decide +kernel) rfl zc_193 rfl (by decide) rfl ?_
          refine zx_getI (pc := 110) zf_4_56 (by decide +kernel) rfl zc_194 ?_
          refine zw_iload (pc := 113) (i := 4) 4 (by decide +kernel) rfl ?_
          refine zw_iload (pc := 115) (i := 5) 5 (by decide +kernel) rfl ?_
          refine zw_max (pc := 117) zl_4_59 zb_maxS zb_mathI zb_maxC (by decide +kernel) ⟨Nat.le_of_ble_eq_true rfl, Nat.le_of_ble_eq_true rfl⟩ (Nat.zero_le _) (Nat.zero_le _) rfl ⟨by decide, by decide⟩ o23 ?_
          refine zw_max (pc := 120) zl_4_59 zb_maxS zb_mathI zb_maxC (by decide +kernel) ⟨Nat.le_of_ble_eq_true rfl, Nat.le_of_ble_eq_true rfl⟩ (Nat.zero_le _) (Nat.zero_le _) rfl o24 o25 ?_
          refine zx_putI (pc := 123) zf_4_56 (by decide +kernel) rfl zc_194 ?_
          refine zw_iconst (pc := 126) (n := 1) (by decide +kernel) ?_
          exact zw_zret (pc := 127) (by decide +kernel) rfl (Nat.le_refl _) (Nat.le_refl _) (Or.inr rfl) ⟨_, _, rfl, rfl, h⟩
        · replace h := h.2 hc
          refine zw_iconst (pc := 60) (n := 0) (by decide +kernel) ?_
          exact zw_zret (pc := 61) (by decide +kernel) rfl (Nat.le_refl _) (Nat.le_refl _) (Or.inl rfl) ⟨_, _, rfl, rfl, h⟩
    · replace h := h.2 hc
      refine zw_aload_n (pc := 26) (n := 1) (i := 1) 1 (by decide +kernel) rfl rfl ?_
      refine zx_callV (pc := 27) (As := []) h zi_X8_acceptExponent zii_X8_acceptExponent zie_X8_acceptExponent zl_4_50 (by decide +kernel) ⟨Nat.le_of_ble_eq_true rfl, Nat.le_of_ble_eq_true rfl⟩ rfl zc_188 (by decide) rfl rfl ⟨rfl, rfl⟩ ⟨Nat.zero_le _, Nat.zero_le _⟩ (zki (fun x27 μ26 h => ?_))
      obtain ⟨o28, h⟩ := h
      refine zw_if_ne (pc := 30) (off := 5) (tgt := 35) (by decide +kernel) (by decide) o28 (fun hc => ?_) (fun hc => ?_)
      · replace h := h.1 hc
        refine zw_aload_n (pc := 35) (n := 1) (i := 1) 1 (by decide +kernel) rfl rfl ?_
        refine zx_getI (pc := 36) zf_4_46 (by decide +kernel) rfl zc_188 ?_
        refine zw_istore (pc := 39) (i := 4) (lv' := [(0, .ref 193), (1, .ref 188), (2, .int (zJ v2)), (3, .int (zJ (μ1 188 3))), (4, .int (zJ (μ26 188 3)))]) (by decide +kernel) (Nat.le_of_ble_eq_true rfl) rfl ?_
        refine zw_iconst (pc := 41) (n := 0) (by decide +kernel) ?_
        refine zw_istore (pc := 42) (i := 5) (lv' := [(0, .ref 193), (1, .ref 188), (2, .int (zJ v2)), (3, .int (zJ (μ1 188 3))), (4, .int (zJ (μ26 188 3))), (5, .int (zJ 0))]) (by decide +kernel) (Nat.le_of_ble_eq_true rfl) rfl ?_
        refine zw_aload_n (pc := 44) (n := 1) (i := 1) 1 (by decide +kernel) rfl rfl ?_
        refine zw_bipush (pc := 45) (n := 121) (by decide +kernel) (by decide +kernel) ?_
        refine zx_callV (pc := 47) (As := [.int (zJ 121)]) h zi_X8_accept zii_X8_accept zie_X8_accept zl_4_35 (by decide +kernel) ⟨Nat.le_of_ble_eq_true rfl, Nat.le_of_ble_eq_true rfl⟩ rfl zc_188 (by decide) rfl rfl ⟨rfl, rfl⟩ ⟨Nat.zero_le _, Nat.zero_le _⟩ (zki (fun x30 μ29 h => ?_))
        obtain ⟨o31, h⟩ := h
        refine zw_if_eq (pc := 50) (off := 18) (tgt := 68) (by decide +kernel) (by decide) o31 (fun hc => ?_) (fun hc => ?_)
        · replace h := h.1 hc
          obtain ⟨o32, o33, o34, o35, o36, o37, o38, h⟩ := h
          refine zw_bipush (pc := 68) (n := 9) (by decide +kernel) (by decide +kernel) ?_
          refine zw_iload (pc := 70) (i := 4) 4 (by decide +kernel) rfl ?_
          refine zw_imul (pc := 72) (by decide +kernel) ?_
          refine zw_iload (pc := 73) (i := 5) 5 (by decide +kernel) rfl ?_
          refine zw_iadd (pc := 75) (by decide +kernel) ?_
          refine zw_istore (pc := 76) (i := 6) (lv' := [(0, .ref 193), (1, .ref 188), (2, .int (zJ v2)), (3, .int (zJ (μ1 188 3))), (4, .int (zJ (μ26 188 3))), (5, .int (zJ 0)), (6, .int (zJ ((9 * (μ26 188 3)) + 0)))]) (by decide +kernel) (Nat.le_of_ble_eq_true rfl) rfl ?_
          refine zw_aload_n (pc := 78) (n := 0) (i := 0) 0 (by decide +kernel) rfl rfl ?_
          refine zx_getR (pc := 79) (o := 1) (r := 194) zf_4_12 (by decide +kernel) rfl zc_193 rfl (by decide) rfl ?_
          refine zx_getR (pc := 82) (o := 1) (r := 195) zf_4_53 (by decide +kernel) rfl zc_194 rfl (by decide) rfl ?_
          refine zw_iload (pc := 85) (i := 6) 6 (by decide +kernel) rfl ?_
          refine zw_aload_n (pc := 87) (n := 0) (i := 0) 0 (by decide +kernel) rfl rfl ?_
          refine zx_getR (pc := 88) (o := 1) (r := 194) zf_4_12 (by decide +kernel) rfl zc_193 rfl (by decide) rfl ?_
          refine zx_getR (pc := 91) (o := 1) (r := 195) zf_4_53 (by decide +kernel) rfl zc_194 rfl (by decide) rfl ?_
          refine zw_iload (pc := 94) (i := 6) 6 (by decide +kernel) rfl ?_
          refine zx_iaload (pc := 96) (by decide +kernel) ⟨81, zc_195, o32.1, o32.2⟩ ?_
          refine zw_iload_n (pc := 97) (n := 3) (i := 3) 3 (by decide +kernel) rfl rfl ?_
          refine zw_iadd (pc := 98) (by decide +kernel) ?_
          refine zw_iload_n (pc := 99) (n := 2) (i := 2) 2 (by decide +kernel) rfl rfl ?_
          refine zw_irem (pc := 100) (by decide +kernel) o33 o34 o35 ?_
          refine zx_iastore (pc := 101) (by decide +kernel) ⟨81, zc_195, o32.1, o32.2⟩ ?_
          refine zw_aload_n (pc := 102) (n := 0) (i := 0) 0 (by decide +kernel) rfl rfl ?_
          refine zx_getR (pc := 103) (o := 1) (r := 194) zf_4_12 (by decide +kernel) rfl zc_193 rfl (by decide) rfl ?_
          refine zw_aload_n (pc := 106) (n := 0) (i := 0) 0 (by decide +kernel) rfl rfl ?_
          refine zx_getR (pc := 107) (o := 1) (r := 194) zf_4_12 (by decide +kernel) rfl zc_193 rfl (by decide) rfl ?_
          refine zx_getI (pc := 110) zf_4_56 (by decide +kernel) rfl zc_194 ?_
          refine zw_iload (pc := 113) (i := 4) 4 (by decide +kernel) rfl ?_
          refine zw_iload (pc := 115) (i := 5) 5 (by decide +kernel) rfl ?_
          refine zw_max (pc := 117) zl_4_59 zb_maxS zb_mathI zb_maxC (by decide +kernel) ⟨Nat.le_of_ble_eq_true rfl, Nat.le_of_ble_eq_true rfl⟩ (Nat.zero_le _) (Nat.zero_le _) rfl o36 ⟨by decide, by decide⟩ ?_
          refine zw_max (pc := 120) zl_4_59 zb_maxS zb_mathI zb_maxC (by decide +kernel) ⟨Nat.le_of_ble_eq_true rfl, Nat.le_of_ble_eq_true rfl⟩ (Nat.zero_le _) (Nat.zero_le _) rfl o37 o38 ?_
          refine zx_putI (pc := 123) zf_4_56 (by decide +kernel) rfl zc_194 ?_
          refine zw_iconst (pc := 126) (n := 1) (by decide +kernel) ?_
          exact zw_zret (pc := 127) (by decide +kernel) rfl (Nat.le_refl _) (Nat.le_refl _) (Or.inr rfl) ⟨_, _, rfl, rfl, h⟩
        · replace h := h.2 hc
          refine zw_aload_n (pc := 53) (n := 1) (i := 1) 1 (by decide +kernel) rfl rfl ?_
          refine zx_callV (pc := 54) (As := []) h zi_X8_acceptExponent zii_X8_acceptExponent zie_X8_acceptExponent zl_4_50 (by decide +kernel) ⟨Nat.le_of_ble_eq_true rfl, Nat.le_of_ble_eq_true rfl⟩ rfl zc_188 (by decide) rfl rfl ⟨rfl, rfl⟩ ⟨Nat.zero_le _, Nat.zero_le _⟩ (zki (fun x40 μ39 h => ?_))
          obtain ⟨o41, h⟩ := h
          refine zw_if_ne (pc := 57) (off := 5) (tgt := 62) (by decide +kernel) (by decide) o41 (fun hc => ?_) (fun hc => ?_)
          · replace h := h.1 hc
            obtain ⟨o42, o43, o44, o45, o46, o47, o48, o49, h⟩ := h
            refine zw_aload_n (pc := 62) (n := 1) (i := 1) 1 (by decide +kernel) rfl rfl ?_
            refine zx_getI (pc := 63) zf_4_46 (by decide +kernel) rfl zc_188 ?_
            refine zw_istore (pc := 66) (i := 5) (lv' := [(0, .ref 193), (1, .ref 188), (2, .int (zJ v2)), (3, .int (zJ (μ1 188 3))), (4, .int (zJ (μ26 188 3))), (5, .int (zJ (μ39 188 3)))]) (by decide +kernel) (Nat.le_of_ble_eq_true rfl) rfl ?_
            refine zw_bipush (pc := 68) (n := 9) (by decide +kernel) (by decide +kernel) ?_
            refine zw_iload (pc := 70) (i := 4) 4 (by decide +kernel) rfl ?_
            refine zw_imul (pc := 72) (by decide +kernel) ?_
            refine zw_iload (pc := 73) (i := 5) 5 (by decide +kernel) rfl ?_
            refine zw_iadd (pc := 75) (by decide +kernel) ?_
            refine zw_istore (pc := 76) (i := 6) (lv' := [(0, .ref 193), (1, .ref 188), (2, .int (zJ v2)), (3, .int (zJ (μ1 188 3))), (4, .int (zJ (μ26 188 3))), (5, .int (zJ (μ39 188 3))), (6, .int (zJ ((9 * (μ26 188 3)) + (μ39 188 3))))]) (by decide +kernel) (Nat.le_of_ble_eq_true rfl) rfl ?_
            refine zw_aload_n (pc := 78) (n := 0) (i := 0) 0 (by decide +kernel) rfl rfl ?_
            refine zx_getR (pc := 79) (o := 1) (r := 194) zf_4_12 (by decide +kernel) rfl zc_193 rfl (by decide) rfl ?_
            refine zx_getR (pc := 82) (o := 1) (r := 195) zf_4_53 (by decide +kernel) rfl zc_194 rfl (by decide) rfl ?_
            refine zw_iload (pc := 85) (i := 6) 6 (by decide +kernel) rfl ?_
            refine zw_aload_n (pc := 87) (n := 0) (i := 0) 0 (by decide +kernel) rfl rfl ?_
            refine zx_getR (pc := 88) (o := 1) (r := 194) zf_4_12 (by decide +kernel) rfl zc_193 rfl (by decide) rfl ?_
            refine zx_getR (pc := 91) (o := 1) (r := 195) zf_4_53 (by decide +kernel) rfl zc_194 rfl (by decide) rfl ?_
            refine zw_iload (pc := 94) (i := 6) 6 (by decide +kernel) rfl ?_
            refine zx_iaload (pc := 96) (by decide +kernel) ⟨81, zc_195, o42.1, o42.2⟩ ?_
            refine zw_iload_n (pc := 97) (n := 3) (i := 3) 3 (by decide +kernel) rfl rfl ?_
            refine zw_iadd (pc := 98) (by decide +kernel) ?_
            refine zw_iload_n (pc := 99) (n := 2) (i := 2) 2 (by decide +kernel) rfl rfl ?_
            refine zw_irem (pc := 100) (by decide +kernel) o43 o44 o45 ?_
            refine zx_iastore (pc := 101) (by decide +kernel) ⟨81, zc_195, o42.1, o42.2⟩ ?_
            refine zw_aload_n (pc := 102) (n := 0) (i := 0) 0 (by decide +kernel) rfl rfl ?_
            refine zx_getR (pc := 103) (o := 1) (r := 194) zf_4_12 (by decide +kernel) rfl zc_193 rfl (by decide) rfl ?_
            refine zw_aload_n (pc := 106) (n := 0) (i := 0) 0 (by decide +kernel) rfl rfl ?_
            refine zx_getR (pc := 107) (o := 1) (r := 194) zf_4_12 (by decide +kernel) rfl zc_193 rfl (by decide) rfl ?_
            refine zx_getI (pc := 110) zf_4_56 (by decide +kernel) rfl zc_194 ?_
            refine zw_iload (pc := 113) (i := 4) 4 (by decide +kernel) rfl ?_
            refine zw_iload (pc := 115) (i := 5) 5 (by decide +kernel) rfl ?_
            refine zw_max (pc := 117) zl_4_59 zb_maxS zb_mathI zb_maxC (by decide +kernel) ⟨Nat.le_of_ble_eq_true rfl, Nat.le_of_ble_eq_true rfl⟩ (Nat.zero_le _) (Nat.zero_le _) rfl o46 o47 ?_
            refine zw_max (pc := 120) zl_4_59 zb_maxS zb_mathI zb_maxC (by decide +kernel) ⟨Nat.le_of_ble_eq_true rfl, Nat.le_of_ble_eq_true rfl⟩ (Nat.zero_le _) (Nat.zero_le _) rfl o48 o49 ?_
            refine zx_putI (pc := 123) zf_4_56 (by decide +kernel) rfl zc_194 ?_
            refine zw_iconst (pc := 126) (n := 1) (by decide +kernel) ?_
            exact zw_zret (pc := 127) (by decide +kernel) rfl (Nat.le_refl _) (Nat.le_refl _) (Or.inr rfl) ⟨_, _, rfl, rfl, h⟩
          · replace h := h.2 hc
            refine zw_iconst (pc := 60) (n := 0) (by decide +kernel) ?_
            exact zw_zret (pc := 61) (by decide +kernel) rfl (Nat.le_refl _) (Nat.le_refl _) (Or.inl rfl) ⟨_, _, rfl, rfl, h⟩
      · replace h := h.2 hc
        refine zw_iconst (pc := 33) (n := 0) (by decide +kernel) ?_
        exact zw_zret (pc := 34) (by decide +kernel) rfl (Nat.le_refl _) (Nat.le_refl _) (Or.inl rfl) ⟨_, _, rfl, rfl, h⟩
  · replace h := h.2 hc
    refine zw_iconst (pc := 7) (n := 0) (by decide +kernel) ?_
    exact zw_zret (pc := 8) (by decide +kernel) rfl (Nat.le_refl _) (Nat.le_refl _) (Or.inl rfl) ⟨_, _, rfl, rfl, h⟩
abbrev at_X4_putDown_10 (g : zG) (φ : zMu → Prop) (v1 : Nat) (v2 : Int) (μ : zMu) : Prop := zWP g zm_X4_putDown (zmo g zm_X4_putDown (zΦv φ)) 10 [(0, .ref 193), (1, .ref v1), (2, .int (zJ v2))] [] 0 0 (zw μ)
abbrev at_X4_putDown_19 (g : zG) (φ : zMu → Prop) (v1 : Nat) (v2 : Int) (v3 : Int) (μ : zMu) : Prop := zWP g zm_X4_putDown (zmo g zm_X4_putDown (zΦv φ)) 19 [(0, .ref 193), (1, .ref v1), (2, .int (zJ v2)), (3, .int (zJ v3))] [] 0 0 (zw μ)
theorem sg_X4_putDown {g : zG} {φ : zMu → Prop} {v1 : Nat} {μ : zMu} (h_v1 : zS v1 3 2)
    (h : at_X4_putDown_10 g φ v1 ((zup μ 193 2 0) v1 1) (zup μ 193 2 0)) : zOv g zm_X4_putDown [.ref 193, .ref v1] μ φ := by
  refine zok_of (by decide +kernel) rfl ?_
  show zWP g zm_X4_putDown (zmo g zm_X4_putDown (zΦv φ)) 0 [(0, .ref 193), (1, .ref v1)] [] 0 0 (zw μ)
  refine zw_aload_n (pc := 0) (n := 0) (i := 0) 0 (by decide +kernel) rfl rfl ?_
  refine zw_iconst (pc := 1) (n := 0) (by decide +kernel) ?_
  refine zx_putI (pc := 2) zf_4_65 (by decide +kernel) rfl zc_193 ?_
  refine zw_aload_n (pc := 5) (n := 1) (i := 1) 1 (by decide +kernel) rfl rfl ?_
  refine zx_getI (pc := 6) zf_4_56 (by decide +kernel) rfl h_v1 ?_
  refine zw_istore_n (pc := 9) (n := 2) (i := 2) (lv' := [(0, .ref 193), (1, .ref v1), (2, .int (zJ ((zup μ 193 2 0) v1 1)))]) (by decide +kernel) rfl (Nat.le_of_ble_eq_true rfl) rfl ?_
  exact h
theorem sg_X4_putDown_10 {g : zG} {φ : zMu → Prop} {v1 : Nat} {v2 : Int} {μ : zMu} (h_v1 : zS v1 3 2)
    (h : (zR v2) ∧ ((v2 < 0 → (zR (μ 193 2)) ∧ ((¬ (μ 193 2) = 0 → φ μ) ∧ ((μ 193 2) = 0 → zOv g zm_X4_putByte [.ref 193, .int (zJ 48)] μ (fun μ3 => φ μ3)))) ∧ (0 ≤ v2 → at_X4_putDown_19 g φ v1 v2 (μ v1 1) μ))) : at_X4_putDown_10 g φ v1 v2 μ := by
  obtain ⟨o1, h⟩ := h
  refine zw_iload_n (pc := 10) (n := 2) (i := 2) 2 (by decide +kernel) rfl rfl ?_
  refine zw_if_lt (pc := 11) (off := 50) (tgt := 61) (by decide +kernel) (by decide) o1 (fun hc => ?_) (fun hc => ?_)
  · replace h := h.1 hc
    obtain ⟨o2, h⟩ := h
    refine zw_aload_n (pc := 61) (n := 0) (i := 0) 0 (by decide +kernel) rfl rfl ?_
    refine zx_getI (pc := 62) zf_4_65 (by decide +kernel) rfl zc_193 ?_
    refine zw_if_ne (pc := 65) (off := 9) (tgt := 74) (by decide +kernel) (by decide) o2 (fun hc => ?_) (fun hc => ?_)
    · replace h := h.1 hc
      exact zw_vret (pc := 74) (by decide +kernel) rfl (Nat.le_refl _) (Nat.le_refl _) ⟨_, rfl, rfl, h⟩
    · replace h := h.2 hc
      refine zw_aload_n (pc := 68) (n := 0) (i := 0) 0 (by decide +kernel) rfl rfl ?_
      refine zw_bipush (pc := 69) (n := 48) (by decide +kernel) (by decide +kernel) ?_
      refine zx_callV (pc := 71) (As := [.int (zJ 48)]) h zi_X4_putByte zii_X4_putByte zie_X4_putByte zl_4_72 (by decide +kernel) ⟨Nat.le_of_ble_eq_true rfl, Nat.le_of_ble_eq_true rfl⟩ rfl zc_193 (by decide) rfl rfl ⟨rfl, rfl⟩ ⟨Nat.zero_le _, Nat.zero_le _⟩ (zkv (fun μ3 h => ?_))
      exact zw_vret (pc := 74) (by decide +kernel) rfl (Nat.le_refl _) (Nat.le_refl _) ⟨_, rfl, rfl, h⟩
  · replace h := h.2 hc
    refine zw_aload_n (pc := 14) (n := 1) (i := 1) 1 (by decide +kernel) rfl rfl ?_
    refine zx_getI (pc := 15) zf_4_56 (by decide +kernel) rfl h_v1 ?_
    refine zw_istore_n (pc := 18) (n := 3) (i := 3) (lv' := [(0, .ref 193), (1, .ref v1), (2, .int (zJ v2)), (3, .int (zJ (μ v1 1)))]) (by decide +kernel) rfl (Nat.le_of_ble_eq_true rfl) rfl ?_
    exact h
theorem sg_X4_putDown_19 {g : zG} {φ : zMu → Prop} {v1 : Nat} {v2 : Int} {v3 : Int} {μ : zMu} (h_v1 : zS v1 3 2)
    (h : (zR v3) ∧ ((v3 < 0 → at_X4_putDown_10 g φ v1 (v2 + (-1)) μ) ∧ (0 ≤ v3 → (0 ≤ ((9 * v2) + v3) ∧ ((9 * v2) + v3) < 81) ∧ (zR (μ (v1 + 1) (Int.toNat ((9 * v2) + v3)))) ∧ (((μ (v1 + 1) (Int.toNat ((9 * v2) + v3))) = 0 → at_X4_putDown_19 g φ v1 v2 (v3 + (-1)) μ) ∧ (¬ (μ (v1 + 1) (Int.toNat ((9 * v2) + v3))) = 0 → zOv g zm_X4_putTerm [.ref 193, .int (zJ (μ (v1 + 1) (Int.toNat ((9 * v2) + v3)))), .int (zJ v2), .int (zJ v3)] μ (fun μ5 => at_X4_putDown_19 g φ v1 v2 (v3 + (-1)) μ5)))))) : at_X4_putDown_19 g φ v1 v2 v3 μ := by
  obtain ⟨o1, h⟩ := h
  refine zw_iload_n (pc := 19) (n := 3) (i := 3) 3 (by decide +kernel) rfl rfl ?_
  refine zw_if_lt (pc := 20) (off := 35) (tgt := 55) (by decide +kernel) (by decide) o1 (fun hc => ?_) (fun hc => ?_)
  · replace h := h.1 hc
    refine zw_iinc (pc := 55) (i := 2) (n := (-1)) (lv' := [(0, .ref 193), (1, .ref v1), (2, .int (zJ (v2 + (-1)))), (3, .int (zJ v3))]) 2 (by decide +kernel) rfl rfl (Nat.le_of_ble_eq_true rfl) rfl ?_
    refine zw_goto (pc := 58) (off := (-48)) (tgt := 10) (by decide +kernel) (by decide) ?_
    exact zw_pick (lv' := [(0, .ref 193), (1, .ref v1), (2, .int (zJ (v2 + (-1))))]) [0, 1, 2] rfl h
  · replace h := h.2 hc
    obtain ⟨o3, o4, h⟩ := h
    refine zw_aload_n (pc := 23) (n := 1) (i := 1) 1 (by decide +kernel) rfl rfl ?_
    have q2 : zS (v1 + 1) 12 81 := zq 0 h_v1 rfl
    refine zx_getR (pc := 24) (o := 1) (r := (v1 + 1)) zf_4_53 (by decide +kernel) rfl h_v1 rfl (by decide) rfl ?_
    refine zw_bipush (pc := 27) (n := 9) (by decide +kernel) (by decide +kernel) ?_
    refine zw_iload_n (pc := 29) (n := 2) (i := 2) 2 (by decide +kernel) rfl rfl ?_
    refine zw_imul (pc := 30) (by decide +kernel) ?_
    refine zw_iload_n (pc := 31) (n := 3) (i := 3) 3 (by decide +kernel) rfl rfl ?_
    refine zw_iadd (pc := 32) (by decide +kernel) ?_
    refine zx_iaload (pc := 33) (by decide +kernel) ⟨81, q2, o3.1, o3.2⟩ ?_
    refine zw_istore (pc := 34) (i := 4) (lv' := [(0, .ref 193), (1, .ref v1), (2, .int (zJ v2)), (3, .int (zJ v3)), (4, .int (zJ (μ (v1 + 1) (Int.toNat ((9 * v2) + v3)))))]) (by decide +kernel) (Nat.le_of_ble_eq_true rfl) rfl ?_
    refine zw_iload (pc := 36) (i := 4) 4 (by decide +kernel) rfl ?_
    refine zw_if_eq (pc := 38) (off := 11) (tgt := 49) (by decide +kernel) (by decide) o4 (fun hc => ?_) (fun hc => ?_)
    · replace h := h.1 hc
      refine zw_iinc (pc := 49) (i := 3) (n := (-1)) (lv' := [(0, .ref 193), (1, .ref v1), (2, .int (zJ v2)), (3, .int (zJ (v3 + (-1)))), (4, .int (zJ (μ (v1 + 1) (Int.toNat ((9 * v2) + v3)))))]) 3 (by decide +kernel) rfl rfl (Nat.le_of_ble_eq_true rfl) rfl ?_
      refine zw_goto (pc := 52) (off := (-33)) (tgt := 19) (by decide +kernel) (by decide) ?_
      exact zw_pick (lv' := [(0, .ref 193), (1, .ref v1), (2, .int (zJ v2)), (3, .int (zJ (v3 + (-1))))]) [0, 1, 2, 3] rfl h
    · replace h := h.2 hc
      refine zw_aload_n (pc := 41) (n := 0) (i := 0) 0 (by decide +kernel) rfl rfl ?_
      refine zw_iload (pc := 42) (i := 4) 4 (by decide +kernel) rfl ?_
      refine zw_iload_n (pc := 44) (n := 2) (i := 2) 2 (by decide +kernel) rfl rfl ?_
      refine zw_iload_n (pc := 45) (n := 3) (i := 3) 3 (by decide +kernel) rfl rfl ?_
      refine zx_callV (pc := 46) (As := [.int (zJ (μ (v1 + 1) (Int.toNat ((9 * v2) + v3)))), .int (zJ v2), .int (zJ v3)]) h zi_X4_putTerm zii_X4_putTerm zie_X4_putTerm zl_4_68 (by decide +kernel) ⟨Nat.le_of_ble_eq_true rfl, Nat.le_of_ble_eq_true rfl⟩ rfl zc_193 (by decide) rfl rfl ⟨rfl, rfl⟩ ⟨Nat.zero_le _, Nat.zero_le _⟩ (zkv (fun μ5 h => ?_))
      refine zw_iinc (pc := 49) (i := 3) (n := (-1)) (lv' := [(0, .ref 193), (1, .ref v1), (2, .int (zJ v2)), (3, .int (zJ (v3 + (-1)))), (4, .int (zJ (μ (v1 + 1) (Int.toNat ((9 * v2) + v3)))))]) 3 (by decide +kernel) rfl rfl (Nat.le_of_ble_eq_true rfl) rfl ?_
      refine zw_goto (pc := 52) (off := (-33)) (tgt := 19) (by decide +kernel) (by decide) ?_
      exact zw_pick (lv' := [(0, .ref 193), (1, .ref v1), (2, .int (zJ v2)), (3, .int (zJ (v3 + (-1))))]) [0, 1, 2, 3] rfl h
theorem sg_X4_putTerm {g : zG} {φ : zMu → Prop} {v1 : Int} {v2 : Int} {v3 : Int} {μ : zMu}
    (h : (zR (μ 193 2)) ∧ (((μ 193 2) ≤ 0 → zOv g zm_X4_putNumber [.ref 193, .int (zJ v1)] μ (fun μ2 => (zR v2) ∧ ((v2 ≤ 0 → (zR v3) ∧ ((v3 ≤ 0 → φ μ2) ∧ (0 < v3 → zOv g zm_X4_putByte [.ref 193, .int (zJ 121)] μ2 (fun μ5 => zOv g zm_X4_putNumber [.ref 193, .int (zJ v3)] μ5 (fun μ6 => φ μ6))))) ∧ (0 < v2 → zOv g zm_X4_putByte [.ref 193, .int (zJ 120)] μ2 (fun μ7 => zOv g zm_X4_putNumber [.ref 193, .int (zJ v2)] μ7 (fun μ8 => (zR v3) ∧ ((v3 ≤ 0 → φ μ8) ∧ (0 < v3 → zOv g zm_X4_putByte [.ref 193, .int (zJ 121)] μ8 (fun μ10 => zOv g zm_X4_putNumber [.ref 193, .int (zJ v3)] μ10 (fun μ11 => φ μ11)))))))))) ∧ (0 < (μ 193 2) → zOv g zm_X4_putByte [.ref 193, .int (zJ 43)] μ (fun μ12 => zOv g zm_X4_putNumber [.ref 193, .int (zJ v1)] μ12 (fun μ13 => (zR v2) ∧ ((v2 ≤ 0 → (zR v3) ∧ ((v3 ≤ 0 → φ μ13) ∧ (0 < v3 → zOv g zm_X4_putByte [.ref 193, .int (zJ 121)] μ13 (fun μ16 => zOv g zm_X4_putNumber [.ref 193, .int (zJ v3)] μ16 (fun μ17 => φ μ17))))) ∧ (0 < v2 → zOv g zm_X4_putByte [.ref 193, .int (zJ 120)] μ13 (fun μ18 => zOv g zm_X4_putNumber [.ref 193, .int (zJ v2)] μ18 (fun μ19 => (zR v3) ∧ ((v3 ≤ 0 → φ μ19) ∧ (0 < v3 → zOv g zm_X4_putByte [.ref 193, .int (zJ 121)] μ19 (fun μ21 => zOv g zm_X4_putNumber [.ref 193, .int (zJ v3)] μ21 (fun μ22 => φ μ22))))))))))))) : zOv g zm_X4_putTerm [.ref 193, .int (zJ v1), .int (zJ v2), .int (zJ v3)] μ φ := by
  refine zok_of (by decide +kernel) rfl ?_
  show zWP g zm_X4_putTerm (zmo g zm_X4_putTerm (zΦv φ)) 0 [(0, .ref 193), (1, .int (zJ v1)), (2, .int (zJ v2)), (3, .int (zJ v3))] [] 0 0 (zw μ)
  obtain ⟨o1, h⟩ := h
  refine zw_aload_n (pc := 0) (n := 0) (i := 0) 0 (by decide +kernel) rfl rfl ?_
  refine zx_getI (pc := 1) zf_4_65 (by decide +kernel) rfl zc_193 ?_
  refine zw_if_le (pc := 4) (off := 9) (tgt := 13) (by decide +kernel) (by decide) o1 (fun hc => ?_) (fun hc => ?_)
  · replace h := h.1 hc
    refine zw_aload_n (pc := 13) (n := 0) (i := 0) 0 (by decide +kernel) rfl rfl ?_
    refine zw_iload_n (pc := 14) (n := 1) (i := 1) 1 (by decide +kernel) rfl rfl ?_
    refine zx_callV (pc := 15) (As := [.int (zJ v1)]) h zi_X4_putNumber zii_X4_putNumber zie_X4_putNumber zl_4_75 (by decide +kernel) ⟨Nat.le_of_ble_eq_true rfl, Nat.le_of_ble_eq_true rfl⟩ rfl zc_193 (by decide) rfl rfl ⟨rfl, rfl⟩ ⟨Nat.zero_le _, Nat.zero_le _⟩ (zkv (fun μ2 h => ?_))
    obtain ⟨o3, h⟩ := h
    refine zw_iload_n (pc := 18) (n := 2) (i := 2) 2 (by decide +kernel) rfl rfl ?_
    refine zw_if_le (pc := 19) (off := 14) (tgt := 33) (by decide +kernel) (by decide) o3 (fun hc => ?_) (fun hc => ?_)
    · replace h := h.1 hc
      obtain ⟨o4, h⟩ := h
      refine zw_iload_n (pc := 33) (n := 3) (i := 3) 3 (by decide +kernel) rfl rfl ?_
      refine zw_if_le (pc := 34) (off := 14) (tgt := 48) (by decide +kernel) (by decide) o4 (fun hc => ?_) (fun hc => ?_)
      · replace h := h.1 hc
        exact zw_vret (pc := 48) (by decide +kernel) rfl (Nat.le_refl _) (Nat.le_refl _) ⟨_, rfl, rfl, h⟩
      · replace h := h.2 hc
        refine zw_aload_n (pc := 37) (n := 0) (i := 0) 0 (by decide +kernel) rfl rfl ?_
        refine zw_bipush (pc := 38) (n := 121) (by decide +kernel) (by decide +kernel) ?_
        refine zx_callV (pc := 40) (As := [.int (zJ 121)]) h zi_X4_putByte zii_X4_putByte zie_X4_putByte zl_4_72 (by decide +kernel) ⟨Nat.le_of_ble_eq_true rfl, Nat.le_of_ble_eq_true rfl⟩ rfl zc_193 (by decide) rfl rfl ⟨rfl, rfl⟩ ⟨Nat.zero_le _, Nat.zero_le _⟩ (zkv (fun μ5 h => ?_))
        refine zw_aload_n (pc := 43) (n := 0) (i := 0) 0 (by decide +kernel) rfl rfl ?_
        refine zw_iload_n (pc := 44) (n := 3) (i := 3) 3 (by decide +kernel) rfl rfl ?_
        refine zx_callV (pc := 45) (As := [.int (zJ v3)]) h zi_X4_putNumber zii_X4_putNumber zie_X4_putNumber zl_4_75 (by decide +kernel) ⟨Nat.le_of_ble_eq_true rfl, Nat.le_of_ble_eq_true rfl⟩ rfl zc_193 (by decide) rfl rfl ⟨rfl, rfl⟩ ⟨Nat.zero_le _, Nat.zero_le _⟩ (zkv (fun μ6 h => ?_))
        exact zw_vret (pc := 48) (by decide +kernel) rfl (Nat.le_refl _) (Nat.le_refl _) ⟨_, rfl, rfl, h⟩
    · replace h := h.2 hc
      refine zw_aload_n (pc := 22) (n := 0) (i := 0) 0 (by decide +kernel) rfl rfl ?_
      refine zw_bipush (pc := 23) (n := 120) (by decide +kernel) (by decide +kernel) ?_
      refine zx_callV (pc := 25) (As := [.int (zJ 120)]) h zi_X4_putByte zii_X4_putByte zie_X4_putByte zl_4_72 (by decide +kernel) ⟨Nat.le_of_ble_eq_true rfl, Nat.le_of_ble_eq_true rfl⟩ rfl zc_193 (by decide) rfl rfl ⟨rfl, rfl⟩ ⟨Nat.zero_le _, Nat.zero_le _⟩ (zkv (fun μ7 h => ?_))
      refine zw_aload_n (pc := 28) (n := 0) (i := 0) 0 (by decide +kernel) rfl rfl ?_
      refine zw_iload_n (pc := 29) (n := 2) (i := 2) 2 (by decide +kernel) rfl rfl ?_
      refine zx_callV (pc := 30) (As := [.int (zJ v2)]) h zi_X4_putNumber zii_X4_putNumber zie_X4_putNumber zl_4_75 (by decide +kernel) ⟨Nat.le_of_ble_eq_true rfl, Nat.le_of_ble_eq_true rfl⟩ rfl zc_193 (by decide) rfl rfl ⟨rfl, rfl⟩ ⟨Nat.zero_le _, Nat.zero_le _⟩ (zkv (fun μ8 h => ?_))
      obtain ⟨o9, h⟩ := h
      refine zw_iload_n (pc := 33) (n := 3) (i := 3) 3 (by decide +kernel) rfl rfl ?_
      refine zw_if_le (pc := 34) (off := 14) (tgt := 48) (by decide +kernel) (by decide) o9 (fun hc => ?_) (fun hc => ?_)
      · replace h := h.1 hc
        exact zw_vret (pc := 48) (by decide +kernel) rfl (Nat.le_refl _) (Nat.le_refl _) ⟨_, rfl, rfl, h⟩
      · replace h := h.2 hc
        refine zw_aload_n (pc := 37) (n := 0) (i := 0) 0 (by decide +kernel) rfl rfl ?_
        refine zw_bipush (pc := 38) (n := 121) (by decide +kernel) (by decide +kernel) ?_
        refine zx_callV (pc := 40) (As := [.int (zJ 121)]) h zi_X4_putByte zii_X4_putByte zie_X4_putByte zl_4_72 (by decide +kernel) ⟨Nat.le_of_ble_eq_true rfl, Nat.le_of_ble_eq_true rfl⟩ rfl zc_193 (by decide) rfl rfl ⟨rfl, rfl⟩ ⟨Nat.zero_le _, Nat.zero_le _⟩ (zkv (fun μ10 h => ?_))
        refine zw_aload_n (pc := 43) (n := 0) (i := 0) 0 (by decide +kernel) rfl rfl ?_
        refine zw_iload_n (pc := 44) (n := 3) (i := 3) 3 (by decide +kernel) rfl rfl ?_
        refine zx_callV (pc := 45) (As := [.int (zJ v3)]) h zi_X4_putNumber zii_X4_putNumber zie_X4_putNumber zl_4_75 (by decide +kernel) ⟨Nat.le_of_ble_eq_true rfl, Nat.le_of_ble_eq_true rfl⟩ rfl zc_193 (by decide) rfl rfl ⟨rfl, rfl⟩ ⟨Nat.zero_le _, Nat.zero_le _⟩ (zkv (fun μ11 h => ?_))
        exact zw_vret (pc := 48) (by decide +kernel) rfl (Nat.le_refl _) (Nat.le_refl _) ⟨_, rfl, rfl, h⟩
  · replace h := h.2 hc
    refine zw_aload_n (pc := 7) (n := 0) (i := 0) 0 (by decide +kernel) rfl rfl ?_
    refine zw_bipush (pc := 8) (n := 43) (by decide +kernel) (by decide +kernel) ?_
    refine zx_callV (pc := 10) (As := [.int (zJ 43)]) h zi_X4_putByte zii_X4_putByte zie_X4_putByte zl_4_72 (by decide +kernel) ⟨Nat.le_of_ble_eq_true rfl, Nat.le_of_ble_eq_true rfl⟩ rfl zc_193 (by decide) rfl rfl ⟨rfl, rfl⟩ ⟨Nat.zero_le _, Nat.zero_le _⟩ (zkv (fun μ12 h => ?_))
    refine zw_aload_n (pc := 13) (n := 0) (i := 0) 0 (by decide +kernel) rfl rfl ?_
    refine zw_iload_n (pc := 14) (n := 1) (i := 1) 1 (by decide +kernel) rfl rfl ?_
    refine zx_callV (pc := 15) (As := [.int (zJ v1)]) h zi_X4_putNumber zii_X4_putNumber zie_X4_putNumber zl_4_75 (by decide +kernel) ⟨Nat.le_of_ble_eq_true rfl, Nat.le_of_ble_eq_true rfl⟩ rfl zc_193 (by decide) rfl rfl ⟨rfl, rfl⟩ ⟨Nat.zero_le _, Nat.zero_le _⟩ (zkv (fun μ13 h => ?_))
    obtain ⟨o14, h⟩ := h
    refine zw_iload_n (pc := 18) (n := 2) (i := 2) 2 (by decide +kernel) rfl rfl ?_
    refine zw_if_le (pc := 19) (off := 14) (tgt := 33) (by decide +kernel) (by decide) o14 (fun hc => ?_) (fun hc => ?_)
    · replace h := h.1 hc
      obtain ⟨o15, h⟩ := h
      refine zw_iload_n (pc := 33) (n := 3) (i := 3) 3 (by decide +kernel) rfl rfl ?_
      refine zw_if_le (pc := 34) (off := 14) (tgt := 48) (by decide +kernel) (by decide) o15 (fun hc => ?_) (fun hc => ?_)
      · replace h := h.1 hc
        exact zw_vret (pc := 48) (by decide +kernel) rfl (Nat.le_refl _) (Nat.le_refl _) ⟨_, rfl, rfl, h⟩
      · replace h := h.2 hc
        refine zw_aload_n (pc := 37) (n := 0) (i := 0) 0 (by decide +kernel) rfl rfl ?_
        refine zw_bipush (pc := 38) (n := 121) (by decide +kernel) (by decide +kernel) ?_
        refine zx_callV (pc := 40) (As := [.int (zJ 121)]) h zi_X4_putByte zii_X4_putByte zie_X4_putByte zl_4_72 (by decide +kernel) ⟨Nat.le_of_ble_eq_true rfl, Nat.le_of_ble_eq_true rfl⟩ rfl zc_193 (by decide) rfl rfl ⟨rfl, rfl⟩ ⟨Nat.zero_le _, Nat.zero_le _⟩ (zkv (fun μ16 h => ?_))
        refine zw_aload_n (pc := 43) (n := 0) (i := 0) 0 (by decide +kernel) rfl rfl ?_
        refine zw_iload_n (pc := 44) (n := 3) (i := 3) 3 (by decide +kernel) rfl rfl ?_
        refine zx_callV (pc := 45) (As := [.int (zJ v3)]) h zi_X4_putNumber zii_X4_putNumber zie_X4_putNumber zl_4_75 (by decide +kernel) ⟨Nat.le_of_ble_eq_true rfl, Nat.le_of_ble_eq_true rfl⟩ rfl zc_193 (by decide) rfl rfl ⟨rfl, rfl⟩ ⟨Nat.zero_le _, Nat.zero_le _⟩ (zkv (fun μ17 h => ?_))
        exact zw_vret (pc := 48) (by decide +kernel) rfl (Nat.le_refl _) (Nat.le_refl _) ⟨_, rfl, rfl, h⟩
    · replace h := h.2 hc
      refine zw_aload_n (pc := 22) (n := 0) (i := 0) 0 (by decide +kernel) rfl rfl ?_
      refine zw_bipush (pc := 23) (n := 120) (by decide +kernel) (by decide +kernel) ?_
      refine zx_callV (pc := 25) (As := [.int (zJ 120)]) h zi_X4_putByte zii_X4_putByte zie_X4_putByte zl_4_72 (by decide +kernel) ⟨Nat.le_of_ble_eq_true rfl, Nat.le_of_ble_eq_true rfl⟩ rfl zc_193 (by decide) rfl rfl ⟨rfl, rfl⟩ ⟨Nat.zero_le _, Nat.zero_le _⟩ (zkv (fun μ18 h => ?_))
      refine zw_aload_n (pc := 28) (n := 0) (i := 0) 0 (by decide +kernel) rfl rfl ?_
      refine zw_iload_n (pc := 29) (n := 2) (i := 2) 2 (by decide +kernel) rfl rfl ?_
      refine zx_callV (pc := 30) (As := [.int (zJ v2)]) h zi_X4_putNumber zii_X4_putNumber zie_X4_putNumber zl_4_75 (by decide +kernel) ⟨Nat.le_of_ble_eq_true rfl, Nat.le_of_ble_eq_true rfl⟩ rfl zc_193 (by decide) rfl rfl ⟨rfl, rfl⟩ ⟨Nat.zero_le _, Nat.zero_le _⟩ (zkv (fun μ19 h => ?_))
      obtain ⟨o20, h⟩ := h
      refine zw_iload_n (pc := 33) (n := 3) (i := 3) 3 (by decide +kernel) rfl rfl ?_
      refine zw_if_le (pc := 34) (off := 14) (tgt := 48) (by decide +kernel) (by decide) o20 (fun hc => ?_) (fun hc => ?_)
      · replace h := h.1 hc
        exact zw_vret (pc := 48) (by decide +kernel) rfl (Nat.le_refl _) (Nat.le_refl _) ⟨_, rfl, rfl, h⟩
      · replace h := h.2 hc
        refine zw_aload_n (pc := 37) (n := 0) (i := 0) 0 (by decide +kernel) rfl rfl ?_
        refine zw_bipush (pc := 38) (n := 121) (by decide +kernel) (by decide +kernel) ?_
        refine zx_callV (pc := 40) (As := [.int (zJ 121)]) h zi_X4_putByte zii_X4_putByte zie_X4_putByte zl_4_72 (by decide +kernel) ⟨Nat.le_of_ble_eq_true rfl, Nat.le_of_ble_eq_true rfl⟩ rfl zc_193 (by decide) rfl rfl ⟨rfl, rfl⟩ ⟨Nat.zero_le _, Nat.zero_le _⟩ (zkv (fun μ21 h => ?_))
        refine zw_aload_n (pc := 43) (n := 0) (i := 0) 0 (by decide +kernel) rfl rfl ?_
        refine zw_iload_n (pc := 44) (n := 3) (i := 3) 3 (by decide +kernel) rfl rfl ?_
        refine zx_callV (pc := 45) (As := [.int (zJ v3)]) h zi_X4_putNumber zii_X4_putNumber zie_X4_putNumber zl_4_75 (by decide +kernel) ⟨Nat.le_of_ble_eq_true rfl, Nat.le_of_ble_eq_true rfl⟩ rfl zc_193 (by decide) rfl rfl ⟨rfl, rfl⟩ ⟨Nat.zero_le _, Nat.zero_le _⟩ (zkv (fun μ22 h => ?_))
        exact zw_vret (pc := 48) (by decide +kernel) rfl (Nat.le_refl _) (Nat.le_refl _) ⟨_, rfl, rfl, h⟩
theorem sg_X4_putByte {g : zG} {φ : zMu → Prop} {v1 : Int} {μ : zMu}
    (h : (zR (μ 193 2)) ∧ ((648 ≤ (μ 193 2) → φ μ) ∧ ((μ 193 2) < 648 → (0 ≤ (μ 193 2) ∧ (μ 193 2) < 648) ∧ φ (zup (zup μ 196 (Int.toNat (μ 193 2)) v1) 193 2 (((zup μ 196 (Int.toNat (μ 193 2)) v1) 193 2) + 1))))) : zOv g zm_X4_putByte [.ref 193, .int (zJ v1)] μ φ := by
  refine zok_of (by decide +kernel) rfl ?_
  show zWP g zm_X4_putByte (zmo g zm_X4_putByte (zΦv φ)) 0 [(0, .ref 193), (1, .int (zJ v1))] [] 0 0 (zw μ)
  obtain ⟨o1, h⟩ := h
  refine zw_aload_n (pc := 0) (n := 0) (i := 0) 0 (by decide +kernel) rfl rfl ?_
  refine zx_getI (pc := 1) zf_4_65 (by decide +kernel) rfl zc_193 ?_
  refine zw_sipush (pc := 4) (n := 648) (by decide +kernel) (by decide +kernel) ?_
  refine zw_icmp_ge (pc := 7) (off := 23) (tgt := 30) (by decide +kernel) (by decide) o1 ⟨by decide, by decide⟩ (fun hc => ?_) (fun hc => ?_)
  · replace h := h.1 hc
    exact zw_vret (pc := 30) (by decide +kernel) rfl (Nat.le_refl _) (Nat.le_refl _) ⟨_, rfl, rfl, h⟩
  · replace h := h.2 hc
    obtain ⟨o2, h⟩ := h
    refine zw_aload_n (pc := 10) (n := 0) (i := 0) 0 (by decide +kernel) rfl rfl ?_
    refine zx_getR (pc := 11) (o := 3) (r := 196) zf_4_18 (by decide +kernel) rfl zc_193 rfl (by decide) rfl ?_
    refine zw_aload_n (pc := 14) (n := 0) (i := 0) 0 (by decide +kernel) rfl rfl ?_
    refine zx_getI (pc := 15) zf_4_65 (by decide +kernel) rfl zc_193 ?_
    refine zw_iload_n (pc := 18) (n := 1) (i := 1) 1 (by decide +kernel) rfl rfl ?_
    refine zx_iastore (pc := 19) (by decide +kernel) ⟨648, zc_196, o2.1, o2.2⟩ ?_
    refine zw_aload_n (pc := 20) (n := 0) (i := 0) 0 (by decide +kernel) rfl rfl ?_
    refine zw_dup (pc := 21) (by decide +kernel) rfl ?_
    refine zx_getI (pc := 22) zf_4_65 (by decide +kernel) rfl zc_193 ?_
    refine zw_iconst (pc := 25) (n := 1) (by decide +kernel) ?_
    refine zw_iadd (pc := 26) (by decide +kernel) ?_
    refine zx_putI (pc := 27) zf_4_65 (by decide +kernel) rfl zc_193 ?_
    exact zw_vret (pc := 30) (by decide +kernel) rfl (Nat.le_refl _) (Nat.le_refl _) ⟨_, rfl, rfl, h⟩
theorem sg_X4_putNumber {g : zG} {φ : zMu → Prop} {v1 : Int} {μ : zMu}
    (h : (zR v1) ∧ ((v1 < 100 → ((v1 < 10 → zOv g zm_X4_putByte [.ref 193, .int (zJ (48 + (v1.tmod 10)))] μ (fun μ2 => φ μ2)) ∧ (10 ≤ v1 → (zR (v1.tdiv 10)) ∧ zOv g zm_X4_putByte [.ref 193, .int (zJ (48 + ((v1.tdiv 10).tmod 10)))] μ (fun μ4 => zOv g zm_X4_putByte [.ref 193, .int (zJ (48 + (v1.tmod 10)))] μ4 (fun μ5 => φ μ5))))) ∧ (100 ≤ v1 → zOv g zm_X4_putByte [.ref 193, .int (zJ (48 + (v1.tdiv 100)))] μ (fun μ6 => ((v1 < 10 → zOv g zm_X4_putByte [.ref 193, .int (zJ (48 + (v1.tmod 10)))] μ6 (fun μ7 => φ μ7)) ∧ (10 ≤ v1 → (zR (v1.tdiv 10)) ∧ zOv g zm_X4_putByte [.ref 193, .int (zJ (48 + ((v1.tdiv 10).tmod 10)))] μ6 (fun μ9 => zOv g zm_X4_putByte [.ref 193, .int (zJ (48 + (v1.tmod 10)))] μ9 (fun μ10 => φ μ10)))))))) : zOv g zm_X4_putNumber [.ref 193, .int (zJ v1)] μ φ := by
  refine zok_of (by decide +kernel) rfl ?_
  show zWP g zm_X4_putNumber (zmo g zm_X4_putNumber (zΦv φ)) 0 [(0, .ref 193), (1, .int (zJ v1))] [] 0 0 (zw μ)
  obtain ⟨o1, h⟩ := h
  refine zw_iload_n (pc := 0) (n := 1) (i := 1) 1 (by decide +kernel) rfl rfl ?_
  refine zw_bipush (pc := 1) (n := 100) (by decide +kernel) (by decide +kernel) ?_
  refine zw_icmp_lt (pc := 3) (off := 14) (tgt := 17) (by decide +kernel) (by decide) o1 ⟨by decide, by decide⟩ (fun hc => ?_) (fun hc => ?_)
  · replace h := h.1 hc
    refine zw_iload_n (pc := 17) (n := 1) (i := 1) 1 (by decide +kernel) rfl rfl ?_
    refine zw_bipush (pc := 18) (n := 10) (by decide +kernel) (by decide +kernel) ?_
    refine zw_icmp_lt (pc := 20) (off := 17) (tgt := 37) (by decide +kernel) (by decide) o1 ⟨by decide, by decide⟩ (fun hc => ?_) (fun hc => ?_)
    · replace h := h.1 hc
      refine zw_aload_n (pc := 37) (n := 0) (i := 0) 0 (by decide +kernel) rfl rfl ?_
      refine zw_bipush (pc := 38) (n := 48) (by decide +kernel) (by decide +kernel) ?_
      refine zw_iload_n (pc := 40) (n := 1) (i := 1) 1 (by decide +kernel) rfl rfl ?_
      refine zw_bipush (pc := 41) (n := 10) (by decide +kernel) (by decide +kernel) ?_
      refine zw_irem (pc := 43) (by decide +kernel) o1 ⟨by decide, by decide⟩ (by decide) ?_
      refine zw_iadd (pc := 44) (by decide +kernel) ?_
      refine zx_callV (pc := 45) (As := [.int (zJ (48 + (v1.tmod 10)))]) h zi_X4_putByte zii_X4_putByte zie_X4_putByte zl_4_72 (by decide +kernel) ⟨Nat.le_of_ble_eq_true rfl, Nat.le_of_ble_eq_true rfl⟩ rfl zc_193 (by decide) rfl rfl ⟨rfl, rfl⟩ ⟨Nat.zero_le _, Nat.zero_le _⟩ (zkv (fun μ2 h => ?_))
      exact zw_vret (pc := 48) (by decide +kernel) rfl (Nat.le_refl _) (Nat.le_refl _) ⟨_, rfl, rfl, h⟩
    · replace h := h.2 hc
      obtain ⟨o3, h⟩ := h
      refine zw_aload_n (pc := 23) (n := 0) (i := 0) 0 (by decide +kernel) rfl rfl ?_
      refine zw_bipush (pc := 24) (n := 48) (by decide +kernel) (by decide +kernel) ?_
      refine zw_iload_n (pc := 26) (n := 1) (i := 1) 1 (by decide +kernel) rfl rfl ?_
      refine zw_bipush (pc := 27) (n := 10) (by decide +kernel) (by decide +kernel) ?_
      refine zw_idiv (pc := 29) (by decide +kernel) o1 ⟨by decide, by decide⟩ (by decide) ?_
      refine zw_bipush (pc := 30) (n := 10) (by decide +kernel) (by decide +kernel) ?_
      refine zw_irem (pc := 32) (by decide +kernel) o3 ⟨by decide, by decide⟩ (by decide) ?_
      refine zw_iadd (pc := 33) (by decide +kernel) ?_
      refine zx_callV (pc := 34) (As := [.int (zJ (48 + ((v1.tdiv 10).tmod 10)))]) h zi_X4_putByte zii_X4_putByte zie_X4_putByte zl_4_72 (by decide +kernel) ⟨Nat.le_of_ble_eq_true rfl, Nat.le_of_ble_eq_true rfl⟩ rfl zc_193 (by decide) rfl rfl ⟨rfl, rfl⟩ ⟨Nat.zero_le _, Nat.zero_le _⟩ (zkv (fun μ4 h => ?_))
      refine zw_aload_n (pc := 37) (n := 0) (i := 0) 0 (by decide +kernel) rfl rfl ?_
      refine zw_bipush (pc := 38) (n := 48) (by decide +kernel) (by decide +kernel) ?_
      refine zw_iload_n (pc := 40) (n := 1) (i := 1) 1 (by decide +kernel) rfl rfl ?_
      refine zw_bipush (pc := 41) (n := 10) (by decide +kernel) (by decide +kernel) ?_
      refine zw_irem (pc := 43) (by decide +kernel) o1 ⟨by decide, by decide⟩ (by decide) ?_
      refine zw_iadd (pc := 44) (by decide +kernel) ?_
      refine zx_callV (pc := 45) (As := [.int (zJ (48 + (v1.tmod 10)))]) h zi_X4_putByte zii_X4_putByte zie_X4_putByte zl_4_72 (by decide +kernel) ⟨Nat.le_of_ble_eq_true rfl, Nat.le_of_ble_eq_true rfl⟩ rfl zc_193 (by decide) rfl rfl ⟨rfl, rfl⟩ ⟨Nat.zero_le _, Nat.zero_le _⟩ (zkv (fun μ5 h => ?_))
      exact zw_vret (pc := 48) (by decide +kernel) rfl (Nat.le_refl _) (Nat.le_refl _) ⟨_, rfl, rfl, h⟩
  · replace h := h.2 hc
    refine zw_aload_n (pc := 6) (n := 0) (i := 0) 0 (by decide +kernel) rfl rfl ?_
    refine zw_bipush (pc := 7) (n := 48) (by decide +kernel) (by decide +kernel) ?_
    refine zw_iload_n (pc := 9) (n := 1) (i := 1) 1 (by decide +kernel) rfl rfl ?_
    refine zw_bipush (pc := 10) (n := 100) (by decide +kernel) (by decide +kernel) ?_
    refine zw_idiv (pc := 12) (by decide +kernel) o1 ⟨by decide, by decide⟩ (by decide) ?_
    refine zw_iadd (pc := 13) (by decide +kernel) ?_
    refine zx_callV (pc := 14) (As := [.int (zJ (48 + (v1.tdiv 100)))]) h zi_X4_putByte zii_X4_putByte zie_X4_putByte zl_4_72 (by decide +kernel) ⟨Nat.le_of_ble_eq_true rfl, Nat.le_of_ble_eq_true rfl⟩ rfl zc_193 (by decide) rfl rfl ⟨rfl, rfl⟩ ⟨Nat.zero_le _, Nat.zero_le _⟩ (zkv (fun μ6 h => ?_))
    refine zw_iload_n (pc := 17) (n := 1) (i := 1) 1 (by decide +kernel) rfl rfl ?_
    refine zw_bipush (pc := 18) (n := 10) (by decide +kernel) (by decide +kernel) ?_
    refine zw_icmp_lt (pc := 20) (off := 17) (tgt := 37) (by decide +kernel) (by decide) o1 ⟨by decide, by decide⟩ (fun hc => ?_) (fun hc => ?_)
    · replace h := h.1 hc
      refine zw_aload_n (pc := 37) (n := 0) (i := 0) 0 (by decide +kernel) rfl rfl ?_
      refine zw_bipush (pc := 38) (n := 48) (by decide +kernel) (by decide +kernel) ?_
      refine zw_iload_n (pc := 40) (n := 1) (i := 1) 1 (by decide +kernel) rfl rfl ?_
      refine zw_bipush (pc := 41) (n := 10) (by decide +kernel) (by decide +kernel) ?_
      refine zw_irem (pc := 43) (by decide +kernel) o1 ⟨by decide, by decide⟩ (by decide) ?_
      refine zw_iadd (pc := 44) (by decide +kernel) ?_
      refine zx_callV (pc := 45) (As := [.int (zJ (48 + (v1.tmod 10)))]) h zi_X4_putByte zii_X4_putByte zie_X4_putByte zl_4_72 (by decide +kernel) ⟨Nat.le_of_ble_eq_true rfl, Nat.le_of_ble_eq_true rfl⟩ rfl zc_193 (by decide) rfl rfl ⟨rfl, rfl⟩ ⟨Nat.zero_le _, Nat.zero_le _⟩ (zkv (fun μ7 h => ?_))
      exact zw_vret (pc := 48) (by decide +kernel) rfl (Nat.le_refl _) (Nat.le_refl _) ⟨_, rfl, rfl, h⟩
    · replace h := h.2 hc
      obtain ⟨o8, h⟩ := h
      refine zw_aload_n (pc := 23) (n := 0) (i := 0) 0 (by decide +kernel) rfl rfl ?_
      refine zw_bipush (pc := 24) (n := 48) (by decide +kernel) (by decide +kernel) ?_
      refine zw_iload_n (pc := 26) (n := 1) (i := 1) 1 (by decide +kernel) rfl rfl ?_
      refine zw_bipush (pc := 27) (n := 10) (by decide +kernel) (by decide +kernel) ?_
      refine zw_idiv (pc := 29) (by decide +kernel) o1 ⟨by decide, by decide⟩ (by decide) ?_
      refine zw_bipush (pc := 30) (n := 10) (by decide +kernel) (by decide +kernel) ?_
      refine zw_irem (pc := 32) (by decide +kernel) o8 ⟨by decide, by decide⟩ (by decide) ?_
      refine zw_iadd (pc := 33) (by decide +kernel) ?_
      refine zx_callV (pc := 34) (As := [.int (zJ (48 + ((v1.tdiv 10).tmod 10)))]) h zi_X4_putByte zii_X4_putByte zie_X4_putByte zl_4_72 (by decide +kernel) ⟨Nat.le_of_ble_eq_true rfl, Nat.le_of_ble_eq_true rfl⟩ rfl zc_193 (by decide) rfl rfl ⟨rfl, rfl⟩ ⟨Nat.zero_le _, Nat.zero_le _⟩ (zkv (fun μ9 h => ?_))
      refine zw_aload_n (pc := 37) (n := 0) (i := 0) 0 (by decide +kernel) rfl rfl ?_
      refine zw_bipush (pc := 38) (n := 48) (by decide +kernel) (by decide +kernel) ?_
      refine zw_iload_n (pc := 40) (n := 1) (i := 1) 1 (by decide +kernel) rfl rfl ?_
      refine zw_bipush (pc := 41) (n := 10) (by decide +kernel) (by decide +kernel) ?_
      refine zw_irem (pc := 43) (by decide +kernel) o1 ⟨by decide, by decide⟩ (by decide) ?_
      refine zw_iadd (pc := 44) (by decide +kernel) ?_
      refine zx_callV (pc := 45) (As := [.int (zJ (48 + (v1.tmod 10)))]) h zi_X4_putByte zii_X4_putByte zie_X4_putByte zl_4_72 (by decide +kernel) ⟨Nat.le_of_ble_eq_true rfl, Nat.le_of_ble_eq_true rfl⟩ rfl zc_193 (by decide) rfl rfl ⟨rfl, rfl⟩ ⟨Nat.zero_le _, Nat.zero_le _⟩ (zkv (fun μ10 h => ?_))
      exact zw_vret (pc := 48) (by decide +kernel) rfl (Nat.le_refl _) (Nat.le_refl _) ⟨_, rfl, rfl, h⟩
theorem sg_X9_prepare {g : zG} {φ : zMu → Prop} {v1 : Nat} {v2 : Nat} {v3 : Int} {v4 : Int} {μ : zMu} (h_v1 : zS v1 6 3) (h_v2 : zS v2 6 3)
    (h : (zR ((zup (zup μ 74 4 (μ v1 1)) 74 5 ((zup μ 74 4 (μ v1 1)) v2 1)) 74 4)) ∧ (zR ((zup (zup μ 74 4 (μ v1 1)) 74 5 ((zup μ 74 4 (μ v1 1)) v2 1)) 74 5)) ∧ (zR ((zup (zup (zup μ 74 4 (μ v1 1)) 74 5 ((zup μ 74 4 (μ v1 1)) v2 1)) 74 6 (v3 * ((min ((zup (zup μ 74 4 (μ v1 1)) 74 5 ((zup μ 74 4 (μ v1 1)) v2 1)) 74 4) 0) + (min ((zup (zup μ 74 4 (μ v1 1)) 74 5 ((zup μ 74 4 (μ v1 1)) v2 1)) 74 5) 0)))) v1 2)) ∧ (zR ((zup (zup (zup μ 74 4 (μ v1 1)) 74 5 ((zup μ 74 4 (μ v1 1)) v2 1)) 74 6 (v3 * ((min ((zup (zup μ 74 4 (μ v1 1)) 74 5 ((zup μ 74 4 (μ v1 1)) v2 1)) 74 4) 0) + (min ((zup (zup μ 74 4 (μ v1 1)) 74 5 ((zup μ 74 4 (μ v1 1)) v2 1)) 74 5) 0)))) v2 2)) ∧ zOv g zm_X9_fillPowers [.ref 74, .ref (v1 + 1), .ref 75, .int (zJ v3)] (zup (zup (zup (zup (zup μ 74 4 (μ v1 1)) 74 5 ((zup μ 74 4 (μ v1 1)) v2 1)) 74 6 (v3 * ((min ((zup (zup μ 74 4 (μ v1 1)) 74 5 ((zup μ 74 4 (μ v1 1)) v2 1)) 74 4) 0) + (min ((zup (zup μ 74 4 (μ v1 1)) 74 5 ((zup μ 74 4 (μ v1 1)) v2 1)) 74 5) 0)))) 74 7 (min ((zup (zup (zup μ 74 4 (μ v1 1)) 74 5 ((zup μ 74 4 (μ v1 1)) v2 1)) 74 6 (v3 * ((min ((zup (zup μ 74 4 (μ v1 1)) 74 5 ((zup μ 74 4 (μ v1 1)) v2 1)) 74 4) 0) + (min ((zup (zup μ 74 4 (μ v1 1)) 74 5 ((zup μ 74 4 (μ v1 1)) v2 1)) 74 5) 0)))) v1 2) ((zup (zup (zup μ 74 4 (μ v1 1)) 74 5 ((zup μ 74 4 (μ v1 1)) v2 1)) 74 6 (v3 * ((min ((zup (zup μ 74 4 (μ v1 1)) 74 5 ((zup μ 74 4 (μ v1 1)) v2 1)) 74 4) 0) + (min ((zup (zup μ 74 4 (μ v1 1)) 74 5 ((zup μ 74 4 (μ v1 1)) v2 1)) 74 5) 0)))) v2 2))) 74 8 v4) (fun μ6 => zOv g zm_X9_fillPowers [.ref 74, .ref (v2 + 1), .ref 85, .int (zJ v3)] μ6 (fun μ8 => φ μ8))) : zOv g zm_X9_prepare [.ref 74, .ref v1, .ref v2, .int (zJ v3), .int (zJ v4)] μ φ := by
  refine zok_of (by decide +kernel) rfl ?_
  show zWP g zm_X9_prepare (zmo g zm_X9_prepare (zΦv φ)) 0 [(0, .ref 74), (1, .ref v1), (2, .ref v2), (3, .int (zJ v3)), (4, .int (zJ v4))] [] 0 0 (zw μ)
  obtain ⟨o1, o2, o3, o4, h⟩ := h
  refine zw_aload_n (pc := 0) (n := 0) (i := 0) 0 (by decide +kernel) rfl rfl ?_
  refine zw_aload_n (pc := 1) (n := 1) (i := 1) 1 (by decide +kernel) rfl rfl ?_
  refine zx_getI (pc := 2) zf_9_26 (by decide +kernel) rfl h_v1 ?_
  refine zx_putI (pc := 5) zf_9_32 (by decide +kernel) rfl zc_74 ?_
  refine zw_aload_n (pc := 8) (n := 0) (i := 0) 0 (by decide +kernel) rfl rfl ?_
  refine zw_aload_n (pc := 9) (n := 2) (i := 2) 2 (by decide +kernel) rfl rfl ?_
  refine zx_getI (pc := 10) zf_9_26 (by decide +kernel) rfl h_v2 ?_
  refine zx_putI (pc := 13) zf_9_35 (by decide +kernel) rfl zc_74 ?_
  refine zw_aload_n (pc := 16) (n := 0) (i := 0) 0 (by decide +kernel) rfl rfl ?_
  refine zw_iload_n (pc := 17) (n := 3) (i := 3) 3 (by decide +kernel) rfl rfl ?_
  refine zw_aload_n (pc := 18) (n := 0) (i := 0) 0 (by decide +kernel) rfl rfl ?_
  refine zx_getI (pc := 19) zf_9_32 (by decide +kernel) rfl zc_74 ?_
  refine zw_iconst (pc := 22) (n := 0) (by decide +kernel) ?_
  refine zw_min (pc := 23) zl_9_38 zb_minS zb_mathI zb_minC (by decide +kernel) ⟨Nat.le_of_ble_eq_true rfl, Nat.le_of_ble_eq_true rfl⟩ (Nat.zero_le _) (Nat.zero_le _) rfl o1 ⟨by decide, by decide⟩ ?_
  refine zw_aload_n (pc := 26) (n := 0) (i := 0) 0 (by decide +kernel) rfl rfl ?_
  refine zx_getI (pc := 27) zf_9_35 (by decide +kernel) rfl zc_74 ?_
  refine zw_iconst (pc := 30) (n := 0) (by decide +kernel) ?_
  refine zw_min (pc := 31) zl_9_38 zb_minS zb_mathI zb_minC (by decide +kernel) ⟨Nat.le_of_ble_eq_true rfl, Nat.le_of_ble_eq_true rfl⟩ (Nat.zero_le _) (Nat.zero_le _) rfl o2 ⟨by decide, by decide⟩ ?_
  refine zw_iadd (pc := 34) (by decide +kernel) ?_
  refine zw_imul (pc := 35) (by decide +kernel) ?_
  refine zx_putI (pc := 36) zf_9_44 (by decide +kernel) rfl zc_74 ?_
  refine zw_aload_n (pc := 39) (n := 0) (i := 0) 0 (by decide +kernel) rfl rfl ?_
  refine zw_aload_n (pc := 40) (n := 1) (i := 1) 1 (by decide +kernel) rfl rfl ?_
  refine zx_getI (pc := 41) zf_9_47 (by decide +kernel) rfl h_v1 ?_
  refine zw_aload_n (pc := 44) (n := 2) (i := 2) 2 (by decide +kernel) rfl rfl ?_
  refine zx_getI (pc := 45) zf_9_47 (by decide +kernel) rfl h_v2 ?_
  refine zw_min (pc := 48) zl_9_38 zb_minS zb_mathI zb_minC (by decide +kernel) ⟨Nat.le_of_ble_eq_true rfl, Nat.le_of_ble_eq_true rfl⟩ (Nat.zero_le _) (Nat.zero_le _) rfl o3 o4 ?_
  refine zx_putI (pc := 51) zf_9_50 (by decide +kernel) rfl zc_74 ?_
  refine zw_aload_n (pc := 54) (n := 0) (i := 0) 0 (by decide +kernel) rfl rfl ?_
  refine zw_iload (pc := 55) (i := 4) 4 (by decide +kernel) rfl ?_
  refine zx_putI (pc := 57) zf_9_51 (by decide +kernel) rfl zc_74 ?_
  refine zw_aload_n (pc := 60) (n := 0) (i := 0) 0 (by decide +kernel) rfl rfl ?_
  refine zw_aload_n (pc := 61) (n := 1) (i := 1) 1 (by decide +kernel) rfl rfl ?_
  have q5 : zS (v1 + 1) 12 80 := zq 0 h_v1 rfl
  refine zx_getR (pc := 62) (o := 1) (r := (v1 + 1)) zf_9_54 (by decide +kernel) rfl h_v1 rfl (by decide) rfl ?_
  refine zw_aload_n (pc := 65) (n := 0) (i := 0) 0 (by decide +kernel) rfl rfl ?_
  refine zx_getR (pc := 66) (o := 1) (r := 75) zf_9_11 (by decide +kernel) rfl zc_74 rfl (by decide) rfl ?_
  refine zw_iload_n (pc := 69) (n := 3) (i := 3) 3 (by decide +kernel) rfl rfl ?_
  refine zx_callV (pc := 70) (As := [.ref (v1 + 1), .ref 75, .int (zJ v3)]) h zi_X9_fillPowers zii_X9_fillPowers zie_X9_fillPowers zl_9_57 (by decide +kernel) ⟨Nat.le_of_ble_eq_true rfl, Nat.le_of_ble_eq_true rfl⟩ rfl zc_74 (by decide) rfl rfl ⟨rfl, rfl⟩ ⟨Nat.zero_le _, Nat.zero_le _⟩ (zkv (fun μ6 h => ?_))
  refine zw_aload_n (pc := 73) (n := 0) (i := 0) 0 (by decide +kernel) rfl rfl ?_
  refine zw_aload_n (pc := 74) (n := 2) (i := 2) 2 (by decide +kernel) rfl rfl ?_
  have q7 : zS (v2 + 1) 12 80 := zq 0 h_v2 rfl
  refine zx_getR (pc := 75) (o := 1) (r := (v2 + 1)) zf_9_54 (by decide +kernel) rfl h_v2 rfl (by decide) rfl ?_
  refine zw_aload_n (pc := 78) (n := 0) (i := 0) 0 (by decide +kernel) rfl rfl ?_
  refine zx_getR (pc := 79) (o := 11) (r := 85) zf_9_16 (by decide +kernel) rfl zc_74 rfl (by decide) rfl ?_
  refine zw_iload_n (pc := 82) (n := 3) (i := 3) 3 (by decide +kernel) rfl rfl ?_
  refine zx_callV (pc := 83) (As := [.ref (v2 + 1), .ref 85, .int (zJ v3)]) h zi_X9_fillPowers zii_X9_fillPowers zie_X9_fillPowers zl_9_57 (by decide +kernel) ⟨Nat.le_of_ble_eq_true rfl, Nat.le_of_ble_eq_true rfl⟩ rfl zc_74 (by decide) rfl rfl ⟨rfl, rfl⟩ ⟨Nat.zero_le _, Nat.zero_le _⟩ (zkv (fun μ8 h => ?_))
  exact zw_vret (pc := 86) (by decide +kernel) rfl (Nat.le_refl _) (Nat.le_refl _) ⟨_, rfl, rfl, h⟩
abbrev at_X9_fillPowers_16 (g : zG) (φ : zMu → Prop) (v1 : Nat) (v2 : Nat) (v3 : Int) (v4 : Int) (μ : zMu) : Prop := zWP g zm_X9_fillPowers (zmo g zm_X9_fillPowers (zΦv φ)) 16 [(0, .ref 74), (1, .ref v1), (2, .ref v2), (3, .int (zJ v3)), (4, .int (zJ v4))] [] 0 0 (zw μ)
theorem sg_X9_fillPowers {g : zG} {φ : zMu → Prop} {v1 : Nat} {v2 : Nat} {v3 : Int} {μ : zMu}
    (h : (zAx 15 v2 0) ∧ zOv g zm_J7_fill_53178 [.ref (v2 + 1 + 0), .int (zJ 0)] μ (fun μ3 => (zIx (v2 + 1 + 0) 0) ∧ at_X9_fillPowers_16 g φ v1 v2 v3 1 (zup μ3 (v2 + 1 + 0) 0 1))) : zOv g zm_X9_fillPowers [.ref 74, .ref v1, .ref v2, .int (zJ v3)] μ φ := by
  refine zok_of (by decide +kernel) rfl ?_
  show zWP g zm_X9_fillPowers (zmo g zm_X9_fillPowers (zΦv φ)) 0 [(0, .ref 74), (1, .ref v1), (2, .ref v2), (3, .int (zJ v3))] [] 0 0 (zw μ)
  obtain ⟨o1, h⟩ := h
  refine zw_aload_n (pc := 0) (n := 2) (i := 2) 2 (by decide +kernel) rfl rfl ?_
  refine zw_iconst (pc := 1) (n := 0) (by decide +kernel) ?_
  refine zx_aaload (pc := 2) (k := 15) (r := (v2 + 1 + 0)) (by decide +kernel) (by decide) o1 (by show v2 + 1 + 1 * 0 = (v2 + 1 + 0); omega) ?_
  refine zw_iconst (pc := 3) (n := 0) (by decide +kernel) ?_
  refine zx_callS (pc := 4) (As := [.ref (v2 + 1 + 0), .int (zJ 0)]) h zi_J7_fill_53178 zis_J7_fill_53178 zl_9_61 (by decide +kernel) ⟨Nat.le_of_ble_eq_true rfl, Nat.le_of_ble_eq_true rfl⟩ rfl rfl ⟨rfl, rfl⟩ ⟨Nat.zero_le _, Nat.zero_le _⟩ (zkv (fun μ3 h => ?_))
  obtain ⟨o5, h⟩ := h
  refine zw_aload_n (pc := 7) (n := 2) (i := 2) 2 (by decide +kernel) rfl rfl ?_
  refine zw_iconst (pc := 8) (n := 0) (by decide +kernel) ?_
  refine zx_aaload (pc := 9) (k := 15) (r := (v2 + 1 + 0)) (by decide +kernel) (by decide) o1 (by show v2 + 1 + 1 * 0 = (v2 + 1 + 0); omega) ?_
  refine zw_iconst (pc := 10) (n := 0) (by decide +kernel) ?_
  refine zw_iconst (pc := 11) (n := 1) (by decide +kernel) ?_
  refine zx_iastore (pc := 12) (by decide +kernel) o5 ?_
  refine zw_iconst (pc := 13) (n := 1) (by decide +kernel) ?_
  refine zw_istore (pc := 14) (i := 4) (lv' := [(0, .ref 74), (1, .ref v1), (2, .ref v2), (3, .int (zJ v3)), (4, .int (zJ 1))]) (by decide +kernel) (Nat.le_of_ble_eq_true rfl) rfl ?_
  exact h
theorem sg_X9_fillPowers_16 {g : zG} {φ : zMu → Prop} {v1 : Nat} {v2 : Nat} {v3 : Int} {v4 : Int} {μ : zMu}
    (h : (zR v4) ∧ (zR v3) ∧ ((v3 < v4 → φ μ) ∧ (v4 ≤ v3 → (zAx 15 v2 (v4 - 1)) ∧ (zAx 15 v2 v4) ∧ zOv g zm_X10_multiply [.ref v1, .ref (v2 + 1 + (Int.toNat (v4 - 1))), .ref (v2 + 1 + v4.toNat), .int (zJ (μ 74 7)), .int (zJ (μ 74 8))] μ (fun μ7 => at_X9_fillPowers_16 g φ v1 v2 v3 (v4 + 1) μ7)))) : at_X9_fillPowers_16 g φ v1 v2 v3 v4 μ := by
  obtain ⟨o1, o2, h⟩ := h
  refine zw_iload (pc := 16) (i := 4) 4 (by decide +kernel) rfl ?_
  refine zw_iload_n (pc := 18) (n := 3) (i := 3) 3 (by decide +kernel) rfl rfl ?_
  refine zw_icmp_gt (pc := 19) (off := 31) (tgt := 50) (by decide +kernel) (by decide) o1 o2 (fun hc => ?_) (fun hc => ?_)
  · replace h := h.1 hc
    exact zw_vret (pc := 50) (by decide +kernel) rfl (Nat.le_refl _) (Nat.le_refl _) ⟨_, rfl, rfl, h⟩
  · replace h := h.2 hc
    obtain ⟨o3, o5, h⟩ := h
    refine zw_aload_n (pc := 22) (n := 1) (i := 1) 1 (by decide +kernel) rfl rfl ?_
    refine zw_aload_n (pc := 23) (n := 2) (i := 2) 2 (by decide +kernel) rfl rfl ?_
    refine zw_iload (pc := 24) (i := 4) 4 (by decide +kernel) rfl ?_
    refine zw_iconst (pc := 26) (n := 1) (by decide +kernel) ?_
    refine zw_isub (pc := 27) (by decide +kernel) ?_
    refine zx_aaload (pc := 28) (k := 15) (r := (v2 + 1 + (Int.toNat (v4 - 1)))) (by decide +kernel) (by decide) o3 (by show v2 + 1 + 1 * (Int.toNat (v4 - 1)) = (v2 + 1 + (Int.toNat (v4 - 1))); omega) ?_
    refine zw_aload_n (pc := 29) (n := 2) (i := 2) 2 (by decide +kernel) rfl rfl ?_
    refine zw_iload (pc := 30) (i := 4) 4 (by decide +kernel) rfl ?_
    refine zx_aaload (pc := 32) (k := 15) (r := (v2 + 1 + v4.toNat)) (by decide +kernel) (by decide) o5 (by show v2 + 1 + 1 * v4.toNat = (v2 + 1 + v4.toNat); omega) ?_
    refine zw_aload_n (pc := 33) (n := 0) (i := 0) 0 (by decide +kernel) rfl rfl ?_
    refine zx_getI (pc := 34) zf_9_50 (by decide +kernel) rfl zc_74 ?_
    refine zw_aload_n (pc := 37) (n := 0) (i := 0) 0 (by decide +kernel) rfl rfl ?_
    refine zx_getI (pc := 38) zf_9_51 (by decide +kernel) rfl zc_74 ?_
    refine zx_callSN (pc := 41) (As := [.ref v1, .ref (v2 + 1 + (Int.toNat (v4 - 1))), .ref (v2 + 1 + v4.toNat), .int (zJ (μ 74 7)), .int (zJ (μ 74 8))]) h zi_X10_multiply zis_X10_multiply zn_9_67 (by decide +kernel) ⟨Nat.le_of_ble_eq_true rfl, Nat.le_of_ble_eq_true rfl⟩ rfl rfl ⟨rfl, rfl⟩ ⟨Nat.zero_le _, Nat.zero_le _⟩ (zkv (fun μ7 h => ?_))
    refine zw_iinc (pc := 44) (i := 4) (n := 1) (lv' := [(0, .ref 74), (1, .ref v1), (2, .ref v2), (3, .int (zJ v3)), (4, .int (zJ (v4 + 1)))]) 4 (by decide +kernel) rfl rfl (Nat.le_of_ble_eq_true rfl) rfl ?_
    refine zw_goto (pc := 47) (off := (-31)) (tgt := 16) (by decide +kernel) (by decide) ?_
    exact h
theorem sg_X9_multiplyTerm {g : zG} {φ : Int → zMu → Prop} {v1 : Int} {v2 : Int} {μ : zMu}
    (h : (0 ≤ v1 ∧ v1 < 9) ∧ (0 ≤ v2 ∧ v2 < 9) ∧ zOv g zm_X10_multiply [.ref (76 + v1.toNat), .ref (86 + v2.toNat), .ref 95, .int (zJ ((μ 74 7) - (((v1 * (μ 74 4)) + (v2 * (μ 74 5))) - (μ 74 6)))), .int (zJ (μ 74 8))] μ (fun μ5 => φ (((v1 * (μ 74 4)) + (v2 * (μ 74 5))) - (μ 74 6)) μ5)) : zOi g zm_X9_multiplyTerm [.ref 74, .int (zJ v1), .int (zJ v2)] μ φ := by
  refine zok_of (by decide +kernel) rfl ?_
  show zWP g zm_X9_multiplyTerm (zmo g zm_X9_multiplyTerm (zΦi φ)) 0 [(0, .ref 74), (1, .int (zJ v1)), (2, .int (zJ v2))] [] 0 0 (zw μ)
  obtain ⟨o1, o3, h⟩ := h
  refine zw_iload_n (pc := 0) (n := 1) (i := 1) 1 (by decide +kernel) rfl rfl ?_
  refine zw_aload_n (pc := 1) (n := 0) (i := 0) 0 (by decide +kernel) rfl rfl ?_
  refine zx_getI (pc := 2) zf_9_32 (by decide +kernel) rfl zc_74 ?_
  refine zw_imul (pc := 5) (by decide +kernel) ?_
  refine zw_iload_n (pc := 6) (n := 2) (i := 2) 2 (by decide +kernel) rfl rfl ?_
  refine zw_aload_n (pc := 7) (n := 0) (i := 0) 0 (by decide +kernel) rfl rfl ?_
  refine zx_getI (pc := 8) zf_9_35 (by decide +kernel) rfl zc_74 ?_
  refine zw_imul (pc := 11) (by decide +kernel) ?_
  refine zw_iadd (pc := 12) (by decide +kernel) ?_
  refine zw_aload_n (pc := 13) (n := 0) (i := 0) 0 (by decide +kernel) rfl rfl ?_
  refine zx_getI (pc := 14) zf_9_44 (by decide +kernel) rfl zc_74 ?_
  refine zw_isub (pc := 17) (by decide +kernel) ?_
  refine zw_istore_n (pc := 18) (n := 3) (i := 3) (lv' := [(0, .ref 74), (1, .int (zJ v1)), (2, .int (zJ v2)), (3, .int (zJ (((v1 * (μ 74 4)) + (v2 * (μ 74 5))) - (μ 74 6))))]) (by decide +kernel) rfl (Nat.le_of_ble_eq_true rfl) rfl ?_
  refine zw_aload_n (pc := 19) (n := 0) (i := 0) 0 (by decide +kernel) rfl rfl ?_
  refine zx_getR (pc := 20) (o := 1) (r := 75) zf_9_11 (by decide +kernel) rfl zc_74 rfl (by decide) rfl ?_
  refine zw_iload_n (pc := 23) (n := 1) (i := 1) 1 (by decide +kernel) rfl rfl ?_
  have q2 : zS (76 + v1.toNat) 12 80 := zS_cast (zqr_75 (j := v1.toNat) (by omega)) (by show 75 + 1 + 1 * v1.toNat = (76 + v1.toNat); omega)
  refine zx_aaload (pc := 24) (k := 15) (r := (76 + v1.toNat)) (by decide +kernel) (by decide) ⟨9, zc_75, o1.1, o1.2⟩ (by show 75 + 1 + 1 * v1.toNat = (76 + v1.toNat); omega) ?_
  refine zw_aload_n (pc := 25) (n := 0) (i := 0) 0 (by decide +kernel) rfl rfl ?_
  refine zx_getR (pc := 26) (o := 11) (r := 85) zf_9_16 (by decide +kernel) rfl zc_74 rfl (by decide) rfl ?_
  refine zw_iload_n (pc := 29) (n := 2) (i := 2) 2 (by decide +kernel) rfl rfl ?_
  have q4 : zS (86 + v2.toNat) 12 80 := zS_cast (zqr_85 (j := v2.toNat) (by omega)) (by show 85 + 1 + 1 * v2.toNat = (86 + v2.toNat); omega)
  refine zx_aaload (pc := 30) (k := 15) (r := (86 + v2.toNat)) (by decide +kernel) (by decide) ⟨9, zc_85, o3.1, o3.2⟩ (by show 85 + 1 + 1 * v2.toNat = (86 + v2.toNat); omega) ?_
  refine zw_aload_n (pc := 31) (n := 0) (i := 0) 0 (by decide +kernel) rfl rfl ?_
  refine zx_getR (pc := 32) (o := 21) (r := 95) zf_9_19 (by decide +kernel) rfl zc_74 rfl (by decide) rfl ?_
  refine zw_aload_n (pc := 35) (n := 0) (i := 0) 0 (by decide +kernel) rfl rfl ?_
  refine zx_getI (pc := 36) zf_9_50 (by decide +kernel) rfl zc_74 ?_
  refine zw_iload_n (pc := 39) (n := 3) (i := 3) 3 (by decide +kernel) rfl rfl ?_
  refine zw_isub (pc := 40) (by decide +kernel) ?_
  refine zw_aload_n (pc := 41) (n := 0) (i := 0) 0 (by decide +kernel) rfl rfl ?_
  refine zx_getI (pc := 42) zf_9_51 (by decide +kernel) rfl zc_74 ?_
  refine zx_callSN (pc := 45) (As := [.ref (76 + v1.toNat), .ref (86 + v2.toNat), .ref 95, .int (zJ ((μ 74 7) - (((v1 * (μ 74 4)) + (v2 * (μ 74 5))) - (μ 74 6)))), .int (zJ (μ 74 8))]) h zi_X10_multiply zis_X10_multiply zn_9_67 (by decide +kernel) ⟨Nat.le_of_ble_eq_true rfl, Nat.le_of_ble_eq_true rfl⟩ rfl rfl ⟨rfl, rfl⟩ ⟨Nat.zero_le _, Nat.zero_le _⟩ (zkv (fun μ5 h => ?_))
  refine zw_iload_n (pc := 48) (n := 3) (i := 3) 3 (by decide +kernel) rfl rfl ?_
  exact zw_iret (pc := 49) (by decide +kernel) rfl (Nat.le_refl _) (Nat.le_refl _) ⟨_, _, rfl, rfl, h⟩
abbrev at_X9_isZeroFor_10 (g : zG) (φ : Int → zMu → Prop) (v1 : Nat) (v2 : Int) (μ : zMu) : Prop := zWP g zm_X9_isZeroFor (zmo g zm_X9_isZeroFor (zΦi φ)) 10 [(0, .ref 74), (1, .ref v1), (2, .int (zJ v2))] [] 0 0 (zw μ)
abbrev at_X9_isZeroFor_59 (g : zG) (φ : Int → zMu → Prop) (v2 : Int) (μ : zMu) : Prop := zWP g zm_X9_isZeroFor (zmo g zm_X9_isZeroFor (zΦi φ)) 59 [(0, .ref 74), (2, .int (zJ v2))] [] 0 0 (zw μ)
abbrev at_X9_isZeroFor_20 (g : zG) (φ : Int → zMu → Prop) (v1 : Nat) (v2 : Int) (v3 : Int) (μ : zMu) : Prop := zWP g zm_X9_isZeroFor (zmo g zm_X9_isZeroFor (zΦi φ)) 20 [(0, .ref 74), (1, .ref v1), (2, .int (zJ v2)), (3, .int (zJ v3))] [] 0 0 (zw μ)
theorem sg_X9_isZeroFor {g : zG} {φ : Int → zMu → Prop} {v1 : Nat} {μ : zMu} (h_v1 : zS v1 3 2)
    (h : zOv g zm_J7_fill_53178 [.ref 96, .int (zJ 0)] μ (fun μ1 => at_X9_isZeroFor_10 g φ v1 0 μ1)) : zOi g zm_X9_isZeroFor [.ref 74, .ref v1] μ φ := by
  refine zok_of (by decide +kernel) rfl ?_
  show zWP g zm_X9_isZeroFor (zmo g zm_X9_isZeroFor (zΦi φ)) 0 [(0, .ref 74), (1, .ref v1)] [] 0 0 (zw μ)
  refine zw_aload_n (pc := 0) (n := 0) (i := 0) 0 (by decide +kernel) rfl rfl ?_
  refine zx_getR (pc := 1) (o := 22) (r := 96) zf_9_23 (by decide +kernel) rfl zc_74 rfl (by decide) rfl ?_
  refine zw_iconst (pc := 4) (n := 0) (by decide +kernel) ?_
  refine zx_callS (pc := 5) (As := [.ref 96, .int (zJ 0)]) h zi_J7_fill_53178 zis_J7_fill_53178 zl_9_61 (by decide +kernel) ⟨Nat.le_of_ble_eq_true rfl, Nat.le_of_ble_eq_true rfl⟩ rfl rfl ⟨rfl, rfl⟩ ⟨Nat.zero_le _, Nat.zero_le _⟩ (zkv (fun μ1 h => ?_))
  refine zw_iconst (pc := 8) (n := 0) (by decide +kernel) ?_
  refine zw_istore_n (pc := 9) (n := 2) (i := 2) (lv' := [(0, .ref 74), (1, .ref v1), (2, .int (zJ 0))]) (by decide +kernel) rfl (Nat.le_of_ble_eq_true rfl) rfl ?_
  exact h
theorem sg_X9_isZeroFor_10 {g : zG} {φ : Int → zMu → Prop} {v1 : Nat} {v2 : Int} {μ : zMu} (h_v1 : zS v1 3 2)
    (h : (zR v2) ∧ (zR (μ v1 1)) ∧ (((μ v1 1) < v2 → at_X9_isZeroFor_59 g φ 0 μ) ∧ (v2 ≤ (μ v1 1) → at_X9_isZeroFor_20 g φ v1 v2 0 μ))) : at_X9_isZeroFor_10 g φ v1 v2 μ := by
  obtain ⟨o1, o2, h⟩ := h
  refine zw_iload_n (pc := 10) (n := 2) (i := 2) 2 (by decide +kernel) rfl rfl ?_
  refine zw_aload_n (pc := 11) (n := 1) (i := 1) 1 (by decide +kernel) rfl rfl ?_
  refine zx_getI (pc := 12) zf_9_71 (by decide +kernel) rfl h_v1 ?_
  refine zw_icmp_gt (pc := 15) (off := 42) (tgt := 57) (by decide +kernel) (by decide) o1 o2 (fun hc => ?_) (fun hc => ?_)
  · replace h := h.1 hc
    refine zw_iconst (pc := 57) (n := 0) (by decide +kernel) ?_
    refine zw_istore_n (pc := 58) (n := 2) (i := 2) (lv' := [(0, .ref 74), (1, .ref v1), (2, .int (zJ 0))]) (by decide +kernel) rfl (Nat.le_of_ble_eq_true rfl) rfl ?_
    exact zw_pick (lv' := [(0, .ref 74), (2, .int (zJ 0))]) [0, 2] rfl h
  · replace h := h.2 hc
    refine zw_iconst (pc := 18) (n := 0) (by decide +kernel) ?_
    refine zw_istore_n (pc := 19) (n := 3) (i := 3) (lv' := [(0, .ref 74), (1, .ref v1), (2, .int (zJ v2)), (3, .int (zJ 0))]) (by decide +kernel) rfl (Nat.le_of_ble_eq_true rfl) rfl ?_
    exact h
theorem sg_X9_isZeroFor_59 {g : zG} {φ : Int → zMu → Prop} {v2 : Int} {μ : zMu}
    (h : (zR v2) ∧ (zR (μ 74 7)) ∧ (((μ 74 7) ≤ v2 → φ 1 μ) ∧ (v2 < (μ 74 7) → (0 ≤ v2 ∧ v2 < 80) ∧ (zR (μ 96 v2.toNat)) ∧ (((μ 96 v2.toNat) = 0 → at_X9_isZeroFor_59 g φ (v2 + 1) μ) ∧ (¬ (μ 96 v2.toNat) = 0 → φ 0 μ))))) : at_X9_isZeroFor_59 g φ v2 μ := by
  obtain ⟨o1, o2, h⟩ := h
  refine zw_iload_n (pc := 59) (n := 2) (i := 2) 1 (by decide +kernel) rfl rfl ?_
  refine zw_aload_n (pc := 60) (n := 0) (i := 0) 0 (by decide +kernel) rfl rfl ?_
  refine zx_getI (pc := 61) zf_9_50 (by decide +kernel) rfl zc_74 ?_
  refine zw_icmp_ge (pc := 64) (off := 20) (tgt := 84) (by decide +kernel) (by decide) o1 o2 (fun hc => ?_) (fun hc => ?_)
  · replace h := h.1 hc
    refine zw_iconst (pc := 84) (n := 1) (by decide +kernel) ?_
    exact zw_zret (pc := 85) (by decide +kernel) rfl (Nat.le_refl _) (Nat.le_refl _) (Or.inr rfl) ⟨_, _, rfl, rfl, h⟩
  · replace h := h.2 hc
    obtain ⟨o3, o4, h⟩ := h
    refine zw_aload_n (pc := 67) (n := 0) (i := 0) 0 (by decide +kernel) rfl rfl ?_
    refine zx_getR (pc := 68) (o := 22) (r := 96) zf_9_23 (by decide +kernel) rfl zc_74 rfl (by decide) rfl ?_
    refine zw_iload_n (pc := 71) (n := 2) (i := 2) 1 (by decide +kernel) rfl rfl ?_
    refine zx_iaload (pc := 72) (by decide +kernel) ⟨80, zc_96, o3.1, o3.2⟩ ?_
    refine zw_if_eq (pc := 73) (off := 5) (tgt := 78) (by decide +kernel) (by decide) o4 (fun hc => ?_) (fun hc => ?_)
    · replace h := h.1 hc
      refine zw_iinc (pc := 78) (i := 2) (n := 1) (lv' := [(0, .ref 74), (2, .int (zJ (v2 + 1)))]) 1 (by decide +kernel) rfl rfl (Nat.le_of_ble_eq_true rfl) rfl ?_
      refine zw_goto (pc := 81) (off := (-22)) (tgt := 59) (by decide +kernel) (by decide) ?_
      exact h
    · replace h := h.2 hc
      refine zw_iconst (pc := 76) (n := 0) (by decide +kernel) ?_
      exact zw_zret (pc := 77) (by decide +kernel) rfl (Nat.le_refl _) (Nat.le_refl _) (Or.inl rfl) ⟨_, _, rfl, rfl, h⟩
theorem sg_X9_isZeroFor_20 {g : zG} {φ : Int → zMu → Prop} {v1 : Nat} {v2 : Int} {v3 : Int} {μ : zMu} (h_v1 : zS v1 3 2)
    (h : (zR v3) ∧ (zR (μ v1 1)) ∧ (((μ v1 1) < v3 → at_X9_isZeroFor_10 g φ v1 (v2 + 1) μ) ∧ (v3 ≤ (μ v1 1) → (0 ≤ ((9 * v2) + v3) ∧ ((9 * v2) + v3) < 81) ∧ zOv g zm_X9_addTerm [.ref 74, .int (zJ v2), .int (zJ v3), .int (zJ (μ (v1 + 1) (Int.toNat ((9 * v2) + v3))))] μ (fun μ5 => at_X9_isZeroFor_20 g φ v1 v2 (v3 + 1) μ5)))) : at_X9_isZeroFor_20 g φ v1 v2 v3 μ := by
  obtain ⟨o1, o2, h⟩ := h
  refine zw_iload_n (pc := 20) (n := 3) (i := 3) 3 (by decide +kernel) rfl rfl ?_
  refine zw_aload_n (pc := 21) (n := 1) (i := 1) 1 (by decide +kernel) rfl rfl ?_
  refine zx_getI (pc := 22) zf_9_71 (by decide +kernel) rfl h_v1 ?_
  refine zw_icmp_gt (pc := 25) (off := 26) (tgt := 51) (by decide +kernel) (by decide) o1 o2 (fun hc => ?_) (fun hc => ?_)
  · replace h := h.1 hc
    refine zw_iinc (pc := 51) (i := 2) (n := 1) (lv' := [(0, .ref 74), (1, .ref v1), (2, .int (zJ (v2 + 1))), (3, .int (zJ v3))]) 2 (by decide +kernel) rfl rfl (Nat.le_of_ble_eq_true rfl) rfl ?_
    refine zw_goto (pc := 54) (off := (-44)) (tgt := 10) (by decide +kernel) (by decide) ?_
    exact zw_pick (lv' := [(0, .ref 74), (1, .ref v1), (2, .int (zJ (v2 + 1)))]) [0, 1, 2] rfl h
  · replace h := h.2 hc
    obtain ⟨o4, h⟩ := h
    refine zw_aload_n (pc := 28) (n := 0) (i := 0) 0 (by decide +kernel) rfl rfl ?_
    refine zw_iload_n (pc := 29) (n := 2) (i := 2) 2 (by decide +kernel) rfl rfl ?_
    refine zw_iload_n (pc := 30) (n := 3) (i := 3) 3 (by decide +kernel) rfl rfl ?_
    refine zw_aload_n (pc := 31) (n := 1) (i := 1) 1 (by decide +kernel) rfl rfl ?_
    have q3 : zS (v1 + 1) 12 81 := zq 0 h_v1 rfl
    refine zx_getR (pc := 32) (o := 1) (r := (v1 + 1)) zf_9_76 (by decide +kernel) rfl h_v1 rfl (by decide) rfl ?_
    refine zw_bipush (pc := 35) (n := 9) (by decide +kernel) (by decide +kernel) ?_
    refine zw_iload_n (pc := 37) (n := 2) (i := 2) 2 (by decide +kernel) rfl rfl ?_
    refine zw_imul (pc := 38) (by decide +kernel) ?_
    refine zw_iload_n (pc := 39) (n := 3) (i := 3) 3 (by decide +kernel) rfl rfl ?_
    refine zw_iadd (pc := 40) (by decide +kernel) ?_
    refine zx_iaload (pc := 41) (by decide +kernel) ⟨81, q3, o4.1, o4.2⟩ ?_
    refine zx_callV (pc := 42) (As := [.int (zJ v2), .int (zJ v3), .int (zJ (μ (v1 + 1) (Int.toNat ((9 * v2) + v3))))]) h zi_X9_addTerm zii_X9_addTerm zie_X9_addTerm zl_9_77 (by decide +kernel) ⟨Nat.le_of_ble_eq_true rfl, Nat.le_of_ble_eq_true rfl⟩ rfl zc_74 (by decide) rfl rfl ⟨rfl, rfl⟩ ⟨Nat.zero_le _, Nat.zero_le _⟩ (zkv (fun μ5 h => ?_))
    refine zw_iinc (pc := 45) (i := 3) (n := 1) (lv' := [(0, .ref 74), (1, .ref v1), (2, .int (zJ v2)), (3, .int (zJ (v3 + 1)))]) 3 (by decide +kernel) rfl rfl (Nat.le_of_ble_eq_true rfl) rfl ?_
    refine zw_goto (pc := 48) (off := (-28)) (tgt := 20) (by decide +kernel) (by decide) ?_
    exact h
abbrev at_X9_addTerm_17 (g : zG) (φ : zMu → Prop) (v3 : Int) (v4 : Int) (v5 : Int) (μ : zMu) : Prop := zWP g zm_X9_addTerm (zmo g zm_X9_addTerm (zΦv φ)) 17 [(0, .ref 74), (3, .int (zJ v3)), (4, .int (zJ v4)), (5, .int (zJ v5))] [] 0 0 (zw μ)
theorem sg_X9_addTerm {g : zG} {φ : zMu → Prop} {v1 : Int} {v2 : Int} {v3 : Int} {μ : zMu}
    (h : (zR v3) ∧ ((¬ v3 = 0 → zOi g zm_X9_multiplyTerm [.ref 74, .int (zJ v1), .int (zJ v2)] μ (fun x3 μ2 => at_X9_addTerm_17 g φ v3 x3 x3 μ2)) ∧ (v3 = 0 → φ μ))) : zOv g zm_X9_addTerm [.ref 74, .int (zJ v1), .int (zJ v2), .int (zJ v3)] μ φ := by
  refine zok_of (by decide +kernel) rfl ?_
  show zWP g zm_X9_addTerm (zmo g zm_X9_addTerm (zΦv φ)) 0 [(0, .ref 74), (1, .int (zJ v1)), (2, .int (zJ v2)), (3, .int (zJ v3))] [] 0 0 (zw μ)
  obtain ⟨o1, h⟩ := h
  refine zw_iload_n (pc := 0) (n := 3) (i := 3) 3 (by decide +kernel) rfl rfl ?_
  refine zw_if_ne (pc := 1) (off := 4) (tgt := 5) (by decide +kernel) (by decide) o1 (fun hc => ?_) (fun hc => ?_)
  · replace h := h.1 hc
    refine zw_aload_n (pc := 5) (n := 0) (i := 0) 0 (by decide +kernel) rfl rfl ?_
    refine zw_iload_n (pc := 6) (n := 1) (i := 1) 1 (by decide +kernel) rfl rfl ?_
    refine zw_iload_n (pc := 7) (n := 2) (i := 2) 2 (by decide +kernel) rfl rfl ?_
    refine zx_callV (pc := 8) (As := [.int (zJ v1), .int (zJ v2)]) h zi_X9_multiplyTerm zii_X9_multiplyTerm zie_X9_multiplyTerm zl_9_81 (by decide +kernel) ⟨Nat.le_of_ble_eq_true rfl, Nat.le_of_ble_eq_true rfl⟩ rfl zc_74 (by decide) rfl rfl ⟨rfl, rfl⟩ ⟨Nat.zero_le _, Nat.zero_le _⟩ (zki (fun x3 μ2 h => ?_))
    refine zw_istore (pc := 11) (i := 4) (lv' := [(0, .ref 74), (1, .int (zJ v1)), (2, .int (zJ v2)), (3, .int (zJ v3)), (4, .int (zJ x3))]) (by decide +kernel) (Nat.le_of_ble_eq_true rfl) rfl ?_
    refine zw_iload (pc := 13) (i := 4) 4 (by decide +kernel) rfl ?_
    refine zw_istore (pc := 15) (i := 5) (lv' := [(0, .ref 74), (1, .int (zJ v1)), (2, .int (zJ v2)), (3, .int (zJ v3)), (4, .int (zJ x3)), (5, .int (zJ x3))]) (by decide +kernel) (Nat.le_of_ble_eq_true rfl) rfl ?_
    exact zw_pick (lv' := [(0, .ref 74), (3, .int (zJ v3)), (4, .int (zJ x3)), (5, .int (zJ x3))]) [0, 3, 4, 5] rfl h
  · replace h := h.2 hc
    exact zw_vret (pc := 4) (by decide +kernel) rfl (Nat.le_refl _) (Nat.le_refl _) ⟨_, rfl, rfl, h⟩
theorem sg_X9_addTerm_17 {g : zG} {φ : zMu → Prop} {v3 : Int} {v4 : Int} {v5 : Int} {μ : zMu}
    (h : (zR v5) ∧ (zR (μ 74 7)) ∧ (((μ 74 7) ≤ v5 → φ μ) ∧ (v5 < (μ 74 7) → (0 ≤ v5 ∧ v5 < 80) ∧ (0 ≤ (v5 - v4) ∧ (v5 - v4) < 80) ∧ (zR ((μ 96 v5.toNat) + (v3 * (μ 95 (Int.toNat (v5 - v4)))))) ∧ (zR (μ 74 8)) ∧ ((μ 74 8) ≠ 0) ∧ at_X9_addTerm_17 g φ v3 v4 (v5 + 1) (zup μ 96 v5.toNat (((μ 96 v5.toNat) + (v3 * (μ 95 (Int.toNat (v5 - v4))))).tmod (μ 74 8)))))) : at_X9_addTerm_17 g φ v3 v4 v5 μ := by
  obtain ⟨o1, o2, h⟩ := h
  refine zw_iload (pc := 17) (i := 5) 3 (by decide +kernel) rfl ?_
  refine zw_aload_n (pc := 19) (n := 0) (i := 0) 0 (by decide +kernel) rfl rfl ?_
  refine zx_getI (pc := 20) zf_9_50 (by decide +kernel) rfl zc_74 ?_
  refine zw_icmp_ge (pc := 23) (off := 41) (tgt := 64) (by decide +kernel) (by decide) o1 o2 (fun hc => ?_) (fun hc => ?_)
  · replace h := h.1 hc
    exact zw_vret (pc := 64) (by decide +kernel) rfl (Nat.le_refl _) (Nat.le_refl _) ⟨_, rfl, rfl, h⟩
  · replace h := h.2 hc
    obtain ⟨o3, o4, o5, o6, o7, h⟩ := h
    refine zw_aload_n (pc := 26) (n := 0) (i := 0) 0 (by decide +kernel) rfl rfl ?_
    refine zx_getR (pc := 27) (o := 22) (r := 96) zf_9_23 (by decide +kernel) rfl zc_74 rfl (by decide) rfl ?_
    refine zw_iload (pc := 30) (i := 5) 3 (by decide +kernel) rfl ?_
    refine zw_aload_n (pc := 32) (n := 0) (i := 0) 0 (by decide +kernel) rfl rfl ?_
    refine zx_getR (pc := 33) (o := 22) (r := 96) zf_9_23 (by decide +kernel) rfl zc_74 rfl (by decide) rfl ?_
    refine zw_iload (pc := 36) (i := 5) 3 (by decide +kernel) rfl ?_
    refine zx_iaload (pc := 38) (by decide +kernel) ⟨80, zc_96, o3.1, o3.2⟩ ?_
    refine zw_iload_n (pc := 39) (n := 3) (i := 3) 1 (by decide +kernel) rfl rfl ?_
    refine zw_aload_n (pc := 40) (n := 0) (i := 0) 0 (by decide +kernel) rfl rfl ?_
    refine zx_getR (pc := 41) (o := 21) (r := 95) zf_9_19 (by decide +kernel) rfl zc_74 rfl (by decide) rfl ?_
    refine zw_iload (pc := 44) (i := 5) 3 (by decide +kernel) rfl ?_
    refine zw_iload (pc := 46) (i := 4) 2 (by decide +kernel) rfl ?_
    refine zw_isub (pc := 48) (by decide +kernel) ?_
    refine zx_iaload (pc := 49) (by decide +kernel) ⟨80, zc_95, o4.1, o4.2⟩ ?_
    refine zw_imul (pc := 50) (by decide +kernel) ?_
    refine zw_iadd (pc := 51) (by decide +kernel) ?_
    refine zw_aload_n (pc := 52) (n := 0) (i := 0) 0 (by decide +kernel) rfl rfl ?_
    refine zx_getI (pc := 53) zf_9_51 (by decide +kernel) rfl zc_74 ?_
    refine zw_irem (pc := 56) (by decide +kernel) o5 o6 o7 ?_
    refine zx_iastore (pc := 57) (by decide +kernel) ⟨80, zc_96, o3.1, o3.2⟩ ?_
    refine zw_iinc (pc := 58) (i := 5) (n := 1) (lv' := [(0, .ref 74), (3, .int (zJ v3)), (4, .int (zJ v4)), (5, .int (zJ (v5 + 1)))]) 3 (by decide +kernel) rfl rfl (Nat.le_of_ble_eq_true rfl) rfl ?_
    refine zw_goto (pc := 61) (off := (-44)) (tgt := 17) (by decide +kernel) (by decide) ?_
    exact h
abbrev at_X1_search_37 (g : zG) (φ : Int → zMu → Prop) (v4 : Int) (μ : zMu) : Prop := zWP g zm_X1_search (zmo g zm_X1_search (zΦi φ)) 37 [(0, .ref 97), (1, .ref 74), (4, .int (zJ v4))] [] 0 0 (zw μ)
theorem sg_X1_search {g : zG} {φ : Int → zMu → Prop} {v2 : Int} {v3 : Int} {μ : zMu}
    (h : (v3 = 0 ∨ v3 = 1) ∧ zOv g zm_X1_listTerms [.ref 97] (zup (zup (zup (zup μ 97 4 v2) 97 5 v3) 97 7 ((zup (zup μ 97 4 v2) 97 5 v3) 74 7)) 97 9 ((zup (zup (zup μ 97 4 v2) 97 5 v3) 97 7 ((zup (zup μ 97 4 v2) 97 5 v3) 74 7)) 74 8)) (fun μ2 => zOv g zm_X1_clearMatrix [.ref 97] μ2 (fun μ3 => at_X1_search_37 g φ 0 μ3))) : zOi g zm_X1_search [.ref 97, .ref 74, .int (zJ v2), .int (zJ v3)] μ φ := by
  refine zok_of (by decide +kernel) rfl ?_
  show zWP g zm_X1_search (zmo g zm_X1_search (zΦi φ)) 0 [(0, .ref 97), (1, .ref 74), (2, .int (zJ v2)), (3, .int (zJ v3))] [] 0 0 (zw μ)
  obtain ⟨o1, h⟩ := h
  refine zw_aload_n (pc := 0) (n := 0) (i := 0) 0 (by decide +kernel) rfl rfl ?_
  refine zw_iload_n (pc := 1) (n := 2) (i := 2) 2 (by decide +kernel) rfl rfl ?_
  refine zx_putI (pc := 2) zf_1_26 (by decide +kernel) rfl zc_97 ?_
  refine zw_aload_n (pc := 5) (n := 0) (i := 0) 0 (by decide +kernel) rfl rfl ?_
  refine zw_iload_n (pc := 6) (n := 3) (i := 3) 3 (by decide +kernel) rfl rfl ?_
  refine zx_putZ (pc := 7) zf_1_30 (by decide +kernel) rfl zc_97 o1 ?_
  refine zw_aload_n (pc := 10) (n := 0) (i := 0) 0 (by decide +kernel) rfl rfl ?_
  refine zw_aload_n (pc := 11) (n := 1) (i := 1) 1 (by decide +kernel) rfl rfl ?_
  refine zx_getI (pc := 12) zf_1_34 (by decide +kernel) rfl zc_74 ?_
  refine zx_putI (pc := 15) zf_1_39 (by decide +kernel) rfl zc_97 ?_
  refine zw_aload_n (pc := 18) (n := 0) (i := 0) 0 (by decide +kernel) rfl rfl ?_
  refine zw_aload_n (pc := 19) (n := 1) (i := 1) 1 (by decide +kernel) rfl rfl ?_
  refine zx_getI (pc := 20) zf_1_42 (by decide +kernel) rfl zc_74 ?_
  refine zx_putI (pc := 23) zf_1_45 (by decide +kernel) rfl zc_97 ?_
  refine zw_aload_n (pc := 26) (n := 0) (i := 0) 0 (by decide +kernel) rfl rfl ?_
  refine zx_callV (pc := 27) (As := []) h zi_X1_listTerms zii_X1_listTerms zie_X1_listTerms zl_1_46 (by decide +kernel) ⟨Nat.le_of_ble_eq_true rfl, Nat.le_of_ble_eq_true rfl⟩ rfl zc_97 (by decide) rfl rfl ⟨rfl, rfl⟩ ⟨Nat.zero_le _, Nat.zero_le _⟩ (zkv (fun μ2 h => ?_))
  refine zw_aload_n (pc := 30) (n := 0) (i := 0) 0 (by decide +kernel) rfl rfl ?_
  refine zx_callV (pc := 31) (As := []) h zi_X1_clearMatrix zii_X1_clearMatrix zie_X1_clearMatrix zl_1_49 (by decide +kernel) ⟨Nat.le_of_ble_eq_true rfl, Nat.le_of_ble_eq_true rfl⟩ rfl zc_97 (by decide) rfl rfl ⟨rfl, rfl⟩ ⟨Nat.zero_le _, Nat.zero_le _⟩ (zkv (fun μ3 h => ?_))
  refine zw_iconst (pc := 34) (n := 0) (by decide +kernel) ?_
  refine zw_istore (pc := 35) (i := 4) (lv' := [(0, .ref 97), (1, .ref 74), (2, .int (zJ v2)), (3, .int (zJ v3)), (4, .int (zJ 0))]) (by decide +kernel) (Nat.le_of_ble_eq_true rfl) rfl ?_
  exact zw_pick (lv' := [(0, .ref 97), (1, .ref 74), (4, .int (zJ 0))]) [0, 1, 4] rfl h
theorem sg_X1_search_37 {g : zG} {φ : Int → zMu → Prop} {v4 : Int} {μ : zMu}
    (h : (zR v4) ∧ (zR (μ 97 6)) ∧ (((μ 97 6) ≤ v4 → zOi g zm_X1_eliminate [.ref 97] μ (fun x4 μ3 => φ ((μ 97 6) - x4) μ3)) ∧ (v4 < (μ 97 6) → (0 ≤ v4 ∧ v4 < 81) ∧ zOv g zm_X1_addProduct [.ref 97, .ref 74, .int (zJ (μ 179 v4.toNat)), .int (zJ (μ 180 v4.toNat)), .int (zJ v4)] μ (fun μ6 => (zR (μ6 97 5)) ∧ (((μ6 97 5) = 0 → at_X1_search_37 g φ (v4 + 1) μ6) ∧ (¬ (μ6 97 5) = 0 → (zR (μ6 179 v4.toNat)) ∧ (zR (μ6 180 v4.toNat)) ∧ (((μ6 179 v4.toNat) = (μ6 180 v4.toNat) → at_X1_search_37 g φ (v4 + 1) μ6) ∧ (¬ (μ6 179 v4.toNat) = (μ6 180 v4.toNat) → zOv g zm_X1_addProduct [.ref 97, .ref 74, .int (zJ (μ6 180 v4.toNat)), .int (zJ (μ6 179 v4.toNat)), .int (zJ v4)] μ6 (fun μ10 => at_X1_search_37 g φ (v4 + 1) μ10))))))))) : at_X1_search_37 g φ v4 μ := by
  obtain ⟨o1, o2, h⟩ := h
  refine zw_iload (pc := 37) (i := 4) 2 (by decide +kernel) rfl ?_
  refine zw_aload_n (pc := 39) (n := 0) (i := 0) 0 (by decide +kernel) rfl rfl ?_
  refine zx_getI (pc := 40) zf_1_52 (by decide +kernel) rfl zc_97 ?_
  refine zw_icmp_ge (pc := 43) (off := 75) (tgt := 118) (by decide +kernel) (by decide) o1 o2 (fun hc => ?_) (fun hc => ?_)
  · replace h := h.1 hc
    refine zw_aload_n (pc := 118) (n := 0) (i := 0) 0 (by decide +kernel) rfl rfl ?_
    refine zx_getI (pc := 119) zf_1_52 (by decide +kernel) rfl zc_97 ?_
    refine zw_aload_n (pc := 122) (n := 0) (i := 0) 0 (by decide +kernel) rfl rfl ?_
    refine zx_callV (pc := 123) (As := []) h zi_X1_eliminate zii_X1_eliminate zie_X1_eliminate zl_1_59 (by decide +kernel) ⟨Nat.le_of_ble_eq_true rfl, Nat.le_of_ble_eq_true rfl⟩ rfl zc_97 (by decide) rfl rfl ⟨rfl, rfl⟩ ⟨Nat.zero_le _, Nat.zero_le _⟩ (zki (fun x4 μ3 h => ?_))
    refine zw_isub (pc := 126) (by decide +kernel) ?_
    exact zw_iret (pc := 127) (by decide +kernel) rfl (Nat.le_refl _) (Nat.le_refl _) ⟨_, _, rfl, rfl, h⟩
  · replace h := h.2 hc
    obtain ⟨o5, h⟩ := h
    refine zw_aload_n (pc := 46) (n := 0) (i := 0) 0 (by decide +kernel) rfl rfl ?_
    refine zw_aload_n (pc := 47) (n := 1) (i := 1) 1 (by decide +kernel) rfl rfl ?_
    refine zw_aload_n (pc := 48) (n := 0) (i := 0) 0 (by decide +kernel) rfl rfl ?_
    refine zx_getR (pc := 49) (o := 82) (r := 179) zf_1_16 (by decide +kernel) rfl zc_97 rfl (by decide) rfl ?_
    refine zw_iload (pc := 52) (i := 4) 2 (by decide +kernel) rfl ?_
    refine zx_iaload (pc := 54) (by decide +kernel) ⟨81, zc_179, o5.1, o5.2⟩ ?_
    refine zw_aload_n (pc := 55) (n := 0) (i := 0) 0 (by decide +kernel) rfl rfl ?_
    refine zx_getR (pc := 56) (o := 83) (r := 180) zf_1_20 (by decide +kernel) rfl zc_97 rfl (by decide) rfl ?_
    refine zw_iload (pc := 59) (i := 4) 2 (by decide +kernel) rfl ?_
    refine zx_iaload (pc := 61) (by decide +kernel) ⟨81, zc_180, o5.1, o5.2⟩ ?_
    refine zw_iload (pc := 62) (i := 4) 2 (by decide +kernel) rfl ?_
    refine zx_callV (pc := 64) (As := [.ref 74, .int (zJ (μ 179 v4.toNat)), .int (zJ (μ 180 v4.toNat)), .int (zJ v4)]) h zi_X1_addProduct zii_X1_addProduct zie_X1_addProduct zl_1_55 (by decide +kernel) ⟨Nat.le_of_ble_eq_true rfl, Nat.le_of_ble_eq_true rfl⟩ rfl zc_97 (by decide) rfl rfl ⟨rfl, rfl⟩ ⟨Nat.zero_le _, Nat.zero_le _⟩ (zkv (fun μ6 h => ?_))
    obtain ⟨o7, h⟩ := h
    refine zw_aload_n (pc := 67) (n := 0) (i := 0) 0 (by decide +kernel) rfl rfl ?_
    refine zx_getI (pc := 68) zf_1_30 (by decide +kernel) rfl zc_97 ?_
    refine zw_if_eq (pc := 71) (off := 41) (tgt := 112) (by decide +kernel) (by decide) o7 (fun hc => ?_) (fun hc => ?_)
    · replace h := h.1 hc
      refine zw_iinc (pc := 112) (i := 4) (n := 1) (lv' := [(0, .ref 97), (1, .ref 74), (4, .int (zJ (v4 + 1)))]) 2 (by decide +kernel) rfl rfl (Nat.le_of_ble_eq_true rfl) rfl ?_
      refine zw_goto (pc := 115) (off := (-78)) (tgt := 37) (by decide +kernel) (by decide) ?_
      exact h
    · replace h := h.2 hc
      obtain ⟨o8, o9, h⟩ := h
      refine zw_aload_n (pc := 74) (n := 0) (i := 0) 0 (by decide +kernel) rfl rfl ?_
      refine zx_getR (pc := 75) (o := 82) (r := 179) zf_1_16 (by decide +kernel) rfl zc_97 rfl (by decide) rfl ?_
      refine zw_iload (pc := 78) (i := 4) 2 (by decide +kernel) rfl ?_
      refine zx_iaload (pc := 80) (by decide +kernel) ⟨81, zc_179, o5.1, o5.2⟩ ?_
      refine zw_aload_n (pc := 81) (n := 0) (i := 0) 0 (by decide +kernel) rfl rfl ?_
      refine zx_getR (pc := 82) (o := 83) (r := 180) zf_1_20 (by decide +kernel) rfl zc_97 rfl (by decide) rfl ?_
      refine zw_iload (pc := 85) (i := 4) 2 (by decide +kernel) rfl ?_
      refine zx_iaload (pc := 87) (by decide +kernel) ⟨81, zc_180, o5.1, o5.2⟩ ?_
      refine zw_icmp_eq (pc := 88) (off := 24) (tgt := 112) (by decide +kernel) (by decide) o8 o9 (fun hc => ?_) (fun hc => ?_)
      · replace h := h.1 hc
        refine zw_iinc (pc := 112) (i := 4) (n := 1) (lv' := [(0, .ref 97), (1, .ref 74), (4, .int (zJ (v4 + 1)))]) 2 (by decide +kernel) rfl rfl (Nat.le_of_ble_eq_true rfl) rfl ?_
        refine zw_goto (pc := 115) (off := (-78)) (tgt := 37) (by decide +kernel) (by decide) ?_
        exact h
      · replace h := h.2 hc
        refine zw_aload_n (pc := 91) (n := 0) (i := 0) 0 (by decide +kernel) rfl rfl ?_
        refine zw_aload_n (pc := 92) (n := 1) (i := 1) 1 (by decide +kernel) rfl rfl ?_
        refine zw_aload_n (pc := 93) (n := 0) (i := 0) 0 (by decide +kernel) rfl rfl ?_
        refine zx_getR (pc := 94) (o := 83) (r := 180) zf_1_20 (by decide +kernel) rfl zc_97 rfl (by decide) rfl ?_
        refine zw_iload (pc := 97) (i := 4) 2 (by decide +kernel) rfl ?_
        refine zx_iaload (pc := 99) (by decide +kernel) ⟨81, zc_180, o5.1, o5.2⟩ ?_
        refine zw_aload_n (pc := 100) (n := 0) (i := 0) 0 (by decide +kernel) rfl rfl ?_
        refine zx_getR (pc := 101) (o := 82) (r := 179) zf_1_16 (by decide +kernel) rfl zc_97 rfl (by decide) rfl ?_
        refine zw_iload (pc := 104) (i := 4) 2 (by decide +kernel) rfl ?_
        refine zx_iaload (pc := 106) (by decide +kernel) ⟨81, zc_179, o5.1, o5.2⟩ ?_
        refine zw_iload (pc := 107) (i := 4) 2 (by decide +kernel) rfl ?_
        refine zx_callV (pc := 109) (As := [.ref 74, .int (zJ (μ6 180 v4.toNat)), .int (zJ (μ6 179 v4.toNat)), .int (zJ v4)]) h zi_X1_addProduct zii_X1_addProduct zie_X1_addProduct zl_1_55 (by decide +kernel) ⟨Nat.le_of_ble_eq_true rfl, Nat.le_of_ble_eq_true rfl⟩ rfl zc_97 (by decide) rfl rfl ⟨rfl, rfl⟩ ⟨Nat.zero_le _, Nat.zero_le _⟩ (zkv (fun μ10 h => ?_))
        refine zw_iinc (pc := 112) (i := 4) (n := 1) (lv' := [(0, .ref 97), (1, .ref 74), (4, .int (zJ (v4 + 1)))]) 2 (by decide +kernel) rfl rfl (Nat.le_of_ble_eq_true rfl) rfl ?_
        refine zw_goto (pc := 115) (off := (-78)) (tgt := 37) (by decide +kernel) (by decide) ?_
        exact h
abbrev at_X1_listTerms_7 (g : zG) (φ : zMu → Prop) (v1 : Int) (μ : zMu) : Prop := zWP g zm_X1_listTerms (zmo g zm_X1_listTerms (zΦv φ)) 7 [(0, .ref 97), (1, .int (zJ v1))] [] 0 0 (zw μ)
abbrev at_X1_listTerms_33 (g : zG) (φ : zMu → Prop) (v1 : Int) (v2 : Int) (v3 : Int) (μ : zMu) : Prop := zWP g zm_X1_listTerms (zmo g zm_X1_listTerms (zΦv φ)) 33 [(0, .ref 97), (1, .int (zJ v1)), (2, .int (zJ v2)), (3, .int (zJ v3))] [] 0 0 (zw μ)
theorem sg_X1_listTerms {g : zG} {φ : zMu → Prop} {μ : zMu}
    (h : at_X1_listTerms_7 g φ 0 (zup μ 97 6 0)) : zOv g zm_X1_listTerms [.ref 97] μ φ := by
  refine zok_of (by decide +kernel) rfl ?_
  show zWP g zm_X1_listTerms (zmo g zm_X1_listTerms (zΦv φ)) 0 [(0, .ref 97)] [] 0 0 (zw μ)
  refine zw_aload_n (pc := 0) (n := 0) (i := 0) 0 (by decide +kernel) rfl rfl ?_
  refine zw_iconst (pc := 1) (n := 0) (by decide +kernel) ?_
  refine zx_putI (pc := 2) zf_1_52 (by decide +kernel) rfl zc_97 ?_
  refine zw_iconst (pc := 5) (n := 0) (by decide +kernel) ?_
  refine zw_istore_n (pc := 6) (n := 1) (i := 1) (lv' := [(0, .ref 97), (1, .int (zJ 0))]) (by decide +kernel) rfl (Nat.le_of_ble_eq_true rfl) rfl ?_
  exact h
theorem sg_X1_listTerms_7 {g : zG} {φ : zMu → Prop} {v1 : Int} {μ : zMu}
    (h : (zR v1) ∧ (zR (μ 97 4)) ∧ (((μ 97 4) < v1 → φ μ) ∧ (v1 ≤ (μ 97 4) → (zR (μ 97 5)) ∧ (((μ 97 5) = 0 → at_X1_listTerms_33 g φ v1 (μ 97 4) 0 μ) ∧ (¬ (μ 97 5) = 0 → at_X1_listTerms_33 g φ v1 v1 0 μ))))) : at_X1_listTerms_7 g φ v1 μ := by
  obtain ⟨o1, o2, h⟩ := h
  refine zw_iload_n (pc := 7) (n := 1) (i := 1) 1 (by decide +kernel) rfl rfl ?_
  refine zw_aload_n (pc := 8) (n := 0) (i := 0) 0 (by decide +kernel) rfl rfl ?_
  refine zx_getI (pc := 9) zf_1_26 (by decide +kernel) rfl zc_97 ?_
  refine zw_icmp_gt (pc := 12) (off := 68) (tgt := 80) (by decide +kernel) (by decide) o1 o2 (fun hc => ?_) (fun hc => ?_)
  · replace h := h.1 hc
    exact zw_vret (pc := 80) (by decide +kernel) rfl (Nat.le_refl _) (Nat.le_refl _) ⟨_, rfl, rfl, h⟩
  · replace h := h.2 hc
    obtain ⟨o3, h⟩ := h
    refine zw_aload_n (pc := 15) (n := 0) (i := 0) 0 (by decide +kernel) rfl rfl ?_
    refine zx_getI (pc := 16) zf_1_30 (by decide +kernel) rfl zc_97 ?_
    refine zw_if_eq (pc := 19) (off := 7) (tgt := 26) (by decide +kernel) (by decide) o3 (fun hc => ?_) (fun hc => ?_)
    · replace h := h.1 hc
      refine zw_aload_n (pc := 26) (n := 0) (i := 0) 0 (by decide +kernel) rfl rfl ?_
      refine zx_getI (pc := 27) zf_1_26 (by decide +kernel) rfl zc_97 ?_
      refine zw_istore_n (pc := 30) (n := 2) (i := 2) (lv' := [(0, .ref 97), (1, .int (zJ v1)), (2, .int (zJ (μ 97 4)))]) (by decide +kernel) rfl (Nat.le_of_ble_eq_true rfl) rfl ?_
      refine zw_iconst (pc := 31) (n := 0) (by decide +kernel) ?_
      refine zw_istore_n (pc := 32) (n := 3) (i := 3) (lv' := [(0, .ref 97), (1, .int (zJ v1)), (2, .int (zJ (μ 97 4))), (3, .int (zJ 0))]) (by decide +kernel) rfl (Nat.le_of_ble_eq_true rfl) rfl ?_
      exact h
    · replace h := h.2 hc
      refine zw_iload_n (pc := 22) (n := 1) (i := 1) 1 (by decide +kernel) rfl rfl ?_
      refine zw_goto (pc := 23) (off := 7) (tgt := 30) (by decide +kernel) (by decide) ?_
      refine zw_istore_n (pc := 30) (n := 2) (i := 2) (lv' := [(0, .ref 97), (1, .int (zJ v1)), (2, .int (zJ v1))]) (by decide +kernel) rfl (Nat.le_of_ble_eq_true rfl) rfl ?_
      refine zw_iconst (pc := 31) (n := 0) (by decide +kernel) ?_
      refine zw_istore_n (pc := 32) (n := 3) (i := 3) (lv' := [(0, .ref 97), (1, .int (zJ v1)), (2, .int (zJ v1)), (3, .int (zJ 0))]) (by decide +kernel) rfl (Nat.le_of_ble_eq_true rfl) rfl ?_
      exact h
theorem sg_X1_listTerms_33 {g : zG} {φ : zMu → Prop} {v1 : Int} {v2 : Int} {v3 : Int} {μ : zMu}
    (h : (zR v3) ∧ (zR v2) ∧ ((v2 < v3 → at_X1_listTerms_7 g φ (v1 + 1) μ) ∧ (v3 ≤ v2 → (0 ≤ (μ 97 6) ∧ (μ 97 6) < 81) ∧ (0 ≤ ((zup μ 179 (Int.toNat (μ 97 6)) v1) 97 6) ∧ ((zup μ 179 (Int.toNat (μ 97 6)) v1) 97 6) < 81) ∧ at_X1_listTerms_33 g φ v1 v2 (v3 + 1) (zup (zup (zup μ 179 (Int.toNat (μ 97 6)) v1) 180 (Int.toNat ((zup μ 179 (Int.toNat (μ 97 6)) v1) 97 6)) v3) 97 6 (((zup (zup μ 179 (Int.toNat (μ 97 6)) v1) 180 (Int.toNat ((zup μ 179 (Int.toNat (μ 97 6)) v1) 97 6)) v3) 97 6) + 1))))) : at_X1_listTerms_33 g φ v1 v2 v3 μ := by
  obtain ⟨o1, o2, h⟩ := h
  refine zw_iload_n (pc := 33) (n := 3) (i := 3) 3 (by decide +kernel) rfl rfl ?_
  refine zw_iload_n (pc := 34) (n := 2) (i := 2) 2 (by decide +kernel) rfl rfl ?_
  refine zw_icmp_gt (pc := 35) (off := 39) (tgt := 74) (by decide +kernel) (by decide) o1 o2 (fun hc => ?_) (fun hc => ?_)
  · replace h := h.1 hc
    refine zw_iinc (pc := 74) (i := 1) (n := 1) (lv' := [(0, .ref 97), (1, .int (zJ (v1 + 1))), (2, .int (zJ v2)), (3, .int (zJ v3))]) 1 (by decide +kernel) rfl rfl (Nat.le_of_ble_eq_true rfl) rfl ?_
    refine zw_goto (pc := 77) (off := (-70)) (tgt := 7) (by decide +kernel) (by decide) ?_
    exact zw_pick (lv' := [(0, .ref 97), (1, .int (zJ (v1 + 1)))]) [0, 1] rfl h
  · replace h := h.2 hc
    obtain ⟨o3, o4, h⟩ := h
    refine zw_aload_n (pc := 38) (n := 0) (i := 0) 0 (by decide +kernel) rfl rfl ?_
    refine zx_getR (pc := 39) (o := 82) (r := 179) zf_1_16 (by decide +kernel) rfl zc_97 rfl (by decide) rfl ?_
    refine zw_aload_n (pc := 42) (n := 0) (i := 0) 0 (by decide +kernel) rfl rfl ?_
    refine zx_getI (pc := 43) zf_1_52 (by decide +kernel) rfl zc_97 ?_
    refine zw_iload_n (pc := 46) (n := 1) (i := 1) 1 (by decide +kernel) rfl rfl ?_
    refine zx_iastore (pc := 47) (by decide +kernel) ⟨81, zc_179, o3.1, o3.2⟩ ?_
    refine zw_aload_n (pc := 48) (n := 0) (i := 0) 0 (by decide +kernel) rfl rfl ?_
    refine zx_getR (pc := 49) (o := 83) (r := 180) zf_1_20 (by decide +kernel) rfl zc_97 rfl (by decide) rfl ?_
    refine zw_aload_n (pc := 52) (n := 0) (i := 0) 0 (by decide +kernel) rfl rfl ?_
    refine zx_getI (pc := 53) zf_1_52 (by decide +kernel) rfl zc_97 ?_
    refine zw_iload_n (pc := 56) (n := 3) (i := 3) 3 (by decide +kernel) rfl rfl ?_
    refine zx_iastore (pc := 57) (by decide +kernel) ⟨81, zc_180, o4.1, o4.2⟩ ?_
    refine zw_aload_n (pc := 58) (n := 0) (i := 0) 0 (by decide +kernel) rfl rfl ?_
    refine zw_dup (pc := 59) (by decide +kernel) rfl ?_
    refine zx_getI (pc := 60) zf_1_52 (by decide +kernel) rfl zc_97 ?_
    refine zw_iconst (pc := 63) (n := 1) (by decide +kernel) ?_
    refine zw_iadd (pc := 64) (by decide +kernel) ?_
    refine zx_putI (pc := 65) zf_1_52 (by decide +kernel) rfl zc_97 ?_
    refine zw_iinc (pc := 68) (i := 3) (n := 1) (lv' := [(0, .ref 97), (1, .int (zJ v1)), (2, .int (zJ v2)), (3, .int (zJ (v3 + 1)))]) 3 (by decide +kernel) rfl rfl (Nat.le_of_ble_eq_true rfl) rfl ?_
    refine zw_goto (pc := 71) (off := (-38)) (tgt := 33) (by decide +kernel) (by decide) ?_
    exact h
abbrev at_X1_clearMatrix_2 (g : zG) (φ : zMu → Prop) (v1 : Int) (μ : zMu) : Prop := zWP g zm_X1_clearMatrix (zmo g zm_X1_clearMatrix (zΦv φ)) 2 [(0, .ref 97), (1, .int (zJ v1))] [] 0 0 (zw μ)
theorem sg_X1_clearMatrix {g : zG} {φ : zMu → Prop} {μ : zMu}
    (h : at_X1_clearMatrix_2 g φ 0 μ) : zOv g zm_X1_clearMatrix [.ref 97] μ φ := by
  refine zok_of (by decide +kernel) rfl ?_
  show zWP g zm_X1_clearMatrix (zmo g zm_X1_clearMatrix (zΦv φ)) 0 [(0, .ref 97)] [] 0 0 (zw μ)
  refine zw_iconst (pc := 0) (n := 0) (by decide +kernel) ?_
  refine zw_istore_n (pc := 1) (n := 1) (i := 1) (lv' := [(0, .ref 97), (1, .int (zJ 0))]) (by decide +kernel) rfl (Nat.le_of_ble_eq_true rfl) rfl ?_
  exact h
theorem sg_X1_clearMatrix_2 {g : zG} {φ : zMu → Prop} {v1 : Int} {μ : zMu}
    (h : (zR v1) ∧ (zR (μ 97 7)) ∧ (((μ 97 7) ≤ v1 → φ μ) ∧ (v1 < (μ 97 7) → (0 ≤ v1 ∧ v1 < 80) ∧ zOv g zm_J7_fill_53178 [.ref (99 + v1.toNat), .int (zJ 0)] μ (fun μ5 => at_X1_clearMatrix_2 g φ (v1 + 1) μ5)))) : at_X1_clearMatrix_2 g φ v1 μ := by
  obtain ⟨o1, o2, h⟩ := h
  refine zw_iload_n (pc := 2) (n := 1) (i := 1) 1 (by decide +kernel) rfl rfl ?_
  refine zw_aload_n (pc := 3) (n := 0) (i := 0) 0 (by decide +kernel) rfl rfl ?_
  refine zx_getI (pc := 4) zf_1_39 (by decide +kernel) rfl zc_97 ?_
  refine zw_icmp_ge (pc := 7) (off := 19) (tgt := 26) (by decide +kernel) (by decide) o1 o2 (fun hc => ?_) (fun hc => ?_)
  · replace h := h.1 hc
    exact zw_vret (pc := 26) (by decide +kernel) rfl (Nat.le_refl _) (Nat.le_refl _) ⟨_, rfl, rfl, h⟩
  · replace h := h.2 hc
    obtain ⟨o3, h⟩ := h
    refine zw_aload_n (pc := 10) (n := 0) (i := 0) 0 (by decide +kernel) rfl rfl ?_
    refine zx_getR (pc := 11) (o := 1) (r := 98) zf_1_11 (by decide +kernel) rfl zc_97 rfl (by decide) rfl ?_
    refine zw_iload_n (pc := 14) (n := 1) (i := 1) 1 (by decide +kernel) rfl rfl ?_
    have q4 : zS (99 + v1.toNat) 12 81 := zS_cast (zqr_98 (j := v1.toNat) (by omega)) (by show 98 + 1 + 1 * v1.toNat = (99 + v1.toNat); omega)
    refine zx_aaload (pc := 15) (k := 15) (r := (99 + v1.toNat)) (by decide +kernel) (by decide) ⟨80, zc_98, o3.1, o3.2⟩ (by show 98 + 1 + 1 * v1.toNat = (99 + v1.toNat); omega) ?_
    refine zw_iconst (pc := 16) (n := 0) (by decide +kernel) ?_
    refine zx_callS (pc := 17) (As := [.ref (99 + v1.toNat), .int (zJ 0)]) h zi_J7_fill_53178 zis_J7_fill_53178 zl_1_63 (by decide +kernel) ⟨Nat.le_of_ble_eq_true rfl, Nat.le_of_ble_eq_true rfl⟩ rfl rfl ⟨rfl, rfl⟩ ⟨Nat.zero_le _, Nat.zero_le _⟩ (zkv (fun μ5 h => ?_))
    refine zw_iinc (pc := 20) (i := 1) (n := 1) (lv' := [(0, .ref 97), (1, .int (zJ (v1 + 1)))]) 1 (by decide +kernel) rfl rfl (Nat.le_of_ble_eq_true rfl) rfl ?_
    refine zw_goto (pc := 23) (off := (-21)) (tgt := 2) (by decide +kernel) (by decide) ?_
    exact h
abbrev at_X1_addProduct_12 (g : zG) (φ : zMu → Prop) (v4 : Int) (v5 : Int) (v6 : Int) (μ : zMu) : Prop := zWP g zm_X1_addProduct (zmo g zm_X1_addProduct (zΦv φ)) 12 [(0, .ref 97), (1, .ref 74), (4, .int (zJ v4)), (5, .int (zJ v5)), (6, .int (zJ v6))] [] 0 0 (zw μ)
theorem sg_X1_addProduct {g : zG} {φ : zMu → Prop} {v2 : Int} {v3 : Int} {v4 : Int} {μ : zMu}
    (h : zOi g zm_X9_multiplyTerm [.ref 74, .int (zJ v2), .int (zJ v3)] μ (fun x2 μ1 => at_X1_addProduct_12 g φ v4 x2 x2 μ1)) : zOv g zm_X1_addProduct [.ref 97, .ref 74, .int (zJ v2), .int (zJ v3), .int (zJ v4)] μ φ := by
  refine zok_of (by decide +kernel) rfl ?_
  show zWP g zm_X1_addProduct (zmo g zm_X1_addProduct (zΦv φ)) 0 [(0, .ref 97), (1, .ref 74), (2, .int (zJ v2)), (3, .int (zJ v3)), (4, .int (zJ v4))] [] 0 0 (zw μ)
  refine zw_aload_n (pc := 0) (n := 1) (i := 1) 1 (by decide +kernel) rfl rfl ?_
  refine zw_iload_n (pc := 1) (n := 2) (i := 2) 2 (by decide +kernel) rfl rfl ?_
  refine zw_iload_n (pc := 2) (n := 3) (i := 3) 3 (by decide +kernel) rfl rfl ?_
  refine zx_callV (pc := 3) (As := [.int (zJ v2), .int (zJ v3)]) h zi_X9_multiplyTerm zii_X9_multiplyTerm zie_X9_multiplyTerm zl_1_69 (by decide +kernel) ⟨Nat.le_of_ble_eq_true rfl, Nat.le_of_ble_eq_true rfl⟩ rfl zc_74 (by decide) rfl rfl ⟨rfl, rfl⟩ ⟨Nat.zero_le _, Nat.zero_le _⟩ (zki (fun x2 μ1 h => ?_))
  refine zw_istore (pc := 6) (i := 5) (lv' := [(0, .ref 97), (1, .ref 74), (2, .int (zJ v2)), (3, .int (zJ v3)), (4, .int (zJ v4)), (5, .int (zJ x2))]) (by decide +kernel) (Nat.le_of_ble_eq_true rfl) rfl ?_
  refine zw_iload (pc := 8) (i := 5) 5 (by decide +kernel) rfl ?_
  refine zw_istore (pc := 10) (i := 6) (lv' := [(0, .ref 97), (1, .ref 74), (2, .int (zJ v2)), (3, .int (zJ v3)), (4, .int (zJ v4)), (5, .int (zJ x2)), (6, .int (zJ x2))]) (by decide +kernel) (Nat.le_of_ble_eq_true rfl) rfl ?_
  exact zw_pick (lv' := [(0, .ref 97), (1, .ref 74), (4, .int (zJ v4)), (5, .int (zJ x2)), (6, .int (zJ x2))]) [0, 1, 4, 5, 6] rfl h
theorem sg_X1_addProduct_12 {g : zG} {φ : zMu → Prop} {v4 : Int} {v5 : Int} {v6 : Int} {μ : zMu}
    (h : (zR v6) ∧ (zR (μ 97 7)) ∧ (((μ 97 7) ≤ v6 → φ μ) ∧ (v6 < (μ 97 7) → (0 ≤ v6 ∧ v6 < 80) ∧ (0 ≤ v4 ∧ v4 < 81) ∧ (0 ≤ (v6 - v5) ∧ (v6 - v5) < 80) ∧ (zR ((μ (99 + v6.toNat) v4.toNat) + (μ 95 (Int.toNat (v6 - v5))))) ∧ (zR (μ 97 9)) ∧ ((μ 97 9) ≠ 0) ∧ at_X1_addProduct_12 g φ v4 v5 (v6 + 1) (zup μ (99 + v6.toNat) v4.toNat (((μ (99 + v6.toNat) v4.toNat) + (μ 95 (Int.toNat (v6 - v5)))).tmod (μ 97 9)))))) : at_X1_addProduct_12 g φ v4 v5 v6 μ := by
  obtain ⟨o1, o2, h⟩ := h
  refine zw_iload (pc := 12) (i := 6) 4 (by decide +kernel) rfl ?_
  refine zw_aload_n (pc := 14) (n := 0) (i := 0) 0 (by decide +kernel) rfl rfl ?_
  refine zx_getI (pc := 15) zf_1_39 (by decide +kernel) rfl zc_97 ?_
  refine zw_icmp_ge (pc := 18) (off := 45) (tgt := 63) (by decide +kernel) (by decide) o1 o2 (fun hc => ?_) (fun hc => ?_)
  · replace h := h.1 hc
    exact zw_vret (pc := 63) (by decide +kernel) rfl (Nat.le_refl _) (Nat.le_refl _) ⟨_, rfl, rfl, h⟩
  · replace h := h.2 hc
    obtain ⟨o3, o6, o7, o8, o9, o10, h⟩ := h
    refine zw_aload_n (pc := 21) (n := 0) (i := 0) 0 (by decide +kernel) rfl rfl ?_
    refine zx_getR (pc := 22) (o := 1) (r := 98) zf_1_11 (by decide +kernel) rfl zc_97 rfl (by decide) rfl ?_
    refine zw_iload (pc := 25) (i := 6) 4 (by decide +kernel) rfl ?_
    have q4 : zS (99 + v6.toNat) 12 81 := zS_cast (zqr_98 (j := v6.toNat) (by omega)) (by show 98 + 1 + 1 * v6.toNat = (99 + v6.toNat); omega)
    refine zx_aaload (pc := 27) (k := 15) (r := (99 + v6.toNat)) (by decide +kernel) (by decide) ⟨80, zc_98, o3.1, o3.2⟩ (by show 98 + 1 + 1 * v6.toNat = (99 + v6.toNat); omega) ?_
    refine zw_iload (pc := 28) (i := 4) 2 (by decide +kernel) rfl ?_
    refine zw_aload_n (pc := 30) (n := 0) (i := 0) 0 (by decide +kernel) rfl rfl ?_
    refine zx_getR (pc := 31) (o := 1) (r := 98) zf_1_11 (by decide +kernel) rfl zc_97 rfl (by decide) rfl ?_
    refine zw_iload (pc := 34) (i := 6) 4 (by decide +kernel) rfl ?_
    have q5 : zS (99 + v6.toNat) 12 81 := zS_cast (zqr_98 (j := v6.toNat) (by omega)) (by show 98 + 1 + 1 * v6.toNat = (99 + v6.toNat); omega)
    refine zx_aaload (pc := 36) (k := 15) (r := (99 + v6.toNat)) (by decide +kernel) (by decide) ⟨80, zc_98, o3.1, o3.2⟩ (by show 98 + 1 + 1 * v6.toNat = (99 + v6.toNat); omega) ?_
    refine zw_iload (pc := 37) (i := 4) 2 (by decide +kernel) rfl ?_
    refine zx_iaload (pc := 39) (by decide +kernel) ⟨81, q5, o6.1, o6.2⟩ ?_
    refine zw_aload_n (pc := 40) (n := 1) (i := 1) 1 (by decide +kernel) rfl rfl ?_
    refine zx_getR (pc := 41) (o := 21) (r := 95) zf_1_73 (by decide +kernel) rfl zc_74 rfl (by decide) rfl ?_
    refine zw_iload (pc := 44) (i := 6) 4 (by decide +kernel) rfl ?_
    refine zw_iload (pc := 46) (i := 5) 3 (by decide +kernel) rfl ?_
    refine zw_isub (pc := 48) (by decide +kernel) ?_
    refine zx_iaload (pc := 49) (by decide +kernel) ⟨80, zc_95, o7.1, o7.2⟩ ?_
    refine zw_iadd (pc := 50) (by decide +kernel) ?_
    refine zw_aload_n (pc := 51) (n := 0) (i := 0) 0 (by decide +kernel) rfl rfl ?_
    refine zx_getI (pc := 52) zf_1_45 (by decide +kernel) rfl zc_97 ?_
    refine zw_irem (pc := 55) (by decide +kernel) o8 o9 o10 ?_
    refine zx_iastore (pc := 56) (by decide +kernel) ⟨81, q4, o6.1, o6.2⟩ ?_
    refine zw_iinc (pc := 57) (i := 6) (n := 1) (lv' := [(0, .ref 97), (1, .ref 74), (4, .int (zJ v4)), (5, .int (zJ v5)), (6, .int (zJ (v6 + 1)))]) 4 (by decide +kernel) rfl rfl (Nat.le_of_ble_eq_true rfl) rfl ?_
    refine zw_goto (pc := 60) (off := (-48)) (tgt := 12) (by decide +kernel) (by decide) ?_
    exact h
abbrev at_X1_eliminate_12 (g : zG) (φ : Int → zMu → Prop) (v1 : Int) (v2 : Int) (μ : zMu) : Prop := zWP g zm_X1_eliminate (zmo g zm_X1_eliminate (zΦi φ)) 12 [(0, .ref 97), (1, .int (zJ v1)), (2, .int (zJ v2))] [] 0 0 (zw μ)
theorem sg_X1_eliminate {g : zG} {φ : Int → zMu → Prop} {μ : zMu}
    (h : at_X1_eliminate_12 g φ 0 0 (zup μ 97 8 (μ 97 6))) : zOi g zm_X1_eliminate [.ref 97] μ φ := by
  refine zok_of (by decide +kernel) rfl ?_
  show zWP g zm_X1_eliminate (zmo g zm_X1_eliminate (zΦi φ)) 0 [(0, .ref 97)] [] 0 0 (zw μ)
  refine zw_iconst (pc := 0) (n := 0) (by decide +kernel) ?_
  refine zw_istore_n (pc := 1) (n := 1) (i := 1) (lv' := [(0, .ref 97), (1, .int (zJ 0))]) (by decide +kernel) rfl (Nat.le_of_ble_eq_true rfl) rfl ?_
  refine zw_aload_n (pc := 2) (n := 0) (i := 0) 0 (by decide +kernel) rfl rfl ?_
  refine zw_aload_n (pc := 3) (n := 0) (i := 0) 0 (by decide +kernel) rfl rfl ?_
  refine zx_getI (pc := 4) zf_1_52 (by decide +kernel) rfl zc_97 ?_
  refine zx_putI (pc := 7) zf_1_76 (by decide +kernel) rfl zc_97 ?_
  refine zw_iconst (pc := 10) (n := 0) (by decide +kernel) ?_
  refine zw_istore_n (pc := 11) (n := 2) (i := 2) (lv' := [(0, .ref 97), (1, .int (zJ 0)), (2, .int (zJ 0))]) (by decide +kernel) rfl (Nat.le_of_ble_eq_true rfl) rfl ?_
  exact h
theorem sg_X1_eliminate_12 {g : zG} {φ : Int → zMu → Prop} {v1 : Int} {v2 : Int} {μ : zMu}
    (h : (zR v2) ∧ (zR (μ 97 6)) ∧ (((μ 97 6) ≤ v2 → φ v1 μ) ∧ (v2 < (μ 97 6) → zOi g zm_X1_pivotRow [.ref 97, .int (zJ v2), .int (zJ v1)] μ (fun x4 μ3 => (zR x4) ∧ ((0 ≤ x4 → zOv g zm_X1_swapRows [.ref 97, .int (zJ x4), .int (zJ v1), .int (zJ v2)] μ3 (fun μ6 => zOv g zm_X1_scaleRow [.ref 97, .int (zJ v1), .int (zJ v2)] μ6 (fun μ7 => zOv g zm_X1_clearBelow [.ref 97, .int (zJ v1), .int (zJ v2)] μ7 (fun μ8 => at_X1_eliminate_12 g φ (v1 + 1) (v2 + 1) μ8)))) ∧ (x4 < 0 → (zR (μ3 97 8)) ∧ at_X1_eliminate_12 g φ v1 (v2 + 1) (zup μ3 97 8 (min (μ3 97 8) v2)))))))) : at_X1_eliminate_12 g φ v1 v2 μ := by
  obtain ⟨o1, o2, h⟩ := h
  refine zw_iload_n (pc := 12) (n := 2) (i := 2) 2 (by decide +kernel) rfl rfl ?_
  refine zw_aload_n (pc := 13) (n := 0) (i := 0) 0 (by decide +kernel) rfl rfl ?_
  refine zx_getI (pc := 14) zf_1_52 (by decide +kernel) rfl zc_97 ?_
  refine zw_icmp_ge (pc := 17) (off := 57) (tgt := 74) (by decide +kernel) (by decide) o1 o2 (fun hc => ?_) (fun hc => ?_)
  · replace h := h.1 hc
    refine zw_iload_n (pc := 74) (n := 1) (i := 1) 1 (by decide +kernel) rfl rfl ?_
    exact zw_iret (pc := 75) (by decide +kernel) rfl (Nat.le_refl _) (Nat.le_refl _) ⟨_, _, rfl, rfl, h⟩
  · replace h := h.2 hc
    refine zw_aload_n (pc := 20) (n := 0) (i := 0) 0 (by decide +kernel) rfl rfl ?_
    refine zw_iload_n (pc := 21) (n := 2) (i := 2) 2 (by decide +kernel) rfl rfl ?_
    refine zw_iload_n (pc := 22) (n := 1) (i := 1) 1 (by decide +kernel) rfl rfl ?_
    refine zx_callV (pc := 23) (As := [.int (zJ v2), .int (zJ v1)]) h zi_X1_pivotRow zii_X1_pivotRow zie_X1_pivotRow zl_1_79 (by decide +kernel) ⟨Nat.le_of_ble_eq_true rfl, Nat.le_of_ble_eq_true rfl⟩ rfl zc_97 (by decide) rfl rfl ⟨rfl, rfl⟩ ⟨Nat.zero_le _, Nat.zero_le _⟩ (zki (fun x4 μ3 h => ?_))
    obtain ⟨o5, h⟩ := h
    refine zw_istore_n (pc := 26) (n := 3) (i := 3) (lv' := [(0, .ref 97), (1, .int (zJ v1)), (2, .int (zJ v2)), (3, .int (zJ x4))]) (by decide +kernel) rfl (Nat.le_of_ble_eq_true rfl) rfl ?_
    refine zw_iload_n (pc := 27) (n := 3) (i := 3) 3 (by decide +kernel) rfl rfl ?_
    refine zw_if_ge (pc := 28) (off := 18) (tgt := 46) (by decide +kernel) (by decide) o5 (fun hc => ?_) (fun hc => ?_)
    · replace h := h.1 hc
      refine zw_aload_n (pc := 46) (n := 0) (i := 0) 0 (by decide +kernel) rfl rfl ?_
      refine zw_iload_n (pc := 47) (n := 3) (i := 3) 3 (by decide +kernel) rfl rfl ?_
      refine zw_iload_n (pc := 48) (n := 1) (i := 1) 1 (by decide +kernel) rfl rfl ?_
      refine zw_iload_n (pc := 49) (n := 2) (i := 2) 2 (by decide +kernel) rfl rfl ?_
      refine zx_callV (pc := 50) (As := [.int (zJ x4), .int (zJ v1), .int (zJ v2)]) h zi_X1_swapRows zii_X1_swapRows zie_X1_swapRows zl_1_87 (by decide +kernel) ⟨Nat.le_of_ble_eq_true rfl, Nat.le_of_ble_eq_true rfl⟩ rfl zc_97 (by decide) rfl rfl ⟨rfl, rfl⟩ ⟨Nat.zero_le _, Nat.zero_le _⟩ (zkv (fun μ6 h => ?_))
      refine zw_aload_n (pc := 53) (n := 0) (i := 0) 0 (by decide +kernel) rfl rfl ?_
      refine zw_iload_n (pc := 54) (n := 1) (i := 1) 1 (by decide +kernel) rfl rfl ?_
      refine zw_iload_n (pc := 55) (n := 2) (i := 2) 2 (by decide +kernel) rfl rfl ?_
      refine zx_callV (pc := 56) (As := [.int (zJ v1), .int (zJ v2)]) h zi_X1_scaleRow zii_X1_scaleRow zie_X1_scaleRow zl_1_91 (by decide +kernel) ⟨Nat.le_of_ble_eq_true rfl, Nat.le_of_ble_eq_true rfl⟩ rfl zc_97 (by decide) rfl rfl ⟨rfl, rfl⟩ ⟨Nat.zero_le _, Nat.zero_le _⟩ (zkv (fun μ7 h => ?_))
      refine zw_aload_n (pc := 59) (n := 0) (i := 0) 0 (by decide +kernel) rfl rfl ?_
      refine zw_iload_n (pc := 60) (n := 1) (i := 1) 1 (by decide +kernel) rfl rfl ?_
      refine zw_iload_n (pc := 61) (n := 2) (i := 2) 2 (by decide +kernel) rfl rfl ?_
      refine zx_callV (pc := 62) (As := [.int (zJ v1), .int (zJ v2)]) h zi_X1_clearBelow zii_X1_clearBelow zie_X1_clearBelow zl_1_95 (by decide +kernel) ⟨Nat.le_of_ble_eq_true rfl, Nat.le_of_ble_eq_true rfl⟩ rfl zc_97 (by decide) rfl rfl ⟨rfl, rfl⟩ ⟨Nat.zero_le _, Nat.zero_le _⟩ (zkv (fun μ8 h => ?_))
      refine zw_iinc (pc := 65) (i := 1) (n := 1) (lv' := [(0, .ref 97), (1, .int (zJ (v1 + 1))), (2, .int (zJ v2)), (3, .int (zJ x4))]) 1 (by decide +kernel) rfl rfl (Nat.le_of_ble_eq_true rfl) rfl ?_
      refine zw_iinc (pc := 68) (i := 2) (n := 1) (lv' := [(0, .ref 97), (1, .int (zJ (v1 + 1))), (2, .int (zJ (v2 + 1))), (3, .int (zJ x4))]) 2 (by decide +kernel) rfl rfl (Nat.le_of_ble_eq_true rfl) rfl ?_
      refine zw_goto (pc := 71) (off := (-59)) (tgt := 12) (by decide +kernel) (by decide) ?_
      exact zw_pick (lv' := [(0, .ref 97), (1, .int (zJ (v1 + 1))), (2, .int (zJ (v2 + 1)))]) [0, 1, 2] rfl h
    · replace h := h.2 hc
      obtain ⟨o9, h⟩ := h
      refine zw_aload_n (pc := 31) (n := 0) (i := 0) 0 (by decide +kernel) rfl rfl ?_
      refine zw_aload_n (pc := 32) (n := 0) (i := 0) 0 (by decide +kernel) rfl rfl ?_
      refine zx_getI (pc := 33) zf_1_76 (by decide +kernel) rfl zc_97 ?_
      refine zw_iload_n (pc := 36) (n := 2) (i := 2) 2 (by decide +kernel) rfl rfl ?_
      refine zw_min (pc := 37) zl_1_82 zb_minS zb_mathI zb_minC (by decide +kernel) ⟨Nat.le_of_ble_eq_true rfl, Nat.le_of_ble_eq_true rfl⟩ (Nat.zero_le _) (Nat.zero_le _) rfl o9 o1 ?_
      refine zx_putI (pc := 40) zf_1_76 (by decide +kernel) rfl zc_97 ?_
      refine zw_goto (pc := 43) (off := 25) (tgt := 68) (by decide +kernel) (by decide) ?_
      refine zw_iinc (pc := 68) (i := 2) (n := 1) (lv' := [(0, .ref 97), (1, .int (zJ v1)), (2, .int (zJ (v2 + 1))), (3, .int (zJ x4))]) 2 (by decide +kernel) rfl rfl (Nat.le_of_ble_eq_true rfl) rfl ?_
      refine zw_goto (pc := 71) (off := (-59)) (tgt := 12) (by decide +kernel) (by decide) ?_
      exact zw_pick (lv' := [(0, .ref 97), (1, .int (zJ v1)), (2, .int (zJ (v2 + 1)))]) [0, 1, 2] rfl h
abbrev at_X1_pivotRow_2 (g : zG) (φ : Int → zMu → Prop) (v1 : Int) (v3 : Int) (μ : zMu) : Prop := zWP g zm_X1_pivotRow (zmo g zm_X1_pivotRow (zΦi φ)) 2 [(0, .ref 97), (1, .int (zJ v1)), (3, .int (zJ v3))] [] 0 0 (zw μ)
theorem sg_X1_pivotRow {g : zG} {φ : Int → zMu → Prop} {v1 : Int} {v2 : Int} {μ : zMu}
    (h : at_X1_pivotRow_2 g φ v1 v2 μ) : zOi g zm_X1_pivotRow [.ref 97, .int (zJ v1), .int (zJ v2)] μ φ := by
  refine zok_of (by decide +kernel) rfl ?_
  show zWP g zm_X1_pivotRow (zmo g zm_X1_pivotRow (zΦi φ)) 0 [(0, .ref 97), (1, .int (zJ v1)), (2, .int (zJ v2))] [] 0 0 (zw μ)
  refine zw_iload_n (pc := 0) (n := 2) (i := 2) 2 (by decide +kernel) rfl rfl ?_
  refine zw_istore_n (pc := 1) (n := 3) (i := 3) (lv' := [(0, .ref 97), (1, .int (zJ v1)), (2, .int (zJ v2)), (3, .int (zJ v2))]) (by decide +kernel) rfl (Nat.le_of_ble_eq_true rfl) rfl ?_
  exact zw_pick (lv' := [(0, .ref 97), (1, .int (zJ v1)), (3, .int (zJ v2))]) [0, 1, 3] rfl h
theorem sg_X1_pivotRow_2 {g : zG} {φ : Int → zMu → Prop} {v1 : Int} {v3 : Int} {μ : zMu}
    (h : (zR v3) ∧ (zR (μ 97 7)) ∧ (((μ 97 7) ≤ v3 → φ (-1) μ) ∧ (v3 < (μ 97 7) → (0 ≤ v3 ∧ v3 < 80) ∧ (0 ≤ v1 ∧ v1 < 81) ∧ (zR (μ (99 + v3.toNat) v1.toNat)) ∧ (((μ (99 + v3.toNat) v1.toNat) = 0 → at_X1_pivotRow_2 g φ v1 (v3 + 1) μ) ∧ (¬ (μ (99 + v3.toNat) v1.toNat) = 0 → φ v3 μ))))) : at_X1_pivotRow_2 g φ v1 v3 μ := by
  obtain ⟨o1, o2, h⟩ := h
  refine zw_iload_n (pc := 2) (n := 3) (i := 3) 2 (by decide +kernel) rfl rfl ?_
  refine zw_aload_n (pc := 3) (n := 0) (i := 0) 0 (by decide +kernel) rfl rfl ?_
  refine zx_getI (pc := 4) zf_1_39 (by decide +kernel) rfl zc_97 ?_
  refine zw_icmp_ge (pc := 7) (off := 22) (tgt := 29) (by decide +kernel) (by decide) o1 o2 (fun hc => ?_) (fun hc => ?_)
  · replace h := h.1 hc
    refine zw_iconst (pc := 29) (n := (-1)) (by decide +kernel) ?_
    exact zw_iret (pc := 30) (by decide +kernel) rfl (Nat.le_refl _) (Nat.le_refl _) ⟨_, _, rfl, rfl, h⟩
  · replace h := h.2 hc
    obtain ⟨o3, o5, o6, h⟩ := h
    refine zw_aload_n (pc := 10) (n := 0) (i := 0) 0 (by decide +kernel) rfl rfl ?_
    refine zx_getR (pc := 11) (o := 1) (r := 98) zf_1_11 (by decide +kernel) rfl zc_97 rfl (by decide) rfl ?_
    refine zw_iload_n (pc := 14) (n := 3) (i := 3) 2 (by decide +kernel) rfl rfl ?_
    have q4 : zS (99 + v3.toNat) 12 81 := zS_cast (zqr_98 (j := v3.toNat) (by omega)) (by show 98 + 1 + 1 * v3.toNat = (99 + v3.toNat); omega)
    refine zx_aaload (pc := 15) (k := 15) (r := (99 + v3.toNat)) (by decide +kernel) (by decide) ⟨80, zc_98, o3.1, o3.2⟩ (by show 98 + 1 + 1 * v3.toNat = (99 + v3.toNat); omega) ?_
    refine zw_iload_n (pc := 16) (n := 1) (i := 1) 1 (by decide +kernel) rfl rfl ?_
    refine zx_iaload (pc := 17) (by decide +kernel) ⟨81, q4, o5.1, o5.2⟩ ?_
    refine zw_if_eq (pc := 18) (off := 5) (tgt := 23) (by decide +kernel) (by decide) o6 (fun hc => ?_) (fun hc => ?_)
    · replace h := h.1 hc
      refine zw_iinc (pc := 23) (i := 3) (n := 1) (lv' := [(0, .ref 97), (1, .int (zJ v1)), (3, .int (zJ (v3 + 1)))]) 2 (by decide +kernel) rfl rfl (Nat.le_of_ble_eq_true rfl) rfl ?_
      refine zw_goto (pc := 26) (off := (-24)) (tgt := 2) (by decide +kernel) (by decide) ?_
      exact h
    · replace h := h.2 hc
      refine zw_iload_n (pc := 21) (n := 3) (i := 3) 2 (by decide +kernel) rfl rfl ?_
      exact zw_iret (pc := 22) (by decide +kernel) rfl (Nat.le_refl _) (Nat.le_refl _) ⟨_, _, rfl, rfl, h⟩
abbrev at_X1_swapRows_9 (g : zG) (φ : zMu → Prop) (v1 : Int) (v2 : Int) (v4 : Int) (μ : zMu) : Prop := zWP g zm_X1_swapRows (zmo g zm_X1_swapRows (zΦv φ)) 9 [(0, .ref 97), (1, .int (zJ v1)), (2, .int (zJ v2)), (4, .int (zJ v4))] [] 0 0 (zw μ)
theorem sg_X1_swapRows {g : zG} {φ : zMu → Prop} {v1 : Int} {v2 : Int} {v3 : Int} {μ : zMu}
    (h : (zR v1) ∧ (zR v2) ∧ ((¬ v1 = v2 → at_X1_swapRows_9 g φ v1 v2 v3 μ) ∧ (v1 = v2 → φ μ))) : zOv g zm_X1_swapRows [.ref 97, .int (zJ v1), .int (zJ v2), .int (zJ v3)] μ φ := by
  refine zok_of (by decide +kernel) rfl ?_
  show zWP g zm_X1_swapRows (zmo g zm_X1_swapRows (zΦv φ)) 0 [(0, .ref 97), (1, .int (zJ v1)), (2, .int (zJ v2)), (3, .int (zJ v3))] [] 0 0 (zw μ)
  obtain ⟨o1, o2, h⟩ := h
  refine zw_iload_n (pc := 0) (n := 1) (i := 1) 1 (by decide +kernel) rfl rfl ?_
  refine zw_iload_n (pc := 1) (n := 2) (i := 2) 2 (by decide +kernel) rfl rfl ?_
  refine zw_icmp_ne (pc := 2) (off := 4) (tgt := 6) (by decide +kernel) (by decide) o1 o2 (fun hc => ?_) (fun hc => ?_)
  · replace h := h.1 hc
    refine zw_iload_n (pc := 6) (n := 3) (i := 3) 3 (by decide +kernel) rfl rfl ?_
    refine zw_istore (pc := 7) (i := 4) (lv' := [(0, .ref 97), (1, .int (zJ v1)), (2, .int (zJ v2)), (3, .int (zJ v3)), (4, .int (zJ v3))]) (by decide +kernel) (Nat.le_of_ble_eq_true rfl) rfl ?_
    exact zw_pick (lv' := [(0, .ref 97), (1, .int (zJ v1)), (2, .int (zJ v2)), (4, .int (zJ v3))]) [0, 1, 2, 4] rfl h
  · replace h := h.2 hc
    exact zw_vret (pc := 5) (by decide +kernel) rfl (Nat.le_refl _) (Nat.le_refl _) ⟨_, rfl, rfl, h⟩
theorem sg_X1_swapRows_9 {g : zG} {φ : zMu → Prop} {v1 : Int} {v2 : Int} {v4 : Int} {μ : zMu}
    (h : (zR v4) ∧ (zR (μ 97 6)) ∧ (((μ 97 6) ≤ v4 → φ μ) ∧ (v4 < (μ 97 6) → (0 ≤ v1 ∧ v1 < 80) ∧ (0 ≤ v4 ∧ v4 < 81) ∧ (0 ≤ v2 ∧ v2 < 80) ∧ at_X1_swapRows_9 g φ v1 v2 (v4 + 1) (zup (zup μ (99 + v1.toNat) v4.toNat (μ (99 + v2.toNat) v4.toNat)) (99 + v2.toNat) v4.toNat (μ (99 + v1.toNat) v4.toNat))))) : at_X1_swapRows_9 g φ v1 v2 v4 μ := by
  obtain ⟨o1, o2, h⟩ := h
  refine zw_iload (pc := 9) (i := 4) 3 (by decide +kernel) rfl ?_
  refine zw_aload_n (pc := 11) (n := 0) (i := 0) 0 (by decide +kernel) rfl rfl ?_
  refine zx_getI (pc := 12) zf_1_52 (by decide +kernel) rfl zc_97 ?_
  refine zw_icmp_ge (pc := 15) (off := 49) (tgt := 64) (by decide +kernel) (by decide) o1 o2 (fun hc => ?_) (fun hc => ?_)
  · replace h := h.1 hc
    exact zw_vret (pc := 64) (by decide +kernel) rfl (Nat.le_refl _) (Nat.le_refl _) ⟨_, rfl, rfl, h⟩
  · replace h := h.2 hc
    obtain ⟨o3, o5, o7, h⟩ := h
    refine zw_aload_n (pc := 18) (n := 0) (i := 0) 0 (by decide +kernel) rfl rfl ?_
    refine zx_getR (pc := 19) (o := 1) (r := 98) zf_1_11 (by decide +kernel) rfl zc_97 rfl (by decide) rfl ?_
    refine zw_iload_n (pc := 22) (n := 1) (i := 1) 1 (by decide +kernel) rfl rfl ?_
    have q4 : zS (99 + v1.toNat) 12 81 := zS_cast (zqr_98 (j := v1.toNat) (by omega)) (by show 98 + 1 + 1 * v1.toNat = (99 + v1.toNat); omega)
    refine zx_aaload (pc := 23) (k := 15) (r := (99 + v1.toNat)) (by decide +kernel) (by decide) ⟨80, zc_98, o3.1, o3.2⟩ (by show 98 + 1 + 1 * v1.toNat = (99 + v1.toNat); omega) ?_
    refine zw_iload (pc := 24) (i := 4) 3 (by decide +kernel) rfl ?_
    refine zx_iaload (pc := 26) (by decide +kernel) ⟨81, q4, o5.1, o5.2⟩ ?_
    refine zw_istore (pc := 27) (i := 5) (lv' := [(0, .ref 97), (1, .int (zJ v1)), (2, .int (zJ v2)), (4, .int (zJ v4)), (5, .int (zJ (μ (99 + v1.toNat) v4.toNat)))]) (by decide +kernel) (Nat.le_of_ble_eq_true rfl) rfl ?_
    refine zw_aload_n (pc := 29) (n := 0) (i := 0) 0 (by decide +kernel) rfl rfl ?_
    refine zx_getR (pc := 30) (o := 1) (r := 98) zf_1_11 (by decide +kernel) rfl zc_97 rfl (by decide) rfl ?_
    refine zw_iload_n (pc := 33) (n := 1) (i := 1) 1 (by decide +kernel) rfl rfl ?_
    have q6 : zS (99 + v1.toNat) 12 81 := zS_cast (zqr_98 (j := v1.toNat) (by omega)) (by show 98 + 1 + 1 * v1.toNat = (99 + v1.toNat); omega)
    refine zx_aaload (pc := 34) (k := 15) (r := (99 + v1.toNat)) (by decide +kernel) (by decide) ⟨80, zc_98, o3.1, o3.2⟩ (by show 98 + 1 + 1 * v1.toNat = (99 + v1.toNat); omega) ?_
    refine zw_iload (pc := 35) (i := 4) 3 (by decide +kernel) rfl ?_
    refine zw_aload_n (pc := 37) (n := 0) (i := 0) 0 (by decide +kernel) rfl rfl ?_
    refine zx_getR (pc := 38) (o := 1) (r := 98) zf_1_11 (by decide +kernel) rfl zc_97 rfl (by decide) rfl ?_
    refine zw_iload_n (pc := 41) (n := 2) (i := 2) 2 (by decide +kernel) rfl rfl ?_
    have q8 : zS (99 + v2.toNat) 12 81 := zS_cast (zqr_98 (j := v2.toNat) (by omega)) (by show 98 + 1 + 1 * v2.toNat = (99 + v2.toNat); omega)
    refine zx_aaload (pc := 42) (k := 15) (r := (99 + v2.toNat)) (by decide +kernel) (by decide) ⟨80, zc_98, o7.1, o7.2⟩ (by show 98 + 1 + 1 * v2.toNat = (99 + v2.toNat); omega) ?_
    refine zw_iload (pc := 43) (i := 4) 3 (by decide +kernel) rfl ?_
    refine zx_iaload (pc := 45) (by decide +kernel) ⟨81, q8, o5.1, o5.2⟩ ?_
    refine zx_iastore (pc := 46) (by decide +kernel) ⟨81, q6, o5.1, o5.2⟩ ?_
    refine zw_aload_n (pc := 47) (n := 0) (i := 0) 0 (by decide +kernel) rfl rfl ?_
    refine zx_getR (pc := 48) (o := 1) (r := 98) zf_1_11 (by decide +kernel) rfl zc_97 rfl (by decide) rfl ?_
    refine zw_iload_n (pc := 51) (n := 2) (i := 2) 2 (by decide +kernel) rfl rfl ?_
    have q9 : zS (99 + v2.toNat) 12 81 := zS_cast (zqr_98 (j := v2.toNat) (by omega)) (by show 98 + 1 + 1 * v2.toNat = (99 + v2.toNat); omega)
    refine zx_aaload (pc := 52) (k := 15) (r := (99 + v2.toNat)) (by decide +kernel) (by decide) ⟨80, zc_98, o7.1, o7.2⟩ (by show 98 + 1 + 1 * v2.toNat = (99 + v2.toNat); omega) ?_
    refine zw_iload (pc := 53) (i := 4) 3 (by decide +kernel) rfl ?_
    refine zw_iload (pc := 55) (i := 5) 4 (by decide +kernel) rfl ?_
    refine zx_iastore (pc := 57) (by decide +kernel) ⟨81, q9, o5.1, o5.2⟩ ?_
    refine zw_iinc (pc := 58) (i := 4) (n := 1) (lv' := [(0, .ref 97), (1, .int (zJ v1)), (2, .int (zJ v2)), (4, .int (zJ (v4 + 1))), (5, .int (zJ (μ (99 + v1.toNat) v4.toNat)))]) 3 (by decide +kernel) rfl rfl (Nat.le_of_ble_eq_true rfl) rfl ?_
    refine zw_goto (pc := 61) (off := (-52)) (tgt := 9) (by decide +kernel) (by decide) ?_
    exact zw_pick (lv' := [(0, .ref 97), (1, .int (zJ v1)), (2, .int (zJ v2)), (4, .int (zJ (v4 + 1)))]) [0, 1, 2, 3] rfl h
abbrev at_X1_scaleRow_19 (g : zG) (φ : zMu → Prop) (v1 : Int) (v3 : Int) (v4 : Int) (μ : zMu) : Prop := zWP g zm_X1_scaleRow (zmo g zm_X1_scaleRow (zΦv φ)) 19 [(0, .ref 97), (1, .int (zJ v1)), (3, .int (zJ v3)), (4, .int (zJ v4))] [] 0 0 (zw μ)
theorem sg_X1_scaleRow {g : zG} {φ : zMu → Prop} {v1 : Int} {v2 : Int} {μ : zMu}
    (h : (0 ≤ v1 ∧ v1 < 80) ∧ (0 ≤ v2 ∧ v2 < 81) ∧ zOi g zm_X10_inverse [.int (zJ (μ (99 + v1.toNat) v2.toNat)), .int (zJ (μ 97 9))] μ (fun x5 μ4 => at_X1_scaleRow_19 g φ v1 x5 v2 μ4)) : zOv g zm_X1_scaleRow [.ref 97, .int (zJ v1), .int (zJ v2)] μ φ := by
  refine zok_of (by decide +kernel) rfl ?_
  show zWP g zm_X1_scaleRow (zmo g zm_X1_scaleRow (zΦv φ)) 0 [(0, .ref 97), (1, .int (zJ v1)), (2, .int (zJ v2))] [] 0 0 (zw μ)
  obtain ⟨o1, o3, h⟩ := h
  refine zw_aload_n (pc := 0) (n := 0) (i := 0) 0 (by decide +kernel) rfl rfl ?_
  refine zx_getR (pc := 1) (o := 1) (r := 98) zf_1_11 (by decide +kernel) rfl zc_97 rfl (by decide) rfl ?_
  refine zw_iload_n (pc := 4) (n := 1) (i := 1) 1 (by decide +kernel) rfl rfl ?_
  have q2 : zS (99 + v1.toNat) 12 81 := zS_cast (zqr_98 (j := v1.toNat) (by omega)) (by show 98 + 1 + 1 * v1.toNat = (99 + v1.toNat); omega)
  refine zx_aaload (pc := 5) (k := 15) (r := (99 + v1.toNat)) (by decide +kernel) (by decide) ⟨80, zc_98, o1.1, o1.2⟩ (by show 98 + 1 + 1 * v1.toNat = (99 + v1.toNat); omega) ?_
  refine zw_iload_n (pc := 6) (n := 2) (i := 2) 2 (by decide +kernel) rfl rfl ?_
  refine zx_iaload (pc := 7) (by decide +kernel) ⟨81, q2, o3.1, o3.2⟩ ?_
  refine zw_aload_n (pc := 8) (n := 0) (i := 0) 0 (by decide +kernel) rfl rfl ?_
  refine zx_getI (pc := 9) zf_1_45 (by decide +kernel) rfl zc_97 ?_
  refine zx_callSN (pc := 12) (As := [.int (zJ (μ (99 + v1.toNat) v2.toNat)), .int (zJ (μ 97 9))]) h zi_X10_inverse zis_X10_inverse zn_1_98 (by decide +kernel) ⟨Nat.le_of_ble_eq_true rfl, Nat.le_of_ble_eq_true rfl⟩ rfl rfl ⟨rfl, rfl⟩ ⟨Nat.zero_le _, Nat.zero_le _⟩ (zki (fun x5 μ4 h => ?_))
  refine zw_istore_n (pc := 15) (n := 3) (i := 3) (lv' := [(0, .ref 97), (1, .int (zJ v1)), (2, .int (zJ v2)), (3, .int (zJ x5))]) (by decide +kernel) rfl (Nat.le_of_ble_eq_true rfl) rfl ?_
  refine zw_iload_n (pc := 16) (n := 2) (i := 2) 2 (by decide +kernel) rfl rfl ?_
  refine zw_istore (pc := 17) (i := 4) (lv' := [(0, .ref 97), (1, .int (zJ v1)), (2, .int (zJ v2)), (3, .int (zJ x5)), (4, .int (zJ v2))]) (by decide +kernel) (Nat.le_of_ble_eq_true rfl) rfl ?_
  exact zw_pick (lv' := [(0, .ref 97), (1, .int (zJ v1)), (3, .int (zJ x5)), (4, .int (zJ v2))]) [0, 1, 3, 4] rfl h
theorem sg_X1_scaleRow_19 {g : zG} {φ : zMu → Prop} {v1 : Int} {v3 : Int} {v4 : Int} {μ : zMu}
    (h : (zR v4) ∧ (zR (μ 97 6)) ∧ (((μ 97 6) ≤ v4 → φ μ) ∧ (v4 < (μ 97 6) → (0 ≤ v1 ∧ v1 < 80) ∧ (0 ≤ v4 ∧ v4 < 81) ∧ (zR ((μ (99 + v1.toNat) v4.toNat) * v3)) ∧ (zR (μ 97 9)) ∧ ((μ 97 9) ≠ 0) ∧ at_X1_scaleRow_19 g φ v1 v3 (v4 + 1) (zup μ (99 + v1.toNat) v4.toNat (((μ (99 + v1.toNat) v4.toNat) * v3).tmod (μ 97 9)))))) : at_X1_scaleRow_19 g φ v1 v3 v4 μ := by
  obtain ⟨o1, o2, h⟩ := h
  refine zw_iload (pc := 19) (i := 4) 3 (by decide +kernel) rfl ?_
  refine zw_aload_n (pc := 21) (n := 0) (i := 0) 0 (by decide +kernel) rfl rfl ?_
  refine zx_getI (pc := 22) zf_1_52 (by decide +kernel) rfl zc_97 ?_
  refine zw_icmp_ge (pc := 25) (off := 34) (tgt := 59) (by decide +kernel) (by decide) o1 o2 (fun hc => ?_) (fun hc => ?_)
  · replace h := h.1 hc
    exact zw_vret (pc := 59) (by decide +kernel) rfl (Nat.le_refl _) (Nat.le_refl _) ⟨_, rfl, rfl, h⟩
  · replace h := h.2 hc
    obtain ⟨o3, o6, o7, o8, o9, h⟩ := h
    refine zw_aload_n (pc := 28) (n := 0) (i := 0) 0 (by decide +kernel) rfl rfl ?_
    refine zx_getR (pc := 29) (o := 1) (r := 98) zf_1_11 (by decide +kernel) rfl zc_97 rfl (by decide) rfl ?_
    refine zw_iload_n (pc := 32) (n := 1) (i := 1) 1 (by decide +kernel) rfl rfl ?_
    have q4 : zS (99 + v1.toNat) 12 81 := zS_cast (zqr_98 (j := v1.toNat) (by omega)) (by show 98 + 1 + 1 * v1.toNat = (99 + v1.toNat); omega)
    refine zx_aaload (pc := 33) (k := 15) (r := (99 + v1.toNat)) (by decide +kernel) (by decide) ⟨80, zc_98, o3.1, o3.2⟩ (by show 98 + 1 + 1 * v1.toNat = (99 + v1.toNat); omega) ?_
    refine zw_iload (pc := 34) (i := 4) 3 (by decide +kernel) rfl ?_
    refine zw_aload_n (pc := 36) (n := 0) (i := 0) 0 (by decide +kernel) rfl rfl ?_
    refine zx_getR (pc := 37) (o := 1) (r := 98) zf_1_11 (by decide +kernel) rfl zc_97 rfl (by decide) rfl ?_
    refine zw_iload_n (pc := 40) (n := 1) (i := 1) 1 (by decide +kernel) rfl rfl ?_
    have q5 : zS (99 + v1.toNat) 12 81 := zS_cast (zqr_98 (j := v1.toNat) (by omega)) (by show 98 + 1 + 1 * v1.toNat = (99 + v1.toNat); omega)
    refine zx_aaload (pc := 41) (k := 15) (r := (99 + v1.toNat)) (by decide +kernel) (by decide) ⟨80, zc_98, o3.1, o3.2⟩ (by show 98 + 1 + 1 * v1.toNat = (99 + v1.toNat); omega) ?_
    refine zw_iload (pc := 42) (i := 4) 3 (by decide +kernel) rfl ?_
    refine zx_iaload (pc := 44) (by decide +kernel) ⟨81, q5, o6.1, o6.2⟩ ?_
    refine zw_iload_n (pc := 45) (n := 3) (i := 3) 2 (by decide +kernel) rfl rfl ?_
    refine zw_imul (pc := 46) (by decide +kernel) ?_
    refine zw_aload_n (pc := 47) (n := 0) (i := 0) 0 (by decide +kernel) rfl rfl ?_
    refine zx_getI (pc := 48) zf_1_45 (by decide +kernel) rfl zc_97 ?_
    refine zw_irem (pc := 51) (by decide +kernel) o7 o8 o9 ?_
    refine zx_iastore (pc := 52) (by decide +kernel) ⟨81, q4, o6.1, o6.2⟩ ?_
    refine zw_iinc (pc := 53) (i := 4) (n := 1) (lv' := [(0, .ref 97), (1, .int (zJ v1)), (3, .int (zJ v3)), (4, .int (zJ (v4 + 1)))]) 3 (by decide +kernel) rfl rfl (Nat.le_of_ble_eq_true rfl) rfl ?_
    refine zw_goto (pc := 56) (off := (-37)) (tgt := 19) (by decide +kernel) (by decide) ?_
    exact h
abbrev at_X1_clearBelow_12 (g : zG) (φ : zMu → Prop) (v2 : Int) (r3 : Nat) (v4 : Int) (μ : zMu) : Prop := zWP g zm_X1_clearBelow (zmo g zm_X1_clearBelow (zΦv φ)) 12 [(0, .ref 97), (2, .int (zJ v2)), (3, .ref r3), (4, .int (zJ v4))] [] 0 0 (zw μ)
abbrev at_X1_clearBelow_51 (g : zG) (φ : zMu → Prop) (v2 : Int) (r3 : Nat) (v4 : Int) (r5 : Nat) (v6 : Int) (v7 : Int) (μ : zMu) : Prop := zWP g zm_X1_clearBelow (zmo g zm_X1_clearBelow (zΦv φ)) 51 [(0, .ref 97), (2, .int (zJ v2)), (3, .ref r3), (4, .int (zJ v4)), (5, .ref r5), (6, .int (zJ v6)), (7, .int (zJ v7))] [] 0 0 (zw μ)
theorem sg_X1_clearBelow {g : zG} {φ : zMu → Prop} {v1 : Int} {v2 : Int} {μ : zMu}
    (h : (0 ≤ v1 ∧ v1 < 80) ∧ at_X1_clearBelow_12 g φ v2 (99 + v1.toNat) (v1 + 1) μ) : zOv g zm_X1_clearBelow [.ref 97, .int (zJ v1), .int (zJ v2)] μ φ := by
  refine zok_of (by decide +kernel) rfl ?_
  show zWP g zm_X1_clearBelow (zmo g zm_X1_clearBelow (zΦv φ)) 0 [(0, .ref 97), (1, .int (zJ v1)), (2, .int (zJ v2))] [] 0 0 (zw μ)
  obtain ⟨o1, h⟩ := h
  refine zw_aload_n (pc := 0) (n := 0) (i := 0) 0 (by decide +kernel) rfl rfl ?_
  refine zx_getR (pc := 1) (o := 1) (r := 98) zf_1_11 (by decide +kernel) rfl zc_97 rfl (by decide) rfl ?_
  refine zw_iload_n (pc := 4) (n := 1) (i := 1) 1 (by decide +kernel) rfl rfl ?_
  have q2 : zS (99 + v1.toNat) 12 81 := zS_cast (zqr_98 (j := v1.toNat) (by omega)) (by show 98 + 1 + 1 * v1.toNat = (99 + v1.toNat); omega)
  refine zx_aaload (pc := 5) (k := 15) (r := (99 + v1.toNat)) (by decide +kernel) (by decide) ⟨80, zc_98, o1.1, o1.2⟩ (by show 98 + 1 + 1 * v1.toNat = (99 + v1.toNat); omega) ?_
  refine zw_astore_n (pc := 6) (n := 3) (i := 3) (lv' := [(0, .ref 97), (1, .int (zJ v1)), (2, .int (zJ v2)), (3, .ref (99 + v1.toNat))]) (by decide +kernel) rfl (Nat.le_of_ble_eq_true rfl) rfl ?_
  refine zw_iload_n (pc := 7) (n := 1) (i := 1) 1 (by decide +kernel) rfl rfl ?_
  refine zw_iconst (pc := 8) (n := 1) (by decide +kernel) ?_
  refine zw_iadd (pc := 9) (by decide +kernel) ?_
  refine zw_istore (pc := 10) (i := 4) (lv' := [(0, .ref 97), (1, .int (zJ v1)), (2, .int (zJ v2)), (3, .ref (99 + v1.toNat)), (4, .int (zJ (v1 + 1)))]) (by decide +kernel) (Nat.le_of_ble_eq_true rfl) rfl ?_
  exact zw_pick (lv' := [(0, .ref 97), (2, .int (zJ v2)), (3, .ref (99 + v1.toNat)), (4, .int (zJ (v1 + 1)))]) [0, 2, 3, 4] rfl h
theorem sg_X1_clearBelow_12 {g : zG} {φ : zMu → Prop} {v2 : Int} {r3 : Nat} {v4 : Int} {μ : zMu} (h_r3 : zS r3 12 81)
    (h : (zR v4) ∧ (zR (μ 97 7)) ∧ (((μ 97 7) ≤ v4 → φ μ) ∧ (v4 < (μ 97 7) → (0 ≤ v4 ∧ v4 < 80) ∧ (0 ≤ v2 ∧ v2 < 81) ∧ (zR (μ (99 + v4.toNat) v2.toNat)) ∧ (((μ (99 + v4.toNat) v2.toNat) = 0 → at_X1_clearBelow_12 g φ v2 r3 (v4 + 1) μ) ∧ (¬ (μ (99 + v4.toNat) v2.toNat) = 0 → at_X1_clearBelow_51 g φ v2 r3 v4 (99 + v4.toNat) ((μ 97 9) - (μ (99 + v4.toNat) v2.toNat)) v2 μ))))) : at_X1_clearBelow_12 g φ v2 r3 v4 μ := by
  obtain ⟨o1, o2, h⟩ := h
  refine zw_iload (pc := 12) (i := 4) 3 (by decide +kernel) rfl ?_
  refine zw_aload_n (pc := 14) (n := 0) (i := 0) 0 (by decide +kernel) rfl rfl ?_
  refine zx_getI (pc := 15) zf_1_39 (by decide +kernel) rfl zc_97 ?_
  refine zw_icmp_ge (pc := 18) (off := 77) (tgt := 95) (by decide +kernel) (by decide) o1 o2 (fun hc => ?_) (fun hc => ?_)
  · replace h := h.1 hc
    exact zw_vret (pc := 95) (by decide +kernel) rfl (Nat.le_refl _) (Nat.le_refl _) ⟨_, rfl, rfl, h⟩
  · replace h := h.2 hc
    obtain ⟨o3, o5, o6, h⟩ := h
    refine zw_aload_n (pc := 21) (n := 0) (i := 0) 0 (by decide +kernel) rfl rfl ?_
    refine zx_getR (pc := 22) (o := 1) (r := 98) zf_1_11 (by decide +kernel) rfl zc_97 rfl (by decide) rfl ?_
    refine zw_iload (pc := 25) (i := 4) 3 (by decide +kernel) rfl ?_
    have q4 : zS (99 + v4.toNat) 12 81 := zS_cast (zqr_98 (j := v4.toNat) (by omega)) (by show 98 + 1 + 1 * v4.toNat = (99 + v4.toNat); omega)
    refine zx_aaload (pc := 27) (k := 15) (r := (99 + v4.toNat)) (by decide +kernel) (by decide) ⟨80, zc_98, o3.1, o3.2⟩ (by show 98 + 1 + 1 * v4.toNat = (99 + v4.toNat); omega) ?_
    refine zw_astore (pc := 28) (i := 5) (lv' := [(0, .ref 97), (2, .int (zJ v2)), (3, .ref r3), (4, .int (zJ v4)), (5, .ref (99 + v4.toNat))]) (by decide +kernel) (Nat.le_of_ble_eq_true rfl) rfl ?_
    refine zw_aload (pc := 30) (i := 5) 4 (by decide +kernel) rfl ?_
    refine zw_iload_n (pc := 32) (n := 2) (i := 2) 1 (by decide +kernel) rfl rfl ?_
    refine zx_iaload (pc := 33) (by decide +kernel) ⟨81, q4, o5.1, o5.2⟩ ?_
    refine zw_if_eq (pc := 34) (off := 55) (tgt := 89) (by decide +kernel) (by decide) o6 (fun hc => ?_) (fun hc => ?_)
    · replace h := h.1 hc
      refine zw_iinc (pc := 89) (i := 4) (n := 1) (lv' := [(0, .ref 97), (2, .int (zJ v2)), (3, .ref r3), (4, .int (zJ (v4 + 1))), (5, .ref (99 + v4.toNat))]) 3 (by decide +kernel) rfl rfl (Nat.le_of_ble_eq_true rfl) rfl ?_
      refine zw_goto (pc := 92) (off := (-80)) (tgt := 12) (by decide +kernel) (by decide) ?_
      exact zw_pick (lv' := [(0, .ref 97), (2, .int (zJ v2)), (3, .ref r3), (4, .int (zJ (v4 + 1)))]) [0, 1, 2, 3] rfl h
    · replace h := h.2 hc
      refine zw_aload_n (pc := 37) (n := 0) (i := 0) 0 (by decide +kernel) rfl rfl ?_
      refine zx_getI (pc := 38) zf_1_45 (by decide +kernel) rfl zc_97 ?_
      refine zw_aload (pc := 41) (i := 5) 4 (by decide +kernel) rfl ?_
      refine zw_iload_n (pc := 43) (n := 2) (i := 2) 1 (by decide +kernel) rfl rfl ?_
      refine zx_iaload (pc := 44) (by decide +kernel) ⟨81, q4, o5.1, o5.2⟩ ?_
      refine zw_isub (pc := 45) (by decide +kernel) ?_
      refine zw_istore (pc := 46) (i := 6) (lv' := [(0, .ref 97), (2, .int (zJ v2)), (3, .ref r3), (4, .int (zJ v4)), (5, .ref (99 + v4.toNat)), (6, .int (zJ ((μ 97 9) - (μ (99 + v4.toNat) v2.toNat))))]) (by decide +kernel) (Nat.le_of_ble_eq_true rfl) rfl ?_
      refine zw_iload_n (pc := 48) (n := 2) (i := 2) 1 (by decide +kernel) rfl rfl ?_
      refine zw_istore (pc := 49) (i := 7) (lv' := [(0, .ref 97), (2, .int (zJ v2)), (3, .ref r3), (4, .int (zJ v4)), (5, .ref (99 + v4.toNat)), (6, .int (zJ ((μ 97 9) - (μ (99 + v4.toNat) v2.toNat)))), (7, .int (zJ v2))]) (by decide +kernel) (Nat.le_of_ble_eq_true rfl) rfl ?_
      exact h
theorem sg_X1_clearBelow_51 {g : zG} {φ : zMu → Prop} {v2 : Int} {r3 : Nat} {v4 : Int} {r5 : Nat} {v6 : Int} {v7 : Int} {μ : zMu} (h_r3 : zS r3 12 81) (h_r5 : zS r5 12 81)
    (h : (zR v7) ∧ (zR (μ 97 6)) ∧ (((μ 97 6) ≤ v7 → at_X1_clearBelow_12 g φ v2 r3 (v4 + 1) μ) ∧ (v7 < (μ 97 6) → (0 ≤ v7 ∧ v7 < 81) ∧ (zR ((μ r5 v7.toNat) + (v6 * (μ r3 v7.toNat)))) ∧ (zR (μ 97 9)) ∧ ((μ 97 9) ≠ 0) ∧ at_X1_clearBelow_51 g φ v2 r3 v4 r5 v6 (v7 + 1) (zup μ r5 v7.toNat (((μ r5 v7.toNat) + (v6 * (μ r3 v7.toNat))).tmod (μ 97 9)))))) : at_X1_clearBelow_51 g φ v2 r3 v4 r5 v6 v7 μ := by
  obtain ⟨o1, o2, h⟩ := h
  refine zw_iload (pc := 51) (i := 7) 6 (by decide +kernel) rfl ?_
  refine zw_aload_n (pc := 53) (n := 0) (i := 0) 0 (by decide +kernel) rfl rfl ?_
  refine zx_getI (pc := 54) zf_1_52 (by decide +kernel) rfl zc_97 ?_
  refine zw_icmp_ge (pc := 57) (off := 32) (tgt := 89) (by decide +kernel) (by decide) o1 o2 (fun hc => ?_) (fun hc => ?_)
  · replace h := h.1 hc
    refine zw_iinc (pc := 89) (i := 4) (n := 1) (lv' := [(0, .ref 97), (2, .int (zJ v2)), (3, .ref r3), (4, .int (zJ (v4 + 1))), (5, .ref r5), (6, .int (zJ v6)), (7, .int (zJ v7))]) 3 (by decide +kernel) rfl rfl (Nat.le_of_ble_eq_true rfl) rfl ?_
    refine zw_goto (pc := 92) (off := (-80)) (tgt := 12) (by decide +kernel) (by decide) ?_
    exact zw_pick (lv' := [(0, .ref 97), (2, .int (zJ v2)), (3, .ref r3), (4, .int (zJ (v4 + 1)))]) [0, 1, 2, 3] rfl h
  · replace h := h.2 hc
    obtain ⟨o3, o4, o5, o6, h⟩ := h
    refine zw_aload (pc := 60) (i := 5) 4 (by decide +kernel) rfl ?_
    refine zw_iload (pc := 62) (i := 7) 6 (by decide +kernel) rfl ?_
    refine zw_aload (pc := 64) (i := 5) 4 (by decide +kernel) rfl ?_
    refine zw_iload (pc := 66) (i := 7) 6 (by decide +kernel) rfl ?_
    refine zx_iaload (pc := 68) (by decide +kernel) ⟨81, h_r5, o3.1, o3.2⟩ ?_
    refine zw_iload (pc := 69) (i := 6) 5 (by decide +kernel) rfl ?_
    refine zw_aload_n (pc := 71) (n := 3) (i := 3) 2 (by decide +kernel) rfl rfl ?_
    refine zw_iload (pc := 72) (i := 7) 6 (by decide +kernel) rfl ?_
    refine zx_iaload (pc := 74) (by decide +kernel) ⟨81, h_r3, o3.1, o3.2⟩ ?_
    refine zw_imul (pc := 75) (by decide +kernel) ?_
    refine zw_iadd (pc := 76) (by decide +kernel) ?_
    refine zw_aload_n (pc := 77) (n := 0) (i := 0) 0 (by decide +kernel) rfl rfl ?_
    refine zx_getI (pc := 78) zf_1_45 (by decide +kernel) rfl zc_97 ?_
    refine zw_irem (pc := 81) (by decide +kernel) o4 o5 o6 ?_
    refine zx_iastore (pc := 82) (by decide +kernel) ⟨81, h_r5, o3.1, o3.2⟩ ?_
    refine zw_iinc (pc := 83) (i := 7) (n := 1) (lv' := [(0, .ref 97), (2, .int (zJ v2)), (3, .ref r3), (4, .int (zJ v4)), (5, .ref r5), (6, .int (zJ v6)), (7, .int (zJ (v7 + 1)))]) 6 (by decide +kernel) rfl rfl (Nat.le_of_ble_eq_true rfl) rfl ?_
    refine zw_goto (pc := 86) (off := (-35)) (tgt := 51) (by decide +kernel) (by decide) ?_
    exact h
abbrev at_X1_handOver_14 (g : zG) (φ : zMu → Prop) (v1 : Nat) (v2 : Int) (μ : zMu) : Prop := zWP g zm_X1_handOver (zmo g zm_X1_handOver (zΦv φ)) 14 [(0, .ref 97), (1, .ref v1), (2, .int (zJ v2))] [] 0 0 (zw μ)
theorem sg_X1_handOver {g : zG} {φ : zMu → Prop} {v1 : Nat} {μ : zMu} (h_v1 : zS v1 3 2)
    (h : zOv g zm_X1_solve [.ref 97] μ (fun μ1 => zOv g zm_X3_clear [.ref v1, .int (zJ (μ1 97 4))] μ1 (fun μ2 => at_X1_handOver_14 g φ v1 0 μ2))) : zOv g zm_X1_handOver [.ref 97, .ref v1] μ φ := by
  refine zok_of (by decide +kernel) rfl ?_
  show zWP g zm_X1_handOver (zmo g zm_X1_handOver (zΦv φ)) 0 [(0, .ref 97), (1, .ref v1)] [] 0 0 (zw μ)
  refine zw_aload_n (pc := 0) (n := 0) (i := 0) 0 (by decide +kernel) rfl rfl ?_
  refine zx_callV (pc := 1) (As := []) h zi_X1_solve zii_X1_solve zie_X1_solve zl_1_101 (by decide +kernel) ⟨Nat.le_of_ble_eq_true rfl, Nat.le_of_ble_eq_true rfl⟩ rfl zc_97 (by decide) rfl rfl ⟨rfl, rfl⟩ ⟨Nat.zero_le _, Nat.zero_le _⟩ (zkv (fun μ1 h => ?_))
  refine zw_aload_n (pc := 4) (n := 1) (i := 1) 1 (by decide +kernel) rfl rfl ?_
  refine zw_aload_n (pc := 5) (n := 0) (i := 0) 0 (by decide +kernel) rfl rfl ?_
  refine zx_getI (pc := 6) zf_1_26 (by decide +kernel) rfl zc_97 ?_
  refine zx_callV (pc := 9) (As := [.int (zJ (μ1 97 4))]) h zi_X3_clear zii_X3_clear zie_X3_clear zl_1_104 (by decide +kernel) ⟨Nat.le_of_ble_eq_true rfl, Nat.le_of_ble_eq_true rfl⟩ rfl h_v1 (by decide) rfl rfl ⟨rfl, rfl⟩ ⟨Nat.zero_le _, Nat.zero_le _⟩ (zkv (fun μ2 h => ?_))
  refine zw_iconst (pc := 12) (n := 0) (by decide +kernel) ?_
  refine zw_istore_n (pc := 13) (n := 2) (i := 2) (lv' := [(0, .ref 97), (1, .ref v1), (2, .int (zJ 0))]) (by decide +kernel) rfl (Nat.le_of_ble_eq_true rfl) rfl ?_
  exact h
theorem sg_X1_handOver_14 {g : zG} {φ : zMu → Prop} {v1 : Nat} {v2 : Int} {μ : zMu} (h_v1 : zS v1 3 2)
    (h : (zR v2) ∧ (zR (μ 97 8)) ∧ (((μ 97 8) < v2 → φ μ) ∧ (v2 ≤ (μ 97 8) → (0 ≤ v2 ∧ v2 < 81) ∧ (0 ≤ ((9 * (μ 179 v2.toNat)) + (μ 180 v2.toNat)) ∧ ((9 * (μ 179 v2.toNat)) + (μ 180 v2.toNat)) < 81) ∧ (zR ((zup μ (v1 + 1) (Int.toNat ((9 * (μ 179 v2.toNat)) + (μ 180 v2.toNat))) (μ 181 v2.toNat)) 97 5)) ∧ ((((zup μ (v1 + 1) (Int.toNat ((9 * (μ 179 v2.toNat)) + (μ 180 v2.toNat))) (μ 181 v2.toNat)) 97 5) = 0 → at_X1_handOver_14 g φ v1 (v2 + 1) (zup μ (v1 + 1) (Int.toNat ((9 * (μ 179 v2.toNat)) + (μ 180 v2.toNat))) (μ 181 v2.toNat))) ∧ (¬ ((zup μ (v1 + 1) (Int.toNat ((9 * (μ 179 v2.toNat)) + (μ 180 v2.toNat))) (μ 181 v2.toNat)) 97 5) = 0 → (0 ≤ ((9 * ((zup μ (v1 + 1) (Int.toNat ((9 * (μ 179 v2.toNat)) + (μ 180 v2.toNat))) (μ 181 v2.toNat)) 180 v2.toNat)) + ((zup μ (v1 + 1) (Int.toNat ((9 * (μ 179 v2.toNat)) + (μ 180 v2.toNat))) (μ 181 v2.toNat)) 179 v2.toNat)) ∧ ((9 * ((zup μ (v1 + 1) (Int.toNat ((9 * (μ 179 v2.toNat)) + (μ 180 v2.toNat))) (μ 181 v2.toNat)) 180 v2.toNat)) + ((zup μ (v1 + 1) (Int.toNat ((9 * (μ 179 v2.toNat)) + (μ 180 v2.toNat))) (μ 181 v2.toNat)) 179 v2.toNat)) < 81) ∧ at_X1_handOver_14 g φ v1 (v2 + 1) (zup (zup μ (v1 + 1) (Int.toNat ((9 * (μ 179 v2.toNat)) + (μ 180 v2.toNat))) (μ 181 v2.toNat)) (v1 + 1) (Int.toNat ((9 * ((zup μ (v1 + 1) (Int.toNat ((9 * (μ 179 v2.toNat)) + (μ 180 v2.toNat))) (μ 181 v2.toNat)) 180 v2.toNat)) + ((zup μ (v1 + 1) (Int.toNat ((9 * (μ 179 v2.toNat)) + (μ 180 v2.toNat))) (μ 181 v2.toNat)) 179 v2.toNat))) ((zup μ (v1 + 1) (Int.toNat ((9 * (μ 179 v2.toNat)) + (μ 180 v2.toNat))) (μ 181 v2.toNat)) 181 v2.toNat))))))) : at_X1_handOver_14 g φ v1 v2 μ := by
  obtain ⟨o1, o2, h⟩ := h
  refine zw_iload_n (pc := 14) (n := 2) (i := 2) 2 (by decide +kernel) rfl rfl ?_
  refine zw_aload_n (pc := 15) (n := 0) (i := 0) 0 (by decide +kernel) rfl rfl ?_
  refine zx_getI (pc := 16) zf_1_76 (by decide +kernel) rfl zc_97 ?_
  refine zw_icmp_gt (pc := 19) (off := 70) (tgt := 89) (by decide +kernel) (by decide) o1 o2 (fun hc => ?_) (fun hc => ?_)
  · replace h := h.1 hc
    exact zw_vret (pc := 89) (by decide +kernel) rfl (Nat.le_refl _) (Nat.le_refl _) ⟨_, rfl, rfl, h⟩
  · replace h := h.2 hc
    obtain ⟨o4, o5, o6, h⟩ := h
    refine zw_aload_n (pc := 22) (n := 1) (i := 1) 1 (by decide +kernel) rfl rfl ?_
    have q3 : zS (v1 + 1) 12 81 := zq 0 h_v1 rfl
    refine zx_getR (pc := 23) (o := 1) (r := (v1 + 1)) zf_1_110 (by decide +kernel) rfl h_v1 rfl (by decide) rfl ?_
    refine zw_bipush (pc := 26) (n := 9) (by decide +kernel) (by decide +kernel) ?_
    refine zw_aload_n (pc := 28) (n := 0) (i := 0) 0 (by decide +kernel) rfl rfl ?_
    refine zx_getR (pc := 29) (o := 82) (r := 179) zf_1_16 (by decide +kernel) rfl zc_97 rfl (by decide) rfl ?_
    refine zw_iload_n (pc := 32) (n := 2) (i := 2) 2 (by decide +kernel) rfl rfl ?_
    refine zx_iaload (pc := 33) (by decide +kernel) ⟨81, zc_179, o4.1, o4.2⟩ ?_
    refine zw_imul (pc := 34) (by decide +kernel) ?_
    refine zw_aload_n (pc := 35) (n := 0) (i := 0) 0 (by decide +kernel) rfl rfl ?_
    refine zx_getR (pc := 36) (o := 83) (r := 180) zf_1_20 (by decide +kernel) rfl zc_97 rfl (by decide) rfl ?_
    refine zw_iload_n (pc := 39) (n := 2) (i := 2) 2 (by decide +kernel) rfl rfl ?_
    refine zx_iaload (pc := 40) (by decide +kernel) ⟨81, zc_180, o4.1, o4.2⟩ ?_
    refine zw_iadd (pc := 41) (by decide +kernel) ?_
    refine zw_aload_n (pc := 42) (n := 0) (i := 0) 0 (by decide +kernel) rfl rfl ?_
    refine zx_getR (pc := 43) (o := 84) (r := 181) zf_1_23 (by decide +kernel) rfl zc_97 rfl (by decide) rfl ?_
    refine zw_iload_n (pc := 46) (n := 2) (i := 2) 2 (by decide +kernel) rfl rfl ?_
    refine zx_iaload (pc := 47) (by decide +kernel) ⟨81, zc_181, o4.1, o4.2⟩ ?_
    refine zx_iastore (pc := 48) (by decide +kernel) ⟨81, q3, o5.1, o5.2⟩ ?_
    refine zw_aload_n (pc := 49) (n := 0) (i := 0) 0 (by decide +kernel) rfl rfl ?_
    refine zx_getI (pc := 50) zf_1_30 (by decide +kernel) rfl zc_97 ?_
    refine zw_if_eq (pc := 53) (off := 30) (tgt := 83) (by decide +kernel) (by decide) o6 (fun hc => ?_) (fun hc => ?_)
    · replace h := h.1 hc
      refine zw_iinc (pc := 83) (i := 2) (n := 1) (lv' := [(0, .ref 97), (1, .ref v1), (2, .int (zJ (v2 + 1)))]) 2 (by decide +kernel) rfl rfl (Nat.le_of_ble_eq_true rfl) rfl ?_
      refine zw_goto (pc := 86) (off := (-72)) (tgt := 14) (by decide +kernel) (by decide) ?_
      exact h
    · replace h := h.2 hc
      obtain ⟨o8, h⟩ := h
      refine zw_aload_n (pc := 56) (n := 1) (i := 1) 1 (by decide +kernel) rfl rfl ?_
      have q7 : zS (v1 + 1) 12 81 := zq 0 h_v1 rfl
      refine zx_getR (pc := 57) (o := 1) (r := (v1 + 1)) zf_1_110 (by decide +kernel) rfl h_v1 rfl (by decide) rfl ?_
      refine zw_bipush (pc := 60) (n := 9) (by decide +kernel) (by decide +kernel) ?_
      refine zw_aload_n (pc := 62) (n := 0) (i := 0) 0 (by decide +kernel) rfl rfl ?_
      refine zx_getR (pc := 63) (o := 83) (r := 180) zf_1_20 (by decide +kernel) rfl zc_97 rfl (by decide) rfl ?_
      refine zw_iload_n (pc := 66) (n := 2) (i := 2) 2 (by decide +kernel) rfl rfl ?_
      refine zx_iaload (pc := 67) (by decide +kernel) ⟨81, zc_180, o4.1, o4.2⟩ ?_
      refine zw_imul (pc := 68) (by decide +kernel) ?_
      refine zw_aload_n (pc := 69) (n := 0) (i := 0) 0 (by decide +kernel) rfl rfl ?_
      refine zx_getR (pc := 70) (o := 82) (r := 179) zf_1_16 (by decide +kernel) rfl zc_97 rfl (by decide) rfl ?_
      refine zw_iload_n (pc := 73) (n := 2) (i := 2) 2 (by decide +kernel) rfl rfl ?_
      refine zx_iaload (pc := 74) (by decide +kernel) ⟨81, zc_179, o4.1, o4.2⟩ ?_
      refine zw_iadd (pc := 75) (by decide +kernel) ?_
      refine zw_aload_n (pc := 76) (n := 0) (i := 0) 0 (by decide +kernel) rfl rfl ?_
      refine zx_getR (pc := 77) (o := 84) (r := 181) zf_1_23 (by decide +kernel) rfl zc_97 rfl (by decide) rfl ?_
      refine zw_iload_n (pc := 80) (n := 2) (i := 2) 2 (by decide +kernel) rfl rfl ?_
      refine zx_iaload (pc := 81) (by decide +kernel) ⟨81, zc_181, o4.1, o4.2⟩ ?_
      refine zx_iastore (pc := 82) (by decide +kernel) ⟨81, q7, o8.1, o8.2⟩ ?_
      refine zw_iinc (pc := 83) (i := 2) (n := 1) (lv' := [(0, .ref 97), (1, .ref v1), (2, .int (zJ (v2 + 1)))]) 2 (by decide +kernel) rfl rfl (Nat.le_of_ble_eq_true rfl) rfl ?_
      refine zw_goto (pc := 86) (off := (-72)) (tgt := 14) (by decide +kernel) (by decide) ?_
      exact h
abbrev at_X1_solve_17 (g : zG) (φ : zMu → Prop) (v1 : Int) (μ : zMu) : Prop := zWP g zm_X1_solve (zmo g zm_X1_solve (zΦv φ)) 17 [(0, .ref 97), (1, .int (zJ v1))] [] 0 0 (zw μ)
abbrev at_X1_solve_27 (g : zG) (φ : zMu → Prop) (v1 : Int) (v2 : Int) (v3 : Int) (μ : zMu) : Prop := zWP g zm_X1_solve (zmo g zm_X1_solve (zΦv φ)) 27 [(0, .ref 97), (1, .int (zJ v1)), (2, .int (zJ v2)), (3, .int (zJ v3))] [] 0 0 (zw μ)
theorem sg_X1_solve {g : zG} {φ : zMu → Prop} {μ : zMu}
    (h : (0 ≤ (μ 97 8) ∧ (μ 97 8) < 81) ∧ at_X1_solve_17 g φ (((zup μ 181 (Int.toNat (μ 97 8)) 1) 97 8) - 1) (zup μ 181 (Int.toNat (μ 97 8)) 1)) : zOv g zm_X1_solve [.ref 97] μ φ := by
  refine zok_of (by decide +kernel) rfl ?_
  show zWP g zm_X1_solve (zmo g zm_X1_solve (zΦv φ)) 0 [(0, .ref 97)] [] 0 0 (zw μ)
  obtain ⟨o1, h⟩ := h
  refine zw_aload_n (pc := 0) (n := 0) (i := 0) 0 (by decide +kernel) rfl rfl ?_
  refine zx_getR (pc := 1) (o := 84) (r := 181) zf_1_23 (by decide +kernel) rfl zc_97 rfl (by decide) rfl ?_
  refine zw_aload_n (pc := 4) (n := 0) (i := 0) 0 (by decide +kernel) rfl rfl ?_
  refine zx_getI (pc := 5) zf_1_76 (by decide +kernel) rfl zc_97 ?_
  refine zw_iconst (pc := 8) (n := 1) (by decide +kernel) ?_
  refine zx_iastore (pc := 9) (by decide +kernel) ⟨81, zc_181, o1.1, o1.2⟩ ?_
  refine zw_aload_n (pc := 10) (n := 0) (i := 0) 0 (by decide +kernel) rfl rfl ?_
  refine zx_getI (pc := 11) zf_1_76 (by decide +kernel) rfl zc_97 ?_
  refine zw_iconst (pc := 14) (n := 1) (by decide +kernel) ?_
  refine zw_isub (pc := 15) (by decide +kernel) ?_
  refine zw_istore_n (pc := 16) (n := 1) (i := 1) (lv' := [(0, .ref 97), (1, .int (zJ (((zup μ 181 (Int.toNat (μ 97 8)) 1) 97 8) - 1)))]) (by decide +kernel) rfl (Nat.le_of_ble_eq_true rfl) rfl ?_
  exact h
theorem sg_X1_solve_17 {g : zG} {φ : zMu → Prop} {v1 : Int} {μ : zMu}
    (h : (zR v1) ∧ ((v1 < 0 → φ μ) ∧ (0 ≤ v1 → at_X1_solve_27 g φ v1 0 (v1 + 1) μ))) : at_X1_solve_17 g φ v1 μ := by
  obtain ⟨o1, h⟩ := h
  refine zw_iload_n (pc := 17) (n := 1) (i := 1) 1 (by decide +kernel) rfl rfl ?_
  refine zw_if_lt (pc := 18) (off := 69) (tgt := 87) (by decide +kernel) (by decide) o1 (fun hc => ?_) (fun hc => ?_)
  · replace h := h.1 hc
    exact zw_vret (pc := 87) (by decide +kernel) rfl (Nat.le_refl _) (Nat.le_refl _) ⟨_, rfl, rfl, h⟩
  · replace h := h.2 hc
    refine zw_iconst (pc := 21) (n := 0) (by decide +kernel) ?_
    refine zw_istore_n (pc := 22) (n := 2) (i := 2) (lv' := [(0, .ref 97), (1, .int (zJ v1)), (2, .int (zJ 0))]) (by decide +kernel) rfl (Nat.le_of_ble_eq_true rfl) rfl ?_
    refine zw_iload_n (pc := 23) (n := 1) (i := 1) 1 (by decide +kernel) rfl rfl ?_
    refine zw_iconst (pc := 24) (n := 1) (by decide +kernel) ?_
    refine zw_iadd (pc := 25) (by decide +kernel) ?_
    refine zw_istore_n (pc := 26) (n := 3) (i := 3) (lv' := [(0, .ref 97), (1, .int (zJ v1)), (2, .int (zJ 0)), (3, .int (zJ (v1 + 1)))]) (by decide +kernel) rfl (Nat.le_of_ble_eq_true rfl) rfl ?_
    exact h
theorem sg_X1_solve_27 {g : zG} {φ : zMu → Prop} {v1 : Int} {v2 : Int} {v3 : Int} {μ : zMu}
    (h : (zR v3) ∧ (zR (μ 97 8)) ∧ (((μ 97 8) < v3 → (zR v2) ∧ (zR (μ 97 9)) ∧ ((μ 97 9) ≠ 0) ∧ (zR ((μ 97 9) - (v2.tmod (μ 97 9)))) ∧ (0 ≤ v1 ∧ v1 < 81) ∧ at_X1_solve_17 g φ (v1 + (-1)) (zup μ 181 v1.toNat (((μ 97 9) - (v2.tmod (μ 97 9))).tmod (μ 97 9)))) ∧ (v3 ≤ (μ 97 8) → (0 ≤ v1 ∧ v1 < 80) ∧ (0 ≤ v3 ∧ v3 < 81) ∧ at_X1_solve_27 g φ v1 (v2 + ((μ (99 + v1.toNat) v3.toNat) * (μ 181 v3.toNat))) (v3 + 1) μ))) : at_X1_solve_27 g φ v1 v2 v3 μ := by
  obtain ⟨o1, o2, h⟩ := h
  refine zw_iload_n (pc := 27) (n := 3) (i := 3) 3 (by decide +kernel) rfl rfl ?_
  refine zw_aload_n (pc := 28) (n := 0) (i := 0) 0 (by decide +kernel) rfl rfl ?_
  refine zx_getI (pc := 29) zf_1_76 (by decide +kernel) rfl zc_97 ?_
  refine zw_icmp_gt (pc := 32) (off := 27) (tgt := 59) (by decide +kernel) (by decide) o1 o2 (fun hc => ?_) (fun hc => ?_)
  · replace h := h.1 hc
    obtain ⟨o3, o4, o5, o6, o7, h⟩ := h
    refine zw_aload_n (pc := 59) (n := 0) (i := 0) 0 (by decide +kernel) rfl rfl ?_
    refine zx_getR (pc := 60) (o := 84) (r := 181) zf_1_23 (by decide +kernel) rfl zc_97 rfl (by decide) rfl ?_
    refine zw_iload_n (pc := 63) (n := 1) (i := 1) 1 (by decide +kernel) rfl rfl ?_
    refine zw_aload_n (pc := 64) (n := 0) (i := 0) 0 (by decide +kernel) rfl rfl ?_
    refine zx_getI (pc := 65) zf_1_45 (by decide +kernel) rfl zc_97 ?_
    refine zw_iload_n (pc := 68) (n := 2) (i := 2) 2 (by decide +kernel) rfl rfl ?_
    refine zw_aload_n (pc := 69) (n := 0) (i := 0) 0 (by decide +kernel) rfl rfl ?_
    refine zx_getI (pc := 70) zf_1_45 (by decide +kernel) rfl zc_97 ?_
    refine zw_irem (pc := 73) (by decide +kernel) o3 o4 o5 ?_
    refine zw_isub (pc := 74) (by decide +kernel) ?_
    refine zw_aload_n (pc := 75) (n := 0) (i := 0) 0 (by decide +kernel) rfl rfl ?_
    refine zx_getI (pc := 76) zf_1_45 (by decide +kernel) rfl zc_97 ?_
    refine zw_irem (pc := 79) (by decide +kernel) o6 o4 o5 ?_
    refine zx_iastore (pc := 80) (by decide +kernel) ⟨81, zc_181, o7.1, o7.2⟩ ?_
    refine zw_iinc (pc := 81) (i := 1) (n := (-1)) (lv' := [(0, .ref 97), (1, .int (zJ (v1 + (-1)))), (2, .int (zJ v2)), (3, .int (zJ v3))]) 1 (by decide +kernel) rfl rfl (Nat.le_of_ble_eq_true rfl) rfl ?_
    refine zw_goto (pc := 84) (off := (-67)) (tgt := 17) (by decide +kernel) (by decide) ?_
    exact zw_pick (lv' := [(0, .ref 97), (1, .int (zJ (v1 + (-1))))]) [0, 1] rfl h
  · replace h := h.2 hc
    obtain ⟨o8, o10, h⟩ := h
    refine zw_iload_n (pc := 35) (n := 2) (i := 2) 2 (by decide +kernel) rfl rfl ?_
    refine zw_aload_n (pc := 36) (n := 0) (i := 0) 0 (by decide +kernel) rfl rfl ?_
    refine zx_getR (pc := 37) (o := 1) (r := 98) zf_1_11 (by decide +kernel) rfl zc_97 rfl (by decide) rfl ?_
    refine zw_iload_n (pc := 40) (n := 1) (i := 1) 1 (by decide +kernel) rfl rfl ?_
    have q9 : zS (99 + v1.toNat) 12 81 := zS_cast (zqr_98 (j := v1.toNat) (by omega)) (by show 98 + 1 + 1 * v1.toNat = (99 + v1.toNat); omega)
    refine zx_aaload (pc := 41) (k := 15) (r := (99 + v1.toNat)) (by decide +kernel) (by decide) ⟨80, zc_98, o8.1, o8.2⟩ (by show 98 + 1 + 1 * v1.toNat = (99 + v1.toNat); omega) ?_
    refine zw_iload_n (pc := 42) (n := 3) (i := 3) 3 (by decide +kernel) rfl rfl ?_
    refine zx_iaload (pc := 43) (by decide +kernel) ⟨81, q9, o10.1, o10.2⟩ ?_
    refine zw_aload_n (pc := 44) (n := 0) (i := 0) 0 (by decide +kernel) rfl rfl ?_
    refine zx_getR (pc := 45) (o := 84) (r := 181) zf_1_23 (by decide +kernel) rfl zc_97 rfl (by decide) rfl ?_
    refine zw_iload_n (pc := 48) (n := 3) (i := 3) 3 (by decide +kernel) rfl rfl ?_
    refine zx_iaload (pc := 49) (by decide +kernel) ⟨81, zc_181, o10.1, o10.2⟩ ?_
    refine zw_imul (pc := 50) (by decide +kernel) ?_
    refine zw_iadd (pc := 51) (by decide +kernel) ?_
    refine zw_istore_n (pc := 52) (n := 2) (i := 2) (lv' := [(0, .ref 97), (1, .int (zJ v1)), (2, .int (zJ (v2 + ((μ (99 + v1.toNat) v3.toNat) * (μ 181 v3.toNat))))), (3, .int (zJ v3))]) (by decide +kernel) rfl (Nat.le_of_ble_eq_true rfl) rfl ?_
    refine zw_iinc (pc := 53) (i := 3) (n := 1) (lv' := [(0, .ref 97), (1, .int (zJ v1)), (2, .int (zJ (v2 + ((μ (99 + v1.toNat) v3.toNat) * (μ 181 v3.toNat))))), (3, .int (zJ (v3 + 1)))]) 3 (by decide +kernel) rfl rfl (Nat.le_of_ble_eq_true rfl) rfl ?_
    refine zw_goto (pc := 56) (off := (-29)) (tgt := 27) (by decide +kernel) (by decide) ?_
    exact h
theorem sg_X2_forget {g : zG} {φ : zMu → Prop} {μ : zMu}
    (h : zOv g zm_J7_fill_53178 [.ref 183, .int (zJ (-2))] μ (fun μ1 => φ μ1)) : zOv g zm_X2_forget [.ref 182] μ φ := by
  refine zok_of (by decide +kernel) rfl ?_
  show zWP g zm_X2_forget (zmo g zm_X2_forget (zΦv φ)) 0 [(0, .ref 182)] [] 0 0 (zw μ)
  refine zw_aload_n (pc := 0) (n := 0) (i := 0) 0 (by decide +kernel) rfl rfl ?_
  refine zx_getR (pc := 1) (o := 1) (r := 183) zf_2_9 (by decide +kernel) rfl zc_182 rfl (by decide) rfl ?_
  refine zw_bipush (pc := 4) (n := (-2)) (by decide +kernel) (by decide +kernel) ?_
  refine zx_callS (pc := 6) (As := [.ref 183, .int (zJ (-2))]) h zi_J7_fill_53178 zis_J7_fill_53178 zl_2_27 (by decide +kernel) ⟨Nat.le_of_ble_eq_true rfl, Nat.le_of_ble_eq_true rfl⟩ rfl rfl ⟨rfl, rfl⟩ ⟨Nat.zero_le _, Nat.zero_le _⟩ (zkv (fun μ1 h => ?_))
  exact zw_vret (pc := 9) (by decide +kernel) rfl (Nat.le_refl _) (Nat.le_refl _) ⟨_, rfl, rfl, h⟩
theorem sg_X2_isDegenerate {g : zG} {φ : Int → zMu → Prop} {v1 : Nat} {v2 : Int} {μ : zMu} (h_v1 : zS v1 0 5)
    (h : zOv g zm_X2_explore [.ref 182, .ref v1, .int (zJ v2)] μ (fun μ1 => (0 ≤ v2 ∧ v2 < 199) ∧ (zR (μ1 183 v2.toNat)) ∧ ((¬ (μ1 183 v2.toNat) = (-1) → φ 0 μ1) ∧ ((μ1 183 v2.toNat) = (-1) → φ 1 μ1)))) : zOi g zm_X2_isDegenerate [.ref 182, .ref v1, .int (zJ v2)] μ φ := by
  refine zok_of (by decide +kernel) rfl ?_
  show zWP g zm_X2_isDegenerate (zmo g zm_X2_isDegenerate (zΦi φ)) 0 [(0, .ref 182), (1, .ref v1), (2, .int (zJ v2))] [] 0 0 (zw μ)
  refine zw_aload_n (pc := 0) (n := 0) (i := 0) 0 (by decide +kernel) rfl rfl ?_
  refine zw_aload_n (pc := 1) (n := 1) (i := 1) 1 (by decide +kernel) rfl rfl ?_
  refine zw_iload_n (pc := 2) (n := 2) (i := 2) 2 (by decide +kernel) rfl rfl ?_
  refine zx_callV (pc := 3) (As := [.ref v1, .int (zJ v2)]) h zi_X2_explore zii_X2_explore zie_X2_explore zl_2_33 (by decide +kernel) ⟨Nat.le_of_ble_eq_true rfl, Nat.le_of_ble_eq_true rfl⟩ rfl zc_182 (by decide) rfl rfl ⟨rfl, rfl⟩ ⟨Nat.zero_le _, Nat.zero_le _⟩ (zkv (fun μ1 h => ?_))
  obtain ⟨o2, o3, h⟩ := h
  refine zw_aload_n (pc := 6) (n := 0) (i := 0) 0 (by decide +kernel) rfl rfl ?_
  refine zx_getR (pc := 7) (o := 1) (r := 183) zf_2_9 (by decide +kernel) rfl zc_182 rfl (by decide) rfl ?_
  refine zw_iload_n (pc := 10) (n := 2) (i := 2) 2 (by decide +kernel) rfl rfl ?_
  refine zx_iaload (pc := 11) (by decide +kernel) ⟨199, zc_183, o2.1, o2.2⟩ ?_
  refine zw_iconst (pc := 12) (n := (-1)) (by decide +kernel) ?_
  refine zw_icmp_ne (pc := 13) (off := 7) (tgt := 20) (by decide +kernel) (by decide) o3 ⟨by decide, by decide⟩ (fun hc => ?_) (fun hc => ?_)
  · replace h := h.1 hc
    refine zw_iconst (pc := 20) (n := 0) (by decide +kernel) ?_
    exact zw_zret (pc := 21) (by decide +kernel) rfl (Nat.le_refl _) (Nat.le_refl _) (Or.inl rfl) ⟨_, _, rfl, rfl, h⟩
  · replace h := h.2 hc
    refine zw_iconst (pc := 16) (n := 1) (by decide +kernel) ?_
    refine zw_goto (pc := 17) (off := 4) (tgt := 21) (by decide +kernel) (by decide) ?_
    exact zw_zret (pc := 21) (by decide +kernel) rfl (Nat.le_refl _) (Nat.le_refl _) (Or.inr rfl) ⟨_, _, rfl, rfl, h⟩
theorem sg_X2_explore {g : zG} {φ : zMu → Prop} {v1 : Nat} {v2 : Int} {μ : zMu} (h_v1 : zS v1 0 5)
    (h : (0 ≤ v2 ∧ v2 < 199) ∧ (zR (μ 183 v2.toNat)) ∧ ((¬ (μ 183 v2.toNat) = (-2) → φ μ) ∧ ((μ 183 v2.toNat) = (-2) → zOi g zm_X2_listNeighbours [.ref 182, .ref (v1 + 2), .int (zJ v2), .int (zJ (μ v1 0))] μ (fun x5 μ4 => φ (zup μ4 183 v2.toNat x5))))) : zOv g zm_X2_explore [.ref 182, .ref v1, .int (zJ v2)] μ φ := by
  refine zok_of (by decide +kernel) rfl ?_
  show zWP g zm_X2_explore (zmo g zm_X2_explore (zΦv φ)) 0 [(0, .ref 182), (1, .ref v1), (2, .int (zJ v2))] [] 0 0 (zw μ)
  obtain ⟨o1, o2, h⟩ := h
  refine zw_aload_n (pc := 0) (n := 0) (i := 0) 0 (by decide +kernel) rfl rfl ?_
  refine zx_getR (pc := 1) (o := 1) (r := 183) zf_2_9 (by decide +kernel) rfl zc_182 rfl (by decide) rfl ?_
  refine zw_iload_n (pc := 4) (n := 2) (i := 2) 2 (by decide +kernel) rfl rfl ?_
  refine zx_iaload (pc := 5) (by decide +kernel) ⟨199, zc_183, o1.1, o1.2⟩ ?_
  refine zw_bipush (pc := 6) (n := (-2)) (by decide +kernel) (by decide +kernel) ?_
  refine zw_icmp_ne (pc := 8) (off := 22) (tgt := 30) (by decide +kernel) (by decide) o2 ⟨by decide, by decide⟩ (fun hc => ?_) (fun hc => ?_)
  · replace h := h.1 hc
    exact zw_vret (pc := 30) (by decide +kernel) rfl (Nat.le_refl _) (Nat.le_refl _) ⟨_, rfl, rfl, h⟩
  · replace h := h.2 hc
    refine zw_aload_n (pc := 11) (n := 0) (i := 0) 0 (by decide +kernel) rfl rfl ?_
    refine zx_getR (pc := 12) (o := 1) (r := 183) zf_2_9 (by decide +kernel) rfl zc_182 rfl (by decide) rfl ?_
    refine zw_iload_n (pc := 15) (n := 2) (i := 2) 2 (by decide +kernel) rfl rfl ?_
    refine zw_aload_n (pc := 16) (n := 0) (i := 0) 0 (by decide +kernel) rfl rfl ?_
    refine zw_aload_n (pc := 17) (n := 1) (i := 1) 1 (by decide +kernel) rfl rfl ?_
    have q3 : zS (v1 + 2) 3 2 := zq 1 h_v1 rfl
    refine zx_getR (pc := 18) (o := 2) (r := (v1 + 2)) zf_2_43 (by decide +kernel) rfl h_v1 rfl (by decide) rfl ?_
    refine zw_iload_n (pc := 21) (n := 2) (i := 2) 2 (by decide +kernel) rfl rfl ?_
    refine zw_aload_n (pc := 22) (n := 1) (i := 1) 1 (by decide +kernel) rfl rfl ?_
    refine zx_getI (pc := 23) zf_2_49 (by decide +kernel) rfl h_v1 ?_
    refine zx_callV (pc := 26) (As := [.ref (v1 + 2), .int (zJ v2), .int (zJ (μ v1 0))]) h zi_X2_listNeighbours zii_X2_listNeighbours zie_X2_listNeighbours zl_2_53 (by decide +kernel) ⟨Nat.le_of_ble_eq_true rfl, Nat.le_of_ble_eq_true rfl⟩ rfl zc_182 (by decide) rfl rfl ⟨rfl, rfl⟩ ⟨Nat.zero_le _, Nat.zero_le _⟩ (zki (fun x5 μ4 h => ?_))
    refine zx_iastore (pc := 29) (by decide +kernel) ⟨199, zc_183, o1.1, o1.2⟩ ?_
    exact zw_vret (pc := 30) (by decide +kernel) rfl (Nat.le_refl _) (Nat.le_refl _) ⟨_, rfl, rfl, h⟩
abbrev at_X2_listNeighbours_22 (g : zG) (φ : Int → zMu → Prop) (v2 : Int) (v3 : Int) (v4 : Int) (v5 : Int) (v6 : Int) (μ : zMu) : Prop := zWP g zm_X2_listNeighbours (zmo g zm_X2_listNeighbours (zΦi φ)) 22 [(0, .ref 182), (2, .int (zJ v2)), (3, .int (zJ v3)), (4, .int (zJ v4)), (5, .int (zJ v5)), (6, .int (zJ v6))] [] 0 0 (zw μ)
abbrev at_X2_listNeighbours_33 (g : zG) (φ : Int → zMu → Prop) (v2 : Int) (v3 : Int) (v4 : Int) (v5 : Int) (v6 : Int) (μ : zMu) : Prop := zWP g zm_X2_listNeighbours (zmo g zm_X2_listNeighbours (zΦi φ)) 33 [(0, .ref 182), (2, .int (zJ v2)), (3, .int (zJ v3)), (4, .int (zJ v4)), (5, .int (zJ v5)), (6, .int (zJ v6))] [] 0 0 (zw μ)
theorem sg_X2_listNeighbours {g : zG} {φ : Int → zMu → Prop} {v1 : Nat} {v2 : Int} {v3 : Int} {μ : zMu} (h_v1 : zS v1 3 2)
    (h : zOi g zm_X2_fillLine [.ref 182, .ref v1, .int (zJ v2), .int (zJ v3)] μ (fun x2 μ1 => (zR x2) ∧ ((0 ≤ x2 → at_X2_listNeighbours_22 g φ v2 v3 x2 0 0 μ1) ∧ (x2 < 0 → φ (-1) μ1)))) : zOi g zm_X2_listNeighbours [.ref 182, .ref v1, .int (zJ v2), .int (zJ v3)] μ φ := by
  refine zok_of (by decide +kernel) rfl ?_
  show zWP g zm_X2_listNeighbours (zmo g zm_X2_listNeighbours (zΦi φ)) 0 [(0, .ref 182), (1, .ref v1), (2, .int (zJ v2)), (3, .int (zJ v3))] [] 0 0 (zw μ)
  refine zw_aload_n (pc := 0) (n := 0) (i := 0) 0 (by decide +kernel) rfl rfl ?_
  refine zw_aload_n (pc := 1) (n := 1) (i := 1) 1 (by decide +kernel) rfl rfl ?_
  refine zw_iload_n (pc := 2) (n := 2) (i := 2) 2 (by decide +kernel) rfl rfl ?_
  refine zw_iload_n (pc := 3) (n := 3) (i := 3) 3 (by decide +kernel) rfl rfl ?_
  refine zx_callV (pc := 4) (As := [.ref v1, .int (zJ v2), .int (zJ v3)]) h zi_X2_fillLine zii_X2_fillLine zie_X2_fillLine zl_2_57 (by decide +kernel) ⟨Nat.le_of_ble_eq_true rfl, Nat.le_of_ble_eq_true rfl⟩ rfl zc_182 (by decide) rfl rfl ⟨rfl, rfl⟩ ⟨Nat.zero_le _, Nat.zero_le _⟩ (zki (fun x2 μ1 h => ?_))
  obtain ⟨o3, h⟩ := h
  refine zw_istore (pc := 7) (i := 4) (lv' := [(0, .ref 182), (1, .ref v1), (2, .int (zJ v2)), (3, .int (zJ v3)), (4, .int (zJ x2))]) (by decide +kernel) (Nat.le_of_ble_eq_true rfl) rfl ?_
  refine zw_iload (pc := 9) (i := 4) 4 (by decide +kernel) rfl ?_
  refine zw_if_ge (pc := 11) (off := 5) (tgt := 16) (by decide +kernel) (by decide) o3 (fun hc => ?_) (fun hc => ?_)
  · replace h := h.1 hc
    refine zw_iconst (pc := 16) (n := 0) (by decide +kernel) ?_
    refine zw_istore (pc := 17) (i := 5) (lv' := [(0, .ref 182), (1, .ref v1), (2, .int (zJ v2)), (3, .int (zJ v3)), (4, .int (zJ x2)), (5, .int (zJ 0))]) (by decide +kernel) (Nat.le_of_ble_eq_true rfl) rfl ?_
    refine zw_iconst (pc := 19) (n := 0) (by decide +kernel) ?_
    refine zw_istore (pc := 20) (i := 6) (lv' := [(0, .ref 182), (1, .ref v1), (2, .int (zJ v2)), (3, .int (zJ v3)), (4, .int (zJ x2)), (5, .int (zJ 0)), (6, .int (zJ 0))]) (by decide +kernel) (Nat.le_of_ble_eq_true rfl) rfl ?_
    exact zw_pick (lv' := [(0, .ref 182), (2, .int (zJ v2)), (3, .int (zJ v3)), (4, .int (zJ x2)), (5, .int (zJ 0)), (6, .int (zJ 0))]) [0, 2, 3, 4, 5, 6] rfl h
  · replace h := h.2 hc
    refine zw_iconst (pc := 14) (n := (-1)) (by decide +kernel) ?_
    exact zw_iret (pc := 15) (by decide +kernel) rfl (Nat.le_refl _) (Nat.le_refl _) ⟨_, _, rfl, rfl, h⟩
theorem sg_X2_listNeighbours_22 {g : zG} {φ : Int → zMu → Prop} {v2 : Int} {v3 : Int} {v4 : Int} {v5 : Int} {v6 : Int} {μ : zMu}
    (h : (zR v6) ∧ (zR v3) ∧ ((v3 ≤ v6 → φ v5 μ) ∧ (v6 < v3 → (zR v4) ∧ ((v4 ≤ 0 → φ v5 μ) ∧ (0 < v4 → at_X2_listNeighbours_33 g φ v2 v3 v4 v5 v6 μ))))) : at_X2_listNeighbours_22 g φ v2 v3 v4 v5 v6 μ := by
  obtain ⟨o1, o2, h⟩ := h
  refine zw_iload (pc := 22) (i := 6) 5 (by decide +kernel) rfl ?_
  refine zw_iload_n (pc := 24) (n := 3) (i := 3) 2 (by decide +kernel) rfl rfl ?_
  refine zw_icmp_ge (pc := 25) (off := 63) (tgt := 88) (by decide +kernel) (by decide) o1 o2 (fun hc => ?_) (fun hc => ?_)
  · replace h := h.1 hc
    refine zw_iload (pc := 88) (i := 5) 4 (by decide +kernel) rfl ?_
    exact zw_iret (pc := 90) (by decide +kernel) rfl (Nat.le_refl _) (Nat.le_refl _) ⟨_, _, rfl, rfl, h⟩
  · replace h := h.2 hc
    obtain ⟨o3, h⟩ := h
    refine zw_iload (pc := 28) (i := 4) 3 (by decide +kernel) rfl ?_
    refine zw_if_le (pc := 30) (off := 58) (tgt := 88) (by decide +kernel) (by decide) o3 (fun hc => ?_) (fun hc => ?_)
    · replace h := h.1 hc
      refine zw_iload (pc := 88) (i := 5) 4 (by decide +kernel) rfl ?_
      exact zw_iret (pc := 90) (by decide +kernel) rfl (Nat.le_refl _) (Nat.le_refl _) ⟨_, _, rfl, rfl, h⟩
    · replace h := h.2 hc
      exact h
theorem sg_X2_listNeighbours_33 {g : zG} {φ : Int → zMu → Prop} {v2 : Int} {v3 : Int} {v4 : Int} {v5 : Int} {v6 : Int} {μ : zMu}
    (h : (zR v4) ∧ ((v4 ≤ 0 → at_X2_listNeighbours_22 g φ v2 v3 v4 v5 (v6 + 1) μ) ∧ (0 < v4 → zOi g zm_X2_lineAt [.ref 182, .int (zJ v6), .int (zJ v4), .int (zJ v3)] μ (fun x3 μ2 => (zR x3) ∧ ((¬ x3 = 0 → at_X2_listNeighbours_22 g φ v2 v3 v4 v5 (v6 + 1) μ2) ∧ (x3 = 0 → zOv g zm_X2_divideLine [.ref 182, .int (zJ v6), .int (zJ v4), .int (zJ v3)] μ2 (fun μ5 => (0 ≤ ((8 * v2) + v5) ∧ ((8 * v2) + v5) < 1592) ∧ at_X2_listNeighbours_33 g φ v2 v3 (v4 + (-1)) (v5 + 1) v6 (zup μ5 184 (Int.toNat ((8 * v2) + v5)) v6)))))))) : at_X2_listNeighbours_33 g φ v2 v3 v4 v5 v6 μ := by
  obtain ⟨o1, h⟩ := h
  refine zw_iload (pc := 33) (i := 4) 3 (by decide +kernel) rfl ?_
  refine zw_if_le (pc := 35) (off := 47) (tgt := 82) (by decide +kernel) (by decide) o1 (fun hc => ?_) (fun hc => ?_)
  · replace h := h.1 hc
    refine zw_iinc (pc := 82) (i := 6) (n := 1) (lv' := [(0, .ref 182), (2, .int (zJ v2)), (3, .int (zJ v3)), (4, .int (zJ v4)), (5, .int (zJ v5)), (6, .int (zJ (v6 + 1)))]) 5 (by decide +kernel) rfl rfl (Nat.le_of_ble_eq_true rfl) rfl ?_
    refine zw_goto (pc := 85) (off := (-63)) (tgt := 22) (by decide +kernel) (by decide) ?_
    exact h
  · replace h := h.2 hc
    refine zw_aload_n (pc := 38) (n := 0) (i := 0) 0 (by decide +kernel) rfl rfl ?_
    refine zw_iload (pc := 39) (i := 6) 5 (by decide +kernel) rfl ?_
    refine zw_iload (pc := 41) (i := 4) 3 (by decide +kernel) rfl ?_
    refine zw_iload_n (pc := 43) (n := 3) (i := 3) 2 (by decide +kernel) rfl rfl ?_
    refine zx_callV (pc := 44) (As := [.int (zJ v6), .int (zJ v4), .int (zJ v3)]) h zi_X2_lineAt zii_X2_lineAt zie_X2_lineAt zl_2_60 (by decide +kernel) ⟨Nat.le_of_ble_eq_true rfl, Nat.le_of_ble_eq_true rfl⟩ rfl zc_182 (by decide) rfl rfl ⟨rfl, rfl⟩ ⟨Nat.zero_le _, Nat.zero_le _⟩ (zki (fun x3 μ2 h => ?_))
    obtain ⟨o4, h⟩ := h
    refine zw_if_ne (pc := 47) (off := 35) (tgt := 82) (by decide +kernel) (by decide) o4 (fun hc => ?_) (fun hc => ?_)
    · replace h := h.1 hc
      refine zw_iinc (pc := 82) (i := 6) (n := 1) (lv' := [(0, .ref 182), (2, .int (zJ v2)), (3, .int (zJ v3)), (4, .int (zJ v4)), (5, .int (zJ v5)), (6, .int (zJ (v6 + 1)))]) 5 (by decide +kernel) rfl rfl (Nat.le_of_ble_eq_true rfl) rfl ?_
      refine zw_goto (pc := 85) (off := (-63)) (tgt := 22) (by decide +kernel) (by decide) ?_
      exact h
    · replace h := h.2 hc
      refine zw_aload_n (pc := 50) (n := 0) (i := 0) 0 (by decide +kernel) rfl rfl ?_
      refine zw_iload (pc := 51) (i := 6) 5 (by decide +kernel) rfl ?_
      refine zw_iload (pc := 53) (i := 4) 3 (by decide +kernel) rfl ?_
      refine zw_iload_n (pc := 55) (n := 3) (i := 3) 2 (by decide +kernel) rfl rfl ?_
      refine zx_callV (pc := 56) (As := [.int (zJ v6), .int (zJ v4), .int (zJ v3)]) h zi_X2_divideLine zii_X2_divideLine zie_X2_divideLine zl_2_64 (by decide +kernel) ⟨Nat.le_of_ble_eq_true rfl, Nat.le_of_ble_eq_true rfl⟩ rfl zc_182 (by decide) rfl rfl ⟨rfl, rfl⟩ ⟨Nat.zero_le _, Nat.zero_le _⟩ (zkv (fun μ5 h => ?_))
      obtain ⟨o6, h⟩ := h
      refine zw_aload_n (pc := 59) (n := 0) (i := 0) 0 (by decide +kernel) rfl rfl ?_
      refine zx_getR (pc := 60) (o := 2) (r := 184) zf_2_15 (by decide +kernel) rfl zc_182 rfl (by decide) rfl ?_
      refine zw_bipush (pc := 63) (n := 8) (by decide +kernel) (by decide +kernel) ?_
      refine zw_iload_n (pc := 65) (n := 2) (i := 2) 1 (by decide +kernel) rfl rfl ?_
      refine zw_imul (pc := 66) (by decide +kernel) ?_
      refine zw_iload (pc := 67) (i := 5) 4 (by decide +kernel) rfl ?_
      refine zw_iadd (pc := 69) (by decide +kernel) ?_
      refine zw_iload (pc := 70) (i := 6) 5 (by decide +kernel) rfl ?_
      refine zx_iastore (pc := 72) (by decide +kernel) ⟨1592, zc_184, o6.1, o6.2⟩ ?_
      refine zw_iinc (pc := 73) (i := 5) (n := 1) (lv' := [(0, .ref 182), (2, .int (zJ v2)), (3, .int (zJ v3)), (4, .int (zJ v4)), (5, .int (zJ (v5 + 1))), (6, .int (zJ v6))]) 4 (by decide +kernel) rfl rfl (Nat.le_of_ble_eq_true rfl) rfl ?_
      refine zw_iinc (pc := 76) (i := 4) (n := (-1)) (lv' := [(0, .ref 182), (2, .int (zJ v2)), (3, .int (zJ v3)), (4, .int (zJ (v4 + (-1)))), (5, .int (zJ (v5 + 1))), (6, .int (zJ v6))]) 3 (by decide +kernel) rfl rfl (Nat.le_of_ble_eq_true rfl) rfl ?_
      refine zw_goto (pc := 79) (off := (-46)) (tgt := 33) (by decide +kernel) (by decide) ?_
      exact h
abbrev at_X2_fillLine_6 (g : zG) (φ : Int → zMu → Prop) (v1 : Nat) (v2 : Int) (v3 : Int) (v4 : Int) (v5 : Int) (μ : zMu) : Prop := zWP g zm_X2_fillLine (zmo g zm_X2_fillLine (zΦi φ)) 6 [(0, .ref 182), (1, .ref v1), (2, .int (zJ v2)), (3, .int (zJ v3)), (4, .int (zJ v4)), (5, .int (zJ v5))] [] 0 0 (zw μ)
theorem sg_X2_fillLine {g : zG} {φ : Int → zMu → Prop} {v1 : Nat} {v2 : Int} {v3 : Int} {μ : zMu} (h_v1 : zS v1 3 2)
    (h : at_X2_fillLine_6 g φ v1 v2 v3 (-1) 0 μ) : zOi g zm_X2_fillLine [.ref 182, .ref v1, .int (zJ v2), .int (zJ v3)] μ φ := by
  refine zok_of (by decide +kernel) rfl ?_
  show zWP g zm_X2_fillLine (zmo g zm_X2_fillLine (zΦi φ)) 0 [(0, .ref 182), (1, .ref v1), (2, .int (zJ v2)), (3, .int (zJ v3))] [] 0 0 (zw μ)
  refine zw_iconst (pc := 0) (n := (-1)) (by decide +kernel) ?_
  refine zw_istore (pc := 1) (i := 4) (lv' := [(0, .ref 182), (1, .ref v1), (2, .int (zJ v2)), (3, .int (zJ v3)), (4, .int (zJ (-1)))]) (by decide +kernel) (Nat.le_of_ble_eq_true rfl) rfl ?_
  refine zw_iconst (pc := 3) (n := 0) (by decide +kernel) ?_
  refine zw_istore (pc := 4) (i := 5) (lv' := [(0, .ref 182), (1, .ref v1), (2, .int (zJ v2)), (3, .int (zJ v3)), (4, .int (zJ (-1))), (5, .int (zJ 0))]) (by decide +kernel) (Nat.le_of_ble_eq_true rfl) rfl ?_
  exact h
theorem sg_X2_fillLine_6 {g : zG} {φ : Int → zMu → Prop} {v1 : Nat} {v2 : Int} {v3 : Int} {v4 : Int} {v5 : Int} {μ : zMu} (h_v1 : zS v1 3 2)
    (h : (zR v5) ∧ (zR (μ v1 1)) ∧ (((μ v1 1) < v5 → φ v4 μ) ∧ (v5 ≤ (μ v1 1) → zOi g zm_X3_lineCoefficient [.ref v1, .int (zJ v2), .int (zJ v5), .int (zJ v3)] μ (fun x4 μ3 => (0 ≤ v5 ∧ v5 < 9) ∧ (zR ((zup μ3 185 v5.toNat x4) 185 v5.toNat)) ∧ ((((zup μ3 185 v5.toNat x4) 185 v5.toNat) = 0 → at_X2_fillLine_6 g φ v1 v2 v3 v4 (v5 + 1) (zup μ3 185 v5.toNat x4)) ∧ (¬ ((zup μ3 185 v5.toNat x4) 185 v5.toNat) = 0 → at_X2_fillLine_6 g φ v1 v2 v3 v5 (v5 + 1) (zup μ3 185 v5.toNat x4))))))) : at_X2_fillLine_6 g φ v1 v2 v3 v4 v5 μ := by
  obtain ⟨o1, o2, h⟩ := h
  refine zw_iload (pc := 6) (i := 5) 5 (by decide +kernel) rfl ?_
  refine zw_aload_n (pc := 8) (n := 1) (i := 1) 1 (by decide +kernel) rfl rfl ?_
  refine zx_getI (pc := 9) zf_2_68 (by decide +kernel) rfl h_v1 ?_
  refine zw_icmp_gt (pc := 12) (off := 38) (tgt := 50) (by decide +kernel) (by decide) o1 o2 (fun hc => ?_) (fun hc => ?_)
  · replace h := h.1 hc
    refine zw_iload (pc := 50) (i := 4) 4 (by decide +kernel) rfl ?_
    exact zw_iret (pc := 52) (by decide +kernel) rfl (Nat.le_refl _) (Nat.le_refl _) ⟨_, _, rfl, rfl, h⟩
  · replace h := h.2 hc
    refine zw_aload_n (pc := 15) (n := 0) (i := 0) 0 (by decide +kernel) rfl rfl ?_
    refine zx_getR (pc := 16) (o := 3) (r := 185) zf_2_18 (by decide +kernel) rfl zc_182 rfl (by decide) rfl ?_
    refine zw_iload (pc := 19) (i := 5) 5 (by decide +kernel) rfl ?_
    refine zw_aload_n (pc := 21) (n := 1) (i := 1) 1 (by decide +kernel) rfl rfl ?_
    refine zw_iload_n (pc := 22) (n := 2) (i := 2) 2 (by decide +kernel) rfl rfl ?_
    refine zw_iload (pc := 23) (i := 5) 5 (by decide +kernel) rfl ?_
    refine zw_iload_n (pc := 25) (n := 3) (i := 3) 3 (by decide +kernel) rfl rfl ?_
    refine zx_callV (pc := 26) (As := [.int (zJ v2), .int (zJ v5), .int (zJ v3)]) h zi_X3_lineCoefficient zii_X3_lineCoefficient zie_X3_lineCoefficient zl_2_73 (by decide +kernel) ⟨Nat.le_of_ble_eq_true rfl, Nat.le_of_ble_eq_true rfl⟩ rfl h_v1 (by decide) rfl rfl ⟨rfl, rfl⟩ ⟨Nat.zero_le _, Nat.zero_le _⟩ (zki (fun x4 μ3 h => ?_))
    obtain ⟨o5, o6, h⟩ := h
    refine zx_iastore (pc := 29) (by decide +kernel) ⟨9, zc_185, o5.1, o5.2⟩ ?_
    refine zw_aload_n (pc := 30) (n := 0) (i := 0) 0 (by decide +kernel) rfl rfl ?_
    refine zx_getR (pc := 31) (o := 3) (r := 185) zf_2_18 (by decide +kernel) rfl zc_182 rfl (by decide) rfl ?_
    refine zw_iload (pc := 34) (i := 5) 5 (by decide +kernel) rfl ?_
    refine zx_iaload (pc := 36) (by decide +kernel) ⟨9, zc_185, o5.1, o5.2⟩ ?_
    refine zw_if_eq (pc := 37) (off := 7) (tgt := 44) (by decide +kernel) (by decide) o6 (fun hc => ?_) (fun hc => ?_)
    · replace h := h.1 hc
      refine zw_iinc (pc := 44) (i := 5) (n := 1) (lv' := [(0, .ref 182), (1, .ref v1), (2, .int (zJ v2)), (3, .int (zJ v3)), (4, .int (zJ v4)), (5, .int (zJ (v5 + 1)))]) 5 (by decide +kernel) rfl rfl (Nat.le_of_ble_eq_true rfl) rfl ?_
      refine zw_goto (pc := 47) (off := (-41)) (tgt := 6) (by decide +kernel) (by decide) ?_
      exact h
    · replace h := h.2 hc
      refine zw_iload (pc := 40) (i := 5) 5 (by decide +kernel) rfl ?_
      refine zw_istore (pc := 42) (i := 4) (lv' := [(0, .ref 182), (1, .ref v1), (2, .int (zJ v2)), (3, .int (zJ v3)), (4, .int (zJ v5)), (5, .int (zJ v5))]) (by decide +kernel) (Nat.le_of_ble_eq_true rfl) rfl ?_
      refine zw_iinc (pc := 44) (i := 5) (n := 1) (lv' := [(0, .ref 182), (1, .ref v1), (2, .int (zJ v2)), (3, .int (zJ v3)), (4, .int (zJ v5)), (5, .int (zJ (v5 + 1)))]) 5 (by decide +kernel) rfl rfl (Nat.le_of_ble_eq_true rfl) rfl ?_
      refine zw_goto (pc := 47) (off := (-41)) (tgt := 6) (by decide +kernel) (by decide) ?_
      exact h
abbrev at_X2_lineAt_6 (g : zG) (φ : Int → zMu → Prop) (v1 : Int) (v3 : Int) (v4 : Int) (v5 : Int) (μ : zMu) : Prop := zWP g zm_X2_lineAt (zmo g zm_X2_lineAt (zΦi φ)) 6 [(0, .ref 182), (1, .int (zJ v1)), (3, .int (zJ v3)), (4, .int (zJ v4)), (5, .int (zJ v5))] [] 0 0 (zw μ)
theorem sg_X2_lineAt {g : zG} {φ : Int → zMu → Prop} {v1 : Int} {v2 : Int} {v3 : Int} {μ : zMu}
    (h : at_X2_lineAt_6 g φ v1 v3 0 v2 μ) : zOi g zm_X2_lineAt [.ref 182, .int (zJ v1), .int (zJ v2), .int (zJ v3)] μ φ := by
  refine zok_of (by decide +kernel) rfl ?_
  show zWP g zm_X2_lineAt (zmo g zm_X2_lineAt (zΦi φ)) 0 [(0, .ref 182), (1, .int (zJ v1)), (2, .int (zJ v2)), (3, .int (zJ v3))] [] 0 0 (zw μ)
  refine zw_iconst (pc := 0) (n := 0) (by decide +kernel) ?_
  refine zw_istore (pc := 1) (i := 4) (lv' := [(0, .ref 182), (1, .int (zJ v1)), (2, .int (zJ v2)), (3, .int (zJ v3)), (4, .int (zJ 0))]) (by decide +kernel) (Nat.le_of_ble_eq_true rfl) rfl ?_
  refine zw_iload_n (pc := 3) (n := 2) (i := 2) 2 (by decide +kernel) rfl rfl ?_
  refine zw_istore (pc := 4) (i := 5) (lv' := [(0, .ref 182), (1, .int (zJ v1)), (2, .int (zJ v2)), (3, .int (zJ v3)), (4, .int (zJ 0)), (5, .int (zJ v2))]) (by decide +kernel) (Nat.le_of_ble_eq_true rfl) rfl ?_
  exact zw_pick (lv' := [(0, .ref 182), (1, .int (zJ v1)), (3, .int (zJ v3)), (4, .int (zJ 0)), (5, .int (zJ v2))]) [0, 1, 3, 4, 5] rfl h
theorem sg_X2_lineAt_6 {g : zG} {φ : Int → zMu → Prop} {v1 : Int} {v3 : Int} {v4 : Int} {v5 : Int} {μ : zMu}
    (h : (zR v5) ∧ ((v5 < 0 → φ v4 μ) ∧ (0 ≤ v5 → (0 ≤ v5 ∧ v5 < 9) ∧ (zR ((v4 * v1) + (μ 185 v5.toNat))) ∧ (zR v3) ∧ (v3 ≠ 0) ∧ at_X2_lineAt_6 g φ v1 v3 (((v4 * v1) + (μ 185 v5.toNat)).tmod v3) (v5 + (-1)) μ))) : at_X2_lineAt_6 g φ v1 v3 v4 v5 μ := by
  obtain ⟨o1, h⟩ := h
  refine zw_iload (pc := 6) (i := 5) 4 (by decide +kernel) rfl ?_
  refine zw_if_lt (pc := 8) (off := 25) (tgt := 33) (by decide +kernel) (by decide) o1 (fun hc => ?_) (fun hc => ?_)
  · replace h := h.1 hc
    refine zw_iload (pc := 33) (i := 4) 3 (by decide +kernel) rfl ?_
    exact zw_iret (pc := 35) (by decide +kernel) rfl (Nat.le_refl _) (Nat.le_refl _) ⟨_, _, rfl, rfl, h⟩
  · replace h := h.2 hc
    obtain ⟨o2, o3, o4, o5, h⟩ := h
    refine zw_iload (pc := 11) (i := 4) 3 (by decide +kernel) rfl ?_
    refine zw_iload_n (pc := 13) (n := 1) (i := 1) 1 (by decide +kernel) rfl rfl ?_
    refine zw_imul (pc := 14) (by decide +kernel) ?_
    refine zw_aload_n (pc := 15) (n := 0) (i := 0) 0 (by decide +kernel) rfl rfl ?_
    refine zx_getR (pc := 16) (o := 3) (r := 185) zf_2_18 (by decide +kernel) rfl zc_182 rfl (by decide) rfl ?_
    refine zw_iload (pc := 19) (i := 5) 4 (by decide +kernel) rfl ?_
    refine zx_iaload (pc := 21) (by decide +kernel) ⟨9, zc_185, o2.1, o2.2⟩ ?_
    refine zw_iadd (pc := 22) (by decide +kernel) ?_
    refine zw_iload_n (pc := 23) (n := 3) (i := 3) 2 (by decide +kernel) rfl rfl ?_
    refine zw_irem (pc := 24) (by decide +kernel) o3 o4 o5 ?_
    refine zw_istore (pc := 25) (i := 4) (lv' := [(0, .ref 182), (1, .int (zJ v1)), (3, .int (zJ v3)), (4, .int (zJ (((v4 * v1) + (μ 185 v5.toNat)).tmod v3))), (5, .int (zJ v5))]) (by decide +kernel) (Nat.le_of_ble_eq_true rfl) rfl ?_
    refine zw_iinc (pc := 27) (i := 5) (n := (-1)) (lv' := [(0, .ref 182), (1, .int (zJ v1)), (3, .int (zJ v3)), (4, .int (zJ (((v4 * v1) + (μ 185 v5.toNat)).tmod v3))), (5, .int (zJ (v5 + (-1))))]) 4 (by decide +kernel) rfl rfl (Nat.le_of_ble_eq_true rfl) rfl ?_
    refine zw_goto (pc := 30) (off := (-24)) (tgt := 6) (by decide +kernel) (by decide) ?_
    exact h
abbrev at_X2_divideLine_6 (g : zG) (φ : zMu → Prop) (v1 : Int) (v3 : Int) (v4 : Int) (v5 : Int) (μ : zMu) : Prop := zWP g zm_X2_divideLine (zmo g zm_X2_divideLine (zΦv φ)) 6 [(0, .ref 182), (1, .int (zJ v1)), (3, .int (zJ v3)), (4, .int (zJ v4)), (5, .int (zJ v5))] [] 0 0 (zw μ)
theorem sg_X2_divideLine {g : zG} {φ : zMu → Prop} {v1 : Int} {v2 : Int} {v3 : Int} {μ : zMu}
    (h : at_X2_divideLine_6 g φ v1 v3 0 v2 μ) : zOv g zm_X2_divideLine [.ref 182, .int (zJ v1), .int (zJ v2), .int (zJ v3)] μ φ := by
  refine zok_of (by decide +kernel) rfl ?_
  show zWP g zm_X2_divideLine (zmo g zm_X2_divideLine (zΦv φ)) 0 [(0, .ref 182), (1, .int (zJ v1)), (2, .int (zJ v2)), (3, .int (zJ v3))] [] 0 0 (zw μ)
  refine zw_iconst (pc := 0) (n := 0) (by decide +kernel) ?_
  refine zw_istore (pc := 1) (i := 4) (lv' := [(0, .ref 182), (1, .int (zJ v1)), (2, .int (zJ v2)), (3, .int (zJ v3)), (4, .int (zJ 0))]) (by decide +kernel) (Nat.le_of_ble_eq_true rfl) rfl ?_
  refine zw_iload_n (pc := 3) (n := 2) (i := 2) 2 (by decide +kernel) rfl rfl ?_
  refine zw_istore (pc := 4) (i := 5) (lv' := [(0, .ref 182), (1, .int (zJ v1)), (2, .int (zJ v2)), (3, .int (zJ v3)), (4, .int (zJ 0)), (5, .int (zJ v2))]) (by decide +kernel) (Nat.le_of_ble_eq_true rfl) rfl ?_
  exact zw_pick (lv' := [(0, .ref 182), (1, .int (zJ v1)), (3, .int (zJ v3)), (4, .int (zJ 0)), (5, .int (zJ v2))]) [0, 1, 3, 4, 5] rfl h
theorem sg_X2_divideLine_6 {g : zG} {φ : zMu → Prop} {v1 : Int} {v3 : Int} {v4 : Int} {v5 : Int} {μ : zMu}
    (h : (zR v5) ∧ ((v5 ≤ 0 → φ (zup μ 185 0 v4)) ∧ (0 < v5 → (0 ≤ v5 ∧ v5 < 9) ∧ (zR ((μ 185 v5.toNat) + (v1 * v4))) ∧ (zR v3) ∧ (v3 ≠ 0) ∧ at_X2_divideLine_6 g φ v1 v3 (((μ 185 v5.toNat) + (v1 * v4)).tmod v3) (v5 + (-1)) (zup μ 185 v5.toNat v4)))) : at_X2_divideLine_6 g φ v1 v3 v4 v5 μ := by
  obtain ⟨o1, h⟩ := h
  refine zw_iload (pc := 6) (i := 5) 4 (by decide +kernel) rfl ?_
  refine zw_if_le (pc := 8) (off := 38) (tgt := 46) (by decide +kernel) (by decide) o1 (fun hc => ?_) (fun hc => ?_)
  · replace h := h.1 hc
    refine zw_aload_n (pc := 46) (n := 0) (i := 0) 0 (by decide +kernel) rfl rfl ?_
    refine zx_getR (pc := 47) (o := 3) (r := 185) zf_2_18 (by decide +kernel) rfl zc_182 rfl (by decide) rfl ?_
    refine zw_iconst (pc := 50) (n := 0) (by decide +kernel) ?_
    refine zw_iload (pc := 51) (i := 4) 3 (by decide +kernel) rfl ?_
    refine zx_iastore (pc := 53) (by decide +kernel) ⟨9, zc_185, by decide, by decide⟩ ?_
    exact zw_vret (pc := 54) (by decide +kernel) rfl (Nat.le_refl _) (Nat.le_refl _) ⟨_, rfl, rfl, h⟩
  · replace h := h.2 hc
    obtain ⟨o2, o3, o4, o5, h⟩ := h
    refine zw_aload_n (pc := 11) (n := 0) (i := 0) 0 (by decide +kernel) rfl rfl ?_
    refine zx_getR (pc := 12) (o := 3) (r := 185) zf_2_18 (by decide +kernel) rfl zc_182 rfl (by decide) rfl ?_
    refine zw_iload (pc := 15) (i := 5) 4 (by decide +kernel) rfl ?_
    refine zx_iaload (pc := 17) (by decide +kernel) ⟨9, zc_185, o2.1, o2.2⟩ ?_
    refine zw_iload_n (pc := 18) (n := 1) (i := 1) 1 (by decide +kernel) rfl rfl ?_
    refine zw_iload (pc := 19) (i := 4) 3 (by decide +kernel) rfl ?_
    refine zw_imul (pc := 21) (by decide +kernel) ?_
    refine zw_iadd (pc := 22) (by decide +kernel) ?_
    refine zw_iload_n (pc := 23) (n := 3) (i := 3) 2 (by decide +kernel) rfl rfl ?_
    refine zw_irem (pc := 24) (by decide +kernel) o3 o4 o5 ?_
    refine zw_istore (pc := 25) (i := 6) (lv' := [(0, .ref 182), (1, .int (zJ v1)), (3, .int (zJ v3)), (4, .int (zJ v4)), (5, .int (zJ v5)), (6, .int (zJ (((μ 185 v5.toNat) + (v1 * v4)).tmod v3)))]) (by decide +kernel) (Nat.le_of_ble_eq_true rfl) rfl ?_
    refine zw_aload_n (pc := 27) (n := 0) (i := 0) 0 (by decide +kernel) rfl rfl ?_
    refine zx_getR (pc := 28) (o := 3) (r := 185) zf_2_18 (by decide +kernel) rfl zc_182 rfl (by decide) rfl ?_
    refine zw_iload (pc := 31) (i := 5) 4 (by decide +kernel) rfl ?_
    refine zw_iload (pc := 33) (i := 4) 3 (by decide +kernel) rfl ?_
    refine zx_iastore (pc := 35) (by decide +kernel) ⟨9, zc_185, o2.1, o2.2⟩ ?_
    refine zw_iload (pc := 36) (i := 6) 5 (by decide +kernel) rfl ?_
    refine zw_istore (pc := 38) (i := 4) (lv' := [(0, .ref 182), (1, .int (zJ v1)), (3, .int (zJ v3)), (4, .int (zJ (((μ 185 v5.toNat) + (v1 * v4)).tmod v3))), (5, .int (zJ v5)), (6, .int (zJ (((μ 185 v5.toNat) + (v1 * v4)).tmod v3)))]) (by decide +kernel) (Nat.le_of_ble_eq_true rfl) rfl ?_
    refine zw_iinc (pc := 40) (i := 5) (n := (-1)) (lv' := [(0, .ref 182), (1, .int (zJ v1)), (3, .int (zJ v3)), (4, .int (zJ (((μ 185 v5.toNat) + (v1 * v4)).tmod v3))), (5, .int (zJ (v5 + (-1)))), (6, .int (zJ (((μ 185 v5.toNat) + (v1 * v4)).tmod v3)))]) 4 (by decide +kernel) rfl rfl (Nat.le_of_ble_eq_true rfl) rfl ?_
    refine zw_goto (pc := 43) (off := (-37)) (tgt := 6) (by decide +kernel) (by decide) ?_
    exact zw_pick (lv' := [(0, .ref 182), (1, .int (zJ v1)), (3, .int (zJ v3)), (4, .int (zJ (((μ 185 v5.toNat) + (v1 * v4)).tmod v3))), (5, .int (zJ (v5 + (-1))))]) [0, 1, 2, 3, 4] rfl h
theorem sg_X2_sizeOf {g : zG} {φ : Int → zMu → Prop} {v1 : Nat} {v2 : Int} {μ : zMu} (h_v1 : zS v1 0 5)
    (h : zOv g zm_X2_explore [.ref 182, .ref v1, .int (zJ v2)] μ (fun μ1 => (0 ≤ v2 ∧ v2 < 199) ∧ (zR (μ1 183 v2.toNat)) ∧ φ (max (μ1 183 v2.toNat) 0) μ1)) : zOi g zm_X2_sizeOf [.ref 182, .ref v1, .int (zJ v2)] μ φ := by
  refine zok_of (by decide +kernel) rfl ?_
  show zWP g zm_X2_sizeOf (zmo g zm_X2_sizeOf (zΦi φ)) 0 [(0, .ref 182), (1, .ref v1), (2, .int (zJ v2))] [] 0 0 (zw μ)
  refine zw_aload_n (pc := 0) (n := 0) (i := 0) 0 (by decide +kernel) rfl rfl ?_
  refine zw_aload_n (pc := 1) (n := 1) (i := 1) 1 (by decide +kernel) rfl rfl ?_
  refine zw_iload_n (pc := 2) (n := 2) (i := 2) 2 (by decide +kernel) rfl rfl ?_
  refine zx_callV (pc := 3) (As := [.ref v1, .int (zJ v2)]) h zi_X2_explore zii_X2_explore zie_X2_explore zl_2_33 (by decide +kernel) ⟨Nat.le_of_ble_eq_true rfl, Nat.le_of_ble_eq_true rfl⟩ rfl zc_182 (by decide) rfl rfl ⟨rfl, rfl⟩ ⟨Nat.zero_le _, Nat.zero_le _⟩ (zkv (fun μ1 h => ?_))
  obtain ⟨o2, o3, h⟩ := h
  refine zw_aload_n (pc := 6) (n := 0) (i := 0) 0 (by decide +kernel) rfl rfl ?_
  refine zx_getR (pc := 7) (o := 1) (r := 183) zf_2_9 (by decide +kernel) rfl zc_182 rfl (by decide) rfl ?_
  refine zw_iload_n (pc := 10) (n := 2) (i := 2) 2 (by decide +kernel) rfl rfl ?_
  refine zx_iaload (pc := 11) (by decide +kernel) ⟨199, zc_183, o2.1, o2.2⟩ ?_
  refine zw_iconst (pc := 12) (n := 0) (by decide +kernel) ?_
  refine zw_max (pc := 13) zl_2_37 zb_maxS zb_mathI zb_maxC (by decide +kernel) ⟨Nat.le_of_ble_eq_true rfl, Nat.le_of_ble_eq_true rfl⟩ (Nat.zero_le _) (Nat.zero_le _) rfl o3 ⟨by decide, by decide⟩ ?_
  exact zw_iret (pc := 16) (by decide +kernel) rfl (Nat.le_refl _) (Nat.le_refl _) ⟨_, _, rfl, rfl, h⟩
theorem sg_X2_neighbourOf {g : zG} {φ : Int → zMu → Prop} {v1 : Int} {v2 : Int} {μ : zMu}
    (h : (0 ≤ ((8 * v1) + v2) ∧ ((8 * v1) + v2) < 1592) ∧ φ (μ 184 (Int.toNat ((8 * v1) + v2))) μ) : zOi g zm_X2_neighbourOf [.ref 182, .int (zJ v1), .int (zJ v2)] μ φ := by
  refine zok_of (by decide +kernel) rfl ?_
  show zWP g zm_X2_neighbourOf (zmo g zm_X2_neighbourOf (zΦi φ)) 0 [(0, .ref 182), (1, .int (zJ v1)), (2, .int (zJ v2))] [] 0 0 (zw μ)
  obtain ⟨o1, h⟩ := h
  refine zw_aload_n (pc := 0) (n := 0) (i := 0) 0 (by decide +kernel) rfl rfl ?_
  refine zx_getR (pc := 1) (o := 2) (r := 184) zf_2_15 (by decide +kernel) rfl zc_182 rfl (by decide) rfl ?_
  refine zw_bipush (pc := 4) (n := 8) (by decide +kernel) (by decide +kernel) ?_
  refine zw_iload_n (pc := 6) (n := 1) (i := 1) 1 (by decide +kernel) rfl rfl ?_
  refine zw_imul (pc := 7) (by decide +kernel) ?_
  refine zw_iload_n (pc := 8) (n := 2) (i := 2) 2 (by decide +kernel) rfl rfl ?_
  refine zw_iadd (pc := 9) (by decide +kernel) ?_
  refine zx_iaload (pc := 10) (by decide +kernel) ⟨1592, zc_184, o1.1, o1.2⟩ ?_
  exact zw_iret (pc := 11) (by decide +kernel) rfl (Nat.le_refl _) (Nat.le_refl _) ⟨_, _, rfl, rfl, h⟩
abbrev at_X2_walkFrom_27 (g : zG) (φ : Int → zMu → Prop) (v1 : Nat) (v3 : Int) (v4 : Int) (μ : zMu) : Prop := zWP g zm_X2_walkFrom (zmo g zm_X2_walkFrom (zΦi φ)) 27 [(0, .ref 182), (1, .ref v1), (3, .int (zJ v3)), (4, .int (zJ v4))] [] 0 0 (zw μ)
abbrev at_X2_walkFrom_63 (g : zG) (φ : Int → zMu → Prop) (v1 : Nat) (v3 : Int) (v4 : Int) (v5 : Int) (v6 : Int) (v7 : Int) (μ : zMu) : Prop := zWP g zm_X2_walkFrom (zmo g zm_X2_walkFrom (zΦi φ)) 63 [(0, .ref 182), (1, .ref v1), (3, .int (zJ v3)), (4, .int (zJ v4)), (5, .int (zJ v5)), (6, .int (zJ v6)), (7, .int (zJ v7))] [] 0 0 (zw μ)
theorem sg_X2_walkFrom {g : zG} {φ : Int → zMu → Prop} {v1 : Nat} {v2 : Int} {μ : zMu} (h_v1 : zS v1 0 5)
    (h : zOv g zm_J7_fill_53178 [.ref 186, .int (zJ (-1))] μ (fun μ1 => (0 ≤ v2 ∧ v2 < 199) ∧ at_X2_walkFrom_27 g φ v1 1 0 (zup (zup μ1 186 v2.toNat 0) 187 0 v2))) : zOi g zm_X2_walkFrom [.ref 182, .ref v1, .int (zJ v2)] μ φ := by
  refine zok_of (by decide +kernel) rfl ?_
  show zWP g zm_X2_walkFrom (zmo g zm_X2_walkFrom (zΦi φ)) 0 [(0, .ref 182), (1, .ref v1), (2, .int (zJ v2))] [] 0 0 (zw μ)
  refine zw_aload_n (pc := 0) (n := 0) (i := 0) 0 (by decide +kernel) rfl rfl ?_
  refine zx_getR (pc := 1) (o := 4) (r := 186) zf_2_21 (by decide +kernel) rfl zc_182 rfl (by decide) rfl ?_
  refine zw_iconst (pc := 4) (n := (-1)) (by decide +kernel) ?_
  refine zx_callS (pc := 5) (As := [.ref 186, .int (zJ (-1))]) h zi_J7_fill_53178 zis_J7_fill_53178 zl_2_27 (by decide +kernel) ⟨Nat.le_of_ble_eq_true rfl, Nat.le_of_ble_eq_true rfl⟩ rfl rfl ⟨rfl, rfl⟩ ⟨Nat.zero_le _, Nat.zero_le _⟩ (zkv (fun μ1 h => ?_))
  obtain ⟨o2, h⟩ := h
  refine zw_aload_n (pc := 8) (n := 0) (i := 0) 0 (by decide +kernel) rfl rfl ?_
  refine zx_getR (pc := 9) (o := 4) (r := 186) zf_2_21 (by decide +kernel) rfl zc_182 rfl (by decide) rfl ?_
  refine zw_iload_n (pc := 12) (n := 2) (i := 2) 2 (by decide +kernel) rfl rfl ?_
  refine zw_iconst (pc := 13) (n := 0) (by decide +kernel) ?_
  refine zx_iastore (pc := 14) (by decide +kernel) ⟨199, zc_186, o2.1, o2.2⟩ ?_
  refine zw_aload_n (pc := 15) (n := 0) (i := 0) 0 (by decide +kernel) rfl rfl ?_
  refine zx_getR (pc := 16) (o := 5) (r := 187) zf_2_24 (by decide +kernel) rfl zc_182 rfl (by decide) rfl ?_
  refine zw_iconst (pc := 19) (n := 0) (by decide +kernel) ?_
  refine zw_iload_n (pc := 20) (n := 2) (i := 2) 2 (by decide +kernel) rfl rfl ?_
  refine zx_iastore (pc := 21) (by decide +kernel) ⟨199, zc_187, by decide, by decide⟩ ?_
  refine zw_iconst (pc := 22) (n := 1) (by decide +kernel) ?_
  refine zw_istore_n (pc := 23) (n := 3) (i := 3) (lv' := [(0, .ref 182), (1, .ref v1), (2, .int (zJ v2)), (3, .int (zJ 1))]) (by decide +kernel) rfl (Nat.le_of_ble_eq_true rfl) rfl ?_
  refine zw_iconst (pc := 24) (n := 0) (by decide +kernel) ?_
  refine zw_istore (pc := 25) (i := 4) (lv' := [(0, .ref 182), (1, .ref v1), (2, .int (zJ v2)), (3, .int (zJ 1)), (4, .int (zJ 0))]) (by decide +kernel) (Nat.le_of_ble_eq_true rfl) rfl ?_
  exact zw_pick (lv' := [(0, .ref 182), (1, .ref v1), (3, .int (zJ 1)), (4, .int (zJ 0))]) [0, 1, 3, 4] rfl h
theorem sg_X2_walkFrom_27 {g : zG} {φ : Int → zMu → Prop} {v1 : Nat} {v3 : Int} {v4 : Int} {μ : zMu} (h_v1 : zS v1 0 5)
    (h : (zR v4) ∧ (zR v3) ∧ ((v3 ≤ v4 → φ v3 μ) ∧ (v4 < v3 → (zR (μ v1 0)) ∧ (((μ v1 0) ≤ v4 → φ v3 μ) ∧ (v4 < (μ v1 0) → (0 ≤ v4 ∧ v4 < 199) ∧ zOi g zm_X2_sizeOf [.ref 182, .ref v1, .int (zJ (μ 187 v4.toNat))] μ (fun x6 μ5 => at_X2_walkFrom_63 g φ v1 v3 v4 (μ 187 v4.toNat) x6 0 μ5)))))) : at_X2_walkFrom_27 g φ v1 v3 v4 μ := by
  obtain ⟨o1, o2, h⟩ := h
  refine zw_iload (pc := 27) (i := 4) 3 (by decide +kernel) rfl ?_
  refine zw_iload_n (pc := 29) (n := 3) (i := 3) 2 (by decide +kernel) rfl rfl ?_
  refine zw_icmp_ge (pc := 30) (off := 99) (tgt := 129) (by decide +kernel) (by decide) o1 o2 (fun hc => ?_) (fun hc => ?_)
  · replace h := h.1 hc
    refine zw_iload_n (pc := 129) (n := 3) (i := 3) 2 (by decide +kernel) rfl rfl ?_
    exact zw_iret (pc := 130) (by decide +kernel) rfl (Nat.le_refl _) (Nat.le_refl _) ⟨_, _, rfl, rfl, h⟩
  · replace h := h.2 hc
    obtain ⟨o3, h⟩ := h
    refine zw_iload (pc := 33) (i := 4) 3 (by decide +kernel) rfl ?_
    refine zw_aload_n (pc := 35) (n := 1) (i := 1) 1 (by decide +kernel) rfl rfl ?_
    refine zx_getI (pc := 36) zf_2_49 (by decide +kernel) rfl h_v1 ?_
    refine zw_icmp_ge (pc := 39) (off := 90) (tgt := 129) (by decide +kernel) (by decide) o1 o3 (fun hc => ?_) (fun hc => ?_)
    · replace h := h.1 hc
      refine zw_iload_n (pc := 129) (n := 3) (i := 3) 2 (by decide +kernel) rfl rfl ?_
      exact zw_iret (pc := 130) (by decide +kernel) rfl (Nat.le_refl _) (Nat.le_refl _) ⟨_, _, rfl, rfl, h⟩
    · replace h := h.2 hc
      obtain ⟨o4, h⟩ := h
      refine zw_aload_n (pc := 42) (n := 0) (i := 0) 0 (by decide +kernel) rfl rfl ?_
      refine zx_getR (pc := 43) (o := 5) (r := 187) zf_2_24 (by decide +kernel) rfl zc_182 rfl (by decide) rfl ?_
      refine zw_iload (pc := 46) (i := 4) 3 (by decide +kernel) rfl ?_
      refine zx_iaload (pc := 48) (by decide +kernel) ⟨199, zc_187, o4.1, o4.2⟩ ?_
      refine zw_istore (pc := 49) (i := 5) (lv' := [(0, .ref 182), (1, .ref v1), (3, .int (zJ v3)), (4, .int (zJ v4)), (5, .int (zJ (μ 187 v4.toNat)))]) (by decide +kernel) (Nat.le_of_ble_eq_true rfl) rfl ?_
      refine zw_aload_n (pc := 51) (n := 0) (i := 0) 0 (by decide +kernel) rfl rfl ?_
      refine zw_aload_n (pc := 52) (n := 1) (i := 1) 1 (by decide +kernel) rfl rfl ?_
      refine zw_iload (pc := 53) (i := 5) 4 (by decide +kernel) rfl ?_
      refine zx_callV (pc := 55) (As := [.ref v1, .int (zJ (μ 187 v4.toNat))]) h zi_X2_sizeOf zii_X2_sizeOf zie_X2_sizeOf zl_2_76 (by decide +kernel) ⟨Nat.le_of_ble_eq_true rfl, Nat.le_of_ble_eq_true rfl⟩ rfl zc_182 (by decide) rfl rfl ⟨rfl, rfl⟩ ⟨Nat.zero_le _, Nat.zero_le _⟩ (zki (fun x6 μ5 h => ?_))
      refine zw_istore (pc := 58) (i := 6) (lv' := [(0, .ref 182), (1, .ref v1), (3, .int (zJ v3)), (4, .int (zJ v4)), (5, .int (zJ (μ 187 v4.toNat))), (6, .int (zJ x6))]) (by decide +kernel) (Nat.le_of_ble_eq_true rfl) rfl ?_
      refine zw_iconst (pc := 60) (n := 0) (by decide +kernel) ?_
      refine zw_istore (pc := 61) (i := 7) (lv' := [(0, .ref 182), (1, .ref v1), (3, .int (zJ v3)), (4, .int (zJ v4)), (5, .int (zJ (μ 187 v4.toNat))), (6, .int (zJ x6)), (7, .int (zJ 0))]) (by decide +kernel) (Nat.le_of_ble_eq_true rfl) rfl ?_
      exact h
theorem sg_X2_walkFrom_63 {g : zG} {φ : Int → zMu → Prop} {v1 : Nat} {v3 : Int} {v4 : Int} {v5 : Int} {v6 : Int} {v7 : Int} {μ : zMu} (h_v1 : zS v1 0 5)
    (h : (zR v7) ∧ (zR v6) ∧ ((v6 ≤ v7 → at_X2_walkFrom_27 g φ v1 v3 (v4 + 1) μ) ∧ (v7 < v6 → zOi g zm_X2_neighbourOf [.ref 182, .int (zJ v5), .int (zJ v7)] μ (fun x4 μ3 => (0 ≤ x4 ∧ x4 < 199) ∧ (zR (μ3 186 x4.toNat)) ∧ ((0 ≤ (μ3 186 x4.toNat) → at_X2_walkFrom_63 g φ v1 v3 v4 v5 v6 (v7 + 1) μ3) ∧ ((μ3 186 x4.toNat) < 0 → (0 ≤ v5 ∧ v5 < 199) ∧ (0 ≤ v3 ∧ v3 < 199) ∧ at_X2_walkFrom_63 g φ v1 (v3 + 1) v4 v5 v6 (v7 + 1) (zup (zup μ3 186 x4.toNat ((μ3 186 v5.toNat) + 1)) 187 v3.toNat x4))))))) : at_X2_walkFrom_63 g φ v1 v3 v4 v5 v6 v7 μ := by
  obtain ⟨o1, o2, h⟩ := h
  refine zw_iload (pc := 63) (i := 7) 6 (by decide +kernel) rfl ?_
  refine zw_iload (pc := 65) (i := 6) 5 (by decide +kernel) rfl ?_
  refine zw_icmp_ge (pc := 67) (off := 56) (tgt := 123) (by decide +kernel) (by decide) o1 o2 (fun hc => ?_) (fun hc => ?_)
  · replace h := h.1 hc
    refine zw_iinc (pc := 123) (i := 4) (n := 1) (lv' := [(0, .ref 182), (1, .ref v1), (3, .int (zJ v3)), (4, .int (zJ (v4 + 1))), (5, .int (zJ v5)), (6, .int (zJ v6)), (7, .int (zJ v7))]) 3 (by decide +kernel) rfl rfl (Nat.le_of_ble_eq_true rfl) rfl ?_
    refine zw_goto (pc := 126) (off := (-99)) (tgt := 27) (by decide +kernel) (by decide) ?_
    exact zw_pick (lv' := [(0, .ref 182), (1, .ref v1), (3, .int (zJ v3)), (4, .int (zJ (v4 + 1)))]) [0, 1, 2, 3] rfl h
  · replace h := h.2 hc
    refine zw_aload_n (pc := 70) (n := 0) (i := 0) 0 (by decide +kernel) rfl rfl ?_
    refine zw_iload (pc := 71) (i := 5) 4 (by decide +kernel) rfl ?_
    refine zw_iload (pc := 73) (i := 7) 6 (by decide +kernel) rfl ?_
    refine zx_callV (pc := 75) (As := [.int (zJ v5), .int (zJ v7)]) h zi_X2_neighbourOf zii_X2_neighbourOf zie_X2_neighbourOf zl_2_80 (by decide +kernel) ⟨Nat.le_of_ble_eq_true rfl, Nat.le_of_ble_eq_true rfl⟩ rfl zc_182 (by decide) rfl rfl ⟨rfl, rfl⟩ ⟨Nat.zero_le _, Nat.zero_le _⟩ (zki (fun x4 μ3 h => ?_))
    obtain ⟨o5, o6, h⟩ := h
    refine zw_istore (pc := 78) (i := 8) (lv' := [(0, .ref 182), (1, .ref v1), (3, .int (zJ v3)), (4, .int (zJ v4)), (5, .int (zJ v5)), (6, .int (zJ v6)), (7, .int (zJ v7)), (8, .int (zJ x4))]) (by decide +kernel) (Nat.le_of_ble_eq_true rfl) rfl ?_
    refine zw_aload_n (pc := 80) (n := 0) (i := 0) 0 (by decide +kernel) rfl rfl ?_
    refine zx_getR (pc := 81) (o := 4) (r := 186) zf_2_21 (by decide +kernel) rfl zc_182 rfl (by decide) rfl ?_
    refine zw_iload (pc := 84) (i := 8) 7 (by decide +kernel) rfl ?_
    refine zx_iaload (pc := 86) (by decide +kernel) ⟨199, zc_186, o5.1, o5.2⟩ ?_
    refine zw_if_ge (pc := 87) (off := 30) (tgt := 117) (by decide +kernel) (by decide) o6 (fun hc => ?_) (fun hc => ?_)
    · replace h := h.1 hc
      refine zw_iinc (pc := 117) (i := 7) (n := 1) (lv' := [(0, .ref 182), (1, .ref v1), (3, .int (zJ v3)), (4, .int (zJ v4)), (5, .int (zJ v5)), (6, .int (zJ v6)), (7, .int (zJ (v7 + 1))), (8, .int (zJ x4))]) 6 (by decide +kernel) rfl rfl (Nat.le_of_ble_eq_true rfl) rfl ?_
      refine zw_goto (pc := 120) (off := (-57)) (tgt := 63) (by decide +kernel) (by decide) ?_
      exact zw_pick (lv' := [(0, .ref 182), (1, .ref v1), (3, .int (zJ v3)), (4, .int (zJ v4)), (5, .int (zJ v5)), (6, .int (zJ v6)), (7, .int (zJ (v7 + 1)))]) [0, 1, 2, 3, 4, 5, 6] rfl h
    · replace h := h.2 hc
      obtain ⟨o7, o8, h⟩ := h
      refine zw_aload_n (pc := 90) (n := 0) (i := 0) 0 (by decide +kernel) rfl rfl ?_
      refine zx_getR (pc := 91) (o := 4) (r := 186) zf_2_21 (by decide +kernel) rfl zc_182 rfl (by decide) rfl ?_
      refine zw_iload (pc := 94) (i := 8) 7 (by decide +kernel) rfl ?_
      refine zw_aload_n (pc := 96) (n := 0) (i := 0) 0 (by decide +kernel) rfl rfl ?_
      refine zx_getR (pc := 97) (o := 4) (r := 186) zf_2_21 (by decide +kernel) rfl zc_182 rfl (by decide) rfl ?_
      refine zw_iload (pc := 100) (i := 5) 4 (by decide +kernel) rfl ?_
      refine zx_iaload (pc := 102) (by decide +kernel) ⟨199, zc_186, o7.1, o7.2⟩ ?_
      refine zw_iconst (pc := 103) (n := 1) (by decide +kernel) ?_
      refine zw_iadd (pc := 104) (by decide +kernel) ?_
      refine zx_iastore (pc := 105) (by decide +kernel) ⟨199, zc_186, o5.1, o5.2⟩ ?_
      refine zw_aload_n (pc := 106) (n := 0) (i := 0) 0 (by decide +kernel) rfl rfl ?_
      refine zx_getR (pc := 107) (o := 5) (r := 187) zf_2_24 (by decide +kernel) rfl zc_182 rfl (by decide) rfl ?_
      refine zw_iload_n (pc := 110) (n := 3) (i := 3) 2 (by decide +kernel) rfl rfl ?_
      refine zw_iload (pc := 111) (i := 8) 7 (by decide +kernel) rfl ?_
      refine zx_iastore (pc := 113) (by decide +kernel) ⟨199, zc_187, o8.1, o8.2⟩ ?_
      refine zw_iinc (pc := 114) (i := 3) (n := 1) (lv' := [(0, .ref 182), (1, .ref v1), (3, .int (zJ (v3 + 1))), (4, .int (zJ v4)), (5, .int (zJ v5)), (6, .int (zJ v6)), (7, .int (zJ v7)), (8, .int (zJ x4))]) 2 (by decide +kernel) rfl rfl (Nat.le_of_ble_eq_true rfl) rfl ?_
      refine zw_iinc (pc := 117) (i := 7) (n := 1) (lv' := [(0, .ref 182), (1, .ref v1), (3, .int (zJ (v3 + 1))), (4, .int (zJ v4)), (5, .int (zJ v5)), (6, .int (zJ v6)), (7, .int (zJ (v7 + 1))), (8, .int (zJ x4))]) 6 (by decide +kernel) rfl rfl (Nat.le_of_ble_eq_true rfl) rfl ?_
      refine zw_goto (pc := 120) (off := (-57)) (tgt := 63) (by decide +kernel) (by decide) ?_
      exact zw_pick (lv' := [(0, .ref 182), (1, .ref v1), (3, .int (zJ (v3 + 1))), (4, .int (zJ v4)), (5, .int (zJ v5)), (6, .int (zJ v6)), (7, .int (zJ (v7 + 1)))]) [0, 1, 2, 3, 4, 5, 6] rfl h
theorem sg_X2_distanceTo {g : zG} {φ : Int → zMu → Prop} {v1 : Int} {μ : zMu}
    (h : (0 ≤ v1 ∧ v1 < 199) ∧ φ (μ 186 v1.toNat) μ) : zOi g zm_X2_distanceTo [.ref 182, .int (zJ v1)] μ φ := by
  refine zok_of (by decide +kernel) rfl ?_
  show zWP g zm_X2_distanceTo (zmo g zm_X2_distanceTo (zΦi φ)) 0 [(0, .ref 182), (1, .int (zJ v1))] [] 0 0 (zw μ)
  obtain ⟨o1, h⟩ := h
  refine zw_aload_n (pc := 0) (n := 0) (i := 0) 0 (by decide +kernel) rfl rfl ?_
  refine zx_getR (pc := 1) (o := 4) (r := 186) zf_2_21 (by decide +kernel) rfl zc_182 rfl (by decide) rfl ?_
  refine zw_iload_n (pc := 4) (n := 1) (i := 1) 1 (by decide +kernel) rfl rfl ?_
  refine zx_iaload (pc := 5) (by decide +kernel) ⟨199, zc_186, o1.1, o1.2⟩ ?_
  exact zw_iret (pc := 6) (by decide +kernel) rfl (Nat.le_refl _) (Nat.le_refl _) ⟨_, _, rfl, rfl, h⟩
abbrev at_X2_ownNeighbours_4 (g : zG) (φ : Int → zMu → Prop) (v1 : Nat) (v2 : Int) (v3 : Int) (μ : zMu) : Prop := zWP g zm_X2_ownNeighbours (zmo g zm_X2_ownNeighbours (zΦi φ)) 4 [(0, .ref 182), (1, .ref v1), (2, .int (zJ v2)), (3, .int (zJ v3))] [] 0 0 (zw μ)
theorem sg_X2_ownNeighbours {g : zG} {φ : Int → zMu → Prop} {v1 : Nat} {μ : zMu} (h_v1 : zS v1 0 5)
    (h : at_X2_ownNeighbours_4 g φ v1 0 0 μ) : zOi g zm_X2_ownNeighbours [.ref 182, .ref v1] μ φ := by
  refine zok_of (by decide +kernel) rfl ?_
  show zWP g zm_X2_ownNeighbours (zmo g zm_X2_ownNeighbours (zΦi φ)) 0 [(0, .ref 182), (1, .ref v1)] [] 0 0 (zw μ)
  refine zw_iconst (pc := 0) (n := 0) (by decide +kernel) ?_
  refine zw_istore_n (pc := 1) (n := 2) (i := 2) (lv' := [(0, .ref 182), (1, .ref v1), (2, .int (zJ 0))]) (by decide +kernel) rfl (Nat.le_of_ble_eq_true rfl) rfl ?_
  refine zw_iconst (pc := 2) (n := 0) (by decide +kernel) ?_
  refine zw_istore_n (pc := 3) (n := 3) (i := 3) (lv' := [(0, .ref 182), (1, .ref v1), (2, .int (zJ 0)), (3, .int (zJ 0))]) (by decide +kernel) rfl (Nat.le_of_ble_eq_true rfl) rfl ?_
  exact h
theorem sg_X2_ownNeighbours_4 {g : zG} {φ : Int → zMu → Prop} {v1 : Nat} {v2 : Int} {v3 : Int} {μ : zMu} (h_v1 : zS v1 0 5)
    (h : (zR v3) ∧ (zR (μ v1 0)) ∧ (((μ v1 0) ≤ v3 → φ v2 μ) ∧ (v3 < (μ v1 0) → zOi g zm_X2_isDegenerate [.ref 182, .ref v1, .int (zJ v3)] μ (fun x4 μ3 => (zR x4) ∧ ((¬ x4 = 0 → at_X2_ownNeighbours_4 g φ v1 v2 (v3 + 1) μ3) ∧ (x4 = 0 → zOi g zm_X3_valueOf [.ref (v1 + 2), .int (zJ v3), .int (zJ v3), .int (zJ (μ3 v1 0))] μ3 (fun x8 μ7 => (zR x8) ∧ ((¬ x8 = 0 → at_X2_ownNeighbours_4 g φ v1 v2 (v3 + 1) μ7) ∧ (x8 = 0 → at_X2_ownNeighbours_4 g φ v1 (v2 + 1) (v3 + 1) μ7))))))))) : at_X2_ownNeighbours_4 g φ v1 v2 v3 μ := by
  obtain ⟨o1, o2, h⟩ := h
  refine zw_iload_n (pc := 4) (n := 3) (i := 3) 3 (by decide +kernel) rfl rfl ?_
  refine zw_aload_n (pc := 5) (n := 1) (i := 1) 1 (by decide +kernel) rfl rfl ?_
  refine zx_getI (pc := 6) zf_2_49 (by decide +kernel) rfl h_v1 ?_
  refine zw_icmp_ge (pc := 9) (off := 37) (tgt := 46) (by decide +kernel) (by decide) o1 o2 (fun hc => ?_) (fun hc => ?_)
  · replace h := h.1 hc
    refine zw_iload_n (pc := 46) (n := 2) (i := 2) 2 (by decide +kernel) rfl rfl ?_
    exact zw_iret (pc := 47) (by decide +kernel) rfl (Nat.le_refl _) (Nat.le_refl _) ⟨_, _, rfl, rfl, h⟩
  · replace h := h.2 hc
    refine zw_aload_n (pc := 12) (n := 0) (i := 0) 0 (by decide +kernel) rfl rfl ?_
    refine zw_aload_n (pc := 13) (n := 1) (i := 1) 1 (by decide +kernel) rfl rfl ?_
    refine zw_iload_n (pc := 14) (n := 3) (i := 3) 3 (by decide +kernel) rfl rfl ?_
    refine zx_callV (pc := 15) (As := [.ref v1, .int (zJ v3)]) h zi_X2_isDegenerate zii_X2_isDegenerate zie_X2_isDegenerate zl_2_83 (by decide +kernel) ⟨Nat.le_of_ble_eq_true rfl, Nat.le_of_ble_eq_true rfl⟩ rfl zc_182 (by decide) rfl rfl ⟨rfl, rfl⟩ ⟨Nat.zero_le _, Nat.zero_le _⟩ (zki (fun x4 μ3 h => ?_))
    obtain ⟨o5, h⟩ := h
    refine zw_if_ne (pc := 18) (off := 22) (tgt := 40) (by decide +kernel) (by decide) o5 (fun hc => ?_) (fun hc => ?_)
    · replace h := h.1 hc
      refine zw_iinc (pc := 40) (i := 3) (n := 1) (lv' := [(0, .ref 182), (1, .ref v1), (2, .int (zJ v2)), (3, .int (zJ (v3 + 1)))]) 3 (by decide +kernel) rfl rfl (Nat.le_of_ble_eq_true rfl) rfl ?_
      refine zw_goto (pc := 43) (off := (-39)) (tgt := 4) (by decide +kernel) (by decide) ?_
      exact h
    · replace h := h.2 hc
      refine zw_aload_n (pc := 21) (n := 1) (i := 1) 1 (by decide +kernel) rfl rfl ?_
      have q6 : zS (v1 + 2) 3 2 := zq 1 h_v1 rfl
      refine zx_getR (pc := 22) (o := 2) (r := (v1 + 2)) zf_2_43 (by decide +kernel) rfl h_v1 rfl (by decide) rfl ?_
      refine zw_iload_n (pc := 25) (n := 3) (i := 3) 3 (by decide +kernel) rfl rfl ?_
      refine zw_iload_n (pc := 26) (n := 3) (i := 3) 3 (by decide +kernel) rfl rfl ?_
      refine zw_aload_n (pc := 27) (n := 1) (i := 1) 1 (by decide +kernel) rfl rfl ?_
      refine zx_getI (pc := 28) zf_2_49 (by decide +kernel) rfl h_v1 ?_
      refine zx_callV (pc := 31) (As := [.int (zJ v3), .int (zJ v3), .int (zJ (μ3 v1 0))]) h zi_X3_valueOf zii_X3_valueOf zie_X3_valueOf zl_2_87 (by decide +kernel) ⟨Nat.le_of_ble_eq_true rfl, Nat.le_of_ble_eq_true rfl⟩ rfl q6 (by decide) rfl rfl ⟨rfl, rfl⟩ ⟨Nat.zero_le _, Nat.zero_le _⟩ (zki (fun x8 μ7 h => ?_))
      obtain ⟨o9, h⟩ := h
      refine zw_if_ne (pc := 34) (off := 6) (tgt := 40) (by decide +kernel) (by decide) o9 (fun hc => ?_) (fun hc => ?_)
      · replace h := h.1 hc
        refine zw_iinc (pc := 40) (i := 3) (n := 1) (lv' := [(0, .ref 182), (1, .ref v1), (2, .int (zJ v2)), (3, .int (zJ (v3 + 1)))]) 3 (by decide +kernel) rfl rfl (Nat.le_of_ble_eq_true rfl) rfl ?_
        refine zw_goto (pc := 43) (off := (-39)) (tgt := 4) (by decide +kernel) (by decide) ?_
        exact h
      · replace h := h.2 hc
        refine zw_iinc (pc := 37) (i := 2) (n := 1) (lv' := [(0, .ref 182), (1, .ref v1), (2, .int (zJ (v2 + 1))), (3, .int (zJ v3))]) 2 (by decide +kernel) rfl rfl (Nat.le_of_ble_eq_true rfl) rfl ?_
        refine zw_iinc (pc := 40) (i := 3) (n := 1) (lv' := [(0, .ref 182), (1, .ref v1), (2, .int (zJ (v2 + 1))), (3, .int (zJ (v3 + 1)))]) 3 (by decide +kernel) rfl rfl (Nat.le_of_ble_eq_true rfl) rfl ?_
        refine zw_goto (pc := 43) (off := (-39)) (tgt := 4) (by decide +kernel) (by decide) ?_
        exact h
abbrev at_X2_degenerateValues_4 (g : zG) (φ : Int → zMu → Prop) (v1 : Nat) (v2 : Int) (v3 : Int) (μ : zMu) : Prop := zWP g zm_X2_degenerateValues (zmo g zm_X2_degenerateValues (zΦi φ)) 4 [(0, .ref 182), (1, .ref v1), (2, .int (zJ v2)), (3, .int (zJ v3))] [] 0 0 (zw μ)
theorem sg_X2_degenerateValues {g : zG} {φ : Int → zMu → Prop} {v1 : Nat} {μ : zMu} (h_v1 : zS v1 0 5)
    (h : at_X2_degenerateValues_4 g φ v1 0 0 μ) : zOi g zm_X2_degenerateValues [.ref 182, .ref v1] μ φ := by
  refine zok_of (by decide +kernel) rfl ?_
  show zWP g zm_X2_degenerateValues (zmo g zm_X2_degenerateValues (zΦi φ)) 0 [(0, .ref 182), (1, .ref v1)] [] 0 0 (zw μ)
  refine zw_iconst (pc := 0) (n := 0) (by decide +kernel) ?_
  refine zw_istore_n (pc := 1) (n := 2) (i := 2) (lv' := [(0, .ref 182), (1, .ref v1), (2, .int (zJ 0))]) (by decide +kernel) rfl (Nat.le_of_ble_eq_true rfl) rfl ?_
  refine zw_iconst (pc := 2) (n := 0) (by decide +kernel) ?_
  refine zw_istore_n (pc := 3) (n := 3) (i := 3) (lv' := [(0, .ref 182), (1, .ref v1), (2, .int (zJ 0)), (3, .int (zJ 0))]) (by decide +kernel) rfl (Nat.le_of_ble_eq_true rfl) rfl ?_
  exact h
theorem sg_X2_degenerateValues_4 {g : zG} {φ : Int → zMu → Prop} {v1 : Nat} {v2 : Int} {v3 : Int} {μ : zMu} (h_v1 : zS v1 0 5)
    (h : (zR v3) ∧ (zR (μ v1 0)) ∧ (((μ v1 0) ≤ v3 → φ v2 μ) ∧ (v3 < (μ v1 0) → zOi g zm_X2_isDegenerate [.ref 182, .ref v1, .int (zJ v3)] μ (fun x4 μ3 => (zR x4) ∧ ((x4 = 0 → at_X2_degenerateValues_4 g φ v1 v2 (v3 + 1) μ3) ∧ (¬ x4 = 0 → at_X2_degenerateValues_4 g φ v1 (v2 + 1) (v3 + 1) μ3)))))) : at_X2_degenerateValues_4 g φ v1 v2 v3 μ := by
  obtain ⟨o1, o2, h⟩ := h
  refine zw_iload_n (pc := 4) (n := 3) (i := 3) 3 (by decide +kernel) rfl rfl ?_
  refine zw_aload_n (pc := 5) (n := 1) (i := 1) 1 (by decide +kernel) rfl rfl ?_
  refine zx_getI (pc := 6) zf_2_49 (by decide +kernel) rfl h_v1 ?_
  refine zw_icmp_ge (pc := 9) (off := 21) (tgt := 30) (by decide +kernel) (by decide) o1 o2 (fun hc => ?_) (fun hc => ?_)
  · replace h := h.1 hc
    refine zw_iload_n (pc := 30) (n := 2) (i := 2) 2 (by decide +kernel) rfl rfl ?_
    exact zw_iret (pc := 31) (by decide +kernel) rfl (Nat.le_refl _) (Nat.le_refl _) ⟨_, _, rfl, rfl, h⟩
  · replace h := h.2 hc
    refine zw_aload_n (pc := 12) (n := 0) (i := 0) 0 (by decide +kernel) rfl rfl ?_
    refine zw_aload_n (pc := 13) (n := 1) (i := 1) 1 (by decide +kernel) rfl rfl ?_
    refine zw_iload_n (pc := 14) (n := 3) (i := 3) 3 (by decide +kernel) rfl rfl ?_
    refine zx_callV (pc := 15) (As := [.ref v1, .int (zJ v3)]) h zi_X2_isDegenerate zii_X2_isDegenerate zie_X2_isDegenerate zl_2_83 (by decide +kernel) ⟨Nat.le_of_ble_eq_true rfl, Nat.le_of_ble_eq_true rfl⟩ rfl zc_182 (by decide) rfl rfl ⟨rfl, rfl⟩ ⟨Nat.zero_le _, Nat.zero_le _⟩ (zki (fun x4 μ3 h => ?_))
    obtain ⟨o5, h⟩ := h
    refine zw_if_eq (pc := 18) (off := 6) (tgt := 24) (by decide +kernel) (by decide) o5 (fun hc => ?_) (fun hc => ?_)
    · replace h := h.1 hc
      refine zw_iinc (pc := 24) (i := 3) (n := 1) (lv' := [(0, .ref 182), (1, .ref v1), (2, .int (zJ v2)), (3, .int (zJ (v3 + 1)))]) 3 (by decide +kernel) rfl rfl (Nat.le_of_ble_eq_true rfl) rfl ?_
      refine zw_goto (pc := 27) (off := (-23)) (tgt := 4) (by decide +kernel) (by decide) ?_
      exact h
    · replace h := h.2 hc
      refine zw_iinc (pc := 21) (i := 2) (n := 1) (lv' := [(0, .ref 182), (1, .ref v1), (2, .int (zJ (v2 + 1))), (3, .int (zJ v3))]) 2 (by decide +kernel) rfl rfl (Nat.le_of_ble_eq_true rfl) rfl ?_
      refine zw_iinc (pc := 24) (i := 3) (n := 1) (lv' := [(0, .ref 182), (1, .ref v1), (2, .int (zJ (v2 + 1))), (3, .int (zJ (v3 + 1)))]) 3 (by decide +kernel) rfl rfl (Nat.le_of_ble_eq_true rfl) rfl ?_
      refine zw_goto (pc := 27) (off := (-23)) (tgt := 4) (by decide +kernel) (by decide) ?_
      exact h
abbrev at_X2_lonelyValues_4 (g : zG) (φ : Int → zMu → Prop) (v1 : Nat) (v2 : Int) (v3 : Int) (μ : zMu) : Prop := zWP g zm_X2_lonelyValues (zmo g zm_X2_lonelyValues (zΦi φ)) 4 [(0, .ref 182), (1, .ref v1), (2, .int (zJ v2)), (3, .int (zJ v3))] [] 0 0 (zw μ)
theorem sg_X2_lonelyValues {g : zG} {φ : Int → zMu → Prop} {v1 : Nat} {μ : zMu} (h_v1 : zS v1 0 5)
    (h : at_X2_lonelyValues_4 g φ v1 0 0 μ) : zOi g zm_X2_lonelyValues [.ref 182, .ref v1] μ φ := by
  refine zok_of (by decide +kernel) rfl ?_
  show zWP g zm_X2_lonelyValues (zmo g zm_X2_lonelyValues (zΦi φ)) 0 [(0, .ref 182), (1, .ref v1)] [] 0 0 (zw μ)
  refine zw_iconst (pc := 0) (n := 0) (by decide +kernel) ?_
  refine zw_istore_n (pc := 1) (n := 2) (i := 2) (lv' := [(0, .ref 182), (1, .ref v1), (2, .int (zJ 0))]) (by decide +kernel) rfl (Nat.le_of_ble_eq_true rfl) rfl ?_
  refine zw_iconst (pc := 2) (n := 0) (by decide +kernel) ?_
  refine zw_istore_n (pc := 3) (n := 3) (i := 3) (lv' := [(0, .ref 182), (1, .ref v1), (2, .int (zJ 0)), (3, .int (zJ 0))]) (by decide +kernel) rfl (Nat.le_of_ble_eq_true rfl) rfl ?_
  exact h
theorem sg_X2_lonelyValues_4 {g : zG} {φ : Int → zMu → Prop} {v1 : Nat} {v2 : Int} {v3 : Int} {μ : zMu} (h_v1 : zS v1 0 5)
    (h : (zR v3) ∧ (zR (μ v1 0)) ∧ (((μ v1 0) ≤ v3 → φ v2 μ) ∧ (v3 < (μ v1 0) → zOi g zm_X2_isDegenerate [.ref 182, .ref v1, .int (zJ v3)] μ (fun x4 μ3 => (zR x4) ∧ ((¬ x4 = 0 → at_X2_lonelyValues_4 g φ v1 v2 (v3 + 1) μ3) ∧ (x4 = 0 → zOi g zm_X2_sizeOf [.ref 182, .ref v1, .int (zJ v3)] μ3 (fun x7 μ6 => (zR x7) ∧ ((¬ x7 = 0 → at_X2_lonelyValues_4 g φ v1 v2 (v3 + 1) μ6) ∧ (x7 = 0 → at_X2_lonelyValues_4 g φ v1 (v2 + 1) (v3 + 1) μ6))))))))) : at_X2_lonelyValues_4 g φ v1 v2 v3 μ := by
  obtain ⟨o1, o2, h⟩ := h
  refine zw_iload_n (pc := 4) (n := 3) (i := 3) 3 (by decide +kernel) rfl rfl ?_
  refine zw_aload_n (pc := 5) (n := 1) (i := 1) 1 (by decide +kernel) rfl rfl ?_
  refine zx_getI (pc := 6) zf_2_49 (by decide +kernel) rfl h_v1 ?_
  refine zw_icmp_ge (pc := 9) (off := 30) (tgt := 39) (by decide +kernel) (by decide) o1 o2 (fun hc => ?_) (fun hc => ?_)
  · replace h := h.1 hc
    refine zw_iload_n (pc := 39) (n := 2) (i := 2) 2 (by decide +kernel) rfl rfl ?_
    exact zw_iret (pc := 40) (by decide +kernel) rfl (Nat.le_refl _) (Nat.le_refl _) ⟨_, _, rfl, rfl, h⟩
  · replace h := h.2 hc
    refine zw_aload_n (pc := 12) (n := 0) (i := 0) 0 (by decide +kernel) rfl rfl ?_
    refine zw_aload_n (pc := 13) (n := 1) (i := 1) 1 (by decide +kernel) rfl rfl ?_
    refine zw_iload_n (pc := 14) (n := 3) (i := 3) 3 (by decide +kernel) rfl rfl ?_
    refine zx_callV (pc := 15) (As := [.ref v1, .int (zJ v3)]) h zi_X2_isDegenerate zii_X2_isDegenerate zie_X2_isDegenerate zl_2_83 (by decide +kernel) ⟨Nat.le_of_ble_eq_true rfl, Nat.le_of_ble_eq_true rfl⟩ rfl zc_182 (by decide) rfl rfl ⟨rfl, rfl⟩ ⟨Nat.zero_le _, Nat.zero_le _⟩ (zki (fun x4 μ3 h => ?_))
    obtain ⟨o5, h⟩ := h
    refine zw_if_ne (pc := 18) (off := 15) (tgt := 33) (by decide +kernel) (by decide) o5 (fun hc => ?_) (fun hc => ?_)
    · replace h := h.1 hc
      refine zw_iinc (pc := 33) (i := 3) (n := 1) (lv' := [(0, .ref 182), (1, .ref v1), (2, .int (zJ v2)), (3, .int (zJ (v3 + 1)))]) 3 (by decide +kernel) rfl rfl (Nat.le_of_ble_eq_true rfl) rfl ?_
      refine zw_goto (pc := 36) (off := (-32)) (tgt := 4) (by decide +kernel) (by decide) ?_
      exact h
    · replace h := h.2 hc
      refine zw_aload_n (pc := 21) (n := 0) (i := 0) 0 (by decide +kernel) rfl rfl ?_
      refine zw_aload_n (pc := 22) (n := 1) (i := 1) 1 (by decide +kernel) rfl rfl ?_
      refine zw_iload_n (pc := 23) (n := 3) (i := 3) 3 (by decide +kernel) rfl rfl ?_
      refine zx_callV (pc := 24) (As := [.ref v1, .int (zJ v3)]) h zi_X2_sizeOf zii_X2_sizeOf zie_X2_sizeOf zl_2_76 (by decide +kernel) ⟨Nat.le_of_ble_eq_true rfl, Nat.le_of_ble_eq_true rfl⟩ rfl zc_182 (by decide) rfl rfl ⟨rfl, rfl⟩ ⟨Nat.zero_le _, Nat.zero_le _⟩ (zki (fun x7 μ6 h => ?_))
      obtain ⟨o8, h⟩ := h
      refine zw_if_ne (pc := 27) (off := 6) (tgt := 33) (by decide +kernel) (by decide) o8 (fun hc => ?_) (fun hc => ?_)
      · replace h := h.1 hc
        refine zw_iinc (pc := 33) (i := 3) (n := 1) (lv' := [(0, .ref 182), (1, .ref v1), (2, .int (zJ v2)), (3, .int (zJ (v3 + 1)))]) 3 (by decide +kernel) rfl rfl (Nat.le_of_ble_eq_true rfl) rfl ?_
        refine zw_goto (pc := 36) (off := (-32)) (tgt := 4) (by decide +kernel) (by decide) ?_
        exact h
      · replace h := h.2 hc
        refine zw_iinc (pc := 30) (i := 2) (n := 1) (lv' := [(0, .ref 182), (1, .ref v1), (2, .int (zJ (v2 + 1))), (3, .int (zJ v3))]) 2 (by decide +kernel) rfl rfl (Nat.le_of_ble_eq_true rfl) rfl ?_
        refine zw_iinc (pc := 33) (i := 3) (n := 1) (lv' := [(0, .ref 182), (1, .ref v1), (2, .int (zJ (v2 + 1))), (3, .int (zJ (v3 + 1)))]) 3 (by decide +kernel) rfl rfl (Nat.le_of_ble_eq_true rfl) rfl ?_
        refine zw_goto (pc := 36) (off := (-32)) (tgt := 4) (by decide +kernel) (by decide) ?_
        exact h
abbrev at_X2_greatestSize_4 (g : zG) (φ : Int → zMu → Prop) (v1 : Nat) (v2 : Int) (v3 : Int) (μ : zMu) : Prop := zWP g zm_X2_greatestSize (zmo g zm_X2_greatestSize (zΦi φ)) 4 [(0, .ref 182), (1, .ref v1), (2, .int (zJ v2)), (3, .int (zJ v3))] [] 0 0 (zw μ)
theorem sg_X2_greatestSize {g : zG} {φ : Int → zMu → Prop} {v1 : Nat} {μ : zMu} (h_v1 : zS v1 0 5)
    (h : at_X2_greatestSize_4 g φ v1 0 0 μ) : zOi g zm_X2_greatestSize [.ref 182, .ref v1] μ φ := by
  refine zok_of (by decide +kernel) rfl ?_
  show zWP g zm_X2_greatestSize (zmo g zm_X2_greatestSize (zΦi φ)) 0 [(0, .ref 182), (1, .ref v1)] [] 0 0 (zw μ)
  refine zw_iconst (pc := 0) (n := 0) (by decide +kernel) ?_
  refine zw_istore_n (pc := 1) (n := 2) (i := 2) (lv' := [(0, .ref 182), (1, .ref v1), (2, .int (zJ 0))]) (by decide +kernel) rfl (Nat.le_of_ble_eq_true rfl) rfl ?_
  refine zw_iconst (pc := 2) (n := 0) (by decide +kernel) ?_
  refine zw_istore_n (pc := 3) (n := 3) (i := 3) (lv' := [(0, .ref 182), (1, .ref v1), (2, .int (zJ 0)), (3, .int (zJ 0))]) (by decide +kernel) rfl (Nat.le_of_ble_eq_true rfl) rfl ?_
  exact h
theorem sg_X2_greatestSize_4 {g : zG} {φ : Int → zMu → Prop} {v1 : Nat} {v2 : Int} {v3 : Int} {μ : zMu} (h_v1 : zS v1 0 5)
    (h : (zR v3) ∧ (zR (μ v1 0)) ∧ (((μ v1 0) ≤ v3 → φ v2 μ) ∧ (v3 < (μ v1 0) → zOi g zm_X2_sizeOf [.ref 182, .ref v1, .int (zJ v3)] μ (fun x4 μ3 => (zR v2) ∧ (zR x4) ∧ at_X2_greatestSize_4 g φ v1 (max v2 x4) (v3 + 1) μ3)))) : at_X2_greatestSize_4 g φ v1 v2 v3 μ := by
  obtain ⟨o1, o2, h⟩ := h
  refine zw_iload_n (pc := 4) (n := 3) (i := 3) 3 (by decide +kernel) rfl rfl ?_
  refine zw_aload_n (pc := 5) (n := 1) (i := 1) 1 (by decide +kernel) rfl rfl ?_
  refine zx_getI (pc := 6) zf_2_49 (by decide +kernel) rfl h_v1 ?_
  refine zw_icmp_ge (pc := 9) (off := 20) (tgt := 29) (by decide +kernel) (by decide) o1 o2 (fun hc => ?_) (fun hc => ?_)
  · replace h := h.1 hc
    refine zw_iload_n (pc := 29) (n := 2) (i := 2) 2 (by decide +kernel) rfl rfl ?_
    exact zw_iret (pc := 30) (by decide +kernel) rfl (Nat.le_refl _) (Nat.le_refl _) ⟨_, _, rfl, rfl, h⟩
  · replace h := h.2 hc
    refine zw_iload_n (pc := 12) (n := 2) (i := 2) 2 (by decide +kernel) rfl rfl ?_
    refine zw_aload_n (pc := 13) (n := 0) (i := 0) 0 (by decide +kernel) rfl rfl ?_
    refine zw_aload_n (pc := 14) (n := 1) (i := 1) 1 (by decide +kernel) rfl rfl ?_
    refine zw_iload_n (pc := 15) (n := 3) (i := 3) 3 (by decide +kernel) rfl rfl ?_
    refine zx_callV (pc := 16) (As := [.ref v1, .int (zJ v3)]) h zi_X2_sizeOf zii_X2_sizeOf zie_X2_sizeOf zl_2_76 (by decide +kernel) ⟨Nat.le_of_ble_eq_true rfl, Nat.le_of_ble_eq_true rfl⟩ rfl zc_182 (by decide) rfl rfl ⟨rfl, rfl⟩ ⟨Nat.zero_le _, Nat.zero_le _⟩ (zki (fun x4 μ3 h => ?_))
    obtain ⟨o5, o6, h⟩ := h
    refine zw_max (pc := 19) zl_2_37 zb_maxS zb_mathI zb_maxC (by decide +kernel) ⟨Nat.le_of_ble_eq_true rfl, Nat.le_of_ble_eq_true rfl⟩ (Nat.zero_le _) (Nat.zero_le _) rfl o5 o6 ?_
    refine zw_istore_n (pc := 22) (n := 2) (i := 2) (lv' := [(0, .ref 182), (1, .ref v1), (2, .int (zJ (max v2 x4))), (3, .int (zJ v3))]) (by decide +kernel) rfl (Nat.le_of_ble_eq_true rfl) rfl ?_
    refine zw_iinc (pc := 23) (i := 3) (n := 1) (lv' := [(0, .ref 182), (1, .ref v1), (2, .int (zJ (max v2 x4))), (3, .int (zJ (v3 + 1)))]) 3 (by decide +kernel) rfl rfl (Nat.le_of_ble_eq_true rfl) rfl ?_
    refine zw_goto (pc := 26) (off := (-22)) (tgt := 4) (by decide +kernel) (by decide) ?_
    exact h
theorem sg_X7_makeInvariant {g : zG} {φ : zMu → Prop} {v1 : Nat} {v2 : Int} {v3 : Int} {μ : zMu} (h_v1 : zS v1 6 3)
    (h : zOv g zm_X7_fillEisenstein [.ref 69, .int (zJ v2), .int (zJ v3)] μ (fun μ1 => zOv g zm_X10_multiply [.ref 70, .ref 70, .ref 71, .int (zJ v2), .int (zJ v3)] μ1 (fun μ2 => zOv g zm_X10_multiply [.ref 71, .ref 70, .ref 72, .int (zJ v2), .int (zJ v3)] μ2 (fun μ3 => zOv g zm_X7_fillEulerProduct [.ref 69, .int (zJ v2), .int (zJ v3)] μ3 (fun μ4 => zOv g zm_X10_multiply [.ref 70, .ref 70, .ref 71, .int (zJ v2), .int (zJ v3)] μ4 (fun μ5 => zOv g zm_X10_multiply [.ref 71, .ref 70, .ref 73, .int (zJ v2), .int (zJ v3)] μ5 (fun μ6 => zOv g zm_X10_multiply [.ref 73, .ref 73, .ref 70, .int (zJ v2), .int (zJ v3)] μ6 (fun μ7 => zOv g zm_X10_multiply [.ref 70, .ref 70, .ref 71, .int (zJ v2), .int (zJ v3)] μ7 (fun μ8 => zOv g zm_X10_multiply [.ref 71, .ref 71, .ref 73, .int (zJ v2), .int (zJ v3)] μ8 (fun μ9 => zOv g zm_X7_invert [.ref 73, .ref 71, .int (zJ v2), .int (zJ v3)] μ9 (fun μ10 => zOv g zm_X10_multiply [.ref 72, .ref 71, .ref 70, .int (zJ v2), .int (zJ v3)] μ10 (fun μ11 => zOv g zm_X6_become [.ref v1, .int (zJ (-1)), .int (zJ v2), .ref 70] μ11 (fun μ12 => φ μ12))))))))))))) : zOv g zm_X7_makeInvariant [.ref 69, .ref v1, .int (zJ v2), .int (zJ v3)] μ φ := by
  refine zok_ofF (by decide +kernel) rfl ?_
  show zWP g zm_X7_makeInvariant (zmo g zm_X7_makeInvariant (zΦv φ)) 0 [(0, .ref 69), (1, .ref v1), (2, .int (zJ v2)), (3, .int (zJ v3))] [] 0 0 (zw μ)
  refine zw_aload_n (pc := 0) (n := 0) (i := 0) 0 (by decide +kernel) rfl rfl ?_
  refine zw_iload_n (pc := 1) (n := 2) (i := 2) 2 (by decide +kernel) rfl rfl ?_
  refine zw_iload_n (pc := 2) (n := 3) (i := 3) 3 (by decide +kernel) rfl rfl ?_
  refine zx_callV (pc := 3) (As := [.int (zJ v2), .int (zJ v3)]) h zi_X7_fillEisenstein zii_X7_fillEisenstein zie_X7_fillEisenstein zl_7_77 (by decide +kernel) ⟨Nat.le_of_ble_eq_true rfl, Nat.le_of_ble_eq_true rfl⟩ rfl zc_69 (by decide) rfl rfl ⟨rfl, rfl⟩ ⟨Nat.zero_le _, Nat.zero_le _⟩ (zkv (fun μ1 h => ?_))
  refine zw_aload_n (pc := 6) (n := 0) (i := 0) 0 (by decide +kernel) rfl rfl ?_
  refine zx_getR (pc := 7) (o := 1) (r := 70) zf_7_9 (by decide +kernel) rfl zc_69 rfl (by decide) rfl ?_
  refine zw_aload_n (pc := 10) (n := 0) (i := 0) 0 (by decide +kernel) rfl rfl ?_
  refine zx_getR (pc := 11) (o := 1) (r := 70) zf_7_9 (by decide +kernel) rfl zc_69 rfl (by decide) rfl ?_
  refine zw_aload_n (pc := 14) (n := 0) (i := 0) 0 (by decide +kernel) rfl rfl ?_
  refine zx_getR (pc := 15) (o := 2) (r := 71) zf_7_15 (by decide +kernel) rfl zc_69 rfl (by decide) rfl ?_
  refine zw_iload_n (pc := 18) (n := 2) (i := 2) 2 (by decide +kernel) rfl rfl ?_
  refine zw_iload_n (pc := 19) (n := 3) (i := 3) 3 (by decide +kernel) rfl rfl ?_
  refine zx_callSN (pc := 20) (As := [.ref 70, .ref 70, .ref 71, .int (zJ v2), .int (zJ v3)]) h zi_X10_multiply zis_X10_multiply zn_7_57 (by decide +kernel) ⟨Nat.le_of_ble_eq_true rfl, Nat.le_of_ble_eq_true rfl⟩ rfl rfl ⟨rfl, rfl⟩ ⟨Nat.zero_le _, Nat.zero_le _⟩ (zkv (fun μ2 h => ?_))
  refine zw_aload_n (pc := 23) (n := 0) (i := 0) 0 (by decide +kernel) rfl rfl ?_
  refine zx_getR (pc := 24) (o := 2) (r := 71) zf_7_15 (by decide +kernel) rfl zc_69 rfl (by decide) rfl ?_
  refine zw_aload_n (pc := 27) (n := 0) (i := 0) 0 (by decide +kernel) rfl rfl ?_
  refine zx_getR (pc := 28) (o := 1) (r := 70) zf_7_9 (by decide +kernel) rfl zc_69 rfl (by decide) rfl ?_
  refine zw_aload_n (pc := 31) (n := 0) (i := 0) 0 (by decide +kernel) rfl rfl ?_
  refine zx_getR (pc := 32) (o := 3) (r := 72) zf_7_18 (by decide +kernel) rfl zc_69 rfl (by decide) rfl ?_
  refine zw_iload_n (pc := 35) (n := 2) (i := 2) 2 (by decide +kernel) rfl rfl ?_
  refine zw_iload_n (pc := 36) (n := 3) (i := 3) 3 (by decide +kernel) rfl rfl ?_
  refine zx_callSN (pc := 37) (As := [.ref 71, .ref 70, .ref 72, .int (zJ v2), .int (zJ v3)]) h zi_X10_multiply zis_X10_multiply zn_7_57 (by decide +kernel) ⟨Nat.le_of_ble_eq_true rfl, Nat.le_of_ble_eq_true rfl⟩ rfl rfl ⟨rfl, rfl⟩ ⟨Nat.zero_le _, Nat.zero_le _⟩ (zkv (fun μ3 h => ?_))
  refine zw_aload_n (pc := 40) (n := 0) (i := 0) 0 (by decide +kernel) rfl rfl ?_
  refine zw_iload_n (pc := 41) (n := 2) (i := 2) 2 (by decide +kernel) rfl rfl ?_
  refine zw_iload_n (pc := 42) (n := 3) (i := 3) 3 (by decide +kernel) rfl rfl ?_
  refine zx_callV (pc := 43) (As := [.int (zJ v2), .int (zJ v3)]) h zi_X7_fillEulerProduct zii_X7_fillEulerProduct zie_X7_fillEulerProduct zl_7_81 (by decide +kernel) ⟨Nat.le_of_ble_eq_true rfl, Nat.le_of_ble_eq_true rfl⟩ rfl zc_69 (by decide) rfl rfl ⟨rfl, rfl⟩ ⟨Nat.zero_le _, Nat.zero_le _⟩ (zkv (fun μ4 h => ?_))
  refine zw_aload_n (pc := 46) (n := 0) (i := 0) 0 (by decide +kernel) rfl rfl ?_
  refine zx_getR (pc := 47) (o := 1) (r := 70) zf_7_9 (by decide +kernel) rfl zc_69 rfl (by decide) rfl ?_
  refine zw_aload_n (pc := 50) (n := 0) (i := 0) 0 (by decide +kernel) rfl rfl ?_
  refine zx_getR (pc := 51) (o := 1) (r := 70) zf_7_9 (by decide +kernel) rfl zc_69 rfl (by decide) rfl ?_
  refine zw_aload_n (pc := 54) (n := 0) (i := 0) 0 (by decide +kernel) rfl rfl ?_
  refine zx_getR (pc := 55) (o := 2) (r := 71) zf_7_15 (by decide +kernel) rfl zc_69 rfl (by decide) rfl ?_
  refine zw_iload_n (pc := 58) (n := 2) (i := 2) 2 (by decide +kernel) rfl rfl ?_
  refine zw_iload_n (pc := 59) (n := 3) (i := 3) 3 (by decide +kernel) rfl rfl ?_
  refine zx_callSN (pc := 60) (As := [.ref 70, .ref 70, .ref 71, .int (zJ v2), .int (zJ v3)]) h zi_X10_multiply zis_X10_multiply zn_7_57 (by decide +kernel) ⟨Nat.le_of_ble_eq_true rfl, Nat.le_of_ble_eq_true rfl⟩ rfl rfl ⟨rfl, rfl⟩ ⟨Nat.zero_le _, Nat.zero_le _⟩ (zkv (fun μ5 h => ?_))
  refine zw_aload_n (pc := 63) (n := 0) (i := 0) 0 (by decide +kernel) rfl rfl ?_
  refine zx_getR (pc := 64) (o := 2) (r := 71) zf_7_15 (by decide +kernel) rfl zc_69 rfl (by decide) rfl ?_
  refine zw_aload_n (pc := 67) (n := 0) (i := 0) 0 (by decide +kernel) rfl rfl ?_
  refine zx_getR (pc := 68) (o := 1) (r := 70) zf_7_9 (by decide +kernel) rfl zc_69 rfl (by decide) rfl ?_
  refine zw_aload_n (pc := 71) (n := 0) (i := 0) 0 (by decide +kernel) rfl rfl ?_
  refine zx_getR (pc := 72) (o := 4) (r := 73) zf_7_21 (by decide +kernel) rfl zc_69 rfl (by decide) rfl ?_
  refine zw_iload_n (pc := 75) (n := 2) (i := 2) 2 (by decide +kernel) rfl rfl ?_
  refine zw_iload_n (pc := 76) (n := 3) (i := 3) 3 (by decide +kernel) rfl rfl ?_
  refine zx_callSN (pc := 77) (As := [.ref 71, .ref 70, .ref 73, .int (zJ v2), .int (zJ v3)]) h zi_X10_multiply zis_X10_multiply zn_7_57 (by decide +kernel) ⟨Nat.le_of_ble_eq_true rfl, Nat.le_of_ble_eq_true rfl⟩ rfl rfl ⟨rfl, rfl⟩ ⟨Nat.zero_le _, Nat.zero_le _⟩ (zkv (fun μ6 h => ?_))
  refine zw_aload_n (pc := 80) (n := 0) (i := 0) 0 (by decide +kernel) rfl rfl ?_
  refine zx_getR (pc := 81) (o := 4) (r := 73) zf_7_21 (by decide +kernel) rfl zc_69 rfl (by decide) rfl ?_
  refine zw_aload_n (pc := 84) (n := 0) (i := 0) 0 (by decide +kernel) rfl rfl ?_
  refine zx_getR (pc := 85) (o := 4) (r := 73) zf_7_21 (by decide +kernel) rfl zc_69 rfl (by decide) rfl ?_
  refine zw_aload_n (pc := 88) (n := 0) (i := 0) 0 (by decide +kernel) rfl rfl ?_
  refine zx_getR (pc := 89) (o := 1) (r := 70) zf_7_9 (by decide +kernel) rfl zc_69 rfl (by decide) rfl ?_
  refine zw_iload_n (pc := 92) (n := 2) (i := 2) 2 (by decide +kernel) rfl rfl ?_
  refine zw_iload_n (pc := 93) (n := 3) (i := 3) 3 (by decide +kernel) rfl rfl ?_
  refine zx_callSN (pc := 94) (As := [.ref 73, .ref 73, .ref 70, .int (zJ v2), .int (zJ v3)]) h zi_X10_multiply zis_X10_multiply zn_7_57 (by decide +kernel) ⟨Nat.le_of_ble_eq_true rfl, Nat.le_of_ble_eq_true rfl⟩ rfl rfl ⟨rfl, rfl⟩ ⟨Nat.zero_le _, Nat.zero_le _⟩ (zkv (fun μ7 h => ?_))
  refine zw_aload_n (pc := 97) (n := 0) (i := 0) 0 (by decide +kernel) rfl rfl ?_
  refine zx_getR (pc := 98) (o := 1) (r := 70) zf_7_9 (by decide +kernel) rfl zc_69 rfl (by decide) rfl ?_
  refine zw_aload_n (pc := 101) (n := 0) (i := 0) 0 (by decide +kernel) rfl rfl ?_
  refine zx_getR (pc := 102) (o := 1) (r := 70) zf_7_9 (by decide +kernel) rfl zc_69 rfl (by decide) rfl ?_
  refine zw_aload_n (pc := 105) (n := 0) (i := 0) 0 (by decide +kernel) rfl rfl ?_
  refine zx_getR (pc := 106) (o := 2) (r := 71) zf_7_15 (by decide +kernel) rfl zc_69 rfl (by decide) rfl ?_
  refine zw_iload_n (pc := 109) (n := 2) (i := 2) 2 (by decide +kernel) rfl rfl ?_
  refine zw_iload_n (pc := 110) (n := 3) (i := 3) 3 (by decide +kernel) rfl rfl ?_
  refine zx_callSN (pc := 111) (As := [.ref 70, .ref 70, .ref 71, .int (zJ v2), .int (zJ v3)]) h zi_X10_multiply zis_X10_multiply zn_7_57 (by decide +kernel) ⟨Nat.le_of_ble_eq_true rfl, Nat.le_of_ble_eq_true rfl⟩ rfl rfl ⟨rfl, rfl⟩ ⟨Nat.zero_le _, Nat.zero_le _⟩ (zkv (fun μ8 h => ?_))
  refine zw_aload_n (pc := 114) (n := 0) (i := 0) 0 (by decide +kernel) rfl rfl ?_
  refine zx_getR (pc := 115) (o := 2) (r := 71) zf_7_15 (by decide +kernel) rfl zc_69 rfl (by decide) rfl ?_
  refine zw_aload_n (pc := 118) (n := 0) (i := 0) 0 (by decide +kernel) rfl rfl ?_
  refine zx_getR (pc := 119) (o := 2) (r := 71) zf_7_15 (by decide +kernel) rfl zc_69 rfl (by decide) rfl ?_
  refine zw_aload_n (pc := 122) (n := 0) (i := 0) 0 (by decide +kernel) rfl rfl ?_
  refine zx_getR (pc := 123) (o := 4) (r := 73) zf_7_21 (by decide +kernel) rfl zc_69 rfl (by decide) rfl ?_
  refine zw_iload_n (pc := 126) (n := 2) (i := 2) 2 (by decide +kernel) rfl rfl ?_
  refine zw_iload_n (pc := 127) (n := 3) (i := 3) 3 (by decide +kernel) rfl rfl ?_
  refine zx_callSN (pc := 128) (As := [.ref 71, .ref 71, .ref 73, .int (zJ v2), .int (zJ v3)]) h zi_X10_multiply zis_X10_multiply zn_7_57 (by decide +kernel) ⟨Nat.le_of_ble_eq_true rfl, Nat.le_of_ble_eq_true rfl⟩ rfl rfl ⟨rfl, rfl⟩ ⟨Nat.zero_le _, Nat.zero_le _⟩ (zkv (fun μ9 h => ?_))
  refine zw_aload_n (pc := 131) (n := 0) (i := 0) 0 (by decide +kernel) rfl rfl ?_
  refine zx_getR (pc := 132) (o := 4) (r := 73) zf_7_21 (by decide +kernel) rfl zc_69 rfl (by decide) rfl ?_
  refine zw_aload_n (pc := 135) (n := 0) (i := 0) 0 (by decide +kernel) rfl rfl ?_
  refine zx_getR (pc := 136) (o := 2) (r := 71) zf_7_15 (by decide +kernel) rfl zc_69 rfl (by decide) rfl ?_
  refine zw_iload_n (pc := 139) (n := 2) (i := 2) 2 (by decide +kernel) rfl rfl ?_
  refine zw_iload_n (pc := 140) (n := 3) (i := 3) 3 (by decide +kernel) rfl rfl ?_
  refine zx_callS (pc := 141) (As := [.ref 73, .ref 71, .int (zJ v2), .int (zJ v3)]) h zi_X7_invert zis_X7_invert zl_7_67 (by decide +kernel) ⟨Nat.le_of_ble_eq_true rfl, Nat.le_of_ble_eq_true rfl⟩ rfl rfl ⟨rfl, rfl⟩ ⟨Nat.zero_le _, Nat.zero_le _⟩ (zkv (fun μ10 h => ?_))
  refine zw_aload_n (pc := 144) (n := 0) (i := 0) 0 (by decide +kernel) rfl rfl ?_
  refine zx_getR (pc := 145) (o := 3) (r := 72) zf_7_18 (by decide +kernel) rfl zc_69 rfl (by decide) rfl ?_
  refine zw_aload_n (pc := 148) (n := 0) (i := 0) 0 (by decide +kernel) rfl rfl ?_
  refine zx_getR (pc := 149) (o := 2) (r := 71) zf_7_15 (by decide +kernel) rfl zc_69 rfl (by decide) rfl ?_
  refine zw_aload_n (pc := 152) (n := 0) (i := 0) 0 (by decide +kernel) rfl rfl ?_
  refine zx_getR (pc := 153) (o := 1) (r := 70) zf_7_9 (by decide +kernel) rfl zc_69 rfl (by decide) rfl ?_
  refine zw_iload_n (pc := 156) (n := 2) (i := 2) 2 (by decide +kernel) rfl rfl ?_
  refine zw_iload_n (pc := 157) (n := 3) (i := 3) 3 (by decide +kernel) rfl rfl ?_
  refine zx_callSN (pc := 158) (As := [.ref 72, .ref 71, .ref 70, .int (zJ v2), .int (zJ v3)]) h zi_X10_multiply zis_X10_multiply zn_7_57 (by decide +kernel) ⟨Nat.le_of_ble_eq_true rfl, Nat.le_of_ble_eq_true rfl⟩ rfl rfl ⟨rfl, rfl⟩ ⟨Nat.zero_le _, Nat.zero_le _⟩ (zkv (fun μ11 h => ?_))
  refine zw_aload_n (pc := 161) (n := 1) (i := 1) 1 (by decide +kernel) rfl rfl ?_
  refine zw_iconst (pc := 162) (n := (-1)) (by decide +kernel) ?_
  refine zw_iload_n (pc := 163) (n := 2) (i := 2) 2 (by decide +kernel) rfl rfl ?_
  refine zw_aload_n (pc := 164) (n := 0) (i := 0) 0 (by decide +kernel) rfl rfl ?_
  refine zx_getR (pc := 165) (o := 1) (r := 70) zf_7_9 (by decide +kernel) rfl zc_69 rfl (by decide) rfl ?_
  refine zx_callV (pc := 168) (As := [.int (zJ (-1)), .int (zJ v2), .ref 70]) h zi_X6_become zii_X6_become zie_X6_become zl_7_30 (by decide +kernel) ⟨Nat.le_of_ble_eq_true rfl, Nat.le_of_ble_eq_true rfl⟩ rfl h_v1 (by decide) rfl rfl ⟨rfl, rfl⟩ ⟨Nat.zero_le _, Nat.zero_le _⟩ (zkv (fun μ12 h => ?_))
  exact zw_vret (pc := 171) (by decide +kernel) rfl (Nat.le_refl _) (Nat.le_refl _) ⟨_, rfl, rfl, h⟩
abbrev at_X7_fillEisenstein_10 (g : zG) (φ : zMu → Prop) (v1 : Int) (v2 : Int) (v3 : Int) (μ : zMu) : Prop := zWP g zm_X7_fillEisenstein (zmo g zm_X7_fillEisenstein (zΦv φ)) 10 [(0, .ref 69), (1, .int (zJ v1)), (2, .int (zJ v2)), (3, .int (zJ v3))] [] 0 0 (zw μ)
abbrev at_X7_fillEisenstein_31 (g : zG) (φ : zMu → Prop) (v1 : Int) (v2 : Int) (v3 : Int) (v4 : Int) (v5 : Int) (μ : zMu) : Prop := zWP g zm_X7_fillEisenstein (zmo g zm_X7_fillEisenstein (zΦv φ)) 31 [(0, .ref 69), (1, .int (zJ v1)), (2, .int (zJ v2)), (3, .int (zJ v3)), (4, .int (zJ v4)), (5, .int (zJ v5))] [] 0 0 (zw μ)
theorem sg_X7_fillEisenstein {g : zG} {φ : zMu → Prop} {v1 : Int} {v2 : Int} {μ : zMu}
    (h : zOv g zm_J7_fill_53178 [.ref 70, .int (zJ 0)] μ (fun μ1 => at_X7_fillEisenstein_10 g φ v1 v2 1 μ1)) : zOv g zm_X7_fillEisenstein [.ref 69, .int (zJ v1), .int (zJ v2)] μ φ := by
  refine zok_ofF (by decide +kernel) rfl ?_
  show zWP g zm_X7_fillEisenstein (zmo g zm_X7_fillEisenstein (zΦv φ)) 0 [(0, .ref 69), (1, .int (zJ v1)), (2, .int (zJ v2))] [] 0 0 (zw μ)
  refine zw_aload_n (pc := 0) (n := 0) (i := 0) 0 (by decide +kernel) rfl rfl ?_
  refine zx_getR (pc := 1) (o := 1) (r := 70) zf_7_9 (by decide +kernel) rfl zc_69 rfl (by decide) rfl ?_
  refine zw_iconst (pc := 4) (n := 0) (by decide +kernel) ?_
  refine zx_callS (pc := 5) (As := [.ref 70, .int (zJ 0)]) h zi_J7_fill_53178 zis_J7_fill_53178 zl_7_61 (by decide +kernel) ⟨Nat.le_of_ble_eq_true rfl, Nat.le_of_ble_eq_true rfl⟩ rfl rfl ⟨rfl, rfl⟩ ⟨Nat.zero_le _, Nat.zero_le _⟩ (zkv (fun μ1 h => ?_))
  refine zw_iconst (pc := 8) (n := 1) (by decide +kernel) ?_
  refine zw_istore_n (pc := 9) (n := 3) (i := 3) (lv' := [(0, .ref 69), (1, .int (zJ v1)), (2, .int (zJ v2)), (3, .int (zJ 1))]) (by decide +kernel) rfl (Nat.le_of_ble_eq_true rfl) rfl ?_
  exact h
theorem sg_X7_fillEisenstein_10 {g : zG} {φ : zMu → Prop} {v1 : Int} {v2 : Int} {v3 : Int} {μ : zMu}
    (h : (zR v3) ∧ (zR v1) ∧ ((v1 ≤ v3 → φ (zup μ 70 0 1)) ∧ (v3 < v1 → (zR (((240 * v3) * v3) * v3)) ∧ (zR v2) ∧ (v2 ≠ 0) ∧ at_X7_fillEisenstein_31 g φ v1 v2 v3 ((((240 * v3) * v3) * v3).tmod v2) v3 μ))) : at_X7_fillEisenstein_10 g φ v1 v2 v3 μ := by
  obtain ⟨o1, o2, h⟩ := h
  refine zw_iload_n (pc := 10) (n := 3) (i := 3) 3 (by decide +kernel) rfl rfl ?_
  refine zw_iload_n (pc := 11) (n := 1) (i := 1) 1 (by decide +kernel) rfl rfl ?_
  refine zw_icmp_ge (pc := 12) (off := 59) (tgt := 71) (by decide +kernel) (by decide) o1 o2 (fun hc => ?_) (fun hc => ?_)
  · replace h := h.1 hc
    refine zw_aload_n (pc := 71) (n := 0) (i := 0) 0 (by decide +kernel) rfl rfl ?_
    refine zx_getR (pc := 72) (o := 1) (r := 70) zf_7_9 (by decide +kernel) rfl zc_69 rfl (by decide) rfl ?_
    refine zw_iconst (pc := 75) (n := 0) (by decide +kernel) ?_
    refine zw_iconst (pc := 76) (n := 1) (by decide +kernel) ?_
    refine zx_iastore (pc := 77) (by decide +kernel) ⟨80, zc_70, by decide, by decide⟩ ?_
    exact zw_vret (pc := 78) (by decide +kernel) rfl (Nat.le_refl _) (Nat.le_refl _) ⟨_, rfl, rfl, h⟩
  · replace h := h.2 hc
    obtain ⟨o3, o4, o5, h⟩ := h
    refine zw_sipush (pc := 15) (n := 240) (by decide +kernel) (by decide +kernel) ?_
    refine zw_iload_n (pc := 18) (n := 3) (i := 3) 3 (by decide +kernel) rfl rfl ?_
    refine zw_imul (pc := 19) (by decide +kernel) ?_
    refine zw_iload_n (pc := 20) (n := 3) (i := 3) 3 (by decide +kernel) rfl rfl ?_
    refine zw_imul (pc := 21) (by decide +kernel) ?_
    refine zw_iload_n (pc := 22) (n := 3) (i := 3) 3 (by decide +kernel) rfl rfl ?_
    refine zw_imul (pc := 23) (by decide +kernel) ?_
    refine zw_iload_n (pc := 24) (n := 2) (i := 2) 2 (by decide +kernel) rfl rfl ?_
    refine zw_irem (pc := 25) (by decide +kernel) o3 o4 o5 ?_
    refine zw_istore (pc := 26) (i := 4) (lv' := [(0, .ref 69), (1, .int (zJ v1)), (2, .int (zJ v2)), (3, .int (zJ v3)), (4, .int (zJ ((((240 * v3) * v3) * v3).tmod v2)))]) (by decide +kernel) (Nat.le_of_ble_eq_true rfl) rfl ?_
    refine zw_iload_n (pc := 28) (n := 3) (i := 3) 3 (by decide +kernel) rfl rfl ?_
    refine zw_istore (pc := 29) (i := 5) (lv' := [(0, .ref 69), (1, .int (zJ v1)), (2, .int (zJ v2)), (3, .int (zJ v3)), (4, .int (zJ ((((240 * v3) * v3) * v3).tmod v2))), (5, .int (zJ v3))]) (by decide +kernel) (Nat.le_of_ble_eq_true rfl) rfl ?_
    exact h
theorem sg_X7_fillEisenstein_31 {g : zG} {φ : zMu → Prop} {v1 : Int} {v2 : Int} {v3 : Int} {v4 : Int} {v5 : Int} {μ : zMu}
    (h : (zR v5) ∧ (zR v1) ∧ ((v1 ≤ v5 → at_X7_fillEisenstein_10 g φ v1 v2 (v3 + 1) μ) ∧ (v5 < v1 → (0 ≤ v5 ∧ v5 < 80) ∧ (zR ((μ 70 v5.toNat) + v4)) ∧ (zR v2) ∧ (v2 ≠ 0) ∧ at_X7_fillEisenstein_31 g φ v1 v2 v3 v4 (v5 + v3) (zup μ 70 v5.toNat (((μ 70 v5.toNat) + v4).tmod v2))))) : at_X7_fillEisenstein_31 g φ v1 v2 v3 v4 v5 μ := by
  obtain ⟨o1, o2, h⟩ := h
  refine zw_iload (pc := 31) (i := 5) 5 (by decide +kernel) rfl ?_
  refine zw_iload_n (pc := 33) (n := 1) (i := 1) 1 (by decide +kernel) rfl rfl ?_
  refine zw_icmp_ge (pc := 34) (off := 31) (tgt := 65) (by decide +kernel) (by decide) o1 o2 (fun hc => ?_) (fun hc => ?_)
  · replace h := h.1 hc
    refine zw_iinc (pc := 65) (i := 3) (n := 1) (lv' := [(0, .ref 69), (1, .int (zJ v1)), (2, .int (zJ v2)), (3, .int (zJ (v3 + 1))), (4, .int (zJ v4)), (5, .int (zJ v5))]) 3 (by decide +kernel) rfl rfl (Nat.le_of_ble_eq_true rfl) rfl ?_
    refine zw_goto (pc := 68) (off := (-58)) (tgt := 10) (by decide +kernel) (by decide) ?_
    exact zw_pick (lv' := [(0, .ref 69), (1, .int (zJ v1)), (2, .int (zJ v2)), (3, .int (zJ (v3 + 1)))]) [0, 1, 2, 3] rfl h
  · replace h := h.2 hc
    obtain ⟨o3, o4, o5, o6, h⟩ := h
    refine zw_aload_n (pc := 37) (n := 0) (i := 0) 0 (by decide +kernel) rfl rfl ?_
    refine zx_getR (pc := 38) (o := 1) (r := 70) zf_7_9 (by decide +kernel) rfl zc_69 rfl (by decide) rfl ?_
    refine zw_iload (pc := 41) (i := 5) 5 (by decide +kernel) rfl ?_
    refine zw_aload_n (pc := 43) (n := 0) (i := 0) 0 (by decide +kernel) rfl rfl ?_
    refine zx_getR (pc := 44) (o := 1) (r := 70) zf_7_9 (by decide +kernel) rfl zc_69 rfl (by decide) rfl ?_
    refine zw_iload (pc := 47) (i := 5) 5 (by decide +kernel) rfl ?_
    refine zx_iaload (pc := 49) (by decide +kernel) ⟨80, zc_70, o3.1, o3.2⟩ ?_
    refine zw_iload (pc := 50) (i := 4) 4 (by decide +kernel) rfl ?_
    refine zw_iadd (pc := 52) (by decide +kernel) ?_
    refine zw_iload_n (pc := 53) (n := 2) (i := 2) 2 (by decide +kernel) rfl rfl ?_
    refine zw_irem (pc := 54) (by decide +kernel) o4 o5 o6 ?_
    refine zx_iastore (pc := 55) (by decide +kernel) ⟨80, zc_70, o3.1, o3.2⟩ ?_
    refine zw_iload (pc := 56) (i := 5) 5 (by decide +kernel) rfl ?_
    refine zw_iload_n (pc := 58) (n := 3) (i := 3) 3 (by decide +kernel) rfl rfl ?_
    refine zw_iadd (pc := 59) (by decide +kernel) ?_
    refine zw_istore (pc := 60) (i := 5) (lv' := [(0, .ref 69), (1, .int (zJ v1)), (2, .int (zJ v2)), (3, .int (zJ v3)), (4, .int (zJ v4)), (5, .int (zJ (v5 + v3)))]) (by decide +kernel) (Nat.le_of_ble_eq_true rfl) rfl ?_
    refine zw_goto (pc := 62) (off := (-31)) (tgt := 31) (by decide +kernel) (by decide) ?_
    exact h
abbrev at_X7_fillEulerProduct_17 (g : zG) (φ : zMu → Prop) (v1 : Int) (v2 : Int) (v3 : Int) (μ : zMu) : Prop := zWP g zm_X7_fillEulerProduct (zmo g zm_X7_fillEulerProduct (zΦv φ)) 17 [(0, .ref 69), (1, .int (zJ v1)), (2, .int (zJ v2)), (3, .int (zJ v3))] [] 0 0 (zw μ)
abbrev at_X7_fillEulerProduct_27 (g : zG) (φ : zMu → Prop) (v1 : Int) (v2 : Int) (v3 : Int) (v4 : Int) (μ : zMu) : Prop := zWP g zm_X7_fillEulerProduct (zmo g zm_X7_fillEulerProduct (zΦv φ)) 27 [(0, .ref 69), (1, .int (zJ v1)), (2, .int (zJ v2)), (3, .int (zJ v3)), (4, .int (zJ v4))] [] 0 0 (zw μ)
theorem sg_X7_fillEulerProduct {g : zG} {φ : zMu → Prop} {v1 : Int} {v2 : Int} {μ : zMu}
    (h : zOv g zm_J7_fill_53178 [.ref 70, .int (zJ 0)] μ (fun μ1 => at_X7_fillEulerProduct_17 g φ v1 v2 1 (zup μ1 70 0 1))) : zOv g zm_X7_fillEulerProduct [.ref 69, .int (zJ v1), .int (zJ v2)] μ φ := by
  refine zok_ofF (by decide +kernel) rfl ?_
  show zWP g zm_X7_fillEulerProduct (zmo g zm_X7_fillEulerProduct (zΦv φ)) 0 [(0, .ref 69), (1, .int (zJ v1)), (2, .int (zJ v2))] [] 0 0 (zw μ)
  refine zw_aload_n (pc := 0) (n := 0) (i := 0) 0 (by decide +kernel) rfl rfl ?_
  refine zx_getR (pc := 1) (o := 1) (r := 70) zf_7_9 (by decide +kernel) rfl zc_69 rfl (by decide) rfl ?_
  refine zw_iconst (pc := 4) (n := 0) (by decide +kernel) ?_
  refine zx_callS (pc := 5) (As := [.ref 70, .int (zJ 0)]) h zi_J7_fill_53178 zis_J7_fill_53178 zl_7_61 (by decide +kernel) ⟨Nat.le_of_ble_eq_true rfl, Nat.le_of_ble_eq_true rfl⟩ rfl rfl ⟨rfl, rfl⟩ ⟨Nat.zero_le _, Nat.zero_le _⟩ (zkv (fun μ1 h => ?_))
  refine zw_aload_n (pc := 8) (n := 0) (i := 0) 0 (by decide +kernel) rfl rfl ?_
  refine zx_getR (pc := 9) (o := 1) (r := 70) zf_7_9 (by decide +kernel) rfl zc_69 rfl (by decide) rfl ?_
  refine zw_iconst (pc := 12) (n := 0) (by decide +kernel) ?_
  refine zw_iconst (pc := 13) (n := 1) (by decide +kernel) ?_
  refine zx_iastore (pc := 14) (by decide +kernel) ⟨80, zc_70, by decide, by decide⟩ ?_
  refine zw_iconst (pc := 15) (n := 1) (by decide +kernel) ?_
  refine zw_istore_n (pc := 16) (n := 3) (i := 3) (lv' := [(0, .ref 69), (1, .int (zJ v1)), (2, .int (zJ v2)), (3, .int (zJ 1))]) (by decide +kernel) rfl (Nat.le_of_ble_eq_true rfl) rfl ?_
  exact h
theorem sg_X7_fillEulerProduct_17 {g : zG} {φ : zMu → Prop} {v1 : Int} {v2 : Int} {v3 : Int} {μ : zMu}
    (h : (zR v3) ∧ (zR v1) ∧ ((v1 ≤ v3 → φ μ) ∧ (v3 < v1 → at_X7_fillEulerProduct_27 g φ v1 v2 v3 (v1 - 1) μ))) : at_X7_fillEulerProduct_17 g φ v1 v2 v3 μ := by
  obtain ⟨o1, o2, h⟩ := h
  refine zw_iload_n (pc := 17) (n := 3) (i := 3) 3 (by decide +kernel) rfl rfl ?_
  refine zw_iload_n (pc := 18) (n := 1) (i := 1) 1 (by decide +kernel) rfl rfl ?_
  refine zw_icmp_ge (pc := 19) (off := 54) (tgt := 73) (by decide +kernel) (by decide) o1 o2 (fun hc => ?_) (fun hc => ?_)
  · replace h := h.1 hc
    exact zw_vret (pc := 73) (by decide +kernel) rfl (Nat.le_refl _) (Nat.le_refl _) ⟨_, rfl, rfl, h⟩
  · replace h := h.2 hc
    refine zw_iload_n (pc := 22) (n := 1) (i := 1) 1 (by decide +kernel) rfl rfl ?_
    refine zw_iconst (pc := 23) (n := 1) (by decide +kernel) ?_
    refine zw_isub (pc := 24) (by decide +kernel) ?_
    refine zw_istore (pc := 25) (i := 4) (lv' := [(0, .ref 69), (1, .int (zJ v1)), (2, .int (zJ v2)), (3, .int (zJ v3)), (4, .int (zJ (v1 - 1)))]) (by decide +kernel) (Nat.le_of_ble_eq_true rfl) rfl ?_
    exact h
theorem sg_X7_fillEulerProduct_27 {g : zG} {φ : zMu → Prop} {v1 : Int} {v2 : Int} {v3 : Int} {v4 : Int} {μ : zMu}
    (h : (zR v4) ∧ (zR v3) ∧ ((v4 < v3 → at_X7_fillEulerProduct_17 g φ v1 v2 (v3 + 1) μ) ∧ (v3 ≤ v4 → (0 ≤ v4 ∧ v4 < 80) ∧ (0 ≤ (v4 - v3) ∧ (v4 - v3) < 80) ∧ (zR (((μ 70 v4.toNat) + v2) - (μ 70 (Int.toNat (v4 - v3))))) ∧ (zR v2) ∧ (v2 ≠ 0) ∧ at_X7_fillEulerProduct_27 g φ v1 v2 v3 (v4 + (-1)) (zup μ 70 v4.toNat ((((μ 70 v4.toNat) + v2) - (μ 70 (Int.toNat (v4 - v3)))).tmod v2))))) : at_X7_fillEulerProduct_27 g φ v1 v2 v3 v4 μ := by
  obtain ⟨o1, o2, h⟩ := h
  refine zw_iload (pc := 27) (i := 4) 4 (by decide +kernel) rfl ?_
  refine zw_iload_n (pc := 29) (n := 3) (i := 3) 3 (by decide +kernel) rfl rfl ?_
  refine zw_icmp_lt (pc := 30) (off := 37) (tgt := 67) (by decide +kernel) (by decide) o1 o2 (fun hc => ?_) (fun hc => ?_)
  · replace h := h.1 hc
    refine zw_iinc (pc := 67) (i := 3) (n := 1) (lv' := [(0, .ref 69), (1, .int (zJ v1)), (2, .int (zJ v2)), (3, .int (zJ (v3 + 1))), (4, .int (zJ v4))]) 3 (by decide +kernel) rfl rfl (Nat.le_of_ble_eq_true rfl) rfl ?_
    refine zw_goto (pc := 70) (off := (-53)) (tgt := 17) (by decide +kernel) (by decide) ?_
    exact zw_pick (lv' := [(0, .ref 69), (1, .int (zJ v1)), (2, .int (zJ v2)), (3, .int (zJ (v3 + 1)))]) [0, 1, 2, 3] rfl h
  · replace h := h.2 hc
    obtain ⟨o3, o4, o5, o6, o7, h⟩ := h
    refine zw_aload_n (pc := 33) (n := 0) (i := 0) 0 (by decide +kernel) rfl rfl ?_
    refine zx_getR (pc := 34) (o := 1) (r := 70) zf_7_9 (by decide +kernel) rfl zc_69 rfl (by decide) rfl ?_
    refine zw_iload (pc := 37) (i := 4) 4 (by decide +kernel) rfl ?_
    refine zw_aload_n (pc := 39) (n := 0) (i := 0) 0 (by decide +kernel) rfl rfl ?_
    refine zx_getR (pc := 40) (o := 1) (r := 70) zf_7_9 (by decide +kernel) rfl zc_69 rfl (by decide) rfl ?_
    refine zw_iload (pc := 43) (i := 4) 4 (by decide +kernel) rfl ?_
    refine zx_iaload (pc := 45) (by decide +kernel) ⟨80, zc_70, o3.1, o3.2⟩ ?_
    refine zw_iload_n (pc := 46) (n := 2) (i := 2) 2 (by decide +kernel) rfl rfl ?_
    refine zw_iadd (pc := 47) (by decide +kernel) ?_
    refine zw_aload_n (pc := 48) (n := 0) (i := 0) 0 (by decide +kernel) rfl rfl ?_
    refine zx_getR (pc := 49) (o := 1) (r := 70) zf_7_9 (by decide +kernel) rfl zc_69 rfl (by decide) rfl ?_
    refine zw_iload (pc := 52) (i := 4) 4 (by decide +kernel) rfl ?_
    refine zw_iload_n (pc := 54) (n := 3) (i := 3) 3 (by decide +kernel) rfl rfl ?_
    refine zw_isub (pc := 55) (by decide +kernel) ?_
    refine zx_iaload (pc := 56) (by decide +kernel) ⟨80, zc_70, o4.1, o4.2⟩ ?_
    refine zw_isub (pc := 57) (by decide +kernel) ?_
    refine zw_iload_n (pc := 58) (n := 2) (i := 2) 2 (by decide +kernel) rfl rfl ?_
    refine zw_irem (pc := 59) (by decide +kernel) o5 o6 o7 ?_
    refine zx_iastore (pc := 60) (by decide +kernel) ⟨80, zc_70, o3.1, o3.2⟩ ?_
    refine zw_iinc (pc := 61) (i := 4) (n := (-1)) (lv' := [(0, .ref 69), (1, .int (zJ v1)), (2, .int (zJ v2)), (3, .int (zJ v3)), (4, .int (zJ (v4 + (-1))))]) 4 (by decide +kernel) rfl rfl (Nat.le_of_ble_eq_true rfl) rfl ?_
    refine zw_goto (pc := 64) (off := (-37)) (tgt := 27) (by decide +kernel) (by decide) ?_
    exact h
abbrev at_X7_invert_17 (g : zG) (φ : zMu → Prop) (v0 : Nat) (v1 : Nat) (v2 : Int) (v3 : Int) (v4 : Int) (v5 : Int) (μ : zMu) : Prop := zWP g zm_X7_invert (zmo g zm_X7_invert (zΦv φ)) 17 [(0, .ref v0), (1, .ref v1), (2, .int (zJ v2)), (3, .int (zJ v3)), (4, .int (zJ v4)), (5, .int (zJ v5))] [] 0 0 (zw μ)
abbrev at_X7_invert_29 (g : zG) (φ : zMu → Prop) (v0 : Nat) (v1 : Nat) (v2 : Int) (v3 : Int) (v4 : Int) (v5 : Int) (v6 : Int) (v7 : Int) (μ : zMu) : Prop := zWP g zm_X7_invert (zmo g zm_X7_invert (zΦv φ)) 29 [(0, .ref v0), (1, .ref v1), (2, .int (zJ v2)), (3, .int (zJ v3)), (4, .int (zJ v4)), (5, .int (zJ v5)), (6, .int (zJ v6)), (7, .int (zJ v7))] [] 0 0 (zw μ)
theorem sg_X7_invert {g : zG} {φ : zMu → Prop} {v0 : Nat} {v1 : Nat} {v2 : Int} {v3 : Int} {μ : zMu}
    (h : (zIx v0 0) ∧ zOi g zm_X10_inverse [.int (zJ (μ v0 0)), .int (zJ v3)] μ (fun x3 μ2 => (zIx v1 0) ∧ at_X7_invert_17 g φ v0 v1 v2 v3 x3 1 (zup μ2 v1 0 x3))) : zOv g zm_X7_invert [.ref v0, .ref v1, .int (zJ v2), .int (zJ v3)] μ φ := by
  refine zok_ofF (by decide +kernel) rfl ?_
  show zWP g zm_X7_invert (zmo g zm_X7_invert (zΦv φ)) 0 [(0, .ref v0), (1, .ref v1), (2, .int (zJ v2)), (3, .int (zJ v3))] [] 0 0 (zw μ)
  obtain ⟨o1, h⟩ := h
  refine zw_aload_n (pc := 0) (n := 0) (i := 0) 0 (by decide +kernel) rfl rfl ?_
  refine zw_iconst (pc := 1) (n := 0) (by decide +kernel) ?_
  refine zx_iaload (pc := 2) (by decide +kernel) o1 ?_
  refine zw_iload_n (pc := 3) (n := 3) (i := 3) 3 (by decide +kernel) rfl rfl ?_
  refine zx_callSN (pc := 4) (As := [.int (zJ (μ v0 0)), .int (zJ v3)]) h zi_X10_inverse zis_X10_inverse zn_7_84 (by decide +kernel) ⟨Nat.le_of_ble_eq_true rfl, Nat.le_of_ble_eq_true rfl⟩ rfl rfl ⟨rfl, rfl⟩ ⟨Nat.zero_le _, Nat.zero_le _⟩ (zki (fun x3 μ2 h => ?_))
  obtain ⟨o4, h⟩ := h
  refine zw_istore (pc := 7) (i := 4) (lv' := [(0, .ref v0), (1, .ref v1), (2, .int (zJ v2)), (3, .int (zJ v3)), (4, .int (zJ x3))]) (by decide +kernel) (Nat.le_of_ble_eq_true rfl) rfl ?_
  refine zw_aload_n (pc := 9) (n := 1) (i := 1) 1 (by decide +kernel) rfl rfl ?_
  refine zw_iconst (pc := 10) (n := 0) (by decide +kernel) ?_
  refine zw_iload (pc := 11) (i := 4) 4 (by decide +kernel) rfl ?_
  refine zx_iastore (pc := 13) (by decide +kernel) o4 ?_
  refine zw_iconst (pc := 14) (n := 1) (by decide +kernel) ?_
  refine zw_istore (pc := 15) (i := 5) (lv' := [(0, .ref v0), (1, .ref v1), (2, .int (zJ v2)), (3, .int (zJ v3)), (4, .int (zJ x3)), (5, .int (zJ 1))]) (by decide +kernel) (Nat.le_of_ble_eq_true rfl) rfl ?_
  exact h
theorem sg_X7_invert_17 {g : zG} {φ : zMu → Prop} {v0 : Nat} {v1 : Nat} {v2 : Int} {v3 : Int} {v4 : Int} {v5 : Int} {μ : zMu}
    (h : (zR v5) ∧ (zR v2) ∧ ((v2 ≤ v5 → φ μ) ∧ (v5 < v2 → at_X7_invert_29 g φ v0 v1 v2 v3 v4 v5 0 1 μ))) : at_X7_invert_17 g φ v0 v1 v2 v3 v4 v5 μ := by
  obtain ⟨o1, o2, h⟩ := h
  refine zw_iload (pc := 17) (i := 5) 5 (by decide +kernel) rfl ?_
  refine zw_iload_n (pc := 19) (n := 2) (i := 2) 2 (by decide +kernel) rfl rfl ?_
  refine zw_icmp_ge (pc := 20) (off := 60) (tgt := 80) (by decide +kernel) (by decide) o1 o2 (fun hc => ?_) (fun hc => ?_)
  · replace h := h.1 hc
    exact zw_vret (pc := 80) (by decide +kernel) rfl (Nat.le_refl _) (Nat.le_refl _) ⟨_, rfl, rfl, h⟩
  · replace h := h.2 hc
    refine zw_iconst (pc := 23) (n := 0) (by decide +kernel) ?_
    refine zw_istore (pc := 24) (i := 6) (lv' := [(0, .ref v0), (1, .ref v1), (2, .int (zJ v2)), (3, .int (zJ v3)), (4, .int (zJ v4)), (5, .int (zJ v5)), (6, .int (zJ 0))]) (by decide +kernel) (Nat.le_of_ble_eq_true rfl) rfl ?_
    refine zw_iconst (pc := 26) (n := 1) (by decide +kernel) ?_
    refine zw_istore (pc := 27) (i := 7) (lv' := [(0, .ref v0), (1, .ref v1), (2, .int (zJ v2)), (3, .int (zJ v3)), (4, .int (zJ v4)), (5, .int (zJ v5)), (6, .int (zJ 0)), (7, .int (zJ 1))]) (by decide +kernel) (Nat.le_of_ble_eq_true rfl) rfl ?_
    exact h
theorem sg_X7_invert_29 {g : zG} {φ : zMu → Prop} {v0 : Nat} {v1 : Nat} {v2 : Int} {v3 : Int} {v4 : Int} {v5 : Int} {v6 : Int} {v7 : Int} {μ : zMu}
    (h : (zR v7) ∧ (zR v5) ∧ ((v5 < v7 → (zR v6) ∧ (zR v3) ∧ (v3 ≠ 0) ∧ (zR ((v3 - (v6.tmod v3)) * v4)) ∧ (zIx v1 v5) ∧ at_X7_invert_17 g φ v0 v1 v2 v3 v4 (v5 + 1) (zup μ v1 v5.toNat (((v3 - (v6.tmod v3)) * v4).tmod v3))) ∧ (v7 ≤ v5 → (zIx v0 v7) ∧ (zIx v1 (v5 - v7)) ∧ at_X7_invert_29 g φ v0 v1 v2 v3 v4 v5 (v6 + ((μ v0 v7.toNat) * (μ v1 (Int.toNat (v5 - v7))))) (v7 + 1) μ))) : at_X7_invert_29 g φ v0 v1 v2 v3 v4 v5 v6 v7 μ := by
  obtain ⟨o1, o2, h⟩ := h
  refine zw_iload (pc := 29) (i := 7) 7 (by decide +kernel) rfl ?_
  refine zw_iload (pc := 31) (i := 5) 5 (by decide +kernel) rfl ?_
  refine zw_icmp_gt (pc := 33) (off := 26) (tgt := 59) (by decide +kernel) (by decide) o1 o2 (fun hc => ?_) (fun hc => ?_)
  · replace h := h.1 hc
    obtain ⟨o3, o4, o5, o6, o7, h⟩ := h
    refine zw_aload_n (pc := 59) (n := 1) (i := 1) 1 (by decide +kernel) rfl rfl ?_
    refine zw_iload (pc := 60) (i := 5) 5 (by decide +kernel) rfl ?_
    refine zw_iload_n (pc := 62) (n := 3) (i := 3) 3 (by decide +kernel) rfl rfl ?_
    refine zw_iload (pc := 63) (i := 6) 6 (by decide +kernel) rfl ?_
    refine zw_iload_n (pc := 65) (n := 3) (i := 3) 3 (by decide +kernel) rfl rfl ?_
    refine zw_irem (pc := 66) (by decide +kernel) o3 o4 o5 ?_
    refine zw_isub (pc := 67) (by decide +kernel) ?_
    refine zw_iload (pc := 68) (i := 4) 4 (by decide +kernel) rfl ?_
    refine zw_imul (pc := 70) (by decide +kernel) ?_
    refine zw_iload_n (pc := 71) (n := 3) (i := 3) 3 (by decide +kernel) rfl rfl ?_
    refine zw_irem (pc := 72) (by decide +kernel) o6 o4 o5 ?_
    refine zx_iastore (pc := 73) (by decide +kernel) o7 ?_
    refine zw_iinc (pc := 74) (i := 5) (n := 1) (lv' := [(0, .ref v0), (1, .ref v1), (2, .int (zJ v2)), (3, .int (zJ v3)), (4, .int (zJ v4)), (5, .int (zJ (v5 + 1))), (6, .int (zJ v6)), (7, .int (zJ v7))]) 5 (by decide +kernel) rfl rfl (Nat.le_of_ble_eq_true rfl) rfl ?_
    refine zw_goto (pc := 77) (off := (-60)) (tgt := 17) (by decide +kernel) (by decide) ?_
    exact zw_pick (lv' := [(0, .ref v0), (1, .ref v1), (2, .int (zJ v2)), (3, .int (zJ v3)), (4, .int (zJ v4)), (5, .int (zJ (v5 + 1)))]) [0, 1, 2, 3, 4, 5] rfl h
  · replace h := h.2 hc
    obtain ⟨o8, o9, h⟩ := h
    refine zw_iload (pc := 36) (i := 6) 6 (by decide +kernel) rfl ?_
    refine zw_aload_n (pc := 38) (n := 0) (i := 0) 0 (by decide +kernel) rfl rfl ?_
    refine zw_iload (pc := 39) (i := 7) 7 (by decide +kernel) rfl ?_
    refine zx_iaload (pc := 41) (by decide +kernel) o8 ?_
    refine zw_aload_n (pc := 42) (n := 1) (i := 1) 1 (by decide +kernel) rfl rfl ?_
    refine zw_iload (pc := 43) (i := 5) 5 (by decide +kernel) rfl ?_
    refine zw_iload (pc := 45) (i := 7) 7 (by decide +kernel) rfl ?_
    refine zw_isub (pc := 47) (by decide +kernel) ?_
    refine zx_iaload (pc := 48) (by decide +kernel) o9 ?_
    refine zw_imul (pc := 49) (by decide +kernel) ?_
    refine zw_iadd (pc := 50) (by decide +kernel) ?_
    refine zw_istore (pc := 51) (i := 6) (lv' := [(0, .ref v0), (1, .ref v1), (2, .int (zJ v2)), (3, .int (zJ v3)), (4, .int (zJ v4)), (5, .int (zJ v5)), (6, .int (zJ (v6 + ((μ v0 v7.toNat) * (μ v1 (Int.toNat (v5 - v7))))))), (7, .int (zJ v7))]) (by decide +kernel) (Nat.le_of_ble_eq_true rfl) rfl ?_
    refine zw_iinc (pc := 53) (i := 7) (n := 1) (lv' := [(0, .ref v0), (1, .ref v1), (2, .int (zJ v2)), (3, .int (zJ v3)), (4, .int (zJ v4)), (5, .int (zJ v5)), (6, .int (zJ (v6 + ((μ v0 v7.toNat) * (μ v1 (Int.toNat (v5 - v7))))))), (7, .int (zJ (v7 + 1)))]) 7 (by decide +kernel) rfl rfl (Nat.le_of_ble_eq_true rfl) rfl ?_
    refine zw_goto (pc := 56) (off := (-27)) (tgt := 29) (by decide +kernel) (by decide) ?_
    exact h
abbrev at_X7_reduce_3 (g : zG) (φ : zMu → Prop) (v1 : Nat) (v2 : Nat) (v3 : Int) (v4 : Int) (v5 : Int) (v6 : Int) (μ : zMu) : Prop := zWP g zm_X7_reduce (zmo g zm_X7_reduce (zΦv φ)) 3 [(0, .ref 69), (1, .ref v1), (2, .ref v2), (3, .int (zJ v3)), (4, .int (zJ v4)), (5, .int (zJ v5)), (6, .int (zJ v6))] [] 0 0 (zw μ)
theorem sg_X7_reduce {g : zG} {φ : zMu → Prop} {v1 : Nat} {v2 : Nat} {v3 : Int} {v4 : Int} {v5 : Int} {μ : zMu} (h_v2 : zS v2 6 3)
    (h : at_X7_reduce_3 g φ v1 v2 v3 v4 v5 0 μ) : zOv g zm_X7_reduce [.ref 69, .ref v1, .ref v2, .int (zJ v3), .int (zJ v4), .int (zJ v5)] μ φ := by
  refine zok_ofF (by decide +kernel) rfl ?_
  show zWP g zm_X7_reduce (zmo g zm_X7_reduce (zΦv φ)) 0 [(0, .ref 69), (1, .ref v1), (2, .ref v2), (3, .int (zJ v3)), (4, .int (zJ v4)), (5, .int (zJ v5))] [] 0 0 (zw μ)
  refine zw_iconst (pc := 0) (n := 0) (by decide +kernel) ?_
  refine zw_istore (pc := 1) (i := 6) (lv' := [(0, .ref 69), (1, .ref v1), (2, .ref v2), (3, .int (zJ v3)), (4, .int (zJ v4)), (5, .int (zJ v5)), (6, .int (zJ 0))]) (by decide +kernel) (Nat.le_of_ble_eq_true rfl) rfl ?_
  exact h
theorem sg_X7_reduce_3 {g : zG} {φ : zMu → Prop} {v1 : Nat} {v2 : Nat} {v3 : Int} {v4 : Int} {v5 : Int} {v6 : Int} {μ : zMu} (h_v2 : zS v2 6 3)
    (h : (zR v6) ∧ (zR v4) ∧ ((v4 ≤ v6 → zOv g zm_X6_become [.ref v2, .int (zJ v3), .int (zJ v4), .ref 70] μ (fun μ3 => φ μ3)) ∧ (v6 < v4 → (zIx v1 v6) ∧ zOi g zm_J9_floorMod_7cf53 [.int (zJ (μ v1 v6.toNat)), .int (zJ v5)] μ (fun x6 μ5 => (0 ≤ v6 ∧ v6 < 80) ∧ at_X7_reduce_3 g φ v1 v2 v3 v4 v5 (v6 + 1) (zup μ5 70 v6.toNat x6))))) : at_X7_reduce_3 g φ v1 v2 v3 v4 v5 v6 μ := by
  obtain ⟨o1, o2, h⟩ := h
  refine zw_iload (pc := 3) (i := 6) 6 (by decide +kernel) rfl ?_
  refine zw_iload (pc := 5) (i := 4) 4 (by decide +kernel) rfl ?_
  refine zw_icmp_ge (pc := 7) (off := 25) (tgt := 32) (by decide +kernel) (by decide) o1 o2 (fun hc => ?_) (fun hc => ?_)
  · replace h := h.1 hc
    refine zw_aload_n (pc := 32) (n := 2) (i := 2) 2 (by decide +kernel) rfl rfl ?_
    refine zw_iload_n (pc := 33) (n := 3) (i := 3) 3 (by decide +kernel) rfl rfl ?_
    refine zw_iload (pc := 34) (i := 4) 4 (by decide +kernel) rfl ?_
    refine zw_aload_n (pc := 36) (n := 0) (i := 0) 0 (by decide +kernel) rfl rfl ?_
    refine zx_getR (pc := 37) (o := 1) (r := 70) zf_7_9 (by decide +kernel) rfl zc_69 rfl (by decide) rfl ?_
    refine zx_callV (pc := 40) (As := [.int (zJ v3), .int (zJ v4), .ref 70]) h zi_X6_become zii_X6_become zie_X6_become zl_7_30 (by decide +kernel) ⟨Nat.le_of_ble_eq_true rfl, Nat.le_of_ble_eq_true rfl⟩ rfl h_v2 (by decide) rfl rfl ⟨rfl, rfl⟩ ⟨Nat.zero_le _, Nat.zero_le _⟩ (zkv (fun μ3 h => ?_))
    exact zw_vret (pc := 43) (by decide +kernel) rfl (Nat.le_refl _) (Nat.le_refl _) ⟨_, rfl, rfl, h⟩
  · replace h := h.2 hc
    obtain ⟨o4, h⟩ := h
    refine zw_aload_n (pc := 10) (n := 0) (i := 0) 0 (by decide +kernel) rfl rfl ?_
    refine zx_getR (pc := 11) (o := 1) (r := 70) zf_7_9 (by decide +kernel) rfl zc_69 rfl (by decide) rfl ?_
    refine zw_iload (pc := 14) (i := 6) 6 (by decide +kernel) rfl ?_
    refine zw_aload_n (pc := 16) (n := 1) (i := 1) 1 (by decide +kernel) rfl rfl ?_
    refine zw_iload (pc := 17) (i := 6) 6 (by decide +kernel) rfl ?_
    refine zx_iaload (pc := 19) (by decide +kernel) o4 ?_
    refine zw_iload (pc := 20) (i := 5) 5 (by decide +kernel) rfl ?_
    refine zx_callS (pc := 22) (As := [.int (zJ (μ v1 v6.toNat)), .int (zJ v5)]) h zi_J9_floorMod_7cf53 zis_J9_floorMod_7cf53 zl_7_24 (by decide +kernel) ⟨Nat.le_of_ble_eq_true rfl, Nat.le_of_ble_eq_true rfl⟩ rfl rfl ⟨rfl, rfl⟩ ⟨Nat.zero_le _, Nat.zero_le _⟩ (zki (fun x6 μ5 h => ?_))
    obtain ⟨o7, h⟩ := h
    refine zx_iastore (pc := 25) (by decide +kernel) ⟨80, zc_70, o7.1, o7.2⟩ ?_
    refine zw_iinc (pc := 26) (i := 6) (n := 1) (lv' := [(0, .ref 69), (1, .ref v1), (2, .ref v2), (3, .int (zJ v3)), (4, .int (zJ v4)), (5, .int (zJ v5)), (6, .int (zJ (v6 + 1)))]) 6 (by decide +kernel) rfl rfl (Nat.le_of_ble_eq_true rfl) rfl ?_
    refine zw_goto (pc := 29) (off := (-26)) (tgt := 3) (by decide +kernel) (by decide) ?_
    exact h
abbrev at_X7_add_34 (g : zG) (φ : zMu → Prop) (v1 : Nat) (v2 : Nat) (v3 : Nat) (v4 : Int) (v5 : Int) (v6 : Int) (v7 : Int) (μ : zMu) : Prop := zWP g zm_X7_add (zmo g zm_X7_add (zΦv φ)) 34 [(0, .ref 69), (1, .ref v1), (2, .ref v2), (3, .ref v3), (4, .int (zJ v4)), (5, .int (zJ v5)), (6, .int (zJ v6)), (7, .int (zJ v7))] [] 0 0 (zw μ)
theorem sg_X7_add {g : zG} {φ : zMu → Prop} {v1 : Nat} {v2 : Nat} {v3 : Nat} {v4 : Int} {μ : zMu} (h_v1 : zS v1 6 3) (h_v2 : zS v2 6 3) (h_v3 : zS v3 6 3)
    (h : (zR (μ v1 1)) ∧ (zR (μ v2 1)) ∧ zOi g zm_X6_last [.ref v1] μ (fun x4 μ3 => zOi g zm_X6_last [.ref v2] μ3 (fun x6 μ5 => (zR x4) ∧ (zR x6) ∧ at_X7_add_34 g φ v1 v2 v3 v4 (min (μ v1 1) (μ v2 1)) (((min x4 x6) - (min (μ v1 1) (μ v2 1))) + 1) 0 μ5))) : zOv g zm_X7_add [.ref 69, .ref v1, .ref v2, .ref v3, .int (zJ v4)] μ φ := by
  refine zok_ofF (by decide +kernel) rfl ?_
  show zWP g zm_X7_add (zmo g zm_X7_add (zΦv φ)) 0 [(0, .ref 69), (1, .ref v1), (2, .ref v2), (3, .ref v3), (4, .int (zJ v4))] [] 0 0 (zw μ)
  obtain ⟨o1, o2, h⟩ := h
  refine zw_aload_n (pc := 0) (n := 1) (i := 1) 1 (by decide +kernel) rfl rfl ?_
  refine zx_getI (pc := 1) zf_7_36 (by decide +kernel) rfl h_v1 ?_
  refine zw_aload_n (pc := 4) (n := 2) (i := 2) 2 (by decide +kernel) rfl rfl ?_
  refine zx_getI (pc := 5) zf_7_36 (by decide +kernel) rfl h_v2 ?_
  refine zw_min (pc := 8) zl_7_40 zb_minS zb_mathI zb_minC (by decide +kernel) ⟨Nat.le_of_ble_eq_true rfl, Nat.le_of_ble_eq_true rfl⟩ (Nat.zero_le _) (Nat.zero_le _) rfl o1 o2 ?_
  refine zw_istore (pc := 11) (i := 5) (lv' := [(0, .ref 69), (1, .ref v1), (2, .ref v2), (3, .ref v3), (4, .int (zJ v4)), (5, .int (zJ (min (μ v1 1) (μ v2 1))))]) (by decide +kernel) (Nat.le_of_ble_eq_true rfl) rfl ?_
  refine zw_aload_n (pc := 13) (n := 1) (i := 1) 1 (by decide +kernel) rfl rfl ?_
  refine zx_callV (pc := 14) (As := []) h zi_X6_last zii_X6_last zie_X6_last zl_7_43 (by decide +kernel) ⟨Nat.le_of_ble_eq_true rfl, Nat.le_of_ble_eq_true rfl⟩ rfl h_v1 (by decide) rfl rfl ⟨rfl, rfl⟩ ⟨Nat.zero_le _, Nat.zero_le _⟩ (zki (fun x4 μ3 h => ?_))
  refine zw_aload_n (pc := 17) (n := 2) (i := 2) 2 (by decide +kernel) rfl rfl ?_
  refine zx_callV (pc := 18) (As := []) h zi_X6_last zii_X6_last zie_X6_last zl_7_43 (by decide +kernel) ⟨Nat.le_of_ble_eq_true rfl, Nat.le_of_ble_eq_true rfl⟩ rfl h_v2 (by decide) rfl rfl ⟨rfl, rfl⟩ ⟨Nat.zero_le _, Nat.zero_le _⟩ (zki (fun x6 μ5 h => ?_))
  obtain ⟨o7, o8, h⟩ := h
  refine zw_min (pc := 21) zl_7_40 zb_minS zb_mathI zb_minC (by decide +kernel) ⟨Nat.le_of_ble_eq_true rfl, Nat.le_of_ble_eq_true rfl⟩ (Nat.zero_le _) (Nat.zero_le _) rfl o7 o8 ?_
  refine zw_iload (pc := 24) (i := 5) 5 (by decide +kernel) rfl ?_
  refine zw_isub (pc := 26) (by decide +kernel) ?_
  refine zw_iconst (pc := 27) (n := 1) (by decide +kernel) ?_
  refine zw_iadd (pc := 28) (by decide +kernel) ?_
  refine zw_istore (pc := 29) (i := 6) (lv' := [(0, .ref 69), (1, .ref v1), (2, .ref v2), (3, .ref v3), (4, .int (zJ v4)), (5, .int (zJ (min (μ v1 1) (μ v2 1)))), (6, .int (zJ (((min x4 x6) - (min (μ v1 1) (μ v2 1))) + 1)))]) (by decide +kernel) (Nat.le_of_ble_eq_true rfl) rfl ?_
  refine zw_iconst (pc := 31) (n := 0) (by decide +kernel) ?_
  refine zw_istore (pc := 32) (i := 7) (lv' := [(0, .ref 69), (1, .ref v1), (2, .ref v2), (3, .ref v3), (4, .int (zJ v4)), (5, .int (zJ (min (μ v1 1) (μ v2 1)))), (6, .int (zJ (((min x4 x6) - (min (μ v1 1) (μ v2 1))) + 1))), (7, .int (zJ 0))]) (by decide +kernel) (Nat.le_of_ble_eq_true rfl) rfl ?_
  exact h
theorem sg_X7_add_34 {g : zG} {φ : zMu → Prop} {v1 : Nat} {v2 : Nat} {v3 : Nat} {v4 : Int} {v5 : Int} {v6 : Int} {v7 : Int} {μ : zMu} (h_v1 : zS v1 6 3) (h_v2 : zS v2 6 3) (h_v3 : zS v3 6 3)
    (h : (zR v7) ∧ (zR v6) ∧ ((v6 ≤ v7 → zOv g zm_X6_become [.ref v3, .int (zJ v5), .int (zJ v6), .ref 70] μ (fun μ3 => φ μ3)) ∧ (v7 < v6 → zOi g zm_X6_valueOf [.ref v1, .int (zJ (v5 + v7))] μ (fun x5 μ4 => zOi g zm_X6_valueOf [.ref v2, .int (zJ (v5 + v7))] μ4 (fun x7 μ6 => (zR (x5 + x7)) ∧ (zR v4) ∧ (v4 ≠ 0) ∧ (0 ≤ v7 ∧ v7 < 80) ∧ at_X7_add_34 g φ v1 v2 v3 v4 v5 v6 (v7 + 1) (zup μ6 70 v7.toNat ((x5 + x7).tmod v4))))))) : at_X7_add_34 g φ v1 v2 v3 v4 v5 v6 v7 μ := by
  obtain ⟨o1, o2, h⟩ := h
  refine zw_iload (pc := 34) (i := 7) 7 (by decide +kernel) rfl ?_
  refine zw_iload (pc := 36) (i := 6) 6 (by decide +kernel) rfl ?_
  refine zw_icmp_ge (pc := 38) (off := 38) (tgt := 76) (by decide +kernel) (by decide) o1 o2 (fun hc => ?_) (fun hc => ?_)
  · replace h := h.1 hc
    refine zw_aload_n (pc := 76) (n := 3) (i := 3) 3 (by decide +kernel) rfl rfl ?_
    refine zw_iload (pc := 77) (i := 5) 5 (by decide +kernel) rfl ?_
    refine zw_iload (pc := 79) (i := 6) 6 (by decide +kernel) rfl ?_
    refine zw_aload_n (pc := 81) (n := 0) (i := 0) 0 (by decide +kernel) rfl rfl ?_
    refine zx_getR (pc := 82) (o := 1) (r := 70) zf_7_9 (by decide +kernel) rfl zc_69 rfl (by decide) rfl ?_
    refine zx_callV (pc := 85) (As := [.int (zJ v5), .int (zJ v6), .ref 70]) h zi_X6_become zii_X6_become zie_X6_become zl_7_30 (by decide +kernel) ⟨Nat.le_of_ble_eq_true rfl, Nat.le_of_ble_eq_true rfl⟩ rfl h_v3 (by decide) rfl rfl ⟨rfl, rfl⟩ ⟨Nat.zero_le _, Nat.zero_le _⟩ (zkv (fun μ3 h => ?_))
    exact zw_vret (pc := 88) (by decide +kernel) rfl (Nat.le_refl _) (Nat.le_refl _) ⟨_, rfl, rfl, h⟩
  · replace h := h.2 hc
    refine zw_aload_n (pc := 41) (n := 0) (i := 0) 0 (by decide +kernel) rfl rfl ?_
    refine zx_getR (pc := 42) (o := 1) (r := 70) zf_7_9 (by decide +kernel) rfl zc_69 rfl (by decide) rfl ?_
    refine zw_iload (pc := 45) (i := 7) 7 (by decide +kernel) rfl ?_
    refine zw_aload_n (pc := 47) (n := 1) (i := 1) 1 (by decide +kernel) rfl rfl ?_
    refine zw_iload (pc := 48) (i := 5) 5 (by decide +kernel) rfl ?_
    refine zw_iload (pc := 50) (i := 7) 7 (by decide +kernel) rfl ?_
    refine zw_iadd (pc := 52) (by decide +kernel) ?_
    refine zx_callV (pc := 53) (As := [.int (zJ (v5 + v7))]) h zi_X6_valueOf zii_X6_valueOf zie_X6_valueOf zl_7_47 (by decide +kernel) ⟨Nat.le_of_ble_eq_true rfl, Nat.le_of_ble_eq_true rfl⟩ rfl h_v1 (by decide) rfl rfl ⟨rfl, rfl⟩ ⟨Nat.zero_le _, Nat.zero_le _⟩ (zki (fun x5 μ4 h => ?_))
    refine zw_aload_n (pc := 56) (n := 2) (i := 2) 2 (by decide +kernel) rfl rfl ?_
    refine zw_iload (pc := 57) (i := 5) 5 (by decide +kernel) rfl ?_
    refine zw_iload (pc := 59) (i := 7) 7 (by decide +kernel) rfl ?_
    refine zw_iadd (pc := 61) (by decide +kernel) ?_
    refine zx_callV (pc := 62) (As := [.int (zJ (v5 + v7))]) h zi_X6_valueOf zii_X6_valueOf zie_X6_valueOf zl_7_47 (by decide +kernel) ⟨Nat.le_of_ble_eq_true rfl, Nat.le_of_ble_eq_true rfl⟩ rfl h_v2 (by decide) rfl rfl ⟨rfl, rfl⟩ ⟨Nat.zero_le _, Nat.zero_le _⟩ (zki (fun x7 μ6 h => ?_))
    obtain ⟨o8, o9, o10, o11, h⟩ := h
    refine zw_iadd (pc := 65) (by decide +kernel) ?_
    refine zw_iload (pc := 66) (i := 4) 4 (by decide +kernel) rfl ?_
    refine zw_irem (pc := 68) (by decide +kernel) o8 o9 o10 ?_
    refine zx_iastore (pc := 69) (by decide +kernel) ⟨80, zc_70, o11.1, o11.2⟩ ?_
    refine zw_iinc (pc := 70) (i := 7) (n := 1) (lv' := [(0, .ref 69), (1, .ref v1), (2, .ref v2), (3, .ref v3), (4, .int (zJ v4)), (5, .int (zJ v5)), (6, .int (zJ v6)), (7, .int (zJ (v7 + 1)))]) 7 (by decide +kernel) rfl rfl (Nat.le_of_ble_eq_true rfl) rfl ?_
    refine zw_goto (pc := 73) (off := (-39)) (tgt := 34) (by decide +kernel) (by decide) ?_
    exact h
theorem sg_X7_makeProduct {g : zG} {φ : zMu → Prop} {v1 : Nat} {v2 : Nat} {v3 : Nat} {v4 : Int} {μ : zMu} (h_v1 : zS v1 6 3) (h_v2 : zS v2 6 3) (h_v3 : zS v3 6 3)
    (h : (zR (μ v1 2)) ∧ (zR (μ v2 2)) ∧ zOv g zm_X10_multiply [.ref (v1 + 1), .ref (v2 + 1), .ref 70, .int (zJ (min (μ v1 2) (μ v2 2))), .int (zJ v4)] μ (fun μ5 => zOv g zm_X6_become [.ref v3, .int (zJ ((μ5 v1 1) + (μ5 v2 1))), .int (zJ (min (μ v1 2) (μ v2 2))), .ref 70] μ5 (fun μ6 => φ μ6))) : zOv g zm_X7_makeProduct [.ref 69, .ref v1, .ref v2, .ref v3, .int (zJ v4)] μ φ := by
  refine zok_ofF (by decide +kernel) rfl ?_
  show zWP g zm_X7_makeProduct (zmo g zm_X7_makeProduct (zΦv φ)) 0 [(0, .ref 69), (1, .ref v1), (2, .ref v2), (3, .ref v3), (4, .int (zJ v4))] [] 0 0 (zw μ)
  obtain ⟨o1, o2, h⟩ := h
  refine zw_aload_n (pc := 0) (n := 1) (i := 1) 1 (by decide +kernel) rfl rfl ?_
  refine zx_getI (pc := 1) zf_7_51 (by decide +kernel) rfl h_v1 ?_
  refine zw_aload_n (pc := 4) (n := 2) (i := 2) 2 (by decide +kernel) rfl rfl ?_
  refine zx_getI (pc := 5) zf_7_51 (by decide +kernel) rfl h_v2 ?_
  refine zw_min (pc := 8) zl_7_40 zb_minS zb_mathI zb_minC (by decide +kernel) ⟨Nat.le_of_ble_eq_true rfl, Nat.le_of_ble_eq_true rfl⟩ (Nat.zero_le _) (Nat.zero_le _) rfl o1 o2 ?_
  refine zw_istore (pc := 11) (i := 5) (lv' := [(0, .ref 69), (1, .ref v1), (2, .ref v2), (3, .ref v3), (4, .int (zJ v4)), (5, .int (zJ (min (μ v1 2) (μ v2 2))))]) (by decide +kernel) (Nat.le_of_ble_eq_true rfl) rfl ?_
  refine zw_aload_n (pc := 13) (n := 1) (i := 1) 1 (by decide +kernel) rfl rfl ?_
  have q3 : zS (v1 + 1) 12 80 := zq 0 h_v1 rfl
  refine zx_getR (pc := 14) (o := 1) (r := (v1 + 1)) zf_7_54 (by decide +kernel) rfl h_v1 rfl (by decide) rfl ?_
  refine zw_aload_n (pc := 17) (n := 2) (i := 2) 2 (by decide +kernel) rfl rfl ?_
  have q4 : zS (v2 + 1) 12 80 := zq 0 h_v2 rfl
  refine zx_getR (pc := 18) (o := 1) (r := (v2 + 1)) zf_7_54 (by decide +kernel) rfl h_v2 rfl (by decide) rfl ?_
  refine zw_aload_n (pc := 21) (n := 0) (i := 0) 0 (by decide +kernel) rfl rfl ?_
  refine zx_getR (pc := 22) (o := 1) (r := 70) zf_7_9 (by decide +kernel) rfl zc_69 rfl (by decide) rfl ?_
  refine zw_iload (pc := 25) (i := 5) 5 (by decide +kernel) rfl ?_
  refine zw_iload (pc := 27) (i := 4) 4 (by decide +kernel) rfl ?_
  refine zx_callSN (pc := 29) (As := [.ref (v1 + 1), .ref (v2 + 1), .ref 70, .int (zJ (min (μ v1 2) (μ v2 2))), .int (zJ v4)]) h zi_X10_multiply zis_X10_multiply zn_7_57 (by decide +kernel) ⟨Nat.le_of_ble_eq_true rfl, Nat.le_of_ble_eq_true rfl⟩ rfl rfl ⟨rfl, rfl⟩ ⟨Nat.zero_le _, Nat.zero_le _⟩ (zkv (fun μ5 h => ?_))
  refine zw_aload_n (pc := 32) (n := 3) (i := 3) 3 (by decide +kernel) rfl rfl ?_
  refine zw_aload_n (pc := 33) (n := 1) (i := 1) 1 (by decide +kernel) rfl rfl ?_
  refine zx_getI (pc := 34) zf_7_36 (by decide +kernel) rfl h_v1 ?_
  refine zw_aload_n (pc := 37) (n := 2) (i := 2) 2 (by decide +kernel) rfl rfl ?_
  refine zx_getI (pc := 38) zf_7_36 (by decide +kernel) rfl h_v2 ?_
  refine zw_iadd (pc := 41) (by decide +kernel) ?_
  refine zw_iload (pc := 42) (i := 5) 5 (by decide +kernel) rfl ?_
  refine zw_aload_n (pc := 44) (n := 0) (i := 0) 0 (by decide +kernel) rfl rfl ?_
  refine zx_getR (pc := 45) (o := 1) (r := 70) zf_7_9 (by decide +kernel) rfl zc_69 rfl (by decide) rfl ?_
  refine zx_callV (pc := 48) (As := [.int (zJ ((μ5 v1 1) + (μ5 v2 1))), .int (zJ (min (μ v1 2) (μ v2 2))), .ref 70]) h zi_X6_become zii_X6_become zie_X6_become zl_7_30 (by decide +kernel) ⟨Nat.le_of_ble_eq_true rfl, Nat.le_of_ble_eq_true rfl⟩ rfl h_v3 (by decide) rfl rfl ⟨rfl, rfl⟩ ⟨Nat.zero_le _, Nat.zero_le _⟩ (zkv (fun μ6 h => ?_))
  exact zw_vret (pc := 51) (by decide +kernel) rfl (Nat.le_refl _) (Nat.le_refl _) ⟨_, rfl, rfl, h⟩
abbrev at_X7_widen_24 (g : zG) (φ : zMu → Prop) (v1 : Nat) (v2 : Int) (v3 : Nat) (v4 : Int) (v5 : Int) (μ : zMu) : Prop := zWP g zm_X7_widen (zmo g zm_X7_widen (zΦv φ)) 24 [(0, .ref 69), (1, .ref v1), (2, .int (zJ v2)), (3, .ref v3), (4, .int (zJ v4)), (5, .int (zJ v5))] [] 0 0 (zw μ)
theorem sg_X7_widen {g : zG} {φ : zMu → Prop} {v1 : Nat} {v2 : Int} {v3 : Nat} {μ : zMu} (h_v1 : zS v1 6 3) (h_v3 : zS v3 6 3)
    (h : (zR ((μ v1 2) * v2)) ∧ zOv g zm_J7_fill_53178 [.ref 70, .int (zJ 0)] μ (fun μ2 => at_X7_widen_24 g φ v1 v2 v3 (min ((μ v1 2) * v2) 80) 0 μ2)) : zOv g zm_X7_widen [.ref 69, .ref v1, .int (zJ v2), .ref v3] μ φ := by
  refine zok_ofF (by decide +kernel) rfl ?_
  show zWP g zm_X7_widen (zmo g zm_X7_widen (zΦv φ)) 0 [(0, .ref 69), (1, .ref v1), (2, .int (zJ v2)), (3, .ref v3)] [] 0 0 (zw μ)
  obtain ⟨o1, h⟩ := h
  refine zw_aload_n (pc := 0) (n := 1) (i := 1) 1 (by decide +kernel) rfl rfl ?_
  refine zx_getI (pc := 1) zf_7_51 (by decide +kernel) rfl h_v1 ?_
  refine zw_iload_n (pc := 4) (n := 2) (i := 2) 2 (by decide +kernel) rfl rfl ?_
  refine zw_imul (pc := 5) (by decide +kernel) ?_
  refine zw_bipush (pc := 6) (n := 80) (by decide +kernel) (by decide +kernel) ?_
  refine zw_min (pc := 8) zl_7_40 zb_minS zb_mathI zb_minC (by decide +kernel) ⟨Nat.le_of_ble_eq_true rfl, Nat.le_of_ble_eq_true rfl⟩ (Nat.zero_le _) (Nat.zero_le _) rfl o1 ⟨by decide, by decide⟩ ?_
  refine zw_istore (pc := 11) (i := 4) (lv' := [(0, .ref 69), (1, .ref v1), (2, .int (zJ v2)), (3, .ref v3), (4, .int (zJ (min ((μ v1 2) * v2) 80)))]) (by decide +kernel) (Nat.le_of_ble_eq_true rfl) rfl ?_
  refine zw_aload_n (pc := 13) (n := 0) (i := 0) 0 (by decide +kernel) rfl rfl ?_
  refine zx_getR (pc := 14) (o := 1) (r := 70) zf_7_9 (by decide +kernel) rfl zc_69 rfl (by decide) rfl ?_
  refine zw_iconst (pc := 17) (n := 0) (by decide +kernel) ?_
  refine zx_callS (pc := 18) (As := [.ref 70, .int (zJ 0)]) h zi_J7_fill_53178 zis_J7_fill_53178 zl_7_61 (by decide +kernel) ⟨Nat.le_of_ble_eq_true rfl, Nat.le_of_ble_eq_true rfl⟩ rfl rfl ⟨rfl, rfl⟩ ⟨Nat.zero_le _, Nat.zero_le _⟩ (zkv (fun μ2 h => ?_))
  refine zw_iconst (pc := 21) (n := 0) (by decide +kernel) ?_
  refine zw_istore (pc := 22) (i := 5) (lv' := [(0, .ref 69), (1, .ref v1), (2, .int (zJ v2)), (3, .ref v3), (4, .int (zJ (min ((μ v1 2) * v2) 80))), (5, .int (zJ 0))]) (by decide +kernel) (Nat.le_of_ble_eq_true rfl) rfl ?_
  exact h
theorem sg_X7_widen_24 {g : zG} {φ : zMu → Prop} {v1 : Nat} {v2 : Int} {v3 : Nat} {v4 : Int} {v5 : Int} {μ : zMu} (h_v1 : zS v1 6 3) (h_v3 : zS v3 6 3)
    (h : (zR (v5 * v2)) ∧ (zR v4) ∧ ((v4 ≤ (v5 * v2) → zOv g zm_X6_become [.ref v3, .int (zJ ((μ v1 1) * v2)), .int (zJ v4), .ref 70] μ (fun μ3 => φ μ3)) ∧ ((v5 * v2) < v4 → (0 ≤ v5 ∧ v5 < 80) ∧ (0 ≤ (v5 * v2) ∧ (v5 * v2) < 80) ∧ at_X7_widen_24 g φ v1 v2 v3 v4 (v5 + 1) (zup μ 70 (Int.toNat (v5 * v2)) (μ (v1 + 1) v5.toNat))))) : at_X7_widen_24 g φ v1 v2 v3 v4 v5 μ := by
  obtain ⟨o1, o2, h⟩ := h
  refine zw_iload (pc := 24) (i := 5) 5 (by decide +kernel) rfl ?_
  refine zw_iload_n (pc := 26) (n := 2) (i := 2) 2 (by decide +kernel) rfl rfl ?_
  refine zw_imul (pc := 27) (by decide +kernel) ?_
  refine zw_iload (pc := 28) (i := 4) 4 (by decide +kernel) rfl ?_
  refine zw_icmp_ge (pc := 30) (off := 25) (tgt := 55) (by decide +kernel) (by decide) o1 o2 (fun hc => ?_) (fun hc => ?_)
  · replace h := h.1 hc
    refine zw_aload_n (pc := 55) (n := 3) (i := 3) 3 (by decide +kernel) rfl rfl ?_
    refine zw_aload_n (pc := 56) (n := 1) (i := 1) 1 (by decide +kernel) rfl rfl ?_
    refine zx_getI (pc := 57) zf_7_36 (by decide +kernel) rfl h_v1 ?_
    refine zw_iload_n (pc := 60) (n := 2) (i := 2) 2 (by decide +kernel) rfl rfl ?_
    refine zw_imul (pc := 61) (by decide +kernel) ?_
    refine zw_iload (pc := 62) (i := 4) 4 (by decide +kernel) rfl ?_
    refine zw_aload_n (pc := 64) (n := 0) (i := 0) 0 (by decide +kernel) rfl rfl ?_
    refine zx_getR (pc := 65) (o := 1) (r := 70) zf_7_9 (by decide +kernel) rfl zc_69 rfl (by decide) rfl ?_
    refine zx_callV (pc := 68) (As := [.int (zJ ((μ v1 1) * v2)), .int (zJ v4), .ref 70]) h zi_X6_become zii_X6_become zie_X6_become zl_7_30 (by decide +kernel) ⟨Nat.le_of_ble_eq_true rfl, Nat.le_of_ble_eq_true rfl⟩ rfl h_v3 (by decide) rfl rfl ⟨rfl, rfl⟩ ⟨Nat.zero_le _, Nat.zero_le _⟩ (zkv (fun μ3 h => ?_))
    exact zw_vret (pc := 71) (by decide +kernel) rfl (Nat.le_refl _) (Nat.le_refl _) ⟨_, rfl, rfl, h⟩
  · replace h := h.2 hc
    obtain ⟨o5, o6, h⟩ := h
    refine zw_aload_n (pc := 33) (n := 0) (i := 0) 0 (by decide +kernel) rfl rfl ?_
    refine zx_getR (pc := 34) (o := 1) (r := 70) zf_7_9 (by decide +kernel) rfl zc_69 rfl (by decide) rfl ?_
    refine zw_iload (pc := 37) (i := 5) 5 (by decide +kernel) rfl ?_
    refine zw_iload_n (pc := 39) (n := 2) (i := 2) 2 (by decide +kernel) rfl rfl ?_
    refine zw_imul (pc := 40) (by decide +kernel) ?_
    refine zw_aload_n (pc := 41) (n := 1) (i := 1) 1 (by decide +kernel) rfl rfl ?_
    have q4 : zS (v1 + 1) 12 80 := zq 0 h_v1 rfl
    refine zx_getR (pc := 42) (o := 1) (r := (v1 + 1)) zf_7_54 (by decide +kernel) rfl h_v1 rfl (by decide) rfl ?_
    refine zw_iload (pc := 45) (i := 5) 5 (by decide +kernel) rfl ?_
    refine zx_iaload (pc := 47) (by decide +kernel) ⟨80, q4, o5.1, o5.2⟩ ?_
    refine zx_iastore (pc := 48) (by decide +kernel) ⟨80, zc_70, o6.1, o6.2⟩ ?_
    refine zw_iinc (pc := 49) (i := 5) (n := 1) (lv' := [(0, .ref 69), (1, .ref v1), (2, .int (zJ v2)), (3, .ref v3), (4, .int (zJ v4)), (5, .int (zJ (v5 + 1)))]) 5 (by decide +kernel) rfl rfl (Nat.le_of_ble_eq_true rfl) rfl ?_
    refine zw_goto (pc := 52) (off := (-28)) (tgt := 24) (by decide +kernel) (by decide) ?_
    exact h
theorem sg_X7_makeReciprocal {g : zG} {φ : zMu → Prop} {v1 : Nat} {v2 : Nat} {v3 : Int} {μ : zMu} (h_v1 : zS v1 6 3) (h_v2 : zS v2 6 3)
    (h : zOv g zm_X7_invert [.ref (v1 + 1), .ref 70, .int (zJ (μ v1 2)), .int (zJ v3)] μ (fun μ2 => zOv g zm_X6_become [.ref v2, .int (zJ (-(μ2 v1 1))), .int (zJ (μ2 v1 2)), .ref 70] μ2 (fun μ3 => φ μ3))) : zOv g zm_X7_makeReciprocal [.ref 69, .ref v1, .ref v2, .int (zJ v3)] μ φ := by
  refine zok_ofF (by decide +kernel) rfl ?_
  show zWP g zm_X7_makeReciprocal (zmo g zm_X7_makeReciprocal (zΦv φ)) 0 [(0, .ref 69), (1, .ref v1), (2, .ref v2), (3, .int (zJ v3))] [] 0 0 (zw μ)
  refine zw_aload_n (pc := 0) (n := 1) (i := 1) 1 (by decide +kernel) rfl rfl ?_
  have q1 : zS (v1 + 1) 12 80 := zq 0 h_v1 rfl
  refine zx_getR (pc := 1) (o := 1) (r := (v1 + 1)) zf_7_54 (by decide +kernel) rfl h_v1 rfl (by decide) rfl ?_
  refine zw_aload_n (pc := 4) (n := 0) (i := 0) 0 (by decide +kernel) rfl rfl ?_
  refine zx_getR (pc := 5) (o := 1) (r := 70) zf_7_9 (by decide +kernel) rfl zc_69 rfl (by decide) rfl ?_
  refine zw_aload_n (pc := 8) (n := 1) (i := 1) 1 (by decide +kernel) rfl rfl ?_
  refine zx_getI (pc := 9) zf_7_51 (by decide +kernel) rfl h_v1 ?_
  refine zw_iload_n (pc := 12) (n := 3) (i := 3) 3 (by decide +kernel) rfl rfl ?_
  refine zx_callS (pc := 13) (As := [.ref (v1 + 1), .ref 70, .int (zJ (μ v1 2)), .int (zJ v3)]) h zi_X7_invert zis_X7_invert zl_7_67 (by decide +kernel) ⟨Nat.le_of_ble_eq_true rfl, Nat.le_of_ble_eq_true rfl⟩ rfl rfl ⟨rfl, rfl⟩ ⟨Nat.zero_le _, Nat.zero_le _⟩ (zkv (fun μ2 h => ?_))
  refine zw_aload_n (pc := 16) (n := 2) (i := 2) 2 (by decide +kernel) rfl rfl ?_
  refine zw_aload_n (pc := 17) (n := 1) (i := 1) 1 (by decide +kernel) rfl rfl ?_
  refine zx_getI (pc := 18) zf_7_36 (by decide +kernel) rfl h_v1 ?_
  refine zw_ineg (pc := 21) (by decide +kernel) ?_
  refine zw_aload_n (pc := 22) (n := 1) (i := 1) 1 (by decide +kernel) rfl rfl ?_
  refine zx_getI (pc := 23) zf_7_51 (by decide +kernel) rfl h_v1 ?_
  refine zw_aload_n (pc := 26) (n := 0) (i := 0) 0 (by decide +kernel) rfl rfl ?_
  refine zx_getR (pc := 27) (o := 1) (r := 70) zf_7_9 (by decide +kernel) rfl zc_69 rfl (by decide) rfl ?_
  refine zx_callV (pc := 30) (As := [.int (zJ (-(μ2 v1 1))), .int (zJ (μ2 v1 2)), .ref 70]) h zi_X6_become zii_X6_become zie_X6_become zl_7_30 (by decide +kernel) ⟨Nat.le_of_ble_eq_true rfl, Nat.le_of_ble_eq_true rfl⟩ rfl h_v2 (by decide) rfl rfl ⟨rfl, rfl⟩ ⟨Nat.zero_le _, Nat.zero_le _⟩ (zkv (fun μ3 h => ?_))
  exact zw_vret (pc := 33) (by decide +kernel) rfl (Nat.le_refl _) (Nat.le_refl _) ⟨_, rfl, rfl, h⟩
abbrev at_X7_makePower_18 (g : zG) (φ : zMu → Prop) (v1 : Nat) (v2 : Int) (v3 : Nat) (v4 : Int) (v5 : Int) (μ : zMu) : Prop := zWP g zm_X7_makePower (zmo g zm_X7_makePower (zΦv φ)) 18 [(0, .ref 69), (1, .ref v1), (2, .int (zJ v2)), (3, .ref v3), (4, .int (zJ v4)), (5, .int (zJ v5))] [] 0 0 (zw μ)
theorem sg_X7_makePower {g : zG} {φ : zMu → Prop} {v1 : Nat} {v2 : Int} {v3 : Nat} {v4 : Int} {μ : zMu} (h_v1 : zS v1 6 3) (h_v3 : zS v3 6 3)
    (h : zOv g zm_J7_fill_53178 [.ref 70, .int (zJ 0)] μ (fun μ1 => at_X7_makePower_18 g φ v1 v2 v3 v4 0 (zup μ1 70 0 1))) : zOv g zm_X7_makePower [.ref 69, .ref v1, .int (zJ v2), .ref v3, .int (zJ v4)] μ φ := by
  refine zok_ofF (by decide +kernel) rfl ?_
  show zWP g zm_X7_makePower (zmo g zm_X7_makePower (zΦv φ)) 0 [(0, .ref 69), (1, .ref v1), (2, .int (zJ v2)), (3, .ref v3), (4, .int (zJ v4))] [] 0 0 (zw μ)
  refine zw_aload_n (pc := 0) (n := 0) (i := 0) 0 (by decide +kernel) rfl rfl ?_
  refine zx_getR (pc := 1) (o := 1) (r := 70) zf_7_9 (by decide +kernel) rfl zc_69 rfl (by decide) rfl ?_
  refine zw_iconst (pc := 4) (n := 0) (by decide +kernel) ?_
  refine zx_callS (pc := 5) (As := [.ref 70, .int (zJ 0)]) h zi_J7_fill_53178 zis_J7_fill_53178 zl_7_61 (by decide +kernel) ⟨Nat.le_of_ble_eq_true rfl, Nat.le_of_ble_eq_true rfl⟩ rfl rfl ⟨rfl, rfl⟩ ⟨Nat.zero_le _, Nat.zero_le _⟩ (zkv (fun μ1 h => ?_))
  refine zw_aload_n (pc := 8) (n := 0) (i := 0) 0 (by decide +kernel) rfl rfl ?_
  refine zx_getR (pc := 9) (o := 1) (r := 70) zf_7_9 (by decide +kernel) rfl zc_69 rfl (by decide) rfl ?_
  refine zw_iconst (pc := 12) (n := 0) (by decide +kernel) ?_
  refine zw_iconst (pc := 13) (n := 1) (by decide +kernel) ?_
  refine zx_iastore (pc := 14) (by decide +kernel) ⟨80, zc_70, by decide, by decide⟩ ?_
  refine zw_iconst (pc := 15) (n := 0) (by decide +kernel) ?_
  refine zw_istore (pc := 16) (i := 5) (lv' := [(0, .ref 69), (1, .ref v1), (2, .int (zJ v2)), (3, .ref v3), (4, .int (zJ v4)), (5, .int (zJ 0))]) (by decide +kernel) (Nat.le_of_ble_eq_true rfl) rfl ?_
  exact h
theorem sg_X7_makePower_18 {g : zG} {φ : zMu → Prop} {v1 : Nat} {v2 : Int} {v3 : Nat} {v4 : Int} {v5 : Int} {μ : zMu} (h_v1 : zS v1 6 3) (h_v3 : zS v3 6 3)
    (h : (zR v5) ∧ (zR v2) ∧ ((v2 ≤ v5 → zOv g zm_X6_become [.ref v3, .int (zJ ((μ v1 1) * v2)), .int (zJ (μ v1 2)), .ref 70] μ (fun μ3 => φ μ3)) ∧ (v5 < v2 → zOv g zm_X10_multiply [.ref 70, .ref (v1 + 1), .ref 71, .int (zJ (μ v1 2)), .int (zJ v4)] μ (fun μ5 => (0 ≤ (0 : Int) ∧ 0 ≤ (0 : Int) ∧ 0 ≤ (80 : Int) ∧ (0 : Int) + 80 ≤ 80 ∧ (0 : Int) + 80 ≤ 80) ∧ at_X7_makePower_18 g φ v1 v2 v3 v4 (v5 + 1) (zcp μ5 71 0 70 0 80))))) : at_X7_makePower_18 g φ v1 v2 v3 v4 v5 μ := by
  obtain ⟨o1, o2, h⟩ := h
  refine zw_iload (pc := 18) (i := 5) 5 (by decide +kernel) rfl ?_
  refine zw_iload_n (pc := 20) (n := 2) (i := 2) 2 (by decide +kernel) rfl rfl ?_
  refine zw_icmp_ge (pc := 21) (off := 45) (tgt := 66) (by decide +kernel) (by decide) o1 o2 (fun hc => ?_) (fun hc => ?_)
  · replace h := h.1 hc
    refine zw_aload_n (pc := 66) (n := 3) (i := 3) 3 (by decide +kernel) rfl rfl ?_
    refine zw_aload_n (pc := 67) (n := 1) (i := 1) 1 (by decide +kernel) rfl rfl ?_
    refine zx_getI (pc := 68) zf_7_36 (by decide +kernel) rfl h_v1 ?_
    refine zw_iload_n (pc := 71) (n := 2) (i := 2) 2 (by decide +kernel) rfl rfl ?_
    refine zw_imul (pc := 72) (by decide +kernel) ?_
    refine zw_aload_n (pc := 73) (n := 1) (i := 1) 1 (by decide +kernel) rfl rfl ?_
    refine zx_getI (pc := 74) zf_7_51 (by decide +kernel) rfl h_v1 ?_
    refine zw_aload_n (pc := 77) (n := 0) (i := 0) 0 (by decide +kernel) rfl rfl ?_
    refine zx_getR (pc := 78) (o := 1) (r := 70) zf_7_9 (by decide +kernel) rfl zc_69 rfl (by decide) rfl ?_
    refine zx_callV (pc := 81) (As := [.int (zJ ((μ v1 1) * v2)), .int (zJ (μ v1 2)), .ref 70]) h zi_X6_become zii_X6_become zie_X6_become zl_7_30 (by decide +kernel) ⟨Nat.le_of_ble_eq_true rfl, Nat.le_of_ble_eq_true rfl⟩ rfl h_v3 (by decide) rfl rfl ⟨rfl, rfl⟩ ⟨Nat.zero_le _, Nat.zero_le _⟩ (zkv (fun μ3 h => ?_))
    exact zw_vret (pc := 84) (by decide +kernel) rfl (Nat.le_refl _) (Nat.le_refl _) ⟨_, rfl, rfl, h⟩
  · replace h := h.2 hc
    refine zw_aload_n (pc := 24) (n := 0) (i := 0) 0 (by decide +kernel) rfl rfl ?_
    refine zx_getR (pc := 25) (o := 1) (r := 70) zf_7_9 (by decide +kernel) rfl zc_69 rfl (by decide) rfl ?_
    refine zw_aload_n (pc := 28) (n := 1) (i := 1) 1 (by decide +kernel) rfl rfl ?_
    have q4 : zS (v1 + 1) 12 80 := zq 0 h_v1 rfl
    refine zx_getR (pc := 29) (o := 1) (r := (v1 + 1)) zf_7_54 (by decide +kernel) rfl h_v1 rfl (by decide) rfl ?_
    refine zw_aload_n (pc := 32) (n := 0) (i := 0) 0 (by decide +kernel) rfl rfl ?_
    refine zx_getR (pc := 33) (o := 2) (r := 71) zf_7_15 (by decide +kernel) rfl zc_69 rfl (by decide) rfl ?_
    refine zw_aload_n (pc := 36) (n := 1) (i := 1) 1 (by decide +kernel) rfl rfl ?_
    refine zx_getI (pc := 37) zf_7_51 (by decide +kernel) rfl h_v1 ?_
    refine zw_iload (pc := 40) (i := 4) 4 (by decide +kernel) rfl ?_
    refine zx_callSN (pc := 42) (As := [.ref 70, .ref (v1 + 1), .ref 71, .int (zJ (μ v1 2)), .int (zJ v4)]) h zi_X10_multiply zis_X10_multiply zn_7_57 (by decide +kernel) ⟨Nat.le_of_ble_eq_true rfl, Nat.le_of_ble_eq_true rfl⟩ rfl rfl ⟨rfl, rfl⟩ ⟨Nat.zero_le _, Nat.zero_le _⟩ (zkv (fun μ5 h => ?_))
    obtain ⟨o6, h⟩ := h
    refine zw_aload_n (pc := 45) (n := 0) (i := 0) 0 (by decide +kernel) rfl rfl ?_
    refine zx_getR (pc := 46) (o := 2) (r := 71) zf_7_15 (by decide +kernel) rfl zc_69 rfl (by decide) rfl ?_
    refine zw_iconst (pc := 49) (n := 0) (by decide +kernel) ?_
    refine zw_aload_n (pc := 50) (n := 0) (i := 0) 0 (by decide +kernel) rfl rfl ?_
    refine zx_getR (pc := 51) (o := 1) (r := 70) zf_7_9 (by decide +kernel) rfl zc_69 rfl (by decide) rfl ?_
    refine zw_iconst (pc := 54) (n := 0) (by decide +kernel) ?_
    refine zw_bipush (pc := 55) (n := 80) (by decide +kernel) (by decide +kernel) ?_
    refine zx_copy (pc := 57) zl_7_71 zb_cpN zb_cpS zb_cpI (by decide +kernel) ⟨Nat.le_of_ble_eq_true rfl, by decide +kernel⟩ rfl ⟨80, 80, zc_71, zc_70, o6⟩ ?_
    refine zw_iinc (pc := 60) (i := 5) (n := 1) (lv' := [(0, .ref 69), (1, .ref v1), (2, .int (zJ v2)), (3, .ref v3), (4, .int (zJ v4)), (5, .int (zJ (v5 + 1)))]) 5 (by decide +kernel) rfl rfl (Nat.le_of_ble_eq_true rfl) rfl ?_
    refine zw_goto (pc := 63) (off := (-45)) (tgt := 18) (by decide +kernel) (by decide) ?_
    exact h
abbrev at_X0_startAnew_15 (g : zG) (φ : zMu → Prop) (c : Nat) (v2 : Int) (μ : zMu) : Prop := zWP g zm_X0_startAnew (zmo g zm_X0_startAnew (zΦv φ)) 15 [(0, .ref c), (2, .int (zJ v2))] [] 0 0 (zw μ)
theorem sg_X0_startAnew {g : zG} {φ : zMu → Prop} {c : Nat} {v1 : Int} {μ : zMu} (h_c : zS c 0 5)
    (h : at_X0_startAnew_15 g φ c 0 (zup (zup μ c 0 v1) (c + 2) 1 0)) : zOv g zm_X0_startAnew [.ref c, .int (zJ v1)] μ φ := by
  refine zok_of (by decide +kernel) rfl ?_
  show zWP g zm_X0_startAnew (zmo g zm_X0_startAnew (zΦv φ)) 0 [(0, .ref c), (1, .int (zJ v1))] [] 0 0 (zw μ)
  refine zw_aload_n (pc := 0) (n := 0) (i := 0) 0 (by decide +kernel) rfl rfl ?_
  refine zw_iload_n (pc := 1) (n := 1) (i := 1) 1 (by decide +kernel) rfl rfl ?_
  refine zx_putI (pc := 2) zf_0_9 (by decide +kernel) rfl h_c ?_
  refine zw_aload_n (pc := 5) (n := 0) (i := 0) 0 (by decide +kernel) rfl rfl ?_
  have q1 : zS (c + 2) 3 2 := zq 1 h_c rfl
  refine zx_getR (pc := 6) (o := 2) (r := (c + 2)) zf_0_24 (by decide +kernel) rfl h_c rfl (by decide) rfl ?_
  refine zw_iconst (pc := 9) (n := 0) (by decide +kernel) ?_
  refine zx_putI (pc := 10) zf_0_37 (by decide +kernel) rfl q1 ?_
  refine zw_iconst (pc := 13) (n := 0) (by decide +kernel) ?_
  refine zw_istore_n (pc := 14) (n := 2) (i := 2) (lv' := [(0, .ref c), (1, .int (zJ v1)), (2, .int (zJ 0))]) (by decide +kernel) rfl (Nat.le_of_ble_eq_true rfl) rfl ?_
  exact zw_pick (lv' := [(0, .ref c), (2, .int (zJ 0))]) [0, 2] rfl h
theorem sg_X0_startAnew_15 {g : zG} {φ : zMu → Prop} {c : Nat} {v2 : Int} {μ : zMu} (h_c : zS c 0 5)
    (h : (zR v2) ∧ ((6 ≤ v2 → φ μ) ∧ (v2 < 6 → (0 ≤ v2 ∧ v2 < 6) ∧ at_X0_startAnew_15 g φ c (v2 + 1) (zup μ (c + 6 + 2 * v2.toNat) 2 0)))) : at_X0_startAnew_15 g φ c v2 μ := by
  obtain ⟨o1, h⟩ := h
  refine zw_iload_n (pc := 15) (n := 2) (i := 2) 1 (by decide +kernel) rfl rfl ?_
  refine zw_bipush (pc := 16) (n := 6) (by decide +kernel) (by decide +kernel) ?_
  refine zw_icmp_ge (pc := 18) (off := 19) (tgt := 37) (by decide +kernel) (by decide) o1 ⟨by decide, by decide⟩ (fun hc => ?_) (fun hc => ?_)
  · replace h := h.1 hc
    exact zw_vret (pc := 37) (by decide +kernel) rfl (Nat.le_refl _) (Nat.le_refl _) ⟨_, rfl, rfl, h⟩
  · replace h := h.2 hc
    obtain ⟨o3, h⟩ := h
    refine zw_aload_n (pc := 21) (n := 0) (i := 0) 0 (by decide +kernel) rfl rfl ?_
    have q2 : zS (c + 1) 14 6 := zq 0 h_c rfl
    refine zx_getR (pc := 22) (o := 1) (r := (c + 1)) zf_0_17 (by decide +kernel) rfl h_c rfl (by decide) rfl ?_
    refine zw_iload_n (pc := 25) (n := 2) (i := 2) 1 (by decide +kernel) rfl rfl ?_
    have q4 : zS (c + 6 + 2 * v2.toNat) 6 3 := zS_cast (zqe_14 (j := v2.toNat) q2 (by omega)) (by show (c + 1) + 5 + 2 * v2.toNat = (c + 6 + 2 * v2.toNat); omega)
    refine zx_aaload (pc := 26) (k := 14) (r := (c + 6 + 2 * v2.toNat)) (by decide +kernel) (by decide) ⟨6, q2, o3.1, o3.2⟩ (by show (c + 1) + 5 + 2 * v2.toNat = (c + 6 + 2 * v2.toNat); omega) ?_
    refine zw_iconst (pc := 27) (n := 0) (by decide +kernel) ?_
    refine zx_putI (pc := 28) zf_0_40 (by decide +kernel) rfl q4 ?_
    refine zw_iinc (pc := 31) (i := 2) (n := 1) (lv' := [(0, .ref c), (2, .int (zJ (v2 + 1)))]) 1 (by decide +kernel) rfl rfl (Nat.le_of_ble_eq_true rfl) rfl ?_
    refine zw_goto (pc := 34) (off := (-19)) (tgt := 15) (by decide +kernel) (by decide) ?_
    exact h
abbrev at_X0_placeOf_2 (g : zG) (φ : Int → zMu → Prop) (c : Nat) (v1 : Int) (v2 : Int) (μ : zMu) : Prop := zWP g zm_X0_placeOf (zmo g zm_X0_placeOf (zΦi φ)) 2 [(0, .ref c), (1, .int (zJ v1)), (2, .int (zJ v2))] [] 0 0 (zw μ)
theorem sg_X0_placeOf {g : zG} {φ : Int → zMu → Prop} {c : Nat} {v1 : Int} {μ : zMu} (h_c : zS c 0 5)
    (h : at_X0_placeOf_2 g φ c v1 0 μ) : zOi g zm_X0_placeOf [.ref c, .int (zJ v1)] μ φ := by
  refine zok_of (by decide +kernel) rfl ?_
  show zWP g zm_X0_placeOf (zmo g zm_X0_placeOf (zΦi φ)) 0 [(0, .ref c), (1, .int (zJ v1))] [] 0 0 (zw μ)
  refine zw_iconst (pc := 0) (n := 0) (by decide +kernel) ?_
  refine zw_istore_n (pc := 1) (n := 2) (i := 2) (lv' := [(0, .ref c), (1, .int (zJ v1)), (2, .int (zJ 0))]) (by decide +kernel) rfl (Nat.le_of_ble_eq_true rfl) rfl ?_
  exact h
theorem sg_X0_placeOf_2 {g : zG} {φ : Int → zMu → Prop} {c : Nat} {v1 : Int} {v2 : Int} {μ : zMu} (h_c : zS c 0 5)
    (h : (zR v2) ∧ ((8 ≤ v2 → φ (-1) μ) ∧ (v2 < 8 → (0 ≤ v2 ∧ v2 < 8) ∧ zOi g zm_X3_isMissing [.ref (c + 18 + 2 * v2.toNat)] μ (fun x6 μ5 => (zR x6) ∧ ((¬ x6 = 0 → at_X0_placeOf_2 g φ c v1 (v2 + 1) μ5) ∧ (x6 = 0 → (zR (μ5 (c + 5) v2.toNat)) ∧ (zR v1) ∧ ((¬ (μ5 (c + 5) v2.toNat) = v1 → at_X0_placeOf_2 g φ c v1 (v2 + 1) μ5) ∧ ((μ5 (c + 5) v2.toNat) = v1 → φ v2 μ5)))))))) : at_X0_placeOf_2 g φ c v1 v2 μ := by
  obtain ⟨o1, h⟩ := h
  refine zw_iload_n (pc := 2) (n := 2) (i := 2) 2 (by decide +kernel) rfl rfl ?_
  refine zw_bipush (pc := 3) (n := 8) (by decide +kernel) (by decide +kernel) ?_
  refine zw_icmp_ge (pc := 5) (off := 33) (tgt := 38) (by decide +kernel) (by decide) o1 ⟨by decide, by decide⟩ (fun hc => ?_) (fun hc => ?_)
  · replace h := h.1 hc
    refine zw_iconst (pc := 38) (n := (-1)) (by decide +kernel) ?_
    exact zw_iret (pc := 39) (by decide +kernel) rfl (Nat.le_refl _) (Nat.le_refl _) ⟨_, _, rfl, rfl, h⟩
  · replace h := h.2 hc
    obtain ⟨o3, h⟩ := h
    refine zw_aload_n (pc := 8) (n := 0) (i := 0) 0 (by decide +kernel) rfl rfl ?_
    have q2 : zS (c + 4) 13 8 := zq 2 h_c rfl
    refine zx_getR (pc := 9) (o := 4) (r := (c + 4)) zf_0_28 (by decide +kernel) rfl h_c rfl (by decide) rfl ?_
    refine zw_iload_n (pc := 12) (n := 2) (i := 2) 2 (by decide +kernel) rfl rfl ?_
    have q4 : zS (c + 18 + 2 * v2.toNat) 3 2 := zS_cast (zqe_13 (j := v2.toNat) q2 (by omega)) (by show (c + 4) + 14 + 2 * v2.toNat = (c + 18 + 2 * v2.toNat); omega)
    refine zx_aaload (pc := 13) (k := 13) (r := (c + 18 + 2 * v2.toNat)) (by decide +kernel) (by decide) ⟨8, q2, o3.1, o3.2⟩ (by show (c + 4) + 14 + 2 * v2.toNat = (c + 18 + 2 * v2.toNat); omega) ?_
    refine zx_callV (pc := 14) (As := []) h zi_X3_isMissing zii_X3_isMissing zie_X3_isMissing zl_0_54 (by decide +kernel) ⟨Nat.le_of_ble_eq_true rfl, Nat.le_of_ble_eq_true rfl⟩ rfl q4 (by decide) rfl rfl ⟨rfl, rfl⟩ ⟨Nat.zero_le _, Nat.zero_le _⟩ (zki (fun x6 μ5 h => ?_))
    obtain ⟨o7, h⟩ := h
    refine zw_if_ne (pc := 17) (off := 15) (tgt := 32) (by decide +kernel) (by decide) o7 (fun hc => ?_) (fun hc => ?_)
    · replace h := h.1 hc
      refine zw_iinc (pc := 32) (i := 2) (n := 1) (lv' := [(0, .ref c), (1, .int (zJ v1)), (2, .int (zJ (v2 + 1)))]) 2 (by decide +kernel) rfl rfl (Nat.le_of_ble_eq_true rfl) rfl ?_
      refine zw_goto (pc := 35) (off := (-33)) (tgt := 2) (by decide +kernel) (by decide) ?_
      exact h
    · replace h := h.2 hc
      obtain ⟨o9, o10, h⟩ := h
      refine zw_aload_n (pc := 20) (n := 0) (i := 0) 0 (by decide +kernel) rfl rfl ?_
      have q8 : zS (c + 5) 12 8 := zq 3 h_c rfl
      refine zx_getR (pc := 21) (o := 5) (r := (c + 5)) zf_0_32 (by decide +kernel) rfl h_c rfl (by decide) rfl ?_
      refine zw_iload_n (pc := 24) (n := 2) (i := 2) 2 (by decide +kernel) rfl rfl ?_
      refine zx_iaload (pc := 25) (by decide +kernel) ⟨8, q8, o3.1, o3.2⟩ ?_
      refine zw_iload_n (pc := 26) (n := 1) (i := 1) 1 (by decide +kernel) rfl rfl ?_
      refine zw_icmp_ne (pc := 27) (off := 5) (tgt := 32) (by decide +kernel) (by decide) o9 o10 (fun hc => ?_) (fun hc => ?_)
      · replace h := h.1 hc
        refine zw_iinc (pc := 32) (i := 2) (n := 1) (lv' := [(0, .ref c), (1, .int (zJ v1)), (2, .int (zJ (v2 + 1)))]) 2 (by decide +kernel) rfl rfl (Nat.le_of_ble_eq_true rfl) rfl ?_
        refine zw_goto (pc := 35) (off := (-33)) (tgt := 2) (by decide +kernel) (by decide) ?_
        exact h
      · replace h := h.2 hc
        refine zw_iload_n (pc := 30) (n := 2) (i := 2) 2 (by decide +kernel) rfl rfl ?_
        exact zw_iret (pc := 31) (by decide +kernel) rfl (Nat.le_refl _) (Nat.le_refl _) ⟨_, _, rfl, rfl, h⟩
abbrev at_X0_keptCount_4 (g : zG) (φ : Int → zMu → Prop) (c : Nat) (v1 : Int) (v2 : Int) (μ : zMu) : Prop := zWP g zm_X0_keptCount (zmo g zm_X0_keptCount (zΦi φ)) 4 [(0, .ref c), (1, .int (zJ v1)), (2, .int (zJ v2))] [] 0 0 (zw μ)
theorem sg_X0_keptCount {g : zG} {φ : Int → zMu → Prop} {c : Nat} {μ : zMu} (h_c : zS c 0 5)
    (h : at_X0_keptCount_4 g φ c 0 0 μ) : zOi g zm_X0_keptCount [.ref c] μ φ := by
  refine zok_of (by decide +kernel) rfl ?_
  show zWP g zm_X0_keptCount (zmo g zm_X0_keptCount (zΦi φ)) 0 [(0, .ref c)] [] 0 0 (zw μ)
  refine zw_iconst (pc := 0) (n := 0) (by decide +kernel) ?_
  refine zw_istore_n (pc := 1) (n := 1) (i := 1) (lv' := [(0, .ref c), (1, .int (zJ 0))]) (by decide +kernel) rfl (Nat.le_of_ble_eq_true rfl) rfl ?_
  refine zw_iconst (pc := 2) (n := 0) (by decide +kernel) ?_
  refine zw_istore_n (pc := 3) (n := 2) (i := 2) (lv' := [(0, .ref c), (1, .int (zJ 0)), (2, .int (zJ 0))]) (by decide +kernel) rfl (Nat.le_of_ble_eq_true rfl) rfl ?_
  exact h
theorem sg_X0_keptCount_4 {g : zG} {φ : Int → zMu → Prop} {c : Nat} {v1 : Int} {v2 : Int} {μ : zMu} (h_c : zS c 0 5)
    (h : (zR v2) ∧ ((8 ≤ v2 → φ v1 μ) ∧ (v2 < 8 → (0 ≤ v2 ∧ v2 < 8) ∧ zOi g zm_X3_isMissing [.ref (c + 18 + 2 * v2.toNat)] μ (fun x6 μ5 => (zR x6) ∧ ((¬ x6 = 0 → at_X0_keptCount_4 g φ c v1 (v2 + 1) μ5) ∧ (x6 = 0 → at_X0_keptCount_4 g φ c (v1 + 1) (v2 + 1) μ5)))))) : at_X0_keptCount_4 g φ c v1 v2 μ := by
  obtain ⟨o1, h⟩ := h
  refine zw_iload_n (pc := 4) (n := 2) (i := 2) 2 (by decide +kernel) rfl rfl ?_
  refine zw_bipush (pc := 5) (n := 8) (by decide +kernel) (by decide +kernel) ?_
  refine zw_icmp_ge (pc := 7) (off := 24) (tgt := 31) (by decide +kernel) (by decide) o1 ⟨by decide, by decide⟩ (fun hc => ?_) (fun hc => ?_)
  · replace h := h.1 hc
    refine zw_iload_n (pc := 31) (n := 1) (i := 1) 1 (by decide +kernel) rfl rfl ?_
    exact zw_iret (pc := 32) (by decide +kernel) rfl (Nat.le_refl _) (Nat.le_refl _) ⟨_, _, rfl, rfl, h⟩
  · replace h := h.2 hc
    obtain ⟨o3, h⟩ := h
    refine zw_aload_n (pc := 10) (n := 0) (i := 0) 0 (by decide +kernel) rfl rfl ?_
    have q2 : zS (c + 4) 13 8 := zq 2 h_c rfl
    refine zx_getR (pc := 11) (o := 4) (r := (c + 4)) zf_0_28 (by decide +kernel) rfl h_c rfl (by decide) rfl ?_
    refine zw_iload_n (pc := 14) (n := 2) (i := 2) 2 (by decide +kernel) rfl rfl ?_
    have q4 : zS (c + 18 + 2 * v2.toNat) 3 2 := zS_cast (zqe_13 (j := v2.toNat) q2 (by omega)) (by show (c + 4) + 14 + 2 * v2.toNat = (c + 18 + 2 * v2.toNat); omega)
    refine zx_aaload (pc := 15) (k := 13) (r := (c + 18 + 2 * v2.toNat)) (by decide +kernel) (by decide) ⟨8, q2, o3.1, o3.2⟩ (by show (c + 4) + 14 + 2 * v2.toNat = (c + 18 + 2 * v2.toNat); omega) ?_
    refine zx_callV (pc := 16) (As := []) h zi_X3_isMissing zii_X3_isMissing zie_X3_isMissing zl_0_54 (by decide +kernel) ⟨Nat.le_of_ble_eq_true rfl, Nat.le_of_ble_eq_true rfl⟩ rfl q4 (by decide) rfl rfl ⟨rfl, rfl⟩ ⟨Nat.zero_le _, Nat.zero_le _⟩ (zki (fun x6 μ5 h => ?_))
    obtain ⟨o7, h⟩ := h
    refine zw_if_ne (pc := 19) (off := 6) (tgt := 25) (by decide +kernel) (by decide) o7 (fun hc => ?_) (fun hc => ?_)
    · replace h := h.1 hc
      refine zw_iinc (pc := 25) (i := 2) (n := 1) (lv' := [(0, .ref c), (1, .int (zJ v1)), (2, .int (zJ (v2 + 1)))]) 2 (by decide +kernel) rfl rfl (Nat.le_of_ble_eq_true rfl) rfl ?_
      refine zw_goto (pc := 28) (off := (-24)) (tgt := 4) (by decide +kernel) (by decide) ?_
      exact h
    · replace h := h.2 hc
      refine zw_iinc (pc := 22) (i := 1) (n := 1) (lv' := [(0, .ref c), (1, .int (zJ (v1 + 1))), (2, .int (zJ v2))]) 1 (by decide +kernel) rfl rfl (Nat.le_of_ble_eq_true rfl) rfl ?_
      refine zw_iinc (pc := 25) (i := 2) (n := 1) (lv' := [(0, .ref c), (1, .int (zJ (v1 + 1))), (2, .int (zJ (v2 + 1)))]) 2 (by decide +kernel) rfl rfl (Nat.le_of_ble_eq_true rfl) rfl ?_
      refine zw_goto (pc := 28) (off := (-24)) (tgt := 4) (by decide +kernel) (by decide) ?_
      exact h
abbrev at_X0_commonDegree_4 (g : zG) (φ : Int → zMu → Prop) (c : Nat) (v1 : Int) (v2 : Int) (μ : zMu) : Prop := zWP g zm_X0_commonDegree (zmo g zm_X0_commonDegree (zΦi φ)) 4 [(0, .ref c), (1, .int (zJ v1)), (2, .int (zJ v2))] [] 0 0 (zw μ)
theorem sg_X0_commonDegree {g : zG} {φ : Int → zMu → Prop} {c : Nat} {μ : zMu} (h_c : zS c 0 5)
    (h : at_X0_commonDegree_4 g φ c 0 0 μ) : zOi g zm_X0_commonDegree [.ref c] μ φ := by
  refine zok_of (by decide +kernel) rfl ?_
  show zWP g zm_X0_commonDegree (zmo g zm_X0_commonDegree (zΦi φ)) 0 [(0, .ref c)] [] 0 0 (zw μ)
  refine zw_iconst (pc := 0) (n := 0) (by decide +kernel) ?_
  refine zw_istore_n (pc := 1) (n := 1) (i := 1) (lv' := [(0, .ref c), (1, .int (zJ 0))]) (by decide +kernel) rfl (Nat.le_of_ble_eq_true rfl) rfl ?_
  refine zw_iconst (pc := 2) (n := 0) (by decide +kernel) ?_
  refine zw_istore_n (pc := 3) (n := 2) (i := 2) (lv' := [(0, .ref c), (1, .int (zJ 0)), (2, .int (zJ 0))]) (by decide +kernel) rfl (Nat.le_of_ble_eq_true rfl) rfl ?_
  exact h
theorem sg_X0_commonDegree_4 {g : zG} {φ : Int → zMu → Prop} {c : Nat} {v1 : Int} {v2 : Int} {μ : zMu} (h_c : zS c 0 5)
    (h : (zR v2) ∧ ((8 ≤ v2 → φ v1 μ) ∧ (v2 < 8 → (0 ≤ v2 ∧ v2 < 8) ∧ zOi g zm_X3_isMissing [.ref (c + 18 + 2 * v2.toNat)] μ (fun x6 μ5 => (zR x6) ∧ ((¬ x6 = 0 → at_X0_commonDegree_4 g φ c v1 (v2 + 1) μ5) ∧ (x6 = 0 → (zR v1) ∧ ((v1 = 0 → at_X0_commonDegree_4 g φ c (μ5 (c + 18 + 2 * v2.toNat) 1) (v2 + 1) μ5) ∧ (¬ v1 = 0 → (zR (μ5 (c + 18 + 2 * v2.toNat) 1)) ∧ (((μ5 (c + 18 + 2 * v2.toNat) 1) = v1 → at_X0_commonDegree_4 g φ c (μ5 (c + 18 + 2 * v2.toNat) 1) (v2 + 1) μ5) ∧ (¬ (μ5 (c + 18 + 2 * v2.toNat) 1) = v1 → φ 0 μ5)))))))))) : at_X0_commonDegree_4 g φ c v1 v2 μ := by
  obtain ⟨o1, h⟩ := h
  refine zw_iload_n (pc := 4) (n := 2) (i := 2) 2 (by decide +kernel) rfl rfl ?_
  refine zw_bipush (pc := 5) (n := 8) (by decide +kernel) (by decide +kernel) ?_
  refine zw_icmp_ge (pc := 7) (off := 50) (tgt := 57) (by decide +kernel) (by decide) o1 ⟨by decide, by decide⟩ (fun hc => ?_) (fun hc => ?_)
  · replace h := h.1 hc
    refine zw_iload_n (pc := 57) (n := 1) (i := 1) 1 (by decide +kernel) rfl rfl ?_
    exact zw_iret (pc := 58) (by decide +kernel) rfl (Nat.le_refl _) (Nat.le_refl _) ⟨_, _, rfl, rfl, h⟩
  · replace h := h.2 hc
    obtain ⟨o3, h⟩ := h
    refine zw_aload_n (pc := 10) (n := 0) (i := 0) 0 (by decide +kernel) rfl rfl ?_
    have q2 : zS (c + 4) 13 8 := zq 2 h_c rfl
    refine zx_getR (pc := 11) (o := 4) (r := (c + 4)) zf_0_28 (by decide +kernel) rfl h_c rfl (by decide) rfl ?_
    refine zw_iload_n (pc := 14) (n := 2) (i := 2) 2 (by decide +kernel) rfl rfl ?_
    have q4 : zS (c + 18 + 2 * v2.toNat) 3 2 := zS_cast (zqe_13 (j := v2.toNat) q2 (by omega)) (by show (c + 4) + 14 + 2 * v2.toNat = (c + 18 + 2 * v2.toNat); omega)
    refine zx_aaload (pc := 15) (k := 13) (r := (c + 18 + 2 * v2.toNat)) (by decide +kernel) (by decide) ⟨8, q2, o3.1, o3.2⟩ (by show (c + 4) + 14 + 2 * v2.toNat = (c + 18 + 2 * v2.toNat); omega) ?_
    refine zx_callV (pc := 16) (As := []) h zi_X3_isMissing zii_X3_isMissing zie_X3_isMissing zl_0_54 (by decide +kernel) ⟨Nat.le_of_ble_eq_true rfl, Nat.le_of_ble_eq_true rfl⟩ rfl q4 (by decide) rfl rfl ⟨rfl, rfl⟩ ⟨Nat.zero_le _, Nat.zero_le _⟩ (zki (fun x6 μ5 h => ?_))
    obtain ⟨o7, h⟩ := h
    refine zw_if_ne (pc := 19) (off := 32) (tgt := 51) (by decide +kernel) (by decide) o7 (fun hc => ?_) (fun hc => ?_)
    · replace h := h.1 hc
      refine zw_iinc (pc := 51) (i := 2) (n := 1) (lv' := [(0, .ref c), (1, .int (zJ v1)), (2, .int (zJ (v2 + 1)))]) 2 (by decide +kernel) rfl rfl (Nat.le_of_ble_eq_true rfl) rfl ?_
      refine zw_goto (pc := 54) (off := (-50)) (tgt := 4) (by decide +kernel) (by decide) ?_
      exact h
    · replace h := h.2 hc
      obtain ⟨o8, h⟩ := h
      refine zw_iload_n (pc := 22) (n := 1) (i := 1) 1 (by decide +kernel) rfl rfl ?_
      refine zw_if_eq (pc := 23) (off := 18) (tgt := 41) (by decide +kernel) (by decide) o8 (fun hc => ?_) (fun hc => ?_)
      · replace h := h.1 hc
        refine zw_aload_n (pc := 41) (n := 0) (i := 0) 0 (by decide +kernel) rfl rfl ?_
        have q9 : zS (c + 4) 13 8 := zq 2 h_c rfl
        refine zx_getR (pc := 42) (o := 4) (r := (c + 4)) zf_0_28 (by decide +kernel) rfl h_c rfl (by decide) rfl ?_
        refine zw_iload_n (pc := 45) (n := 2) (i := 2) 2 (by decide +kernel) rfl rfl ?_
        have q10 : zS (c + 18 + 2 * v2.toNat) 3 2 := zS_cast (zqe_13 (j := v2.toNat) q9 (by omega)) (by show (c + 4) + 14 + 2 * v2.toNat = (c + 18 + 2 * v2.toNat); omega)
        refine zx_aaload (pc := 46) (k := 13) (r := (c + 18 + 2 * v2.toNat)) (by decide +kernel) (by decide) ⟨8, q9, o3.1, o3.2⟩ (by show (c + 4) + 14 + 2 * v2.toNat = (c + 18 + 2 * v2.toNat); omega) ?_
        refine zx_getI (pc := 47) zf_0_37 (by decide +kernel) rfl q10 ?_
        refine zw_istore_n (pc := 50) (n := 1) (i := 1) (lv' := [(0, .ref c), (1, .int (zJ (μ5 (c + 18 + 2 * v2.toNat) 1))), (2, .int (zJ v2))]) (by decide +kernel) rfl (Nat.le_of_ble_eq_true rfl) rfl ?_
        refine zw_iinc (pc := 51) (i := 2) (n := 1) (lv' := [(0, .ref c), (1, .int (zJ (μ5 (c + 18 + 2 * v2.toNat) 1))), (2, .int (zJ (v2 + 1)))]) 2 (by decide +kernel) rfl rfl (Nat.le_of_ble_eq_true rfl) rfl ?_
        refine zw_goto (pc := 54) (off := (-50)) (tgt := 4) (by decide +kernel) (by decide) ?_
        exact h
      · replace h := h.2 hc
        obtain ⟨o13, h⟩ := h
        refine zw_aload_n (pc := 26) (n := 0) (i := 0) 0 (by decide +kernel) rfl rfl ?_
        have q11 : zS (c + 4) 13 8 := zq 2 h_c rfl
        refine zx_getR (pc := 27) (o := 4) (r := (c + 4)) zf_0_28 (by decide +kernel) rfl h_c rfl (by decide) rfl ?_
        refine zw_iload_n (pc := 30) (n := 2) (i := 2) 2 (by decide +kernel) rfl rfl ?_
        have q12 : zS (c + 18 + 2 * v2.toNat) 3 2 := zS_cast (zqe_13 (j := v2.toNat) q11 (by omega)) (by show (c + 4) + 14 + 2 * v2.toNat = (c + 18 + 2 * v2.toNat); omega)
        refine zx_aaload (pc := 31) (k := 13) (r := (c + 18 + 2 * v2.toNat)) (by decide +kernel) (by decide) ⟨8, q11, o3.1, o3.2⟩ (by show (c + 4) + 14 + 2 * v2.toNat = (c + 18 + 2 * v2.toNat); omega) ?_
        refine zx_getI (pc := 32) zf_0_37 (by decide +kernel) rfl q12 ?_
        refine zw_iload_n (pc := 35) (n := 1) (i := 1) 1 (by decide +kernel) rfl rfl ?_
        refine zw_icmp_eq (pc := 36) (off := 5) (tgt := 41) (by decide +kernel) (by decide) o13 o8 (fun hc => ?_) (fun hc => ?_)
        · replace h := h.1 hc
          refine zw_aload_n (pc := 41) (n := 0) (i := 0) 0 (by decide +kernel) rfl rfl ?_
          have q14 : zS (c + 4) 13 8 := zq 2 h_c rfl
          refine zx_getR (pc := 42) (o := 4) (r := (c + 4)) zf_0_28 (by decide +kernel) rfl h_c rfl (by decide) rfl ?_
          refine zw_iload_n (pc := 45) (n := 2) (i := 2) 2 (by decide +kernel) rfl rfl ?_
          have q15 : zS (c + 18 + 2 * v2.toNat) 3 2 := zS_cast (zqe_13 (j := v2.toNat) q14 (by omega)) (by show (c + 4) + 14 + 2 * v2.toNat = (c + 18 + 2 * v2.toNat); omega)
          refine zx_aaload (pc := 46) (k := 13) (r := (c + 18 + 2 * v2.toNat)) (by decide +kernel) (by decide) ⟨8, q14, o3.1, o3.2⟩ (by show (c + 4) + 14 + 2 * v2.toNat = (c + 18 + 2 * v2.toNat); omega) ?_
          refine zx_getI (pc := 47) zf_0_37 (by decide +kernel) rfl q15 ?_
          refine zw_istore_n (pc := 50) (n := 1) (i := 1) (lv' := [(0, .ref c), (1, .int (zJ (μ5 (c + 18 + 2 * v2.toNat) 1))), (2, .int (zJ v2))]) (by decide +kernel) rfl (Nat.le_of_ble_eq_true rfl) rfl ?_
          refine zw_iinc (pc := 51) (i := 2) (n := 1) (lv' := [(0, .ref c), (1, .int (zJ (μ5 (c + 18 + 2 * v2.toNat) 1))), (2, .int (zJ (v2 + 1)))]) 2 (by decide +kernel) rfl rfl (Nat.le_of_ble_eq_true rfl) rfl ?_
          refine zw_goto (pc := 54) (off := (-50)) (tgt := 4) (by decide +kernel) (by decide) ?_
          exact h
        · replace h := h.2 hc
          refine zw_iconst (pc := 39) (n := 0) (by decide +kernel) ?_
          exact zw_iret (pc := 40) (by decide +kernel) rfl (Nat.le_refl _) (Nat.le_refl _) ⟨_, _, rfl, rfl, h⟩
abbrev at_X0_joinAt_8 (g : zG) (φ : Int → zMu → Prop) (c : Nat) (v1 : Int) (v2 : Int) (v4 : Int) (v6 : Int) (μ : zMu) : Prop := zWP g zm_X0_joinAt (zmo g zm_X0_joinAt (zΦl φ)) 8 [(0, .ref c), (1, .int (zJ v1)), (2, .long (zL v2)), (4, .long (zL v4)), (6, .int (zJ v6))] [] 0 0 (zw μ)
theorem sg_X0_joinAt {g : zG} {φ : Int → zMu → Prop} {c : Nat} {v1 : Int} {μ : zMu} (h_c : zS c 0 5)
    (h : at_X0_joinAt_8 g φ c v1 1 0 0 μ) : zOl g zm_X0_joinAt [.ref c, .int (zJ v1)] μ φ := by
  refine zok_of (by decide +kernel) rfl ?_
  show zWP g zm_X0_joinAt (zmo g zm_X0_joinAt (zΦl φ)) 0 [(0, .ref c), (1, .int (zJ v1))] [] 0 0 (zw μ)
  refine zw_lconst (pc := 0) (n := 1) (v := 1) (by decide +kernel) rfl ?_
  refine zw_lstore_n (pc := 1) (n := 2) (i := 2) (lv' := [(0, .ref c), (1, .int (zJ v1)), (2, .long (zL 1))]) (by decide +kernel) rfl (Nat.le_of_ble_eq_true rfl) rfl ?_
  refine zw_lconst (pc := 2) (n := 0) (v := 0) (by decide +kernel) rfl ?_
  refine zw_lstore (pc := 3) (i := 4) (lv' := [(0, .ref c), (1, .int (zJ v1)), (2, .long (zL 1)), (4, .long (zL 0))]) (by decide +kernel) (Nat.le_of_ble_eq_true rfl) rfl ?_
  refine zw_iconst (pc := 5) (n := 0) (by decide +kernel) ?_
  refine zw_istore (pc := 6) (i := 6) (lv' := [(0, .ref c), (1, .int (zJ v1)), (2, .long (zL 1)), (4, .long (zL 0)), (6, .int (zJ 0))]) (by decide +kernel) (Nat.le_of_ble_eq_true rfl) rfl ?_
  exact h
theorem sg_X0_joinAt_8 {g : zG} {φ : Int → zMu → Prop} {c : Nat} {v1 : Int} {v2 : Int} {v4 : Int} {v6 : Int} {μ : zMu} (h_c : zS c 0 5)
    (h : (zR v6) ∧ ((8 ≤ v6 → (zR64 (2 * v4)) ∧ (zR64 v2) ∧ (zR (zcmp (2 * v4) v2)) ∧ (((zcmp (2 * v4) v2) ≤ 0 → φ v4 μ) ∧ (0 < (zcmp (2 * v4) v2) → φ (v4 - v2) μ))) ∧ (v6 < 8 → (0 ≤ v6 ∧ v6 < 8) ∧ zOi g zm_X3_isMissing [.ref (c + 18 + 2 * v6.toNat)] μ (fun x9 μ8 => (zR x9) ∧ ((¬ x9 = 0 → at_X0_joinAt_8 g φ c v1 v2 v4 (v6 + 1) μ8) ∧ (x9 = 0 → (0 ≤ v1 ∧ v1 < 81) ∧ (zR (μ8 (c + 5) v6.toNat)) ∧ (zR64 v4) ∧ (zR64 (μ8 (c + 5) v6.toNat)) ∧ ((μ8 (c + 5) v6.toNat) ≠ 0) ∧ (zR (((μ8 ((c + 18 + 2 * v6.toNat) + 1) v1.toNat) + (μ8 (c + 5) v6.toNat)) - (v4.tmod (μ8 (c + 5) v6.toNat)))) ∧ (zR64 v2) ∧ zOi g zm_X10_inverse [.int (zJ (v2.tmod (μ8 (c + 5) v6.toNat))), .int (zJ (μ8 (c + 5) v6.toNat))] μ8 (fun x23 μ22 => (zR (((((μ8 ((c + 18 + 2 * v6.toNat) + 1) v1.toNat) + (μ8 (c + 5) v6.toNat)) - (v4.tmod (μ8 (c + 5) v6.toNat))).tmod (μ8 (c + 5) v6.toNat)) * x23)) ∧ (zR ((((((μ8 ((c + 18 + 2 * v6.toNat) + 1) v1.toNat) + (μ8 (c + 5) v6.toNat)) - (v4.tmod (μ8 (c + 5) v6.toNat))).tmod (μ8 (c + 5) v6.toNat)) * x23).tmod (μ8 (c + 5) v6.toNat))) ∧ at_X0_joinAt_8 g φ c v1 (v2 * (μ8 (c + 5) v6.toNat)) (v4 + (v2 * ((((((μ8 ((c + 18 + 2 * v6.toNat) + 1) v1.toNat) + (μ8 (c + 5) v6.toNat)) - (v4.tmod (μ8 (c + 5) v6.toNat))).tmod (μ8 (c + 5) v6.toNat)) * x23).tmod (μ8 (c + 5) v6.toNat)))) (v6 + 1) μ22))))))) : at_X0_joinAt_8 g φ c v1 v2 v4 v6 μ := by
  obtain ⟨o1, h⟩ := h
  refine zw_iload (pc := 8) (i := 6) 4 (by decide +kernel) rfl ?_
  refine zw_bipush (pc := 10) (n := 8) (by decide +kernel) (by decide +kernel) ?_
  refine zw_icmp_ge (pc := 12) (off := 94) (tgt := 106) (by decide +kernel) (by decide) o1 ⟨by decide, by decide⟩ (fun hc => ?_) (fun hc => ?_)
  · replace h := h.1 hc
    obtain ⟨o2, o3, o4, h⟩ := h
    refine zw_ldc2 (pc := 106) (v := 2) (by decide +kernel) zk_0_62 ?_
    refine zw_lload (pc := 109) (i := 4) 3 (by decide +kernel) rfl ?_
    refine zw_lmul (pc := 111) (by decide +kernel) ?_
    refine zw_lload_n (pc := 112) (n := 2) (i := 2) 2 (by decide +kernel) rfl rfl ?_
    refine zw_lcmp (pc := 113) (by decide +kernel) o2 o3 ?_
    refine zw_if_le (pc := 114) (off := 10) (tgt := 124) (by decide +kernel) (by decide) o4 (fun hc => ?_) (fun hc => ?_)
    · replace h := h.1 hc
      refine zw_lload (pc := 124) (i := 4) 3 (by decide +kernel) rfl ?_
      exact zw_lret (pc := 126) (by decide +kernel) rfl (Nat.le_refl _) (Nat.le_refl _) ⟨_, _, rfl, rfl, h⟩
    · replace h := h.2 hc
      refine zw_lload (pc := 117) (i := 4) 3 (by decide +kernel) rfl ?_
      refine zw_lload_n (pc := 119) (n := 2) (i := 2) 2 (by decide +kernel) rfl rfl ?_
      refine zw_lsub (pc := 120) (by decide +kernel) ?_
      refine zw_goto (pc := 121) (off := 5) (tgt := 126) (by decide +kernel) (by decide) ?_
      exact zw_lret (pc := 126) (by decide +kernel) rfl (Nat.le_refl _) (Nat.le_refl _) ⟨_, _, rfl, rfl, h⟩
  · replace h := h.2 hc
    obtain ⟨o6, h⟩ := h
    refine zw_aload_n (pc := 15) (n := 0) (i := 0) 0 (by decide +kernel) rfl rfl ?_
    have q5 : zS (c + 4) 13 8 := zq 2 h_c rfl
    refine zx_getR (pc := 16) (o := 4) (r := (c + 4)) zf_0_28 (by decide +kernel) rfl h_c rfl (by decide) rfl ?_
    refine zw_iload (pc := 19) (i := 6) 4 (by decide +kernel) rfl ?_
    have q7 : zS (c + 18 + 2 * v6.toNat) 3 2 := zS_cast (zqe_13 (j := v6.toNat) q5 (by omega)) (by show (c + 4) + 14 + 2 * v6.toNat = (c + 18 + 2 * v6.toNat); omega)
    refine zx_aaload (pc := 21) (k := 13) (r := (c + 18 + 2 * v6.toNat)) (by decide +kernel) (by decide) ⟨8, q5, o6.1, o6.2⟩ (by show (c + 4) + 14 + 2 * v6.toNat = (c + 18 + 2 * v6.toNat); omega) ?_
    refine zx_callV (pc := 22) (As := []) h zi_X3_isMissing zii_X3_isMissing zie_X3_isMissing zl_0_54 (by decide +kernel) ⟨Nat.le_of_ble_eq_true rfl, Nat.le_of_ble_eq_true rfl⟩ rfl q7 (by decide) rfl rfl ⟨rfl, rfl⟩ ⟨Nat.zero_le _, Nat.zero_le _⟩ (zki (fun x9 μ8 h => ?_))
    obtain ⟨o10, h⟩ := h
    refine zw_if_ne (pc := 25) (off := 75) (tgt := 100) (by decide +kernel) (by decide) o10 (fun hc => ?_) (fun hc => ?_)
    · replace h := h.1 hc
      refine zw_iinc (pc := 100) (i := 6) (n := 1) (lv' := [(0, .ref c), (1, .int (zJ v1)), (2, .long (zL v2)), (4, .long (zL v4)), (6, .int (zJ (v6 + 1)))]) 4 (by decide +kernel) rfl rfl (Nat.le_of_ble_eq_true rfl) rfl ?_
      refine zw_goto (pc := 103) (off := (-95)) (tgt := 8) (by decide +kernel) (by decide) ?_
      exact h
    · replace h := h.2 hc
      obtain ⟨o15, o16, o17, o18, o19, o20, o21, h⟩ := h
      refine zw_aload_n (pc := 28) (n := 0) (i := 0) 0 (by decide +kernel) rfl rfl ?_
      have q11 : zS (c + 5) 12 8 := zq 3 h_c rfl
      refine zx_getR (pc := 29) (o := 5) (r := (c + 5)) zf_0_32 (by decide +kernel) rfl h_c rfl (by decide) rfl ?_
      refine zw_iload (pc := 32) (i := 6) 4 (by decide +kernel) rfl ?_
      refine zx_iaload (pc := 34) (by decide +kernel) ⟨8, q11, o6.1, o6.2⟩ ?_
      refine zw_istore (pc := 35) (i := 7) (lv' := [(0, .ref c), (1, .int (zJ v1)), (2, .long (zL v2)), (4, .long (zL v4)), (6, .int (zJ v6)), (7, .int (zJ (μ8 (c + 5) v6.toNat)))]) (by decide +kernel) (Nat.le_of_ble_eq_true rfl) rfl ?_
      refine zw_aload_n (pc := 37) (n := 0) (i := 0) 0 (by decide +kernel) rfl rfl ?_
      have q12 : zS (c + 4) 13 8 := zq 2 h_c rfl
      refine zx_getR (pc := 38) (o := 4) (r := (c + 4)) zf_0_28 (by decide +kernel) rfl h_c rfl (by decide) rfl ?_
      refine zw_iload (pc := 41) (i := 6) 4 (by decide +kernel) rfl ?_
      have q13 : zS (c + 18 + 2 * v6.toNat) 3 2 := zS_cast (zqe_13 (j := v6.toNat) q12 (by omega)) (by show (c + 4) + 14 + 2 * v6.toNat = (c + 18 + 2 * v6.toNat); omega)
      refine zx_aaload (pc := 43) (k := 13) (r := (c + 18 + 2 * v6.toNat)) (by decide +kernel) (by decide) ⟨8, q12, o6.1, o6.2⟩ (by show (c + 4) + 14 + 2 * v6.toNat = (c + 18 + 2 * v6.toNat); omega) ?_
      have q14 : zS ((c + 18 + 2 * v6.toNat) + 1) 12 81 := zq 0 q13 rfl
      refine zx_getR (pc := 44) (o := 1) (r := ((c + 18 + 2 * v6.toNat) + 1)) zf_0_55 (by decide +kernel) rfl q13 rfl (by decide) rfl ?_
      refine zw_iload_n (pc := 47) (n := 1) (i := 1) 1 (by decide +kernel) rfl rfl ?_
      refine zx_iaload (pc := 48) (by decide +kernel) ⟨81, q14, o15.1, o15.2⟩ ?_
      refine zw_iload (pc := 49) (i := 7) 5 (by decide +kernel) rfl ?_
      refine zw_iadd (pc := 51) (by decide +kernel) ?_
      refine zw_lload (pc := 52) (i := 4) 3 (by decide +kernel) rfl ?_
      refine zw_iload (pc := 54) (i := 7) 5 (by decide +kernel) rfl ?_
      refine zw_i2l (pc := 56) (by decide +kernel) o16 ?_
      refine zw_lrem (pc := 57) (by decide +kernel) o17 o18 o19 ?_
      refine zw_l2i (pc := 58) (by decide +kernel) ?_
      refine zw_isub (pc := 59) (by decide +kernel) ?_
      refine zw_iload (pc := 60) (i := 7) 5 (by decide +kernel) rfl ?_
      refine zw_irem (pc := 62) (by decide +kernel) o20 o16 o19 ?_
      refine zw_istore (pc := 63) (i := 8) (lv' := [(0, .ref c), (1, .int (zJ v1)), (2, .long (zL v2)), (4, .long (zL v4)), (6, .int (zJ v6)), (7, .int (zJ (μ8 (c + 5) v6.toNat))), (8, .int (zJ ((((μ8 ((c + 18 + 2 * v6.toNat) + 1) v1.toNat) + (μ8 (c + 5) v6.toNat)) - (v4.tmod (μ8 (c + 5) v6.toNat))).tmod (μ8 (c + 5) v6.toNat))))]) (by decide +kernel) (Nat.le_of_ble_eq_true rfl) rfl ?_
      refine zw_iload (pc := 65) (i := 8) 6 (by decide +kernel) rfl ?_
      refine zw_lload_n (pc := 67) (n := 2) (i := 2) 2 (by decide +kernel) rfl rfl ?_
      refine zw_iload (pc := 68) (i := 7) 5 (by decide +kernel) rfl ?_
      refine zw_i2l (pc := 70) (by decide +kernel) o16 ?_
      refine zw_lrem (pc := 71) (by decide +kernel) o21 o18 o19 ?_
      refine zw_l2i (pc := 72) (by decide +kernel) ?_
      refine zw_iload (pc := 73) (i := 7) 5 (by decide +kernel) rfl ?_
      refine zx_callSN (pc := 75) (As := [.int (zJ (v2.tmod (μ8 (c + 5) v6.toNat))), .int (zJ (μ8 (c + 5) v6.toNat))]) h zi_X10_inverse zis_X10_inverse zn_0_58 (by decide +kernel) ⟨Nat.le_of_ble_eq_true rfl, Nat.le_of_ble_eq_true rfl⟩ rfl rfl ⟨rfl, rfl⟩ ⟨Nat.zero_le _, Nat.zero_le _⟩ (zki (fun x23 μ22 h => ?_))
      obtain ⟨o24, o25, h⟩ := h
      refine zw_imul (pc := 78) (by decide +kernel) ?_
      refine zw_iload (pc := 79) (i := 7) 5 (by decide +kernel) rfl ?_
      refine zw_irem (pc := 81) (by decide +kernel) o24 o16 o19 ?_
      refine zw_istore (pc := 82) (i := 9) (lv' := [(0, .ref c), (1, .int (zJ v1)), (2, .long (zL v2)), (4, .long (zL v4)), (6, .int (zJ v6)), (7, .int (zJ (μ8 (c + 5) v6.toNat))), (8, .int (zJ ((((μ8 ((c + 18 + 2 * v6.toNat) + 1) v1.toNat) + (μ8 (c + 5) v6.toNat)) - (v4.tmod (μ8 (c + 5) v6.toNat))).tmod (μ8 (c + 5) v6.toNat)))), (9, .int (zJ ((((((μ8 ((c + 18 + 2 * v6.toNat) + 1) v1.toNat) + (μ8 (c + 5) v6.toNat)) - (v4.tmod (μ8 (c + 5) v6.toNat))).tmod (μ8 (c + 5) v6.toNat)) * x23).tmod (μ8 (c + 5) v6.toNat))))]) (by decide +kernel) (Nat.le_of_ble_eq_true rfl) rfl ?_
      refine zw_lload (pc := 84) (i := 4) 3 (by decide +kernel) rfl ?_
      refine zw_lload_n (pc := 86) (n := 2) (i := 2) 2 (by decide +kernel) rfl rfl ?_
      refine zw_iload (pc := 87) (i := 9) 7 (by decide +kernel) rfl ?_
      refine zw_i2l (pc := 89) (by decide +kernel) o25 ?_
      refine zw_lmul (pc := 90) (by decide +kernel) ?_
      refine zw_ladd (pc := 91) (by decide +kernel) ?_
      refine zw_lstore (pc := 92) (i := 4) (lv' := [(0, .ref c), (1, .int (zJ v1)), (2, .long (zL v2)), (4, .long (zL (v4 + (v2 * ((((((μ8 ((c + 18 + 2 * v6.toNat) + 1) v1.toNat) + (μ8 (c + 5) v6.toNat)) - (v4.tmod (μ8 (c + 5) v6.toNat))).tmod (μ8 (c + 5) v6.toNat)) * x23).tmod (μ8 (c + 5) v6.toNat)))))), (6, .int (zJ v6)), (7, .int (zJ (μ8 (c + 5) v6.toNat))), (8, .int (zJ ((((μ8 ((c + 18 + 2 * v6.toNat) + 1) v1.toNat) + (μ8 (c + 5) v6.toNat)) - (v4.tmod (μ8 (c + 5) v6.toNat))).tmod (μ8 (c + 5) v6.toNat)))), (9, .int (zJ ((((((μ8 ((c + 18 + 2 * v6.toNat) + 1) v1.toNat) + (μ8 (c + 5) v6.toNat)) - (v4.tmod (μ8 (c + 5) v6.toNat))).tmod (μ8 (c + 5) v6.toNat)) * x23).tmod (μ8 (c + 5) v6.toNat))))]) (by decide +kernel) (Nat.le_of_ble_eq_true rfl) rfl ?_
      refine zw_lload_n (pc := 94) (n := 2) (i := 2) 2 (by decide +kernel) rfl rfl ?_
      refine zw_iload (pc := 95) (i := 7) 5 (by decide +kernel) rfl ?_
      refine zw_i2l (pc := 97) (by decide +kernel) o16 ?_
      refine zw_lmul (pc := 98) (by decide +kernel) ?_
      refine zw_lstore_n (pc := 99) (n := 2) (i := 2) (lv' := [(0, .ref c), (1, .int (zJ v1)), (2, .long (zL (v2 * (μ8 (c + 5) v6.toNat)))), (4, .long (zL (v4 + (v2 * ((((((μ8 ((c + 18 + 2 * v6.toNat) + 1) v1.toNat) + (μ8 (c + 5) v6.toNat)) - (v4.tmod (μ8 (c + 5) v6.toNat))).tmod (μ8 (c + 5) v6.toNat)) * x23).tmod (μ8 (c + 5) v6.toNat)))))), (6, .int (zJ v6)), (7, .int (zJ (μ8 (c + 5) v6.toNat))), (8, .int (zJ ((((μ8 ((c + 18 + 2 * v6.toNat) + 1) v1.toNat) + (μ8 (c + 5) v6.toNat)) - (v4.tmod (μ8 (c + 5) v6.toNat))).tmod (μ8 (c + 5) v6.toNat)))), (9, .int (zJ ((((((μ8 ((c + 18 + 2 * v6.toNat) + 1) v1.toNat) + (μ8 (c + 5) v6.toNat)) - (v4.tmod (μ8 (c + 5) v6.toNat))).tmod (μ8 (c + 5) v6.toNat)) * x23).tmod (μ8 (c + 5) v6.toNat))))]) (by decide +kernel) rfl (Nat.le_of_ble_eq_true rfl) rfl ?_
      refine zw_iinc (pc := 100) (i := 6) (n := 1) (lv' := [(0, .ref c), (1, .int (zJ v1)), (2, .long (zL (v2 * (μ8 (c + 5) v6.toNat)))), (4, .long (zL (v4 + (v2 * ((((((μ8 ((c + 18 + 2 * v6.toNat) + 1) v1.toNat) + (μ8 (c + 5) v6.toNat)) - (v4.tmod (μ8 (c + 5) v6.toNat))).tmod (μ8 (c + 5) v6.toNat)) * x23).tmod (μ8 (c + 5) v6.toNat)))))), (6, .int (zJ (v6 + 1))), (7, .int (zJ (μ8 (c + 5) v6.toNat))), (8, .int (zJ ((((μ8 ((c + 18 + 2 * v6.toNat) + 1) v1.toNat) + (μ8 (c + 5) v6.toNat)) - (v4.tmod (μ8 (c + 5) v6.toNat))).tmod (μ8 (c + 5) v6.toNat)))), (9, .int (zJ ((((((μ8 ((c + 18 + 2 * v6.toNat) + 1) v1.toNat) + (μ8 (c + 5) v6.toNat)) - (v4.tmod (μ8 (c + 5) v6.toNat))).tmod (μ8 (c + 5) v6.toNat)) * x23).tmod (μ8 (c + 5) v6.toNat))))]) 4 (by decide +kernel) rfl rfl (Nat.le_of_ble_eq_true rfl) rfl ?_
      refine zw_goto (pc := 103) (off := (-95)) (tgt := 8) (by decide +kernel) (by decide) ?_
      exact zw_pick (lv' := [(0, .ref c), (1, .int (zJ v1)), (2, .long (zL (v2 * (μ8 (c + 5) v6.toNat)))), (4, .long (zL (v4 + (v2 * ((((((μ8 ((c + 18 + 2 * v6.toNat) + 1) v1.toNat) + (μ8 (c + 5) v6.toNat)) - (v4.tmod (μ8 (c + 5) v6.toNat))).tmod (μ8 (c + 5) v6.toNat)) * x23).tmod (μ8 (c + 5) v6.toNat)))))), (6, .int (zJ (v6 + 1)))]) [0, 1, 2, 3, 4] rfl h
abbrev at_X0_keptProduct_4 (g : zG) (φ : Int → zMu → Prop) (c : Nat) (v1 : Int) (v3 : Int) (μ : zMu) : Prop := zWP g zm_X0_keptProduct (zmo g zm_X0_keptProduct (zΦl φ)) 4 [(0, .ref c), (1, .long (zL v1)), (3, .int (zJ v3))] [] 0 0 (zw μ)
theorem sg_X0_keptProduct {g : zG} {φ : Int → zMu → Prop} {c : Nat} {μ : zMu} (h_c : zS c 0 5)
    (h : at_X0_keptProduct_4 g φ c 1 0 μ) : zOl g zm_X0_keptProduct [.ref c] μ φ := by
  refine zok_of (by decide +kernel) rfl ?_
  show zWP g zm_X0_keptProduct (zmo g zm_X0_keptProduct (zΦl φ)) 0 [(0, .ref c)] [] 0 0 (zw μ)
  refine zw_lconst (pc := 0) (n := 1) (v := 1) (by decide +kernel) rfl ?_
  refine zw_lstore_n (pc := 1) (n := 1) (i := 1) (lv' := [(0, .ref c), (1, .long (zL 1))]) (by decide +kernel) rfl (Nat.le_of_ble_eq_true rfl) rfl ?_
  refine zw_iconst (pc := 2) (n := 0) (by decide +kernel) ?_
  refine zw_istore_n (pc := 3) (n := 3) (i := 3) (lv' := [(0, .ref c), (1, .long (zL 1)), (3, .int (zJ 0))]) (by decide +kernel) rfl (Nat.le_of_ble_eq_true rfl) rfl ?_
  exact h
theorem sg_X0_keptProduct_4 {g : zG} {φ : Int → zMu → Prop} {c : Nat} {v1 : Int} {v3 : Int} {μ : zMu} (h_c : zS c 0 5)
    (h : (zR v3) ∧ ((8 ≤ v3 → φ v1 μ) ∧ (v3 < 8 → (0 ≤ v3 ∧ v3 < 8) ∧ zOi g zm_X3_isMissing [.ref (c + 18 + 2 * v3.toNat)] μ (fun x6 μ5 => (zR x6) ∧ ((¬ x6 = 0 → at_X0_keptProduct_4 g φ c v1 (v3 + 1) μ5) ∧ (x6 = 0 → (zR (μ5 (c + 5) v3.toNat)) ∧ at_X0_keptProduct_4 g φ c (v1 * (μ5 (c + 5) v3.toNat)) (v3 + 1) μ5)))))) : at_X0_keptProduct_4 g φ c v1 v3 μ := by
  obtain ⟨o1, h⟩ := h
  refine zw_iload_n (pc := 4) (n := 3) (i := 3) 2 (by decide +kernel) rfl rfl ?_
  refine zw_bipush (pc := 5) (n := 8) (by decide +kernel) (by decide +kernel) ?_
  refine zw_icmp_ge (pc := 7) (off := 31) (tgt := 38) (by decide +kernel) (by decide) o1 ⟨by decide, by decide⟩ (fun hc => ?_) (fun hc => ?_)
  · replace h := h.1 hc
    refine zw_lload_n (pc := 38) (n := 1) (i := 1) 1 (by decide +kernel) rfl rfl ?_
    exact zw_lret (pc := 39) (by decide +kernel) rfl (Nat.le_refl _) (Nat.le_refl _) ⟨_, _, rfl, rfl, h⟩
  · replace h := h.2 hc
    obtain ⟨o3, h⟩ := h
    refine zw_aload_n (pc := 10) (n := 0) (i := 0) 0 (by decide +kernel) rfl rfl ?_
    have q2 : zS (c + 4) 13 8 := zq 2 h_c rfl
    refine zx_getR (pc := 11) (o := 4) (r := (c + 4)) zf_0_28 (by decide +kernel) rfl h_c rfl (by decide) rfl ?_
    refine zw_iload_n (pc := 14) (n := 3) (i := 3) 2 (by decide +kernel) rfl rfl ?_
    have q4 : zS (c + 18 + 2 * v3.toNat) 3 2 := zS_cast (zqe_13 (j := v3.toNat) q2 (by omega)) (by show (c + 4) + 14 + 2 * v3.toNat = (c + 18 + 2 * v3.toNat); omega)
    refine zx_aaload (pc := 15) (k := 13) (r := (c + 18 + 2 * v3.toNat)) (by decide +kernel) (by decide) ⟨8, q2, o3.1, o3.2⟩ (by show (c + 4) + 14 + 2 * v3.toNat = (c + 18 + 2 * v3.toNat); omega) ?_
    refine zx_callV (pc := 16) (As := []) h zi_X3_isMissing zii_X3_isMissing zie_X3_isMissing zl_0_54 (by decide +kernel) ⟨Nat.le_of_ble_eq_true rfl, Nat.le_of_ble_eq_true rfl⟩ rfl q4 (by decide) rfl rfl ⟨rfl, rfl⟩ ⟨Nat.zero_le _, Nat.zero_le _⟩ (zki (fun x6 μ5 h => ?_))
    obtain ⟨o7, h⟩ := h
    refine zw_if_ne (pc := 19) (off := 13) (tgt := 32) (by decide +kernel) (by decide) o7 (fun hc => ?_) (fun hc => ?_)
    · replace h := h.1 hc
      refine zw_iinc (pc := 32) (i := 3) (n := 1) (lv' := [(0, .ref c), (1, .long (zL v1)), (3, .int (zJ (v3 + 1)))]) 2 (by decide +kernel) rfl rfl (Nat.le_of_ble_eq_true rfl) rfl ?_
      refine zw_goto (pc := 35) (off := (-31)) (tgt := 4) (by decide +kernel) (by decide) ?_
      exact h
    · replace h := h.2 hc
      obtain ⟨o9, h⟩ := h
      refine zw_lload_n (pc := 22) (n := 1) (i := 1) 1 (by decide +kernel) rfl rfl ?_
      refine zw_aload_n (pc := 23) (n := 0) (i := 0) 0 (by decide +kernel) rfl rfl ?_
      have q8 : zS (c + 5) 12 8 := zq 3 h_c rfl
      refine zx_getR (pc := 24) (o := 5) (r := (c + 5)) zf_0_32 (by decide +kernel) rfl h_c rfl (by decide) rfl ?_
      refine zw_iload_n (pc := 27) (n := 3) (i := 3) 2 (by decide +kernel) rfl rfl ?_
      refine zx_iaload (pc := 28) (by decide +kernel) ⟨8, q8, o3.1, o3.2⟩ ?_
      refine zw_i2l (pc := 29) (by decide +kernel) o9 ?_
      refine zw_lmul (pc := 30) (by decide +kernel) ?_
      refine zw_lstore_n (pc := 31) (n := 1) (i := 1) (lv' := [(0, .ref c), (1, .long (zL (v1 * (μ5 (c + 5) v3.toNat)))), (3, .int (zJ v3))]) (by decide +kernel) rfl (Nat.le_of_ble_eq_true rfl) rfl ?_
      refine zw_iinc (pc := 32) (i := 3) (n := 1) (lv' := [(0, .ref c), (1, .long (zL (v1 * (μ5 (c + 5) v3.toNat)))), (3, .int (zJ (v3 + 1)))]) 2 (by decide +kernel) rfl rfl (Nat.le_of_ble_eq_true rfl) rfl ?_
      refine zw_goto (pc := 35) (off := (-31)) (tgt := 4) (by decide +kernel) (by decide) ?_
      exact h
abbrev at_X0_copyFrom_21 (g : zG) (φ : zMu → Prop) (c : Nat) (v1 : Nat) (v2 : Int) (μ : zMu) : Prop := zWP g zm_X0_copyFrom (zmo g zm_X0_copyFrom (zΦv φ)) 21 [(0, .ref c), (1, .ref v1), (2, .int (zJ v2))] [] 0 0 (zw μ)
abbrev at_X0_copyFrom_50 (g : zG) (φ : zMu → Prop) (c : Nat) (v1 : Nat) (v2 : Int) (μ : zMu) : Prop := zWP g zm_X0_copyFrom (zmo g zm_X0_copyFrom (zΦv φ)) 50 [(0, .ref c), (1, .ref v1), (2, .int (zJ v2))] [] 0 0 (zw μ)
theorem sg_X0_copyFrom {g : zG} {φ : zMu → Prop} {c : Nat} {v1 : Nat} {μ : zMu} (h_c : zS c 0 5) (h_v1 : zS v1 0 5)
    (h : zOv g zm_X3_copyFrom [.ref (c + 2), .ref (v1 + 2)] (zup μ c 0 (μ v1 0)) (fun μ3 => at_X0_copyFrom_21 g φ c v1 0 μ3)) : zOv g zm_X0_copyFrom [.ref c, .ref v1] μ φ := by
  refine zok_of (by decide +kernel) rfl ?_
  show zWP g zm_X0_copyFrom (zmo g zm_X0_copyFrom (zΦv φ)) 0 [(0, .ref c), (1, .ref v1)] [] 0 0 (zw μ)
  refine zw_aload_n (pc := 0) (n := 0) (i := 0) 0 (by decide +kernel) rfl rfl ?_
  refine zw_aload_n (pc := 1) (n := 1) (i := 1) 1 (by decide +kernel) rfl rfl ?_
  refine zx_getI (pc := 2) zf_0_9 (by decide +kernel) rfl h_v1 ?_
  refine zx_putI (pc := 5) zf_0_9 (by decide +kernel) rfl h_c ?_
  refine zw_aload_n (pc := 8) (n := 0) (i := 0) 0 (by decide +kernel) rfl rfl ?_
  have q1 : zS (c + 2) 3 2 := zq 1 h_c rfl
  refine zx_getR (pc := 9) (o := 2) (r := (c + 2)) zf_0_24 (by decide +kernel) rfl h_c rfl (by decide) rfl ?_
  refine zw_aload_n (pc := 12) (n := 1) (i := 1) 1 (by decide +kernel) rfl rfl ?_
  have q2 : zS (v1 + 2) 3 2 := zq 1 h_v1 rfl
  refine zx_getR (pc := 13) (o := 2) (r := (v1 + 2)) zf_0_24 (by decide +kernel) rfl h_v1 rfl (by decide) rfl ?_
  refine zx_callV (pc := 16) (As := [.ref (v1 + 2)]) h zi_X3_copyFrom zii_X3_copyFrom zie_X3_copyFrom zl_0_43 (by decide +kernel) ⟨Nat.le_of_ble_eq_true rfl, Nat.le_of_ble_eq_true rfl⟩ rfl q1 (by decide) rfl rfl ⟨rfl, rfl⟩ ⟨Nat.zero_le _, Nat.zero_le _⟩ (zkv (fun μ3 h => ?_))
  refine zw_iconst (pc := 19) (n := 0) (by decide +kernel) ?_
  refine zw_istore_n (pc := 20) (n := 2) (i := 2) (lv' := [(0, .ref c), (1, .ref v1), (2, .int (zJ 0))]) (by decide +kernel) rfl (Nat.le_of_ble_eq_true rfl) rfl ?_
  exact h
theorem sg_X0_copyFrom_21 {g : zG} {φ : zMu → Prop} {c : Nat} {v1 : Nat} {v2 : Int} {μ : zMu} (h_c : zS c 0 5) (h_v1 : zS v1 0 5)
    (h : (zR v2) ∧ ((6 ≤ v2 → at_X0_copyFrom_50 g φ c v1 0 μ) ∧ (v2 < 6 → (0 ≤ v2 ∧ v2 < 6) ∧ zOv g zm_X6_copyFrom [.ref (c + 6 + 2 * v2.toNat), .ref (v1 + 6 + 2 * v2.toNat)] μ (fun μ7 => at_X0_copyFrom_21 g φ c v1 (v2 + 1) μ7)))) : at_X0_copyFrom_21 g φ c v1 v2 μ := by
  obtain ⟨o1, h⟩ := h
  refine zw_iload_n (pc := 21) (n := 2) (i := 2) 2 (by decide +kernel) rfl rfl ?_
  refine zw_bipush (pc := 22) (n := 6) (by decide +kernel) (by decide +kernel) ?_
  refine zw_icmp_ge (pc := 24) (off := 24) (tgt := 48) (by decide +kernel) (by decide) o1 ⟨by decide, by decide⟩ (fun hc => ?_) (fun hc => ?_)
  · replace h := h.1 hc
    refine zw_iconst (pc := 48) (n := 0) (by decide +kernel) ?_
    refine zw_istore_n (pc := 49) (n := 2) (i := 2) (lv' := [(0, .ref c), (1, .ref v1), (2, .int (zJ 0))]) (by decide +kernel) rfl (Nat.le_of_ble_eq_true rfl) rfl ?_
    exact h
  · replace h := h.2 hc
    obtain ⟨o3, h⟩ := h
    refine zw_aload_n (pc := 27) (n := 0) (i := 0) 0 (by decide +kernel) rfl rfl ?_
    have q2 : zS (c + 1) 14 6 := zq 0 h_c rfl
    refine zx_getR (pc := 28) (o := 1) (r := (c + 1)) zf_0_17 (by decide +kernel) rfl h_c rfl (by decide) rfl ?_
    refine zw_iload_n (pc := 31) (n := 2) (i := 2) 2 (by decide +kernel) rfl rfl ?_
    have q4 : zS (c + 6 + 2 * v2.toNat) 6 3 := zS_cast (zqe_14 (j := v2.toNat) q2 (by omega)) (by show (c + 1) + 5 + 2 * v2.toNat = (c + 6 + 2 * v2.toNat); omega)
    refine zx_aaload (pc := 32) (k := 14) (r := (c + 6 + 2 * v2.toNat)) (by decide +kernel) (by decide) ⟨6, q2, o3.1, o3.2⟩ (by show (c + 1) + 5 + 2 * v2.toNat = (c + 6 + 2 * v2.toNat); omega) ?_
    refine zw_aload_n (pc := 33) (n := 1) (i := 1) 1 (by decide +kernel) rfl rfl ?_
    have q5 : zS (v1 + 1) 14 6 := zq 0 h_v1 rfl
    refine zx_getR (pc := 34) (o := 1) (r := (v1 + 1)) zf_0_17 (by decide +kernel) rfl h_v1 rfl (by decide) rfl ?_
    refine zw_iload_n (pc := 37) (n := 2) (i := 2) 2 (by decide +kernel) rfl rfl ?_
    have q6 : zS (v1 + 6 + 2 * v2.toNat) 6 3 := zS_cast (zqe_14 (j := v2.toNat) q5 (by omega)) (by show (v1 + 1) + 5 + 2 * v2.toNat = (v1 + 6 + 2 * v2.toNat); omega)
    refine zx_aaload (pc := 38) (k := 14) (r := (v1 + 6 + 2 * v2.toNat)) (by decide +kernel) (by decide) ⟨6, q5, o3.1, o3.2⟩ (by show (v1 + 1) + 5 + 2 * v2.toNat = (v1 + 6 + 2 * v2.toNat); omega) ?_
    refine zx_callV (pc := 39) (As := [.ref (v1 + 6 + 2 * v2.toNat)]) h zi_X6_copyFrom zii_X6_copyFrom zie_X6_copyFrom zl_0_47 (by decide +kernel) ⟨Nat.le_of_ble_eq_true rfl, Nat.le_of_ble_eq_true rfl⟩ rfl q4 (by decide) rfl rfl ⟨rfl, rfl⟩ ⟨Nat.zero_le _, Nat.zero_le _⟩ (zkv (fun μ7 h => ?_))
    refine zw_iinc (pc := 42) (i := 2) (n := 1) (lv' := [(0, .ref c), (1, .ref v1), (2, .int (zJ (v2 + 1)))]) 2 (by decide +kernel) rfl rfl (Nat.le_of_ble_eq_true rfl) rfl ?_
    refine zw_goto (pc := 45) (off := (-24)) (tgt := 21) (by decide +kernel) (by decide) ?_
    exact h
theorem sg_X0_copyFrom_50 {g : zG} {φ : zMu → Prop} {c : Nat} {v1 : Nat} {v2 : Int} {μ : zMu} (h_c : zS c 0 5) (h_v1 : zS v1 0 5)
    (h : (zR v2) ∧ ((8 ≤ v2 → φ μ) ∧ (v2 < 8 → (0 ≤ v2 ∧ v2 < 8) ∧ zOv g zm_X3_copyFrom [.ref (c + 18 + 2 * v2.toNat), .ref (v1 + 18 + 2 * v2.toNat)] μ (fun μ7 => at_X0_copyFrom_50 g φ c v1 (v2 + 1) (zup μ7 (c + 5) v2.toNat (μ7 (v1 + 5) v2.toNat)))))) : at_X0_copyFrom_50 g φ c v1 v2 μ := by
  obtain ⟨o1, h⟩ := h
  refine zw_iload_n (pc := 50) (n := 2) (i := 2) 2 (by decide +kernel) rfl rfl ?_
  refine zw_bipush (pc := 51) (n := 8) (by decide +kernel) (by decide +kernel) ?_
  refine zw_icmp_ge (pc := 53) (off := 36) (tgt := 89) (by decide +kernel) (by decide) o1 ⟨by decide, by decide⟩ (fun hc => ?_) (fun hc => ?_)
  · replace h := h.1 hc
    exact zw_vret (pc := 89) (by decide +kernel) rfl (Nat.le_refl _) (Nat.le_refl _) ⟨_, rfl, rfl, h⟩
  · replace h := h.2 hc
    obtain ⟨o3, h⟩ := h
    refine zw_aload_n (pc := 56) (n := 0) (i := 0) 0 (by decide +kernel) rfl rfl ?_
    have q2 : zS (c + 4) 13 8 := zq 2 h_c rfl
    refine zx_getR (pc := 57) (o := 4) (r := (c + 4)) zf_0_28 (by decide +kernel) rfl h_c rfl (by decide) rfl ?_
    refine zw_iload_n (pc := 60) (n := 2) (i := 2) 2 (by decide +kernel) rfl rfl ?_
    have q4 : zS (c + 18 + 2 * v2.toNat) 3 2 := zS_cast (zqe_13 (j := v2.toNat) q2 (by omega)) (by show (c + 4) + 14 + 2 * v2.toNat = (c + 18 + 2 * v2.toNat); omega)
    refine zx_aaload (pc := 61) (k := 13) (r := (c + 18 + 2 * v2.toNat)) (by decide +kernel) (by decide) ⟨8, q2, o3.1, o3.2⟩ (by show (c + 4) + 14 + 2 * v2.toNat = (c + 18 + 2 * v2.toNat); omega) ?_
    refine zw_aload_n (pc := 62) (n := 1) (i := 1) 1 (by decide +kernel) rfl rfl ?_
    have q5 : zS (v1 + 4) 13 8 := zq 2 h_v1 rfl
    refine zx_getR (pc := 63) (o := 4) (r := (v1 + 4)) zf_0_28 (by decide +kernel) rfl h_v1 rfl (by decide) rfl ?_
    refine zw_iload_n (pc := 66) (n := 2) (i := 2) 2 (by decide +kernel) rfl rfl ?_
    have q6 : zS (v1 + 18 + 2 * v2.toNat) 3 2 := zS_cast (zqe_13 (j := v2.toNat) q5 (by omega)) (by show (v1 + 4) + 14 + 2 * v2.toNat = (v1 + 18 + 2 * v2.toNat); omega)
    refine zx_aaload (pc := 67) (k := 13) (r := (v1 + 18 + 2 * v2.toNat)) (by decide +kernel) (by decide) ⟨8, q5, o3.1, o3.2⟩ (by show (v1 + 4) + 14 + 2 * v2.toNat = (v1 + 18 + 2 * v2.toNat); omega) ?_
    refine zx_callV (pc := 68) (As := [.ref (v1 + 18 + 2 * v2.toNat)]) h zi_X3_copyFrom zii_X3_copyFrom zie_X3_copyFrom zl_0_43 (by decide +kernel) ⟨Nat.le_of_ble_eq_true rfl, Nat.le_of_ble_eq_true rfl⟩ rfl q4 (by decide) rfl rfl ⟨rfl, rfl⟩ ⟨Nat.zero_le _, Nat.zero_le _⟩ (zkv (fun μ7 h => ?_))
    refine zw_aload_n (pc := 71) (n := 0) (i := 0) 0 (by decide +kernel) rfl rfl ?_
    have q8 : zS (c + 5) 12 8 := zq 3 h_c rfl
    refine zx_getR (pc := 72) (o := 5) (r := (c + 5)) zf_0_32 (by decide +kernel) rfl h_c rfl (by decide) rfl ?_
    refine zw_iload_n (pc := 75) (n := 2) (i := 2) 2 (by decide +kernel) rfl rfl ?_
    refine zw_aload_n (pc := 76) (n := 1) (i := 1) 1 (by decide +kernel) rfl rfl ?_
    have q9 : zS (v1 + 5) 12 8 := zq 3 h_v1 rfl
    refine zx_getR (pc := 77) (o := 5) (r := (v1 + 5)) zf_0_32 (by decide +kernel) rfl h_v1 rfl (by decide) rfl ?_
    refine zw_iload_n (pc := 80) (n := 2) (i := 2) 2 (by decide +kernel) rfl rfl ?_
    refine zx_iaload (pc := 81) (by decide +kernel) ⟨8, q9, o3.1, o3.2⟩ ?_
    refine zx_iastore (pc := 82) (by decide +kernel) ⟨8, q8, o3.1, o3.2⟩ ?_
    refine zw_iinc (pc := 83) (i := 2) (n := 1) (lv' := [(0, .ref c), (1, .ref v1), (2, .int (zJ (v2 + 1)))]) 2 (by decide +kernel) rfl rfl (Nat.le_of_ble_eq_true rfl) rfl ?_
    refine zw_goto (pc := 86) (off := (-36)) (tgt := 50) (by decide +kernel) (by decide) ?_
    exact h
abbrev at_X0_seriesCount_4 (g : zG) (φ : Int → zMu → Prop) (c : Nat) (v1 : Int) (v2 : Int) (μ : zMu) : Prop := zWP g zm_X0_seriesCount (zmo g zm_X0_seriesCount (zΦi φ)) 4 [(0, .ref c), (1, .int (zJ v1)), (2, .int (zJ v2))] [] 0 0 (zw μ)
theorem sg_X0_seriesCount {g : zG} {φ : Int → zMu → Prop} {c : Nat} {μ : zMu} (h_c : zS c 0 5)
    (h : at_X0_seriesCount_4 g φ c 0 0 μ) : zOi g zm_X0_seriesCount [.ref c] μ φ := by
  refine zok_of (by decide +kernel) rfl ?_
  show zWP g zm_X0_seriesCount (zmo g zm_X0_seriesCount (zΦi φ)) 0 [(0, .ref c)] [] 0 0 (zw μ)
  refine zw_iconst (pc := 0) (n := 0) (by decide +kernel) ?_
  refine zw_istore_n (pc := 1) (n := 1) (i := 1) (lv' := [(0, .ref c), (1, .int (zJ 0))]) (by decide +kernel) rfl (Nat.le_of_ble_eq_true rfl) rfl ?_
  refine zw_iconst (pc := 2) (n := 0) (by decide +kernel) ?_
  refine zw_istore_n (pc := 3) (n := 2) (i := 2) (lv' := [(0, .ref c), (1, .int (zJ 0)), (2, .int (zJ 0))]) (by decide +kernel) rfl (Nat.le_of_ble_eq_true rfl) rfl ?_
  exact h
theorem sg_X0_seriesCount_4 {g : zG} {φ : Int → zMu → Prop} {c : Nat} {v1 : Int} {v2 : Int} {μ : zMu} (h_c : zS c 0 5)
    (h : (zR v2) ∧ ((6 ≤ v2 → φ v1 μ) ∧ (v2 < 6 → (0 ≤ v2 ∧ v2 < 6) ∧ zOi g zm_X6_isMissing [.ref (c + 6 + 2 * v2.toNat)] μ (fun x6 μ5 => (zR x6) ∧ ((¬ x6 = 0 → at_X0_seriesCount_4 g φ c v1 (v2 + 1) μ5) ∧ (x6 = 0 → at_X0_seriesCount_4 g φ c (v1 + 1) (v2 + 1) μ5)))))) : at_X0_seriesCount_4 g φ c v1 v2 μ := by
  obtain ⟨o1, h⟩ := h
  refine zw_iload_n (pc := 4) (n := 2) (i := 2) 2 (by decide +kernel) rfl rfl ?_
  refine zw_bipush (pc := 5) (n := 6) (by decide +kernel) (by decide +kernel) ?_
  refine zw_icmp_ge (pc := 7) (off := 24) (tgt := 31) (by decide +kernel) (by decide) o1 ⟨by decide, by decide⟩ (fun hc => ?_) (fun hc => ?_)
  · replace h := h.1 hc
    refine zw_iload_n (pc := 31) (n := 1) (i := 1) 1 (by decide +kernel) rfl rfl ?_
    exact zw_iret (pc := 32) (by decide +kernel) rfl (Nat.le_refl _) (Nat.le_refl _) ⟨_, _, rfl, rfl, h⟩
  · replace h := h.2 hc
    obtain ⟨o3, h⟩ := h
    refine zw_aload_n (pc := 10) (n := 0) (i := 0) 0 (by decide +kernel) rfl rfl ?_
    have q2 : zS (c + 1) 14 6 := zq 0 h_c rfl
    refine zx_getR (pc := 11) (o := 1) (r := (c + 1)) zf_0_17 (by decide +kernel) rfl h_c rfl (by decide) rfl ?_
    refine zw_iload_n (pc := 14) (n := 2) (i := 2) 2 (by decide +kernel) rfl rfl ?_
    have q4 : zS (c + 6 + 2 * v2.toNat) 6 3 := zS_cast (zqe_14 (j := v2.toNat) q2 (by omega)) (by show (c + 1) + 5 + 2 * v2.toNat = (c + 6 + 2 * v2.toNat); omega)
    refine zx_aaload (pc := 15) (k := 14) (r := (c + 6 + 2 * v2.toNat)) (by decide +kernel) (by decide) ⟨6, q2, o3.1, o3.2⟩ (by show (c + 1) + 5 + 2 * v2.toNat = (c + 6 + 2 * v2.toNat); omega) ?_
    refine zx_callV (pc := 16) (As := []) h zi_X6_isMissing zii_X6_isMissing zie_X6_isMissing zl_0_50 (by decide +kernel) ⟨Nat.le_of_ble_eq_true rfl, Nat.le_of_ble_eq_true rfl⟩ rfl q4 (by decide) rfl rfl ⟨rfl, rfl⟩ ⟨Nat.zero_le _, Nat.zero_le _⟩ (zki (fun x6 μ5 h => ?_))
    obtain ⟨o7, h⟩ := h
    refine zw_if_ne (pc := 19) (off := 6) (tgt := 25) (by decide +kernel) (by decide) o7 (fun hc => ?_) (fun hc => ?_)
    · replace h := h.1 hc
      refine zw_iinc (pc := 25) (i := 2) (n := 1) (lv' := [(0, .ref c), (1, .int (zJ v1)), (2, .int (zJ (v2 + 1)))]) 2 (by decide +kernel) rfl rfl (Nat.le_of_ble_eq_true rfl) rfl ?_
      refine zw_goto (pc := 28) (off := (-24)) (tgt := 4) (by decide +kernel) (by decide) ?_
      exact h
    · replace h := h.2 hc
      refine zw_iinc (pc := 22) (i := 1) (n := 1) (lv' := [(0, .ref c), (1, .int (zJ (v1 + 1))), (2, .int (zJ v2))]) 1 (by decide +kernel) rfl rfl (Nat.le_of_ble_eq_true rfl) rfl ?_
      refine zw_iinc (pc := 25) (i := 2) (n := 1) (lv' := [(0, .ref c), (1, .int (zJ (v1 + 1))), (2, .int (zJ (v2 + 1)))]) 2 (by decide +kernel) rfl rfl (Nat.le_of_ble_eq_true rfl) rfl ?_
      refine zw_goto (pc := 28) (off := (-24)) (tgt := 4) (by decide +kernel) (by decide) ?_
      exact h
