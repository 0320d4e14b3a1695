theorem zok_ofF {g : zG} {M : zM} {args : List Value} {w : zWS} {Φ : Option Value → zWS → Prop} (hy : plainFor M.1 = true) (hn : Nat.ble (lg_sl args).length M.2.2.1 = true) (k : zWP g M (zmo g M Φ) 0 (lv_args 0 args) [] 0 0 w) : zOK g M args w Φ := by
  refine va_MetF (cc := M.2.1) (maxL := M.2.2.1) (ret := M.2.2.2.1) hy rfl ?_
  intro p e s m av below meth c s₁ B hml hv
  obtain ⟨rfl, hU, hB, hW⟩ := hv
  have hts := atoms_spec (ws := zws M) B.pre
  have hl := lv_entry (args.map (ztv g)) (n := M.2.2.1) (by rw [zlg_len]; exact Nat.le_of_ble_eq_true hn)
  rw [lg_entry_eq]
  generalize (lg_sl (args.map (ztv g)) ++ List.replicate (M.2.2.1 - (lg_sl (args.map (ztv g))).length) Slot.unset).toArray = ls at hl ⊢
  rw [zlv_args] at hl
  exact k p e s m _ below meth c s.heap [] ls ⟨B.exec, B.bytes, hml, B.returns, fun x hx => hts x (List.mem_cons_of_mem _ hx), findClass_of_methodNamed B.named, B.notSynchronized, fun _ => (name_of_methodNamed B.named B.method).1.trans (by assumption), hU, hB, trivial⟩ hl hW va_S.rf
theorem sg_J9_floorMod_7cf53 {g : zG} {φ : Int → zMu → Prop} {v0 : Int} {v1 : Int} {μ : zMu}
    (h : (zR v0) ∧ (zR v1) ∧ (v1 ≠ 0) ∧ (zR (zxor v0 v1)) ∧ ((0 ≤ (zxor v0 v1) → φ (v0.tmod v1) μ) ∧ ((zxor v0 v1) < 0 → (zR (v0.tmod v1)) ∧ (((v0.tmod v1) = 0 → φ (v0.tmod v1) μ) ∧ (¬ (v0.tmod v1) = 0 → φ ((v0.tmod v1) + v1) μ))))) : zOi g zm_J9_floorMod_7cf53 [.int (zJ v0), .int (zJ v1)] μ φ := by
  refine zok_ofF (by decide +kernel) rfl ?_
  show zWP g zm_J9_floorMod_7cf53 (zmo g zm_J9_floorMod_7cf53 (zΦi φ)) 0 [(0, .int (zJ v0)), (1, .int (zJ v1))] [] 0 0 (zw μ)
  obtain ⟨o1, o2, o3, o4, h⟩ := h
  refine zw_iload_n (pc := 0) (n := 0) (i := 0) 0 (by decide +kernel) rfl rfl ?_
  refine zw_iload_n (pc := 1) (n := 1) (i := 1) 1 (by decide +kernel) rfl rfl ?_
  refine zw_irem (pc := 2) (by decide +kernel) o1 o2 o3 ?_
  refine zw_istore_n (pc := 3) (n := 2) (i := 2) (lv' := [(0, .int (zJ v0)), (1, .int (zJ v1)), (2, .int (zJ (v0.tmod v1)))]) (by decide +kernel) rfl (Nat.le_of_ble_eq_true rfl) rfl ?_
  refine zw_iload_n (pc := 4) (n := 0) (i := 0) 0 (by decide +kernel) rfl rfl ?_
  refine zw_iload_n (pc := 5) (n := 1) (i := 1) 1 (by decide +kernel) rfl rfl ?_
  refine zw_ixor (pc := 6) (by decide +kernel) ?_
  refine zw_if_ge (pc := 7) (off := 11) (tgt := 18) (by decide +kernel) (by decide) o4 (fun hc => ?_) (fun hc => ?_)
  · replace h := h.1 hc
    refine zw_iload_n (pc := 18) (n := 2) (i := 2) 2 (by decide +kernel) rfl rfl ?_
    exact zw_iret (pc := 19) (by decide +kernel) rfl (Nat.le_refl _) (Nat.le_refl _) ⟨_, _, rfl, rfl, h⟩
  · replace h := h.2 hc
    obtain ⟨o5, h⟩ := h
    refine zw_iload_n (pc := 10) (n := 2) (i := 2) 2 (by decide +kernel) rfl rfl ?_
    refine zw_if_eq (pc := 11) (off := 7) (tgt := 18) (by decide +kernel) (by decide) o5 (fun hc => ?_) (fun hc => ?_)
    · replace h := h.1 hc
      refine zw_iload_n (pc := 18) (n := 2) (i := 2) 2 (by decide +kernel) rfl rfl ?_
      exact zw_iret (pc := 19) (by decide +kernel) rfl (Nat.le_refl _) (Nat.le_refl _) ⟨_, _, rfl, rfl, h⟩
    · replace h := h.2 hc
      refine zw_iload_n (pc := 14) (n := 2) (i := 2) 2 (by decide +kernel) rfl rfl ?_
      refine zw_iload_n (pc := 15) (n := 1) (i := 1) 1 (by decide +kernel) rfl rfl ?_
      refine zw_iadd (pc := 16) (by decide +kernel) ?_
      exact zw_iret (pc := 17) (by decide +kernel) rfl (Nat.le_refl _) (Nat.le_refl _) ⟨_, _, rfl, rfl, h⟩
theorem sg_X6_become {g : zG} {φ : zMu → Prop} {c : Nat} {v1 : Int} {v2 : Int} {v3 : Nat} {μ : zMu} (h_c : zS c 6 3)
    (h : (∃ n0 n1, zS v3 12 n0 ∧ zS (c + 1) 12 n1 ∧ 0 ≤ (0 : Int) ∧ 0 ≤ (0 : Int) ∧ 0 ≤ v2 ∧ (0 : Int) + v2 ≤ n0 ∧ (0 : Int) + v2 ≤ n1) ∧ φ (zcp (zup (zup μ c 1 v1) c 2 v2) v3 0 (c + 1) 0 v2.toNat)) : zOv g zm_X6_become [.ref c, .int (zJ v1), .int (zJ v2), .ref v3] μ φ := by
  refine zok_of (by decide +kernel) rfl ?_
  show zWP g zm_X6_become (zmo g zm_X6_become (zΦv φ)) 0 [(0, .ref c), (1, .int (zJ v1)), (2, .int (zJ v2)), (3, .ref v3)] [] 0 0 (zw μ)
  obtain ⟨o2, h⟩ := h
  refine zw_aload_n (pc := 0) (n := 0) (i := 0) 0 (by decide +kernel) rfl rfl ?_
  refine zw_iload_n (pc := 1) (n := 1) (i := 1) 1 (by decide +kernel) rfl rfl ?_
  refine zx_putI (pc := 2) zf_6_15 (by decide +kernel) rfl h_c ?_
  refine zw_aload_n (pc := 5) (n := 0) (i := 0) 0 (by decide +kernel) rfl rfl ?_
  refine zw_iload_n (pc := 6) (n := 2) (i := 2) 2 (by decide +kernel) rfl rfl ?_
  refine zx_putI (pc := 7) zf_6_19 (by decide +kernel) rfl h_c ?_
  refine zw_aload_n (pc := 10) (n := 3) (i := 3) 3 (by decide +kernel) rfl rfl ?_
  refine zw_iconst (pc := 11) (n := 0) (by decide +kernel) ?_
  refine zw_aload_n (pc := 12) (n := 0) (i := 0) 0 (by decide +kernel) rfl rfl ?_
  have q1 : zS (c + 1) 12 80 := zq 0 h_c rfl
  refine zx_getR (pc := 13) (o := 1) (r := (c + 1)) zf_6_9 (by decide +kernel) rfl h_c rfl (by decide) rfl ?_
  refine zw_iconst (pc := 16) (n := 0) (by decide +kernel) ?_
  refine zw_iload_n (pc := 17) (n := 2) (i := 2) 2 (by decide +kernel) rfl rfl ?_
  refine zx_copy (pc := 18) zl_6_22 zb_cpN zb_cpS zb_cpI (by decide +kernel) ⟨Nat.le_of_ble_eq_true rfl, by decide +kernel⟩ rfl o2 ?_
  exact zw_vret (pc := 21) (by decide +kernel) rfl (Nat.le_refl _) (Nat.le_refl _) ⟨_, rfl, rfl, h⟩
theorem sg_X6_isMissing {g : zG} {φ : Int → zMu → Prop} {c : Nat} {μ : zMu} (h_c : zS c 6 3)
    (h : (zR (μ c 2)) ∧ ((¬ (μ c 2) = 0 → φ 0 μ) ∧ ((μ c 2) = 0 → φ 1 μ))) : zOi g zm_X6_isMissing [.ref c] μ φ := by
  refine zok_of (by decide +kernel) rfl ?_
  show zWP g zm_X6_isMissing (zmo g zm_X6_isMissing (zΦi φ)) 0 [(0, .ref c)] [] 0 0 (zw μ)
  obtain ⟨o1, h⟩ := h
  refine zw_aload_n (pc := 0) (n := 0) (i := 0) 0 (by decide +kernel) rfl rfl ?_
  refine zx_getI (pc := 1) zf_6_19 (by decide +kernel) rfl h_c ?_
  refine zw_if_ne (pc := 4) (off := 7) (tgt := 11) (by decide +kernel) (by decide) o1 (fun hc => ?_) (fun hc => ?_)
  · replace h := h.1 hc
    refine zw_iconst (pc := 11) (n := 0) (by decide +kernel) ?_
    exact zw_zret (pc := 12) (by decide +kernel) rfl (Nat.le_refl _) (Nat.le_refl _) (Or.inl rfl) ⟨_, _, rfl, rfl, h⟩
  · replace h := h.2 hc
    refine zw_iconst (pc := 7) (n := 1) (by decide +kernel) ?_
    refine zw_goto (pc := 8) (off := 4) (tgt := 12) (by decide +kernel) (by decide) ?_
    exact zw_zret (pc := 12) (by decide +kernel) rfl (Nat.le_refl _) (Nat.le_refl _) (Or.inr rfl) ⟨_, _, rfl, rfl, h⟩
theorem sg_X6_last {g : zG} {φ : Int → zMu → Prop} {c : Nat} {μ : zMu} (h_c : zS c 6 3)
    (h : φ (((μ c 1) + (μ c 2)) - 1) μ) : zOi g zm_X6_last [.ref c] μ φ := by
  refine zok_of (by decide +kernel) rfl ?_
  show zWP g zm_X6_last (zmo g zm_X6_last (zΦi φ)) 0 [(0, .ref c)] [] 0 0 (zw μ)
  refine zw_aload_n (pc := 0) (n := 0) (i := 0) 0 (by decide +kernel) rfl rfl ?_
  refine zx_getI (pc := 1) zf_6_15 (by decide +kernel) rfl h_c ?_
  refine zw_aload_n (pc := 4) (n := 0) (i := 0) 0 (by decide +kernel) rfl rfl ?_
  refine zx_getI (pc := 5) zf_6_19 (by decide +kernel) rfl h_c ?_
  refine zw_iadd (pc := 8) (by decide +kernel) ?_
  refine zw_iconst (pc := 9) (n := 1) (by decide +kernel) ?_
  refine zw_isub (pc := 10) (by decide +kernel) ?_
  exact zw_iret (pc := 11) (by decide +kernel) rfl (Nat.le_refl _) (Nat.le_refl _) ⟨_, _, rfl, rfl, h⟩
theorem sg_X6_valueOf {g : zG} {φ : Int → zMu → Prop} {c : Nat} {v1 : Int} {μ : zMu} (h_c : zS c 6 3)
    (h : (zR v1) ∧ (zR (μ c 1)) ∧ (((μ c 1) ≤ v1 → (0 ≤ (v1 - (μ c 1)) ∧ (v1 - (μ c 1)) < 80) ∧ φ (μ (c + 1) (Int.toNat (v1 - (μ c 1)))) μ) ∧ (v1 < (μ c 1) → φ 0 μ))) : zOi g zm_X6_valueOf [.ref c, .int (zJ v1)] μ φ := by
  refine zok_of (by decide +kernel) rfl ?_
  show zWP g zm_X6_valueOf (zmo g zm_X6_valueOf (zΦi φ)) 0 [(0, .ref c), (1, .int (zJ v1))] [] 0 0 (zw μ)
  obtain ⟨o1, o2, h⟩ := h
  refine zw_iload_n (pc := 0) (n := 1) (i := 1) 1 (by decide +kernel) rfl rfl ?_
  refine zw_aload_n (pc := 1) (n := 0) (i := 0) 0 (by decide +kernel) rfl rfl ?_
  refine zx_getI (pc := 2) zf_6_15 (by decide +kernel) rfl h_c ?_
  refine zw_icmp_ge (pc := 5) (off := 7) (tgt := 12) (by decide +kernel) (by decide) o1 o2 (fun hc => ?_) (fun hc => ?_)
  · replace h := h.1 hc
    obtain ⟨o4, h⟩ := h
    refine zw_aload_n (pc := 12) (n := 0) (i := 0) 0 (by decide +kernel) rfl rfl ?_
    have q3 : zS (c + 1) 12 80 := zq 0 h_c rfl
    refine zx_getR (pc := 13) (o := 1) (r := (c + 1)) zf_6_9 (by decide +kernel) rfl h_c rfl (by decide) rfl ?_
    refine zw_iload_n (pc := 16) (n := 1) (i := 1) 1 (by decide +kernel) rfl rfl ?_
    refine zw_aload_n (pc := 17) (n := 0) (i := 0) 0 (by decide +kernel) rfl rfl ?_
    refine zx_getI (pc := 18) zf_6_15 (by decide +kernel) rfl h_c ?_
    refine zw_isub (pc := 21) (by decide +kernel) ?_
    refine zx_iaload (pc := 22) (by decide +kernel) ⟨80, q3, o4.1, o4.2⟩ ?_
    exact zw_iret (pc := 23) (by decide +kernel) rfl (Nat.le_refl _) (Nat.le_refl _) ⟨_, _, rfl, rfl, h⟩
  · replace h := h.2 hc
    refine zw_iconst (pc := 8) (n := 0) (by decide +kernel) ?_
    refine zw_goto (pc := 9) (off := 14) (tgt := 23) (by decide +kernel) (by decide) ?_
    exact zw_iret (pc := 23) (by decide +kernel) rfl (Nat.le_refl _) (Nat.le_refl _) ⟨_, _, rfl, rfl, h⟩
abbrev at_X6_firstNonzero_2 (g : zG) (φ : Int → zMu → Prop) (c : Nat) (v1 : Int) (μ : zMu) : Prop := zWP g zm_X6_firstNonzero (zmo g zm_X6_firstNonzero (zΦi φ)) 2 [(0, .ref c), (1, .int (zJ v1))] [] 0 0 (zw μ)
theorem sg_X6_firstNonzero {g : zG} {φ : Int → zMu → Prop} {c : Nat} {μ : zMu} (h_c : zS c 6 3)
    (h : at_X6_firstNonzero_2 g φ c 0 μ) : zOi g zm_X6_firstNonzero [.ref c] μ φ := by
  refine zok_of (by decide +kernel) rfl ?_
  show zWP g zm_X6_firstNonzero (zmo g zm_X6_firstNonzero (zΦi φ)) 0 [(0, .ref c)] [] 0 0 (zw μ)
  refine zw_iconst (pc := 0) (n := 0) (by decide +kernel) ?_
  refine zw_istore_n (pc := 1) (n := 1) (i := 1) (lv' := [(0, .ref c), (1, .int (zJ 0))]) (by decide +kernel) rfl (Nat.le_of_ble_eq_true rfl) rfl ?_
  exact h
theorem sg_X6_firstNonzero_2 {g : zG} {φ : Int → zMu → Prop} {c : Nat} {v1 : Int} {μ : zMu} (h_c : zS c 6 3)
    (h : (zR v1) ∧ (zR (μ c 2)) ∧ (((μ c 2) ≤ v1 → φ (-1) μ) ∧ (v1 < (μ c 2) → (0 ≤ v1 ∧ v1 < 80) ∧ (zR (μ (c + 1) v1.toNat)) ∧ (((μ (c + 1) v1.toNat) = 0 → at_X6_firstNonzero_2 g φ c (v1 + 1) μ) ∧ (¬ (μ (c + 1) v1.toNat) = 0 → φ v1 μ))))) : at_X6_firstNonzero_2 g φ c v1 μ := by
  obtain ⟨o1, o2, h⟩ := h
  refine zw_iload_n (pc := 2) (n := 1) (i := 1) 1 (by decide +kernel) rfl rfl ?_
  refine zw_aload_n (pc := 3) (n := 0) (i := 0) 0 (by decide +kernel) rfl rfl ?_
  refine zx_getI (pc := 4) zf_6_19 (by decide +kernel) rfl h_c ?_
  refine zw_icmp_ge (pc := 7) (off := 20) (tgt := 27) (by decide +kernel) (by decide) o1 o2 (fun hc => ?_) (fun hc => ?_)
  · replace h := h.1 hc
    refine zw_iconst (pc := 27) (n := (-1)) (by decide +kernel) ?_
    exact zw_iret (pc := 28) (by decide +kernel) rfl (Nat.le_refl _) (Nat.le_refl _) ⟨_, _, rfl, rfl, h⟩
  · replace h := h.2 hc
    obtain ⟨o4, o5, h⟩ := h
    refine zw_aload_n (pc := 10) (n := 0) (i := 0) 0 (by decide +kernel) rfl rfl ?_
    have q3 : zS (c + 1) 12 80 := zq 0 h_c rfl
    refine zx_getR (pc := 11) (o := 1) (r := (c + 1)) zf_6_9 (by decide +kernel) rfl h_c rfl (by decide) rfl ?_
    refine zw_iload_n (pc := 14) (n := 1) (i := 1) 1 (by decide +kernel) rfl rfl ?_
    refine zx_iaload (pc := 15) (by decide +kernel) ⟨80, q3, o4.1, o4.2⟩ ?_
    refine zw_if_eq (pc := 16) (off := 5) (tgt := 21) (by decide +kernel) (by decide) o5 (fun hc => ?_) (fun hc => ?_)
    · replace h := h.1 hc
      refine zw_iinc (pc := 21) (i := 1) (n := 1) (lv' := [(0, .ref c), (1, .int (zJ (v1 + 1)))]) 1 (by decide +kernel) rfl rfl (Nat.le_of_ble_eq_true rfl) rfl ?_
      refine zw_goto (pc := 24) (off := (-22)) (tgt := 2) (by decide +kernel) (by decide) ?_
      exact h
    · replace h := h.2 hc
      refine zw_iload_n (pc := 19) (n := 1) (i := 1) 1 (by decide +kernel) rfl rfl ?_
      exact zw_iret (pc := 20) (by decide +kernel) rfl (Nat.le_refl _) (Nat.le_refl _) ⟨_, _, rfl, rfl, h⟩
theorem sg_X6_copyFrom {g : zG} {φ : zMu → Prop} {c : Nat} {v1 : Nat} {μ : zMu} (h_c : zS c 6 3) (h_v1 : zS v1 6 3)
    (h : zOv g zm_X6_become [.ref c, .int (zJ (μ v1 1)), .int (zJ (μ v1 2)), .ref (v1 + 1)] μ (fun μ2 => φ μ2)) : zOv g zm_X6_copyFrom [.ref c, .ref v1] μ φ := by
  refine zok_of (by decide +kernel) rfl ?_
  show zWP g zm_X6_copyFrom (zmo g zm_X6_copyFrom (zΦv φ)) 0 [(0, .ref c), (1, .ref v1)] [] 0 0 (zw μ)
  refine zw_aload_n (pc := 0) (n := 0) (i := 0) 0 (by decide +kernel) rfl rfl ?_
  refine zw_aload_n (pc := 1) (n := 1) (i := 1) 1 (by decide +kernel) rfl rfl ?_
  refine zx_getI (pc := 2) zf_6_15 (by decide +kernel) rfl h_v1 ?_
  refine zw_aload_n (pc := 5) (n := 1) (i := 1) 1 (by decide +kernel) rfl rfl ?_
  refine zx_getI (pc := 6) zf_6_19 (by decide +kernel) rfl h_v1 ?_
  refine zw_aload_n (pc := 9) (n := 1) (i := 1) 1 (by decide +kernel) rfl rfl ?_
  have q1 : zS (v1 + 1) 12 80 := zq 0 h_v1 rfl
  refine zx_getR (pc := 10) (o := 1) (r := (v1 + 1)) zf_6_9 (by decide +kernel) rfl h_v1 rfl (by decide) rfl ?_
  refine zx_callV (pc := 13) (As := [.int (zJ (μ v1 1)), .int (zJ (μ v1 2)), .ref (v1 + 1)]) h zi_X6_become zii_X6_become zie_X6_become zl_6_28 (by decide +kernel) ⟨Nat.le_of_ble_eq_true rfl, Nat.le_of_ble_eq_true rfl⟩ rfl h_c (by decide) rfl rfl ⟨rfl, rfl⟩ ⟨Nat.zero_le _, Nat.zero_le _⟩ (zkv (fun μ2 h => ?_))
  exact zw_vret (pc := 16) (by decide +kernel) rfl (Nat.le_refl _) (Nat.le_refl _) ⟨_, rfl, rfl, h⟩
theorem sg_X3_clear {g : zG} {φ : zMu → Prop} {c : Nat} {v1 : Int} {μ : zMu} (h_c : zS c 3 2)
    (h : zOv g zm_J7_fill_53178 [.ref (c + 1), .int (zJ 0)] (zup μ c 1 v1) (fun μ2 => φ μ2)) : zOv g zm_X3_clear [.ref c, .int (zJ v1)] μ φ := by
  refine zok_of (by decide +kernel) rfl ?_
  show zWP g zm_X3_clear (zmo g zm_X3_clear (zΦv φ)) 0 [(0, .ref c), (1, .int (zJ v1))] [] 0 0 (zw μ)
  refine zw_aload_n (pc := 0) (n := 0) (i := 0) 0 (by decide +kernel) rfl rfl ?_
  refine zw_iload_n (pc := 1) (n := 1) (i := 1) 1 (by decide +kernel) rfl rfl ?_
  refine zx_putI (pc := 2) zf_3_15 (by decide +kernel) rfl h_c ?_
  refine zw_aload_n (pc := 5) (n := 0) (i := 0) 0 (by decide +kernel) rfl rfl ?_
  have q1 : zS (c + 1) 12 81 := zq 0 h_c rfl
  refine zx_getR (pc := 6) (o := 1) (r := (c + 1)) zf_3_9 (by decide +kernel) rfl h_c rfl (by decide) rfl ?_
  refine zw_iconst (pc := 9) (n := 0) (by decide +kernel) ?_
  refine zx_callS (pc := 10) (As := [.ref (c + 1), .int (zJ 0)]) h zi_J7_fill_53178 zis_J7_fill_53178 zl_3_19 (by decide +kernel) ⟨Nat.le_of_ble_eq_true rfl, Nat.le_of_ble_eq_true rfl⟩ rfl rfl ⟨rfl, rfl⟩ ⟨Nat.zero_le _, Nat.zero_le _⟩ (zkv (fun μ2 h => ?_))
  exact zw_vret (pc := 13) (by decide +kernel) rfl (Nat.le_refl _) (Nat.le_refl _) ⟨_, rfl, rfl, h⟩
theorem sg_X3_isMissing {g : zG} {φ : Int → zMu → Prop} {c : Nat} {μ : zMu} (h_c : zS c 3 2)
    (h : (zR (μ c 1)) ∧ ((¬ (μ c 1) = 0 → φ 0 μ) ∧ ((μ c 1) = 0 → φ 1 μ))) : zOi g zm_X3_isMissing [.ref c] μ φ := by
  refine zok_of (by decide +kernel) rfl ?_
  show zWP g zm_X3_isMissing (zmo g zm_X3_isMissing (zΦi φ)) 0 [(0, .ref c)] [] 0 0 (zw μ)
  obtain ⟨o1, h⟩ := h
  refine zw_aload_n (pc := 0) (n := 0) (i := 0) 0 (by decide +kernel) rfl rfl ?_
  refine zx_getI (pc := 1) zf_3_15 (by decide +kernel) rfl h_c ?_
  refine zw_if_ne (pc := 4) (off := 7) (tgt := 11) (by decide +kernel) (by decide) o1 (fun hc => ?_) (fun hc => ?_)
  · replace h := h.1 hc
    refine zw_iconst (pc := 11) (n := 0) (by decide +kernel) ?_
    exact zw_zret (pc := 12) (by decide +kernel) rfl (Nat.le_refl _) (Nat.le_refl _) (Or.inl rfl) ⟨_, _, rfl, rfl, h⟩
  · replace h := h.2 hc
    refine zw_iconst (pc := 7) (n := 1) (by decide +kernel) ?_
    refine zw_goto (pc := 8) (off := 4) (tgt := 12) (by decide +kernel) (by decide) ?_
    exact zw_zret (pc := 12) (by decide +kernel) rfl (Nat.le_refl _) (Nat.le_refl _) (Or.inr rfl) ⟨_, _, rfl, rfl, h⟩
abbrev at_X3_leadingTerm_3 (g : zG) (φ : Int → zMu → Prop) (c : Nat) (v1 : Int) (μ : zMu) : Prop := zWP g zm_X3_leadingTerm (zmo g zm_X3_leadingTerm (zΦi φ)) 3 [(0, .ref c), (1, .int (zJ v1))] [] 0 0 (zw μ)
theorem sg_X3_leadingTerm {g : zG} {φ : Int → zMu → Prop} {c : Nat} {μ : zMu} (h_c : zS c 3 2)
    (h : at_X3_leadingTerm_3 g φ c 80 μ) : zOi g zm_X3_leadingTerm [.ref c] μ φ := by
  refine zok_of (by decide +kernel) rfl ?_
  show zWP g zm_X3_leadingTerm (zmo g zm_X3_leadingTerm (zΦi φ)) 0 [(0, .ref c)] [] 0 0 (zw μ)
  refine zw_bipush (pc := 0) (n := 80) (by decide +kernel) (by decide +kernel) ?_
  refine zw_istore_n (pc := 2) (n := 1) (i := 1) (lv' := [(0, .ref c), (1, .int (zJ 80))]) (by decide +kernel) rfl (Nat.le_of_ble_eq_true rfl) rfl ?_
  exact h
theorem sg_X3_leadingTerm_3 {g : zG} {φ : Int → zMu → Prop} {c : Nat} {v1 : Int} {μ : zMu} (h_c : zS c 3 2)
    (h : (zR v1) ∧ ((v1 < 0 → φ (-5) μ) ∧ (0 ≤ v1 → (0 ≤ v1 ∧ v1 < 81) ∧ (zR (μ (c + 1) v1.toNat)) ∧ (((μ (c + 1) v1.toNat) = 0 → at_X3_leadingTerm_3 g φ c (v1 + (-1)) μ) ∧ (¬ (μ (c + 1) v1.toNat) = 0 → φ ((10 * (v1.tdiv 9)) + (v1.tmod 9)) μ))))) : at_X3_leadingTerm_3 g φ c v1 μ := by
  obtain ⟨o1, h⟩ := h
  refine zw_iload_n (pc := 3) (n := 1) (i := 1) 1 (by decide +kernel) rfl rfl ?_
  refine zw_if_lt (pc := 4) (off := 31) (tgt := 35) (by decide +kernel) (by decide) o1 (fun hc => ?_) (fun hc => ?_)
  · replace h := h.1 hc
    refine zw_bipush (pc := 35) (n := (-5)) (by decide +kernel) (by decide +kernel) ?_
    exact zw_iret (pc := 37) (by decide +kernel) rfl (Nat.le_refl _) (Nat.le_refl _) ⟨_, _, rfl, rfl, h⟩
  · replace h := h.2 hc
    obtain ⟨o3, o4, h⟩ := h
    refine zw_aload_n (pc := 7) (n := 0) (i := 0) 0 (by decide +kernel) rfl rfl ?_
    have q2 : zS (c + 1) 12 81 := zq 0 h_c rfl
    refine zx_getR (pc := 8) (o := 1) (r := (c + 1)) zf_3_9 (by decide +kernel) rfl h_c rfl (by decide) rfl ?_
    refine zw_iload_n (pc := 11) (n := 1) (i := 1) 1 (by decide +kernel) rfl rfl ?_
    refine zx_iaload (pc := 12) (by decide +kernel) ⟨81, q2, o3.1, o3.2⟩ ?_
    refine zw_if_eq (pc := 13) (off := 16) (tgt := 29) (by decide +kernel) (by decide) o4 (fun hc => ?_) (fun hc => ?_)
    · replace h := h.1 hc
      refine zw_iinc (pc := 29) (i := 1) (n := (-1)) (lv' := [(0, .ref c), (1, .int (zJ (v1 + (-1))))]) 1 (by decide +kernel) rfl rfl (Nat.le_of_ble_eq_true rfl) rfl ?_
      refine zw_goto (pc := 32) (off := (-29)) (tgt := 3) (by decide +kernel) (by decide) ?_
      exact h
    · replace h := h.2 hc
      refine zw_bipush (pc := 16) (n := 10) (by decide +kernel) (by decide +kernel) ?_
      refine zw_iload_n (pc := 18) (n := 1) (i := 1) 1 (by decide +kernel) rfl rfl ?_
      refine zw_bipush (pc := 19) (n := 9) (by decide +kernel) (by decide +kernel) ?_
      refine zw_idiv (pc := 21) (by decide +kernel) o1 ⟨by decide, by decide⟩ (by decide) ?_
      refine zw_imul (pc := 22) (by decide +kernel) ?_
      refine zw_iload_n (pc := 23) (n := 1) (i := 1) 1 (by decide +kernel) rfl rfl ?_
      refine zw_bipush (pc := 24) (n := 9) (by decide +kernel) (by decide +kernel) ?_
      refine zw_irem (pc := 26) (by decide +kernel) o1 ⟨by decide, by decide⟩ (by decide) ?_
      refine zw_iadd (pc := 27) (by decide +kernel) ?_
      exact zw_iret (pc := 28) (by decide +kernel) rfl (Nat.le_refl _) (Nat.le_refl _) ⟨_, _, rfl, rfl, h⟩
abbrev at_X3_isSymmetric_2 (g : zG) (φ : Int → zMu → Prop) (c : Nat) (v1 : Int) (μ : zMu) : Prop := zWP g zm_X3_isSymmetric (zmo g zm_X3_isSymmetric (zΦi φ)) 2 [(0, .ref c), (1, .int (zJ v1))] [] 0 0 (zw μ)
abbrev at_X3_isSymmetric_12 (g : zG) (φ : Int → zMu → Prop) (c : Nat) (v1 : Int) (v2 : Int) (μ : zMu) : Prop := zWP g zm_X3_isSymmetric (zmo g zm_X3_isSymmetric (zΦi φ)) 12 [(0, .ref c), (1, .int (zJ v1)), (2, .int (zJ v2))] [] 0 0 (zw μ)
theorem sg_X3_isSymmetric {g : zG} {φ : Int → zMu → Prop} {c : Nat} {μ : zMu} (h_c : zS c 3 2)
    (h : at_X3_isSymmetric_2 g φ c 0 μ) : zOi g zm_X3_isSymmetric [.ref c] μ φ := by
  refine zok_of (by decide +kernel) rfl ?_
  show zWP g zm_X3_isSymmetric (zmo g zm_X3_isSymmetric (zΦi φ)) 0 [(0, .ref c)] [] 0 0 (zw μ)
  refine zw_iconst (pc := 0) (n := 0) (by decide +kernel) ?_
  refine zw_istore_n (pc := 1) (n := 1) (i := 1) (lv' := [(0, .ref c), (1, .int (zJ 0))]) (by decide +kernel) rfl (Nat.le_of_ble_eq_true rfl) rfl ?_
  exact h
theorem sg_X3_isSymmetric_2 {g : zG} {φ : Int → zMu → Prop} {c : Nat} {v1 : Int} {μ : zMu} (h_c : zS c 3 2)
    (h : (zR v1) ∧ (zR (μ c 1)) ∧ (((μ c 1) < v1 → φ 1 μ) ∧ (v1 ≤ (μ c 1) → at_X3_isSymmetric_12 g φ c v1 0 μ))) : at_X3_isSymmetric_2 g φ c v1 μ := by
  obtain ⟨o1, o2, h⟩ := h
  refine zw_iload_n (pc := 2) (n := 1) (i := 1) 1 (by decide +kernel) rfl rfl ?_
  refine zw_aload_n (pc := 3) (n := 0) (i := 0) 0 (by decide +kernel) rfl rfl ?_
  refine zx_getI (pc := 4) zf_3_15 (by decide +kernel) rfl h_c ?_
  refine zw_icmp_gt (pc := 7) (off := 49) (tgt := 56) (by decide +kernel) (by decide) o1 o2 (fun hc => ?_) (fun hc => ?_)
  · replace h := h.1 hc
    refine zw_iconst (pc := 56) (n := 1) (by decide +kernel) ?_
    exact zw_zret (pc := 57) (by decide +kernel) rfl (Nat.le_refl _) (Nat.le_refl _) (Or.inr rfl) ⟨_, _, rfl, rfl, h⟩
  · replace h := h.2 hc
    refine zw_iconst (pc := 10) (n := 0) (by decide +kernel) ?_
    refine zw_istore_n (pc := 11) (n := 2) (i := 2) (lv' := [(0, .ref c), (1, .int (zJ v1)), (2, .int (zJ 0))]) (by decide +kernel) rfl (Nat.le_of_ble_eq_true rfl) rfl ?_
    exact h
theorem sg_X3_isSymmetric_12 {g : zG} {φ : Int → zMu → Prop} {c : Nat} {v1 : Int} {v2 : Int} {μ : zMu} (h_c : zS c 3 2)
    (h : (zR v2) ∧ (zR v1) ∧ ((v1 ≤ v2 → at_X3_isSymmetric_2 g φ c (v1 + 1) μ) ∧ (v2 < v1 → (0 ≤ ((9 * v1) + v2) ∧ ((9 * v1) + v2) < 81) ∧ (0 ≤ ((9 * v2) + v1) ∧ ((9 * v2) + v1) < 81) ∧ (zR (μ (c + 1) (Int.toNat ((9 * v1) + v2)))) ∧ (zR (μ (c + 1) (Int.toNat ((9 * v2) + v1)))) ∧ (((μ (c + 1) (Int.toNat ((9 * v1) + v2))) = (μ (c + 1) (Int.toNat ((9 * v2) + v1))) → at_X3_isSymmetric_12 g φ c v1 (v2 + 1) μ) ∧ (¬ (μ (c + 1) (Int.toNat ((9 * v1) + v2))) = (μ (c + 1) (Int.toNat ((9 * v2) + v1))) → φ 0 μ))))) : at_X3_isSymmetric_12 g φ c v1 v2 μ := by
  obtain ⟨o1, o2, h⟩ := h
  refine zw_iload_n (pc := 12) (n := 2) (i := 2) 2 (by decide +kernel) rfl rfl ?_
  refine zw_iload_n (pc := 13) (n := 1) (i := 1) 1 (by decide +kernel) rfl rfl ?_
  refine zw_icmp_ge (pc := 14) (off := 36) (tgt := 50) (by decide +kernel) (by decide) o1 o2 (fun hc => ?_) (fun hc => ?_)
  · replace h := h.1 hc
    refine zw_iinc (pc := 50) (i := 1) (n := 1) (lv' := [(0, .ref c), (1, .int (zJ (v1 + 1))), (2, .int (zJ v2))]) 1 (by decide +kernel) rfl rfl (Nat.le_of_ble_eq_true rfl) rfl ?_
    refine zw_goto (pc := 53) (off := (-51)) (tgt := 2) (by decide +kernel) (by decide) ?_
    exact zw_pick (lv' := [(0, .ref c), (1, .int (zJ (v1 + 1)))]) [0, 1] rfl h
  · replace h := h.2 hc
    obtain ⟨o4, o6, o7, o8, h⟩ := h
    refine zw_aload_n (pc := 17) (n := 0) (i := 0) 0 (by decide +kernel) rfl rfl ?_
    have q3 : zS (c + 1) 12 81 := zq 0 h_c rfl
    refine zx_getR (pc := 18) (o := 1) (r := (c + 1)) zf_3_9 (by decide +kernel) rfl h_c rfl (by decide) rfl ?_
    refine zw_bipush (pc := 21) (n := 9) (by decide +kernel) (by decide +kernel) ?_
    refine zw_iload_n (pc := 23) (n := 1) (i := 1) 1 (by decide +kernel) rfl rfl ?_
    refine zw_imul (pc := 24) (by decide +kernel) ?_
    refine zw_iload_n (pc := 25) (n := 2) (i := 2) 2 (by decide +kernel) rfl rfl ?_
    refine zw_iadd (pc := 26) (by decide +kernel) ?_
    refine zx_iaload (pc := 27) (by decide +kernel) ⟨81, q3, o4.1, o4.2⟩ ?_
    refine zw_aload_n (pc := 28) (n := 0) (i := 0) 0 (by decide +kernel) rfl rfl ?_
    have q5 : zS (c + 1) 12 81 := zq 0 h_c rfl
    refine zx_getR (pc := 29) (o := 1) (r := (c + 1)) zf_3_9 (by decide +kernel) rfl h_c rfl (by decide) rfl ?_
    refine zw_bipush (pc := 32) (n := 9) (by decide +kernel) (by decide +kernel) ?_
    refine zw_iload_n (pc := 34) (n := 2) (i := 2) 2 (by decide +kernel) rfl rfl ?_
    refine zw_imul (pc := 35) (by decide +kernel) ?_
    refine zw_iload_n (pc := 36) (n := 1) (i := 1) 1 (by decide +kernel) rfl rfl ?_
    refine zw_iadd (pc := 37) (by decide +kernel) ?_
    refine zx_iaload (pc := 38) (by decide +kernel) ⟨81, q5, o6.1, o6.2⟩ ?_
    refine zw_icmp_eq (pc := 39) (off := 5) (tgt := 44) (by decide +kernel) (by decide) o7 o8 (fun hc => ?_) (fun hc => ?_)
    · replace h := h.1 hc
      refine zw_iinc (pc := 44) (i := 2) (n := 1) (lv' := [(0, .ref c), (1, .int (zJ v1)), (2, .int (zJ (v2 + 1)))]) 2 (by decide +kernel) rfl rfl (Nat.le_of_ble_eq_true rfl) rfl ?_
      refine zw_goto (pc := 47) (off := (-35)) (tgt := 12) (by decide +kernel) (by decide) ?_
      exact h
    · replace h := h.2 hc
      refine zw_iconst (pc := 42) (n := 0) (by decide +kernel) ?_
      exact zw_zret (pc := 43) (by decide +kernel) rfl (Nat.le_refl _) (Nat.le_refl _) (Or.inl rfl) ⟨_, _, rfl, rfl, h⟩
abbrev at_X3_nonzeroCount_4 (g : zG) (φ : Int → zMu → Prop) (c : Nat) (v1 : Int) (v2 : Int) (μ : zMu) : Prop := zWP g zm_X3_nonzeroCount (zmo g zm_X3_nonzeroCount (zΦi φ)) 4 [(0, .ref c), (1, .int (zJ v1)), (2, .int (zJ v2))] [] 0 0 (zw μ)
theorem sg_X3_nonzeroCount {g : zG} {φ : Int → zMu → Prop} {c : Nat} {μ : zMu} (h_c : zS c 3 2)
    (h : at_X3_nonzeroCount_4 g φ c 0 0 μ) : zOi g zm_X3_nonzeroCount [.ref c] μ φ := by
  refine zok_of (by decide +kernel) rfl ?_
  show zWP g zm_X3_nonzeroCount (zmo g zm_X3_nonzeroCount (zΦi φ)) 0 [(0, .ref c)] [] 0 0 (zw μ)
  refine zw_iconst (pc := 0) (n := 0) (by decide +kernel) ?_
  refine zw_istore_n (pc := 1) (n := 1) (i := 1) (lv' := [(0, .ref c), (1, .int (zJ 0))]) (by decide +kernel) rfl (Nat.le_of_ble_eq_true rfl) rfl ?_
  refine zw_iconst (pc := 2) (n := 0) (by decide +kernel) ?_
  refine zw_istore_n (pc := 3) (n := 2) (i := 2) (lv' := [(0, .ref c), (1, .int (zJ 0)), (2, .int (zJ 0))]) (by decide +kernel) rfl (Nat.le_of_ble_eq_true rfl) rfl ?_
  exact h
theorem sg_X3_nonzeroCount_4 {g : zG} {φ : Int → zMu → Prop} {c : Nat} {v1 : Int} {v2 : Int} {μ : zMu} (h_c : zS c 3 2)
    (h : (zR v2) ∧ ((81 ≤ v2 → φ v1 μ) ∧ (v2 < 81 → (0 ≤ v2 ∧ v2 < 81) ∧ (zR (μ (c + 1) v2.toNat)) ∧ (((μ (c + 1) v2.toNat) = 0 → at_X3_nonzeroCount_4 g φ c v1 (v2 + 1) μ) ∧ (¬ (μ (c + 1) v2.toNat) = 0 → at_X3_nonzeroCount_4 g φ c (v1 + 1) (v2 + 1) μ))))) : at_X3_nonzeroCount_4 g φ c v1 v2 μ := by
  obtain ⟨o1, h⟩ := h
  refine zw_iload_n (pc := 4) (n := 2) (i := 2) 2 (by decide +kernel) rfl rfl ?_
  refine zw_bipush (pc := 5) (n := 81) (by decide +kernel) (by decide +kernel) ?_
  refine zw_icmp_ge (pc := 7) (off := 21) (tgt := 28) (by decide +kernel) (by decide) o1 ⟨by decide, by decide⟩ (fun hc => ?_) (fun hc => ?_)
  · replace h := h.1 hc
    refine zw_iload_n (pc := 28) (n := 1) (i := 1) 1 (by decide +kernel) rfl rfl ?_
    exact zw_iret (pc := 29) (by decide +kernel) rfl (Nat.le_refl _) (Nat.le_refl _) ⟨_, _, rfl, rfl, h⟩
  · replace h := h.2 hc
    obtain ⟨o3, o4, h⟩ := h
    refine zw_aload_n (pc := 10) (n := 0) (i := 0) 0 (by decide +kernel) rfl rfl ?_
    have q2 : zS (c + 1) 12 81 := zq 0 h_c rfl
    refine zx_getR (pc := 11) (o := 1) (r := (c + 1)) zf_3_9 (by decide +kernel) rfl h_c rfl (by decide) rfl ?_
    refine zw_iload_n (pc := 14) (n := 2) (i := 2) 2 (by decide +kernel) rfl rfl ?_
    refine zx_iaload (pc := 15) (by decide +kernel) ⟨81, q2, o3.1, o3.2⟩ ?_
    refine zw_if_eq (pc := 16) (off := 6) (tgt := 22) (by decide +kernel) (by decide) o4 (fun hc => ?_) (fun hc => ?_)
    · replace h := h.1 hc
      refine zw_iinc (pc := 22) (i := 2) (n := 1) (lv' := [(0, .ref c), (1, .int (zJ v1)), (2, .int (zJ (v2 + 1)))]) 2 (by decide +kernel) rfl rfl (Nat.le_of_ble_eq_true rfl) rfl ?_
      refine zw_goto (pc := 25) (off := (-21)) (tgt := 4) (by decide +kernel) (by decide) ?_
      exact h
    · replace h := h.2 hc
      refine zw_iinc (pc := 19) (i := 1) (n := 1) (lv' := [(0, .ref c), (1, .int (zJ (v1 + 1))), (2, .int (zJ v2))]) 1 (by decide +kernel) rfl rfl (Nat.le_of_ble_eq_true rfl) rfl ?_
      refine zw_iinc (pc := 22) (i := 2) (n := 1) (lv' := [(0, .ref c), (1, .int (zJ (v1 + 1))), (2, .int (zJ (v2 + 1)))]) 2 (by decide +kernel) rfl rfl (Nat.le_of_ble_eq_true rfl) rfl ?_
      refine zw_goto (pc := 25) (off := (-21)) (tgt := 4) (by decide +kernel) (by decide) ?_
      exact h
theorem sg_X3_has {g : zG} {φ : Int → zMu → Prop} {c : Nat} {v1 : Int} {v2 : Int} {μ : zMu} (h_c : zS c 3 2)
    (h : (zR v1) ∧ (zR (μ c 1)) ∧ (((μ c 1) < v1 → φ 0 μ) ∧ (v1 ≤ (μ c 1) → (zR v2) ∧ (((μ c 1) < v2 → φ 0 μ) ∧ (v2 ≤ (μ c 1) → φ 1 μ))))) : zOi g zm_X3_has [.ref c, .int (zJ v1), .int (zJ v2)] μ φ := by
  refine zok_of (by decide +kernel) rfl ?_
  show zWP g zm_X3_has (zmo g zm_X3_has (zΦi φ)) 0 [(0, .ref c), (1, .int (zJ v1)), (2, .int (zJ v2))] [] 0 0 (zw μ)
  obtain ⟨o1, o2, h⟩ := h
  refine zw_iload_n (pc := 0) (n := 1) (i := 1) 1 (by decide +kernel) rfl rfl ?_
  refine zw_aload_n (pc := 1) (n := 0) (i := 0) 0 (by decide +kernel) rfl rfl ?_
  refine zx_getI (pc := 2) zf_3_15 (by decide +kernel) rfl h_c ?_
  refine zw_icmp_gt (pc := 5) (off := 15) (tgt := 20) (by decide +kernel) (by decide) o1 o2 (fun hc => ?_) (fun hc => ?_)
  · replace h := h.1 hc
    refine zw_iconst (pc := 20) (n := 0) (by decide +kernel) ?_
    exact zw_zret (pc := 21) (by decide +kernel) rfl (Nat.le_refl _) (Nat.le_refl _) (Or.inl rfl) ⟨_, _, rfl, rfl, h⟩
  · replace h := h.2 hc
    obtain ⟨o3, h⟩ := h
    refine zw_iload_n (pc := 8) (n := 2) (i := 2) 2 (by decide +kernel) rfl rfl ?_
    refine zw_aload_n (pc := 9) (n := 0) (i := 0) 0 (by decide +kernel) rfl rfl ?_
    refine zx_getI (pc := 10) zf_3_15 (by decide +kernel) rfl h_c ?_
    refine zw_icmp_gt (pc := 13) (off := 7) (tgt := 20) (by decide +kernel) (by decide) o3 o2 (fun hc => ?_) (fun hc => ?_)
    · replace h := h.1 hc
      refine zw_iconst (pc := 20) (n := 0) (by decide +kernel) ?_
      exact zw_zret (pc := 21) (by decide +kernel) rfl (Nat.le_refl _) (Nat.le_refl _) (Or.inl rfl) ⟨_, _, rfl, rfl, h⟩
    · replace h := h.2 hc
      refine zw_iconst (pc := 16) (n := 1) (by decide +kernel) ?_
      refine zw_goto (pc := 17) (off := 4) (tgt := 21) (by decide +kernel) (by decide) ?_
      exact zw_zret (pc := 21) (by decide +kernel) rfl (Nat.le_refl _) (Nat.le_refl _) (Or.inr rfl) ⟨_, _, rfl, rfl, h⟩
abbrev at_X3_valueOf_9 (g : zG) (φ : Int → zMu → Prop) (c : Nat) (v1 : Int) (v2 : Int) (v3 : Int) (v4 : Int) (v5 : Int) (μ : zMu) : Prop := zWP g zm_X3_valueOf (zmo g zm_X3_valueOf (zΦi φ)) 9 [(0, .ref c), (1, .int (zJ v1)), (2, .int (zJ v2)), (3, .int (zJ v3)), (4, .int (zJ v4)), (5, .int (zJ v5))] [] 0 0 (zw μ)
abbrev at_X3_valueOf_23 (g : zG) (φ : Int → zMu → Prop) (c : Nat) (v1 : Int) (v2 : Int) (v3 : Int) (v4 : Int) (v5 : Int) (v6 : Int) (v7 : Int) (μ : zMu) : Prop := zWP g zm_X3_valueOf (zmo g zm_X3_valueOf (zΦi φ)) 23 [(0, .ref c), (1, .int (zJ v1)), (2, .int (zJ v2)), (3, .int (zJ v3)), (4, .int (zJ v4)), (5, .int (zJ v5)), (6, .int (zJ v6)), (7, .int (zJ v7))] [] 0 0 (zw μ)
theorem sg_X3_valueOf {g : zG} {φ : Int → zMu → Prop} {c : Nat} {v1 : Int} {v2 : Int} {v3 : Int} {μ : zMu} (h_c : zS c 3 2)
    (h : at_X3_valueOf_9 g φ c v1 v2 v3 0 (μ c 1) μ) : zOi g zm_X3_valueOf [.ref c, .int (zJ v1), .int (zJ v2), .int (zJ v3)] μ φ := by
  refine zok_of (by decide +kernel) rfl ?_
  show zWP g zm_X3_valueOf (zmo g zm_X3_valueOf (zΦi φ)) 0 [(0, .ref c), (1, .int (zJ v1)), (2, .int (zJ v2)), (3, .int (zJ v3))] [] 0 0 (zw μ)
  refine zw_iconst (pc := 0) (n := 0) (by decide +kernel) ?_
  refine zw_istore (pc := 1) (i := 4) (lv' := [(0, .ref c), (1, .int (zJ v1)), (2, .int (zJ v2)), (3, .int (zJ v3)), (4, .int (zJ 0))]) (by decide +kernel) (Nat.le_of_ble_eq_true rfl) rfl ?_
  refine zw_aload_n (pc := 3) (n := 0) (i := 0) 0 (by decide +kernel) rfl rfl ?_
  refine zx_getI (pc := 4) zf_3_15 (by decide +kernel) rfl h_c ?_
  refine zw_istore (pc := 7) (i := 5) (lv' := [(0, .ref c), (1, .int (zJ v1)), (2, .int (zJ v2)), (3, .int (zJ v3)), (4, .int (zJ 0)), (5, .int (zJ (μ c 1)))]) (by decide +kernel) (Nat.le_of_ble_eq_true rfl) rfl ?_
  exact h
theorem sg_X3_valueOf_9 {g : zG} {φ : Int → zMu → Prop} {c : Nat} {v1 : Int} {v2 : Int} {v3 : Int} {v4 : Int} {v5 : Int} {μ : zMu} (h_c : zS c 3 2)
    (h : (zR v5) ∧ ((v5 < 0 → φ v4 μ) ∧ (0 ≤ v5 → at_X3_valueOf_23 g φ c v1 v2 v3 v4 v5 0 (μ c 1) μ))) : at_X3_valueOf_9 g φ c v1 v2 v3 v4 v5 μ := by
  obtain ⟨o1, h⟩ := h
  refine zw_iload (pc := 9) (i := 5) 5 (by decide +kernel) rfl ?_
  refine zw_if_lt (pc := 11) (off := 62) (tgt := 73) (by decide +kernel) (by decide) o1 (fun hc => ?_) (fun hc => ?_)
  · replace h := h.1 hc
    refine zw_iload (pc := 73) (i := 4) 4 (by decide +kernel) rfl ?_
    exact zw_iret (pc := 75) (by decide +kernel) rfl (Nat.le_refl _) (Nat.le_refl _) ⟨_, _, rfl, rfl, h⟩
  · replace h := h.2 hc
    refine zw_iconst (pc := 14) (n := 0) (by decide +kernel) ?_
    refine zw_istore (pc := 15) (i := 6) (lv' := [(0, .ref c), (1, .int (zJ v1)), (2, .int (zJ v2)), (3, .int (zJ v3)), (4, .int (zJ v4)), (5, .int (zJ v5)), (6, .int (zJ 0))]) (by decide +kernel) (Nat.le_of_ble_eq_true rfl) rfl ?_
    refine zw_aload_n (pc := 17) (n := 0) (i := 0) 0 (by decide +kernel) rfl rfl ?_
    refine zx_getI (pc := 18) zf_3_15 (by decide +kernel) rfl h_c ?_
    refine zw_istore (pc := 21) (i := 7) (lv' := [(0, .ref c), (1, .int (zJ v1)), (2, .int (zJ v2)), (3, .int (zJ v3)), (4, .int (zJ v4)), (5, .int (zJ v5)), (6, .int (zJ 0)), (7, .int (zJ (μ c 1)))]) (by decide +kernel) (Nat.le_of_ble_eq_true rfl) rfl ?_
    exact h
theorem sg_X3_valueOf_23 {g : zG} {φ : Int → zMu → Prop} {c : Nat} {v1 : Int} {v2 : Int} {v3 : Int} {v4 : Int} {v5 : Int} {v6 : Int} {v7 : Int} {μ : zMu} (h_c : zS c 3 2)
    (h : (zR v7) ∧ ((v7 < 0 → (zR ((v4 * v1) + v6)) ∧ (zR v3) ∧ (v3 ≠ 0) ∧ at_X3_valueOf_9 g φ c v1 v2 v3 (((v4 * v1) + v6).tmod v3) (v5 + (-1)) μ) ∧ (0 ≤ v7 → (0 ≤ ((9 * v5) + v7) ∧ ((9 * v5) + v7) < 81) ∧ (zR ((v6 * v2) + (μ (c + 1) (Int.toNat ((9 * v5) + v7))))) ∧ (zR v3) ∧ (v3 ≠ 0) ∧ at_X3_valueOf_23 g φ c v1 v2 v3 v4 v5 (((v6 * v2) + (μ (c + 1) (Int.toNat ((9 * v5) + v7)))).tmod v3) (v7 + (-1)) μ))) : at_X3_valueOf_23 g φ c v1 v2 v3 v4 v5 v6 v7 μ := by
  obtain ⟨o1, h⟩ := h
  refine zw_iload (pc := 23) (i := 7) 7 (by decide +kernel) rfl ?_
  refine zw_if_lt (pc := 25) (off := 31) (tgt := 56) (by decide +kernel) (by decide) o1 (fun hc => ?_) (fun hc => ?_)
  · replace h := h.1 hc
    obtain ⟨o2, o3, o4, h⟩ := h
    refine zw_iload (pc := 56) (i := 4) 4 (by decide +kernel) rfl ?_
    refine zw_iload_n (pc := 58) (n := 1) (i := 1) 1 (by decide +kernel) rfl rfl ?_
    refine zw_imul (pc := 59) (by decide +kernel) ?_
    refine zw_iload (pc := 60) (i := 6) 6 (by decide +kernel) rfl ?_
    refine zw_iadd (pc := 62) (by decide +kernel) ?_
    refine zw_iload_n (pc := 63) (n := 3) (i := 3) 3 (by decide +kernel) rfl rfl ?_
    refine zw_irem (pc := 64) (by decide +kernel) o2 o3 o4 ?_
    refine zw_istore (pc := 65) (i := 4) (lv' := [(0, .ref c), (1, .int (zJ v1)), (2, .int (zJ v2)), (3, .int (zJ v3)), (4, .int (zJ (((v4 * v1) + v6).tmod v3))), (5, .int (zJ v5)), (6, .int (zJ v6)), (7, .int (zJ v7))]) (by decide +kernel) (Nat.le_of_ble_eq_true rfl) rfl ?_
    refine zw_iinc (pc := 67) (i := 5) (n := (-1)) (lv' := [(0, .ref c), (1, .int (zJ v1)), (2, .int (zJ v2)), (3, .int (zJ v3)), (4, .int (zJ (((v4 * v1) + v6).tmod v3))), (5, .int (zJ (v5 + (-1)))), (6, .int (zJ v6)), (7, .int (zJ v7))]) 5 (by decide +kernel) rfl rfl (Nat.le_of_ble_eq_true rfl) rfl ?_
    refine zw_goto (pc := 70) (off := (-61)) (tgt := 9) (by decide +kernel) (by decide) ?_
    exact zw_pick (lv' := [(0, .ref c), (1, .int (zJ v1)), (2, .int (zJ v2)), (3, .int (zJ v3)), (4, .int (zJ (((v4 * v1) + v6).tmod v3))), (5, .int (zJ (v5 + (-1))))]) [0, 1, 2, 3, 4, 5] rfl h
  · replace h := h.2 hc
    obtain ⟨o6, o7, o8, o9, h⟩ := h
    refine zw_iload (pc := 28) (i := 6) 6 (by decide +kernel) rfl ?_
    refine zw_iload_n (pc := 30) (n := 2) (i := 2) 2 (by decide +kernel) rfl rfl ?_
    refine zw_imul (pc := 31) (by decide +kernel) ?_
    refine zw_aload_n (pc := 32) (n := 0) (i := 0) 0 (by decide +kernel) rfl rfl ?_
    have q5 : zS (c + 1) 12 81 := zq 0 h_c rfl
    refine zx_getR (pc := 33) (o := 1) (r := (c + 1)) zf_3_9 (by decide +kernel) rfl h_c rfl (by decide) rfl ?_
    refine zw_bipush (pc := 36) (n := 9) (by decide +kernel) (by decide +kernel) ?_
    refine zw_iload (pc := 38) (i := 5) 5 (by decide +kernel) rfl ?_
    refine zw_imul (pc := 40) (by decide +kernel) ?_
    refine zw_iload (pc := 41) (i := 7) 7 (by decide +kernel) rfl ?_
    refine zw_iadd (pc := 43) (by decide +kernel) ?_
    refine zx_iaload (pc := 44) (by decide +kernel) ⟨81, q5, o6.1, o6.2⟩ ?_
    refine zw_iadd (pc := 45) (by decide +kernel) ?_
    refine zw_iload_n (pc := 46) (n := 3) (i := 3) 3 (by decide +kernel) rfl rfl ?_
    refine zw_irem (pc := 47) (by decide +kernel) o7 o8 o9 ?_
    refine zw_istore (pc := 48) (i := 6) (lv' := [(0, .ref c), (1, .int (zJ v1)), (2, .int (zJ v2)), (3, .int (zJ v3)), (4, .int (zJ v4)), (5, .int (zJ v5)), (6, .int (zJ (((v6 * v2) + (μ (c + 1) (Int.toNat ((9 * v5) + v7)))).tmod v3))), (7, .int (zJ v7))]) (by decide +kernel) (Nat.le_of_ble_eq_true rfl) rfl ?_
    refine zw_iinc (pc := 50) (i := 7) (n := (-1)) (lv' := [(0, .ref c), (1, .int (zJ v1)), (2, .int (zJ v2)), (3, .int (zJ v3)), (4, .int (zJ v4)), (5, .int (zJ v5)), (6, .int (zJ (((v6 * v2) + (μ (c + 1) (Int.toNat ((9 * v5) + v7)))).tmod v3))), (7, .int (zJ (v7 + (-1))))]) 7 (by decide +kernel) rfl rfl (Nat.le_of_ble_eq_true rfl) rfl ?_
    refine zw_goto (pc := 53) (off := (-30)) (tgt := 23) (by decide +kernel) (by decide) ?_
    exact h
abbrev at_X3_lineCoefficient_9 (g : zG) (φ : Int → zMu → Prop) (c : Nat) (v1 : Int) (v2 : Int) (v3 : Int) (v4 : Int) (v5 : Int) (μ : zMu) : Prop := zWP g zm_X3_lineCoefficient (zmo g zm_X3_lineCoefficient (zΦi φ)) 9 [(0, .ref c), (1, .int (zJ v1)), (2, .int (zJ v2)), (3, .int (zJ v3)), (4, .int (zJ v4)), (5, .int (zJ v5))] [] 0 0 (zw μ)
theorem sg_X3_lineCoefficient {g : zG} {φ : Int → zMu → Prop} {c : Nat} {v1 : Int} {v2 : Int} {v3 : Int} {μ : zMu} (h_c : zS c 3 2)
    (h : at_X3_lineCoefficient_9 g φ c v1 v2 v3 0 (μ c 1) μ) : zOi g zm_X3_lineCoefficient [.ref c, .int (zJ v1), .int (zJ v2), .int (zJ v3)] μ φ := by
  refine zok_of (by decide +kernel) rfl ?_
  show zWP g zm_X3_lineCoefficient (zmo g zm_X3_lineCoefficient (zΦi φ)) 0 [(0, .ref c), (1, .int (zJ v1)), (2, .int (zJ v2)), (3, .int (zJ v3))] [] 0 0 (zw μ)
  refine zw_iconst (pc := 0) (n := 0) (by decide +kernel) ?_
  refine zw_istore (pc := 1) (i := 4) (lv' := [(0, .ref c), (1, .int (zJ v1)), (2, .int (zJ v2)), (3, .int (zJ v3)), (4, .int (zJ 0))]) (by decide +kernel) (Nat.le_of_ble_eq_true rfl) rfl ?_
  refine zw_aload_n (pc := 3) (n := 0) (i := 0) 0 (by decide +kernel) rfl rfl ?_
  refine zx_getI (pc := 4) zf_3_15 (by decide +kernel) rfl h_c ?_
  refine zw_istore (pc := 7) (i := 5) (lv' := [(0, .ref c), (1, .int (zJ v1)), (2, .int (zJ v2)), (3, .int (zJ v3)), (4, .int (zJ 0)), (5, .int (zJ (μ c 1)))]) (by decide +kernel) (Nat.le_of_ble_eq_true rfl) rfl ?_
  exact h
theorem sg_X3_lineCoefficient_9 {g : zG} {φ : Int → zMu → Prop} {c : Nat} {v1 : Int} {v2 : Int} {v3 : Int} {v4 : Int} {v5 : Int} {μ : zMu} (h_c : zS c 3 2)
    (h : (zR v5) ∧ ((v5 < 0 → φ v4 μ) ∧ (0 ≤ v5 → (0 ≤ ((9 * v5) + v2) ∧ ((9 * v5) + v2) < 81) ∧ (zR ((v4 * v1) + (μ (c + 1) (Int.toNat ((9 * v5) + v2))))) ∧ (zR v3) ∧ (v3 ≠ 0) ∧ at_X3_lineCoefficient_9 g φ c v1 v2 v3 (((v4 * v1) + (μ (c + 1) (Int.toNat ((9 * v5) + v2)))).tmod v3) (v5 + (-1)) μ))) : at_X3_lineCoefficient_9 g φ c v1 v2 v3 v4 v5 μ := by
  obtain ⟨o1, h⟩ := h
  refine zw_iload (pc := 9) (i := 5) 5 (by decide +kernel) rfl ?_
  refine zw_if_lt (pc := 11) (off := 30) (tgt := 41) (by decide +kernel) (by decide) o1 (fun hc => ?_) (fun hc => ?_)
  · replace h := h.1 hc
    refine zw_iload (pc := 41) (i := 4) 4 (by decide +kernel) rfl ?_
    exact zw_iret (pc := 43) (by decide +kernel) rfl (Nat.le_refl _) (Nat.le_refl _) ⟨_, _, rfl, rfl, h⟩
  · replace h := h.2 hc
    obtain ⟨o3, o4, o5, o6, h⟩ := h
    refine zw_iload (pc := 14) (i := 4) 4 (by decide +kernel) rfl ?_
    refine zw_iload_n (pc := 16) (n := 1) (i := 1) 1 (by decide +kernel) rfl rfl ?_
    refine zw_imul (pc := 17) (by decide +kernel) ?_
    refine zw_aload_n (pc := 18) (n := 0) (i := 0) 0 (by decide +kernel) rfl rfl ?_
    have q2 : zS (c + 1) 12 81 := zq 0 h_c rfl
    refine zx_getR (pc := 19) (o := 1) (r := (c + 1)) zf_3_9 (by decide +kernel) rfl h_c rfl (by decide) rfl ?_
    refine zw_bipush (pc := 22) (n := 9) (by decide +kernel) (by decide +kernel) ?_
    refine zw_iload (pc := 24) (i := 5) 5 (by decide +kernel) rfl ?_
    refine zw_imul (pc := 26) (by decide +kernel) ?_
    refine zw_iload_n (pc := 27) (n := 2) (i := 2) 2 (by decide +kernel) rfl rfl ?_
    refine zw_iadd (pc := 28) (by decide +kernel) ?_
    refine zx_iaload (pc := 29) (by decide +kernel) ⟨81, q2, o3.1, o3.2⟩ ?_
    refine zw_iadd (pc := 30) (by decide +kernel) ?_
    refine zw_iload_n (pc := 31) (n := 3) (i := 3) 3 (by decide +kernel) rfl rfl ?_
    refine zw_irem (pc := 32) (by decide +kernel) o4 o5 o6 ?_
    refine zw_istore (pc := 33) (i := 4) (lv' := [(0, .ref c), (1, .int (zJ v1)), (2, .int (zJ v2)), (3, .int (zJ v3)), (4, .int (zJ (((v4 * v1) + (μ (c + 1) (Int.toNat ((9 * v5) + v2)))).tmod v3))), (5, .int (zJ v5))]) (by decide +kernel) (Nat.le_of_ble_eq_true rfl) rfl ?_
    refine zw_iinc (pc := 35) (i := 5) (n := (-1)) (lv' := [(0, .ref c), (1, .int (zJ v1)), (2, .int (zJ v2)), (3, .int (zJ v3)), (4, .int (zJ (((v4 * v1) + (μ (c + 1) (Int.toNat ((9 * v5) + v2)))).tmod v3))), (5, .int (zJ (v5 + (-1))))]) 5 (by decide +kernel) rfl rfl (Nat.le_of_ble_eq_true rfl) rfl ?_
    refine zw_goto (pc := 38) (off := (-29)) (tgt := 9) (by decide +kernel) (by decide) ?_
    exact h
theorem sg_X3_copyFrom {g : zG} {φ : zMu → Prop} {c : Nat} {v1 : Nat} {μ : zMu} (h_c : zS c 3 2) (h_v1 : zS v1 3 2)
    (h : (0 ≤ (0 : Int) ∧ 0 ≤ (0 : Int) ∧ 0 ≤ (81 : Int) ∧ (0 : Int) + 81 ≤ 81 ∧ (0 : Int) + 81 ≤ 81) ∧ φ (zcp (zup μ c 1 (μ v1 1)) (v1 + 1) 0 (c + 1) 0 81)) : zOv g zm_X3_copyFrom [.ref c, .ref v1] μ φ := by
  refine zok_of (by decide +kernel) rfl ?_
  show zWP g zm_X3_copyFrom (zmo g zm_X3_copyFrom (zΦv φ)) 0 [(0, .ref c), (1, .ref v1)] [] 0 0 (zw μ)
  obtain ⟨o3, h⟩ := h
  refine zw_aload_n (pc := 0) (n := 0) (i := 0) 0 (by decide +kernel) rfl rfl ?_
  refine zw_aload_n (pc := 1) (n := 1) (i := 1) 1 (by decide +kernel) rfl rfl ?_
  refine zx_getI (pc := 2) zf_3_15 (by decide +kernel) rfl h_v1 ?_
  refine zx_putI (pc := 5) zf_3_15 (by decide +kernel) rfl h_c ?_
  refine zw_aload_n (pc := 8) (n := 1) (i := 1) 1 (by decide +kernel) rfl rfl ?_
  have q1 : zS (v1 + 1) 12 81 := zq 0 h_v1 rfl
  refine zx_getR (pc := 9) (o := 1) (r := (v1 + 1)) zf_3_9 (by decide +kernel) rfl h_v1 rfl (by decide) rfl ?_
  refine zw_iconst (pc := 12) (n := 0) (by decide +kernel) ?_
  refine zw_aload_n (pc := 13) (n := 0) (i := 0) 0 (by decide +kernel) rfl rfl ?_
  have q2 : zS (c + 1) 12 81 := zq 0 h_c rfl
  refine zx_getR (pc := 14) (o := 1) (r := (c + 1)) zf_3_9 (by decide +kernel) rfl h_c rfl (by decide) rfl ?_
  refine zw_iconst (pc := 17) (n := 0) (by decide +kernel) ?_
  refine zw_bipush (pc := 18) (n := 81) (by decide +kernel) (by decide +kernel) ?_
  refine zx_copy (pc := 20) zl_3_25 zb_cpN zb_cpS zb_cpI (by decide +kernel) ⟨Nat.le_of_ble_eq_true rfl, by decide +kernel⟩ rfl ⟨81, 81, q1, q2, o3⟩ ?_
  exact zw_vret (pc := 23) (by decide +kernel) rfl (Nat.le_refl _) (Nat.le_refl _) ⟨_, rfl, rfl, h⟩
theorem sg_X8_append {g : zG} {φ : zMu → Prop} {v1 : Int} {μ : zMu}
    (h : (0 ≤ (μ 188 1) ∧ (μ 188 1) < 100) ∧ φ (zup (zup μ 189 (Int.toNat (μ 188 1)) v1) 188 1 (((zup μ 189 (Int.toNat (μ 188 1)) v1) 188 1) + 1))) : zOv g zm_X8_append [.ref 188, .int (zJ v1)] μ φ := by
  refine zok_of (by decide +kernel) rfl ?_
  show zWP g zm_X8_append (zmo g zm_X8_append (zΦv φ)) 0 [(0, .ref 188), (1, .int (zJ v1))] [] 0 0 (zw μ)
  obtain ⟨o1, h⟩ := h
  refine zw_aload_n (pc := 0) (n := 0) (i := 0) 0 (by decide +kernel) rfl rfl ?_
  refine zx_getR (pc := 1) (o := 1) (r := 189) zf_8_9 (by decide +kernel) rfl zc_188 rfl (by decide) rfl ?_
  refine zw_aload_n (pc := 4) (n := 0) (i := 0) 0 (by decide +kernel) rfl rfl ?_
  refine zx_getI (pc := 5) zf_8_15 (by decide +kernel) rfl zc_188 ?_
  refine zw_iload_n (pc := 8) (n := 1) (i := 1) 1 (by decide +kernel) rfl rfl ?_
  refine zx_iastore (pc := 9) (by decide +kernel) ⟨100, zc_189, o1.1, o1.2⟩ ?_
  refine zw_aload_n (pc := 10) (n := 0) (i := 0) 0 (by decide +kernel) rfl rfl ?_
  refine zw_dup (pc := 11) (by decide +kernel) rfl ?_
  refine zx_getI (pc := 12) zf_8_15 (by decide +kernel) rfl zc_188 ?_
  refine zw_iconst (pc := 15) (n := 1) (by decide +kernel) ?_
  refine zw_iadd (pc := 16) (by decide +kernel) ?_
  refine zx_putI (pc := 17) zf_8_15 (by decide +kernel) rfl zc_188 ?_
  exact zw_vret (pc := 20) (by decide +kernel) rfl (Nat.le_refl _) (Nat.le_refl _) ⟨_, rfl, rfl, h⟩
theorem sg_X8_rewind {g : zG} {φ : zMu → Prop} {μ : zMu}
    (h : φ (zup μ 188 2 0)) : zOv g zm_X8_rewind [.ref 188] μ φ := by
  refine zok_of (by decide +kernel) rfl ?_
  show zWP g zm_X8_rewind (zmo g zm_X8_rewind (zΦv φ)) 0 [(0, .ref 188)] [] 0 0 (zw μ)
  refine zw_aload_n (pc := 0) (n := 0) (i := 0) 0 (by decide +kernel) rfl rfl ?_
  refine zw_iconst (pc := 1) (n := 0) (by decide +kernel) ?_
  refine zx_putI (pc := 2) zf_8_19 (by decide +kernel) rfl zc_188 ?_
  exact zw_vret (pc := 5) (by decide +kernel) rfl (Nat.le_refl _) (Nat.le_refl _) ⟨_, rfl, rfl, h⟩
abbrev at_X8_wordEnd_5 (g : zG) (φ : Int → zMu → Prop) (v1 : Int) (μ : zMu) : Prop := zWP g zm_X8_wordEnd (zmo g zm_X8_wordEnd (zΦi φ)) 5 [(0, .ref 188), (1, .int (zJ v1))] [] 0 0 (zw μ)
theorem sg_X8_wordEnd {g : zG} {φ : Int → zMu → Prop} {μ : zMu}
    (h : at_X8_wordEnd_5 g φ (μ 188 2) μ) : zOi g zm_X8_wordEnd [.ref 188] μ φ := by
  refine zok_of (by decide +kernel) rfl ?_
  show zWP g zm_X8_wordEnd (zmo g zm_X8_wordEnd (zΦi φ)) 0 [(0, .ref 188)] [] 0 0 (zw μ)
  refine zw_aload_n (pc := 0) (n := 0) (i := 0) 0 (by decide +kernel) rfl rfl ?_
  refine zx_getI (pc := 1) zf_8_19 (by decide +kernel) rfl zc_188 ?_
  refine zw_istore_n (pc := 4) (n := 1) (i := 1) (lv' := [(0, .ref 188), (1, .int (zJ (μ 188 2)))]) (by decide +kernel) rfl (Nat.le_of_ble_eq_true rfl) rfl ?_
  exact h
theorem sg_X8_wordEnd_5 {g : zG} {φ : Int → zMu → Prop} {v1 : Int} {μ : zMu}
    (h : (zR v1) ∧ (zR (μ 188 1)) ∧ (((μ 188 1) ≤ v1 → φ v1 μ) ∧ (v1 < (μ 188 1) → (0 ≤ v1 ∧ v1 < 100) ∧ (zR (μ 189 v1.toNat)) ∧ (((μ 189 v1.toNat) < 97 → φ v1 μ) ∧ (97 ≤ (μ 189 v1.toNat) → ((122 < (μ 189 v1.toNat) → φ v1 μ) ∧ ((μ 189 v1.toNat) ≤ 122 → at_X8_wordEnd_5 g φ (v1 + 1) μ))))))) : at_X8_wordEnd_5 g φ v1 μ := by
  obtain ⟨o1, o2, h⟩ := h
  refine zw_iload_n (pc := 5) (n := 1) (i := 1) 1 (by decide +kernel) rfl rfl ?_
  refine zw_aload_n (pc := 6) (n := 0) (i := 0) 0 (by decide +kernel) rfl rfl ?_
  refine zx_getI (pc := 7) zf_8_15 (by decide +kernel) rfl zc_188 ?_
  refine zw_icmp_ge (pc := 10) (off := 31) (tgt := 41) (by decide +kernel) (by decide) o1 o2 (fun hc => ?_) (fun hc => ?_)
  · replace h := h.1 hc
    refine zw_iload_n (pc := 41) (n := 1) (i := 1) 1 (by decide +kernel) rfl rfl ?_
    exact zw_iret (pc := 42) (by decide +kernel) rfl (Nat.le_refl _) (Nat.le_refl _) ⟨_, _, rfl, rfl, h⟩
  · replace h := h.2 hc
    obtain ⟨o3, o4, h⟩ := h
    refine zw_aload_n (pc := 13) (n := 0) (i := 0) 0 (by decide +kernel) rfl rfl ?_
    refine zx_getR (pc := 14) (o := 1) (r := 189) zf_8_9 (by decide +kernel) rfl zc_188 rfl (by decide) rfl ?_
    refine zw_iload_n (pc := 17) (n := 1) (i := 1) 1 (by decide +kernel) rfl rfl ?_
    refine zx_iaload (pc := 18) (by decide +kernel) ⟨100, zc_189, o3.1, o3.2⟩ ?_
    refine zw_bipush (pc := 19) (n := 97) (by decide +kernel) (by decide +kernel) ?_
    refine zw_icmp_lt (pc := 21) (off := 20) (tgt := 41) (by decide +kernel) (by decide) o4 ⟨by decide, by decide⟩ (fun hc => ?_) (fun hc => ?_)
    · replace h := h.1 hc
      refine zw_iload_n (pc := 41) (n := 1) (i := 1) 1 (by decide +kernel) rfl rfl ?_
      exact zw_iret (pc := 42) (by decide +kernel) rfl (Nat.le_refl _) (Nat.le_refl _) ⟨_, _, rfl, rfl, h⟩
    · replace h := h.2 hc
      refine zw_aload_n (pc := 24) (n := 0) (i := 0) 0 (by decide +kernel) rfl rfl ?_
      refine zx_getR (pc := 25) (o := 1) (r := 189) zf_8_9 (by decide +kernel) rfl zc_188 rfl (by decide) rfl ?_
      refine zw_iload_n (pc := 28) (n := 1) (i := 1) 1 (by decide +kernel) rfl rfl ?_
      refine zx_iaload (pc := 29) (by decide +kernel) ⟨100, zc_189, o3.1, o3.2⟩ ?_
      refine zw_bipush (pc := 30) (n := 122) (by decide +kernel) (by decide +kernel) ?_
      refine zw_icmp_gt (pc := 32) (off := 9) (tgt := 41) (by decide +kernel) (by decide) o4 ⟨by decide, by decide⟩ (fun hc => ?_) (fun hc => ?_)
      · replace h := h.1 hc
        refine zw_iload_n (pc := 41) (n := 1) (i := 1) 1 (by decide +kernel) rfl rfl ?_
        exact zw_iret (pc := 42) (by decide +kernel) rfl (Nat.le_refl _) (Nat.le_refl _) ⟨_, _, rfl, rfl, h⟩
      · replace h := h.2 hc
        refine zw_iinc (pc := 35) (i := 1) (n := 1) (lv' := [(0, .ref 188), (1, .int (zJ (v1 + 1)))]) 1 (by decide +kernel) rfl rfl (Nat.le_of_ble_eq_true rfl) rfl ?_
        refine zw_goto (pc := 38) (off := (-33)) (tgt := 5) (by decide +kernel) (by decide) ?_
        exact h
abbrev at_X8_hasWord_17 (g : zG) (φ : Int → zMu → Prop) (v1 : Nat) (v3 : Int) (μ : zMu) : Prop := zWP g zm_X8_hasWord (zmo g zm_X8_hasWord (zΦi φ)) 17 [(0, .ref 188), (1, .ref v1), (3, .int (zJ v3))] [] 0 0 (zw μ)
theorem sg_X8_hasWord {g : zG} {φ : Int → zMu → Prop} {v1 : Nat} {v2 : Int} {μ : zMu}
    (h : (∃ k, k < 9 ∧ v1 = 90001 + k) ∧ zOi g zm_J0_length_8abf5 [.ref v1] μ (fun x2 μ1 => (zR (v2 - (μ 188 2))) ∧ (zR x2) ∧ (((v2 - (μ 188 2)) = x2 → at_X8_hasWord_17 g φ v1 0 μ1) ∧ (¬ (v2 - (μ 188 2)) = x2 → φ 0 μ1)))) : zOi g zm_X8_hasWord [.ref 188, .ref v1, .int (zJ v2)] μ φ := by
  refine zok_of (by decide +kernel) rfl ?_
  show zWP g zm_X8_hasWord (zmo g zm_X8_hasWord (zΦi φ)) 0 [(0, .ref 188), (1, .ref v1), (2, .int (zJ v2))] [] 0 0 (zw μ)
  obtain ⟨o5, h⟩ := h
  refine zw_iload_n (pc := 0) (n := 2) (i := 2) 2 (by decide +kernel) rfl rfl ?_
  refine zw_aload_n (pc := 1) (n := 0) (i := 0) 0 (by decide +kernel) rfl rfl ?_
  refine zx_getI (pc := 2) zf_8_19 (by decide +kernel) rfl zc_188 ?_
  refine zw_isub (pc := 5) (by decide +kernel) ?_
  refine zw_aload_n (pc := 6) (n := 1) (i := 1) 1 (by decide +kernel) rfl rfl ?_
  refine zx_callT (pc := 7) (As := []) h zi_J0_length_8abf5 zii_J0_length_8abf5 zie_J0_length_8abf5 zl_8_37 (by decide +kernel) ⟨Nat.le_of_ble_eq_true rfl, Nat.le_of_ble_eq_true rfl⟩ rfl o5 rfl rfl ⟨rfl, rfl⟩ ⟨Nat.zero_le _, Nat.zero_le _⟩ (zki (fun x2 μ1 h => ?_))
  obtain ⟨o3, o4, h⟩ := h
  refine zw_icmp_eq (pc := 10) (off := 5) (tgt := 15) (by decide +kernel) (by decide) o3 o4 (fun hc => ?_) (fun hc => ?_)
  · replace h := h.1 hc
    refine zw_iconst (pc := 15) (n := 0) (by decide +kernel) ?_
    refine zw_istore_n (pc := 16) (n := 3) (i := 3) (lv' := [(0, .ref 188), (1, .ref v1), (2, .int (zJ v2)), (3, .int (zJ 0))]) (by decide +kernel) rfl (Nat.le_of_ble_eq_true rfl) rfl ?_
    exact zw_pick (lv' := [(0, .ref 188), (1, .ref v1), (3, .int (zJ 0))]) [0, 1, 3] rfl h
  · replace h := h.2 hc
    refine zw_iconst (pc := 13) (n := 0) (by decide +kernel) ?_
    exact zw_zret (pc := 14) (by decide +kernel) rfl (Nat.le_refl _) (Nat.le_refl _) (Or.inl rfl) ⟨_, _, rfl, rfl, h⟩
theorem sg_X8_hasWord_17 {g : zG} {φ : Int → zMu → Prop} {v1 : Nat} {v3 : Int} {μ : zMu}
    (h : (∃ k, k < 9 ∧ v1 = 90001 + k) ∧ zOi g zm_J0_length_8abf5 [.ref v1] μ (fun x2 μ1 => (zR v3) ∧ (zR x2) ∧ ((x2 ≤ v3 → φ 1 μ1) ∧ (v3 < x2 → (0 ≤ ((μ1 188 2) + v3) ∧ ((μ1 188 2) + v3) < 100) ∧ (∃ k, k < 9 ∧ v1 = 90001 + k) ∧ zOi g zm_J0_charAt_5068e [.ref v1, .int (zJ v3)] μ1 (fun x7 μ6 => (zR (μ1 189 (Int.toNat ((μ1 188 2) + v3)))) ∧ (zR x7) ∧ (((μ1 189 (Int.toNat ((μ1 188 2) + v3))) = x7 → at_X8_hasWord_17 g φ v1 (v3 + 1) μ6) ∧ (¬ (μ1 189 (Int.toNat ((μ1 188 2) + v3))) = x7 → φ 0 μ6))))))) : at_X8_hasWord_17 g φ v1 v3 μ := by
  obtain ⟨o11, h⟩ := h
  refine zw_iload_n (pc := 17) (n := 3) (i := 3) 2 (by decide +kernel) rfl rfl ?_
  refine zw_aload_n (pc := 18) (n := 1) (i := 1) 1 (by decide +kernel) rfl rfl ?_
  refine zx_callT (pc := 19) (As := []) h zi_J0_length_8abf5 zii_J0_length_8abf5 zie_J0_length_8abf5 zl_8_37 (by decide +kernel) ⟨Nat.le_of_ble_eq_true rfl, Nat.le_of_ble_eq_true rfl⟩ rfl o11 rfl rfl ⟨rfl, rfl⟩ ⟨Nat.zero_le _, Nat.zero_le _⟩ (zki (fun x2 μ1 h => ?_))
  obtain ⟨o3, o4, h⟩ := h
  refine zw_icmp_ge (pc := 22) (off := 30) (tgt := 52) (by decide +kernel) (by decide) o3 o4 (fun hc => ?_) (fun hc => ?_)
  · replace h := h.1 hc
    refine zw_iconst (pc := 52) (n := 1) (by decide +kernel) ?_
    exact zw_zret (pc := 53) (by decide +kernel) rfl (Nat.le_refl _) (Nat.le_refl _) (Or.inr rfl) ⟨_, _, rfl, rfl, h⟩
  · replace h := h.2 hc
    obtain ⟨o5, o10, h⟩ := h
    refine zw_aload_n (pc := 25) (n := 0) (i := 0) 0 (by decide +kernel) rfl rfl ?_
    refine zx_getR (pc := 26) (o := 1) (r := 189) zf_8_9 (by decide +kernel) rfl zc_188 rfl (by decide) rfl ?_
    refine zw_aload_n (pc := 29) (n := 0) (i := 0) 0 (by decide +kernel) rfl rfl ?_
    refine zx_getI (pc := 30) zf_8_19 (by decide +kernel) rfl zc_188 ?_
    refine zw_iload_n (pc := 33) (n := 3) (i := 3) 2 (by decide +kernel) rfl rfl ?_
    refine zw_iadd (pc := 34) (by decide +kernel) ?_
    refine zx_iaload (pc := 35) (by decide +kernel) ⟨100, zc_189, o5.1, o5.2⟩ ?_
    refine zw_aload_n (pc := 36) (n := 1) (i := 1) 1 (by decide +kernel) rfl rfl ?_
    refine zw_iload_n (pc := 37) (n := 3) (i := 3) 2 (by decide +kernel) rfl rfl ?_
    refine zx_callT (pc := 38) (As := [.int (zJ v3)]) h zi_J0_charAt_5068e zii_J0_charAt_5068e zie_J0_charAt_5068e zl_8_42 (by decide +kernel) ⟨Nat.le_of_ble_eq_true rfl, Nat.le_of_ble_eq_true rfl⟩ rfl o10 rfl rfl ⟨rfl, rfl⟩ ⟨Nat.zero_le _, Nat.zero_le _⟩ (zki (fun x7 μ6 h => ?_))
    obtain ⟨o8, o9, h⟩ := h
    refine zw_icmp_eq (pc := 41) (off := 5) (tgt := 46) (by decide +kernel) (by decide) o8 o9 (fun hc => ?_) (fun hc => ?_)
    · replace h := h.1 hc
      refine zw_iinc (pc := 46) (i := 3) (n := 1) (lv' := [(0, .ref 188), (1, .ref v1), (3, .int (zJ (v3 + 1)))]) 2 (by decide +kernel) rfl rfl (Nat.le_of_ble_eq_true rfl) rfl ?_
      refine zw_goto (pc := 49) (off := (-32)) (tgt := 17) (by decide +kernel) (by decide) ?_
      exact h
    · replace h := h.2 hc
      refine zw_iconst (pc := 44) (n := 0) (by decide +kernel) ?_
      exact zw_zret (pc := 45) (by decide +kernel) rfl (Nat.le_refl _) (Nat.le_refl _) (Or.inl rfl) ⟨_, _, rfl, rfl, h⟩
theorem sg_X8_accept {g : zG} {φ : Int → zMu → Prop} {v1 : Int} {μ : zMu}
    (h : (zR (μ 188 2)) ∧ (zR (μ 188 1)) ∧ (((μ 188 1) ≤ (μ 188 2) → φ 0 μ) ∧ ((μ 188 2) < (μ 188 1) → (0 ≤ (μ 188 2) ∧ (μ 188 2) < 100) ∧ (zR (μ 189 (Int.toNat (μ 188 2)))) ∧ (zR v1) ∧ ((¬ (μ 189 (Int.toNat (μ 188 2))) = v1 → φ 0 μ) ∧ ((μ 189 (Int.toNat (μ 188 2))) = v1 → φ 1 (zup μ 188 2 ((μ 188 2) + 1))))))) : zOi g zm_X8_accept [.ref 188, .int (zJ v1)] μ φ := by
  refine zok_of (by decide +kernel) rfl ?_
  show zWP g zm_X8_accept (zmo g zm_X8_accept (zΦi φ)) 0 [(0, .ref 188), (1, .int (zJ v1))] [] 0 0 (zw μ)
  obtain ⟨o1, o2, h⟩ := h
  refine zw_aload_n (pc := 0) (n := 0) (i := 0) 0 (by decide +kernel) rfl rfl ?_
  refine zx_getI (pc := 1) zf_8_19 (by decide +kernel) rfl zc_188 ?_
  refine zw_aload_n (pc := 4) (n := 0) (i := 0) 0 (by decide +kernel) rfl rfl ?_
  refine zx_getI (pc := 5) zf_8_15 (by decide +kernel) rfl zc_188 ?_
  refine zw_icmp_ge (pc := 8) (off := 28) (tgt := 36) (by decide +kernel) (by decide) o1 o2 (fun hc => ?_) (fun hc => ?_)
  · replace h := h.1 hc
    refine zw_iconst (pc := 36) (n := 0) (by decide +kernel) ?_
    exact zw_zret (pc := 37) (by decide +kernel) rfl (Nat.le_refl _) (Nat.le_refl _) (Or.inl rfl) ⟨_, _, rfl, rfl, h⟩
  · replace h := h.2 hc
    obtain ⟨o3, o4, o5, h⟩ := h
    refine zw_aload_n (pc := 11) (n := 0) (i := 0) 0 (by decide +kernel) rfl rfl ?_
    refine zx_getR (pc := 12) (o := 1) (r := 189) zf_8_9 (by decide +kernel) rfl zc_188 rfl (by decide) rfl ?_
    refine zw_aload_n (pc := 15) (n := 0) (i := 0) 0 (by decide +kernel) rfl rfl ?_
    refine zx_getI (pc := 16) zf_8_19 (by decide +kernel) rfl zc_188 ?_
    refine zx_iaload (pc := 19) (by decide +kernel) ⟨100, zc_189, o3.1, o3.2⟩ ?_
    refine zw_iload_n (pc := 20) (n := 1) (i := 1) 1 (by decide +kernel) rfl rfl ?_
    refine zw_icmp_ne (pc := 21) (off := 15) (tgt := 36) (by decide +kernel) (by decide) o4 o5 (fun hc => ?_) (fun hc => ?_)
    · replace h := h.1 hc
      refine zw_iconst (pc := 36) (n := 0) (by decide +kernel) ?_
      exact zw_zret (pc := 37) (by decide +kernel) rfl (Nat.le_refl _) (Nat.le_refl _) (Or.inl rfl) ⟨_, _, rfl, rfl, h⟩
    · replace h := h.2 hc
      refine zw_aload_n (pc := 24) (n := 0) (i := 0) 0 (by decide +kernel) rfl rfl ?_
      refine zw_dup (pc := 25) (by decide +kernel) rfl ?_
      refine zx_getI (pc := 26) zf_8_19 (by decide +kernel) rfl zc_188 ?_
      refine zw_iconst (pc := 29) (n := 1) (by decide +kernel) ?_
      refine zw_iadd (pc := 30) (by decide +kernel) ?_
      refine zx_putI (pc := 31) zf_8_19 (by decide +kernel) rfl zc_188 ?_
      refine zw_iconst (pc := 34) (n := 1) (by decide +kernel) ?_
      exact zw_zret (pc := 35) (by decide +kernel) rfl (Nat.le_refl _) (Nat.le_refl _) (Or.inr rfl) ⟨_, _, rfl, rfl, h⟩
theorem sg_X8_acceptSignedNumber {g : zG} {φ : Int → zMu → Prop} {μ : zMu}
    (h : zOi g zm_X8_accept [.ref 188, .int (zJ 45)] μ (fun x2 μ1 => zOi g zm_X8_acceptNumber [.ref 188] μ1 (fun x4 μ3 => (zR x2) ∧ ((x2 = 0 → (x4 = 0 ∨ x4 = 1) ∧ φ x4 μ3) ∧ (¬ x2 = 0 → (x4 = 0 ∨ x4 = 1) ∧ φ x4 (zup μ3 188 3 (-(μ3 188 3)))))))) : zOi g zm_X8_acceptSignedNumber [.ref 188] μ φ := by
  refine zok_of (by decide +kernel) rfl ?_
  show zWP g zm_X8_acceptSignedNumber (zmo g zm_X8_acceptSignedNumber (zΦi φ)) 0 [(0, .ref 188)] [] 0 0 (zw μ)
  refine zw_aload_n (pc := 0) (n := 0) (i := 0) 0 (by decide +kernel) rfl rfl ?_
  refine zw_bipush (pc := 1) (n := 45) (by decide +kernel) (by decide +kernel) ?_
  refine zx_callV (pc := 3) (As := [.int (zJ 45)]) h zi_X8_accept zii_X8_accept zie_X8_accept zl_8_29 (by decide +kernel) ⟨Nat.le_of_ble_eq_true rfl, Nat.le_of_ble_eq_true rfl⟩ rfl zc_188 (by decide) rfl rfl ⟨rfl, rfl⟩ ⟨Nat.zero_le _, Nat.zero_le _⟩ (zki (fun x2 μ1 h => ?_))
  refine zw_istore_n (pc := 6) (n := 1) (i := 1) (lv' := [(0, .ref 188), (1, .int (zJ x2))]) (by decide +kernel) rfl (Nat.le_of_ble_eq_true rfl) rfl ?_
  refine zw_aload_n (pc := 7) (n := 0) (i := 0) 0 (by decide +kernel) rfl rfl ?_
  refine zx_callV (pc := 8) (As := []) h zi_X8_acceptNumber zii_X8_acceptNumber zie_X8_acceptNumber zl_8_33 (by decide +kernel) ⟨Nat.le_of_ble_eq_true rfl, Nat.le_of_ble_eq_true rfl⟩ rfl zc_188 (by decide) rfl rfl ⟨rfl, rfl⟩ ⟨Nat.zero_le _, Nat.zero_le _⟩ (zki (fun x4 μ3 h => ?_))
  obtain ⟨o5, h⟩ := h
  refine zw_istore_n (pc := 11) (n := 2) (i := 2) (lv' := [(0, .ref 188), (1, .int (zJ x2)), (2, .int (zJ x4))]) (by decide +kernel) rfl (Nat.le_of_ble_eq_true rfl) rfl ?_
  refine zw_iload_n (pc := 12) (n := 1) (i := 1) 1 (by decide +kernel) rfl rfl ?_
  refine zw_if_eq (pc := 13) (off := 12) (tgt := 25) (by decide +kernel) (by decide) o5 (fun hc => ?_) (fun hc => ?_)
  · replace h := h.1 hc
    obtain ⟨o6, h⟩ := h
    refine zw_iload_n (pc := 25) (n := 2) (i := 2) 2 (by decide +kernel) rfl rfl ?_
    exact zw_zret (pc := 26) (by decide +kernel) rfl (Nat.le_refl _) (Nat.le_refl _) o6 ⟨_, _, rfl, rfl, h⟩
  · replace h := h.2 hc
    obtain ⟨o7, h⟩ := h
    refine zw_aload_n (pc := 16) (n := 0) (i := 0) 0 (by decide +kernel) rfl rfl ?_
    refine zw_aload_n (pc := 17) (n := 0) (i := 0) 0 (by decide +kernel) rfl rfl ?_
    refine zx_getI (pc := 18) zf_8_22 (by decide +kernel) rfl zc_188 ?_
    refine zw_ineg (pc := 21) (by decide +kernel) ?_
    refine zx_putI (pc := 22) zf_8_22 (by decide +kernel) rfl zc_188 ?_
    refine zw_iload_n (pc := 25) (n := 2) (i := 2) 2 (by decide +kernel) rfl rfl ?_
    exact zw_zret (pc := 26) (by decide +kernel) rfl (Nat.le_refl _) (Nat.le_refl _) o7 ⟨_, _, rfl, rfl, h⟩
abbrev at_X8_acceptNumber_7 (g : zG) (φ : Int → zMu → Prop) (v1 : Int) (μ : zMu) : Prop := zWP g zm_X8_acceptNumber (zmo g zm_X8_acceptNumber (zΦi φ)) 7 [(0, .ref 188), (1, .int (zJ v1))] [] 0 0 (zw μ)
theorem sg_X8_acceptNumber {g : zG} {φ : Int → zMu → Prop} {μ : zMu}
    (h : at_X8_acceptNumber_7 g φ 0 (zup μ 188 3 0)) : zOi g zm_X8_acceptNumber [.ref 188] μ φ := by
  refine zok_of (by decide +kernel) rfl ?_
  show zWP g zm_X8_acceptNumber (zmo g zm_X8_acceptNumber (zΦi φ)) 0 [(0, .ref 188)] [] 0 0 (zw μ)
  refine zw_aload_n (pc := 0) (n := 0) (i := 0) 0 (by decide +kernel) rfl rfl ?_
  refine zw_iconst (pc := 1) (n := 0) (by decide +kernel) ?_
  refine zx_putI (pc := 2) zf_8_22 (by decide +kernel) rfl zc_188 ?_
  refine zw_iconst (pc := 5) (n := 0) (by decide +kernel) ?_
  refine zw_istore_n (pc := 6) (n := 1) (i := 1) (lv' := [(0, .ref 188), (1, .int (zJ 0))]) (by decide +kernel) rfl (Nat.le_of_ble_eq_true rfl) rfl ?_
  exact h
theorem sg_X8_acceptNumber_7 {g : zG} {φ : Int → zMu → Prop} {v1 : Int} {μ : zMu}
    (h : (zR v1) ∧ ((3 ≤ v1 → ((v1 ≤ 0 → φ 0 μ) ∧ (0 < v1 → φ 1 μ))) ∧ (v1 < 3 → zOi g zm_X8_isAtDigit [.ref 188, .int (zJ 0), .int (zJ 9)] μ (fun x3 μ2 => (zR x3) ∧ ((x3 = 0 → ((v1 ≤ 0 → φ 0 μ2) ∧ (0 < v1 → φ 1 μ2))) ∧ (¬ x3 = 0 → (0 ≤ (μ2 188 2) ∧ (μ2 188 2) < 100) ∧ at_X8_acceptNumber_7 g φ (v1 + 1) (zup (zup μ2 188 3 (((10 * (μ2 188 3)) + (μ2 189 (Int.toNat (μ2 188 2)))) - 48)) 188 2 (((zup μ2 188 3 (((10 * (μ2 188 3)) + (μ2 189 (Int.toNat (μ2 188 2)))) - 48)) 188 2) + 1)))))))) : at_X8_acceptNumber_7 g φ v1 μ := by
  obtain ⟨o1, h⟩ := h
  refine zw_iload_n (pc := 7) (n := 1) (i := 1) 1 (by decide +kernel) rfl rfl ?_
  refine zw_iconst (pc := 8) (n := 3) (by decide +kernel) ?_
  refine zw_icmp_ge (pc := 9) (off := 53) (tgt := 62) (by decide +kernel) (by decide) o1 ⟨by decide, by decide⟩ (fun hc => ?_) (fun hc => ?_)
  · replace h := h.1 hc
    refine zw_iload_n (pc := 62) (n := 1) (i := 1) 1 (by decide +kernel) rfl rfl ?_
    refine zw_if_le (pc := 63) (off := 7) (tgt := 70) (by decide +kernel) (by decide) o1 (fun hc => ?_) (fun hc => ?_)
    · replace h := h.1 hc
      refine zw_iconst (pc := 70) (n := 0) (by decide +kernel) ?_
      exact zw_zret (pc := 71) (by decide +kernel) rfl (Nat.le_refl _) (Nat.le_refl _) (Or.inl rfl) ⟨_, _, rfl, rfl, h⟩
    · replace h := h.2 hc
      refine zw_iconst (pc := 66) (n := 1) (by decide +kernel) ?_
      refine zw_goto (pc := 67) (off := 4) (tgt := 71) (by decide +kernel) (by decide) ?_
      exact zw_zret (pc := 71) (by decide +kernel) rfl (Nat.le_refl _) (Nat.le_refl _) (Or.inr rfl) ⟨_, _, rfl, rfl, h⟩
  · replace h := h.2 hc
    refine zw_aload_n (pc := 12) (n := 0) (i := 0) 0 (by decide +kernel) rfl rfl ?_
    refine zw_iconst (pc := 13) (n := 0) (by decide +kernel) ?_
    refine zw_bipush (pc := 14) (n := 9) (by decide +kernel) (by decide +kernel) ?_
    refine zx_callV (pc := 16) (As := [.int (zJ 0), .int (zJ 9)]) h zi_X8_isAtDigit zii_X8_isAtDigit zie_X8_isAtDigit zl_8_25 (by decide +kernel) ⟨Nat.le_of_ble_eq_true rfl, Nat.le_of_ble_eq_true rfl⟩ rfl zc_188 (by decide) rfl rfl ⟨rfl, rfl⟩ ⟨Nat.zero_le _, Nat.zero_le _⟩ (zki (fun x3 μ2 h => ?_))
    obtain ⟨o4, h⟩ := h
    refine zw_if_eq (pc := 19) (off := 43) (tgt := 62) (by decide +kernel) (by decide) o4 (fun hc => ?_) (fun hc => ?_)
    · replace h := h.1 hc
      refine zw_iload_n (pc := 62) (n := 1) (i := 1) 1 (by decide +kernel) rfl rfl ?_
      refine zw_if_le (pc := 63) (off := 7) (tgt := 70) (by decide +kernel) (by decide) o1 (fun hc => ?_) (fun hc => ?_)
      · replace h := h.1 hc
        refine zw_iconst (pc := 70) (n := 0) (by decide +kernel) ?_
        exact zw_zret (pc := 71) (by decide +kernel) rfl (Nat.le_refl _) (Nat.le_refl _) (Or.inl rfl) ⟨_, _, rfl, rfl, h⟩
      · replace h := h.2 hc
        refine zw_iconst (pc := 66) (n := 1) (by decide +kernel) ?_
        refine zw_goto (pc := 67) (off := 4) (tgt := 71) (by decide +kernel) (by decide) ?_
        exact zw_zret (pc := 71) (by decide +kernel) rfl (Nat.le_refl _) (Nat.le_refl _) (Or.inr rfl) ⟨_, _, rfl, rfl, h⟩
    · replace h := h.2 hc
      obtain ⟨o5, h⟩ := h
      refine zw_aload_n (pc := 22) (n := 0) (i := 0) 0 (by decide +kernel) rfl rfl ?_
      refine zw_bipush (pc := 23) (n := 10) (by decide +kernel) (by decide +kernel) ?_
      refine zw_aload_n (pc := 25) (n := 0) (i := 0) 0 (by decide +kernel) rfl rfl ?_
      refine zx_getI (pc := 26) zf_8_22 (by decide +kernel) rfl zc_188 ?_
      refine zw_imul (pc := 29) (by decide +kernel) ?_
      refine zw_aload_n (pc := 30) (n := 0) (i := 0) 0 (by decide +kernel) rfl rfl ?_
      refine zx_getR (pc := 31) (o := 1) (r := 189) zf_8_9 (by decide +kernel) rfl zc_188 rfl (by decide) rfl ?_
      refine zw_aload_n (pc := 34) (n := 0) (i := 0) 0 (by decide +kernel) rfl rfl ?_
      refine zx_getI (pc := 35) zf_8_19 (by decide +kernel) rfl zc_188 ?_
      refine zx_iaload (pc := 38) (by decide +kernel) ⟨100, zc_189, o5.1, o5.2⟩ ?_
      refine zw_iadd (pc := 39) (by decide +kernel) ?_
      refine zw_bipush (pc := 40) (n := 48) (by decide +kernel) (by decide +kernel) ?_
      refine zw_isub (pc := 42) (by decide +kernel) ?_
      refine zx_putI (pc := 43) zf_8_22 (by decide +kernel) rfl zc_188 ?_
      refine zw_aload_n (pc := 46) (n := 0) (i := 0) 0 (by decide +kernel) rfl rfl ?_
      refine zw_dup (pc := 47) (by decide +kernel) rfl ?_
      refine zx_getI (pc := 48) zf_8_19 (by decide +kernel) rfl zc_188 ?_
      refine zw_iconst (pc := 51) (n := 1) (by decide +kernel) ?_
      refine zw_iadd (pc := 52) (by decide +kernel) ?_
      refine zx_putI (pc := 53) zf_8_19 (by decide +kernel) rfl zc_188 ?_
      refine zw_iinc (pc := 56) (i := 1) (n := 1) (lv' := [(0, .ref 188), (1, .int (zJ (v1 + 1)))]) 1 (by decide +kernel) rfl rfl (Nat.le_of_ble_eq_true rfl) rfl ?_
      refine zw_goto (pc := 59) (off := (-52)) (tgt := 7) (by decide +kernel) (by decide) ?_
      exact h
theorem sg_X8_isAtDigit {g : zG} {φ : Int → zMu → Prop} {v1 : Int} {v2 : Int} {μ : zMu}
    (h : (zR (μ 188 2)) ∧ (zR (μ 188 1)) ∧ (((μ 188 1) ≤ (μ 188 2) → φ 0 μ) ∧ ((μ 188 2) < (μ 188 1) → (0 ≤ (μ 188 2) ∧ (μ 188 2) < 100) ∧ (zR (μ 189 (Int.toNat (μ 188 2)))) ∧ (zR (48 + v1)) ∧ (((μ 189 (Int.toNat (μ 188 2))) < (48 + v1) → φ 0 μ) ∧ ((48 + v1) ≤ (μ 189 (Int.toNat (μ 188 2))) → (zR (48 + v2)) ∧ (((48 + v2) < (μ 189 (Int.toNat (μ 188 2))) → φ 0 μ) ∧ ((μ 189 (Int.toNat (μ 188 2))) ≤ (48 + v2) → φ 1 μ))))))) : zOi g zm_X8_isAtDigit [.ref 188, .int (zJ v1), .int (zJ v2)] μ φ := by
  refine zok_of (by decide +kernel) rfl ?_
  show zWP g zm_X8_isAtDigit (zmo g zm_X8_isAtDigit (zΦi φ)) 0 [(0, .ref 188), (1, .int (zJ v1)), (2, .int (zJ v2))] [] 0 0 (zw μ)
  obtain ⟨o1, o2, h⟩ := h
  refine zw_aload_n (pc := 0) (n := 0) (i := 0) 0 (by decide +kernel) rfl rfl ?_
  refine zx_getI (pc := 1) zf_8_19 (by decide +kernel) rfl zc_188 ?_
  refine zw_aload_n (pc := 4) (n := 0) (i := 0) 0 (by decide +kernel) rfl rfl ?_
  refine zx_getI (pc := 5) zf_8_15 (by decide +kernel) rfl zc_188 ?_
  refine zw_icmp_ge (pc := 8) (off := 39) (tgt := 47) (by decide +kernel) (by decide) o1 o2 (fun hc => ?_) (fun hc => ?_)
  · replace h := h.1 hc
    refine zw_iconst (pc := 47) (n := 0) (by decide +kernel) ?_
    exact zw_zret (pc := 48) (by decide +kernel) rfl (Nat.le_refl _) (Nat.le_refl _) (Or.inl rfl) ⟨_, _, rfl, rfl, h⟩
  · replace h := h.2 hc
    obtain ⟨o3, o4, o5, h⟩ := h
    refine zw_aload_n (pc := 11) (n := 0) (i := 0) 0 (by decide +kernel) rfl rfl ?_
    refine zx_getR (pc := 12) (o := 1) (r := 189) zf_8_9 (by decide +kernel) rfl zc_188 rfl (by decide) rfl ?_
    refine zw_aload_n (pc := 15) (n := 0) (i := 0) 0 (by decide +kernel) rfl rfl ?_
    refine zx_getI (pc := 16) zf_8_19 (by decide +kernel) rfl zc_188 ?_
    refine zx_iaload (pc := 19) (by decide +kernel) ⟨100, zc_189, o3.1, o3.2⟩ ?_
    refine zw_bipush (pc := 20) (n := 48) (by decide +kernel) (by decide +kernel) ?_
    refine zw_iload_n (pc := 22) (n := 1) (i := 1) 1 (by decide +kernel) rfl rfl ?_
    refine zw_iadd (pc := 23) (by decide +kernel) ?_
    refine zw_icmp_lt (pc := 24) (off := 23) (tgt := 47) (by decide +kernel) (by decide) o4 o5 (fun hc => ?_) (fun hc => ?_)
    · replace h := h.1 hc
      refine zw_iconst (pc := 47) (n := 0) (by decide +kernel) ?_
      exact zw_zret (pc := 48) (by decide +kernel) rfl (Nat.le_refl _) (Nat.le_refl _) (Or.inl rfl) ⟨_, _, rfl, rfl, h⟩
    · replace h := h.2 hc
      obtain ⟨o6, h⟩ := h
      refine zw_aload_n (pc := 27) (n := 0) (i := 0) 0 (by decide +kernel) rfl rfl ?_
      refine zx_getR (pc := 28) (o := 1) (r := 189) zf_8_9 (by decide +kernel) rfl zc_188 rfl (by decide) rfl ?_
      refine zw_aload_n (pc := 31) (n := 0) (i := 0) 0 (by decide +kernel) rfl rfl ?_
      refine zx_getI (pc := 32) zf_8_19 (by decide +kernel) rfl zc_188 ?_
      refine zx_iaload (pc := 35) (by decide +kernel) ⟨100, zc_189, o3.1, o3.2⟩ ?_
      refine zw_bipush (pc := 36) (n := 48) (by decide +kernel) (by decide +kernel) ?_
      refine zw_iload_n (pc := 38) (n := 2) (i := 2) 2 (by decide +kernel) rfl rfl ?_
      refine zw_iadd (pc := 39) (by decide +kernel) ?_
      refine zw_icmp_gt (pc := 40) (off := 7) (tgt := 47) (by decide +kernel) (by decide) o4 o6 (fun hc => ?_) (fun hc => ?_)
      · replace h := h.1 hc
        refine zw_iconst (pc := 47) (n := 0) (by decide +kernel) ?_
        exact zw_zret (pc := 48) (by decide +kernel) rfl (Nat.le_refl _) (Nat.le_refl _) (Or.inl rfl) ⟨_, _, rfl, rfl, h⟩
      · replace h := h.2 hc
        refine zw_iconst (pc := 43) (n := 1) (by decide +kernel) ?_
        refine zw_goto (pc := 44) (off := 4) (tgt := 48) (by decide +kernel) (by decide) ?_
        exact zw_zret (pc := 48) (by decide +kernel) rfl (Nat.le_refl _) (Nat.le_refl _) (Or.inr rfl) ⟨_, _, rfl, rfl, h⟩
theorem sg_X8_isAtEnd {g : zG} {φ : Int → zMu → Prop} {μ : zMu}
    (h : (zR (μ 188 2)) ∧ (zR (μ 188 1)) ∧ ((¬ (μ 188 2) = (μ 188 1) → φ 0 μ) ∧ ((μ 188 2) = (μ 188 1) → φ 1 μ))) : zOi g zm_X8_isAtEnd [.ref 188] μ φ := by
  refine zok_of (by decide +kernel) rfl ?_
  show zWP g zm_X8_isAtEnd (zmo g zm_X8_isAtEnd (zΦi φ)) 0 [(0, .ref 188)] [] 0 0 (zw μ)
  obtain ⟨o1, o2, h⟩ := h
  refine zw_aload_n (pc := 0) (n := 0) (i := 0) 0 (by decide +kernel) rfl rfl ?_
  refine zx_getI (pc := 1) zf_8_19 (by decide +kernel) rfl zc_188 ?_
  refine zw_aload_n (pc := 4) (n := 0) (i := 0) 0 (by decide +kernel) rfl rfl ?_
  refine zx_getI (pc := 5) zf_8_15 (by decide +kernel) rfl zc_188 ?_
  refine zw_icmp_ne (pc := 8) (off := 7) (tgt := 15) (by decide +kernel) (by decide) o1 o2 (fun hc => ?_) (fun hc => ?_)
  · replace h := h.1 hc
    refine zw_iconst (pc := 15) (n := 0) (by decide +kernel) ?_
    exact zw_zret (pc := 16) (by decide +kernel) rfl (Nat.le_refl _) (Nat.le_refl _) (Or.inl rfl) ⟨_, _, rfl, rfl, h⟩
  · replace h := h.2 hc
    refine zw_iconst (pc := 11) (n := 1) (by decide +kernel) ?_
    refine zw_goto (pc := 12) (off := 4) (tgt := 16) (by decide +kernel) (by decide) ?_
    exact zw_zret (pc := 16) (by decide +kernel) rfl (Nat.le_refl _) (Nat.le_refl _) (Or.inr rfl) ⟨_, _, rfl, rfl, h⟩
theorem sg_X8_clear {g : zG} {φ : zMu → Prop} {μ : zMu}
    (h : φ (zup μ 188 1 0)) : zOv g zm_X8_clear [.ref 188] μ φ := by
  refine zok_of (by decide +kernel) rfl ?_
  show zWP g zm_X8_clear (zmo g zm_X8_clear (zΦv φ)) 0 [(0, .ref 188)] [] 0 0 (zw μ)
  refine zw_aload_n (pc := 0) (n := 0) (i := 0) 0 (by decide +kernel) rfl rfl ?_
  refine zw_iconst (pc := 1) (n := 0) (by decide +kernel) ?_
  refine zx_putI (pc := 2) zf_8_15 (by decide +kernel) rfl zc_188 ?_
  exact zw_vret (pc := 5) (by decide +kernel) rfl (Nat.le_refl _) (Nat.le_refl _) ⟨_, rfl, rfl, h⟩
theorem sg_X8_acceptExponent {g : zG} {φ : Int → zMu → Prop} {μ : zMu}
    (h : zOi g zm_X8_isAtDigit [.ref 188, .int (zJ 1), .int (zJ 8)] μ (fun x2 μ1 => (zR x2) ∧ ((¬ x2 = 0 → (0 ≤ (μ1 188 2) ∧ (μ1 188 2) < 100) ∧ φ 1 (zup (zup μ1 188 3 ((μ1 189 (Int.toNat (μ1 188 2))) - 48)) 188 2 (((zup μ1 188 3 ((μ1 189 (Int.toNat (μ1 188 2))) - 48)) 188 2) + 1))) ∧ (x2 = 0 → φ 0 μ1)))) : zOi g zm_X8_acceptExponent [.ref 188] μ φ := by
  refine zok_of (by decide +kernel) rfl ?_
  show zWP g zm_X8_acceptExponent (zmo g zm_X8_acceptExponent (zΦi φ)) 0 [(0, .ref 188)] [] 0 0 (zw μ)
  refine zw_aload_n (pc := 0) (n := 0) (i := 0) 0 (by decide +kernel) rfl rfl ?_
  refine zw_iconst (pc := 1) (n := 1) (by decide +kernel) ?_
  refine zw_bipush (pc := 2) (n := 8) (by decide +kernel) (by decide +kernel) ?_
  refine zx_callV (pc := 4) (As := [.int (zJ 1), .int (zJ 8)]) h zi_X8_isAtDigit zii_X8_isAtDigit zie_X8_isAtDigit zl_8_25 (by decide +kernel) ⟨Nat.le_of_ble_eq_true rfl, Nat.le_of_ble_eq_true rfl⟩ rfl zc_188 (by decide) rfl rfl ⟨rfl, rfl⟩ ⟨Nat.zero_le _, Nat.zero_le _⟩ (zki (fun x2 μ1 h => ?_))
  obtain ⟨o3, h⟩ := h
  refine zw_if_ne (pc := 7) (off := 5) (tgt := 12) (by decide +kernel) (by decide) o3 (fun hc => ?_) (fun hc => ?_)
  · replace h := h.1 hc
    obtain ⟨o4, h⟩ := h
    refine zw_aload_n (pc := 12) (n := 0) (i := 0) 0 (by decide +kernel) rfl rfl ?_
    refine zw_aload_n (pc := 13) (n := 0) (i := 0) 0 (by decide +kernel) rfl rfl ?_
    refine zx_getR (pc := 14) (o := 1) (r := 189) zf_8_9 (by decide +kernel) rfl zc_188 rfl (by decide) rfl ?_
    refine zw_aload_n (pc := 17) (n := 0) (i := 0) 0 (by decide +kernel) rfl rfl ?_
    refine zx_getI (pc := 18) zf_8_19 (by decide +kernel) rfl zc_188 ?_
    refine zx_iaload (pc := 21) (by decide +kernel) ⟨100, zc_189, o4.1, o4.2⟩ ?_
    refine zw_bipush (pc := 22) (n := 48) (by decide +kernel) (by decide +kernel) ?_
    refine zw_isub (pc := 24) (by decide +kernel) ?_
    refine zx_putI (pc := 25) zf_8_22 (by decide +kernel) rfl zc_188 ?_
    refine zw_aload_n (pc := 28) (n := 0) (i := 0) 0 (by decide +kernel) rfl rfl ?_
    refine zw_dup (pc := 29) (by decide +kernel) rfl ?_
    refine zx_getI (pc := 30) zf_8_19 (by decide +kernel) rfl zc_188 ?_
    refine zw_iconst (pc := 33) (n := 1) (by decide +kernel) ?_
    refine zw_iadd (pc := 34) (by decide +kernel) ?_
    refine zx_putI (pc := 35) zf_8_19 (by decide +kernel) rfl zc_188 ?_
    refine zw_iconst (pc := 38) (n := 1) (by decide +kernel) ?_
    exact zw_zret (pc := 39) (by decide +kernel) rfl (Nat.le_refl _) (Nat.le_refl _) (Or.inr rfl) ⟨_, _, rfl, rfl, h⟩
  · replace h := h.2 hc
    refine zw_iconst (pc := 10) (n := 0) (by decide +kernel) ?_
    exact zw_zret (pc := 11) (by decide +kernel) rfl (Nat.le_refl _) (Nat.le_refl _) (Or.inl rfl) ⟨_, _, rfl, rfl, h⟩
abbrev at_X5_parse_11 (g : zG) (φ : Int → zMu → Prop) (v2 : Int) (μ : zMu) : Prop := zWP g zm_X5_parse (zmo g zm_X5_parse (zΦi φ)) 11 [(0, .ref 190), (1, .ref 188), (2, .int (zJ v2))] [] 0 0 (zw μ)
theorem sg_X5_parse {g : zG} {φ : Int → zMu → Prop} {μ : zMu}
    (h : zOv g zm_X8_rewind [.ref 188] μ (fun μ1 => at_X5_parse_11 g φ 1 (zup μ1 190 2 0))) : zOi g zm_X5_parse [.ref 190, .ref 188] μ φ := by
  refine zok_of (by decide +kernel) rfl ?_
  show zWP g zm_X5_parse (zmo g zm_X5_parse (zΦi φ)) 0 [(0, .ref 190), (1, .ref 188)] [] 0 0 (zw μ)
  refine zw_aload_n (pc := 0) (n := 1) (i := 1) 1 (by decide +kernel) rfl rfl ?_
  refine zx_callV (pc := 1) (As := []) h zi_X8_rewind zii_X8_rewind zie_X8_rewind zl_5_18 (by decide +kernel) ⟨Nat.le_of_ble_eq_true rfl, Nat.le_of_ble_eq_true rfl⟩ rfl zc_188 (by decide) rfl rfl ⟨rfl, rfl⟩ ⟨Nat.zero_le _, Nat.zero_le _⟩ (zkv (fun μ1 h => ?_))
  refine zw_aload_n (pc := 4) (n := 0) (i := 0) 0 (by decide +kernel) rfl rfl ?_
  refine zw_iconst (pc := 5) (n := 0) (by decide +kernel) ?_
  refine zx_putI (pc := 6) zf_5_23 (by decide +kernel) rfl zc_190 ?_
  refine zw_iconst (pc := 9) (n := 1) (by decide +kernel) ?_
  refine zw_istore_n (pc := 10) (n := 2) (i := 2) (lv' := [(0, .ref 190), (1, .ref 188), (2, .int (zJ 1))]) (by decide +kernel) rfl (Nat.le_of_ble_eq_true rfl) rfl ?_
  exact h
theorem sg_X5_parse_11 {g : zG} {φ : Int → zMu → Prop} {v2 : Int} {μ : zMu}
    (h : (zR v2) ∧ ((v2 = 0 → zOi g zm_X8_isAtEnd [.ref 188] μ (fun x3 μ2 => (x3 = 0 ∨ x3 = 1) ∧ φ x3 μ2)) ∧ (¬ v2 = 0 → (zR (μ 190 2)) ∧ ((100 ≤ (μ 190 2) → zOi g zm_X8_isAtEnd [.ref 188] μ (fun x7 μ6 => (x7 = 0 ∨ x7 = 1) ∧ φ x7 μ6)) ∧ ((μ 190 2) < 100 → zOi g zm_X5_parseCommand [.ref 190, .ref 188] μ (fun x10 μ9 => (zR x10) ∧ ((¬ x10 = 0 → zOi g zm_X8_accept [.ref 188, .int (zJ 59)] (zup μ9 190 2 ((μ9 190 2) + 1)) (fun x13 μ12 => at_X5_parse_11 g φ x13 μ12)) ∧ (x10 = 0 → φ 0 μ9)))))))) : at_X5_parse_11 g φ v2 μ := by
  obtain ⟨o1, h⟩ := h
  refine zw_iload_n (pc := 11) (n := 2) (i := 2) 2 (by decide +kernel) rfl rfl ?_
  refine zw_if_eq (pc := 12) (off := 42) (tgt := 54) (by decide +kernel) (by decide) o1 (fun hc => ?_) (fun hc => ?_)
  · replace h := h.1 hc
    refine zw_aload_n (pc := 54) (n := 1) (i := 1) 1 (by decide +kernel) rfl rfl ?_
    refine zx_callV (pc := 55) (As := []) h zi_X8_isAtEnd zii_X8_isAtEnd zie_X8_isAtEnd zl_5_35 (by decide +kernel) ⟨Nat.le_of_ble_eq_true rfl, Nat.le_of_ble_eq_true rfl⟩ rfl zc_188 (by decide) rfl rfl ⟨rfl, rfl⟩ ⟨Nat.zero_le _, Nat.zero_le _⟩ (zki (fun x3 μ2 h => ?_))
    obtain ⟨o4, h⟩ := h
    exact zw_zret (pc := 58) (by decide +kernel) rfl (Nat.le_refl _) (Nat.le_refl _) o4 ⟨_, _, rfl, rfl, h⟩
  · replace h := h.2 hc
    obtain ⟨o5, h⟩ := h
    refine zw_aload_n (pc := 15) (n := 0) (i := 0) 0 (by decide +kernel) rfl rfl ?_
    refine zx_getI (pc := 16) zf_5_23 (by decide +kernel) rfl zc_190 ?_
    refine zw_bipush (pc := 19) (n := 100) (by decide +kernel) (by decide +kernel) ?_
    refine zw_icmp_ge (pc := 21) (off := 33) (tgt := 54) (by decide +kernel) (by decide) o5 ⟨by decide, by decide⟩ (fun hc => ?_) (fun hc => ?_)
    · replace h := h.1 hc
      refine zw_aload_n (pc := 54) (n := 1) (i := 1) 1 (by decide +kernel) rfl rfl ?_
      refine zx_callV (pc := 55) (As := []) h zi_X8_isAtEnd zii_X8_isAtEnd zie_X8_isAtEnd zl_5_35 (by decide +kernel) ⟨Nat.le_of_ble_eq_true rfl, Nat.le_of_ble_eq_true rfl⟩ rfl zc_188 (by decide) rfl rfl ⟨rfl, rfl⟩ ⟨Nat.zero_le _, Nat.zero_le _⟩ (zki (fun x7 μ6 h => ?_))
      obtain ⟨o8, h⟩ := h
      exact zw_zret (pc := 58) (by decide +kernel) rfl (Nat.le_refl _) (Nat.le_refl _) o8 ⟨_, _, rfl, rfl, h⟩
    · replace h := h.2 hc
      refine zw_aload_n (pc := 24) (n := 0) (i := 0) 0 (by decide +kernel) rfl rfl ?_
      refine zw_aload_n (pc := 25) (n := 1) (i := 1) 1 (by decide +kernel) rfl rfl ?_
      refine zx_callV (pc := 26) (As := [.ref 188]) h zi_X5_parseCommand zii_X5_parseCommand zie_X5_parseCommand zl_5_27 (by decide +kernel) ⟨Nat.le_of_ble_eq_true rfl, Nat.le_of_ble_eq_true rfl⟩ rfl zc_190 (by decide) rfl rfl ⟨rfl, rfl⟩ ⟨Nat.zero_le _, Nat.zero_le _⟩ (zki (fun x10 μ9 h => ?_))
      obtain ⟨o11, h⟩ := h
      refine zw_if_ne (pc := 29) (off := 5) (tgt := 34) (by decide +kernel) (by decide) o11 (fun hc => ?_) (fun hc => ?_)
      · replace h := h.1 hc
        refine zw_aload_n (pc := 34) (n := 0) (i := 0) 0 (by decide +kernel) rfl rfl ?_
        refine zw_dup (pc := 35) (by decide +kernel) rfl ?_
        refine zx_getI (pc := 36) zf_5_23 (by decide +kernel) rfl zc_190 ?_
        refine zw_iconst (pc := 39) (n := 1) (by decide +kernel) ?_
        refine zw_iadd (pc := 40) (by decide +kernel) ?_
        refine zx_putI (pc := 41) zf_5_23 (by decide +kernel) rfl zc_190 ?_
        refine zw_aload_n (pc := 44) (n := 1) (i := 1) 1 (by decide +kernel) rfl rfl ?_
        refine zw_bipush (pc := 45) (n := 59) (by decide +kernel) (by decide +kernel) ?_
        refine zx_callV (pc := 47) (As := [.int (zJ 59)]) h zi_X8_accept zii_X8_accept zie_X8_accept zl_5_31 (by decide +kernel) ⟨Nat.le_of_ble_eq_true rfl, Nat.le_of_ble_eq_true rfl⟩ rfl zc_188 (by decide) rfl rfl ⟨rfl, rfl⟩ ⟨Nat.zero_le _, Nat.zero_le _⟩ (zki (fun x13 μ12 h => ?_))
        refine zw_istore_n (pc := 50) (n := 2) (i := 2) (lv' := [(0, .ref 190), (1, .ref 188), (2, .int (zJ x13))]) (by decide +kernel) rfl (Nat.le_of_ble_eq_true rfl) rfl ?_
        refine zw_goto (pc := 51) (off := (-40)) (tgt := 11) (by decide +kernel) (by decide) ?_
        exact h
      · replace h := h.2 hc
        refine zw_iconst (pc := 32) (n := 0) (by decide +kernel) ?_
        exact zw_zret (pc := 33) (by decide +kernel) rfl (Nat.le_refl _) (Nat.le_refl _) (Or.inl rfl) ⟨_, _, rfl, rfl, h⟩
abbrev at_X5_parseCommand_41 (g : zG) (φ : Int → zMu → Prop) (v4 : Int) (v5 : Int) (μ : zMu) : Prop := zWP g zm_X5_parseCommand (zmo g zm_X5_parseCommand (zΦi φ)) 41 [(0, .ref 190), (1, .ref 188), (4, .int (zJ v4)), (5, .int (zJ v5))] [] 0 0 (zw μ)
theorem sg_X5_parseCommand {g : zG} {φ : Int → zMu → Prop} {μ : zMu}
    (h : zOi g zm_X8_wordEnd [.ref 188] μ (fun x2 μ1 => zOi g zm_X5_commandAt [.ref 188, .int (zJ x2)] μ1 (fun x4 μ3 => (zR x4) ∧ ((0 ≤ x4 → (0 ≤ ((zup μ3 188 2 x2) 190 2) ∧ ((zup μ3 188 2 x2) 190 2) < 100) ∧ zOi g zm_X5_numbersAfter [.int (zJ x4)] (zup (zup μ3 188 2 x2) 191 (Int.toNat ((zup μ3 188 2 x2) 190 2)) x4) (fun x8 μ7 => at_X5_parseCommand_41 g φ x8 0 μ7)) ∧ (x4 < 0 → φ 0 μ3))))) : zOi g zm_X5_parseCommand [.ref 190, .ref 188] μ φ := by
  refine zok_of (by decide +kernel) rfl ?_
  show zWP g zm_X5_parseCommand (zmo g zm_X5_parseCommand (zΦi φ)) 0 [(0, .ref 190), (1, .ref 188)] [] 0 0 (zw μ)
  refine zw_aload_n (pc := 0) (n := 1) (i := 1) 1 (by decide +kernel) rfl rfl ?_
  refine zx_callV (pc := 1) (As := []) h zi_X8_wordEnd zii_X8_wordEnd zie_X8_wordEnd zl_5_39 (by decide +kernel) ⟨Nat.le_of_ble_eq_true rfl, Nat.le_of_ble_eq_true rfl⟩ rfl zc_188 (by decide) rfl rfl ⟨rfl, rfl⟩ ⟨Nat.zero_le _, Nat.zero_le _⟩ (zki (fun x2 μ1 h => ?_))
  refine zw_istore_n (pc := 4) (n := 2) (i := 2) (lv' := [(0, .ref 190), (1, .ref 188), (2, .int (zJ x2))]) (by decide +kernel) rfl (Nat.le_of_ble_eq_true rfl) rfl ?_
  refine zw_aload_n (pc := 5) (n := 1) (i := 1) 1 (by decide +kernel) rfl rfl ?_
  refine zw_iload_n (pc := 6) (n := 2) (i := 2) 2 (by decide +kernel) rfl rfl ?_
  refine zx_callS (pc := 7) (As := [.ref 188, .int (zJ x2)]) h zi_X5_commandAt zis_X5_commandAt zl_5_43 (by decide +kernel) ⟨Nat.le_of_ble_eq_true rfl, Nat.le_of_ble_eq_true rfl⟩ rfl rfl ⟨rfl, rfl⟩ ⟨Nat.zero_le _, Nat.zero_le _⟩ (zki (fun x4 μ3 h => ?_))
  obtain ⟨o5, h⟩ := h
  refine zw_istore_n (pc := 10) (n := 3) (i := 3) (lv' := [(0, .ref 190), (1, .ref 188), (2, .int (zJ x2)), (3, .int (zJ x4))]) (by decide +kernel) rfl (Nat.le_of_ble_eq_true rfl) rfl ?_
  refine zw_iload_n (pc := 11) (n := 3) (i := 3) 3 (by decide +kernel) rfl rfl ?_
  refine zw_if_ge (pc := 12) (off := 5) (tgt := 17) (by decide +kernel) (by decide) o5 (fun hc => ?_) (fun hc => ?_)
  · replace h := h.1 hc
    obtain ⟨o6, h⟩ := h
    refine zw_aload_n (pc := 17) (n := 1) (i := 1) 1 (by decide +kernel) rfl rfl ?_
    refine zw_iload_n (pc := 18) (n := 2) (i := 2) 2 (by decide +kernel) rfl rfl ?_
    refine zx_putI (pc := 19) zf_5_47 (by decide +kernel) rfl zc_188 ?_
    refine zw_aload_n (pc := 22) (n := 0) (i := 0) 0 (by decide +kernel) rfl rfl ?_
    refine zx_getR (pc := 23) (o := 1) (r := 191) zf_5_9 (by decide +kernel) rfl zc_190 rfl (by decide) rfl ?_
    refine zw_aload_n (pc := 26) (n := 0) (i := 0) 0 (by decide +kernel) rfl rfl ?_
    refine zx_getI (pc := 27) zf_5_23 (by decide +kernel) rfl zc_190 ?_
    refine zw_iload_n (pc := 30) (n := 3) (i := 3) 3 (by decide +kernel) rfl rfl ?_
    refine zx_iastore (pc := 31) (by decide +kernel) ⟨100, zc_191, o6.1, o6.2⟩ ?_
    refine zw_iload_n (pc := 32) (n := 3) (i := 3) 3 (by decide +kernel) rfl rfl ?_
    refine zx_callS (pc := 33) (As := [.int (zJ x4)]) h zi_X5_numbersAfter zis_X5_numbersAfter zl_5_50 (by decide +kernel) ⟨Nat.le_of_ble_eq_true rfl, Nat.le_of_ble_eq_true rfl⟩ rfl rfl ⟨rfl, rfl⟩ ⟨Nat.zero_le _, Nat.zero_le _⟩ (zki (fun x8 μ7 h => ?_))
    refine zw_istore (pc := 36) (i := 4) (lv' := [(0, .ref 190), (1, .ref 188), (2, .int (zJ x2)), (3, .int (zJ x4)), (4, .int (zJ x8))]) (by decide +kernel) (Nat.le_of_ble_eq_true rfl) rfl ?_
    refine zw_iconst (pc := 38) (n := 0) (by decide +kernel) ?_
    refine zw_istore (pc := 39) (i := 5) (lv' := [(0, .ref 190), (1, .ref 188), (2, .int (zJ x2)), (3, .int (zJ x4)), (4, .int (zJ x8)), (5, .int (zJ 0))]) (by decide +kernel) (Nat.le_of_ble_eq_true rfl) rfl ?_
    exact zw_pick (lv' := [(0, .ref 190), (1, .ref 188), (4, .int (zJ x8)), (5, .int (zJ 0))]) [0, 1, 4, 5] rfl h
  · replace h := h.2 hc
    refine zw_iconst (pc := 15) (n := 0) (by decide +kernel) ?_
    exact zw_zret (pc := 16) (by decide +kernel) rfl (Nat.le_refl _) (Nat.le_refl _) (Or.inl rfl) ⟨_, _, rfl, rfl, h⟩
theorem sg_X5_parseCommand_41 {g : zG} {φ : Int → zMu → Prop} {v4 : Int} {v5 : Int} {μ : zMu}
    (h : (zR v5) ∧ (zR v4) ∧ ((v4 ≤ v5 → φ 1 μ) ∧ (v5 < v4 → zOi g zm_X8_accept [.ref 188, .int (zJ 32)] μ (fun x4 μ3 => (zR x4) ∧ ((x4 = 0 → φ 0 μ3) ∧ (¬ x4 = 0 → zOi g zm_X8_acceptSignedNumber [.ref 188] μ3 (fun x7 μ6 => (zR x7) ∧ ((¬ x7 = 0 → (0 ≤ ((4 * (μ6 190 2)) + v5) ∧ ((4 * (μ6 190 2)) + v5) < 400) ∧ at_X5_parseCommand_41 g φ v4 (v5 + 1) (zup μ6 192 (Int.toNat ((4 * (μ6 190 2)) + v5)) (μ6 188 3))) ∧ (x7 = 0 → φ 0 μ6))))))))) : at_X5_parseCommand_41 g φ v4 v5 μ := by
  obtain ⟨o1, o2, h⟩ := h
  refine zw_iload (pc := 41) (i := 5) 3 (by decide +kernel) rfl ?_
  refine zw_iload (pc := 43) (i := 4) 2 (by decide +kernel) rfl ?_
  refine zw_icmp_ge (pc := 45) (off := 45) (tgt := 90) (by decide +kernel) (by decide) o1 o2 (fun hc => ?_) (fun hc => ?_)
  · replace h := h.1 hc
    refine zw_iconst (pc := 90) (n := 1) (by decide +kernel) ?_
    exact zw_zret (pc := 91) (by decide +kernel) rfl (Nat.le_refl _) (Nat.le_refl _) (Or.inr rfl) ⟨_, _, rfl, rfl, h⟩
  · replace h := h.2 hc
    refine zw_aload_n (pc := 48) (n := 1) (i := 1) 1 (by decide +kernel) rfl rfl ?_
    refine zw_bipush (pc := 49) (n := 32) (by decide +kernel) (by decide +kernel) ?_
    refine zx_callV (pc := 51) (As := [.int (zJ 32)]) h zi_X8_accept zii_X8_accept zie_X8_accept zl_5_31 (by decide +kernel) ⟨Nat.le_of_ble_eq_true rfl, Nat.le_of_ble_eq_true rfl⟩ rfl zc_188 (by decide) rfl rfl ⟨rfl, rfl⟩ ⟨Nat.zero_le _, Nat.zero_le _⟩ (zki (fun x4 μ3 h => ?_))
    obtain ⟨o5, h⟩ := h
    refine zw_if_eq (pc := 54) (off := 10) (tgt := 64) (by decide +kernel) (by decide) o5 (fun hc => ?_) (fun hc => ?_)
    · replace h := h.1 hc
      refine zw_iconst (pc := 64) (n := 0) (by decide +kernel) ?_
      exact zw_zret (pc := 65) (by decide +kernel) rfl (Nat.le_refl _) (Nat.le_refl _) (Or.inl rfl) ⟨_, _, rfl, rfl, h⟩
    · replace h := h.2 hc
      refine zw_aload_n (pc := 57) (n := 1) (i := 1) 1 (by decide +kernel) rfl rfl ?_
      refine zx_callV (pc := 58) (As := []) h zi_X8_acceptSignedNumber zii_X8_acceptSignedNumber zie_X8_acceptSignedNumber zl_5_54 (by decide +kernel) ⟨Nat.le_of_ble_eq_true rfl, Nat.le_of_ble_eq_true rfl⟩ rfl zc_188 (by decide) rfl rfl ⟨rfl, rfl⟩ ⟨Nat.zero_le _, Nat.zero_le _⟩ (zki (fun x7 μ6 h => ?_))
      obtain ⟨o8, h⟩ := h
      refine zw_if_ne (pc := 61) (off := 5) (tgt := 66) (by decide +kernel) (by decide) o8 (fun hc => ?_) (fun hc => ?_)
      · replace h := h.1 hc
        obtain ⟨o9, h⟩ := h
        refine zw_aload_n (pc := 66) (n := 0) (i := 0) 0 (by decide +kernel) rfl rfl ?_
        refine zx_getR (pc := 67) (o := 2) (r := 192) zf_5_15 (by decide +kernel) rfl zc_190 rfl (by decide) rfl ?_
        refine zw_iconst (pc := 70) (n := 4) (by decide +kernel) ?_
        refine zw_aload_n (pc := 71) (n := 0) (i := 0) 0 (by decide +kernel) rfl rfl ?_
        refine zx_getI (pc := 72) zf_5_23 (by decide +kernel) rfl zc_190 ?_
        refine zw_imul (pc := 75) (by decide +kernel) ?_
        refine zw_iload (pc := 76) (i := 5) 3 (by decide +kernel) rfl ?_
        refine zw_iadd (pc := 78) (by decide +kernel) ?_
        refine zw_aload_n (pc := 79) (n := 1) (i := 1) 1 (by decide +kernel) rfl rfl ?_
        refine zx_getI (pc := 80) zf_5_57 (by decide +kernel) rfl zc_188 ?_
        refine zx_iastore (pc := 83) (by decide +kernel) ⟨400, zc_192, o9.1, o9.2⟩ ?_
        refine zw_iinc (pc := 84) (i := 5) (n := 1) (lv' := [(0, .ref 190), (1, .ref 188), (4, .int (zJ v4)), (5, .int (zJ (v5 + 1)))]) 3 (by decide +kernel) rfl rfl (Nat.le_of_ble_eq_true rfl) rfl ?_
        refine zw_goto (pc := 87) (off := (-46)) (tgt := 41) (by decide +kernel) (by decide) ?_
        exact h
      · replace h := h.2 hc
        refine zw_iconst (pc := 64) (n := 0) (by decide +kernel) ?_
        exact zw_zret (pc := 65) (by decide +kernel) rfl (Nat.le_refl _) (Nat.le_refl _) (Or.inl rfl) ⟨_, _, rfl, rfl, h⟩
abbrev at_X5_commandAt_2 (g : zG) (φ : Int → zMu → Prop) (v1 : Int) (v2 : Int) (μ : zMu) : Prop := zWP g zm_X5_commandAt (zmo g zm_X5_commandAt (zΦi φ)) 2 [(0, .ref 188), (1, .int (zJ v1)), (2, .int (zJ v2))] [] 0 0 (zw μ)
theorem sg_X5_commandAt {g : zG} {φ : Int → zMu → Prop} {v1 : Int} {μ : zMu}
    (h : at_X5_commandAt_2 g φ v1 0 μ) : zOi g zm_X5_commandAt [.ref 188, .int (zJ v1)] μ φ := by
  refine zok_of (by decide +kernel) rfl ?_
  show zWP g zm_X5_commandAt (zmo g zm_X5_commandAt (zΦi φ)) 0 [(0, .ref 188), (1, .int (zJ v1))] [] 0 0 (zw μ)
  refine zw_iconst (pc := 0) (n := 0) (by decide +kernel) ?_
  refine zw_istore_n (pc := 1) (n := 2) (i := 2) (lv' := [(0, .ref 188), (1, .int (zJ v1)), (2, .int (zJ 0))]) (by decide +kernel) rfl (Nat.le_of_ble_eq_true rfl) rfl ?_
  exact h
theorem sg_X5_commandAt_2 {g : zG} {φ : Int → zMu → Prop} {v1 : Int} {v2 : Int} {μ : zMu}
    (h : (zR v2) ∧ ((9 ≤ v2 → φ (-1) μ) ∧ (v2 < 9 → zOr g zm_X5_wordOf [.int (zJ v2)] μ (fun x3 μ2 => zOi g zm_X8_hasWord [.ref 188, .ref x3, .int (zJ v1)] μ2 (fun x5 μ4 => (zR x5) ∧ ((x5 = 0 → at_X5_commandAt_2 g φ v1 (v2 + 1) μ4) ∧ (¬ x5 = 0 → φ v2 μ4))))))) : at_X5_commandAt_2 g φ v1 v2 μ := by
  obtain ⟨o1, h⟩ := h
  refine zw_iload_n (pc := 2) (n := 2) (i := 2) 2 (by decide +kernel) rfl rfl ?_
  refine zw_bipush (pc := 3) (n := 9) (by decide +kernel) (by decide +kernel) ?_
  refine zw_icmp_ge (pc := 5) (off := 23) (tgt := 28) (by decide +kernel) (by decide) o1 ⟨by decide, by decide⟩ (fun hc => ?_) (fun hc => ?_)
  · replace h := h.1 hc
    refine zw_iconst (pc := 28) (n := (-1)) (by decide +kernel) ?_
    exact zw_iret (pc := 29) (by decide +kernel) rfl (Nat.le_refl _) (Nat.le_refl _) ⟨_, _, rfl, rfl, h⟩
  · replace h := h.2 hc
    refine zw_aload_n (pc := 8) (n := 0) (i := 0) 0 (by decide +kernel) rfl rfl ?_
    refine zw_iload_n (pc := 9) (n := 2) (i := 2) 2 (by decide +kernel) rfl rfl ?_
    refine zx_callS (pc := 10) (As := [.int (zJ v2)]) h zi_X5_wordOf zis_X5_wordOf zl_5_60 (by decide +kernel) ⟨Nat.le_of_ble_eq_true rfl, Nat.le_of_ble_eq_true rfl⟩ rfl rfl ⟨rfl, rfl⟩ ⟨Nat.zero_le _, Nat.zero_le _⟩ (zkr (fun x3 μ2 h => ?_))
    refine zw_iload_n (pc := 13) (n := 1) (i := 1) 1 (by decide +kernel) rfl rfl ?_
    refine zx_callV (pc := 14) (As := [.ref x3, .int (zJ v1)]) h zi_X8_hasWord zii_X8_hasWord zie_X8_hasWord zl_5_64 (by decide +kernel) ⟨Nat.le_of_ble_eq_true rfl, Nat.le_of_ble_eq_true rfl⟩ rfl zc_188 (by decide) rfl rfl ⟨rfl, rfl⟩ ⟨Nat.zero_le _, Nat.zero_le _⟩ (zki (fun x5 μ4 h => ?_))
    obtain ⟨o6, h⟩ := h
    refine zw_if_eq (pc := 17) (off := 5) (tgt := 22) (by decide +kernel) (by decide) o6 (fun hc => ?_) (fun hc => ?_)
    · replace h := h.1 hc
      refine zw_iinc (pc := 22) (i := 2) (n := 1) (lv' := [(0, .ref 188), (1, .int (zJ v1)), (2, .int (zJ (v2 + 1)))]) 2 (by decide +kernel) rfl rfl (Nat.le_of_ble_eq_true rfl) rfl ?_
      refine zw_goto (pc := 25) (off := (-23)) (tgt := 2) (by decide +kernel) (by decide) ?_
      exact h
    · replace h := h.2 hc
      refine zw_iload_n (pc := 20) (n := 2) (i := 2) 2 (by decide +kernel) rfl rfl ?_
      exact zw_iret (pc := 21) (by decide +kernel) rfl (Nat.le_refl _) (Nat.le_refl _) ⟨_, _, rfl, rfl, h⟩
theorem sg_X5_wordOf {g : zG} {φ : Nat → zMu → Prop} {v0 : Int} {μ : zMu}
    (h : (zR v0) ∧ ((v0 < 0 ∨ 7 < v0 → φ 90009 μ) ∧ (v0 = 0 → φ 90001 μ) ∧ (v0 = 1 → φ 90002 μ) ∧ (v0 = 2 → φ 90003 μ) ∧ (v0 = 3 → φ 90004 μ) ∧ (v0 = 4 → φ 90005 μ) ∧ (v0 = 5 → φ 90006 μ) ∧ (v0 = 6 → φ 90007 μ) ∧ (v0 = 7 → φ 90008 μ))) : zOr g zm_X5_wordOf [.int (zJ v0)] μ φ := by
  refine zok_of (by decide +kernel) rfl ?_
  show zWP g zm_X5_wordOf (zmo g zm_X5_wordOf (zΦr φ)) 0 [(0, .int (zJ v0))] [] 0 0 (zw μ)
  obtain ⟨o1, h⟩ := h
  refine zw_iload_n (pc := 0) (n := 0) (i := 0) 0 (by decide +kernel) rfl rfl ?_
  by_cases e2 : v0 < 0 ∨ 7 < v0
  · replace h := h.1 e2
    refine zw_swOut (pc := 1) (tgt := 72) (by decide +kernel : decode zm_X5_wordOf.2.1 1 = .ok (.tableswitch 71 0 7 #[47, 50, 53, 56, 59, 62, 65, 68], 47)) o1 e2 (by decide) ?_
    refine zx_ldcS (pc := 72) (k := 8) (tx := "") (by decide +kernel) rfl (by decide) rfl ?_
    exact zw_aret (pc := 74) (by decide +kernel) rfl (Nat.le_refl _) (Nat.le_refl _) ⟨_, _, rfl, rfl, h⟩
  · replace h := h.2
    rcases (show v0 = 0 ∨ v0 = 1 ∨ v0 = 2 ∨ v0 = 3 ∨ v0 = 4 ∨ v0 = 5 ∨ v0 = 6 ∨ v0 = 7 by omega) with e2 | e2 | e2 | e2 | e2 | e2 | e2 | e2
    · replace h := h.1 e2
      refine zw_swIn (pc := 1) (off := 47) (tgt := 48) (by decide +kernel : decode zm_X5_wordOf.2.1 1 = .ok (.tableswitch 71 0 7 #[47, 50, 53, 56, 59, 62, 65, 68], 47)) o1 (by omega) (by omega) (by rw [e2]; rfl) (by decide) ?_
      refine zx_ldcS (pc := 48) (k := 0) (tx := "") (by decide +kernel) rfl (by decide) rfl ?_
      exact zw_aret (pc := 50) (by decide +kernel) rfl (Nat.le_refl _) (Nat.le_refl _) ⟨_, _, rfl, rfl, h⟩
    · replace h := h.2.1 e2
      refine zw_swIn (pc := 1) (off := 50) (tgt := 51) (by decide +kernel : decode zm_X5_wordOf.2.1 1 = .ok (.tableswitch 71 0 7 #[47, 50, 53, 56, 59, 62, 65, 68], 47)) o1 (by omega) (by omega) (by rw [e2]; rfl) (by decide) ?_
      refine zx_ldcS (pc := 51) (k := 1) (tx := "") (by decide +kernel) rfl (by decide) rfl ?_
      exact zw_aret (pc := 53) (by decide +kernel) rfl (Nat.le_refl _) (Nat.le_refl _) ⟨_, _, rfl, rfl, h⟩
    · replace h := h.2.2.1 e2
      refine zw_swIn (pc := 1) (off := 53) (tgt := 54) (by decide +kernel : decode zm_X5_wordOf.2.1 1 = .ok (.tableswitch 71 0 7 #[47, 50, 53, 56, 59, 62, 65, 68], 47)) o1 (by omega) (by omega) (by rw [e2]; rfl) (by decide) ?_
      refine zx_ldcS (pc := 54) (k := 2) (tx := "") (by decide +kernel) rfl (by decide) rfl ?_
      exact zw_aret (pc := 56) (by decide +kernel) rfl (Nat.le_refl _) (Nat.le_refl _) ⟨_, _, rfl, rfl, h⟩
    · replace h := h.2.2.2.1 e2
      refine zw_swIn (pc := 1) (off := 56) (tgt := 57) (by decide +kernel : decode zm_X5_wordOf.2.1 1 = .ok (.tableswitch 71 0 7 #[47, 50, 53, 56, 59, 62, 65, 68], 47)) o1 (by omega) (by omega) (by rw [e2]; rfl) (by decide) ?_
      refine zx_ldcS (pc := 57) (k := 3) (tx := "") (by decide +kernel) rfl (by decide) rfl ?_
      exact zw_aret (pc := 59) (by decide +kernel) rfl (Nat.le_refl _) (Nat.le_refl _) ⟨_, _, rfl, rfl, h⟩
    · replace h := h.2.2.2.2.1 e2
      refine zw_swIn (pc := 1) (off := 59) (tgt := 60) (by decide +kernel : decode zm_X5_wordOf.2.1 1 = .ok (.tableswitch 71 0 7 #[47, 50, 53, 56, 59, 62, 65, 68], 47)) o1 (by omega) (by omega) (by rw [e2]; rfl) (by decide) ?_
      refine zx_ldcS (pc := 60) (k := 4) (tx := "") (by decide +kernel) rfl (by decide) rfl ?_
      exact zw_aret (pc := 62) (by decide +kernel) rfl (Nat.le_refl _) (Nat.le_refl _) ⟨_, _, rfl, rfl, h⟩
    · replace h := h.2.2.2.2.2.1 e2
      refine zw_swIn (pc := 1) (off := 62) (tgt := 63) (by decide +kernel : decode zm_X5_wordOf.2.1 1 = .ok (.tableswitch 71 0 7 #[47, 50, 53, 56, 59, 62, 65, 68], 47)) o1 (by omega) (by omega) (by rw [e2]; rfl) (by decide) ?_
      refine zx_ldcS (pc := 63) (k := 5) (tx := "") (by decide +kernel) rfl (by decide) rfl ?_
      exact zw_aret (pc := 65) (by decide +kernel) rfl (Nat.le_refl _) (Nat.le_refl _) ⟨_, _, rfl, rfl, h⟩
    · replace h := h.2.2.2.2.2.2.1 e2
      refine zw_swIn (pc := 1) (off := 65) (tgt := 66) (by decide +kernel : decode zm_X5_wordOf.2.1 1 = .ok (.tableswitch 71 0 7 #[47, 50, 53, 56, 59, 62, 65, 68], 47)) o1 (by omega) (by omega) (by rw [e2]; rfl) (by decide) ?_
      refine zx_ldcS (pc := 66) (k := 6) (tx := "") (by decide +kernel) rfl (by decide) rfl ?_
      exact zw_aret (pc := 68) (by decide +kernel) rfl (Nat.le_refl _) (Nat.le_refl _) ⟨_, _, rfl, rfl, h⟩
    · replace h := h.2.2.2.2.2.2.2 e2
      refine zw_swIn (pc := 1) (off := 68) (tgt := 69) (by decide +kernel : decode zm_X5_wordOf.2.1 1 = .ok (.tableswitch 71 0 7 #[47, 50, 53, 56, 59, 62, 65, 68], 47)) o1 (by omega) (by omega) (by rw [e2]; rfl) (by decide) ?_
      refine zx_ldcS (pc := 69) (k := 7) (tx := "") (by decide +kernel) rfl (by decide) rfl ?_
      exact zw_aret (pc := 71) (by decide +kernel) rfl (Nat.le_refl _) (Nat.le_refl _) ⟨_, _, rfl, rfl, h⟩
theorem sg_X5_numbersAfter {g : zG} {φ : Int → zMu → Prop} {v0 : Int} {μ : zMu}
    (h : (zR v0) ∧ ((v0 < 0 ∨ 8 < v0 → φ 3 μ) ∧ (v0 = 0 → φ 1 μ) ∧ (v0 = 1 → φ 2 μ) ∧ (v0 = 2 → φ 3 μ) ∧ (v0 = 3 → φ 3 μ) ∧ (v0 = 4 → φ 3 μ) ∧ (v0 = 5 → φ 2 μ) ∧ (v0 = 6 → φ 3 μ) ∧ (v0 = 7 → φ 4 μ) ∧ (v0 = 8 → φ 1 μ))) : zOi g zm_X5_numbersAfter [.int (zJ v0)] μ φ := by
  refine zok_of (by decide +kernel) rfl ?_
  show zWP g zm_X5_numbersAfter (zmo g zm_X5_numbersAfter (zΦi φ)) 0 [(0, .int (zJ v0))] [] 0 0 (zw μ)
  obtain ⟨o1, h⟩ := h
  refine zw_iload_n (pc := 0) (n := 0) (i := 0) 0 (by decide +kernel) rfl rfl ?_
  by_cases e2 : v0 < 0 ∨ 8 < v0
  · replace h := h.1 e2
    refine zw_swOut (pc := 1) (tgt := 58) (by decide +kernel : decode zm_X5_numbersAfter.2.1 1 = .ok (.tableswitch 57 0 8 #[51, 53, 57, 57, 57, 53, 57, 55, 51], 51)) o1 e2 (by decide) ?_
    refine zw_iconst (pc := 58) (n := 3) (by decide +kernel) ?_
    exact zw_iret (pc := 59) (by decide +kernel) rfl (Nat.le_refl _) (Nat.le_refl _) ⟨_, _, rfl, rfl, h⟩
  · replace h := h.2
    rcases (show v0 = 0 ∨ v0 = 1 ∨ v0 = 2 ∨ v0 = 3 ∨ v0 = 4 ∨ v0 = 5 ∨ v0 = 6 ∨ v0 = 7 ∨ v0 = 8 by omega) with e2 | e2 | e2 | e2 | e2 | e2 | e2 | e2 | e2
    · replace h := h.1 e2
      refine zw_swIn (pc := 1) (off := 51) (tgt := 52) (by decide +kernel : decode zm_X5_numbersAfter.2.1 1 = .ok (.tableswitch 57 0 8 #[51, 53, 57, 57, 57, 53, 57, 55, 51], 51)) o1 (by omega) (by omega) (by rw [e2]; rfl) (by decide) ?_
      refine zw_iconst (pc := 52) (n := 1) (by decide +kernel) ?_
      exact zw_iret (pc := 53) (by decide +kernel) rfl (Nat.le_refl _) (Nat.le_refl _) ⟨_, _, rfl, rfl, h⟩
    · replace h := h.2.1 e2
      refine zw_swIn (pc := 1) (off := 53) (tgt := 54) (by decide +kernel : decode zm_X5_numbersAfter.2.1 1 = .ok (.tableswitch 57 0 8 #[51, 53, 57, 57, 57, 53, 57, 55, 51], 51)) o1 (by omega) (by omega) (by rw [e2]; rfl) (by decide) ?_
      refine zw_iconst (pc := 54) (n := 2) (by decide +kernel) ?_
      exact zw_iret (pc := 55) (by decide +kernel) rfl (Nat.le_refl _) (Nat.le_refl _) ⟨_, _, rfl, rfl, h⟩
    · replace h := h.2.2.1 e2
      refine zw_swIn (pc := 1) (off := 57) (tgt := 58) (by decide +kernel : decode zm_X5_numbersAfter.2.1 1 = .ok (.tableswitch 57 0 8 #[51, 53, 57, 57, 57, 53, 57, 55, 51], 51)) o1 (by omega) (by omega) (by rw [e2]; rfl) (by decide) ?_
      refine zw_iconst (pc := 58) (n := 3) (by decide +kernel) ?_
      exact zw_iret (pc := 59) (by decide +kernel) rfl (Nat.le_refl _) (Nat.le_refl _) ⟨_, _, rfl, rfl, h⟩
    · replace h := h.2.2.2.1 e2
      refine zw_swIn (pc := 1) (off := 57) (tgt := 58) (by decide +kernel : decode zm_X5_numbersAfter.2.1 1 = .ok (.tableswitch 57 0 8 #[51, 53, 57, 57, 57, 53, 57, 55, 51], 51)) o1 (by omega) (by omega) (by rw [e2]; rfl) (by decide) ?_
      refine zw_iconst (pc := 58) (n := 3) (by decide +kernel) ?_
      exact zw_iret (pc := 59) (by decide +kernel) rfl (Nat.le_refl _) (Nat.le_refl _) ⟨_, _, rfl, rfl, h⟩
    · replace h := h.2.2.2.2.1 e2
      refine zw_swIn (pc := 1) (off := 57) (tgt := 58) (by decide +kernel : decode zm_X5_numbersAfter.2.1 1 = .ok (.tableswitch 57 0 8 #[51, 53, 57, 57, 57, 53, 57, 55, 51], 51)) o1 (by omega) (by omega) (by rw [e2]; rfl) (by decide) ?_
      refine zw_iconst (pc := 58) (n := 3) (by decide +kernel) ?_
      exact zw_iret (pc := 59) (by decide +kernel) rfl (Nat.le_refl _) (Nat.le_refl _) ⟨_, _, rfl, rfl, h⟩
    · replace h := h.2.2.2.2.2.1 e2
      refine zw_swIn (pc := 1) (off := 53) (tgt := 54) (by decide +kernel : decode zm_X5_numbersAfter.2.1 1 = .ok (.tableswitch 57 0 8 #[51, 53, 57, 57, 57, 53, 57, 55, 51], 51)) o1 (by omega) (by omega) (by rw [e2]; rfl) (by decide) ?_
      refine zw_iconst (pc := 54) (n := 2) (by decide +kernel) ?_
      exact zw_iret (pc := 55) (by decide +kernel) rfl (Nat.le_refl _) (Nat.le_refl _) ⟨_, _, rfl, rfl, h⟩
    · replace h := h.2.2.2.2.2.2.1 e2
      refine zw_swIn (pc := 1) (off := 57) (tgt := 58) (by decide +kernel : decode zm_X5_numbersAfter.2.1 1 = .ok (.tableswitch 57 0 8 #[51, 53, 57, 57, 57, 53, 57, 55, 51], 51)) o1 (by omega) (by omega) (by rw [e2]; rfl) (by decide) ?_
      refine zw_iconst (pc := 58) (n := 3) (by decide +kernel) ?_
      exact zw_iret (pc := 59) (by decide +kernel) rfl (Nat.le_refl _) (Nat.le_refl _) ⟨_, _, rfl, rfl, h⟩
    · replace h := h.2.2.2.2.2.2.2.1 e2
      refine zw_swIn (pc := 1) (off := 55) (tgt := 56) (by decide +kernel : decode zm_X5_numbersAfter.2.1 1 = .ok (.tableswitch 57 0 8 #[51, 53, 57, 57, 57, 53, 57, 55, 51], 51)) o1 (by omega) (by omega) (by rw [e2]; rfl) (by decide) ?_
      refine zw_iconst (pc := 56) (n := 4) (by decide +kernel) ?_
      exact zw_iret (pc := 57) (by decide +kernel) rfl (Nat.le_refl _) (Nat.le_refl _) ⟨_, _, rfl, rfl, h⟩
    · replace h := h.2.2.2.2.2.2.2.2 e2
      refine zw_swIn (pc := 1) (off := 51) (tgt := 52) (by decide +kernel : decode zm_X5_numbersAfter.2.1 1 = .ok (.tableswitch 57 0 8 #[51, 53, 57, 57, 57, 53, 57, 55, 51], 51)) o1 (by omega) (by omega) (by rw [e2]; rfl) (by decide) ?_
      refine zw_iconst (pc := 52) (n := 1) (by decide +kernel) ?_
      exact zw_iret (pc := 53) (by decide +kernel) rfl (Nat.le_refl _) (Nat.le_refl _) ⟨_, _, rfl, rfl, h⟩
theorem sg_X5_numberOf {g : zG} {φ : Int → zMu → Prop} {v1 : Int} {v2 : Int} {μ : zMu}
    (h : (0 ≤ ((4 * v1) + v2) ∧ ((4 * v1) + v2) < 400) ∧ φ (μ 192 (Int.toNat ((4 * v1) + v2))) μ) : zOi g zm_X5_numberOf [.ref 190, .int (zJ v1), .int (zJ v2)] μ φ := by
  refine zok_of (by decide +kernel) rfl ?_
  show zWP g zm_X5_numberOf (zmo g zm_X5_numberOf (zΦi φ)) 0 [(0, .ref 190), (1, .int (zJ v1)), (2, .int (zJ v2))] [] 0 0 (zw μ)
  obtain ⟨o1, h⟩ := h
  refine zw_aload_n (pc := 0) (n := 0) (i := 0) 0 (by decide +kernel) rfl rfl ?_
  refine zx_getR (pc := 1) (o := 2) (r := 192) zf_5_15 (by decide +kernel) rfl zc_190 rfl (by decide) rfl ?_
  refine zw_iconst (pc := 4) (n := 4) (by decide +kernel) ?_
  refine zw_iload_n (pc := 5) (n := 1) (i := 1) 1 (by decide +kernel) rfl rfl ?_
  refine zw_imul (pc := 6) (by decide +kernel) ?_
  refine zw_iload_n (pc := 7) (n := 2) (i := 2) 2 (by decide +kernel) rfl rfl ?_
  refine zw_iadd (pc := 8) (by decide +kernel) ?_
  refine zx_iaload (pc := 9) (by decide +kernel) ⟨400, zc_192, o1.1, o1.2⟩ ?_
  exact zw_iret (pc := 10) (by decide +kernel) rfl (Nat.le_refl _) (Nat.le_refl _) ⟨_, _, rfl, rfl, h⟩
abbrev at_X4_parse_17 (g : zG) (φ : Int → zMu → Prop) (v2 : Int) (v3 : Int) (v4 : Int) (μ : zMu) : Prop := zWP g zm_X4_parse (zmo g zm_X4_parse (zΦi φ)) 17 [(0, .ref 193), (1, .ref 188), (2, .int (zJ v2)), (3, .int (zJ v3)), (4, .int (zJ v4))] [] 0 0 (zw μ)
theorem sg_X4_parse {g : zG} {φ : Int → zMu → Prop} {v2 : Int} {μ : zMu}
    (h : zOv g zm_X8_rewind [.ref 188] μ (fun μ1 => zOv g zm_X3_clear [.ref 194, .int (zJ 1)] μ1 (fun μ2 => at_X4_parse_17 g φ v2 1 0 μ2))) : zOi g zm_X4_parse [.ref 193, .ref 188, .int (zJ v2)] μ φ := by
  refine zok_of (by decide +kernel) rfl ?_
  show zWP g zm_X4_parse (zmo g zm_X4_parse (zΦi φ)) 0 [(0, .ref 193), (1, .ref 188), (2, .int (zJ v2))] [] 0 0 (zw μ)
  refine zw_aload_n (pc := 0) (n := 1) (i := 1) 1 (by decide +kernel) rfl rfl ?_
  refine zx_callV (pc := 1) (As := []) h zi_X8_rewind zii_X8_rewind zie_X8_rewind zl_4_22 (by decide +kernel) ⟨Nat.le_of_ble_eq_true rfl, Nat.le_of_ble_eq_true rfl⟩ rfl zc_188 (by decide) rfl rfl ⟨rfl, rfl⟩ ⟨Nat.zero_le _, Nat.zero_le _⟩ (zkv (fun μ1 h => ?_))
  refine zw_aload_n (pc := 4) (n := 0) (i := 0) 0 (by decide +kernel) rfl rfl ?_
  refine zx_getR (pc := 5) (o := 1) (r := 194) zf_4_12 (by decide +kernel) rfl zc_193 rfl (by decide) rfl ?_
  refine zw_iconst (pc := 8) (n := 1) (by decide +kernel) ?_
  refine zx_callV (pc := 9) (As := [.int (zJ 1)]) h zi_X3_clear zii_X3_clear zie_X3_clear zl_4_27 (by decide +kernel) ⟨Nat.le_of_ble_eq_true rfl, Nat.le_of_ble_eq_true rfl⟩ rfl zc_194 (by decide) rfl rfl ⟨rfl, rfl⟩ ⟨Nat.zero_le _, Nat.zero_le _⟩ (zkv (fun μ2 h => ?_))
  refine zw_iconst (pc := 12) (n := 1) (by decide +kernel) ?_
  refine zw_istore_n (pc := 13) (n := 3) (i := 3) (lv' := [(0, .ref 193), (1, .ref 188), (2, .int (zJ v2)), (3, .int (zJ 1))]) (by decide +kernel) rfl (Nat.le_of_ble_eq_true rfl) rfl ?_
  refine zw_iconst (pc := 14) (n := 0) (by decide +kernel) ?_
  refine zw_istore (pc := 15) (i := 4) (lv' := [(0, .ref 193), (1, .ref 188), (2, .int (zJ v2)), (3, .int (zJ 1)), (4, .int (zJ 0))]) (by decide +kernel) (Nat.le_of_ble_eq_true rfl) rfl ?_
  exact h
theorem sg_X4_parse_17 {g : zG} {φ : Int → zMu → Prop} {v2 : Int} {v3 : Int} {v4 : Int} {μ : zMu}
    (h : (zR v3) ∧ ((v3 = 0 → zOi g zm_X8_isAtEnd [.ref 188] μ (fun x3 μ2 => (x3 = 0 ∨ x3 = 1) ∧ φ x3 μ2)) ∧ (¬ v3 = 0 → (zR v4) ∧ ((100 ≤ v4 → zOi g zm_X8_isAtEnd [.ref 188] μ (fun x7 μ6 => (x7 = 0 ∨ x7 = 1) ∧ φ x7 μ6)) ∧ (v4 < 100 → zOi g zm_X4_parseTerm [.ref 193, .ref 188, .int (zJ v2)] μ (fun x10 μ9 => (zR x10) ∧ ((¬ x10 = 0 → zOi g zm_X8_accept [.ref 188, .int (zJ 43)] μ9 (fun x13 μ12 => at_X4_parse_17 g φ v2 x13 (v4 + 1) μ12)) ∧ (x10 = 0 → φ 0 μ9)))))))) : at_X4_parse_17 g φ v2 v3 v4 μ := by
  obtain ⟨o1, h⟩ := h
  refine zw_iload_n (pc := 17) (n := 3) (i := 3) 3 (by decide +kernel) rfl rfl ?_
  refine zw_if_eq (pc := 18) (off := 34) (tgt := 52) (by decide +kernel) (by decide) o1 (fun hc => ?_) (fun hc => ?_)
  · replace h := h.1 hc
    refine zw_aload_n (pc := 52) (n := 1) (i := 1) 1 (by decide +kernel) rfl rfl ?_
    refine zx_callV (pc := 53) (As := []) h zi_X8_isAtEnd zii_X8_isAtEnd zie_X8_isAtEnd zl_4_39 (by decide +kernel) ⟨Nat.le_of_ble_eq_true rfl, Nat.le_of_ble_eq_true rfl⟩ rfl zc_188 (by decide) rfl rfl ⟨rfl, rfl⟩ ⟨Nat.zero_le _, Nat.zero_le _⟩ (zki (fun x3 μ2 h => ?_))
    obtain ⟨o4, h⟩ := h
    exact zw_zret (pc := 56) (by decide +kernel) rfl (Nat.le_refl _) (Nat.le_refl _) o4 ⟨_, _, rfl, rfl, h⟩
  · replace h := h.2 hc
    obtain ⟨o5, h⟩ := h
    refine zw_iload (pc := 21) (i := 4) 4 (by decide +kernel) rfl ?_
    refine zw_bipush (pc := 23) (n := 100) (by decide +kernel) (by decide +kernel) ?_
    refine zw_icmp_ge (pc := 25) (off := 27) (tgt := 52) (by decide +kernel) (by decide) o5 ⟨by decide, by decide⟩ (fun hc => ?_) (fun hc => ?_)
    · replace h := h.1 hc
      refine zw_aload_n (pc := 52) (n := 1) (i := 1) 1 (by decide +kernel) rfl rfl ?_
      refine zx_callV (pc := 53) (As := []) h zi_X8_isAtEnd zii_X8_isAtEnd zie_X8_isAtEnd zl_4_39 (by decide +kernel) ⟨Nat.le_of_ble_eq_true rfl, Nat.le_of_ble_eq_true rfl⟩ rfl zc_188 (by decide) rfl rfl ⟨rfl, rfl⟩ ⟨Nat.zero_le _, Nat.zero_le _⟩ (zki (fun x7 μ6 h => ?_))
      obtain ⟨o8, h⟩ := h
      exact zw_zret (pc := 56) (by decide +kernel) rfl (Nat.le_refl _) (Nat.le_refl _) o8 ⟨_, _, rfl, rfl, h⟩
    · replace h := h.2 hc
      refine zw_aload_n (pc := 28) (n := 0) (i := 0) 0 (by decide +kernel) rfl rfl ?_
      refine zw_aload_n (pc := 29) (n := 1) (i := 1) 1 (by decide +kernel) rfl rfl ?_
      refine zw_iload_n (pc := 30) (n := 2) (i := 2) 2 (by decide +kernel) rfl rfl ?_
      refine zx_callV (pc := 31) (As := [.ref 188, .int (zJ v2)]) h zi_X4_parseTerm zii_X4_parseTerm zie_X4_parseTerm zl_4_31 (by decide +kernel) ⟨Nat.le_of_ble_eq_true rfl, Nat.le_of_ble_eq_true rfl⟩ rfl zc_193 (by decide) rfl rfl ⟨rfl, rfl⟩ ⟨Nat.zero_le _, Nat.zero_le _⟩ (zki (fun x10 μ9 h => ?_))
      obtain ⟨o11, h⟩ := h
      refine zw_if_ne (pc := 34) (off := 5) (tgt := 39) (by decide +kernel) (by decide) o11 (fun hc => ?_) (fun hc => ?_)
      · replace h := h.1 hc
        refine zw_aload_n (pc := 39) (n := 1) (i := 1) 1 (by decide +kernel) rfl rfl ?_
        refine zw_bipush (pc := 40) (n := 43) (by decide +kernel) (by decide +kernel) ?_
        refine zx_callV (pc := 42) (As := [.int (zJ 43)]) h zi_X8_accept zii_X8_accept zie_X8_accept zl_4_35 (by decide +kernel) ⟨Nat.le_of_ble_eq_true rfl, Nat.le_of_ble_eq_true rfl⟩ rfl zc_188 (by decide) rfl rfl ⟨rfl, rfl⟩ ⟨Nat.zero_le _, Nat.zero_le _⟩ (zki (fun x13 μ12 h => ?_))
        refine zw_istore_n (pc := 45) (n := 3) (i := 3) (lv' := [(0, .ref 193), (1, .ref 188), (2, .int (zJ v2)), (3, .int (zJ x13)), (4, .int (zJ v4))]) (by decide +kernel) rfl (Nat.le_of_ble_eq_true rfl) rfl ?_
        refine zw_iinc (pc := 46) (i := 4) (n := 1) (lv' := [(0, .ref 193), (1, .ref 188), (2, .int (zJ v2)), (3, .int (zJ x13)), (4, .int (zJ (v4 + 1)))]) 4 (by decide +kernel) rfl rfl (Nat.le_of_ble_eq_true rfl) rfl ?_
        refine zw_goto (pc := 49) (off := (-32)) (tgt := 17) (by decide +kernel) (by decide) ?_
        exact h
      · replace h := h.2 hc
        refine zw_iconst (pc := 37) (n := 0) (by decide +kernel) ?_
        exact zw_zret (pc := 38) (by decide +kernel) rfl (Nat.le_refl _) (Nat.le_refl _) (Or.inl rfl) ⟨_, _, rfl, rfl, h⟩
theorem sg_X4_parseTerm {g : zG} {φ : Int → zMu → Prop} {v2 : Int} {μ : zMu}
    (h : zOi g zm_X8_acceptNumber [.ref 188] μ (fun x2 μ1 => (zR x2) ∧ ((¬ x2 = 0 → zOi g zm_X8_accept [.ref 188, .int (zJ 120)] μ1 (fun x5 μ4 => (zR x5) ∧ ((x5 = 0 → zOi g zm_X8_accept [.ref 188, .int (zJ 121)] μ4 (fun x8 μ7 => (zR x8) ∧ ((x8 = 0 → (0 ≤ (((9 * 0) + 0) : Int) ∧ (((9 * 0) + 0) : Int) < 81) ∧ (zR ((μ7 195 (Int.toNat ((9 * 0) + 0))) + (μ1 188 3))) ∧ (zR v2) ∧ (v2 ≠ 0) ∧ (zR ((zup μ7 195 (Int.toNat ((9 * 0) + 0)) (((μ7 195 (Int.toNat ((9 * 0) + 0))) + (μ1 188 3)).tmod v2)) 194 1)) ∧ (zR (max 0 0)) ∧ φ 1 (zup (zup μ7 195 (Int.toNat ((9 * 0) + 0)) (((μ7 195 (Int.toNat ((9 * 0) + 0))) + (μ1 188 3)).tmod v2)) 194 1 (max ((zup μ7 195 (Int.toNat ((9 * 0) + 0)) (((μ7 195 (Int.toNat ((9 * 0) + 0))) + (μ1 188 3)).tmod v2)) 194 1) (max 0 0)))) ∧ (¬ x8 = 0 → zOi g zm_X8_acceptExponent [.ref 188] μ7 (fun x17 μ16 => (zR x17) ∧ ((¬ x17 = 0 → (0 ≤ ((9 * 0) + (μ16 188 3)) ∧ ((9 * 0) + (μ16 188 3)) < 81) ∧ (zR ((μ16 195 (Int.toNat ((9 * 0) + (μ16 188 3)))) + (μ1 188 3))) ∧ (zR v2) ∧ (v2 ≠ 0) ∧ (zR (μ16 188 3)) ∧ (zR ((zup μ16 195 (Int.toNat ((9 * 0) + (μ16 188 3))) (((μ16 195 (Int.toNat ((9 * 0) + (μ16 188 3)))) + (μ1 188 3)).tmod v2)) 194 1)) ∧ (zR (max 0 (μ16 188 3))) ∧ φ 1 (zup (zup μ16 195 (Int.toNat ((9 * 0) + (μ16 188 3))) (((μ16 195 (Int.toNat ((9 * 0) + (μ16 188 3)))) + (μ1 188 3)).tmod v2)) 194 1 (max ((zup μ16 195 (Int.toNat ((9 * 0) + (μ16 188 3))) (((μ16 195 (Int.toNat ((9 * 0) + (μ16 188 3)))) + (μ1 188 3)).tmod v2)) 194 1) (max 0 (μ16 188 3))))) ∧ (x17 = 0 → φ 0 μ16))))))) ∧ (¬ x5 = 0 → zOi g zm_X8_acceptExponent [.ref 188] μ4 (fun x27 μ26 => (zR x27) ∧ ((¬ x27 = 0 → zOi g zm_X8_accept [.ref 188, .int (zJ 121)] μ26 (fun x30 μ29 => (zR x30) ∧ ((x30 = 0 → (0 ≤ ((9 * (μ26 188 3)) + 0) ∧ ((9 * (μ26 188 3)) + 0) < 81) ∧ (zR ((μ29 195 (Int.toNat ((9 * (μ26 188 3)) + 0))) + (μ1 188 3))) ∧ (zR v2) ∧ (v2 ≠ 0) ∧ (zR (μ26 188 3)) ∧ (zR ((zup μ29 195 (Int.toNat ((9 * (μ26 188 3)) + 0)) (((μ29 195 (Int.toNat ((9 * (μ26 188 3)) + 0))) + (μ1 188 3)).tmod v2)) 194 1)) ∧ (zR (max (μ26 188 3) 0)) ∧ φ 1 (zup (zup μ29 195 (Int.toNat ((9 * (μ26 188 3)) + 0)) (((μ29 195 (Int.toNat ((9 * (μ26 188 3)) + 0))) + (μ1 188 3)).tmod v2)) 194 1 (max ((zup μ29 195 (Int.toNat ((9 * (μ26 188 3)) + 0)) (((μ29 195 (Int.toNat ((9 * (μ26 188 3)) + 0))) + (μ1 188 3)).tmod v2)) 194 1) (max (μ26 188 3) 0)))) ∧ (¬ x30 = 0 → zOi g zm_X8_acceptExponent [.ref 188] μ29 (fun x40 μ39 => (zR x40) ∧ ((¬ x40 = 0 → (0 ≤ ((9 * (μ26 188 3)) + (μ39 188 3)) ∧ ((9 * (μ26 188 3)) + (μ39 188 3)) < 81) ∧ (zR ((μ39 195 (Int.toNat ((9 * (μ26 188 3)) + (μ39 188 3)))) + (μ1 188 3))) ∧ (zR v2) ∧ (v2 ≠ 0) ∧ (zR (μ26 188 3)) ∧ (zR (μ39 188 3)) ∧ (zR ((zup μ39 195 (Int.toNat ((9 * (μ26 188 3)) + (μ39 188 3))) (((μ39 195 (Int.toNat ((9 * (μ26 188 3)) + (μ39 188 3)))) + (μ1 188 3)).tmod v2)) 194 1)) ∧ (zR (max (μ26 188 3) (μ39 188 3))) ∧ φ 1 (zup (zup μ39 195 (Int.toNat ((9 * (μ26 188 3)) + (μ39 188 3))) (((μ39 195 (Int.toNat ((9 * (μ26 188 3)) + (μ39 188 3)))) + (μ1 188 3)).tmod v2)) 194 1 (max ((zup μ39 195 (Int.toNat ((9 * (μ26 188 3)) + (μ39 188 3))) (((μ39 195 (Int.toNat ((9 * (μ26 188 3)) + (μ39 188 3)))) + (μ1 188 3)).tmod v2)) 194 1) (max (μ26 188 3) (μ39 188 3))))) ∧ (x40 = 0 → φ 0 μ39))))))) ∧ (x27 = 0 → φ 0 μ26))))))) ∧ (x2 = 0 → φ 0 μ1)))) : zOi g zm_X4_parseTerm [.ref 193, .ref 188, .int (zJ v2)] μ φ := by
  refine zok_of (by decide +kernel) rfl ?_
  show zWP g zm_X4_parseTerm (zmo g zm_X4_parseTerm (zΦi φ)) 0 [(0, .ref 193), (1, .ref 188), (2, .int (zJ v2))] [] 0 0 (zw μ)
  refine zw_aload_n (pc := 0) (n := 1) (i := 1) 1 (by decide +kernel) rfl rfl ?_
  refine zx_callV (pc := 1) (As := []) h zi_X8_acceptNumber zii_X8_acceptNumber zie_X8_acceptNumber zl_4_43 (by decide +kernel) ⟨Nat.le_of_ble_eq_true rfl, Nat.le_of_ble_eq_true rfl⟩ rfl zc_188 (by decide) rfl rfl ⟨rfl, rfl⟩ ⟨Nat.zero_le _, Nat.zero_le _⟩ (zki (fun x2 μ1 h => ?_))
  obtain ⟨o3, h⟩ := h
  refine zw_if_ne (pc := 4) (off := 5) (tgt := 9) (by decide +kernel) (by decide) o3 (fun hc => ?_) (fun hc => ?_)
  · replace h := h.1 hc
    refine zw_aload_n (pc := 9) (n := 1) (i := 1) 1 (by decide +kernel) rfl rfl ?_
    refine zx_getI (pc := 10) zf_4_46 (by decide +kernel) rfl zc_188 ?_
    refine zw_istore_n (pc := 13) (n := 3) (i := 3) (lv' := [(0, .ref 193), (1, .ref 188), (2, .int (zJ v2)), (3, .int (zJ (μ1 188 3)))]) (by decide +kernel) rfl (Nat.le_of_ble_eq_true rfl) rfl ?_
    refine zw_iconst (pc := 14) (n := 0) (by decide +kernel) ?_
    refine zw_istore (pc := 15) (i := 4) (lv' := [(0, .ref 193), (1, .ref 188), (2, .int (zJ v2)), (3, .int (zJ (μ1 188 3))), (4, .int (zJ 0))]) (by decide +kernel) (Nat.le_of_ble_eq_true rfl) rfl ?_
    refine zw_aload_n (pc := 17) (n := 1) (i := 1) 1 (by decide +kernel) rfl rfl ?_
    refine zw_bipush (pc := 18) (n := 120) (by decide +kernel) (by decide +kernel) ?_
    refine zx_callV (pc := 20) (As := [.int (zJ 120)]) h zi_X8_accept zii_X8_accept zie_X8_accept zl_4_35 (by decide +kernel) ⟨Nat.le_of_ble_eq_true rfl, Nat.le_of_ble_eq_true rfl⟩ rfl zc_188 (by decide) rfl rfl ⟨rfl, rfl⟩ ⟨Nat.zero_le _, Nat.zero_le _⟩ (zki (fun x5 μ4 h => ?_))
    obtain ⟨o6, h⟩ := h
    refine zw_if_eq (pc := 23) (off := 18) (tgt := 41) (by decide +kernel) (by decide) o6 (fun hc => ?_) (fun hc => ?_)
    · replace h := h.1 hc
      refine zw_iconst (pc := 41) (n := 0) (by decide +kernel) ?_
      refine zw_istore (pc := 42) (i := 5) (lv' := [(0, .ref 193), (1, .ref 188), (2, .int (zJ v2)), (3, .int (zJ (μ1 188 3))), (4, .int (zJ 0)), (5, .int (zJ 0))]) (by decide +kernel) (Nat.le_of_ble_eq_true rfl) rfl ?_
      refine zw_aload_n (pc := 44) (n := 1) (i := 1) 1 (by decide +kernel) rfl rfl ?_
      refine zw_bipush (pc := 45) (n := 121) (by decide +kernel) (by decide +kernel) ?_
      refine zx_callV (pc := 47) (As := [.int (zJ 121)]) h zi_X8_accept zii_X8_accept zie_X8_accept zl_4_35 (by decide +kernel) ⟨Nat.le_of_ble_eq_true rfl, Nat.le_of_ble_eq_true rfl⟩ rfl zc_188 (by decide) rfl rfl ⟨rfl, rfl⟩ ⟨Nat.zero_le _, Nat.zero_le _⟩ (zki (fun x8 μ7 h => ?_))
      obtain ⟨o9, h⟩ := h
      refine zw_if_eq (pc := 50) (off := 18) (tgt := 68) (by decide +kernel) (by decide) o9 (fun hc => ?_) (fun hc => ?_)
      · replace h := h.1 hc
        obtain ⟨o10, o11, o12, o13, o14, o15, h⟩ := h
        refine zw_bipush (pc := 68) (n := 9) (by decide +kernel) (by decide +kernel) ?_
        refine zw_iload (pc := 70) (i := 4) 4 (by decide +kernel) rfl ?_
        refine zw_imul (pc := 72) (by decide +kernel) ?_
        refine zw_iload (pc := 73) (i := 5) 5 (by decide +kernel) rfl ?_
        refine zw_iadd (pc := 75) (by decide +kernel) ?_
        refine zw_istore (pc := 76) (i := 6) (lv' := [(0, .ref 193), (1, .ref 188), (2, .int (zJ v2)), (3, .int (zJ (μ1 188 3))), (4, .int (zJ 0)), (5, .int (zJ 0)), (6, .int (zJ ((9 * 0) + 0)))]) (by decide +kernel) (Nat.le_of_ble_eq_true rfl) rfl ?_
        refine zw_aload_n (pc := 78) (n := 0) (i := 0) 0 (by decide +kernel) rfl rfl ?_
        refine zx_getR (pc := 79) (o := 1) (r := 194) zf_4_12 (by decide +kernel) rfl zc_193 rfl (by decide) rfl ?_
        refine zx_getR (pc := 82) (o := 1) (r := 195) zf_4_53 (by decide +kernel) rfl zc_194 rfl (by decide) rfl ?_
        refine zw_iload (pc := 85) (i := 6) 6 (by decide +kernel) rfl ?_
        refine zw_aload_n (pc := 87) (n := 0) (i := 0) 0 (by decide +kernel) rfl rfl ?_
        refine zx_getR (pc := 88) (o := 1) (r := 194) zf_4_12 (by decide +kernel) rfl zc_193 rfl (by decide) rfl ?_
        refine zx_getR (pc := 91) (o := 1) (r := 195) zf_4_53 (by decide +kernel) rfl zc_194 rfl (by decide) rfl ?_
        refine zw_iload (pc := 94) (i := 6) 6 (by decide +kernel) rfl ?_
        refine zx_iaload (pc := 96) (by decide +kernel) ⟨81, zc_195, o10.1, o10.2⟩ ?_
        refine zw_iload_n (pc := 97) (n := 3) (i := 3) 3 (by decide +kernel) rfl rfl ?_
        refine zw_iadd (pc := 98) (by decide +kernel) ?_
        refine zw_iload_n (pc := 99) (n := 2) (i := 2) 2 (by decide +kernel) rfl rfl ?_
        refine zw_irem (pc := 100) (by decide +kernel) o11 o12 o13 ?_
        refine zx_iastore (pc := 101) (by decide +kernel) ⟨81, zc_195, o10.1, o10.2⟩ ?_
        refine zw_aload_n (pc := 102) (n := 0) (i := 0) 0 (by decide +kernel) rfl rfl ?_
        refine zx_getR (pc := 103) (o := 1) (r := 194) zf_4_12 (by decide +kernel) rfl zc_193 rfl (by decide) rfl ?_
        refine zw_aload_n (pc := 106) (n := 0) (i := 0) 0 (by decide +kernel) rfl rfl ?_
        refine zx_getR (pc := 107) (o := 1) (r := 194) zf_4_12 (by decide +kernel) rfl zc_193 rfl (by decide) rfl ?_
        refine zx_getI (pc := 110) zf_4_56 (by decide +kernel) rfl zc_194 ?_
        refine zw_iload (pc := 113) (i := 4) 4 (by decide +kernel) rfl ?_
        refine zw_iload (pc := 115) (i := 5) 5 (by decide +kernel) rfl ?_
        refine zw_max (pc := 117) zl_4_59 zb_maxS zb_mathI zb_maxC (by decide +kernel) ⟨Nat.le_of_ble_eq_true rfl, Nat.le_of_ble_eq_true rfl⟩ (Nat.zero_le _) (Nat.zero_le _) rfl ⟨by decide, by decide⟩ ⟨by decide, by decide⟩ ?_
        refine zw_max (pc := 120) zl_4_59 zb_maxS zb_mathI zb_maxC (by decide +kernel) ⟨Nat.le_of_ble_eq_true rfl, Nat.le_of_ble_eq_true rfl⟩ (Nat.zero_le _) (Nat.zero_le _) rfl o14 o15 ?_
        refine zx_putI (pc := 123) zf_4_56 (by decide +kernel) rfl zc_194 ?_
        refine zw_iconst (pc := 126) (n := 1) (by decide +kernel) ?_
        exact zw_zret (pc := 127) (by decide +kernel) rfl (Nat.le_refl _) (Nat.le_refl _) (Or.inr rfl) ⟨_, _, rfl, rfl, h⟩
      · replace h := h.2 hc
        refine zw_aload_n (pc := 53) (n := 1) (i := 1) 1 (by decide +kernel) rfl rfl ?_
        refine zx_callV (pc := 54) (As := []) h zi_X8_acceptExponent zii_X8_acceptExponent zie_X8_acceptExponent zl_4_50 (by decide +kernel) ⟨Nat.le_of_ble_eq_true rfl, Nat.le_of_ble_eq_true rfl⟩ rfl zc_188 (by decide) rfl rfl ⟨rfl, rfl⟩ ⟨Nat.zero_le _, Nat.zero_le _⟩ (zki (fun x17 μ16 h => ?_))
        obtain ⟨o18, h⟩ := h
        refine zw_if_ne (pc := 57) (off := 5) (tgt := 62) (by decide +kernel) (by decide) o18 (fun hc => ?_) (fun hc => ?_)
        · replace h := h.1 hc
          obtain ⟨o19, o20, o21, o22, o23, o24, o25, h⟩ := h
          refine zw_aload_n (pc := 62) (n := 1) (i := 1) 1 (by decide +kernel) rfl rfl ?_
          refine zx_getI (pc := 63) zf_4_46 (by decide +kernel) rfl zc_188 ?_
          refine zw_istore (pc := 66) (i := 5) (lv' := [(0, .ref 193), (1, .ref 188), (2, .int (zJ v2)), (3, .int (zJ (μ1 188 3))), (4, .int (zJ 0)), (5, .int (zJ (μ16 188 3)))]) (by decide +kernel) (Nat.le_of_ble_eq_true rfl) rfl ?_
          refine zw_bipush (pc := 68) (n := 9) (by decide +kernel) (by decide +kernel) ?_
          refine zw_iload (pc := 70) (i := 4) 4 (by decide +kernel) rfl ?_
          refine zw_imul (pc := 72) (by decide +kernel) ?_
          refine zw_iload (pc := 73) (i := 5) 5 (by decide +kernel) rfl ?_
          refine zw_iadd (pc := 75) (by decide +kernel) ?_
          refine zw_istore (pc := 76) (i := 6) (lv' := [(0, .ref 193), (1, .ref 188), (2, .int (zJ v2)), (3, .int (zJ (μ1 188 3))), (4, .int (zJ 0)), (5, .int (zJ (μ16 188 3))), (6, .int (zJ ((9 * 0) + (μ16 188 3))))]) (by decide +kernel) (Nat.le_of_ble_eq_true rfl) rfl ?_
          refine zw_aload_n (pc := 78) (n := 0) (i := 0) 0 (by decide +kernel) rfl rfl ?_
          refine zx_getR (pc := 79) (o := 1) (r := 194) zf_4_12 (by decide +kernel) rfl zc_193 rfl (by decide) rfl ?_
          refine zx_getR (pc := 82) (o := 1) (r := 195) zf_4_53 (by decide +kernel) rfl zc_194 rfl (by decide) rfl ?_
          refine zw_iload (pc := 85) (i := 6) 6 (by decide +kernel) rfl ?_
          refine zw_aload_n (pc := 87) (n := 0) (i := 0) 0 (by decide +kernel) rfl rfl ?_
          refine zx_getR (pc := 88) (o := 1) (r := 194) zf_4_12 (by decide +kernel) rfl zc_193 rfl (by decide) rfl ?_
          refine zx_getR (pc := 91) (o := 1) (r := 195) zf_4_53 (by decide +kernel) rfl zc_194 rfl (by decide) rfl ?_
          refine zw_iload (pc := 94) (i := 6) 6 (by decide +kernel) rfl ?_
          refine zx_iaload (pc := 96) (by decide +kernel) ⟨81, zc_195, o19.1, o19.2⟩ ?_
          refine zw_iload_n (pc := 97) (n := 3) (i := 3) 3 (by decide +kernel) rfl rfl ?_
          refine zw_iadd (pc := 98) (by decide +kernel) ?_
          refine zw_iload_n (pc := 99) (n := 2) (i := 2) 2 (by decide +kernel) rfl rfl ?_
          refine zw_irem (pc := 100) (by decide +kernel) o20 o21 o22 ?_
          refine zx_iastore (pc := 101) (by decide +kernel) ⟨81, zc_195, o19.1, o19.2⟩ ?_
          refine zw_aload_n (pc := 102) (n := 0) (i := 0) 0 (by decide +kernel) rfl rfl ?_
          refine zx_getR (pc := 103) (o := 1) (r := 194) zf_4_12 (by decide +kernel) rfl zc_193 rfl (by decide) rfl ?_
          refine zw_aload_n (pc := 106) (n := 0) (i := 0) 0 (by decide +kernel) rfl rfl ?_
          refine zx_getR (pc := 107) (o := 1) (r := 194) zf_4_12 (by decide +kernel) rfl zc_193 rfl (by decide) rfl ?_
          refine zx_getI (pc := 110) zf_4_56 (by decide +kernel) rfl zc_194 ?_
          refine zw_iload (pc := 113) (i := 4) 4 (by decide +kernel) rfl ?_
          refine zw_iload (pc := 115) (i := 5) 5 (by decide +kernel) rfl ?_
          refine zw_max (pc := 117) zl_4_59 zb_maxS zb_mathI zb_maxC (by decide +kernel) ⟨Nat.le_of_ble_eq_true rfl, Nat.le_of_ble_eq_true rfl⟩ (Nat.zero_le _) (Nat.zero_le _) rfl ⟨by decide, by decide⟩ o23 ?_
          refine zw_max (pc := 120) zl_4_59 zb_maxS zb_mathI zb_maxC (by decide +kernel) ⟨Nat.le_of_ble_eq_true rfl, Nat.le_of_ble_eq_true rfl⟩ (Nat.zero_le _) (Nat.zero_le _) rfl o24 o25 ?_
          refine zx_putI (pc := 123) zf_4_56 (by decide +kernel) rfl zc_194 ?_
          refine zw_iconst (pc := 126) (n := 1) (by decide +kernel) ?_
          exact zw_zret (pc := 127) (by decide +kernel) rfl (Nat.le_refl _) (Nat.le_refl _) (Or.inr rfl) ⟨_, _, rfl, rfl, h⟩
        · replace h := h.2 hc
          refine zw_iconst (pc := 60) (n := 0) (by decide +kernel) ?_
          exact zw_zret (pc := 61) (by decide +kernel) rfl (Nat.le_refl _) (Nat.le_refl _) (Or.inl rfl) ⟨_, _, rfl, rfl, h⟩
    · replace h := h.2 hc
      refine zw_aload_n (pc := 26) (n := 1) (i := 1) 1 (by decide +kernel) rfl rfl ?_
      refine zx_callV (pc := 27) (As := []) h zi_X8_acceptExponent zii_X8_acceptExponent zie_X8_acceptExponent zl_4_50 (by decide +kernel) ⟨Nat.le_of_ble_eq_true rfl, Nat.le_of_ble_eq_true rfl⟩ rfl zc_188 (by decide) rfl rfl ⟨rfl, rfl⟩ ⟨Nat.zero_le _, Nat.zero_le _⟩ (zki (fun x27 μ26 h => ?_))
      obtain ⟨o28, h⟩ := h
      refine zw_if_ne (pc := 30) (off := 5) (tgt := 35) (by decide +kernel) (by decide) o28 (fun hc => ?_) (fun hc => ?_)
      · replace h := h.1 hc
        refine zw_aload_n (pc := 35) (n := 1) (i := 1) 1 (by decide +kernel) rfl rfl ?_
        refine zx_getI (pc := 36) zf_4_46 (by decide +kernel) rfl zc_188 ?_
        refine zw_istore (pc := 39) (i := 4) (lv' := [(0, .ref 193), (1, .ref 188), (2, .int (zJ v2)), (3, .int (zJ (μ1 188 3))), (4, .int (zJ (μ26 188 3)))]) (by decide +kernel) (Nat.le_of_ble_eq_true rfl) rfl ?_
        refine zw_iconst (pc := 41) (n := 0) (by decide +kernel) ?_
        refine zw_istore (pc := 42) (i := 5) (lv' := [(0, .ref 193), (1, .ref 188), (2, .int (zJ v2)), (3, .int (zJ (μ1 188 3))), (4, .int (zJ (μ26 188 3))), (5, .int (zJ 0))]) (by decide +kernel) (Nat.le_of_ble_eq_true rfl) rfl ?_
        refine zw_aload_n (pc := 44) (n := 1) (i := 1) 1 (by decide +kernel) rfl rfl ?_
        refine zw_bipush (pc := 45) (n := 121) (by decide +kernel) (by decide +kernel) ?_
        refine zx_callV (pc := 47) (As := [.int (zJ 121)]) h zi_X8_accept zii_X8_accept zie_X8_accept zl_4_35 (by decide +kernel) ⟨Nat.le_of_ble_eq_true rfl, Nat.le_of_ble_eq_true rfl⟩ rfl zc_188 (by decide) rfl rfl ⟨rfl, rfl⟩ ⟨Nat.zero_le _, Nat.zero_le _⟩ (zki (fun x30 μ29 h => ?_))
        obtain ⟨o31, h⟩ := h
        refine zw_if_eq (pc := 50) (off := 18) (tgt := 68) (by decide +kernel) (by decide) o31 (fun hc => ?_) (fun hc => ?_)
        · replace h := h.1 hc
          obtain ⟨o32, o33, o34, o35, o36, o37, o38, h⟩ := h
          refine zw_bipush (pc := 68) (n := 9) (by decide +kernel) (by decide +kernel) ?_
          refine zw_iload (pc := 70) (i := 4) 4 (by decide +kernel) rfl ?_
          refine zw_imul (pc := 72) (by decide +kernel) ?_
          refine zw_iload (pc := 73) (i := 5) 5 (by decide +kernel) rfl ?_
          refine zw_iadd (pc := 75) (by decide +kernel) ?_
          refine zw_istore (pc := 76) (i := 6) (lv' := [(0, .ref 193), (1, .ref 188), (2, .int (zJ v2)), (3, .int (zJ (μ1 188 3))), (4, .int (zJ (μ26 188 3))), (5, .int (zJ 0)), (6, .int (zJ ((9 * (μ26 188 3)) + 0)))]) (by decide +kernel) (Nat.le_of_ble_eq_true rfl) rfl ?_
          refine zw_aload_n (pc := 78) (n := 0) (i := 0) 0 (by decide +kernel) rfl rfl ?_
          refine zx_getR (pc := 79) (o := 1) (r := 194) zf_4_12 (by decide +kernel) rfl zc_193 rfl (by decide) rfl ?_
          refine zx_getR (pc := 82) (o := 1) (r := 195) zf_4_53 (by decide +kernel) rfl zc_194 rfl (by decide) rfl ?_
          refine zw_iload (pc := 85) (i := 6) 6 (by decide +kernel) rfl ?_
          refine zw_aload_n (pc := 87) (n := 0) (i := 0) 0 (by decide +kernel) rfl rfl ?_
          refine zx_getR (pc := 88) (o := 1) (r := 194) zf_4_12 (by decide +kernel) rfl zc_193 rfl (by decide) rfl ?_
          refine zx_getR (pc := 91) (o := 1) (r := 195) zf_4_53 (by decide +kernel) rfl zc_194 rfl (by decide) rfl ?_
          refine zw_iload (pc := 94) (i := 6) 6 (by decide +kernel) rfl ?_
          refine zx_iaload (pc := 96) (by decide +kernel) ⟨81, zc_195, o32.1, o32.2⟩ ?_
          refine zw_iload_n (pc := 97) (n := 3) (i := 3) 3 (by decide +kernel) rfl rfl ?_
          refine zw_iadd (pc := 98) (by decide +kernel) ?_
          refine zw_iload_n (pc := 99) (n := 2) (i := 2) 2 (by decide +kernel) rfl rfl ?_
          refine zw_irem (pc := 100) (by decide +kernel) o33 o34 o35 ?_
          refine zx_iastore (pc := 101) (by decide +kernel) ⟨81, zc_195, o32.1, o32.2⟩ ?_
          refine zw_aload_n (pc := 102) (n := 0) (i := 0) 0 (by decide +kernel) rfl rfl ?_
          refine zx_getR (pc := 103) (o := 1) (r := 194) zf_4_12 (by decide +kernel) rfl zc_193 rfl (by decide) rfl ?_
          refine zw_aload_n (pc := 106) (n := 0) (i := 0) 0 (by decide +kernel) rfl rfl ?_
          refine zx_getR (pc := 107) (o := 1) (r := 194) zf_4_12 (by decide +kernel) rfl zc_193 rfl (by decide) rfl ?_
          refine zx_getI (pc := 110) zf_4_56 (by decide +kernel) rfl zc_194 ?_
          refine zw_iload (pc := 113) (i := 4) 4 (by decide +kernel) rfl ?_
          refine zw_iload (pc := 115) (i := 5) 5 (by decide +kernel) rfl ?_
          refine zw_max (pc := 117) zl_4_59 zb_maxS zb_mathI zb_maxC (by decide +kernel) ⟨Nat.le_of_ble_eq_true rfl, Nat.le_of_ble_eq_true rfl⟩ (Nat.zero_le _) (Nat.zero_le _) rfl o36 ⟨by decide, by decide⟩ ?_
          refine zw_max (pc := 120) zl_4_59 zb_maxS zb_mathI zb_maxC (by decide +kernel) ⟨Nat.le_of_ble_eq_true rfl, Nat.le_of_ble_eq_true rfl⟩ (Nat.zero_le _) (Nat.zero_le _) rfl o37 o38 ?_
          refine zx_putI (pc := 123) zf_4_56 (by decide +kernel) rfl zc_194 ?_
          refine zw_iconst (pc := 126) (n := 1) (by decide +kernel) ?_
          exact zw_zret (pc := 127) (by decide +kernel) rfl (Nat.le_refl _) (Nat.le_refl _) (Or.inr rfl) ⟨_, _, rfl, rfl, h⟩
        · replace h := h.2 hc
          refine zw_aload_n (pc := 53) (n := 1) (i := 1) 1 (by decide +kernel) rfl rfl ?_
          refine zx_callV (pc := 54) (As := []) h zi_X8_acceptExponent zii_X8_acceptExponent zie_X8_acceptExponent zl_4_50 (by decide +kernel) ⟨Nat.le_of_ble_eq_true rfl, Nat.le_of_ble_eq_true rfl⟩ rfl zc_188 (by decide) rfl rfl ⟨rfl, rfl⟩ ⟨Nat.zero_le _, Nat.zero_le _⟩ (zki (fun x40 μ39 h => ?_))
          obtain ⟨o41, h⟩ := h
          refine zw_if_ne (pc := 57) (off := 5) (tgt := 62) (by decide +kernel) (by decide) o41 (fun hc => ?_) (fun hc => ?_)
          · replace h := h.1 hc
            obtain ⟨o42, o43, o44, o45, o46, o47, o48, o49, h⟩ := h
            refine zw_aload_n (pc := 62) (n := 1) (i := 1) 1 (by decide +kernel) rfl rfl ?_
            refine zx_getI (pc := 63) zf_4_46 (by decide +kernel) rfl zc_188 ?_
            refine zw_istore (pc := 66) (i := 5) (lv' := [(0, .ref 193), (1, .ref 188), (2, .int (zJ v2)), (3, .int (zJ (μ1 188 3))), (4, .int (zJ (μ26 188 3))), (5, .int (zJ (μ39 188 3)))]) (by decide +kernel) (Nat.le_of_ble_eq_true rfl) rfl ?_
            refine zw_bipush (pc := 68) (n := 9) (by decide +kernel) (by decide +kernel) ?_
            refine zw_iload (pc := 70) (i := 4) 4 (by decide +kernel) rfl ?_
            refine zw_imul (pc := 72) (by decide +kernel) ?_
            refine zw_iload (pc := 73) (i := 5) 5 (by decide +kernel) rfl ?_
            refine zw_iadd (pc := 75) (by decide +kernel) ?_
            refine zw_istore (pc := 76) (i := 6) (lv' := [(0, .ref 193), (1, .ref 188), (2, .int (zJ v2)), (3, .int (zJ (μ1 188 3))), (4, .int (zJ (μ26 188 3))), (5, .int (zJ (μ39 188 3))), (6, .int (zJ ((9 * (μ26 188 3)) + (μ39 188 3))))]) (by decide +kernel) (Nat.le_of_ble_eq_true rfl) rfl ?_
            refine zw_aload_n (pc := 78) (n := 0) (i := 0) 0 (by decide +kernel) rfl rfl ?_
            refine zx_getR (pc := 79) (o := 1) (r := 194) zf_4_12 (by decide +kernel) rfl zc_193 rfl (by decide) rfl ?_
            refine zx_getR (pc := 82) (o := 1) (r := 195) zf_4_53 (by decide +kernel) rfl zc_194 rfl (by decide) rfl ?_
            refine zw_iload (pc := 85) (i := 6) 6 (by decide +kernel) rfl ?_
            refine zw_aload_n (pc := 87) (n := 0) (i := 0) 0 (by decide +kernel) rfl rfl ?_
            refine zx_getR (pc := 88) (o := 1) (r := 194) zf_4_12 (by decide +kernel) rfl zc_193 rfl (by decide) rfl ?_
            refine zx_getR (pc := 91) (o := 1) (r := 195) zf_4_53 (by decide +kernel) rfl zc_194 rfl (by decide) rfl ?_
            refine zw_iload (pc := 94) (i := 6) 6 (by decide +kernel) rfl ?_
            refine zx_iaload (pc := 96) (by decide +kernel) ⟨81, zc_195, o42.1, o42.2⟩ ?_
            refine zw_iload_n (pc := 97) (n := 3) (i := 3) 3 (by decide +kernel) rfl rfl ?_
            refine zw_iadd (pc := 98) (by decide +kernel) ?_
            refine zw_iload_n (pc := 99) (n := 2) (i := 2) 2 (by decide +kernel) rfl rfl ?_
            refine zw_irem (pc := 100) (by decide +kernel) o43 o44 o45 ?_
            refine zx_iastore (pc := 101) (by decide +kernel) ⟨81, zc_195, o42.1, o42.2⟩ ?_
            refine zw_aload_n (pc := 102) (n := 0) (i := 0) 0 (by decide +kernel) rfl rfl ?_
            refine zx_getR (pc := 103) (o := 1) (r := 194) zf_4_12 (by decide +kernel) rfl zc_193 rfl (by decide) rfl ?_
            refine zw_aload_n (pc := 106) (n := 0) (i := 0) 0 (by decide +kernel) rfl rfl ?_
            refine zx_getR (pc := 107) (o := 1) (r := 194) zf_4_12 (by decide +kernel) rfl zc_193 rfl (by decide) rfl ?_
            refine zx_getI (pc := 110) zf_4_56 (by decide +kernel) rfl zc_194 ?_
            refine zw_iload (pc := 113) (i := 4) 4 (by decide +kernel) rfl ?_
            refine zw_iload (pc := 115) (i := 5) 5 (by decide +kernel) rfl ?_
            refine zw_max (pc := 117) zl_4_59 zb_maxS zb_mathI zb_maxC (by decide +kernel) ⟨Nat.le_of_ble_eq_true rfl, Nat.le_of_ble_eq_true rfl⟩ (Nat.zero_le _) (Nat.zero_le _) rfl o46 o47 ?_
            refine zw_max (pc := 120) zl_4_59 zb_maxS zb_mathI zb_maxC (by decide +kernel) ⟨Nat.le_of_ble_eq_true rfl, Nat.le_of_ble_eq_true rfl⟩ (Nat.zero_le _) (Nat.zero_le _) rfl o48 o49 ?_
            refine zx_putI (pc := 123) zf_4_56 (by decide +kernel) rfl zc_194 ?_
            refine zw_iconst (pc := 126) (n := 1) (by decide +kernel) ?_
            exact zw_zret (pc := 127) (by decide +kernel) rfl (Nat.le_refl _) (Nat.le_refl _) (Or.inr rfl) ⟨_, _, rfl, rfl, h⟩
          · replace h := h.2 hc
            refine zw_iconst (pc := 60) (n := 0) (by decide +kernel) ?_
            exact zw_zret (pc := 61) (by decide +kernel) rfl (Nat.le_refl _) (Nat.le_refl _) (Or.inl rfl) ⟨_, _, rfl, rfl, h⟩
      · replace h := h.2 hc
        refine zw_iconst (pc := 33) (n := 0) (by decide +kernel) ?_
        exact zw_zret (pc := 34) (by decide +kernel) rfl (Nat.le_refl _) (Nat.le_refl _) (Or.inl rfl) ⟨_, _, rfl, rfl, h⟩
  · replace h := h.2 hc
    refine zw_iconst (pc := 7) (n := 0) (by decide +kernel) ?_
    exact zw_zret (pc := 8) (by decide +kernel) rfl (Nat.le_refl _) (Nat.le_refl _) (Or.inl rfl) ⟨_, _, rfl, rfl, h⟩
abbrev at_X4_putDown_10 (g : zG) (φ : zMu → Prop) (v1 : Nat) (v2 : Int) (μ : zMu) : Prop := zWP g zm_X4_putDown (zmo g zm_X4_putDown (zΦv φ)) 10 [(0, .ref 193), (1, .ref v1), (2, .int (zJ v2))] [] 0 0 (zw μ)
abbrev at_X4_putDown_19 (g : zG) (φ : zMu → Prop) (v1 : Nat) (v2 : Int) (v3 : Int) (μ : zMu) : Prop := zWP g zm_X4_putDown (zmo g zm_X4_putDown (zΦv φ)) 19 [(0, .ref 193), (1, .ref v1), (2, .int (zJ v2)), (3, .int (zJ v3))] [] 0 0 (zw μ)
theorem sg_X4_putDown {g : zG} {φ : zMu → Prop} {v1 : Nat} {μ : zMu} (h_v1 : zS v1 3 2)
    (h : at_X4_putDown_10 g φ v1 ((zup μ 193 2 0) v1 1) (zup μ 193 2 0)) : zOv g zm_X4_putDown [.ref 193, .ref v1] μ φ := by
  refine zok_of (by decide +kernel) rfl ?_
  show zWP g zm_X4_putDown (zmo g zm_X4_putDown (zΦv φ)) 0 [(0, .ref 193), (1, .ref v1)] [] 0 0 (zw μ)
  refine zw_aload_n (pc := 0) (n := 0) (i := 0) 0 (by decide +kernel) rfl rfl ?_
  refine zw_iconst (pc := 1) (n := 0) (by decide +kernel) ?_
  refine zx_putI (pc := 2) zf_4_65 (by decide +kernel) rfl zc_193 ?_
  refine zw_aload_n (pc := 5) (n := 1) (i := 1) 1 (by decide +kernel) rfl rfl ?_
  refine zx_getI (pc := 6) zf_4_56 (by decide +kernel) rfl h_v1 ?_
  refine zw_istore_n (pc := 9) (n := 2) (i := 2) (lv' := [(0, .ref 193), (1, .ref v1), (2, .int (zJ ((zup μ 193 2 0) v1 1)))]) (by decide +kernel) rfl (Nat.le_of_ble_eq_true rfl) rfl ?_
  exact h
theorem sg_X4_putDown_10 {g : zG} {φ : zMu → Prop} {v1 : Nat} {v2 : Int} {μ : zMu} (h_v1 : zS v1 3 2)
    (h : (zR v2) ∧ ((v2 < 0 → (zR (μ 193 2)) ∧ ((¬ (μ 193 2) = 0 → φ μ) ∧ ((μ 193 2) = 0 → zOv g zm_X4_putByte [.ref 193, .int (zJ 48)] μ (fun μ3 => φ μ3)))) ∧ (0 ≤ v2 → at_X4_putDown_19 g φ v1 v2 (μ v1 1) μ))) : at_X4_putDown_10 g φ v1 v2 μ := by
  obtain ⟨o1, h⟩ := h
  refine zw_iload_n (pc := 10) (n := 2) (i := 2) 2 (by decide +kernel) rfl rfl ?_
  refine zw_if_lt (pc := 11) (off := 50) (tgt := 61) (by decide +kernel) (by decide) o1 (fun hc => ?_) (fun hc => ?_)
  · replace h := h.1 hc
    obtain ⟨o2, h⟩ := h
    refine zw_aload_n (pc := 61) (n := 0) (i := 0) 0 (by decide +kernel) rfl rfl ?_
    refine zx_getI (pc := 62) zf_4_65 (by decide +kernel) rfl zc_193 ?_
    refine zw_if_ne (pc := 65) (off := 9) (tgt := 74) (by decide +kernel) (by decide) o2 (fun hc => ?_) (fun hc => ?_)
    · replace h := h.1 hc
      exact zw_vret (pc := 74) (by decide +kernel) rfl (Nat.le_refl _) (Nat.le_refl _) ⟨_, rfl, rfl, h⟩
    · replace h := h.2 hc
      refine zw_aload_n (pc := 68) (n := 0) (i := 0) 0 (by decide +kernel) rfl rfl ?_
      refine zw_bipush (pc := 69) (n := 48) (by decide +kernel) (by decide +kernel) ?_
      refine zx_callV (pc := 71) (As := [.int (zJ 48)]) h zi_X4_putByte zii_X4_putByte zie_X4_putByte zl_4_72 (by decide +kernel) ⟨Nat.le_of_ble_eq_true rfl, Nat.le_of_ble_eq_true rfl⟩ rfl zc_193 (by decide) rfl rfl ⟨rfl, rfl⟩ ⟨Nat.zero_le _, Nat.zero_le _⟩ (zkv (fun μ3 h => ?_))
      exact zw_vret (pc := 74) (by decide +kernel) rfl (Nat.le_refl _) (Nat.le_refl _) ⟨_, rfl, rfl, h⟩
  · replace h := h.2 hc
    refine zw_aload_n (pc := 14) (n := 1) (i := 1) 1 (by decide +kernel) rfl rfl ?_
    refine zx_getI (pc := 15) zf_4_56 (by decide +kernel) rfl h_v1 ?_
    refine zw_istore_n (pc := 18) (n := 3) (i := 3) (lv' := [(0, .ref 193), (1, .ref v1), (2, .int (zJ v2)), (3, .int (zJ (μ v1 1)))]) (by decide +kernel) rfl (Nat.le_of_ble_eq_true rfl) rfl ?_
    exact h
theorem sg_X4_putDown_19 {g : zG} {φ : zMu → Prop} {v1 : Nat} {v2 : Int} {v3 : Int} {μ : zMu} (h_v1 : zS v1 3 2)
    (h : (zR v3) ∧ ((v3 < 0 → at_X4_putDown_10 g φ v1 (v2 + (-1)) μ) ∧ (0 ≤ v3 → (0 ≤ ((9 * v2) + v3) ∧ ((9 * v2) + v3) < 81) ∧ (zR (μ (v1 + 1) (Int.toNat ((9 * v2) + v3)))) ∧ (((μ (v1 + 1) (Int.toNat ((9 * v2) + v3))) = 0 → at_X4_putDown_19 g φ v1 v2 (v3 + (-1)) μ) ∧ (¬ (μ (v1 + 1) (Int.toNat ((9 * v2) + v3))) = 0 → zOv g zm_X4_putTerm [.ref 193, .int (zJ (μ (v1 + 1) (Int.toNat ((9 * v2) + v3)))), .int (zJ v2), .int (zJ v3)] μ (fun μ5 => at_X4_putDown_19 g φ v1 v2 (v3 + (-1)) μ5)))))) : at_X4_putDown_19 g φ v1 v2 v3 μ := by
  obtain ⟨o1, h⟩ := h
  refine zw_iload_n (pc := 19) (n := 3) (i := 3) 3 (by decide +kernel) rfl rfl ?_
  refine zw_if_lt (pc := 20) (off := 35) (tgt := 55) (by decide +kernel) (by decide) o1 (fun hc => ?_) (fun hc => ?_)
  · replace h := h.1 hc
    refine zw_iinc (pc := 55) (i := 2) (n := (-1)) (lv' := [(0, .ref 193), (1, .ref v1), (2, .int (zJ (v2 + (-1)))), (3, .int (zJ v3))]) 2 (by decide +kernel) rfl rfl (Nat.le_of_ble_eq_true rfl) rfl ?_
    refine zw_goto (pc := 58) (off := (-48)) (tgt := 10) (by decide +kernel) (by decide) ?_
    exact zw_pick (lv' := [(0, .ref 193), (1, .ref v1), (2, .int (zJ (v2 + (-1))))]) [0, 1, 2] rfl h
  · replace h := h.2 hc
    obtain ⟨o3, o4, h⟩ := h
    refine zw_aload_n (pc := 23) (n := 1) (i := 1) 1 (by decide +kernel) rfl rfl ?_
    have q2 : zS (v1 + 1) 12 81 := zq 0 h_v1 rfl
    refine zx_getR (pc := 24) (o := 1) (r := (v1 + 1)) zf_4_53 (by decide +kernel) rfl h_v1 rfl (by decide) rfl ?_
    refine zw_bipush (pc := 27) (n := 9) (by decide +kernel) (by decide +kernel) ?_
    refine zw_iload_n (pc := 29) (n := 2) (i := 2) 2 (by decide +kernel) rfl rfl ?_
    refine zw_imul (pc := 30) (by decide +kernel) ?_
    refine zw_iload_n (pc := 31) (n := 3) (i := 3) 3 (by decide +kernel) rfl rfl ?_
    refine zw_iadd (pc := 32) (by decide +kernel) ?_
    refine zx_iaload (pc := 33) (by decide +kernel) ⟨81, q2, o3.1, o3.2⟩ ?_
    refine zw_istore (pc := 34) (i := 4) (lv' := [(0, .ref 193), (1, .ref v1), (2, .int (zJ v2)), (3, .int (zJ v3)), (4, .int (zJ (μ (v1 + 1) (Int.toNat ((9 * v2) + v3)))))]) (by decide +kernel) (Nat.le_of_ble_eq_true rfl) rfl ?_
    refine zw_iload (pc := 36) (i := 4) 4 (by decide +kernel) rfl ?_
    refine zw_if_eq (pc := 38) (off := 11) (tgt := 49) (by decide +kernel) (by decide) o4 (fun hc => ?_) (fun hc => ?_)
    · replace h := h.1 hc
      refine zw_iinc (pc := 49) (i := 3) (n := (-1)) (lv' := [(0, .ref 193), (1, .ref v1), (2, .int (zJ v2)), (3, .int (zJ (v3 + (-1)))), (4, .int (zJ (μ (v1 + 1) (Int.toNat ((9 * v2) + v3)))))]) 3 (by decide +kernel) rfl rfl (Nat.le_of_ble_eq_true rfl) rfl ?_
      refine zw_goto (pc := 52) (off := (-33)) (tgt := 19) (by decide +kernel) (by decide) ?_
      exact zw_pick (lv' := [(0, .ref 193), (1, .ref v1), (2, .int (zJ v2)), (3, .int (zJ (v3 + (-1))))]) [0, 1, 2, 3] rfl h
    · replace h := h.2 hc
      refine zw_aload_n (pc := 41) (n := 0) (i := 0) 0 (by decide +kernel) rfl rfl ?_
      refine zw_iload (pc := 42) (i := 4) 4 (by decide +kernel) rfl ?_
      refine zw_iload_n (pc := 44) (n := 2) (i := 2) 2 (by decide +kernel) rfl rfl ?_
      refine zw_iload_n (pc := 45) (n := 3) (i := 3) 3 (by decide +kernel) rfl rfl ?_
      refine zx_callV (pc := 46) (As := [.int (zJ (μ (v1 + 1) (Int.toNat ((9 * v2) + v3)))), .int (zJ v2), .int (zJ v3)]) h zi_X4_putTerm zii_X4_putTerm zie_X4_putTerm zl_4_68 (by decide +kernel) ⟨Nat.le_of_ble_eq_true rfl, Nat.le_of_ble_eq_true rfl⟩ rfl zc_193 (by decide) rfl rfl ⟨rfl, rfl⟩ ⟨Nat.zero_le _, Nat.zero_le _⟩ (zkv (fun μ5 h => ?_))
      refine zw_iinc (pc := 49) (i := 3) (n := (-1)) (lv' := [(0, .ref 193), (1, .ref v1), (2, .int (zJ v2)), (3, .int (zJ (v3 + (-1)))), (4, .int (zJ (μ (v1 + 1) (Int.toNat ((9 * v2) + v3)))))]) 3 (by decide +kernel) rfl rfl (Nat.le_of_ble_eq_true rfl) rfl ?_
      refine zw_goto (pc := 52) (off := (-33)) (tgt := 19) (by decide +kernel) (by decide) ?_
      exact zw_pick (lv' := [(0, .ref 193), (1, .ref v1), (2, .int (zJ v2)), (3, .int (zJ (v3 + (-1))))]) [0, 1, 2, 3] rfl h
theorem sg_X4_putTerm {g : zG} {φ : zMu → Prop} {v1 : Int} {v2 : Int} {v3 : Int} {μ : zMu}
    (h : (zR (μ 193 2)) ∧ (((μ 193 2) ≤ 0 → zOv g zm_X4_putNumber [.ref 193, .int (zJ v1)] μ (fun μ2 => (zR v2) ∧ ((v2 ≤ 0 → (zR v3) ∧ ((v3 ≤ 0 → φ μ2) ∧ (0 < v3 → zOv g zm_X4_putByte [.ref 193, .int (zJ 121)] μ2 (fun μ5 => zOv g zm_X4_putNumber [.ref 193, .int (zJ v3)] μ5 (fun μ6 => φ μ6))))) ∧ (0 < v2 → zOv g zm_X4_putByte [.ref 193, .int (zJ 120)] μ2 (fun μ7 => zOv g zm_X4_putNumber [.ref 193, .int (zJ v2)] μ7 (fun μ8 => (zR v3) ∧ ((v3 ≤ 0 → φ μ8) ∧ (0 < v3 → zOv g zm_X4_putByte [.ref 193, .int (zJ 121)] μ8 (fun μ10 => zOv g zm_X4_putNumber [.ref 193, .int (zJ v3)] μ10 (fun μ11 => φ μ11)))))))))) ∧ (0 < (μ 193 2) → zOv g zm_X4_putByte [.ref 193, .int (zJ 43)] μ (fun μ12 => zOv g zm_X4_putNumber [.ref 193, .int (zJ v1)] μ12 (fun μ13 => (zR v2) ∧ ((v2 ≤ 0 → (zR v3) ∧ ((v3 ≤ 0 → φ μ13) ∧ (0 < v3 → zOv g zm_X4_putByte [.ref 193, .int (zJ 121)] μ13 (fun μ16 => zOv g zm_X4_putNumber [.ref 193, .int (zJ v3)] μ16 (fun μ17 => φ μ17))))) ∧ (0 < v2 → zOv g zm_X4_putByte [.ref 193, .int (zJ 120)] μ13 (fun μ18 => zOv g zm_X4_putNumber [.ref 193, .int (zJ v2)] μ18 (fun μ19 => (zR v3) ∧ ((v3 ≤ 0 → φ μ19) ∧ (0 < v3 → zOv g zm_X4_putByte [.ref 193, .int (zJ 121)] μ19 (fun μ21 => zOv g zm_X4_putNumber [.ref 193, .int (zJ v3)] μ21 (fun μ22 => φ μ22))))))))))))) : zOv g zm_X4_putTerm [.ref 193, .int (zJ v1), .int (zJ v2), .int (zJ v3)] μ φ := by
  refine zok_of (by decide +kernel) rfl ?_
  show zWP g zm_X4_putTerm (zmo g zm_X4_putTerm (zΦv φ)) 0 [(0, .ref 193), (1, .int (zJ v1)), (2, .int (zJ v2)), (3, .int (zJ v3))] [] 0 0 (zw μ)
  obtain ⟨o1, h⟩ := h
  refine zw_aload_n (pc := 0) (n := 0) (i := 0) 0 (by decide +kernel) rfl rfl ?_
  refine zx_getI (pc := 1) zf_4_65 (by decide +kernel) rfl zc_193 ?_
  refine zw_if_le (pc := 4) (off := 9) (tgt := 13) (by decide +kernel) (by decide) o1 (fun hc => ?_) (fun hc => ?_)
  · replace h := h.1 hc
    refine zw_aload_n (pc := 13) (n := 0) (i := 0) 0 (by decide +kernel) rfl rfl ?_
    refine zw_iload_n (pc := 14) (n := 1) (i := 1) 1 (by decide +kernel) rfl rfl ?_
    refine zx_callV (pc := 15) (As := [.int (zJ v1)]) h zi_X4_putNumber zii_X4_putNumber zie_X4_putNumber zl_4_75 (by decide +kernel) ⟨Nat.le_of_ble_eq_true rfl, Nat.le_of_ble_eq_true rfl⟩ rfl zc_193 (by decide) rfl rfl ⟨rfl, rfl⟩ ⟨Nat.zero_le _, Nat.zero_le _⟩ (zkv (fun μ2 h => ?_))
    obtain ⟨o3, h⟩ := h
    refine zw_iload_n (pc := 18) (n := 2) (i := 2) 2 (by decide +kernel) rfl rfl ?_
    refine zw_if_le (pc := 19) (off := 14) (tgt := 33) (by decide +kernel) (by decide) o3 (fun hc => ?_) (fun hc => ?_)
    · replace h := h.1 hc
      obtain ⟨o4, h⟩ := h
      refine zw_iload_n (pc := 33) (n := 3) (i := 3) 3 (by decide +kernel) rfl rfl ?_
      refine zw_if_le (pc := 34) (off := 14) (tgt := 48) (by decide +kernel) (by decide) o4 (fun hc => ?_) (fun hc => ?_)
      · replace h := h.1 hc
        exact zw_vret (pc := 48) (by decide +kernel) rfl (Nat.le_refl _) (Nat.le_refl _) ⟨_, rfl, rfl, h⟩
      · replace h := h.2 hc
        refine zw_aload_n (pc := 37) (n := 0) (i := 0) 0 (by decide +kernel) rfl rfl ?_
        refine zw_bipush (pc := 38) (n := 121) (by decide +kernel) (by decide +kernel) ?_
        refine zx_callV (pc := 40) (As := [.int (zJ 121)]) h zi_X4_putByte zii_X4_putByte zie_X4_putByte zl_4_72 (by decide +kernel) ⟨Nat.le_of_ble_eq_true rfl, Nat.le_of_ble_eq_true rfl⟩ rfl zc_193 (by decide) rfl rfl ⟨rfl, rfl⟩ ⟨Nat.zero_le _, Nat.zero_le _⟩ (zkv (fun μ5 h => ?_))
        refine zw_aload_n (pc := 43) (n := 0) (i := 0) 0 (by decide +kernel) rfl rfl ?_
        refine zw_iload_n (pc := 44) (n := 3) (i := 3) 3 (by decide +kernel) rfl rfl ?_
        refine zx_callV (pc := 45) (As := [.int (zJ v3)]) h zi_X4_putNumber zii_X4_putNumber zie_X4_putNumber zl_4_75 (by decide +kernel) ⟨Nat.le_of_ble_eq_true rfl, Nat.le_of_ble_eq_true rfl⟩ rfl zc_193 (by decide) rfl rfl ⟨rfl, rfl⟩ ⟨Nat.zero_le _, Nat.zero_le _⟩ (zkv (fun μ6 h => ?_))
        exact zw_vret (pc := 48) (by decide +kernel) rfl (Nat.le_refl _) (Nat.le_refl _) ⟨_, rfl, rfl, h⟩
    · replace h := h.2 hc
      refine zw_aload_n (pc := 22) (n := 0) (i := 0) 0 (by decide +kernel) rfl rfl ?_
      refine zw_bipush (pc := 23) (n := 120) (by decide +kernel) (by decide +kernel) ?_
      refine zx_callV (pc := 25) (As := [.int (zJ 120)]) h zi_X4_putByte zii_X4_putByte zie_X4_putByte zl_4_72 (by decide +kernel) ⟨Nat.le_of_ble_eq_true rfl, Nat.le_of_ble_eq_true rfl⟩ rfl zc_193 (by decide) rfl rfl ⟨rfl, rfl⟩ ⟨Nat.zero_le _, Nat.zero_le _⟩ (zkv (fun μ7 h => ?_))
      refine zw_aload_n (pc := 28) (n := 0) (i := 0) 0 (by decide +kernel) rfl rfl ?_
      refine zw_iload_n (pc := 29) (n := 2) (i := 2) 2 (by decide +kernel) rfl rfl ?_
      refine zx_callV (pc := 30) (As := [.int (zJ v2)]) h zi_X4_putNumber zii_X4_putNumber zie_X4_putNumber zl_4_75 (by decide +kernel) ⟨Nat.le_of_ble_eq_true rfl, Nat.le_of_ble_eq_true rfl⟩ rfl zc_193 (by decide) rfl rfl ⟨rfl, rfl⟩ ⟨Nat.zero_le _, Nat.zero_le _⟩ (zkv (fun μ8 h => ?_))
      obtain ⟨o9, h⟩ := h
      refine zw_iload_n (pc := 33) (n := 3) (i := 3) 3 (by decide +kernel) rfl rfl ?_
      refine zw_if_le (pc := 34) (off := 14) (tgt := 48) (by decide +kernel) (by decide) o9 (fun hc => ?_) (fun hc => ?_)
      · replace h := h.1 hc
        exact zw_vret (pc := 48) (by decide +kernel) rfl (Nat.le_refl _) (Nat.le_refl _) ⟨_, rfl, rfl, h⟩
      · replace h := h.2 hc
        refine zw_aload_n (pc := 37) (n := 0) (i := 0) 0 (by decide +kernel) rfl rfl ?_
        refine zw_bipush (pc := 38) (n := 121) (by decide +kernel) (by decide +kernel) ?_
        refine zx_callV (pc := 40) (As := [.int (zJ 121)]) h zi_X4_putByte zii_X4_putByte zie_X4_putByte zl_4_72 (by decide +kernel) ⟨Nat.le_of_ble_eq_true rfl, Nat.le_of_ble_eq_true rfl⟩ rfl zc_193 (by decide) rfl rfl ⟨rfl, rfl⟩ ⟨Nat.zero_le _, Nat.zero_le _⟩ (zkv (fun μ10 h => ?_))
        refine zw_aload_n (pc := 43) (n := 0) (i := 0) 0 (by decide +kernel) rfl rfl ?_
        refine zw_iload_n (pc := 44) (n := 3) (i := 3) 3 (by decide +kernel) rfl rfl ?_
        refine zx_callV (pc := 45) (As := [.int (zJ v3)]) h zi_X4_putNumber zii_X4_putNumber zie_X4_putNumber zl_4_75 (by decide +kernel) ⟨Nat.le_of_ble_eq_true rfl, Nat.le_of_ble_eq_true rfl⟩ rfl zc_193 (by decide) rfl rfl ⟨rfl, rfl⟩ ⟨Nat.zero_le _, Nat.zero_le _⟩ (zkv (fun μ11 h => ?_))
        exact zw_vret (pc := 48) (by decide +kernel) rfl (Nat.le_refl _) (Nat.le_refl _) ⟨_, rfl, rfl, h⟩
  · replace h := h.2 hc
    refine zw_aload_n (pc := 7) (n := 0) (i := 0) 0 (by decide +kernel) rfl rfl ?_
    refine zw_bipush (pc := 8) (n := 43) (by decide +kernel) (by decide +kernel) ?_
    refine zx_callV (pc := 10) (As := [.int (zJ 43)]) h zi_X4_putByte zii_X4_putByte zie_X4_putByte zl_4_72 (by decide +kernel) ⟨Nat.le_of_ble_eq_true rfl, Nat.le_of_ble_eq_true rfl⟩ rfl zc_193 (by decide) rfl rfl ⟨rfl, rfl⟩ ⟨Nat.zero_le _, Nat.zero_le _⟩ (zkv (fun μ12 h => ?_))
    refine zw_aload_n (pc := 13) (n := 0) (i := 0) 0 (by decide +kernel) rfl rfl ?_
    refine zw_iload_n (pc := 14) (n := 1) (i := 1) 1 (by decide +kernel) rfl rfl ?_
    refine zx_callV (pc := 15) (As := [.int (zJ v1)]) h zi_X4_putNumber zii_X4_putNumber zie_X4_putNumber zl_4_75 (by decide +kernel) ⟨Nat.le_of_ble_eq_true rfl, Nat.le_of_ble_eq_true rfl⟩ rfl zc_193 (by decide) rfl rfl ⟨rfl, rfl⟩ ⟨Nat.zero_le _, Nat.zero_le _⟩ (zkv (fun μ13 h => ?_))
    obtain ⟨o14, h⟩ := h
    refine zw_iload_n (pc := 18) (n := 2) (i := 2) 2 (by decide +kernel) rfl rfl ?_
    refine zw_if_le (pc := 19) (off := 14) (tgt := 33) (by decide +kernel) (by decide) o14 (fun hc => ?_) (fun hc => ?_)
    · replace h := h.1 hc
      obtain ⟨o15, h⟩ := h
      refine zw_iload_n (pc := 33) (n := 3) (i := 3) 3 (by decide +kernel) rfl rfl ?_
      refine zw_if_le (pc := 34) (off := 14) (tgt := 48) (by decide +kernel) (by decide) o15 (fun hc => ?_) (fun hc => ?_)
      · replace h := h.1 hc
        exact zw_vret (pc := 48) (by decide +kernel) rfl (Nat.le_refl _) (Nat.le_refl _) ⟨_, rfl, rfl, h⟩
      · replace h := h.2 hc
        refine zw_aload_n (pc := 37) (n := 0) (i := 0) 0 (by decide +kernel) rfl rfl ?_
        refine zw_bipush (pc := 38) (n := 121) (by decide +kernel) (by decide +kernel) ?_
        refine zx_callV (pc := 40) (As := [.int (zJ 121)]) h zi_X4_putByte zii_X4_putByte zie_X4_putByte zl_4_72 (by decide +kernel) ⟨Nat.le_of_ble_eq_true rfl, Nat.le_of_ble_eq_true rfl⟩ rfl zc_193 (by decide) rfl rfl ⟨rfl, rfl⟩ ⟨Nat.zero_le _, Nat.zero_le _⟩ (zkv (fun μ16 h => ?_))
        refine zw_aload_n (pc := 43) (n := 0) (i := 0) 0 (by decide +kernel) rfl rfl ?_
        refine zw_iload_n (pc := 44) (n := 3) (i := 3) 3 (by decide +kernel) rfl rfl ?_
        refine zx_callV (pc := 45) (As := [.int (zJ v3)]) h zi_X4_putNumber zii_X4_putNumber zie_X4_putNumber zl_4_75 (by decide +kernel) ⟨Nat.le_of_ble_eq_true rfl, Nat.le_of_ble_eq_true rfl⟩ rfl zc_193 (by decide) rfl rfl ⟨rfl, rfl⟩ ⟨Nat.zero_le _, Nat.zero_le _⟩ (zkv (fun μ17 h => ?_))
        exact zw_vret (pc := 48) (by decide +kernel) rfl (Nat.le_refl _) (Nat.le_refl _) ⟨_, rfl, rfl, h⟩
    · replace h := h.2 hc
      refine zw_aload_n (pc := 22) (n := 0) (i := 0) 0 (by decide +kernel) rfl rfl ?_
      refine zw_bipush (pc := 23) (n := 120) (by decide +kernel) (by decide +kernel) ?_
      refine zx_callV (pc := 25) (As := [.int (zJ 120)]) h zi_X4_putByte zii_X4_putByte zie_X4_putByte zl_4_72 (by decide +kernel) ⟨Nat.le_of_ble_eq_true rfl, Nat.le_of_ble_eq_true rfl⟩ rfl zc_193 (by decide) rfl rfl ⟨rfl, rfl⟩ ⟨Nat.zero_le _, Nat.zero_le _⟩ (zkv (fun μ18 h => ?_))
      refine zw_aload_n (pc := 28) (n := 0) (i := 0) 0 (by decide +kernel) rfl rfl ?_
      refine zw_iload_n (pc := 29) (n := 2) (i := 2) 2 (by decide +kernel) rfl rfl ?_
      refine zx_callV (pc := 30) (As := [.int (zJ v2)]) h zi_X4_putNumber zii_X4_putNumber zie_X4_putNumber zl_4_75 (by decide +kernel) ⟨Nat.le_of_ble_eq_true rfl, Nat.le_of_ble_eq_true rfl⟩ rfl zc_193 (by decide) rfl rfl ⟨rfl, rfl⟩ ⟨Nat.zero_le _, Nat.zero_le _⟩ (zkv (fun μ19 h => ?_))
      obtain ⟨o20, h⟩ := h
      refine zw_iload_n (pc := 33) (n := 3) (i := 3) 3 (by decide +kernel) rfl rfl ?_
      refine zw_if_le (pc := 34) (off := 14) (tgt := 48) (by decide +kernel) (by decide) o20 (fun hc => ?_) (fun hc => ?_)
      · replace h := h.1 hc
        exact zw_vret (pc := 48) (by decide +kernel) rfl (Nat.le_refl _) (Nat.le_refl _) ⟨_, rfl, rfl, h⟩
      · replace h := h.2 hc
        refine zw_aload_n (pc := 37) (n := 0) (i := 0) 0 (by decide +kernel) rfl rfl ?_
        refine zw_bipush (pc := 38) (n := 121) (by decide +kernel) (by decide +kernel) ?_
        refine zx_callV (pc := 40) (As := [.int (zJ 121)]) h zi_X4_putByte zii_X4_putByte zie_X4_putByte zl_4_72 (by decide +kernel) ⟨Nat.le_of_ble_eq_true rfl, Nat.le_of_ble_eq_true rfl⟩ rfl zc_193 (by decide) rfl rfl ⟨rfl, rfl⟩ ⟨Nat.zero_le _, Nat.zero_le _⟩ (zkv (fun μ21 h => ?_))
        refine zw_aload_n (pc := 43) (n := 0) (i := 0) 0 (by decide +kernel) rfl rfl ?_
        refine zw_iload_n (pc := 44) (n := 3) (i := 3) 3 (by decide +kernel) rfl rfl ?_
        refine zx_callV (pc := 45) (As := [.int (zJ v3)]) h zi_X4_putNumber zii_X4_putNumber zie_X4_putNumber zl_4_75 (by decide +kernel) ⟨Nat.le_of_ble_eq_true rfl, Nat.le_of_ble_eq_true rfl⟩ rfl zc_193 (by decide) rfl rfl ⟨rfl, rfl⟩ ⟨Nat.zero_le _, Nat.zero_le _⟩ (zkv (fun μ22 h => ?_))
        exact zw_vret (pc := 48) (by decide +kernel) rfl (Nat.le_refl _) (Nat.le_refl _) ⟨_, rfl, rfl, h⟩
