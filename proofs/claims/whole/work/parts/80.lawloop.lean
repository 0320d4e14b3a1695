/-! THE LAW: the switch, the loop, its start -/
theorem zcl_L_7 : Cond.classLink "LevelEquationsLaw" 7 "LevelEquations" ∈ ztbl := zmem_1 20 (by decide +kernel) rfl
theorem zcl_L_10 : Cond.classLink "LevelEquationsLaw" 10 "LevelEquationsModel" ∈ ztbl := zmem_5 1 (by decide +kernel) rfl
theorem zl_L_9 : Cond.methodLink "LevelEquationsLaw" 9 yX10_init ∈ ztbl := zmem_1 22 (by decide +kernel) rfl
theorem zl_L_12 : Cond.methodLink "LevelEquationsLaw" 12 yX11_init ∈ ztbl := zmem_5 3 (by decide +kernel) rfl
theorem zd_sw : decode zm_law.2.1 32 = .ok (.tableswitch 1221 0 35 #[160, 183, 216, 259, 302, 345, 388, 421, 464, 497, 530, 583, 606, 639, 672, 705, 738, 771, 794, 817, 840, 863, 897, 911, 934, 947, 960, 973, 996, 1029, 1072, 1106, 1139, 1172, 1185, 1198], 160) := by decide +kernel
theorem law_switch {g : zG} {L i nc ns : Nat} {xs : Nat → Int32} {A μ : zMu} {y : Int} (h0 : 0 ≤ y) (h63 : y ≤ 63) (hL : L ≤ 2560) (hi : i + 5 ≤ L) (hn : nc ≤ zm_law.2.2.2.2.cells ∧ ns ≤ zm_law.2.2.2.2.slots) (hw : zWF A) (hR : zRC A μ) (hM : zRM A μ)
    (K : ∀ A' μ', zWF A' → zRC A' μ' → zRM A' μ' → zWP g zm_law (zmoL g L xs) 1253 [(0, .ref 90000), (1, .ref 0), (2, .ref 203), (3, .int (zJ (i : Int)))] [] nc ns (zw μ')) : zWP g zm_law (zmoL g L xs) 32 [(0, .ref 90000), (1, .ref 0), (2, .ref 203), (3, .int (zJ (i : Int)))] [.int (zJ y)] nc ns (zw μ) := by
  by_cases h : y ≤ 35
  · have hy : y = 0 ∨ y = 1 ∨ y = 2 ∨ y = 3 ∨ y = 4 ∨ y = 5 ∨ y = 6 ∨ y = 7 ∨ y = 8 ∨ y = 9 ∨ y = 10 ∨ y = 11 ∨ y = 12 ∨ y = 13 ∨ y = 14 ∨ y = 15 ∨ y = 16 ∨ y = 17 ∨ y = 18 ∨ y = 19 ∨ y = 20 ∨ y = 21 ∨ y = 22 ∨ y = 23 ∨ y = 24 ∨ y = 25 ∨ y = 26 ∨ y = 27 ∨ y = 28 ∨ y = 29 ∨ y = 30 ∨ y = 31 ∨ y = 32 ∨ y = 33 ∨ y = 34 ∨ y = 35 := by omega
    rcases hy with rfl | rfl | rfl | rfl | rfl | rfl | rfl | rfl | rfl | rfl | rfl | rfl | rfl | rfl | rfl | rfl | rfl | rfl | rfl | rfl | rfl | rfl | rfl | rfl | rfl | rfl | rfl | rfl | rfl | rfl | rfl | rfl | rfl | rfl | rfl | rfl
    · exact zw_swIn (off := 160) (tgt := 192) zd_sw ⟨by decide, by decide⟩ (by decide) (by decide) rfl (by decide) (lc_0 hL hi hn hw hR hM K)
    · exact zw_swIn (off := 183) (tgt := 215) zd_sw ⟨by decide, by decide⟩ (by decide) (by decide) rfl (by decide) (lc_1 hL hi hn hw hR hM K)
    · exact zw_swIn (off := 216) (tgt := 248) zd_sw ⟨by decide, by decide⟩ (by decide) (by decide) rfl (by decide) (lc_2 hL hi hn hw hR hM K)
    · exact zw_swIn (off := 259) (tgt := 291) zd_sw ⟨by decide, by decide⟩ (by decide) (by decide) rfl (by decide) (lc_3 hL hi hn hw hR hM K)
    · exact zw_swIn (off := 302) (tgt := 334) zd_sw ⟨by decide, by decide⟩ (by decide) (by decide) rfl (by decide) (lc_4 hL hi hn hw hR hM K)
    · exact zw_swIn (off := 345) (tgt := 377) zd_sw ⟨by decide, by decide⟩ (by decide) (by decide) rfl (by decide) (lc_5 hL hi hn hw hR hM K)
    · exact zw_swIn (off := 388) (tgt := 420) zd_sw ⟨by decide, by decide⟩ (by decide) (by decide) rfl (by decide) (lc_6 hL hi hn hw hR hM K)
    · exact zw_swIn (off := 421) (tgt := 453) zd_sw ⟨by decide, by decide⟩ (by decide) (by decide) rfl (by decide) (lc_7 hL hi hn hw hR hM K)
    · exact zw_swIn (off := 464) (tgt := 496) zd_sw ⟨by decide, by decide⟩ (by decide) (by decide) rfl (by decide) (lc_8 hL hi hn hw hR hM K)
    · exact zw_swIn (off := 497) (tgt := 529) zd_sw ⟨by decide, by decide⟩ (by decide) (by decide) rfl (by decide) (lc_9 hL hi hn hw hR hM K)
    · exact zw_swIn (off := 530) (tgt := 562) zd_sw ⟨by decide, by decide⟩ (by decide) (by decide) rfl (by decide) (lc_10 hL hi hn hw hR hM K)
    · exact zw_swIn (off := 583) (tgt := 615) zd_sw ⟨by decide, by decide⟩ (by decide) (by decide) rfl (by decide) (lc_11 hL hi hn hw hR hM K)
    · exact zw_swIn (off := 606) (tgt := 638) zd_sw ⟨by decide, by decide⟩ (by decide) (by decide) rfl (by decide) (lc_12 hL hi hn hw hR hM K)
    · exact zw_swIn (off := 639) (tgt := 671) zd_sw ⟨by decide, by decide⟩ (by decide) (by decide) rfl (by decide) (lc_13 hL hi hn hw hR hM K)
    · exact zw_swIn (off := 672) (tgt := 704) zd_sw ⟨by decide, by decide⟩ (by decide) (by decide) rfl (by decide) (lc_14 hL hi hn hw hR hM K)
    · exact zw_swIn (off := 705) (tgt := 737) zd_sw ⟨by decide, by decide⟩ (by decide) (by decide) rfl (by decide) (lc_15 hL hi hn hw hR hM K)
    · exact zw_swIn (off := 738) (tgt := 770) zd_sw ⟨by decide, by decide⟩ (by decide) (by decide) rfl (by decide) (lc_16 hL hi hn hw hR hM K)
    · exact zw_swIn (off := 771) (tgt := 803) zd_sw ⟨by decide, by decide⟩ (by decide) (by decide) rfl (by decide) (lc_17 hL hi hn hw hR hM K)
    · exact zw_swIn (off := 794) (tgt := 826) zd_sw ⟨by decide, by decide⟩ (by decide) (by decide) rfl (by decide) (lc_18 hL hi hn hw hR hM K)
    · exact zw_swIn (off := 817) (tgt := 849) zd_sw ⟨by decide, by decide⟩ (by decide) (by decide) rfl (by decide) (lc_19 hL hi hn hw hR hM K)
    · exact zw_swIn (off := 840) (tgt := 872) zd_sw ⟨by decide, by decide⟩ (by decide) (by decide) rfl (by decide) (lc_20 hL hi hn hw hR hM K)
    · exact zw_swIn (off := 863) (tgt := 895) zd_sw ⟨by decide, by decide⟩ (by decide) (by decide) rfl (by decide) (lc_21 hL hi hn hw hR hM K)
    · exact zw_swIn (off := 897) (tgt := 929) zd_sw ⟨by decide, by decide⟩ (by decide) (by decide) rfl (by decide) (lc_22 hL hi hn hw hR hM K)
    · exact zw_swIn (off := 911) (tgt := 943) zd_sw ⟨by decide, by decide⟩ (by decide) (by decide) rfl (by decide) (lc_23 hL hi hn hw hR hM K)
    · exact zw_swIn (off := 934) (tgt := 966) zd_sw ⟨by decide, by decide⟩ (by decide) (by decide) rfl (by decide) (lc_24 hL hi hn hw hR hM K)
    · exact zw_swIn (off := 947) (tgt := 979) zd_sw ⟨by decide, by decide⟩ (by decide) (by decide) rfl (by decide) (lc_25 hL hi hn hw hR hM K)
    · exact zw_swIn (off := 960) (tgt := 992) zd_sw ⟨by decide, by decide⟩ (by decide) (by decide) rfl (by decide) (lc_26 hL hi hn hw hR hM K)
    · exact zw_swIn (off := 973) (tgt := 1005) zd_sw ⟨by decide, by decide⟩ (by decide) (by decide) rfl (by decide) (lc_27 hL hi hn hw hR hM K)
    · exact zw_swIn (off := 996) (tgt := 1028) zd_sw ⟨by decide, by decide⟩ (by decide) (by decide) rfl (by decide) (lc_28 hL hi hn hw hR hM K)
    · exact zw_swIn (off := 1029) (tgt := 1061) zd_sw ⟨by decide, by decide⟩ (by decide) (by decide) rfl (by decide) (lc_29 hL hi hn hw hR hM K)
    · exact zw_swIn (off := 1072) (tgt := 1104) zd_sw ⟨by decide, by decide⟩ (by decide) (by decide) rfl (by decide) (lc_30 hL hi hn hw hR hM K)
    · exact zw_swIn (off := 1106) (tgt := 1138) zd_sw ⟨by decide, by decide⟩ (by decide) (by decide) rfl (by decide) (lc_31 hL hi hn hw hR hM K)
    · exact zw_swIn (off := 1139) (tgt := 1171) zd_sw ⟨by decide, by decide⟩ (by decide) (by decide) rfl (by decide) (lc_32 hL hi hn hw hR hM K)
    · exact zw_swIn (off := 1172) (tgt := 1204) zd_sw ⟨by decide, by decide⟩ (by decide) (by decide) rfl (by decide) (lc_33 hL hi hn hw hR hM K)
    · exact zw_swIn (off := 1185) (tgt := 1217) zd_sw ⟨by decide, by decide⟩ (by decide) (by decide) rfl (by decide) (lc_34 hL hi hn hw hR hM K)
    · exact zw_swIn (off := 1198) (tgt := 1230) zd_sw ⟨by decide, by decide⟩ (by decide) (by decide) rfl (by decide) (lc_35 hL hi hn hw hR hM K)
  · exact zw_swOut (tgt := 1253) zd_sw ⟨by omega, by omega⟩ (Or.inr (by omega)) (by decide) (K A μ hw hR hM)
theorem law_loop {g : zG} {L nc ns : Nat} {xs : Nat → Int32} (hL : L ≤ 2560) (hn : nc ≤ zm_law.2.2.2.2.cells ∧ ns ≤ zm_law.2.2.2.2.slots) : ∀ (n i : Nat) (A μ : zMu), L < i + 5 * n → i ≤ L → zWF A → zRC A μ → zRM A μ → zWP g zm_law (zmoL g L xs) 18 [(0, .ref 90000), (1, .ref 0), (2, .ref 203), (3, .int (zJ (i : Int)))] [] nc ns (zw μ) := by
  intro n
  induction n with
  | zero => intro i A μ h1 h2; omega
  | succ n ih =>
    intro i A μ h1 h2 hw hR hM
    refine zw_iload_n (pc := 18) (n := 3) (i := 3) 3 (by decide +kernel) rfl rfl ?_
    refine zw_aload_n (pc := 19) (n := 0) (i := 0) 0 (by decide +kernel) rfl rfl ?_
    refine zw_slen (pc := 20) (by decide +kernel) ?_
    refine zw_iconst (pc := 21) (n := 5) (by decide +kernel) ?_
    refine zw_isub (pc := 22) (by decide +kernel) ?_
    refine zw_icmp_gt (pc := 23) (off := 1236) (tgt := 1259) (by decide +kernel) (by decide) ⟨by omega, by omega⟩ ⟨by omega, by omega⟩ (fun hc => ?_) (fun hc => ?_)
    · refine zw_iconst (pc := 1259) (n := 1) (by decide +kernel) ?_
      exact zw_lawend (pc := 1260) (by decide +kernel) hn.1 hn.2
    · refine zw_aload_n (pc := 26) (n := 0) (i := 0) 0 (by decide +kernel) rfl rfl ?_
      refine zw_iload_n (pc := 27) (n := 3) (i := 3) 3 (by decide +kernel) rfl rfl ?_
      refine zw_sld (pc := 28) (by decide +kernel) (by omega) (by omega) hL ?_
      refine zw_bipush (pc := 29) (n := 63) (by decide +kernel) (by decide +kernel) ?_
      refine zw_iand (pc := 31) (by decide +kernel) ?_
      refine law_switch (zand_63 _).1 (zand_63 _).2 hL (by omega) hn hw hR hM (fun A' μ' hw' hR' hM' => ?_)
      refine zw_iinc (pc := 1253) (i := 3) (n := 5) (v := ((i + 5 : Nat) : Int)) (lv' := [(0, .ref 90000), (1, .ref 0), (2, .ref 203), (3, .int (zJ ((i + 5 : Nat) : Int)))]) 3 (by decide +kernel) rfl (by omega) (Nat.le_of_ble_eq_true rfl) rfl ?_
      refine zw_goto (pc := 1256) (off := (-1238)) (tgt := 18) (by decide +kernel) (by decide) ?_
      exact ih (i + 5) A' μ' (by omega) (by omega) hw' hR' hM'
def zSone : List (Nat × Nat) := [(10, 12)]
def zStwo : List (Nat × Nat) := (zSone ++ zsA_X10) ++ [(11, 50)]
set_option maxRecDepth 100000 in
theorem zStwo_len : zStwo.length = 204 := by decide +kernel
set_option maxRecDepth 100000 in
theorem zStwo_at : zStwo[203]? = some (11, 50) := by decide +kernel
set_option maxRecDepth 100000 in
theorem zSone_len : (zSone ++ zsA_X10).length = 203 := by decide +kernel
theorem zfin_w : ((zStwo ++ zsA_X11, zrl (zlA_X11 203 (zlA_X10 0 [])), ziA_X11 203 (ziA_X10 0 (fun _ _ => 0))) : zWS) = zw zM0 := by
  have e1 : zStwo ++ zsA_X11 = zsh := zsh_fin
  have e2 : zrl (zlA_X11 203 (zlA_X10 0 [])) = zrf := zrf_fin
  rw [e1, e2]
  rfl
theorem law_start {g : zG} {L : Nat} {xs : Nat → Int32} (hL : L ≤ 2560) : zWP g zm_law (zmoL g L xs) 0 [(0, .ref 90000)] [] 0 0 ([], zrl [], fun _ _ => 0) := by
  have hf0 : zfrs (([], zrl [], fun _ _ => 0) : zWS) := fun a ha j => ⟨rfl, rfl⟩
  refine zw_new (pc := 0) (r := 0) znb_10 zcl_L_7 zins_10 zi_X10_init.1 (by decide +kernel) hf0 (by decide) (Nat.le_of_ble_eq_true rfl) (Nat.le_of_ble_eq_true rfl) rfl ?_
  show zWP g zm_law (zmoL g L xs) 3 [(0, .ref 90000)] [.ref 0] 1 12 (zSone, zrl [], fun _ _ => 0)
  have hf1 : zfrs ((zSone, zrl [], fun _ _ => 0) : zWS) := fun a ha j => ⟨rfl, rfl⟩
  refine zw_dup (pc := 3) (by decide +kernel) rfl ?_
  refine zw_callX (pc := 4) (fun s h => h.1) zi_X10_init rfl zii_X10_init zl_L_9 rfl (by decide +kernel) ⟨Nat.le_of_ble_eq_true rfl, Nat.le_of_ble_eq_true rfl⟩ rfl (Nat.le_of_ble_eq_true rfl) (Nat.le_of_ble_eq_true rfl) (ok_X10_init zSone [] (fun _ _ => 0) 0 _ rfl rfl (by decide +kernel) hf1 (fun hf2 => ⟨rfl, ?_⟩))
  refine zw_astore_n (pc := 7) (n := 1) (i := 1) (lv' := [(0, .ref 90000), (1, .ref 0)]) (by decide +kernel) rfl (Nat.le_of_ble_eq_true rfl) rfl ?_
  refine zw_new (pc := 8) (r := 203) znb_11 zcl_L_10 zins_11 zi_X11_init.1 (by decide +kernel) hf2 (by show (zSone ++ zsA_X10).length + 1 < 90000; rw [zSone_len]; decide) (Nat.le_of_ble_eq_true rfl) (Nat.le_of_ble_eq_true rfl) zSone_len ?_
  have hf3 : zfrs ((zStwo, zrl (zlA_X10 0 []), ziA_X10 0 (fun _ _ => 0)) : zWS) := zfrs_app hf2
  refine zw_dup (pc := 11) (by decide +kernel) rfl ?_
  refine zw_callX (pc := 12) (fun s h => h.1) zi_X11_init rfl zii_X11_init zl_L_12 rfl (by decide +kernel) ⟨Nat.le_of_ble_eq_true rfl, Nat.le_of_ble_eq_true rfl⟩ rfl (Nat.le_of_ble_eq_true rfl) (Nat.le_of_ble_eq_true rfl) (ok_X11_init zStwo (zlA_X10 0 []) (ziA_X10 0 (fun _ _ => 0)) 203 _ zStwo_len zStwo_at (by decide +kernel) hf3 (fun hf4 => ⟨rfl, ?_⟩))
  rw [zfin_w]
  refine zw_astore_n (pc := 15) (n := 2) (i := 2) (lv' := [(0, .ref 90000), (1, .ref 0), (2, .ref 203)]) (by decide +kernel) rfl (Nat.le_of_ble_eq_true rfl) rfl ?_
  refine zw_iconst (pc := 16) (n := 0) (by decide +kernel) ?_
  refine zw_istore_n (pc := 17) (n := 3) (i := 3) (lv' := [(0, .ref 90000), (1, .ref 0), (2, .ref 203), (3, .int (zJ ((0 : Nat) : Int)))]) (by decide +kernel) rfl (Nat.le_of_ble_eq_true rfl) rfl ?_
  exact law_loop hL ⟨Nat.le_of_ble_eq_true rfl, Nat.le_of_ble_eq_true rfl⟩ (L + 1) 0 zA0 zM0 (by omega) (Nat.zero_le _) zwf_first zRC_first zRM_first
/-- YOUR PART: from the entry, for every script of at most 2560 ints, the law comes to its end with true ('hflags': the launch's flags, for a law that throws: no stack traces) -/
theorem whole_start {p : Program} {e : Env} {s : State} {m : MethodId} {below : List Frame} {meth : Method} {c : Code} (l : Launch) (hflags : l.flags = flags0) {b L : Nat} {xs : Nat → Int32} (hL : L ≤ 2560) (C0 : lw_At p s m meth c b L xs) : W p l e room_1 s m #[Value.ref b] below meth c s.heap [] 0 0 (lw_Z below #[Value.ref b] s) (entryFrame m ([Value.ref b] : List Value).toArray 4) := by
  obtain ⟨hx, hb, hr, hml, hown, hts, hX, hbl, hlocks, hgv⟩ := id C0
  obtain ⟨g, hgl, hgB, hgx, hU, hE⟩ := zstart (l := l) hts hgv
  have hl := lv_entry ([Value.ref b]) (n := 4) (Nat.le_of_ble_eq_true rfl)
  rw [lg_entry_eq]
  generalize (lg_sl ([Value.ref b]) ++ List.replicate (4 - (lg_sl ([Value.ref b])).length) Slot.unset).toArray = ls at hl ⊢
  have ez : zad g 90000 = b := (zad_x g 0).trans hgx
  have hl2 : lv_has ls 4 (zlv g [(0, .ref 90000)]) := by
    show lv_has ls 4 [(0, .ref (zad g 90000))]
    rw [ez]
    exact hl
  have hW : zHW g (([], zrl [], fun _ _ => 0) : zWS) s.heap := ⟨fun k q h => absurd h (by simp [zwl]), by rw [hgB]; rfl, by decide⟩
  have k := law_start (g := g) (xs := xs) hL p e s m #[Value.ref b] below meth c s.heap [] ls ⟨hx, hb, hml, hr, fun w hw => hts w (zlt_tbl hw), hown, hlocks, fun h => absurd h (by decide), hU, Nat.le_of_eq hgB, hE, hgB, by rw [hgx]; exact hX, by rw [hgx]; exact hbl⟩ hl2 hW va_S.rf
  have k2 : W p (zgl g) e room_1 s m #[Value.ref b] below meth c s.heap [] 0 0 (lw_Z below #[Value.ref (zgx g 0)] s) (F0 m 0 ls []) := k
  rw [hgl, hgx] at k2
  exact k2
