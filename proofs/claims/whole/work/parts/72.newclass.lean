def zsA_X10 : List (Nat × Nat) := [(0, 5), (14, 6), (3, 2), (12, 81), (13, 8), (12, 8), (6, 3), (12, 80), (6, 3), (12, 80), (6, 3), (12, 80), (6, 3), (12, 80), (6, 3), (12, 80), (6, 3), (12, 80), (3, 2), (12, 81), (3, 2), (12, 81), (3, 2), (12, 81), (3, 2), (12, 81), (3, 2), (12, 81), (3, 2), (12, 81), (3, 2), (12, 81), (3, 2), (12, 81), (0, 5), (14, 6), (3, 2), (12, 81), (13, 8), (12, 8), (6, 3), (12, 80), (6, 3), (12, 80), (6, 3), (12, 80), (6, 3), (12, 80), (6, 3), (12, 80), (6, 3), (12, 80), (3, 2), (12, 81), (3, 2), (12, 81), (3, 2), (12, 81), (3, 2), (12, 81), (3, 2), (12, 81), (3, 2), (12, 81), (3, 2), (12, 81), (3, 2), (12, 81), (7, 4), (12, 80), (12, 80), (12, 80), (12, 80), (9, 9), (15, 9), (12, 80), (12, 80), (12, 80), (12, 80), (12, 80), (12, 80), (12, 80), (12, 80), (12, 80), (15, 9), (12, 80), (12, 80), (12, 80), (12, 80), (12, 80), (12, 80), (12, 80), (12, 80), (12, 80), (12, 80), (12, 80), (1, 10), (15, 80), (12, 81), (12, 81), (12, 81), (12, 81), (12, 81), (12, 81), (12, 81), (12, 81), (12, 81), (12, 81), (12, 81), (12, 81), (12, 81), (12, 81), (12, 81), (12, 81), (12, 81), (12, 81), (12, 81), (12, 81), (12, 81), (12, 81), (12, 81), (12, 81), (12, 81), (12, 81), (12, 81), (12, 81), (12, 81), (12, 81), (12, 81), (12, 81), (12, 81), (12, 81), (12, 81), (12, 81), (12, 81), (12, 81), (12, 81), (12, 81), (12, 81), (12, 81), (12, 81), (12, 81), (12, 81), (12, 81), (12, 81), (12, 81), (12, 81), (12, 81), (12, 81), (12, 81), (12, 81), (12, 81), (12, 81), (12, 81), (12, 81), (12, 81), (12, 81), (12, 81), (12, 81), (12, 81), (12, 81), (12, 81), (12, 81), (12, 81), (12, 81), (12, 81), (12, 81), (12, 81), (12, 81), (12, 81), (12, 81), (12, 81), (12, 81), (12, 81), (12, 81), (12, 81), (12, 81), (12, 81), (12, 81), (12, 81), (12, 81), (2, 5), (12, 199), (12, 1592), (12, 9), (12, 199), (12, 199), (8, 4), (12, 100), (5, 3), (12, 100), (12, 400), (4, 3), (3, 2), (12, 81), (12, 648), (15, 4), (12, 80), (12, 80), (12, 80), (12, 80), (12, 4)]
def zlA_X10 (c : Nat) (L : List (Nat × Nat × Nat)) : List (Nat × Nat × Nat) := ((c, 11, c + 202) :: ((c, 10, c + 197) :: ((List.range 4).map (fun j => (c + 197, j, c + 197 + 1 + j)) ++ ((c, 9, c + 193) :: (zlA_X4 (c + 193) ((c, 8, c + 190) :: (zlA_X5 (c + 190) ((c, 7, c + 188) :: (zlA_X8 (c + 188) ((c, 6, c + 182) :: (zlA_X2 (c + 182) ((c, 5, c + 97) :: (zlA_X1 (c + 97) ((c, 4, c + 74) :: (zlA_X9 (c + 74) ((c, 3, c + 69) :: (zlA_X7 (c + 69) ((c, 1, c + 35) :: (zlA_X0 (c + 35) ((c, 0, c + 1) :: (zlA_X0 (c + 1) L)))))))))))))))))))))
def ziA_X10 (c : Nat) (I : zMu) : zMu := (zua (ziA_X4 (c + 193) (ziA_X5 (c + 190) (ziA_X8 (c + 188) (ziA_X2 (c + 182) (ziA_X1 (c + 97) (ziA_X9 (c + 74) (ziA_X7 (c + 69) (ziA_X0 (c + 35) (ziA_X0 (c + 1) I))))))))) (c + 202) (fun b => if b < 4 then (-1) else (ziA_X4 (c + 193) (ziA_X5 (c + 190) (ziA_X8 (c + 188) (ziA_X2 (c + 182) (ziA_X1 (c + 97) (ziA_X9 (c + 74) (ziA_X7 (c + 69) (ziA_X0 (c + 35) (ziA_X0 (c + 1) I))))))))) (c + 202) b))
set_option maxRecDepth 100000 in
theorem ok_X10_init {g : zG} : zKnw g zm_X10_init 10 12 zsA_X10 zlA_X10 ziA_X10 := by
  intro S L I c Φ hS h0 hb hfr hΦ
  have hn : zsA_X10.length = 202 := rfl
  have hc : c < 80000 := by omega
  refine zok_ofX (by decide +kernel) rfl ?_
  have e0 : ((S, zrl L, I) : zWS) = (S ++ [], zrl L, I) := by rw [List.append_nil]
  rw [e0] at hfr ⊢
  show zWP g zm_X10_init (zmoX g zm_X10_init Φ) 0 [(0, .ref c)] [] 0 0 (S ++ [], zrl L, I)
  refine zw_aload_n (pc := 0) (n := 0) (i := 0) 0 (by decide +kernel) rfl rfl ?_
  refine zw_objInit (pc := 1) zlo_10 (by decide +kernel) (by decide) (by decide) rfl ?_
  refine zw_aload_n (pc := 4) (n := 0) (i := 0) 0 (by decide +kernel) rfl rfl ?_
  refine zk_new (pc := 5) znb_0 zcl_10_11 zins_0 zi_X0_init.1 (by decide +kernel) hS hc hfr (k := 1) rfl (by decide) (Nat.le_of_ble_eq_true rfl) (Nat.le_of_ble_eq_true rfl) (fun hfr => ?_)
  refine zw_dup (pc := 8) (by decide +kernel) rfl ?_
  refine zk_call (pc := 9) (j := 0) ok_X0_init (fun s h => h) zi_X0_init rfl zii_X0_init zl_10_13 rfl (by decide +kernel) ⟨Nat.le_of_ble_eq_true rfl, Nat.le_of_ble_eq_true rfl⟩ rfl (Nat.le_of_ble_eq_true rfl) (Nat.le_of_ble_eq_true rfl) hS (by have : zsA_X0.length = 33 := rfl; omega) rfl rfl rfl hfr (fun hfr => ?_)
  refine zk_putR (pc := 12) zf_10_14 (Or.inl ⟨_, rfl⟩) (by decide +kernel) rfl (zk_at0 hS h0) rfl rfl hfr (fun hfr => ?_)
  refine zw_aload_n (pc := 15) (n := 0) (i := 0) 0 (by decide +kernel) rfl rfl ?_
  refine zk_new (pc := 16) znb_0 zcl_10_11 zins_0 zi_X0_init.1 (by decide +kernel) hS hc hfr (k := 35) rfl (by decide) (Nat.le_of_ble_eq_true rfl) (Nat.le_of_ble_eq_true rfl) (fun hfr => ?_)
  refine zw_dup (pc := 19) (by decide +kernel) rfl ?_
  refine zk_call (pc := 20) (j := 34) ok_X0_init (fun s h => h) zi_X0_init rfl zii_X0_init zl_10_13 rfl (by decide +kernel) ⟨Nat.le_of_ble_eq_true rfl, Nat.le_of_ble_eq_true rfl⟩ rfl (Nat.le_of_ble_eq_true rfl) (Nat.le_of_ble_eq_true rfl) hS (by have : zsA_X0.length = 33 := rfl; omega) rfl rfl rfl hfr (fun hfr => ?_)
  refine zk_putR (pc := 23) zf_10_18 (Or.inl ⟨_, rfl⟩) (by decide +kernel) rfl (zk_at0 hS h0) rfl rfl hfr (fun hfr => ?_)
  refine zw_aload_n (pc := 26) (n := 0) (i := 0) 0 (by decide +kernel) rfl rfl ?_
  refine zk_new (pc := 27) znb_7 zcl_10_21 zins_7 zi_X7_init.1 (by decide +kernel) hS hc hfr (k := 69) rfl (by decide) (Nat.le_of_ble_eq_true rfl) (Nat.le_of_ble_eq_true rfl) (fun hfr => ?_)
  refine zw_dup (pc := 30) (by decide +kernel) rfl ?_
  refine zk_callN (pc := 31) (j := 68) ok_X7_init (fun s h => h) zi_X7_init rfl zii_X7_init zn_10_23 rfl (by decide +kernel) ⟨Nat.le_of_ble_eq_true rfl, Nat.le_of_ble_eq_true rfl⟩ rfl (Nat.le_of_ble_eq_true rfl) (Nat.le_of_ble_eq_true rfl) hS (by have : zsA_X7.length = 4 := rfl; omega) rfl rfl rfl hfr (fun hfr => ?_)
  refine zk_putR (pc := 34) zf_10_24 (Or.inl ⟨_, rfl⟩) (by decide +kernel) rfl (zk_at0 hS h0) rfl rfl hfr (fun hfr => ?_)
  refine zw_aload_n (pc := 37) (n := 0) (i := 0) 0 (by decide +kernel) rfl rfl ?_
  refine zk_new (pc := 38) znb_9 zcl_10_28 zins_9 zi_X9_init.1 (by decide +kernel) hS hc hfr (k := 74) rfl (by decide) (Nat.le_of_ble_eq_true rfl) (Nat.le_of_ble_eq_true rfl) (fun hfr => ?_)
  refine zw_dup (pc := 41) (by decide +kernel) rfl ?_
  refine zk_callN (pc := 42) (j := 73) ok_X9_init (fun s h => h) zi_X9_init rfl zii_X9_init zn_10_30 rfl (by decide +kernel) ⟨Nat.le_of_ble_eq_true rfl, Nat.le_of_ble_eq_true rfl⟩ rfl (Nat.le_of_ble_eq_true rfl) (Nat.le_of_ble_eq_true rfl) hS (by have : zsA_X9.length = 22 := rfl; omega) rfl rfl rfl hfr (fun hfr => ?_)
  refine zk_putR (pc := 45) zf_10_31 (Or.inl ⟨_, rfl⟩) (by decide +kernel) rfl (zk_at0 hS h0) rfl rfl hfr (fun hfr => ?_)
  refine zw_aload_n (pc := 48) (n := 0) (i := 0) 0 (by decide +kernel) rfl rfl ?_
  refine zk_new (pc := 49) znb_1 zcl_10_35 zins_1 zi_X1_init.1 (by decide +kernel) hS hc hfr (k := 97) rfl (by decide) (Nat.le_of_ble_eq_true rfl) (Nat.le_of_ble_eq_true rfl) (fun hfr => ?_)
  refine zw_dup (pc := 52) (by decide +kernel) rfl ?_
  refine zk_callN (pc := 53) (j := 96) ok_X1_init (fun s h => h) zi_X1_init rfl zii_X1_init zn_10_37 rfl (by decide +kernel) ⟨Nat.le_of_ble_eq_true rfl, Nat.le_of_ble_eq_true rfl⟩ rfl (Nat.le_of_ble_eq_true rfl) (Nat.le_of_ble_eq_true rfl) hS (by have : zsA_X1.length = 84 := rfl; omega) rfl rfl rfl hfr (fun hfr => ?_)
  refine zk_putR (pc := 56) zf_10_38 (Or.inl ⟨_, rfl⟩) (by decide +kernel) rfl (zk_at0 hS h0) rfl rfl hfr (fun hfr => ?_)
  refine zw_aload_n (pc := 59) (n := 0) (i := 0) 0 (by decide +kernel) rfl rfl ?_
  refine zk_new (pc := 60) znb_2 zcl_10_42 zins_2 zi_X2_init.1 (by decide +kernel) hS hc hfr (k := 182) rfl (by decide) (Nat.le_of_ble_eq_true rfl) (Nat.le_of_ble_eq_true rfl) (fun hfr => ?_)
  refine zw_dup (pc := 63) (by decide +kernel) rfl ?_
  refine zk_call (pc := 64) (j := 181) ok_X2_init (fun s h => h) zi_X2_init rfl zii_X2_init zl_10_44 rfl (by decide +kernel) ⟨Nat.le_of_ble_eq_true rfl, Nat.le_of_ble_eq_true rfl⟩ rfl (Nat.le_of_ble_eq_true rfl) (Nat.le_of_ble_eq_true rfl) hS (by have : zsA_X2.length = 5 := rfl; omega) rfl rfl rfl hfr (fun hfr => ?_)
  refine zk_putR (pc := 67) zf_10_45 (Or.inl ⟨_, rfl⟩) (by decide +kernel) rfl (zk_at0 hS h0) rfl rfl hfr (fun hfr => ?_)
  refine zw_aload_n (pc := 70) (n := 0) (i := 0) 0 (by decide +kernel) rfl rfl ?_
  refine zk_new (pc := 71) znb_8 zcl_10_49 zins_8 zi_X8_init.1 (by decide +kernel) hS hc hfr (k := 188) rfl (by decide) (Nat.le_of_ble_eq_true rfl) (Nat.le_of_ble_eq_true rfl) (fun hfr => ?_)
  refine zw_dup (pc := 74) (by decide +kernel) rfl ?_
  refine zk_callN (pc := 75) (j := 187) ok_X8_init (fun s h => h) zi_X8_init rfl zii_X8_init zn_10_51 rfl (by decide +kernel) ⟨Nat.le_of_ble_eq_true rfl, Nat.le_of_ble_eq_true rfl⟩ rfl (Nat.le_of_ble_eq_true rfl) (Nat.le_of_ble_eq_true rfl) hS (by have : zsA_X8.length = 1 := rfl; omega) rfl rfl rfl hfr (fun hfr => ?_)
  refine zk_putR (pc := 78) zf_10_52 (Or.inl ⟨_, rfl⟩) (by decide +kernel) rfl (zk_at0 hS h0) rfl rfl hfr (fun hfr => ?_)
  refine zw_aload_n (pc := 81) (n := 0) (i := 0) 0 (by decide +kernel) rfl rfl ?_
  refine zk_new (pc := 82) znb_5 zcl_10_56 zins_5 zi_X5_init.1 (by decide +kernel) hS hc hfr (k := 190) rfl (by decide) (Nat.le_of_ble_eq_true rfl) (Nat.le_of_ble_eq_true rfl) (fun hfr => ?_)
  refine zw_dup (pc := 85) (by decide +kernel) rfl ?_
  refine zk_callN (pc := 86) (j := 189) ok_X5_init (fun s h => h) zi_X5_init rfl zii_X5_init zn_10_58 rfl (by decide +kernel) ⟨Nat.le_of_ble_eq_true rfl, Nat.le_of_ble_eq_true rfl⟩ rfl (Nat.le_of_ble_eq_true rfl) (Nat.le_of_ble_eq_true rfl) hS (by have : zsA_X5.length = 2 := rfl; omega) rfl rfl rfl hfr (fun hfr => ?_)
  refine zk_putR (pc := 89) zf_10_59 (Or.inl ⟨_, rfl⟩) (by decide +kernel) rfl (zk_at0 hS h0) rfl rfl hfr (fun hfr => ?_)
  refine zw_aload_n (pc := 92) (n := 0) (i := 0) 0 (by decide +kernel) rfl rfl ?_
  refine zk_new (pc := 93) znb_4 zcl_10_63 zins_4 zi_X4_init.1 (by decide +kernel) hS hc hfr (k := 193) rfl (by decide) (Nat.le_of_ble_eq_true rfl) (Nat.le_of_ble_eq_true rfl) (fun hfr => ?_)
  refine zw_dup (pc := 96) (by decide +kernel) rfl ?_
  refine zk_callN (pc := 97) (j := 192) ok_X4_init (fun s h => h) zi_X4_init rfl zii_X4_init zn_10_65 rfl (by decide +kernel) ⟨Nat.le_of_ble_eq_true rfl, Nat.le_of_ble_eq_true rfl⟩ rfl (Nat.le_of_ble_eq_true rfl) (Nat.le_of_ble_eq_true rfl) hS (by have : zsA_X4.length = 3 := rfl; omega) rfl rfl rfl hfr (fun hfr => ?_)
  refine zk_putR (pc := 100) zf_10_66 (Or.inl ⟨_, rfl⟩) (by decide +kernel) rfl (zk_at0 hS h0) rfl rfl hfr (fun hfr => ?_)
  refine zw_aload_n (pc := 103) (n := 0) (i := 0) 0 (by decide +kernel) rfl rfl ?_
  refine zw_iconst (pc := 104) (n := 4) (by decide +kernel) ?_
  refine zw_bipush (pc := 105) (n := 80) (by decide +kernel) (by decide +kernel) ?_
  refine zk_newM (pc := 107) (n := 4) (m := 80) (fun s h => h) zcl_10_70 rfl rfl (by decide +kernel) hS hc hfr (k := 197) rfl (by decide) (by decide) (by decide) (Nat.le_of_ble_eq_true rfl) (Nat.le_of_ble_eq_true rfl) (fun hfr => ?_)
  refine zk_putR (pc := 111) zf_10_72 (Or.inr ⟨_, rfl⟩) (by decide +kernel) rfl (zk_at0 hS h0) rfl rfl hfr (fun hfr => ?_)
  refine zw_aload_n (pc := 114) (n := 0) (i := 0) 0 (by decide +kernel) rfl rfl ?_
  refine zw_iconst (pc := 115) (n := 4) (by decide +kernel) ?_
  refine zk_newA (pc := 116) (n := 4) rfl (by decide +kernel) hS hc hfr (k := 202) rfl (by decide) (by decide) (Nat.le_of_ble_eq_true rfl) (Nat.le_of_ble_eq_true rfl) (fun hfr => ?_)
  refine zk_putR (pc := 118) zf_10_75 (Or.inr ⟨_, rfl⟩) (by decide +kernel) rfl (zk_at0 hS h0) rfl rfl hfr (fun hfr => ?_)
  refine zw_aload_n (pc := 121) (n := 0) (i := 0) 0 (by decide +kernel) rfl rfl ?_
  refine zw_getR (pc := 122) (r := c + 202) zf_10_75 (by decide +kernel) rfl (zk_at0 hS h0) (by simp [zrl, zlA_X3, zlA_X6]) ?_
  refine zw_iconst (pc := 125) (n := (-1)) (by decide +kernel) ?_
  refine zk_fill (pc := 126) (n := 4) zl_10_79 (by decide +kernel) ⟨Nat.le_of_ble_eq_true rfl, Nat.le_of_ble_eq_true rfl⟩ (zk_at hS (j := 201) rfl rfl) (by decide) rfl (Nat.le_of_ble_eq_true rfl) (Nat.le_of_ble_eq_true rfl) hfr (fun hfr => ?_)
  exact zw_vretX (pc := 129) (by decide +kernel) rfl (Nat.le_of_ble_eq_true rfl) (Nat.le_of_ble_eq_true rfl) (hΦ hfr)
