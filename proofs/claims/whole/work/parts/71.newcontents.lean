def zsA_X0 : List (Nat × Nat) := [(14, 6), (3, 2), (12, 81), (13, 8), (12, 8), (6, 3), (12, 80), (6, 3), (12, 80), (6, 3), (12, 80), (6, 3), (12, 80), (6, 3), (12, 80), (6, 3), (12, 80), (3, 2), (12, 81), (3, 2), (12, 81), (3, 2), (12, 81), (3, 2), (12, 81), (3, 2), (12, 81), (3, 2), (12, 81), (3, 2), (12, 81), (3, 2), (12, 81)]
def zlA_X0 (c : Nat) (L : List (Nat × Nat × Nat)) : List (Nat × Nat × Nat) := ((c + 4, 7, c + 32) :: (zlA_X3 (c + 32) ((c + 4, 6, c + 30) :: (zlA_X3 (c + 30) ((c + 4, 5, c + 28) :: (zlA_X3 (c + 28) ((c + 4, 4, c + 26) :: (zlA_X3 (c + 26) ((c + 4, 3, c + 24) :: (zlA_X3 (c + 24) ((c + 4, 2, c + 22) :: (zlA_X3 (c + 22) ((c + 4, 1, c + 20) :: (zlA_X3 (c + 20) ((c + 4, 0, c + 18) :: (zlA_X3 (c + 18) ((c + 1, 5, c + 16) :: (zlA_X6 (c + 16) ((c + 1, 4, c + 14) :: (zlA_X6 (c + 14) ((c + 1, 3, c + 12) :: (zlA_X6 (c + 12) ((c + 1, 2, c + 10) :: (zlA_X6 (c + 10) ((c + 1, 1, c + 8) :: (zlA_X6 (c + 8) ((c + 1, 0, c + 6) :: (zlA_X6 (c + 6) ((c, 4, c + 5) :: ((c, 3, c + 4) :: ((c, 2, c + 2) :: (zlA_X3 (c + 2) ((c, 1, c + 1) :: L)))))))))))))))))))))))))))))))))
def ziA_X0 (c : Nat) (I : zMu) : zMu := (ziA_X3 (c + 32) (ziA_X3 (c + 30) (ziA_X3 (c + 28) (ziA_X3 (c + 26) (ziA_X3 (c + 24) (ziA_X3 (c + 22) (ziA_X3 (c + 20) (ziA_X3 (c + 18) (ziA_X6 (c + 16) (ziA_X6 (c + 14) (ziA_X6 (c + 12) (ziA_X6 (c + 10) (ziA_X6 (c + 8) (ziA_X6 (c + 6) (ziA_X3 (c + 2) (zup I c 0 101))))))))))))))))
set_option maxRecDepth 100000 in
theorem ok_X0_init {g : zG} : zKnw g zm_X0_init 0 5 zsA_X0 zlA_X0 ziA_X0 := by
  intro S L I c Φ hS h0 hb hfr hΦ
  have hn : zsA_X0.length = 33 := rfl
  have hc : c < 80000 := by omega
  refine zok_ofX (by decide +kernel) rfl ?_
  have e0 : ((S, zrl L, I) : zWS) = (S ++ [], zrl L, I) := by rw [List.append_nil]
  rw [e0] at hfr ⊢
  show zWP g zm_X0_init (zmoX g zm_X0_init Φ) 0 [(0, .ref c)] [] 0 0 (S ++ [], zrl L, I)
  refine zw_aload_n (pc := 0) (n := 0) (i := 0) 0 (by decide +kernel) rfl rfl ?_
  refine zw_objInit (pc := 1) zlo_0 (by decide +kernel) (by decide) (by decide) rfl ?_
  refine zw_aload_n (pc := 4) (n := 0) (i := 0) 0 (by decide +kernel) rfl rfl ?_
  refine zw_bipush (pc := 5) (n := 101) (by decide +kernel) (by decide +kernel) ?_
  refine zk_putI (pc := 7) zf_0_9 (by decide +kernel) rfl (zk_at0 hS h0) hfr (fun hfr => ?_)
  refine zw_aload_n (pc := 10) (n := 0) (i := 0) 0 (by decide +kernel) rfl rfl ?_
  refine zw_bipush (pc := 11) (n := 6) (by decide +kernel) (by decide +kernel) ?_
  refine zk_newQ (pc := 13) (n := 6) (t0 := 2) (kq := 14) (by decide) (fun _ => rfl) (fun s h => h.1) zcl_0_15 rfl (by decide +kernel) hS hc hfr (k := 1) rfl (by decide) (by decide) (Nat.le_of_ble_eq_true rfl) (Nat.le_of_ble_eq_true rfl) (fun hfr => ?_)
  refine zk_putR (pc := 16) zf_0_17 (Or.inr ⟨_, rfl⟩) (by decide +kernel) rfl (zk_at0 hS h0) rfl rfl hfr (fun hfr => ?_)
  refine zw_aload_n (pc := 19) (n := 0) (i := 0) 0 (by decide +kernel) rfl rfl ?_
  refine zk_new (pc := 20) znb_3 zcl_0_21 zins_3 zi_X3_init.1 (by decide +kernel) hS hc hfr (k := 2) rfl (by decide) (Nat.le_of_ble_eq_true rfl) (Nat.le_of_ble_eq_true rfl) (fun hfr => ?_)
  refine zw_dup (pc := 23) (by decide +kernel) rfl ?_
  refine zk_callN (pc := 24) (j := 1) ok_X3_init (fun s h => h) zi_X3_init rfl zii_X3_init zn_0_23 rfl (by decide +kernel) ⟨Nat.le_of_ble_eq_true rfl, Nat.le_of_ble_eq_true rfl⟩ rfl (Nat.le_of_ble_eq_true rfl) (Nat.le_of_ble_eq_true rfl) hS (by have : zsA_X3.length = 1 := rfl; omega) rfl rfl rfl hfr (fun hfr => ?_)
  refine zk_putR (pc := 27) zf_0_24 (Or.inl ⟨_, rfl⟩) (by decide +kernel) rfl (zk_at0 hS h0) rfl rfl hfr (fun hfr => ?_)
  refine zw_aload_n (pc := 30) (n := 0) (i := 0) 0 (by decide +kernel) rfl rfl ?_
  refine zw_bipush (pc := 31) (n := 8) (by decide +kernel) (by decide +kernel) ?_
  refine zk_newQ (pc := 33) (n := 8) (t0 := 1) (kq := 13) (by decide) (fun _ => rfl) (fun s h => h.2.1) zcl_0_21 rfl (by decide +kernel) hS hc hfr (k := 4) rfl (by decide) (by decide) (Nat.le_of_ble_eq_true rfl) (Nat.le_of_ble_eq_true rfl) (fun hfr => ?_)
  refine zk_putR (pc := 36) zf_0_28 (Or.inr ⟨_, rfl⟩) (by decide +kernel) rfl (zk_at0 hS h0) rfl rfl hfr (fun hfr => ?_)
  refine zw_aload_n (pc := 39) (n := 0) (i := 0) 0 (by decide +kernel) rfl rfl ?_
  refine zw_bipush (pc := 40) (n := 8) (by decide +kernel) (by decide +kernel) ?_
  refine zk_newA (pc := 42) (n := 8) rfl (by decide +kernel) hS hc hfr (k := 5) rfl (by decide) (by decide) (Nat.le_of_ble_eq_true rfl) (Nat.le_of_ble_eq_true rfl) (fun hfr => ?_)
  refine zk_putR (pc := 44) zf_0_32 (Or.inr ⟨_, rfl⟩) (by decide +kernel) rfl (zk_at0 hS h0) rfl rfl hfr (fun hfr => ?_)
  refine zw_iconst (pc := 47) (n := 0) (by decide +kernel) ?_
  refine zw_istore_n (pc := 48) (n := 1) (i := 1) (lv' := [(0, .ref c), (1, .int (zJ 0))]) (by decide +kernel) rfl (Nat.le_of_ble_eq_true rfl) rfl ?_
  refine zw_iload_n (pc := 49) (n := 1) (i := 1) 1 (by decide +kernel) rfl rfl ?_
  refine zw_bipush (pc := 50) (n := 6) (by decide +kernel) (by decide +kernel) ?_
  refine zw_icmp_ge (pc := 52) (off := 22) (tgt := 74) (by decide +kernel) (by decide) ⟨by decide, by decide⟩ ⟨by decide, by decide⟩ (fun h => absurd h (by decide)) (fun _ => ?_)
  refine zw_aload_n (pc := 55) (n := 0) (i := 0) 0 (by decide +kernel) rfl rfl ?_
  refine zw_getR (pc := 56) (r := c + 1) zf_0_17 (by decide +kernel) rfl (zk_at0 hS h0) (by simp [zrl, zlA_X3, zlA_X6]) ?_
  refine zw_iload_n (pc := 59) (n := 1) (i := 1) 1 (by decide +kernel) rfl rfl ?_
  refine zk_new (pc := 60) znb_6 zcl_0_15 zins_6 zi_X6_init.1 (by decide +kernel) hS hc hfr (k := 6) rfl (by decide) (Nat.le_of_ble_eq_true rfl) (Nat.le_of_ble_eq_true rfl) (fun hfr => ?_)
  refine zw_dup (pc := 63) (by decide +kernel) rfl ?_
  refine zk_callN (pc := 64) (j := 5) ok_X6_init (fun s h => h) zi_X6_init rfl zii_X6_init zn_0_36 rfl (by decide +kernel) ⟨Nat.le_of_ble_eq_true rfl, Nat.le_of_ble_eq_true rfl⟩ rfl (Nat.le_of_ble_eq_true rfl) (Nat.le_of_ble_eq_true rfl) hS (by have : zsA_X6.length = 1 := rfl; omega) rfl rfl rfl hfr (fun hfr => ?_)
  refine zk_aastore (pc := 67) (j := 0) (t0 := 2) (ci := 6) (kq := 14) (n := 6) (nv := 3) (by decide) (fun _ => rfl) rfl (by decide) (by decide +kernel) (zk_at hS (j := 0) rfl rfl) (zk_at hS (j := 5) rfl rfl) rfl (by decide) (by decide) hfr (fun hfr => ?_)
  refine zw_iinc (pc := 68) (i := 1) (n := 1) (v := 1) (lv' := [(0, .ref c), (1, .int (zJ 1))]) 1 (by decide +kernel) rfl rfl (Nat.le_of_ble_eq_true rfl) rfl ?_
  refine zw_goto (pc := 71) (off := (-22)) (tgt := 49) (by decide +kernel) (by decide) ?_
  refine zw_iload_n (pc := 49) (n := 1) (i := 1) 1 (by decide +kernel) rfl rfl ?_
  refine zw_bipush (pc := 50) (n := 6) (by decide +kernel) (by decide +kernel) ?_
  refine zw_icmp_ge (pc := 52) (off := 22) (tgt := 74) (by decide +kernel) (by decide) ⟨by decide, by decide⟩ ⟨by decide, by decide⟩ (fun h => absurd h (by decide)) (fun _ => ?_)
  refine zw_aload_n (pc := 55) (n := 0) (i := 0) 0 (by decide +kernel) rfl rfl ?_
  refine zw_getR (pc := 56) (r := c + 1) zf_0_17 (by decide +kernel) rfl (zk_at0 hS h0) (by simp [zrl, zlA_X3, zlA_X6]) ?_
  refine zw_iload_n (pc := 59) (n := 1) (i := 1) 1 (by decide +kernel) rfl rfl ?_
  refine zk_new (pc := 60) znb_6 zcl_0_15 zins_6 zi_X6_init.1 (by decide +kernel) hS hc hfr (k := 8) rfl (by decide) (Nat.le_of_ble_eq_true rfl) (Nat.le_of_ble_eq_true rfl) (fun hfr => ?_)
  refine zw_dup (pc := 63) (by decide +kernel) rfl ?_
  refine zk_callN (pc := 64) (j := 7) ok_X6_init (fun s h => h) zi_X6_init rfl zii_X6_init zn_0_36 rfl (by decide +kernel) ⟨Nat.le_of_ble_eq_true rfl, Nat.le_of_ble_eq_true rfl⟩ rfl (Nat.le_of_ble_eq_true rfl) (Nat.le_of_ble_eq_true rfl) hS (by have : zsA_X6.length = 1 := rfl; omega) rfl rfl rfl hfr (fun hfr => ?_)
  refine zk_aastore (pc := 67) (j := 1) (t0 := 2) (ci := 6) (kq := 14) (n := 6) (nv := 3) (by decide) (fun _ => rfl) rfl (by decide) (by decide +kernel) (zk_at hS (j := 0) rfl rfl) (zk_at hS (j := 7) rfl rfl) rfl (by decide) (by decide) hfr (fun hfr => ?_)
  refine zw_iinc (pc := 68) (i := 1) (n := 1) (v := 2) (lv' := [(0, .ref c), (1, .int (zJ 2))]) 1 (by decide +kernel) rfl rfl (Nat.le_of_ble_eq_true rfl) rfl ?_
  refine zw_goto (pc := 71) (off := (-22)) (tgt := 49) (by decide +kernel) (by decide) ?_
  refine zw_iload_n (pc := 49) (n := 1) (i := 1) 1 (by decide +kernel) rfl rfl ?_
  refine zw_bipush (pc := 50) (n := 6) (by decide +kernel) (by decide +kernel) ?_
  refine zw_icmp_ge (pc := 52) (off := 22) (tgt := 74) (by decide +kernel) (by decide) ⟨by decide, by decide⟩ ⟨by decide, by decide⟩ (fun h => absurd h (by decide)) (fun _ => ?_)
  refine zw_aload_n (pc := 55) (n := 0) (i := 0) 0 (by decide +kernel) rfl rfl ?_
  refine zw_getR (pc := 56) (r := c + 1) zf_0_17 (by decide +kernel) rfl (zk_at0 hS h0) (by simp [zrl, zlA_X3, zlA_X6]) ?_
  refine zw_iload_n (pc := 59) (n := 1) (i := 1) 1 (by decide +kernel) rfl rfl ?_
  refine zk_new (pc := 60) znb_6 zcl_0_15 zins_6 zi_X6_init.1 (by decide +kernel) hS hc hfr (k := 10) rfl (by decide) (Nat.le_of_ble_eq_true rfl) (Nat.le_of_ble_eq_true rfl) (fun hfr => ?_)
  refine zw_dup (pc := 63) (by decide +kernel) rfl ?_
  refine zk_callN (pc := 64) (j := 9) ok_X6_init (fun s h => h) zi_X6_init rfl zii_X6_init zn_0_36 rfl (by decide +kernel) ⟨Nat.le_of_ble_eq_true rfl, Nat.le_of_ble_eq_true rfl⟩ rfl (Nat.le_of_ble_eq_true rfl) (Nat.le_of_ble_eq_true rfl) hS (by have : zsA_X6.length = 1 := rfl; omega) rfl rfl rfl hfr (fun hfr => ?_)
  refine zk_aastore (pc := 67) (j := 2) (t0 := 2) (ci := 6) (kq := 14) (n := 6) (nv := 3) (by decide) (fun _ => rfl) rfl (by decide) (by decide +kernel) (zk_at hS (j := 0) rfl rfl) (zk_at hS (j := 9) rfl rfl) rfl (by decide) (by decide) hfr (fun hfr => ?_)
  refine zw_iinc (pc := 68) (i := 1) (n := 1) (v := 3) (lv' := [(0, .ref c), (1, .int (zJ 3))]) 1 (by decide +kernel) rfl rfl (Nat.le_of_ble_eq_true rfl) rfl ?_
  refine zw_goto (pc := 71) (off := (-22)) (tgt := 49) (by decide +kernel) (by decide) ?_
  refine zw_iload_n (pc := 49) (n := 1) (i := 1) 1 (by decide +kernel) rfl rfl ?_
  refine zw_bipush (pc := 50) (n := 6) (by decide +kernel) (by decide +kernel) ?_
  refine zw_icmp_ge (pc := 52) (off := 22) (tgt := 74) (by decide +kernel) (by decide) ⟨by decide, by decide⟩ ⟨by decide, by decide⟩ (fun h => absurd h (by decide)) (fun _ => ?_)
  refine zw_aload_n (pc := 55) (n := 0) (i := 0) 0 (by decide +kernel) rfl rfl ?_
  refine zw_getR (pc := 56) (r := c + 1) zf_0_17 (by decide +kernel) rfl (zk_at0 hS h0) (by simp [zrl, zlA_X3, zlA_X6]) ?_
  refine zw_iload_n (pc := 59) (n := 1) (i := 1) 1 (by decide +kernel) rfl rfl ?_
  refine zk_new (pc := 60) znb_6 zcl_0_15 zins_6 zi_X6_init.1 (by decide +kernel) hS hc hfr (k := 12) rfl (by decide) (Nat.le_of_ble_eq_true rfl) (Nat.le_of_ble_eq_true rfl) (fun hfr => ?_)
  refine zw_dup (pc := 63) (by decide +kernel) rfl ?_
  refine zk_callN (pc := 64) (j := 11) ok_X6_init (fun s h => h) zi_X6_init rfl zii_X6_init zn_0_36 rfl (by decide +kernel) ⟨Nat.le_of_ble_eq_true rfl, Nat.le_of_ble_eq_true rfl⟩ rfl (Nat.le_of_ble_eq_true rfl) (Nat.le_of_ble_eq_true rfl) hS (by have : zsA_X6.length = 1 := rfl; omega) rfl rfl rfl hfr (fun hfr => ?_)
  refine zk_aastore (pc := 67) (j := 3) (t0 := 2) (ci := 6) (kq := 14) (n := 6) (nv := 3) (by decide) (fun _ => rfl) rfl (by decide) (by decide +kernel) (zk_at hS (j := 0) rfl rfl) (zk_at hS (j := 11) rfl rfl) rfl (by decide) (by decide) hfr (fun hfr => ?_)
  refine zw_iinc (pc := 68) (i := 1) (n := 1) (v := 4) (lv' := [(0, .ref c), (1, .int (zJ 4))]) 1 (by decide +kernel) rfl rfl (Nat.le_of_ble_eq_true rfl) rfl ?_
  refine zw_goto (pc := 71) (off := (-22)) (tgt := 49) (by decide +kernel) (by decide) ?_
  refine zw_iload_n (pc := 49) (n := 1) (i := 1) 1 (by decide +kernel) rfl rfl ?_
  refine zw_bipush (pc := 50) (n := 6) (by decide +kernel) (by decide +kernel) ?_
  refine zw_icmp_ge (pc := 52) (off := 22) (tgt := 74) (by decide +kernel) (by decide) ⟨by decide, by decide⟩ ⟨by decide, by decide⟩ (fun h => absurd h (by decide)) (fun _ => ?_)
  refine zw_aload_n (pc := 55) (n := 0) (i := 0) 0 (by decide +kernel) rfl rfl ?_
  refine zw_getR (pc := 56) (r := c + 1) zf_0_17 (by decide +kernel) rfl (zk_at0 hS h0) (by simp [zrl, zlA_X3, zlA_X6]) ?_
  refine zw_iload_n (pc := 59) (n := 1) (i := 1) 1 (by decide +kernel) rfl rfl ?_
  refine zk_new (pc := 60) znb_6 zcl_0_15 zins_6 zi_X6_init.1 (by decide +kernel) hS hc hfr (k := 14) rfl (by decide) (Nat.le_of_ble_eq_true rfl) (Nat.le_of_ble_eq_true rfl) (fun hfr => ?_)
  refine zw_dup (pc := 63) (by decide +kernel) rfl ?_
  refine zk_callN (pc := 64) (j := 13) ok_X6_init (fun s h => h) zi_X6_init rfl zii_X6_init zn_0_36 rfl (by decide +kernel) ⟨Nat.le_of_ble_eq_true rfl, Nat.le_of_ble_eq_true rfl⟩ rfl (Nat.le_of_ble_eq_true rfl) (Nat.le_of_ble_eq_true rfl) hS (by have : zsA_X6.length = 1 := rfl; omega) rfl rfl rfl hfr (fun hfr => ?_)
  refine zk_aastore (pc := 67) (j := 4) (t0 := 2) (ci := 6) (kq := 14) (n := 6) (nv := 3) (by decide) (fun _ => rfl) rfl (by decide) (by decide +kernel) (zk_at hS (j := 0) rfl rfl) (zk_at hS (j := 13) rfl rfl) rfl (by decide) (by decide) hfr (fun hfr => ?_)
  refine zw_iinc (pc := 68) (i := 1) (n := 1) (v := 5) (lv' := [(0, .ref c), (1, .int (zJ 5))]) 1 (by decide +kernel) rfl rfl (Nat.le_of_ble_eq_true rfl) rfl ?_
  refine zw_goto (pc := 71) (off := (-22)) (tgt := 49) (by decide +kernel) (by decide) ?_
  refine zw_iload_n (pc := 49) (n := 1) (i := 1) 1 (by decide +kernel) rfl rfl ?_
  refine zw_bipush (pc := 50) (n := 6) (by decide +kernel) (by decide +kernel) ?_
  refine zw_icmp_ge (pc := 52) (off := 22) (tgt := 74) (by decide +kernel) (by decide) ⟨by decide, by decide⟩ ⟨by decide, by decide⟩ (fun h => absurd h (by decide)) (fun _ => ?_)
  refine zw_aload_n (pc := 55) (n := 0) (i := 0) 0 (by decide +kernel) rfl rfl ?_
  refine zw_getR (pc := 56) (r := c + 1) zf_0_17 (by decide +kernel) rfl (zk_at0 hS h0) (by simp [zrl, zlA_X3, zlA_X6]) ?_
  refine zw_iload_n (pc := 59) (n := 1) (i := 1) 1 (by decide +kernel) rfl rfl ?_
  refine zk_new (pc := 60) znb_6 zcl_0_15 zins_6 zi_X6_init.1 (by decide +kernel) hS hc hfr (k := 16) rfl (by decide) (Nat.le_of_ble_eq_true rfl) (Nat.le_of_ble_eq_true rfl) (fun hfr => ?_)
  refine zw_dup (pc := 63) (by decide +kernel) rfl ?_
  refine zk_callN (pc := 64) (j := 15) ok_X6_init (fun s h => h) zi_X6_init rfl zii_X6_init zn_0_36 rfl (by decide +kernel) ⟨Nat.le_of_ble_eq_true rfl, Nat.le_of_ble_eq_true rfl⟩ rfl (Nat.le_of_ble_eq_true rfl) (Nat.le_of_ble_eq_true rfl) hS (by have : zsA_X6.length = 1 := rfl; omega) rfl rfl rfl hfr (fun hfr => ?_)
  refine zk_aastore (pc := 67) (j := 5) (t0 := 2) (ci := 6) (kq := 14) (n := 6) (nv := 3) (by decide) (fun _ => rfl) rfl (by decide) (by decide +kernel) (zk_at hS (j := 0) rfl rfl) (zk_at hS (j := 15) rfl rfl) rfl (by decide) (by decide) hfr (fun hfr => ?_)
  refine zw_iinc (pc := 68) (i := 1) (n := 1) (v := 6) (lv' := [(0, .ref c), (1, .int (zJ 6))]) 1 (by decide +kernel) rfl rfl (Nat.le_of_ble_eq_true rfl) rfl ?_
  refine zw_goto (pc := 71) (off := (-22)) (tgt := 49) (by decide +kernel) (by decide) ?_
  refine zw_iload_n (pc := 49) (n := 1) (i := 1) 1 (by decide +kernel) rfl rfl ?_
  refine zw_bipush (pc := 50) (n := 6) (by decide +kernel) (by decide +kernel) ?_
  refine zw_icmp_ge (pc := 52) (off := 22) (tgt := 74) (by decide +kernel) (by decide) ⟨by decide, by decide⟩ ⟨by decide, by decide⟩ (fun _ => ?_) (fun h => absurd h (by decide))
  refine zw_iconst (pc := 74) (n := 0) (by decide +kernel) ?_
  refine zw_istore_n (pc := 75) (n := 1) (i := 1) (lv' := [(0, .ref c), (1, .int (zJ 0))]) (by decide +kernel) rfl (Nat.le_of_ble_eq_true rfl) rfl ?_
  refine zw_iload_n (pc := 76) (n := 1) (i := 1) 1 (by decide +kernel) rfl rfl ?_
  refine zw_bipush (pc := 77) (n := 8) (by decide +kernel) (by decide +kernel) ?_
  refine zw_icmp_ge (pc := 79) (off := 22) (tgt := 101) (by decide +kernel) (by decide) ⟨by decide, by decide⟩ ⟨by decide, by decide⟩ (fun h => absurd h (by decide)) (fun _ => ?_)
  refine zw_aload_n (pc := 82) (n := 0) (i := 0) 0 (by decide +kernel) rfl rfl ?_
  refine zw_getR (pc := 83) (r := c + 4) zf_0_28 (by decide +kernel) rfl (zk_at0 hS h0) (by simp [zrl, zlA_X3, zlA_X6]) ?_
  refine zw_iload_n (pc := 86) (n := 1) (i := 1) 1 (by decide +kernel) rfl rfl ?_
  refine zk_new (pc := 87) znb_3 zcl_0_21 zins_3 zi_X3_init.1 (by decide +kernel) hS hc hfr (k := 18) rfl (by decide) (Nat.le_of_ble_eq_true rfl) (Nat.le_of_ble_eq_true rfl) (fun hfr => ?_)
  refine zw_dup (pc := 90) (by decide +kernel) rfl ?_
  refine zk_callN (pc := 91) (j := 17) ok_X3_init (fun s h => h) zi_X3_init rfl zii_X3_init zn_0_23 rfl (by decide +kernel) ⟨Nat.le_of_ble_eq_true rfl, Nat.le_of_ble_eq_true rfl⟩ rfl (Nat.le_of_ble_eq_true rfl) (Nat.le_of_ble_eq_true rfl) hS (by have : zsA_X3.length = 1 := rfl; omega) rfl rfl rfl hfr (fun hfr => ?_)
  refine zk_aastore (pc := 94) (j := 0) (t0 := 1) (ci := 3) (kq := 13) (n := 8) (nv := 2) (by decide) (fun _ => rfl) rfl (by decide) (by decide +kernel) (zk_at hS (j := 3) rfl rfl) (zk_at hS (j := 17) rfl rfl) rfl (by decide) (by decide) hfr (fun hfr => ?_)
  refine zw_iinc (pc := 95) (i := 1) (n := 1) (v := 1) (lv' := [(0, .ref c), (1, .int (zJ 1))]) 1 (by decide +kernel) rfl rfl (Nat.le_of_ble_eq_true rfl) rfl ?_
  refine zw_goto (pc := 98) (off := (-22)) (tgt := 76) (by decide +kernel) (by decide) ?_
  refine zw_iload_n (pc := 76) (n := 1) (i := 1) 1 (by decide +kernel) rfl rfl ?_
  refine zw_bipush (pc := 77) (n := 8) (by decide +kernel) (by decide +kernel) ?_
  refine zw_icmp_ge (pc := 79) (off := 22) (tgt := 101) (by decide +kernel) (by decide) ⟨by decide, by decide⟩ ⟨by decide, by decide⟩ (fun h => absurd h (by decide)) (fun _ => ?_)
  refine zw_aload_n (pc := 82) (n := 0) (i := 0) 0 (by decide +kernel) rfl rfl ?_
  refine zw_getR (pc := 83) (r := c + 4) zf_0_28 (by decide +kernel) rfl (zk_at0 hS h0) (by simp [zrl, zlA_X3, zlA_X6]) ?_
  refine zw_iload_n (pc := 86) (n := 1) (i := 1) 1 (by decide +kernel) rfl rfl ?_
  refine zk_new (pc := 87) znb_3 zcl_0_21 zins_3 zi_X3_init.1 (by decide +kernel) hS hc hfr (k := 20) rfl (by decide) (Nat.le_of_ble_eq_true rfl) (Nat.le_of_ble_eq_true rfl) (fun hfr => ?_)
  refine zw_dup (pc := 90) (by decide +kernel) rfl ?_
  refine zk_callN (pc := 91) (j := 19) ok_X3_init (fun s h => h) zi_X3_init rfl zii_X3_init zn_0_23 rfl (by decide +kernel) ⟨Nat.le_of_ble_eq_true rfl, Nat.le_of_ble_eq_true rfl⟩ rfl (Nat.le_of_ble_eq_true rfl) (Nat.le_of_ble_eq_true rfl) hS (by have : zsA_X3.length = 1 := rfl; omega) rfl rfl rfl hfr (fun hfr => ?_)
  refine zk_aastore (pc := 94) (j := 1) (t0 := 1) (ci := 3) (kq := 13) (n := 8) (nv := 2) (by decide) (fun _ => rfl) rfl (by decide) (by decide +kernel) (zk_at hS (j := 3) rfl rfl) (zk_at hS (j := 19) rfl rfl) rfl (by decide) (by decide) hfr (fun hfr => ?_)
  refine zw_iinc (pc := 95) (i := 1) (n := 1) (v := 2) (lv' := [(0, .ref c), (1, .int (zJ 2))]) 1 (by decide +kernel) rfl rfl (Nat.le_of_ble_eq_true rfl) rfl ?_
  refine zw_goto (pc := 98) (off := (-22)) (tgt := 76) (by decide +kernel) (by decide) ?_
  refine zw_iload_n (pc := 76) (n := 1) (i := 1) 1 (by decide +kernel) rfl rfl ?_
  refine zw_bipush (pc := 77) (n := 8) (by decide +kernel) (by decide +kernel) ?_
  refine zw_icmp_ge (pc := 79) (off := 22) (tgt := 101) (by decide +kernel) (by decide) ⟨by decide, by decide⟩ ⟨by decide, by decide⟩ (fun h => absurd h (by decide)) (fun _ => ?_)
  refine zw_aload_n (pc := 82) (n := 0) (i := 0) 0 (by decide +kernel) rfl rfl ?_
  refine zw_getR (pc := 83) (r := c + 4) zf_0_28 (by decide +kernel) rfl (zk_at0 hS h0) (by simp [zrl, zlA_X3, zlA_X6]) ?_
  refine zw_iload_n (pc := 86) (n := 1) (i := 1) 1 (by decide +kernel) rfl rfl ?_
  refine zk_new (pc := 87) znb_3 zcl_0_21 zins_3 zi_X3_init.1 (by decide +kernel) hS hc hfr (k := 22) rfl (by decide) (Nat.le_of_ble_eq_true rfl) (Nat.le_of_ble_eq_true rfl) (fun hfr => ?_)
  refine zw_dup (pc := 90) (by decide +kernel) rfl ?_
  refine zk_callN (pc := 91) (j := 21) ok_X3_init (fun s h => h) zi_X3_init rfl zii_X3_init zn_0_23 rfl (by decide +kernel) ⟨Nat.le_of_ble_eq_true rfl, Nat.le_of_ble_eq_true rfl⟩ rfl (Nat.le_of_ble_eq_true rfl) (Nat.le_of_ble_eq_true rfl) hS (by have : zsA_X3.length = 1 := rfl; omega) rfl rfl rfl hfr (fun hfr => ?_)
  refine zk_aastore (pc := 94) (j := 2) (t0 := 1) (ci := 3) (kq := 13) (n := 8) (nv := 2) (by decide) (fun _ => rfl) rfl (by decide) (by decide +kernel) (zk_at hS (j := 3) rfl rfl) (zk_at hS (j := 21) rfl rfl) rfl (by decide) (by decide) hfr (fun hfr => ?_)
  refine zw_iinc (pc := 95) (i := 1) (n := 1) (v := 3) (lv' := [(0, .ref c), (1, .int (zJ 3))]) 1 (by decide +kernel) rfl rfl (Nat.le_of_ble_eq_true rfl) rfl ?_
  refine zw_goto (pc := 98) (off := (-22)) (tgt := 76) (by decide +kernel) (by decide) ?_
  refine zw_iload_n (pc := 76) (n := 1) (i := 1) 1 (by decide +kernel) rfl rfl ?_
  refine zw_bipush (pc := 77) (n := 8) (by decide +kernel) (by decide +kernel) ?_
  refine zw_icmp_ge (pc := 79) (off := 22) (tgt := 101) (by decide +kernel) (by decide) ⟨by decide, by decide⟩ ⟨by decide, by decide⟩ (fun h => absurd h (by decide)) (fun _ => ?_)
  refine zw_aload_n (pc := 82) (n := 0) (i := 0) 0 (by decide +kernel) rfl rfl ?_
  refine zw_getR (pc := 83) (r := c + 4) zf_0_28 (by decide +kernel) rfl (zk_at0 hS h0) (by simp [zrl, zlA_X3, zlA_X6]) ?_
  refine zw_iload_n (pc := 86) (n := 1) (i := 1) 1 (by decide +kernel) rfl rfl ?_
  refine zk_new (pc := 87) znb_3 zcl_0_21 zins_3 zi_X3_init.1 (by decide +kernel) hS hc hfr (k := 24) rfl (by decide) (Nat.le_of_ble_eq_true rfl) (Nat.le_of_ble_eq_true rfl) (fun hfr => ?_)
  refine zw_dup (pc := 90) (by decide +kernel) rfl ?_
  refine zk_callN (pc := 91) (j := 23) ok_X3_init (fun s h => h) zi_X3_init rfl zii_X3_init zn_0_23 rfl (by decide +kernel) ⟨Nat.le_of_ble_eq_true rfl, Nat.le_of_ble_eq_true rfl⟩ rfl (Nat.le_of_ble_eq_true rfl) (Nat.le_of_ble_eq_true rfl) hS (by have : zsA_X3.length = 1 := rfl; omega) rfl rfl rfl hfr (fun hfr => ?_)
  refine zk_aastore (pc := 94) (j := 3) (t0 := 1) (ci := 3) (kq := 13) (n := 8) (nv := 2) (by decide) (fun _ => rfl) rfl (by decide) (by decide +kernel) (zk_at hS (j := 3) rfl rfl) (zk_at hS (j := 23) rfl rfl) rfl (by decide) (by decide) hfr (fun hfr => ?_)
  refine zw_iinc (pc := 95) (i := 1) (n := 1) (v := 4) (lv' := [(0, .ref c), (1, .int (zJ 4))]) 1 (by decide +kernel) rfl rfl (Nat.le_of_ble_eq_true rfl) rfl ?_
  refine zw_goto (pc := 98) (off := (-22)) (tgt := 76) (by decide +kernel) (by decide) ?_
  refine zw_iload_n (pc := 76) (n := 1) (i := 1) 1 (by decide +kernel) rfl rfl ?_
  refine zw_bipush (pc := 77) (n := 8) (by decide +kernel) (by decide +kernel) ?_
  refine zw_icmp_ge (pc := 79) (off := 22) (tgt := 101) (by decide +kernel) (by decide) ⟨by decide, by decide⟩ ⟨by decide, by decide⟩ (fun h => absurd h (by decide)) (fun _ => ?_)
  refine zw_aload_n (pc := 82) (n := 0) (i := 0) 0 (by decide +kernel) rfl rfl ?_
  refine zw_getR (pc := 83) (r := c + 4) zf_0_28 (by decide +kernel) rfl (zk_at0 hS h0) (by simp [zrl, zlA_X3, zlA_X6]) ?_
  refine zw_iload_n (pc := 86) (n := 1) (i := 1) 1 (by decide +kernel) rfl rfl ?_
  refine zk_new (pc := 87) znb_3 zcl_0_21 zins_3 zi_X3_init.1 (by decide +kernel) hS hc hfr (k := 26) rfl (by decide) (Nat.le_of_ble_eq_true rfl) (Nat.le_of_ble_eq_true rfl) (fun hfr => ?_)
  refine zw_dup (pc := 90) (by decide +kernel) rfl ?_
  refine zk_callN (pc := 91) (j := 25) ok_X3_init (fun s h => h) zi_X3_init rfl zii_X3_init zn_0_23 rfl (by decide +kernel) ⟨Nat.le_of_ble_eq_true rfl, Nat.le_of_ble_eq_true rfl⟩ rfl (Nat.le_of_ble_eq_true rfl) (Nat.le_of_ble_eq_true rfl) hS (by have : zsA_X3.length = 1 := rfl; omega) rfl rfl rfl hfr (fun hfr => ?_)
  refine zk_aastore (pc := 94) (j := 4) (t0 := 1) (ci := 3) (kq := 13) (n := 8) (nv := 2) (by decide) (fun _ => rfl) rfl (by decide) (by decide +kernel) (zk_at hS (j := 3) rfl rfl) (zk_at hS (j := 25) rfl rfl) rfl (by decide) (by decide) hfr (fun hfr => ?_)
  refine zw_iinc (pc := 95) (i := 1) (n := 1) (v := 5) (lv' := [(0, .ref c), (1, .int (zJ 5))]) 1 (by decide +kernel) rfl rfl (Nat.le_of_ble_eq_true rfl) rfl ?_
  refine zw_goto (pc := 98) (off := (-22)) (tgt := 76) (by decide +kernel) (by decide) ?_
  refine zw_iload_n (pc := 76) (n := 1) (i := 1) 1 (by decide +kernel) rfl rfl ?_
  refine zw_bipush (pc := 77) (n := 8) (by decide +kernel) (by decide +kernel) ?_
  refine zw_icmp_ge (pc := 79) (off := 22) (tgt := 101) (by decide +kernel) (by decide) ⟨by decide, by decide⟩ ⟨by decide, by decide⟩ (fun h => absurd h (by decide)) (fun _ => ?_)
  refine zw_aload_n (pc := 82) (n := 0) (i := 0) 0 (by decide +kernel) rfl rfl ?_
  refine zw_getR (pc := 83) (r := c + 4) zf_0_28 (by decide +kernel) rfl (zk_at0 hS h0) (by simp [zrl, zlA_X3, zlA_X6]) ?_
  refine zw_iload_n (pc := 86) (n := 1) (i := 1) 1 (by decide +kernel) rfl rfl ?_
  refine zk_new (pc := 87) znb_3 zcl_0_21 zins_3 zi_X3_init.1 (by decide +kernel) hS hc hfr (k := 28) rfl (by decide) (Nat.le_of_ble_eq_true rfl) (Nat.le_of_ble_eq_true rfl) (fun hfr => ?_)
  refine zw_dup (pc := 90) (by decide +kernel) rfl ?_
  refine zk_callN (pc := 91) (j := 27) ok_X3_init (fun s h => h) zi_X3_init rfl zii_X3_init zn_0_23 rfl (by decide +kernel) ⟨Nat.le_of_ble_eq_true rfl, Nat.le_of_ble_eq_true rfl⟩ rfl (Nat.le_of_ble_eq_true rfl) (Nat.le_of_ble_eq_true rfl) hS (by have : zsA_X3.length = 1 := rfl; omega) rfl rfl rfl hfr (fun hfr => ?_)
  refine zk_aastore (pc := 94) (j := 5) (t0 := 1) (ci := 3) (kq := 13) (n := 8) (nv := 2) (by decide) (fun _ => rfl) rfl (by decide) (by decide +kernel) (zk_at hS (j := 3) rfl rfl) (zk_at hS (j := 27) rfl rfl) rfl (by decide) (by decide) hfr (fun hfr => ?_)
  refine zw_iinc (pc := 95) (i := 1) (n := 1) (v := 6) (lv' := [(0, .ref c), (1, .int (zJ 6))]) 1 (by decide +kernel) rfl rfl (Nat.le_of_ble_eq_true rfl) rfl ?_
  refine zw_goto (pc := 98) (off := (-22)) (tgt := 76) (by decide +kernel) (by decide) ?_
  refine zw_iload_n (pc := 76) (n := 1) (i := 1) 1 (by decide +kernel) rfl rfl ?_
  refine zw_bipush (pc := 77) (n := 8) (by decide +kernel) (by decide +kernel) ?_
  refine zw_icmp_ge (pc := 79) (off := 22) (tgt := 101) (by decide +kernel) (by decide) ⟨by decide, by decide⟩ ⟨by decide, by decide⟩ (fun h => absurd h (by decide)) (fun _ => ?_)
  refine zw_aload_n (pc := 82) (n := 0) (i := 0) 0 (by decide +kernel) rfl rfl ?_
  refine zw_getR (pc := 83) (r := c + 4) zf_0_28 (by decide +kernel) rfl (zk_at0 hS h0) (by simp [zrl, zlA_X3, zlA_X6]) ?_
  refine zw_iload_n (pc := 86) (n := 1) (i := 1) 1 (by decide +kernel) rfl rfl ?_
  refine zk_new (pc := 87) znb_3 zcl_0_21 zins_3 zi_X3_init.1 (by decide +kernel) hS hc hfr (k := 30) rfl (by decide) (Nat.le_of_ble_eq_true rfl) (Nat.le_of_ble_eq_true rfl) (fun hfr => ?_)
  refine zw_dup (pc := 90) (by decide +kernel) rfl ?_
  refine zk_callN (pc := 91) (j := 29) ok_X3_init (fun s h => h) zi_X3_init rfl zii_X3_init zn_0_23 rfl (by decide +kernel) ⟨Nat.le_of_ble_eq_true rfl, Nat.le_of_ble_eq_true rfl⟩ rfl (Nat.le_of_ble_eq_true rfl) (Nat.le_of_ble_eq_true rfl) hS (by have : zsA_X3.length = 1 := rfl; omega) rfl rfl rfl hfr (fun hfr => ?_)
  refine zk_aastore (pc := 94) (j := 6) (t0 := 1) (ci := 3) (kq := 13) (n := 8) (nv := 2) (by decide) (fun _ => rfl) rfl (by decide) (by decide +kernel) (zk_at hS (j := 3) rfl rfl) (zk_at hS (j := 29) rfl rfl) rfl (by decide) (by decide) hfr (fun hfr => ?_)
  refine zw_iinc (pc := 95) (i := 1) (n := 1) (v := 7) (lv' := [(0, .ref c), (1, .int (zJ 7))]) 1 (by decide +kernel) rfl rfl (Nat.le_of_ble_eq_true rfl) rfl ?_
  refine zw_goto (pc := 98) (off := (-22)) (tgt := 76) (by decide +kernel) (by decide) ?_
  refine zw_iload_n (pc := 76) (n := 1) (i := 1) 1 (by decide +kernel) rfl rfl ?_
  refine zw_bipush (pc := 77) (n := 8) (by decide +kernel) (by decide +kernel) ?_
  refine zw_icmp_ge (pc := 79) (off := 22) (tgt := 101) (by decide +kernel) (by decide) ⟨by decide, by decide⟩ ⟨by decide, by decide⟩ (fun h => absurd h (by decide)) (fun _ => ?_)
  refine zw_aload_n (pc := 82) (n := 0) (i := 0) 0 (by decide +kernel) rfl rfl ?_
  refine zw_getR (pc := 83) (r := c + 4) zf_0_28 (by decide +kernel) rfl (zk_at0 hS h0) (by simp [zrl, zlA_X3, zlA_X6]) ?_
  refine zw_iload_n (pc := 86) (n := 1) (i := 1) 1 (by decide +kernel) rfl rfl ?_
  refine zk_new (pc := 87) znb_3 zcl_0_21 zins_3 zi_X3_init.1 (by decide +kernel) hS hc hfr (k := 32) rfl (by decide) (Nat.le_of_ble_eq_true rfl) (Nat.le_of_ble_eq_true rfl) (fun hfr => ?_)
  refine zw_dup (pc := 90) (by decide +kernel) rfl ?_
  refine zk_callN (pc := 91) (j := 31) ok_X3_init (fun s h => h) zi_X3_init rfl zii_X3_init zn_0_23 rfl (by decide +kernel) ⟨Nat.le_of_ble_eq_true rfl, Nat.le_of_ble_eq_true rfl⟩ rfl (Nat.le_of_ble_eq_true rfl) (Nat.le_of_ble_eq_true rfl) hS (by have : zsA_X3.length = 1 := rfl; omega) rfl rfl rfl hfr (fun hfr => ?_)
  refine zk_aastore (pc := 94) (j := 7) (t0 := 1) (ci := 3) (kq := 13) (n := 8) (nv := 2) (by decide) (fun _ => rfl) rfl (by decide) (by decide +kernel) (zk_at hS (j := 3) rfl rfl) (zk_at hS (j := 31) rfl rfl) rfl (by decide) (by decide) hfr (fun hfr => ?_)
  refine zw_iinc (pc := 95) (i := 1) (n := 1) (v := 8) (lv' := [(0, .ref c), (1, .int (zJ 8))]) 1 (by decide +kernel) rfl rfl (Nat.le_of_ble_eq_true rfl) rfl ?_
  refine zw_goto (pc := 98) (off := (-22)) (tgt := 76) (by decide +kernel) (by decide) ?_
  refine zw_iload_n (pc := 76) (n := 1) (i := 1) 1 (by decide +kernel) rfl rfl ?_
  refine zw_bipush (pc := 77) (n := 8) (by decide +kernel) (by decide +kernel) ?_
  refine zw_icmp_ge (pc := 79) (off := 22) (tgt := 101) (by decide +kernel) (by decide) ⟨by decide, by decide⟩ ⟨by decide, by decide⟩ (fun _ => ?_) (fun h => absurd h (by decide))
  exact zw_vretX (pc := 101) (by decide +kernel) rfl (Nat.le_of_ble_eq_true rfl) (Nat.le_of_ble_eq_true rfl) (hΦ hfr)
