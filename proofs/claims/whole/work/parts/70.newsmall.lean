/-! THE CONSTRUCTORS, by program (wip/whole/ctor.py) -/
def zsA_X3 : List (Nat × Nat) := [(12, 81)]
def zlA_X3 (c : Nat) (L : List (Nat × Nat × Nat)) : List (Nat × Nat × Nat) := ((c, 0, c + 1) :: L)
def ziA_X3 (c : Nat) (I : zMu) : zMu := I
set_option maxRecDepth 100000 in
theorem ok_X3_init {g : zG} : zKnw g zm_X3_init 3 2 zsA_X3 zlA_X3 ziA_X3 := by
  intro S L I c Φ hS h0 hb hfr hΦ
  have hn : zsA_X3.length = 1 := rfl
  have hc : c < 80000 := by omega
  refine zok_ofX (by decide +kernel) rfl ?_
  have e0 : ((S, zrl L, I) : zWS) = (S ++ [], zrl L, I) := by rw [List.append_nil]
  rw [e0] at hfr ⊢
  show zWP g zm_X3_init (zmoX g zm_X3_init Φ) 0 [(0, .ref c)] [] 0 0 (S ++ [], zrl L, I)
  refine zw_aload_n (pc := 0) (n := 0) (i := 0) 0 (by decide +kernel) rfl rfl ?_
  refine zw_objInit (pc := 1) zlo_3 (by decide +kernel) (by decide) (by decide) rfl ?_
  refine zw_aload_n (pc := 4) (n := 0) (i := 0) 0 (by decide +kernel) rfl rfl ?_
  refine zw_bipush (pc := 5) (n := 81) (by decide +kernel) (by decide +kernel) ?_
  refine zk_newA (pc := 7) (n := 81) rfl (by decide +kernel) hS hc hfr (k := 1) rfl (by decide) (by decide) (Nat.le_of_ble_eq_true rfl) (Nat.le_of_ble_eq_true rfl) (fun hfr => ?_)
  refine zk_putR (pc := 9) zf_3_9 (Or.inr ⟨_, rfl⟩) (by decide +kernel) rfl (zk_at0 hS h0) rfl rfl hfr (fun hfr => ?_)
  exact zw_vretX (pc := 12) (by decide +kernel) rfl (Nat.le_of_ble_eq_true rfl) (Nat.le_of_ble_eq_true rfl) (hΦ hfr)
def zsA_X6 : List (Nat × Nat) := [(12, 80)]
def zlA_X6 (c : Nat) (L : List (Nat × Nat × Nat)) : List (Nat × Nat × Nat) := ((c, 0, c + 1) :: L)
def ziA_X6 (c : Nat) (I : zMu) : zMu := I
set_option maxRecDepth 100000 in
theorem ok_X6_init {g : zG} : zKnw g zm_X6_init 6 3 zsA_X6 zlA_X6 ziA_X6 := by
  intro S L I c Φ hS h0 hb hfr hΦ
  have hn : zsA_X6.length = 1 := rfl
  have hc : c < 80000 := by omega
  refine zok_ofX (by decide +kernel) rfl ?_
  have e0 : ((S, zrl L, I) : zWS) = (S ++ [], zrl L, I) := by rw [List.append_nil]
  rw [e0] at hfr ⊢
  show zWP g zm_X6_init (zmoX g zm_X6_init Φ) 0 [(0, .ref c)] [] 0 0 (S ++ [], zrl L, I)
  refine zw_aload_n (pc := 0) (n := 0) (i := 0) 0 (by decide +kernel) rfl rfl ?_
  refine zw_objInit (pc := 1) zlo_6 (by decide +kernel) (by decide) (by decide) rfl ?_
  refine zw_aload_n (pc := 4) (n := 0) (i := 0) 0 (by decide +kernel) rfl rfl ?_
  refine zw_bipush (pc := 5) (n := 80) (by decide +kernel) (by decide +kernel) ?_
  refine zk_newA (pc := 7) (n := 80) rfl (by decide +kernel) hS hc hfr (k := 1) rfl (by decide) (by decide) (Nat.le_of_ble_eq_true rfl) (Nat.le_of_ble_eq_true rfl) (fun hfr => ?_)
  refine zk_putR (pc := 9) zf_6_9 (Or.inr ⟨_, rfl⟩) (by decide +kernel) rfl (zk_at0 hS h0) rfl rfl hfr (fun hfr => ?_)
  exact zw_vretX (pc := 12) (by decide +kernel) rfl (Nat.le_of_ble_eq_true rfl) (Nat.le_of_ble_eq_true rfl) (hΦ hfr)
def zsA_X7 : List (Nat × Nat) := [(12, 80), (12, 80), (12, 80), (12, 80)]
def zlA_X7 (c : Nat) (L : List (Nat × Nat × Nat)) : List (Nat × Nat × Nat) := ((c, 3, c + 4) :: ((c, 2, c + 3) :: ((c, 1, c + 2) :: ((c, 0, c + 1) :: L))))
def ziA_X7 (c : Nat) (I : zMu) : zMu := I
set_option maxRecDepth 100000 in
theorem ok_X7_init {g : zG} : zKnw g zm_X7_init 7 4 zsA_X7 zlA_X7 ziA_X7 := by
  intro S L I c Φ hS h0 hb hfr hΦ
  have hn : zsA_X7.length = 4 := rfl
  have hc : c < 80000 := by omega
  refine zok_ofX (by decide +kernel) rfl ?_
  have e0 : ((S, zrl L, I) : zWS) = (S ++ [], zrl L, I) := by rw [List.append_nil]
  rw [e0] at hfr ⊢
  show zWP g zm_X7_init (zmoX g zm_X7_init Φ) 0 [(0, .ref c)] [] 0 0 (S ++ [], zrl L, I)
  refine zw_aload_n (pc := 0) (n := 0) (i := 0) 0 (by decide +kernel) rfl rfl ?_
  refine zw_objInit (pc := 1) zlo_7 (by decide +kernel) (by decide) (by decide) rfl ?_
  refine zw_aload_n (pc := 4) (n := 0) (i := 0) 0 (by decide +kernel) rfl rfl ?_
  refine zw_bipush (pc := 5) (n := 80) (by decide +kernel) (by decide +kernel) ?_
  refine zk_newA (pc := 7) (n := 80) rfl (by decide +kernel) hS hc hfr (k := 1) rfl (by decide) (by decide) (Nat.le_of_ble_eq_true rfl) (Nat.le_of_ble_eq_true rfl) (fun hfr => ?_)
  refine zk_putR (pc := 9) zf_7_9 (Or.inr ⟨_, rfl⟩) (by decide +kernel) rfl (zk_at0 hS h0) rfl rfl hfr (fun hfr => ?_)
  refine zw_aload_n (pc := 12) (n := 0) (i := 0) 0 (by decide +kernel) rfl rfl ?_
  refine zw_bipush (pc := 13) (n := 80) (by decide +kernel) (by decide +kernel) ?_
  refine zk_newA (pc := 15) (n := 80) rfl (by decide +kernel) hS hc hfr (k := 2) rfl (by decide) (by decide) (Nat.le_of_ble_eq_true rfl) (Nat.le_of_ble_eq_true rfl) (fun hfr => ?_)
  refine zk_putR (pc := 17) zf_7_15 (Or.inr ⟨_, rfl⟩) (by decide +kernel) rfl (zk_at0 hS h0) rfl rfl hfr (fun hfr => ?_)
  refine zw_aload_n (pc := 20) (n := 0) (i := 0) 0 (by decide +kernel) rfl rfl ?_
  refine zw_bipush (pc := 21) (n := 80) (by decide +kernel) (by decide +kernel) ?_
  refine zk_newA (pc := 23) (n := 80) rfl (by decide +kernel) hS hc hfr (k := 3) rfl (by decide) (by decide) (Nat.le_of_ble_eq_true rfl) (Nat.le_of_ble_eq_true rfl) (fun hfr => ?_)
  refine zk_putR (pc := 25) zf_7_18 (Or.inr ⟨_, rfl⟩) (by decide +kernel) rfl (zk_at0 hS h0) rfl rfl hfr (fun hfr => ?_)
  refine zw_aload_n (pc := 28) (n := 0) (i := 0) 0 (by decide +kernel) rfl rfl ?_
  refine zw_bipush (pc := 29) (n := 80) (by decide +kernel) (by decide +kernel) ?_
  refine zk_newA (pc := 31) (n := 80) rfl (by decide +kernel) hS hc hfr (k := 4) rfl (by decide) (by decide) (Nat.le_of_ble_eq_true rfl) (Nat.le_of_ble_eq_true rfl) (fun hfr => ?_)
  refine zk_putR (pc := 33) zf_7_21 (Or.inr ⟨_, rfl⟩) (by decide +kernel) rfl (zk_at0 hS h0) rfl rfl hfr (fun hfr => ?_)
  exact zw_vretX (pc := 36) (by decide +kernel) rfl (Nat.le_of_ble_eq_true rfl) (Nat.le_of_ble_eq_true rfl) (hΦ hfr)
def zsA_X9 : List (Nat × Nat) := [(15, 9), (12, 80), (12, 80), (12, 80), (12, 80), (12, 80), (12, 80), (12, 80), (12, 80), (12, 80), (15, 9), (12, 80), (12, 80), (12, 80), (12, 80), (12, 80), (12, 80), (12, 80), (12, 80), (12, 80), (12, 80), (12, 80)]
def zlA_X9 (c : Nat) (L : List (Nat × Nat × Nat)) : List (Nat × Nat × Nat) := ((c, 3, c + 22) :: ((c, 2, c + 21) :: ((c, 1, c + 11) :: ((List.range 9).map (fun j => (c + 11, j, c + 11 + 1 + j)) ++ ((c, 0, c + 1) :: ((List.range 9).map (fun j => (c + 1, j, c + 1 + 1 + j)) ++ L))))))
def ziA_X9 (c : Nat) (I : zMu) : zMu := I
set_option maxRecDepth 100000 in
theorem ok_X9_init {g : zG} : zKnw g zm_X9_init 9 9 zsA_X9 zlA_X9 ziA_X9 := by
  intro S L I c Φ hS h0 hb hfr hΦ
  have hn : zsA_X9.length = 22 := rfl
  have hc : c < 80000 := by omega
  refine zok_ofX (by decide +kernel) rfl ?_
  have e0 : ((S, zrl L, I) : zWS) = (S ++ [], zrl L, I) := by rw [List.append_nil]
  rw [e0] at hfr ⊢
  show zWP g zm_X9_init (zmoX g zm_X9_init Φ) 0 [(0, .ref c)] [] 0 0 (S ++ [], zrl L, I)
  refine zw_aload_n (pc := 0) (n := 0) (i := 0) 0 (by decide +kernel) rfl rfl ?_
  refine zw_objInit (pc := 1) zlo_9 (by decide +kernel) (by decide) (by decide) rfl ?_
  refine zw_aload_n (pc := 4) (n := 0) (i := 0) 0 (by decide +kernel) rfl rfl ?_
  refine zw_bipush (pc := 5) (n := 9) (by decide +kernel) (by decide +kernel) ?_
  refine zw_bipush (pc := 7) (n := 80) (by decide +kernel) (by decide +kernel) ?_
  refine zk_newM (pc := 9) (n := 9) (m := 80) (fun s h => h) zcl_9_9 rfl rfl (by decide +kernel) hS hc hfr (k := 1) rfl (by decide) (by decide) (by decide) (Nat.le_of_ble_eq_true rfl) (Nat.le_of_ble_eq_true rfl) (fun hfr => ?_)
  refine zk_putR (pc := 13) zf_9_11 (Or.inr ⟨_, rfl⟩) (by decide +kernel) rfl (zk_at0 hS h0) rfl rfl hfr (fun hfr => ?_)
  refine zw_aload_n (pc := 16) (n := 0) (i := 0) 0 (by decide +kernel) rfl rfl ?_
  refine zw_bipush (pc := 17) (n := 9) (by decide +kernel) (by decide +kernel) ?_
  refine zw_bipush (pc := 19) (n := 80) (by decide +kernel) (by decide +kernel) ?_
  refine zk_newM (pc := 21) (n := 9) (m := 80) (fun s h => h) zcl_9_9 rfl rfl (by decide +kernel) hS hc hfr (k := 11) rfl (by decide) (by decide) (by decide) (Nat.le_of_ble_eq_true rfl) (Nat.le_of_ble_eq_true rfl) (fun hfr => ?_)
  refine zk_putR (pc := 25) zf_9_16 (Or.inr ⟨_, rfl⟩) (by decide +kernel) rfl (zk_at0 hS h0) rfl rfl hfr (fun hfr => ?_)
  refine zw_aload_n (pc := 28) (n := 0) (i := 0) 0 (by decide +kernel) rfl rfl ?_
  refine zw_bipush (pc := 29) (n := 80) (by decide +kernel) (by decide +kernel) ?_
  refine zk_newA (pc := 31) (n := 80) rfl (by decide +kernel) hS hc hfr (k := 21) rfl (by decide) (by decide) (Nat.le_of_ble_eq_true rfl) (Nat.le_of_ble_eq_true rfl) (fun hfr => ?_)
  refine zk_putR (pc := 33) zf_9_19 (Or.inr ⟨_, rfl⟩) (by decide +kernel) rfl (zk_at0 hS h0) rfl rfl hfr (fun hfr => ?_)
  refine zw_aload_n (pc := 36) (n := 0) (i := 0) 0 (by decide +kernel) rfl rfl ?_
  refine zw_bipush (pc := 37) (n := 80) (by decide +kernel) (by decide +kernel) ?_
  refine zk_newA (pc := 39) (n := 80) rfl (by decide +kernel) hS hc hfr (k := 22) rfl (by decide) (by decide) (Nat.le_of_ble_eq_true rfl) (Nat.le_of_ble_eq_true rfl) (fun hfr => ?_)
  refine zk_putR (pc := 41) zf_9_23 (Or.inr ⟨_, rfl⟩) (by decide +kernel) rfl (zk_at0 hS h0) rfl rfl hfr (fun hfr => ?_)
  exact zw_vretX (pc := 44) (by decide +kernel) rfl (Nat.le_of_ble_eq_true rfl) (Nat.le_of_ble_eq_true rfl) (hΦ hfr)
def zsA_X1 : List (Nat × Nat) := [(15, 80), (12, 81), (12, 81), (12, 81), (12, 81), (12, 81), (12, 81), (12, 81), (12, 81), (12, 81), (12, 81), (12, 81), (12, 81), (12, 81), (12, 81), (12, 81), (12, 81), (12, 81), (12, 81), (12, 81), (12, 81), (12, 81), (12, 81), (12, 81), (12, 81), (12, 81), (12, 81), (12, 81), (12, 81), (12, 81), (12, 81), (12, 81), (12, 81), (12, 81), (12, 81), (12, 81), (12, 81), (12, 81), (12, 81), (12, 81), (12, 81), (12, 81), (12, 81), (12, 81), (12, 81), (12, 81), (12, 81), (12, 81), (12, 81), (12, 81), (12, 81), (12, 81), (12, 81), (12, 81), (12, 81), (12, 81), (12, 81), (12, 81), (12, 81), (12, 81), (12, 81), (12, 81), (12, 81), (12, 81), (12, 81), (12, 81), (12, 81), (12, 81), (12, 81), (12, 81), (12, 81), (12, 81), (12, 81), (12, 81), (12, 81), (12, 81), (12, 81), (12, 81), (12, 81), (12, 81), (12, 81), (12, 81), (12, 81), (12, 81)]
def zlA_X1 (c : Nat) (L : List (Nat × Nat × Nat)) : List (Nat × Nat × Nat) := ((c, 3, c + 84) :: ((c, 2, c + 83) :: ((c, 1, c + 82) :: ((c, 0, c + 1) :: ((List.range 80).map (fun j => (c + 1, j, c + 1 + 1 + j)) ++ L)))))
def ziA_X1 (c : Nat) (I : zMu) : zMu := I
set_option maxRecDepth 100000 in
theorem ok_X1_init {g : zG} : zKnw g zm_X1_init 1 10 zsA_X1 zlA_X1 ziA_X1 := by
  intro S L I c Φ hS h0 hb hfr hΦ
  have hn : zsA_X1.length = 84 := rfl
  have hc : c < 80000 := by omega
  refine zok_ofX (by decide +kernel) rfl ?_
  have e0 : ((S, zrl L, I) : zWS) = (S ++ [], zrl L, I) := by rw [List.append_nil]
  rw [e0] at hfr ⊢
  show zWP g zm_X1_init (zmoX g zm_X1_init Φ) 0 [(0, .ref c)] [] 0 0 (S ++ [], zrl L, I)
  refine zw_aload_n (pc := 0) (n := 0) (i := 0) 0 (by decide +kernel) rfl rfl ?_
  refine zw_objInit (pc := 1) zlo_1 (by decide +kernel) (by decide) (by decide) rfl ?_
  refine zw_aload_n (pc := 4) (n := 0) (i := 0) 0 (by decide +kernel) rfl rfl ?_
  refine zw_bipush (pc := 5) (n := 80) (by decide +kernel) (by decide +kernel) ?_
  refine zw_bipush (pc := 7) (n := 81) (by decide +kernel) (by decide +kernel) ?_
  refine zk_newM (pc := 9) (n := 80) (m := 81) (fun s h => h) zcl_1_9 rfl rfl (by decide +kernel) hS hc hfr (k := 1) rfl (by decide) (by decide) (by decide) (Nat.le_of_ble_eq_true rfl) (Nat.le_of_ble_eq_true rfl) (fun hfr => ?_)
  refine zk_putR (pc := 13) zf_1_11 (Or.inr ⟨_, rfl⟩) (by decide +kernel) rfl (zk_at0 hS h0) rfl rfl hfr (fun hfr => ?_)
  refine zw_aload_n (pc := 16) (n := 0) (i := 0) 0 (by decide +kernel) rfl rfl ?_
  refine zw_bipush (pc := 17) (n := 81) (by decide +kernel) (by decide +kernel) ?_
  refine zk_newA (pc := 19) (n := 81) rfl (by decide +kernel) hS hc hfr (k := 82) rfl (by decide) (by decide) (Nat.le_of_ble_eq_true rfl) (Nat.le_of_ble_eq_true rfl) (fun hfr => ?_)
  refine zk_putR (pc := 21) zf_1_16 (Or.inr ⟨_, rfl⟩) (by decide +kernel) rfl (zk_at0 hS h0) rfl rfl hfr (fun hfr => ?_)
  refine zw_aload_n (pc := 24) (n := 0) (i := 0) 0 (by decide +kernel) rfl rfl ?_
  refine zw_bipush (pc := 25) (n := 81) (by decide +kernel) (by decide +kernel) ?_
  refine zk_newA (pc := 27) (n := 81) rfl (by decide +kernel) hS hc hfr (k := 83) rfl (by decide) (by decide) (Nat.le_of_ble_eq_true rfl) (Nat.le_of_ble_eq_true rfl) (fun hfr => ?_)
  refine zk_putR (pc := 29) zf_1_20 (Or.inr ⟨_, rfl⟩) (by decide +kernel) rfl (zk_at0 hS h0) rfl rfl hfr (fun hfr => ?_)
  refine zw_aload_n (pc := 32) (n := 0) (i := 0) 0 (by decide +kernel) rfl rfl ?_
  refine zw_bipush (pc := 33) (n := 81) (by decide +kernel) (by decide +kernel) ?_
  refine zk_newA (pc := 35) (n := 81) rfl (by decide +kernel) hS hc hfr (k := 84) rfl (by decide) (by decide) (Nat.le_of_ble_eq_true rfl) (Nat.le_of_ble_eq_true rfl) (fun hfr => ?_)
  refine zk_putR (pc := 37) zf_1_23 (Or.inr ⟨_, rfl⟩) (by decide +kernel) rfl (zk_at0 hS h0) rfl rfl hfr (fun hfr => ?_)
  exact zw_vretX (pc := 40) (by decide +kernel) rfl (Nat.le_of_ble_eq_true rfl) (Nat.le_of_ble_eq_true rfl) (hΦ hfr)
def zsA_X2 : List (Nat × Nat) := [(12, 199), (12, 1592), (12, 9), (12, 199), (12, 199)]
def zlA_X2 (c : Nat) (L : List (Nat × Nat × Nat)) : List (Nat × Nat × Nat) := ((c, 4, c + 5) :: ((c, 3, c + 4) :: ((c, 2, c + 3) :: ((c, 1, c + 2) :: ((c, 0, c + 1) :: L)))))
def ziA_X2 (c : Nat) (I : zMu) : zMu := (zua I (c + 1) (fun b => if b < 199 then (-2) else I (c + 1) b))
set_option maxRecDepth 100000 in
theorem ok_X2_init {g : zG} : zKnw g zm_X2_init 2 5 zsA_X2 zlA_X2 ziA_X2 := by
  intro S L I c Φ hS h0 hb hfr hΦ
  have hn : zsA_X2.length = 5 := rfl
  have hc : c < 80000 := by omega
  refine zok_ofX (by decide +kernel) rfl ?_
  have e0 : ((S, zrl L, I) : zWS) = (S ++ [], zrl L, I) := by rw [List.append_nil]
  rw [e0] at hfr ⊢
  show zWP g zm_X2_init (zmoX g zm_X2_init Φ) 0 [(0, .ref c)] [] 0 0 (S ++ [], zrl L, I)
  refine zw_aload_n (pc := 0) (n := 0) (i := 0) 0 (by decide +kernel) rfl rfl ?_
  refine zw_objInit (pc := 1) zlo_2 (by decide +kernel) (by decide) (by decide) rfl ?_
  refine zw_aload_n (pc := 4) (n := 0) (i := 0) 0 (by decide +kernel) rfl rfl ?_
  refine zw_sipush (pc := 5) (n := 199) (by decide +kernel) (by decide +kernel) ?_
  refine zk_newA (pc := 8) (n := 199) rfl (by decide +kernel) hS hc hfr (k := 1) rfl (by decide) (by decide) (Nat.le_of_ble_eq_true rfl) (Nat.le_of_ble_eq_true rfl) (fun hfr => ?_)
  refine zk_putR (pc := 10) zf_2_9 (Or.inr ⟨_, rfl⟩) (by decide +kernel) rfl (zk_at0 hS h0) rfl rfl hfr (fun hfr => ?_)
  refine zw_aload_n (pc := 13) (n := 0) (i := 0) 0 (by decide +kernel) rfl rfl ?_
  refine zw_sipush (pc := 14) (n := 1592) (by decide +kernel) (by decide +kernel) ?_
  refine zk_newA (pc := 17) (n := 1592) rfl (by decide +kernel) hS hc hfr (k := 2) rfl (by decide) (by decide) (Nat.le_of_ble_eq_true rfl) (Nat.le_of_ble_eq_true rfl) (fun hfr => ?_)
  refine zk_putR (pc := 19) zf_2_15 (Or.inr ⟨_, rfl⟩) (by decide +kernel) rfl (zk_at0 hS h0) rfl rfl hfr (fun hfr => ?_)
  refine zw_aload_n (pc := 22) (n := 0) (i := 0) 0 (by decide +kernel) rfl rfl ?_
  refine zw_bipush (pc := 23) (n := 9) (by decide +kernel) (by decide +kernel) ?_
  refine zk_newA (pc := 25) (n := 9) rfl (by decide +kernel) hS hc hfr (k := 3) rfl (by decide) (by decide) (Nat.le_of_ble_eq_true rfl) (Nat.le_of_ble_eq_true rfl) (fun hfr => ?_)
  refine zk_putR (pc := 27) zf_2_18 (Or.inr ⟨_, rfl⟩) (by decide +kernel) rfl (zk_at0 hS h0) rfl rfl hfr (fun hfr => ?_)
  refine zw_aload_n (pc := 30) (n := 0) (i := 0) 0 (by decide +kernel) rfl rfl ?_
  refine zw_sipush (pc := 31) (n := 199) (by decide +kernel) (by decide +kernel) ?_
  refine zk_newA (pc := 34) (n := 199) rfl (by decide +kernel) hS hc hfr (k := 4) rfl (by decide) (by decide) (Nat.le_of_ble_eq_true rfl) (Nat.le_of_ble_eq_true rfl) (fun hfr => ?_)
  refine zk_putR (pc := 36) zf_2_21 (Or.inr ⟨_, rfl⟩) (by decide +kernel) rfl (zk_at0 hS h0) rfl rfl hfr (fun hfr => ?_)
  refine zw_aload_n (pc := 39) (n := 0) (i := 0) 0 (by decide +kernel) rfl rfl ?_
  refine zw_sipush (pc := 40) (n := 199) (by decide +kernel) (by decide +kernel) ?_
  refine zk_newA (pc := 43) (n := 199) rfl (by decide +kernel) hS hc hfr (k := 5) rfl (by decide) (by decide) (Nat.le_of_ble_eq_true rfl) (Nat.le_of_ble_eq_true rfl) (fun hfr => ?_)
  refine zk_putR (pc := 45) zf_2_24 (Or.inr ⟨_, rfl⟩) (by decide +kernel) rfl (zk_at0 hS h0) rfl rfl hfr (fun hfr => ?_)
  refine zw_aload_n (pc := 48) (n := 0) (i := 0) 0 (by decide +kernel) rfl rfl ?_
  refine zw_getR (pc := 49) (r := c + 1) zf_2_9 (by decide +kernel) rfl (zk_at0 hS h0) (by simp [zrl, zlA_X3, zlA_X6]) ?_
  refine zw_bipush (pc := 52) (n := (-2)) (by decide +kernel) (by decide +kernel) ?_
  refine zk_fill (pc := 54) (n := 199) zl_2_27 (by decide +kernel) ⟨Nat.le_of_ble_eq_true rfl, Nat.le_of_ble_eq_true rfl⟩ (zk_at hS (j := 0) rfl rfl) (by decide) rfl (Nat.le_of_ble_eq_true rfl) (Nat.le_of_ble_eq_true rfl) hfr (fun hfr => ?_)
  exact zw_vretX (pc := 57) (by decide +kernel) rfl (Nat.le_of_ble_eq_true rfl) (Nat.le_of_ble_eq_true rfl) (hΦ hfr)
def zsA_X8 : List (Nat × Nat) := [(12, 100)]
def zlA_X8 (c : Nat) (L : List (Nat × Nat × Nat)) : List (Nat × Nat × Nat) := ((c, 0, c + 1) :: L)
def ziA_X8 (c : Nat) (I : zMu) : zMu := I
set_option maxRecDepth 100000 in
theorem ok_X8_init {g : zG} : zKnw g zm_X8_init 8 4 zsA_X8 zlA_X8 ziA_X8 := by
  intro S L I c Φ hS h0 hb hfr hΦ
  have hn : zsA_X8.length = 1 := rfl
  have hc : c < 80000 := by omega
  refine zok_ofX (by decide +kernel) rfl ?_
  have e0 : ((S, zrl L, I) : zWS) = (S ++ [], zrl L, I) := by rw [List.append_nil]
  rw [e0] at hfr ⊢
  show zWP g zm_X8_init (zmoX g zm_X8_init Φ) 0 [(0, .ref c)] [] 0 0 (S ++ [], zrl L, I)
  refine zw_aload_n (pc := 0) (n := 0) (i := 0) 0 (by decide +kernel) rfl rfl ?_
  refine zw_objInit (pc := 1) zlo_8 (by decide +kernel) (by decide) (by decide) rfl ?_
  refine zw_aload_n (pc := 4) (n := 0) (i := 0) 0 (by decide +kernel) rfl rfl ?_
  refine zw_bipush (pc := 5) (n := 100) (by decide +kernel) (by decide +kernel) ?_
  refine zk_newA (pc := 7) (n := 100) rfl (by decide +kernel) hS hc hfr (k := 1) rfl (by decide) (by decide) (Nat.le_of_ble_eq_true rfl) (Nat.le_of_ble_eq_true rfl) (fun hfr => ?_)
  refine zk_putR (pc := 9) zf_8_9 (Or.inr ⟨_, rfl⟩) (by decide +kernel) rfl (zk_at0 hS h0) rfl rfl hfr (fun hfr => ?_)
  exact zw_vretX (pc := 12) (by decide +kernel) rfl (Nat.le_of_ble_eq_true rfl) (Nat.le_of_ble_eq_true rfl) (hΦ hfr)
def zsA_X5 : List (Nat × Nat) := [(12, 100), (12, 400)]
def zlA_X5 (c : Nat) (L : List (Nat × Nat × Nat)) : List (Nat × Nat × Nat) := ((c, 1, c + 2) :: ((c, 0, c + 1) :: L))
def ziA_X5 (c : Nat) (I : zMu) : zMu := I
set_option maxRecDepth 100000 in
theorem ok_X5_init {g : zG} : zKnw g zm_X5_init 5 3 zsA_X5 zlA_X5 ziA_X5 := by
  intro S L I c Φ hS h0 hb hfr hΦ
  have hn : zsA_X5.length = 2 := rfl
  have hc : c < 80000 := by omega
  refine zok_ofX (by decide +kernel) rfl ?_
  have e0 : ((S, zrl L, I) : zWS) = (S ++ [], zrl L, I) := by rw [List.append_nil]
  rw [e0] at hfr ⊢
  show zWP g zm_X5_init (zmoX g zm_X5_init Φ) 0 [(0, .ref c)] [] 0 0 (S ++ [], zrl L, I)
  refine zw_aload_n (pc := 0) (n := 0) (i := 0) 0 (by decide +kernel) rfl rfl ?_
  refine zw_objInit (pc := 1) zlo_5 (by decide +kernel) (by decide) (by decide) rfl ?_
  refine zw_aload_n (pc := 4) (n := 0) (i := 0) 0 (by decide +kernel) rfl rfl ?_
  refine zw_bipush (pc := 5) (n := 100) (by decide +kernel) (by decide +kernel) ?_
  refine zk_newA (pc := 7) (n := 100) rfl (by decide +kernel) hS hc hfr (k := 1) rfl (by decide) (by decide) (Nat.le_of_ble_eq_true rfl) (Nat.le_of_ble_eq_true rfl) (fun hfr => ?_)
  refine zk_putR (pc := 9) zf_5_9 (Or.inr ⟨_, rfl⟩) (by decide +kernel) rfl (zk_at0 hS h0) rfl rfl hfr (fun hfr => ?_)
  refine zw_aload_n (pc := 12) (n := 0) (i := 0) 0 (by decide +kernel) rfl rfl ?_
  refine zw_sipush (pc := 13) (n := 400) (by decide +kernel) (by decide +kernel) ?_
  refine zk_newA (pc := 16) (n := 400) rfl (by decide +kernel) hS hc hfr (k := 2) rfl (by decide) (by decide) (Nat.le_of_ble_eq_true rfl) (Nat.le_of_ble_eq_true rfl) (fun hfr => ?_)
  refine zk_putR (pc := 18) zf_5_15 (Or.inr ⟨_, rfl⟩) (by decide +kernel) rfl (zk_at0 hS h0) rfl rfl hfr (fun hfr => ?_)
  exact zw_vretX (pc := 21) (by decide +kernel) rfl (Nat.le_of_ble_eq_true rfl) (Nat.le_of_ble_eq_true rfl) (hΦ hfr)
def zsA_X4 : List (Nat × Nat) := [(3, 2), (12, 81), (12, 648)]
def zlA_X4 (c : Nat) (L : List (Nat × Nat × Nat)) : List (Nat × Nat × Nat) := ((c, 1, c + 3) :: ((c, 0, c + 1) :: (zlA_X3 (c + 1) L)))
def ziA_X4 (c : Nat) (I : zMu) : zMu := (ziA_X3 (c + 1) I)
set_option maxRecDepth 100000 in
theorem ok_X4_init {g : zG} : zKnw g zm_X4_init 4 3 zsA_X4 zlA_X4 ziA_X4 := by
  intro S L I c Φ hS h0 hb hfr hΦ
  have hn : zsA_X4.length = 3 := rfl
  have hc : c < 80000 := by omega
  refine zok_ofX (by decide +kernel) rfl ?_
  have e0 : ((S, zrl L, I) : zWS) = (S ++ [], zrl L, I) := by rw [List.append_nil]
  rw [e0] at hfr ⊢
  show zWP g zm_X4_init (zmoX g zm_X4_init Φ) 0 [(0, .ref c)] [] 0 0 (S ++ [], zrl L, I)
  refine zw_aload_n (pc := 0) (n := 0) (i := 0) 0 (by decide +kernel) rfl rfl ?_
  refine zw_objInit (pc := 1) zlo_4 (by decide +kernel) (by decide) (by decide) rfl ?_
  refine zw_aload_n (pc := 4) (n := 0) (i := 0) 0 (by decide +kernel) rfl rfl ?_
  refine zk_new (pc := 5) znb_3 zcl_4_9 zins_3 zi_X3_init.1 (by decide +kernel) hS hc hfr (k := 1) rfl (by decide) (Nat.le_of_ble_eq_true rfl) (Nat.le_of_ble_eq_true rfl) (fun hfr => ?_)
  refine zw_dup (pc := 8) (by decide +kernel) rfl ?_
  refine zk_callN (pc := 9) (j := 0) ok_X3_init (fun s h => h) zi_X3_init rfl zii_X3_init zn_4_11 rfl (by decide +kernel) ⟨Nat.le_of_ble_eq_true rfl, Nat.le_of_ble_eq_true rfl⟩ rfl (Nat.le_of_ble_eq_true rfl) (Nat.le_of_ble_eq_true rfl) hS (by have : zsA_X3.length = 1 := rfl; omega) rfl rfl rfl hfr (fun hfr => ?_)
  refine zk_putR (pc := 12) zf_4_12 (Or.inl ⟨_, rfl⟩) (by decide +kernel) rfl (zk_at0 hS h0) rfl rfl hfr (fun hfr => ?_)
  refine zw_aload_n (pc := 15) (n := 0) (i := 0) 0 (by decide +kernel) rfl rfl ?_
  refine zw_sipush (pc := 16) (n := 648) (by decide +kernel) (by decide +kernel) ?_
  refine zk_newA (pc := 19) (n := 648) rfl (by decide +kernel) hS hc hfr (k := 3) rfl (by decide) (by decide) (Nat.le_of_ble_eq_true rfl) (Nat.le_of_ble_eq_true rfl) (fun hfr => ?_)
  refine zk_putR (pc := 21) zf_4_18 (Or.inr ⟨_, rfl⟩) (by decide +kernel) rfl (zk_at0 hS h0) rfl rfl hfr (fun hfr => ?_)
  exact zw_vretX (pc := 24) (by decide +kernel) rfl (Nat.le_of_ble_eq_true rfl) (Nat.le_of_ble_eq_true rfl) (hΦ hfr)
