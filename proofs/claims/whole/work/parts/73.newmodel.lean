def zsA_X11 : List (Nat × Nat) := [(12, 6), (12, 6), (12, 480), (12, 81), (12, 664), (12, 80), (12, 80), (12, 80), (12, 720), (12, 720), (12, 80), (12, 6400), (12, 6480), (12, 80), (12, 81), (12, 81), (12, 9), (12, 8), (12, 200), (12, 100), (12, 47), (12, 9), (12, 500), (12, 81), (12, 729), (12, 4), (12, 320), (12, 6), (12, 6), (12, 480), (12, 81), (12, 664)]
def zlA_X11 (c : Nat) (L : List (Nat × Nat × Nat)) : List (Nat × Nat × Nat) := ((c, 49, c + 32) :: ((c, 48, c + 31) :: ((c, 47, c + 30) :: ((c, 46, c + 29) :: ((c, 45, c + 28) :: ((c, 41, c + 27) :: ((c, 40, c + 26) :: ((c, 38, c + 25) :: ((c, 36, c + 24) :: ((c, 35, c + 23) :: ((c, 34, c + 22) :: ((c, 33, c + 21) :: ((c, 30, c + 20) :: ((c, 29, c + 19) :: ((c, 27, c + 18) :: ((c, 26, c + 17) :: ((c, 25, c + 16) :: ((c, 23, c + 15) :: ((c, 21, c + 14) :: ((c, 20, c + 13) :: ((c, 19, c + 12) :: ((c, 18, c + 11) :: ((c, 13, c + 10) :: ((c, 12, c + 9) :: ((c, 11, c + 8) :: ((c, 10, c + 7) :: ((c, 9, c + 6) :: ((c, 6, c + 5) :: ((c, 5, c + 4) :: ((c, 3, c + 3) :: ((c, 2, c + 2) :: ((c, 1, c + 1) :: L))))))))))))))))))))))))))))))))
def ziA_X11 (c : Nat) (I : zMu) : zMu := (zup (zup (zup (zup (zup (zup (zup (zup (zup (zup (zup (zup (zup (zup (zup (zup (zup (zup (zup (zup (zup (zup (zup (zup (zup (zup (zup (zup (zup (zup (zup (zup (zup (zup (zup (zup (zup (zup (zup (zup (zup (zup (zup (zup (zup (zup (zup (zup (zup (zup (zup (zup (zup (zup (zup (zup (zup (zup (zup (zup (zup I c 0 101) (c + 21) 0 112) (c + 21) 1 114) (c + 21) 2 105) (c + 21) 3 109) (c + 21) 4 101) (c + 21) 5 32) (c + 21) 6 106) (c + 21) 7 32) (c + 21) 8 115) (c + 21) 9 117) (c + 21) 10 109) (c + 21) 11 32) (c + 21) 12 116) (c + 21) 13 105) (c + 21) 14 109) (c + 21) 15 101) (c + 21) 16 115) (c + 21) 17 32) (c + 21) 18 115) (c + 21) 19 116) (c + 21) 20 114) (c + 21) 21 101) (c + 21) 22 116) (c + 21) 23 99) (c + 21) 24 104) (c + 21) 25 32) (c + 21) 26 111) (c + 21) 27 118) (c + 21) 28 101) (c + 21) 29 114) (c + 21) 30 32) (c + 21) 31 112) (c + 21) 32 111) (c + 21) 33 119) (c + 21) 34 101) (c + 21) 35 114) (c + 21) 36 32) (c + 21) 37 102) (c + 21) 38 105) (c + 21) 39 110) (c + 21) 40 100) (c + 21) 41 32) (c + 21) 42 107) (c + 21) 43 101) (c + 21) 44 101) (c + 21) 45 112) (c + 21) 46 32) (c + 22) 0 1) (c + 22) 1 2) (c + 22) 2 3) (c + 22) 3 3) (c + 22) 4 3) (c + 22) 5 2) (c + 22) 6 3) (c + 22) 7 4) (c + 22) 8 1) (c + 26) 0 (-1)) (c + 26) 1 (-1)) (c + 26) 2 (-1)) (c + 26) 3 (-1))
set_option maxRecDepth 100000 in
theorem ok_X11_init {g : zG} : zKnw g zm_X11_init 11 50 zsA_X11 zlA_X11 ziA_X11 := by
  intro S L I c Φ hS h0 hb hfr hΦ
  have hn : zsA_X11.length = 32 := rfl
  have hc : c < 80000 := by omega
  refine zok_ofX (by decide +kernel) rfl ?_
  have e0 : ((S, zrl L, I) : zWS) = (S ++ [], zrl L, I) := by rw [List.append_nil]
  rw [e0] at hfr ⊢
  show zWP g zm_X11_init (zmoX g zm_X11_init Φ) 0 [(0, .ref c)] [] 0 0 (S ++ [], zrl L, I)
  refine zw_aload_n (pc := 0) (n := 0) (i := 0) 0 (by decide +kernel) rfl rfl ?_
  refine zw_objInit (pc := 1) zlo_11 (by decide +kernel) (by decide) (by decide) rfl ?_
  refine zw_aload_n (pc := 4) (n := 0) (i := 0) 0 (by decide +kernel) rfl rfl ?_
  refine zw_bipush (pc := 5) (n := 101) (by decide +kernel) (by decide +kernel) ?_
  refine zk_putI (pc := 7) zf_11_9 (by decide +kernel) rfl (zk_at0 hS h0) hfr (fun hfr => ?_)
  refine zw_aload_n (pc := 10) (n := 0) (i := 0) 0 (by decide +kernel) rfl rfl ?_
  refine zw_bipush (pc := 11) (n := 6) (by decide +kernel) (by decide +kernel) ?_
  refine zk_newA (pc := 13) (n := 6) rfl (by decide +kernel) hS hc hfr (k := 1) rfl (by decide) (by decide) (Nat.le_of_ble_eq_true rfl) (Nat.le_of_ble_eq_true rfl) (fun hfr => ?_)
  refine zk_putR (pc := 15) zf_11_15 (Or.inr ⟨_, rfl⟩) (by decide +kernel) rfl (zk_at0 hS h0) rfl rfl hfr (fun hfr => ?_)
  refine zw_aload_n (pc := 18) (n := 0) (i := 0) 0 (by decide +kernel) rfl rfl ?_
  refine zw_bipush (pc := 19) (n := 6) (by decide +kernel) (by decide +kernel) ?_
  refine zk_newA (pc := 21) (n := 6) rfl (by decide +kernel) hS hc hfr (k := 2) rfl (by decide) (by decide) (Nat.le_of_ble_eq_true rfl) (Nat.le_of_ble_eq_true rfl) (fun hfr => ?_)
  refine zk_putR (pc := 23) zf_11_19 (Or.inr ⟨_, rfl⟩) (by decide +kernel) rfl (zk_at0 hS h0) rfl rfl hfr (fun hfr => ?_)
  refine zw_aload_n (pc := 26) (n := 0) (i := 0) 0 (by decide +kernel) rfl rfl ?_
  refine zw_sipush (pc := 27) (n := 480) (by decide +kernel) (by decide +kernel) ?_
  refine zk_newA (pc := 30) (n := 480) rfl (by decide +kernel) hS hc hfr (k := 3) rfl (by decide) (by decide) (Nat.le_of_ble_eq_true rfl) (Nat.le_of_ble_eq_true rfl) (fun hfr => ?_)
  refine zk_putR (pc := 32) zf_11_22 (Or.inr ⟨_, rfl⟩) (by decide +kernel) rfl (zk_at0 hS h0) rfl rfl hfr (fun hfr => ?_)
  refine zw_aload_n (pc := 35) (n := 0) (i := 0) 0 (by decide +kernel) rfl rfl ?_
  refine zw_bipush (pc := 36) (n := 81) (by decide +kernel) (by decide +kernel) ?_
  refine zk_newA (pc := 38) (n := 81) rfl (by decide +kernel) hS hc hfr (k := 4) rfl (by decide) (by decide) (Nat.le_of_ble_eq_true rfl) (Nat.le_of_ble_eq_true rfl) (fun hfr => ?_)
  refine zk_putR (pc := 40) zf_11_25 (Or.inr ⟨_, rfl⟩) (by decide +kernel) rfl (zk_at0 hS h0) rfl rfl hfr (fun hfr => ?_)
  refine zw_aload_n (pc := 43) (n := 0) (i := 0) 0 (by decide +kernel) rfl rfl ?_
  refine zw_sipush (pc := 44) (n := 664) (by decide +kernel) (by decide +kernel) ?_
  refine zk_newA (pc := 47) (n := 664) rfl (by decide +kernel) hS hc hfr (k := 5) rfl (by decide) (by decide) (Nat.le_of_ble_eq_true rfl) (Nat.le_of_ble_eq_true rfl) (fun hfr => ?_)
  refine zk_putR (pc := 49) zf_11_28 (Or.inr ⟨_, rfl⟩) (by decide +kernel) rfl (zk_at0 hS h0) rfl rfl hfr (fun hfr => ?_)
  refine zw_aload_n (pc := 52) (n := 0) (i := 0) 0 (by decide +kernel) rfl rfl ?_
  refine zw_bipush (pc := 53) (n := 80) (by decide +kernel) (by decide +kernel) ?_
  refine zk_newA (pc := 55) (n := 80) rfl (by decide +kernel) hS hc hfr (k := 6) rfl (by decide) (by decide) (Nat.le_of_ble_eq_true rfl) (Nat.le_of_ble_eq_true rfl) (fun hfr => ?_)
  refine zk_putR (pc := 57) zf_11_31 (Or.inr ⟨_, rfl⟩) (by decide +kernel) rfl (zk_at0 hS h0) rfl rfl hfr (fun hfr => ?_)
  refine zw_aload_n (pc := 60) (n := 0) (i := 0) 0 (by decide +kernel) rfl rfl ?_
  refine zw_bipush (pc := 61) (n := 80) (by decide +kernel) (by decide +kernel) ?_
  refine zk_newA (pc := 63) (n := 80) rfl (by decide +kernel) hS hc hfr (k := 7) rfl (by decide) (by decide) (Nat.le_of_ble_eq_true rfl) (Nat.le_of_ble_eq_true rfl) (fun hfr => ?_)
  refine zk_putR (pc := 65) zf_11_34 (Or.inr ⟨_, rfl⟩) (by decide +kernel) rfl (zk_at0 hS h0) rfl rfl hfr (fun hfr => ?_)
  refine zw_aload_n (pc := 68) (n := 0) (i := 0) 0 (by decide +kernel) rfl rfl ?_
  refine zw_bipush (pc := 69) (n := 80) (by decide +kernel) (by decide +kernel) ?_
  refine zk_newA (pc := 71) (n := 80) rfl (by decide +kernel) hS hc hfr (k := 8) rfl (by decide) (by decide) (Nat.le_of_ble_eq_true rfl) (Nat.le_of_ble_eq_true rfl) (fun hfr => ?_)
  refine zk_putR (pc := 73) zf_11_37 (Or.inr ⟨_, rfl⟩) (by decide +kernel) rfl (zk_at0 hS h0) rfl rfl hfr (fun hfr => ?_)
  refine zw_aload_n (pc := 76) (n := 0) (i := 0) 0 (by decide +kernel) rfl rfl ?_
  refine zw_sipush (pc := 77) (n := 720) (by decide +kernel) (by decide +kernel) ?_
  refine zk_newA (pc := 80) (n := 720) rfl (by decide +kernel) hS hc hfr (k := 9) rfl (by decide) (by decide) (Nat.le_of_ble_eq_true rfl) (Nat.le_of_ble_eq_true rfl) (fun hfr => ?_)
  refine zk_putR (pc := 82) zf_11_40 (Or.inr ⟨_, rfl⟩) (by decide +kernel) rfl (zk_at0 hS h0) rfl rfl hfr (fun hfr => ?_)
  refine zw_aload_n (pc := 85) (n := 0) (i := 0) 0 (by decide +kernel) rfl rfl ?_
  refine zw_sipush (pc := 86) (n := 720) (by decide +kernel) (by decide +kernel) ?_
  refine zk_newA (pc := 89) (n := 720) rfl (by decide +kernel) hS hc hfr (k := 10) rfl (by decide) (by decide) (Nat.le_of_ble_eq_true rfl) (Nat.le_of_ble_eq_true rfl) (fun hfr => ?_)
  refine zk_putR (pc := 91) zf_11_43 (Or.inr ⟨_, rfl⟩) (by decide +kernel) rfl (zk_at0 hS h0) rfl rfl hfr (fun hfr => ?_)
  refine zw_aload_n (pc := 94) (n := 0) (i := 0) 0 (by decide +kernel) rfl rfl ?_
  refine zw_bipush (pc := 95) (n := 80) (by decide +kernel) (by decide +kernel) ?_
  refine zk_newA (pc := 97) (n := 80) rfl (by decide +kernel) hS hc hfr (k := 11) rfl (by decide) (by decide) (Nat.le_of_ble_eq_true rfl) (Nat.le_of_ble_eq_true rfl) (fun hfr => ?_)
  refine zk_putR (pc := 99) zf_11_46 (Or.inr ⟨_, rfl⟩) (by decide +kernel) rfl (zk_at0 hS h0) rfl rfl hfr (fun hfr => ?_)
  refine zw_aload_n (pc := 102) (n := 0) (i := 0) 0 (by decide +kernel) rfl rfl ?_
  refine zw_sipush (pc := 103) (n := 6400) (by decide +kernel) (by decide +kernel) ?_
  refine zk_newA (pc := 106) (n := 6400) rfl (by decide +kernel) hS hc hfr (k := 12) rfl (by decide) (by decide) (Nat.le_of_ble_eq_true rfl) (Nat.le_of_ble_eq_true rfl) (fun hfr => ?_)
  refine zk_putR (pc := 108) zf_11_49 (Or.inr ⟨_, rfl⟩) (by decide +kernel) rfl (zk_at0 hS h0) rfl rfl hfr (fun hfr => ?_)
  refine zw_aload_n (pc := 111) (n := 0) (i := 0) 0 (by decide +kernel) rfl rfl ?_
  refine zw_sipush (pc := 112) (n := 6480) (by decide +kernel) (by decide +kernel) ?_
  refine zk_newA (pc := 115) (n := 6480) rfl (by decide +kernel) hS hc hfr (k := 13) rfl (by decide) (by decide) (Nat.le_of_ble_eq_true rfl) (Nat.le_of_ble_eq_true rfl) (fun hfr => ?_)
  refine zk_putR (pc := 117) zf_11_52 (Or.inr ⟨_, rfl⟩) (by decide +kernel) rfl (zk_at0 hS h0) rfl rfl hfr (fun hfr => ?_)
  refine zw_aload_n (pc := 120) (n := 0) (i := 0) 0 (by decide +kernel) rfl rfl ?_
  refine zw_bipush (pc := 121) (n := 80) (by decide +kernel) (by decide +kernel) ?_
  refine zk_newA (pc := 123) (n := 80) rfl (by decide +kernel) hS hc hfr (k := 14) rfl (by decide) (by decide) (Nat.le_of_ble_eq_true rfl) (Nat.le_of_ble_eq_true rfl) (fun hfr => ?_)
  refine zk_putR (pc := 125) zf_11_55 (Or.inr ⟨_, rfl⟩) (by decide +kernel) rfl (zk_at0 hS h0) rfl rfl hfr (fun hfr => ?_)
  refine zw_aload_n (pc := 128) (n := 0) (i := 0) 0 (by decide +kernel) rfl rfl ?_
  refine zw_bipush (pc := 129) (n := 81) (by decide +kernel) (by decide +kernel) ?_
  refine zk_newA (pc := 131) (n := 81) rfl (by decide +kernel) hS hc hfr (k := 15) rfl (by decide) (by decide) (Nat.le_of_ble_eq_true rfl) (Nat.le_of_ble_eq_true rfl) (fun hfr => ?_)
  refine zk_putR (pc := 133) zf_11_58 (Or.inr ⟨_, rfl⟩) (by decide +kernel) rfl (zk_at0 hS h0) rfl rfl hfr (fun hfr => ?_)
  refine zw_aload_n (pc := 136) (n := 0) (i := 0) 0 (by decide +kernel) rfl rfl ?_
  refine zw_bipush (pc := 137) (n := 81) (by decide +kernel) (by decide +kernel) ?_
  refine zk_newA (pc := 139) (n := 81) rfl (by decide +kernel) hS hc hfr (k := 16) rfl (by decide) (by decide) (Nat.le_of_ble_eq_true rfl) (Nat.le_of_ble_eq_true rfl) (fun hfr => ?_)
  refine zk_putR (pc := 141) zf_11_61 (Or.inr ⟨_, rfl⟩) (by decide +kernel) rfl (zk_at0 hS h0) rfl rfl hfr (fun hfr => ?_)
  refine zw_aload_n (pc := 144) (n := 0) (i := 0) 0 (by decide +kernel) rfl rfl ?_
  refine zw_bipush (pc := 145) (n := 9) (by decide +kernel) (by decide +kernel) ?_
  refine zk_newA (pc := 147) (n := 9) rfl (by decide +kernel) hS hc hfr (k := 17) rfl (by decide) (by decide) (Nat.le_of_ble_eq_true rfl) (Nat.le_of_ble_eq_true rfl) (fun hfr => ?_)
  refine zk_putR (pc := 149) zf_11_64 (Or.inr ⟨_, rfl⟩) (by decide +kernel) rfl (zk_at0 hS h0) rfl rfl hfr (fun hfr => ?_)
  refine zw_aload_n (pc := 152) (n := 0) (i := 0) 0 (by decide +kernel) rfl rfl ?_
  refine zw_bipush (pc := 153) (n := 8) (by decide +kernel) (by decide +kernel) ?_
  refine zk_newA (pc := 155) (n := 8) rfl (by decide +kernel) hS hc hfr (k := 18) rfl (by decide) (by decide) (Nat.le_of_ble_eq_true rfl) (Nat.le_of_ble_eq_true rfl) (fun hfr => ?_)
  refine zk_putR (pc := 157) zf_11_67 (Or.inr ⟨_, rfl⟩) (by decide +kernel) rfl (zk_at0 hS h0) rfl rfl hfr (fun hfr => ?_)
  refine zw_aload_n (pc := 160) (n := 0) (i := 0) 0 (by decide +kernel) rfl rfl ?_
  refine zw_sipush (pc := 161) (n := 200) (by decide +kernel) (by decide +kernel) ?_
  refine zk_newA (pc := 164) (n := 200) rfl (by decide +kernel) hS hc hfr (k := 19) rfl (by decide) (by decide) (Nat.le_of_ble_eq_true rfl) (Nat.le_of_ble_eq_true rfl) (fun hfr => ?_)
  refine zk_putR (pc := 166) zf_11_70 (Or.inr ⟨_, rfl⟩) (by decide +kernel) rfl (zk_at0 hS h0) rfl rfl hfr (fun hfr => ?_)
  refine zw_aload_n (pc := 169) (n := 0) (i := 0) 0 (by decide +kernel) rfl rfl ?_
  refine zw_bipush (pc := 170) (n := 100) (by decide +kernel) (by decide +kernel) ?_
  refine zk_newA (pc := 172) (n := 100) rfl (by decide +kernel) hS hc hfr (k := 20) rfl (by decide) (by decide) (Nat.le_of_ble_eq_true rfl) (Nat.le_of_ble_eq_true rfl) (fun hfr => ?_)
  refine zk_putR (pc := 174) zf_11_73 (Or.inr ⟨_, rfl⟩) (by decide +kernel) rfl (zk_at0 hS h0) rfl rfl hfr (fun hfr => ?_)
  refine zw_aload_n (pc := 177) (n := 0) (i := 0) 0 (by decide +kernel) rfl rfl ?_
  refine zw_bipush (pc := 178) (n := 47) (by decide +kernel) (by decide +kernel) ?_
  refine zk_newA (pc := 180) (n := 47) rfl (by decide +kernel) hS hc hfr (k := 21) rfl (by decide) (by decide) (Nat.le_of_ble_eq_true rfl) (Nat.le_of_ble_eq_true rfl) (fun hfr => ?_)
  refine zw_dup (pc := 182) (by decide +kernel) rfl ?_
  refine zw_iconst (pc := 183) (n := 0) (by decide +kernel) ?_
  refine zw_bipush (pc := 184) (n := 112) (by decide +kernel) (by decide +kernel) ?_
  refine zk_iastore (pc := 186) (n := 47) (j := 0) (by decide +kernel) (zk_at hS (j := 20) rfl rfl) rfl (by decide) (by decide) hfr (fun hfr => ?_)
  refine zw_dup (pc := 187) (by decide +kernel) rfl ?_
  refine zw_iconst (pc := 188) (n := 1) (by decide +kernel) ?_
  refine zw_bipush (pc := 189) (n := 114) (by decide +kernel) (by decide +kernel) ?_
  refine zk_iastore (pc := 191) (n := 47) (j := 1) (by decide +kernel) (zk_at hS (j := 20) rfl rfl) rfl (by decide) (by decide) hfr (fun hfr => ?_)
  refine zw_dup (pc := 192) (by decide +kernel) rfl ?_
  refine zw_iconst (pc := 193) (n := 2) (by decide +kernel) ?_
  refine zw_bipush (pc := 194) (n := 105) (by decide +kernel) (by decide +kernel) ?_
  refine zk_iastore (pc := 196) (n := 47) (j := 2) (by decide +kernel) (zk_at hS (j := 20) rfl rfl) rfl (by decide) (by decide) hfr (fun hfr => ?_)
  refine zw_dup (pc := 197) (by decide +kernel) rfl ?_
  refine zw_iconst (pc := 198) (n := 3) (by decide +kernel) ?_
  refine zw_bipush (pc := 199) (n := 109) (by decide +kernel) (by decide +kernel) ?_
  refine zk_iastore (pc := 201) (n := 47) (j := 3) (by decide +kernel) (zk_at hS (j := 20) rfl rfl) rfl (by decide) (by decide) hfr (fun hfr => ?_)
  refine zw_dup (pc := 202) (by decide +kernel) rfl ?_
  refine zw_iconst (pc := 203) (n := 4) (by decide +kernel) ?_
  refine zw_bipush (pc := 204) (n := 101) (by decide +kernel) (by decide +kernel) ?_
  refine zk_iastore (pc := 206) (n := 47) (j := 4) (by decide +kernel) (zk_at hS (j := 20) rfl rfl) rfl (by decide) (by decide) hfr (fun hfr => ?_)
  refine zw_dup (pc := 207) (by decide +kernel) rfl ?_
  refine zw_iconst (pc := 208) (n := 5) (by decide +kernel) ?_
  refine zw_bipush (pc := 209) (n := 32) (by decide +kernel) (by decide +kernel) ?_
  refine zk_iastore (pc := 211) (n := 47) (j := 5) (by decide +kernel) (zk_at hS (j := 20) rfl rfl) rfl (by decide) (by decide) hfr (fun hfr => ?_)
  refine zw_dup (pc := 212) (by decide +kernel) rfl ?_
  refine zw_bipush (pc := 213) (n := 6) (by decide +kernel) (by decide +kernel) ?_
  refine zw_bipush (pc := 215) (n := 106) (by decide +kernel) (by decide +kernel) ?_
  refine zk_iastore (pc := 217) (n := 47) (j := 6) (by decide +kernel) (zk_at hS (j := 20) rfl rfl) rfl (by decide) (by decide) hfr (fun hfr => ?_)
  refine zw_dup (pc := 218) (by decide +kernel) rfl ?_
  refine zw_bipush (pc := 219) (n := 7) (by decide +kernel) (by decide +kernel) ?_
  refine zw_bipush (pc := 221) (n := 32) (by decide +kernel) (by decide +kernel) ?_
  refine zk_iastore (pc := 223) (n := 47) (j := 7) (by decide +kernel) (zk_at hS (j := 20) rfl rfl) rfl (by decide) (by decide) hfr (fun hfr => ?_)
  refine zw_dup (pc := 224) (by decide +kernel) rfl ?_
  refine zw_bipush (pc := 225) (n := 8) (by decide +kernel) (by decide +kernel) ?_
  refine zw_bipush (pc := 227) (n := 115) (by decide +kernel) (by decide +kernel) ?_
  refine zk_iastore (pc := 229) (n := 47) (j := 8) (by decide +kernel) (zk_at hS (j := 20) rfl rfl) rfl (by decide) (by decide) hfr (fun hfr => ?_)
  refine zw_dup (pc := 230) (by decide +kernel) rfl ?_
  refine zw_bipush (pc := 231) (n := 9) (by decide +kernel) (by decide +kernel) ?_
  refine zw_bipush (pc := 233) (n := 117) (by decide +kernel) (by decide +kernel) ?_
  refine zk_iastore (pc := 235) (n := 47) (j := 9) (by decide +kernel) (zk_at hS (j := 20) rfl rfl) rfl (by decide) (by decide) hfr (fun hfr => ?_)
  refine zw_dup (pc := 236) (by decide +kernel) rfl ?_
  refine zw_bipush (pc := 237) (n := 10) (by decide +kernel) (by decide +kernel) ?_
  refine zw_bipush (pc := 239) (n := 109) (by decide +kernel) (by decide +kernel) ?_
  refine zk_iastore (pc := 241) (n := 47) (j := 10) (by decide +kernel) (zk_at hS (j := 20) rfl rfl) rfl (by decide) (by decide) hfr (fun hfr => ?_)
  refine zw_dup (pc := 242) (by decide +kernel) rfl ?_
  refine zw_bipush (pc := 243) (n := 11) (by decide +kernel) (by decide +kernel) ?_
  refine zw_bipush (pc := 245) (n := 32) (by decide +kernel) (by decide +kernel) ?_
  refine zk_iastore (pc := 247) (n := 47) (j := 11) (by decide +kernel) (zk_at hS (j := 20) rfl rfl) rfl (by decide) (by decide) hfr (fun hfr => ?_)
  refine zw_dup (pc := 248) (by decide +kernel) rfl ?_
  refine zw_bipush (pc := 249) (n := 12) (by decide +kernel) (by decide +kernel) ?_
  refine zw_bipush (pc := 251) (n := 116) (by decide +kernel) (by decide +kernel) ?_
  refine zk_iastore (pc := 253) (n := 47) (j := 12) (by decide +kernel) (zk_at hS (j := 20) rfl rfl) rfl (by decide) (by decide) hfr (fun hfr => ?_)
  refine zw_dup (pc := 254) (by decide +kernel) rfl ?_
  refine zw_bipush (pc := 255) (n := 13) (by decide +kernel) (by decide +kernel) ?_
  refine zw_bipush (pc := 257) (n := 105) (by decide +kernel) (by decide +kernel) ?_
  refine zk_iastore (pc := 259) (n := 47) (j := 13) (by decide +kernel) (zk_at hS (j := 20) rfl rfl) rfl (by decide) (by decide) hfr (fun hfr => ?_)
  refine zw_dup (pc := 260) (by decide +kernel) rfl ?_
  refine zw_bipush (pc := 261) (n := 14) (by decide +kernel) (by decide +kernel) ?_
  refine zw_bipush (pc := 263) (n := 109) (by decide +kernel) (by decide +kernel) ?_
  refine zk_iastore (pc := 265) (n := 47) (j := 14) (by decide +kernel) (zk_at hS (j := 20) rfl rfl) rfl (by decide) (by decide) hfr (fun hfr => ?_)
  refine zw_dup (pc := 266) (by decide +kernel) rfl ?_
  refine zw_bipush (pc := 267) (n := 15) (by decide +kernel) (by decide +kernel) ?_
  refine zw_bipush (pc := 269) (n := 101) (by decide +kernel) (by decide +kernel) ?_
  refine zk_iastore (pc := 271) (n := 47) (j := 15) (by decide +kernel) (zk_at hS (j := 20) rfl rfl) rfl (by decide) (by decide) hfr (fun hfr => ?_)
  refine zw_dup (pc := 272) (by decide +kernel) rfl ?_
  refine zw_bipush (pc := 273) (n := 16) (by decide +kernel) (by decide +kernel) ?_
  refine zw_bipush (pc := 275) (n := 115) (by decide +kernel) (by decide +kernel) ?_
  refine zk_iastore (pc := 277) (n := 47) (j := 16) (by decide +kernel) (zk_at hS (j := 20) rfl rfl) rfl (by decide) (by decide) hfr (fun hfr => ?_)
  refine zw_dup (pc := 278) (by decide +kernel) rfl ?_
  refine zw_bipush (pc := 279) (n := 17) (by decide +kernel) (by decide +kernel) ?_
  refine zw_bipush (pc := 281) (n := 32) (by decide +kernel) (by decide +kernel) ?_
  refine zk_iastore (pc := 283) (n := 47) (j := 17) (by decide +kernel) (zk_at hS (j := 20) rfl rfl) rfl (by decide) (by decide) hfr (fun hfr => ?_)
  refine zw_dup (pc := 284) (by decide +kernel) rfl ?_
  refine zw_bipush (pc := 285) (n := 18) (by decide +kernel) (by decide +kernel) ?_
  refine zw_bipush (pc := 287) (n := 115) (by decide +kernel) (by decide +kernel) ?_
  refine zk_iastore (pc := 289) (n := 47) (j := 18) (by decide +kernel) (zk_at hS (j := 20) rfl rfl) rfl (by decide) (by decide) hfr (fun hfr => ?_)
  refine zw_dup (pc := 290) (by decide +kernel) rfl ?_
  refine zw_bipush (pc := 291) (n := 19) (by decide +kernel) (by decide +kernel) ?_
  refine zw_bipush (pc := 293) (n := 116) (by decide +kernel) (by decide +kernel) ?_
  refine zk_iastore (pc := 295) (n := 47) (j := 19) (by decide +kernel) (zk_at hS (j := 20) rfl rfl) rfl (by decide) (by decide) hfr (fun hfr => ?_)
  refine zw_dup (pc := 296) (by decide +kernel) rfl ?_
  refine zw_bipush (pc := 297) (n := 20) (by decide +kernel) (by decide +kernel) ?_
  refine zw_bipush (pc := 299) (n := 114) (by decide +kernel) (by decide +kernel) ?_
  refine zk_iastore (pc := 301) (n := 47) (j := 20) (by decide +kernel) (zk_at hS (j := 20) rfl rfl) rfl (by decide) (by decide) hfr (fun hfr => ?_)
  refine zw_dup (pc := 302) (by decide +kernel) rfl ?_
  refine zw_bipush (pc := 303) (n := 21) (by decide +kernel) (by decide +kernel) ?_
  refine zw_bipush (pc := 305) (n := 101) (by decide +kernel) (by decide +kernel) ?_
  refine zk_iastore (pc := 307) (n := 47) (j := 21) (by decide +kernel) (zk_at hS (j := 20) rfl rfl) rfl (by decide) (by decide) hfr (fun hfr => ?_)
  refine zw_dup (pc := 308) (by decide +kernel) rfl ?_
  refine zw_bipush (pc := 309) (n := 22) (by decide +kernel) (by decide +kernel) ?_
  refine zw_bipush (pc := 311) (n := 116) (by decide +kernel) (by decide +kernel) ?_
  refine zk_iastore (pc := 313) (n := 47) (j := 22) (by decide +kernel) (zk_at hS (j := 20) rfl rfl) rfl (by decide) (by decide) hfr (fun hfr => ?_)
  refine zw_dup (pc := 314) (by decide +kernel) rfl ?_
  refine zw_bipush (pc := 315) (n := 23) (by decide +kernel) (by decide +kernel) ?_
  refine zw_bipush (pc := 317) (n := 99) (by decide +kernel) (by decide +kernel) ?_
  refine zk_iastore (pc := 319) (n := 47) (j := 23) (by decide +kernel) (zk_at hS (j := 20) rfl rfl) rfl (by decide) (by decide) hfr (fun hfr => ?_)
  refine zw_dup (pc := 320) (by decide +kernel) rfl ?_
  refine zw_bipush (pc := 321) (n := 24) (by decide +kernel) (by decide +kernel) ?_
  refine zw_bipush (pc := 323) (n := 104) (by decide +kernel) (by decide +kernel) ?_
  refine zk_iastore (pc := 325) (n := 47) (j := 24) (by decide +kernel) (zk_at hS (j := 20) rfl rfl) rfl (by decide) (by decide) hfr (fun hfr => ?_)
  refine zw_dup (pc := 326) (by decide +kernel) rfl ?_
  refine zw_bipush (pc := 327) (n := 25) (by decide +kernel) (by decide +kernel) ?_
  refine zw_bipush (pc := 329) (n := 32) (by decide +kernel) (by decide +kernel) ?_
  refine zk_iastore (pc := 331) (n := 47) (j := 25) (by decide +kernel) (zk_at hS (j := 20) rfl rfl) rfl (by decide) (by decide) hfr (fun hfr => ?_)
  refine zw_dup (pc := 332) (by decide +kernel) rfl ?_
  refine zw_bipush (pc := 333) (n := 26) (by decide +kernel) (by decide +kernel) ?_
  refine zw_bipush (pc := 335) (n := 111) (by decide +kernel) (by decide +kernel) ?_
  refine zk_iastore (pc := 337) (n := 47) (j := 26) (by decide +kernel) (zk_at hS (j := 20) rfl rfl) rfl (by decide) (by decide) hfr (fun hfr => ?_)
  refine zw_dup (pc := 338) (by decide +kernel) rfl ?_
  refine zw_bipush (pc := 339) (n := 27) (by decide +kernel) (by decide +kernel) ?_
  refine zw_bipush (pc := 341) (n := 118) (by decide +kernel) (by decide +kernel) ?_
  refine zk_iastore (pc := 343) (n := 47) (j := 27) (by decide +kernel) (zk_at hS (j := 20) rfl rfl) rfl (by decide) (by decide) hfr (fun hfr => ?_)
  refine zw_dup (pc := 344) (by decide +kernel) rfl ?_
  refine zw_bipush (pc := 345) (n := 28) (by decide +kernel) (by decide +kernel) ?_
  refine zw_bipush (pc := 347) (n := 101) (by decide +kernel) (by decide +kernel) ?_
  refine zk_iastore (pc := 349) (n := 47) (j := 28) (by decide +kernel) (zk_at hS (j := 20) rfl rfl) rfl (by decide) (by decide) hfr (fun hfr => ?_)
  refine zw_dup (pc := 350) (by decide +kernel) rfl ?_
  refine zw_bipush (pc := 351) (n := 29) (by decide +kernel) (by decide +kernel) ?_
  refine zw_bipush (pc := 353) (n := 114) (by decide +kernel) (by decide +kernel) ?_
  refine zk_iastore (pc := 355) (n := 47) (j := 29) (by decide +kernel) (zk_at hS (j := 20) rfl rfl) rfl (by decide) (by decide) hfr (fun hfr => ?_)
  refine zw_dup (pc := 356) (by decide +kernel) rfl ?_
  refine zw_bipush (pc := 357) (n := 30) (by decide +kernel) (by decide +kernel) ?_
  refine zw_bipush (pc := 359) (n := 32) (by decide +kernel) (by decide +kernel) ?_
  refine zk_iastore (pc := 361) (n := 47) (j := 30) (by decide +kernel) (zk_at hS (j := 20) rfl rfl) rfl (by decide) (by decide) hfr (fun hfr => ?_)
  refine zw_dup (pc := 362) (by decide +kernel) rfl ?_
  refine zw_bipush (pc := 363) (n := 31) (by decide +kernel) (by decide +kernel) ?_
  refine zw_bipush (pc := 365) (n := 112) (by decide +kernel) (by decide +kernel) ?_
  refine zk_iastore (pc := 367) (n := 47) (j := 31) (by decide +kernel) (zk_at hS (j := 20) rfl rfl) rfl (by decide) (by decide) hfr (fun hfr => ?_)
  refine zw_dup (pc := 368) (by decide +kernel) rfl ?_
  refine zw_bipush (pc := 369) (n := 32) (by decide +kernel) (by decide +kernel) ?_
  refine zw_bipush (pc := 371) (n := 111) (by decide +kernel) (by decide +kernel) ?_
  refine zk_iastore (pc := 373) (n := 47) (j := 32) (by decide +kernel) (zk_at hS (j := 20) rfl rfl) rfl (by decide) (by decide) hfr (fun hfr => ?_)
  refine zw_dup (pc := 374) (by decide +kernel) rfl ?_
  refine zw_bipush (pc := 375) (n := 33) (by decide +kernel) (by decide +kernel) ?_
  refine zw_bipush (pc := 377) (n := 119) (by decide +kernel) (by decide +kernel) ?_
  refine zk_iastore (pc := 379) (n := 47) (j := 33) (by decide +kernel) (zk_at hS (j := 20) rfl rfl) rfl (by decide) (by decide) hfr (fun hfr => ?_)
  refine zw_dup (pc := 380) (by decide +kernel) rfl ?_
  refine zw_bipush (pc := 381) (n := 34) (by decide +kernel) (by decide +kernel) ?_
  refine zw_bipush (pc := 383) (n := 101) (by decide +kernel) (by decide +kernel) ?_
  refine zk_iastore (pc := 385) (n := 47) (j := 34) (by decide +kernel) (zk_at hS (j := 20) rfl rfl) rfl (by decide) (by decide) hfr (fun hfr => ?_)
  refine zw_dup (pc := 386) (by decide +kernel) rfl ?_
  refine zw_bipush (pc := 387) (n := 35) (by decide +kernel) (by decide +kernel) ?_
  refine zw_bipush (pc := 389) (n := 114) (by decide +kernel) (by decide +kernel) ?_
  refine zk_iastore (pc := 391) (n := 47) (j := 35) (by decide +kernel) (zk_at hS (j := 20) rfl rfl) rfl (by decide) (by decide) hfr (fun hfr => ?_)
  refine zw_dup (pc := 392) (by decide +kernel) rfl ?_
  refine zw_bipush (pc := 393) (n := 36) (by decide +kernel) (by decide +kernel) ?_
  refine zw_bipush (pc := 395) (n := 32) (by decide +kernel) (by decide +kernel) ?_
  refine zk_iastore (pc := 397) (n := 47) (j := 36) (by decide +kernel) (zk_at hS (j := 20) rfl rfl) rfl (by decide) (by decide) hfr (fun hfr => ?_)
  refine zw_dup (pc := 398) (by decide +kernel) rfl ?_
  refine zw_bipush (pc := 399) (n := 37) (by decide +kernel) (by decide +kernel) ?_
  refine zw_bipush (pc := 401) (n := 102) (by decide +kernel) (by decide +kernel) ?_
  refine zk_iastore (pc := 403) (n := 47) (j := 37) (by decide +kernel) (zk_at hS (j := 20) rfl rfl) rfl (by decide) (by decide) hfr (fun hfr => ?_)
  refine zw_dup (pc := 404) (by decide +kernel) rfl ?_
  refine zw_bipush (pc := 405) (n := 38) (by decide +kernel) (by decide +kernel) ?_
  refine zw_bipush (pc := 407) (n := 105) (by decide +kernel) (by decide +kernel) ?_
  refine zk_iastore (pc := 409) (n := 47) (j := 38) (by decide +kernel) (zk_at hS (j := 20) rfl rfl) rfl (by decide) (by decide) hfr (fun hfr => ?_)
  refine zw_dup (pc := 410) (by decide +kernel) rfl ?_
  refine zw_bipush (pc := 411) (n := 39) (by decide +kernel) (by decide +kernel) ?_
  refine zw_bipush (pc := 413) (n := 110) (by decide +kernel) (by decide +kernel) ?_
  refine zk_iastore (pc := 415) (n := 47) (j := 39) (by decide +kernel) (zk_at hS (j := 20) rfl rfl) rfl (by decide) (by decide) hfr (fun hfr => ?_)
  refine zw_dup (pc := 416) (by decide +kernel) rfl ?_
  refine zw_bipush (pc := 417) (n := 40) (by decide +kernel) (by decide +kernel) ?_
  refine zw_bipush (pc := 419) (n := 100) (by decide +kernel) (by decide +kernel) ?_
  refine zk_iastore (pc := 421) (n := 47) (j := 40) (by decide +kernel) (zk_at hS (j := 20) rfl rfl) rfl (by decide) (by decide) hfr (fun hfr => ?_)
  refine zw_dup (pc := 422) (by decide +kernel) rfl ?_
  refine zw_bipush (pc := 423) (n := 41) (by decide +kernel) (by decide +kernel) ?_
  refine zw_bipush (pc := 425) (n := 32) (by decide +kernel) (by decide +kernel) ?_
  refine zk_iastore (pc := 427) (n := 47) (j := 41) (by decide +kernel) (zk_at hS (j := 20) rfl rfl) rfl (by decide) (by decide) hfr (fun hfr => ?_)
  refine zw_dup (pc := 428) (by decide +kernel) rfl ?_
  refine zw_bipush (pc := 429) (n := 42) (by decide +kernel) (by decide +kernel) ?_
  refine zw_bipush (pc := 431) (n := 107) (by decide +kernel) (by decide +kernel) ?_
  refine zk_iastore (pc := 433) (n := 47) (j := 42) (by decide +kernel) (zk_at hS (j := 20) rfl rfl) rfl (by decide) (by decide) hfr (fun hfr => ?_)
  refine zw_dup (pc := 434) (by decide +kernel) rfl ?_
  refine zw_bipush (pc := 435) (n := 43) (by decide +kernel) (by decide +kernel) ?_
  refine zw_bipush (pc := 437) (n := 101) (by decide +kernel) (by decide +kernel) ?_
  refine zk_iastore (pc := 439) (n := 47) (j := 43) (by decide +kernel) (zk_at hS (j := 20) rfl rfl) rfl (by decide) (by decide) hfr (fun hfr => ?_)
  refine zw_dup (pc := 440) (by decide +kernel) rfl ?_
  refine zw_bipush (pc := 441) (n := 44) (by decide +kernel) (by decide +kernel) ?_
  refine zw_bipush (pc := 443) (n := 101) (by decide +kernel) (by decide +kernel) ?_
  refine zk_iastore (pc := 445) (n := 47) (j := 44) (by decide +kernel) (zk_at hS (j := 20) rfl rfl) rfl (by decide) (by decide) hfr (fun hfr => ?_)
  refine zw_dup (pc := 446) (by decide +kernel) rfl ?_
  refine zw_bipush (pc := 447) (n := 45) (by decide +kernel) (by decide +kernel) ?_
  refine zw_bipush (pc := 449) (n := 112) (by decide +kernel) (by decide +kernel) ?_
  refine zk_iastore (pc := 451) (n := 47) (j := 45) (by decide +kernel) (zk_at hS (j := 20) rfl rfl) rfl (by decide) (by decide) hfr (fun hfr => ?_)
  refine zw_dup (pc := 452) (by decide +kernel) rfl ?_
  refine zw_bipush (pc := 453) (n := 46) (by decide +kernel) (by decide +kernel) ?_
  refine zw_bipush (pc := 455) (n := 32) (by decide +kernel) (by decide +kernel) ?_
  refine zk_iastore (pc := 457) (n := 47) (j := 46) (by decide +kernel) (zk_at hS (j := 20) rfl rfl) rfl (by decide) (by decide) hfr (fun hfr => ?_)
  refine zk_putR (pc := 458) zf_11_76 (Or.inr ⟨_, rfl⟩) (by decide +kernel) rfl (zk_at0 hS h0) rfl rfl hfr (fun hfr => ?_)
  refine zw_aload_n (pc := 461) (n := 0) (i := 0) 0 (by decide +kernel) rfl rfl ?_
  refine zw_bipush (pc := 462) (n := 9) (by decide +kernel) (by decide +kernel) ?_
  refine zk_newA (pc := 464) (n := 9) rfl (by decide +kernel) hS hc hfr (k := 22) rfl (by decide) (by decide) (Nat.le_of_ble_eq_true rfl) (Nat.le_of_ble_eq_true rfl) (fun hfr => ?_)
  refine zw_dup (pc := 466) (by decide +kernel) rfl ?_
  refine zw_iconst (pc := 467) (n := 0) (by decide +kernel) ?_
  refine zw_iconst (pc := 468) (n := 1) (by decide +kernel) ?_
  refine zk_iastore (pc := 469) (n := 9) (j := 0) (by decide +kernel) (zk_at hS (j := 21) rfl rfl) rfl (by decide) (by decide) hfr (fun hfr => ?_)
  refine zw_dup (pc := 470) (by decide +kernel) rfl ?_
  refine zw_iconst (pc := 471) (n := 1) (by decide +kernel) ?_
  refine zw_iconst (pc := 472) (n := 2) (by decide +kernel) ?_
  refine zk_iastore (pc := 473) (n := 9) (j := 1) (by decide +kernel) (zk_at hS (j := 21) rfl rfl) rfl (by decide) (by decide) hfr (fun hfr => ?_)
  refine zw_dup (pc := 474) (by decide +kernel) rfl ?_
  refine zw_iconst (pc := 475) (n := 2) (by decide +kernel) ?_
  refine zw_iconst (pc := 476) (n := 3) (by decide +kernel) ?_
  refine zk_iastore (pc := 477) (n := 9) (j := 2) (by decide +kernel) (zk_at hS (j := 21) rfl rfl) rfl (by decide) (by decide) hfr (fun hfr => ?_)
  refine zw_dup (pc := 478) (by decide +kernel) rfl ?_
  refine zw_iconst (pc := 479) (n := 3) (by decide +kernel) ?_
  refine zw_iconst (pc := 480) (n := 3) (by decide +kernel) ?_
  refine zk_iastore (pc := 481) (n := 9) (j := 3) (by decide +kernel) (zk_at hS (j := 21) rfl rfl) rfl (by decide) (by decide) hfr (fun hfr => ?_)
  refine zw_dup (pc := 482) (by decide +kernel) rfl ?_
  refine zw_iconst (pc := 483) (n := 4) (by decide +kernel) ?_
  refine zw_iconst (pc := 484) (n := 3) (by decide +kernel) ?_
  refine zk_iastore (pc := 485) (n := 9) (j := 4) (by decide +kernel) (zk_at hS (j := 21) rfl rfl) rfl (by decide) (by decide) hfr (fun hfr => ?_)
  refine zw_dup (pc := 486) (by decide +kernel) rfl ?_
  refine zw_iconst (pc := 487) (n := 5) (by decide +kernel) ?_
  refine zw_iconst (pc := 488) (n := 2) (by decide +kernel) ?_
  refine zk_iastore (pc := 489) (n := 9) (j := 5) (by decide +kernel) (zk_at hS (j := 21) rfl rfl) rfl (by decide) (by decide) hfr (fun hfr => ?_)
  refine zw_dup (pc := 490) (by decide +kernel) rfl ?_
  refine zw_bipush (pc := 491) (n := 6) (by decide +kernel) (by decide +kernel) ?_
  refine zw_iconst (pc := 493) (n := 3) (by decide +kernel) ?_
  refine zk_iastore (pc := 494) (n := 9) (j := 6) (by decide +kernel) (zk_at hS (j := 21) rfl rfl) rfl (by decide) (by decide) hfr (fun hfr => ?_)
  refine zw_dup (pc := 495) (by decide +kernel) rfl ?_
  refine zw_bipush (pc := 496) (n := 7) (by decide +kernel) (by decide +kernel) ?_
  refine zw_iconst (pc := 498) (n := 4) (by decide +kernel) ?_
  refine zk_iastore (pc := 499) (n := 9) (j := 7) (by decide +kernel) (zk_at hS (j := 21) rfl rfl) rfl (by decide) (by decide) hfr (fun hfr => ?_)
  refine zw_dup (pc := 500) (by decide +kernel) rfl ?_
  refine zw_bipush (pc := 501) (n := 8) (by decide +kernel) (by decide +kernel) ?_
  refine zw_iconst (pc := 503) (n := 1) (by decide +kernel) ?_
  refine zk_iastore (pc := 504) (n := 9) (j := 8) (by decide +kernel) (zk_at hS (j := 21) rfl rfl) rfl (by decide) (by decide) hfr (fun hfr => ?_)
  refine zk_putR (pc := 505) zf_11_79 (Or.inr ⟨_, rfl⟩) (by decide +kernel) rfl (zk_at0 hS h0) rfl rfl hfr (fun hfr => ?_)
  refine zw_aload_n (pc := 508) (n := 0) (i := 0) 0 (by decide +kernel) rfl rfl ?_
  refine zw_sipush (pc := 509) (n := 500) (by decide +kernel) (by decide +kernel) ?_
  refine zk_newA (pc := 512) (n := 500) rfl (by decide +kernel) hS hc hfr (k := 23) rfl (by decide) (by decide) (Nat.le_of_ble_eq_true rfl) (Nat.le_of_ble_eq_true rfl) (fun hfr => ?_)
  refine zk_putR (pc := 514) zf_11_82 (Or.inr ⟨_, rfl⟩) (by decide +kernel) rfl (zk_at0 hS h0) rfl rfl hfr (fun hfr => ?_)
  refine zw_aload_n (pc := 517) (n := 0) (i := 0) 0 (by decide +kernel) rfl rfl ?_
  refine zw_bipush (pc := 518) (n := 81) (by decide +kernel) (by decide +kernel) ?_
  refine zk_newA (pc := 520) (n := 81) rfl (by decide +kernel) hS hc hfr (k := 24) rfl (by decide) (by decide) (Nat.le_of_ble_eq_true rfl) (Nat.le_of_ble_eq_true rfl) (fun hfr => ?_)
  refine zk_putR (pc := 522) zf_11_85 (Or.inr ⟨_, rfl⟩) (by decide +kernel) rfl (zk_at0 hS h0) rfl rfl hfr (fun hfr => ?_)
  refine zw_aload_n (pc := 525) (n := 0) (i := 0) 0 (by decide +kernel) rfl rfl ?_
  refine zw_sipush (pc := 526) (n := 729) (by decide +kernel) (by decide +kernel) ?_
  refine zk_newA (pc := 529) (n := 729) rfl (by decide +kernel) hS hc hfr (k := 25) rfl (by decide) (by decide) (Nat.le_of_ble_eq_true rfl) (Nat.le_of_ble_eq_true rfl) (fun hfr => ?_)
  refine zk_putR (pc := 531) zf_11_88 (Or.inr ⟨_, rfl⟩) (by decide +kernel) rfl (zk_at0 hS h0) rfl rfl hfr (fun hfr => ?_)
  refine zw_aload_n (pc := 534) (n := 0) (i := 0) 0 (by decide +kernel) rfl rfl ?_
  refine zw_iconst (pc := 535) (n := 4) (by decide +kernel) ?_
  refine zk_newA (pc := 536) (n := 4) rfl (by decide +kernel) hS hc hfr (k := 26) rfl (by decide) (by decide) (Nat.le_of_ble_eq_true rfl) (Nat.le_of_ble_eq_true rfl) (fun hfr => ?_)
  refine zw_dup (pc := 538) (by decide +kernel) rfl ?_
  refine zw_iconst (pc := 539) (n := 0) (by decide +kernel) ?_
  refine zw_iconst (pc := 540) (n := (-1)) (by decide +kernel) ?_
  refine zk_iastore (pc := 541) (n := 4) (j := 0) (by decide +kernel) (zk_at hS (j := 25) rfl rfl) rfl (by decide) (by decide) hfr (fun hfr => ?_)
  refine zw_dup (pc := 542) (by decide +kernel) rfl ?_
  refine zw_iconst (pc := 543) (n := 1) (by decide +kernel) ?_
  refine zw_iconst (pc := 544) (n := (-1)) (by decide +kernel) ?_
  refine zk_iastore (pc := 545) (n := 4) (j := 1) (by decide +kernel) (zk_at hS (j := 25) rfl rfl) rfl (by decide) (by decide) hfr (fun hfr => ?_)
  refine zw_dup (pc := 546) (by decide +kernel) rfl ?_
  refine zw_iconst (pc := 547) (n := 2) (by decide +kernel) ?_
  refine zw_iconst (pc := 548) (n := (-1)) (by decide +kernel) ?_
  refine zk_iastore (pc := 549) (n := 4) (j := 2) (by decide +kernel) (zk_at hS (j := 25) rfl rfl) rfl (by decide) (by decide) hfr (fun hfr => ?_)
  refine zw_dup (pc := 550) (by decide +kernel) rfl ?_
  refine zw_iconst (pc := 551) (n := 3) (by decide +kernel) ?_
  refine zw_iconst (pc := 552) (n := (-1)) (by decide +kernel) ?_
  refine zk_iastore (pc := 553) (n := 4) (j := 3) (by decide +kernel) (zk_at hS (j := 25) rfl rfl) rfl (by decide) (by decide) hfr (fun hfr => ?_)
  refine zk_putR (pc := 554) zf_11_91 (Or.inr ⟨_, rfl⟩) (by decide +kernel) rfl (zk_at0 hS h0) rfl rfl hfr (fun hfr => ?_)
  refine zw_aload_n (pc := 557) (n := 0) (i := 0) 0 (by decide +kernel) rfl rfl ?_
  refine zw_sipush (pc := 558) (n := 320) (by decide +kernel) (by decide +kernel) ?_
  refine zk_newA (pc := 561) (n := 320) rfl (by decide +kernel) hS hc hfr (k := 27) rfl (by decide) (by decide) (Nat.le_of_ble_eq_true rfl) (Nat.le_of_ble_eq_true rfl) (fun hfr => ?_)
  refine zk_putR (pc := 563) zf_11_94 (Or.inr ⟨_, rfl⟩) (by decide +kernel) rfl (zk_at0 hS h0) rfl rfl hfr (fun hfr => ?_)
  refine zw_aload_n (pc := 566) (n := 0) (i := 0) 0 (by decide +kernel) rfl rfl ?_
  refine zw_bipush (pc := 567) (n := 6) (by decide +kernel) (by decide +kernel) ?_
  refine zk_newA (pc := 569) (n := 6) rfl (by decide +kernel) hS hc hfr (k := 28) rfl (by decide) (by decide) (Nat.le_of_ble_eq_true rfl) (Nat.le_of_ble_eq_true rfl) (fun hfr => ?_)
  refine zk_putR (pc := 571) zf_11_97 (Or.inr ⟨_, rfl⟩) (by decide +kernel) rfl (zk_at0 hS h0) rfl rfl hfr (fun hfr => ?_)
  refine zw_aload_n (pc := 574) (n := 0) (i := 0) 0 (by decide +kernel) rfl rfl ?_
  refine zw_bipush (pc := 575) (n := 6) (by decide +kernel) (by decide +kernel) ?_
  refine zk_newA (pc := 577) (n := 6) rfl (by decide +kernel) hS hc hfr (k := 29) rfl (by decide) (by decide) (Nat.le_of_ble_eq_true rfl) (Nat.le_of_ble_eq_true rfl) (fun hfr => ?_)
  refine zk_putR (pc := 579) zf_11_100 (Or.inr ⟨_, rfl⟩) (by decide +kernel) rfl (zk_at0 hS h0) rfl rfl hfr (fun hfr => ?_)
  refine zw_aload_n (pc := 582) (n := 0) (i := 0) 0 (by decide +kernel) rfl rfl ?_
  refine zw_sipush (pc := 583) (n := 480) (by decide +kernel) (by decide +kernel) ?_
  refine zk_newA (pc := 586) (n := 480) rfl (by decide +kernel) hS hc hfr (k := 30) rfl (by decide) (by decide) (Nat.le_of_ble_eq_true rfl) (Nat.le_of_ble_eq_true rfl) (fun hfr => ?_)
  refine zk_putR (pc := 588) zf_11_103 (Or.inr ⟨_, rfl⟩) (by decide +kernel) rfl (zk_at0 hS h0) rfl rfl hfr (fun hfr => ?_)
  refine zw_aload_n (pc := 591) (n := 0) (i := 0) 0 (by decide +kernel) rfl rfl ?_
  refine zw_bipush (pc := 592) (n := 81) (by decide +kernel) (by decide +kernel) ?_
  refine zk_newA (pc := 594) (n := 81) rfl (by decide +kernel) hS hc hfr (k := 31) rfl (by decide) (by decide) (Nat.le_of_ble_eq_true rfl) (Nat.le_of_ble_eq_true rfl) (fun hfr => ?_)
  refine zk_putR (pc := 596) zf_11_106 (Or.inr ⟨_, rfl⟩) (by decide +kernel) rfl (zk_at0 hS h0) rfl rfl hfr (fun hfr => ?_)
  refine zw_aload_n (pc := 599) (n := 0) (i := 0) 0 (by decide +kernel) rfl rfl ?_
  refine zw_sipush (pc := 600) (n := 664) (by decide +kernel) (by decide +kernel) ?_
  refine zk_newA (pc := 603) (n := 664) rfl (by decide +kernel) hS hc hfr (k := 32) rfl (by decide) (by decide) (Nat.le_of_ble_eq_true rfl) (Nat.le_of_ble_eq_true rfl) (fun hfr => ?_)
  refine zk_putR (pc := 605) zf_11_109 (Or.inr ⟨_, rfl⟩) (by decide +kernel) rfl (zk_at0 hS h0) rfl rfl hfr (fun hfr => ?_)
  exact zw_vretX (pc := 608) (by decide +kernel) rfl (Nat.le_of_ble_eq_true rfl) (Nat.le_of_ble_eq_true rfl) (hΦ hfr)
