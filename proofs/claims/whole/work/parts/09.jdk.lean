/-! THE JDK's own methods: Arrays.fill, String.length, String.charAt -/
theorem zS_cast {i j k n : Nat} (h : zS i k n) (e : i = j) : zS j k n := e ▸ h
theorem zuI_zuA {w : zWS} {a j : Nat} {f h : Nat → Int} {v : Int} (e : ∀ b, h b = if b = j then v else f b) : zuI (zuA w a f) a j v = zuA w a h := by
  refine congrArg (fun f => (w.1, w.2.1, f)) (funext fun x => funext fun b => ?_)
  show (if x = a ∧ b = j then v else if x = a then f b else w.2.2 x b) = if x = a then h b else w.2.2 x b
  by_cases hx : x = a
  · rw [if_pos hx, if_pos hx, e b]
    by_cases hb : b = j
    · rw [if_pos ⟨hx, hb⟩, if_pos hb]
    · rw [if_neg (fun q => hb q.2), if_neg hb]
  · rw [if_neg (fun q => hx q.1), if_neg hx, if_neg hx]
theorem zuA_zero {w : zWS} {a : Nat} {f : Nat → Int} (e : ∀ b, f b = w.2.2 a b) : zuA w a f = w := by
  obtain ⟨w1, w2, w3⟩ := w
  refine congrArg (fun f => (w1, w2, f)) (funext fun x => funext fun b => ?_)
  show (if x = a then f b else w3 x b) = w3 x b
  by_cases hx : x = a
  · rw [if_pos hx, e b, hx]
  · rw [if_neg hx]
theorem ok_fill {g : zG} {w : zWS} {a n : Nat} {v : Int} {Φ : Option Value → zWS → Prop} (hs : w.1[a]? = some (12, n)) (hn : n < 2147483648) (h : Φ none (zuA w a (fun b => if b < n then v else w.2.2 a b))) : zOK g zm_J7_fill_53178 [.ref a, .int (zJ v)] w Φ := by
  refine zok_of (by decide +kernel) rfl ?_
  show zWP g zm_J7_fill_53178 (zmo g zm_J7_fill_53178 Φ) 0 [(0, .ref a), (1, .int (zJ v))] [] 0 0 w
  refine zw_iconst (pc := 0) (n := 0) (by decide +kernel) ?_
  refine zw_istore_n (pc := 1) (n := 2) (i := 2) (lv' := [(0, .ref a), (1, .int (zJ v)), (2, .int (zJ 0))]) (by decide +kernel) rfl (Nat.le_of_ble_eq_true rfl) rfl ?_
  refine zw_aload_n (pc := 2) (n := 0) (i := 0) 0 (by decide +kernel) rfl rfl ?_
  refine zw_alen (pc := 3) (n := n) (by decide +kernel) hs rfl ?_
  refine zw_istore_n (pc := 4) (n := 3) (i := 3) (lv' := [(0, .ref a), (1, .int (zJ v)), (2, .int (zJ 0)), (3, .int (zJ (n : Int)))]) (by decide +kernel) rfl (Nat.le_of_ble_eq_true rfl) rfl ?_
  have key : ∀ m i : Nat, i + m = n → zWP g zm_J7_fill_53178 (zmo g zm_J7_fill_53178 Φ) 5 [(0, .ref a), (1, .int (zJ v)), (2, .int (zJ (i : Int))), (3, .int (zJ (n : Int)))] [] 0 0 (zuA w a (fun b => if b < i then v else w.2.2 a b)) := by
    intro m
    induction m with
    | zero =>
      intro i hi
      refine zw_iload_n (pc := 5) (n := 2) (i := 2) 2 (by decide +kernel) rfl rfl ?_
      refine zw_iload_n (pc := 6) (n := 3) (i := 3) 3 (by decide +kernel) rfl rfl ?_
      refine zw_icmp_ge (pc := 7) (off := 13) (tgt := 20) (by decide +kernel) (by decide) (by omega) (by omega) (fun hc => ?_) (fun hc => absurd hc (by omega))
      rw [show i = n by omega]
      exact zw_vret (pc := 20) (by decide +kernel) rfl (Nat.le_refl _) (Nat.le_refl _) h
    | succ m ih =>
      intro i hi
      refine zw_iload_n (pc := 5) (n := 2) (i := 2) 2 (by decide +kernel) rfl rfl ?_
      refine zw_iload_n (pc := 6) (n := 3) (i := 3) 3 (by decide +kernel) rfl rfl ?_
      refine zw_icmp_ge (pc := 7) (off := 13) (tgt := 20) (by decide +kernel) (by decide) (by omega) (by omega) (fun hc => absurd hc (by omega)) (fun hc => ?_)
      refine zw_aload_n (pc := 10) (n := 0) (i := 0) 0 (by decide +kernel) rfl rfl ?_
      refine zw_iload_n (pc := 11) (n := 2) (i := 2) 2 (by decide +kernel) rfl rfl ?_
      refine zw_iload_n (pc := 12) (n := 1) (i := 1) 1 (by decide +kernel) rfl rfl ?_
      refine zw_iastore (pc := 13) (n := n) (by decide +kernel) (show _ = _ from hs) (by omega) (by omega) hn ?_
      rw [zuI_zuA (h := fun b => if b < i + 1 then v else w.2.2 a b) (fun b => by
        rw [Int.toNat_natCast]
        by_cases h1 : b = i
        · rw [if_pos h1, if_pos (by omega)]
        · rw [if_neg h1]
          by_cases h2 : b < i
          · rw [if_pos h2, if_pos (by omega)]
          · rw [if_neg h2, if_neg (by omega)])]
      refine zw_iinc (pc := 14) (i := 2) (n := 1) (v := ((i + 1 : Nat) : Int)) (lv' := [(0, .ref a), (1, .int (zJ v)), (2, .int (zJ ((i + 1 : Nat) : Int))), (3, .int (zJ (n : Int)))]) 2 (by decide +kernel) rfl (by omega) (Nat.le_of_ble_eq_true rfl) rfl ?_
      refine zw_goto (pc := 17) (off := (-12)) (tgt := 5) (by decide +kernel) (by decide) ?_
      exact ih (i + 1) (by omega)
  have k0 := key n 0 (by omega)
  rw [zuA_zero (fun b => by rw [if_neg (by omega)])] at k0
  exact k0
theorem sg_J7_fill {g : zG} {μ : zMu} {a n : Nat} {v : Int} {φ : zMu → Prop} (hs : zS a 12 n) (h : φ (zua μ a (fun b => if b < n then v else μ a b))) : zOv g zm_J7_fill_53178 [.ref a, .int (zJ v)] μ φ :=
  ok_fill hs (zS_n hs) ⟨_, rfl, rfl, h⟩
-- the String constants: cell 90001 + k the text, cell 90101 + k its bytes
theorem zad_x (g : zG) (k : Nat) : zad g (90000 + k) = zgx g k := by rw [zad, if_neg (by omega), show 90000 + k - 90000 = k by omega]
section ZST
variable {g : zG} {M : zM} {mo : zMo} {pc nc ns : Nat} {lv : List (Nat × Value)} {st : List Value} {μ : zMu}
theorem zx_callT {M' : zM} {idx n b : Nat} {As : List Value} {Φ : Option Value → zWS → Prop} (hOK : zOK g M' (.ref b :: As) (zw μ) Φ) (hcal : zCal M' n) (hin : Cond.instanceMethod M'.1 ∈ ztbl) (hse : Cond.selects M'.1.cls M'.1 M'.1 ∈ ztbl) (hli : Cond.methodLink M.1.cls idx M'.1 ∈ ztbl) (hd : decode M.2.1 pc = .ok (.invokevirtual idx, 3)) (hrm : zRm M M') (hn : As.length = n)
    (hb : ∃ k, k < 9 ∧ b = 90001 + k) (hcls : M'.1.cls = "java/lang/String") (hsum : Nat.ble (st.map fun v => v.category).sum 8 = true) (hc : M'.2.2.2.2.cells = 0 ∧ M'.2.2.2.2.slots = 0) (hnn : nc ≤ M.2.2.2.2.cells ∧ ns ≤ M.2.2.2.2.slots)
    (kk : ∀ r w', Φ r w' → zWP g M mo (pc + 3) lv (r.toList ++ st) nc ns w') : zWP g M mo pc lv (As.reverse ++ .ref b :: st) nc ns (zw μ) := by
  intro p e s m args below meth c H locs ls C hl hW hS
  have hts := C.2.2.2.2.1
  obtain ⟨k, hk, rfl⟩ := hb
  have hrecv := vk_recv C.2.2.2.2.2.2.2.2.1.2.2.2.1 hk hS
  rw [← hcls] at hrecv
  have hall : ∀ x ∈ wsV M.1.cls idx M'.1.cls M'.1 (zws M'), x ∈ ztbl := fun x hx => by
    rcases List.mem_append.mp hx with h | h
    · simp only [List.mem_cons, List.not_mem_nil, or_false] at h
      rcases h with rfl | rfl | rfl | rfl
      · exact hli
      · exact hin
      · exact hse
      · exact hcal.1
    · exact zws_in hcal x h
  rw [z_rev, List.map_cons]
  have ha : zad g (90001 + k) = zgx g (k + 1) := by rw [show 90001 + k = 90000 + (k + 1) by omega, zad_x]
  have hrecv2 : ∃ cellB : Cell, H[zad g (90001 + k)]? = some cellB ∧ cellB.vm.isStatics = false ∧ s.vm.findClass M'.1.cls = some cellB.cls := by rw [ha]; exact hrecv
  refine zw_run (mc := 0) (ms := 0) (st := st) (va_runV (mc := 0) (ms := 0) (As := As.map (ztv g)) (rest := st.map (ztv g)) (b := zad g (90001 + k)) ⟨C.1, C.2.1, C.2.2.1, C.2.2.2.2.2.1, hts⟩ (by have h := hOK; unfold zOK at h; rw [hc.1, hc.2] at h; exact h) (cwV n hts (z_goodIn hall) rfl hc.1 hc.2 ⟨rfl, hcal.2.2⟩ hrm) ⟨z_blind, hrecv2, (z_pre C hW hS (.ref (90001 + k) :: As)).2⟩ rfl (by rw [List.length_map]; exact hn) hl.1 rfl (lv_room (by rw [z_sum]; exact Nat.le_of_ble_eq_true hsum)) hd ⟨hnn.1, hnn.2⟩) C hl hS (fun r w' h => kk r w' h)
theorem zx_compact {idx : Nat} (hd : decode M.2.1 pc = .ok (.getstatic idx, 3)) (hli : Cond.fieldLink M.1.cls idx "java/lang/String" "COMPACT_STRINGS" "Z" ∈ ztbl) (kk : zWP g M mo (pc + 3) lv (.int (zJ 1) :: st) nc ns (zw μ)) : zWP g M mo pc lv st nc ns (zw μ) := by
  intro p e s m args below meth c H locs ls C hl hW hS
  exact va_gets C.1 C.2.1 C.2.2.2.2.2.2.2.2.1.2.2.2.2.1 hS C.2.2.2.2.2.1 (C.2.2.2.2.1 _ hli) (fun x h => h) hd (kk p e s m args below meth c H locs ls C hl hW hS)
theorem zx_formatter {idx : Nat} (hd : decode M.2.1 pc = .ok (.getstatic idx, 3)) (hli : Cond.fieldLink M.1.cls idx "jdk/internal/util/Preconditions" "SIOOBE_FORMATTER" "Ljava/util/function/BiFunction;" ∈ ztbl) (k1 : zWP g M mo (pc + 3) lv (.null :: st) nc ns (zw μ)) (k2 : zWP g M mo (pc + 3) lv (.ref 90201 :: st) nc ns (zw μ)) : zWP g M mo pc lv st nc ns (zw μ) := by
  intro p e s m args below meth c H locs ls C hl hW hS
  rcases C.2.2.2.2.2.2.2.2.1.2.2.2.2.2 with hz | hz
  · exact va_gets C.1 C.2.1 hz hS C.2.2.2.2.2.1 (C.2.2.2.2.1 _ hli) (fun x h => h) hd (k1 p e s m args below meth c H locs ls C hl hW hS)
  · have k2' := k2 p e s m args below meth c H locs ls C hl hW hS
    have ha : zad g 90201 = zgx g 201 := zad_x g 201
    refine va_gets C.1 C.2.1 hz hS C.2.2.2.2.2.1 (C.2.2.2.2.1 _ hli) (fun x h => h) hd ?_
    rw [← ha]
    exact k2'
theorem zx_coder {idx k : Nat} (hk : k < 9) (hd : decode M.2.1 pc = .ok (.getfield idx, 3)) (hli : Cond.fieldLink M.1.cls idx "java/lang/String" "coder" "B" ∈ ztbl) (kk : zWP g M mo (pc + 3) lv (.int (zJ 0) :: st) nc ns (zw μ)) : zWP g M mo pc lv (.ref (90001 + k) :: st) nc ns (zw μ) := by
  intro p e s m args below meth c H locs ls C hl hW hS
  have ha : zad g (90001 + k) = zgx g (k + 1) := by rw [show 90001 + k = 90000 + (k + 1) by omega, zad_x]
  show W _ _ _ _ _ _ _ _ _ _ _ _ _ _ _ (F0 m pc ls (.ref (zad g (90001 + k)) :: _))
  rw [ha]
  exact vk_getf C.1 C.2.1 (C.2.2.2.2.2.2.2.2.1.2.2.2.1.1 k hk).2.1 hS C.2.2.2.2.2.1 (C.2.2.2.2.1 _ hli) (fun x h => h) hd (kk p e s m args below meth c H locs ls C hl hW hS)
theorem zx_value {idx k : Nat} (hk : k < 9) (hd : decode M.2.1 pc = .ok (.getfield idx, 3)) (hli : Cond.fieldLink M.1.cls idx "java/lang/String" "value" "[B" ∈ ztbl) (kk : zWP g M mo (pc + 3) lv (.ref (90101 + k) :: st) nc ns (zw μ)) : zWP g M mo pc lv (.ref (90001 + k) :: st) nc ns (zw μ) := by
  intro p e s m args below meth c H locs ls C hl hW hS
  have ha : zad g (90001 + k) = zgx g (k + 1) := by rw [show 90001 + k = 90000 + (k + 1) by omega, zad_x]
  have hb : zad g (90101 + k) = zgx g (k + 101) := by rw [show 90101 + k = 90000 + (k + 101) by omega, zad_x]
  have k2 : W _ _ _ _ _ _ _ _ _ _ _ _ _ _ _ (F0 m (pc + 3) ls (.ref (zad g (90101 + k)) :: _)) := kk p e s m args below meth c H locs ls C hl hW hS
  rw [hb] at k2
  show W _ _ _ _ _ _ _ _ _ _ _ _ _ _ _ (F0 m pc ls (.ref (zad g (90001 + k)) :: _))
  rw [ha]
  exact vk_getf C.1 C.2.1 (C.2.2.2.2.2.2.2.2.1.2.2.2.1.1 k hk).2.2.1 hS C.2.2.2.2.2.1 (C.2.2.2.2.1 _ hli) (fun x h => h) hd k2
theorem zx_blen {k : Nat} (hk : k < 9) (hd : decode M.2.1 pc = .ok (.arraylength, 1)) (kk : zWP g M mo (pc + 1) lv (.int (zJ ((zTl.getD k 0 : Nat) : Int)) :: st) nc ns (zw μ)) : zWP g M mo pc lv (.ref (90101 + k) :: st) nc ns (zw μ) := by
  intro p e s m args below meth c H locs ls C hl hW hS
  have hb : zad g (90101 + k) = zgx g (k + 101) := by rw [show 90101 + k = 90000 + (k + 101) by omega, zad_x]
  show W _ _ _ _ _ _ _ _ _ _ _ _ _ _ _ (F0 m pc ls (.ref (zad g (90101 + k)) :: _))
  rw [hb]
  exact va_tlen C.1 C.2.1 (C.2.2.2.2.2.2.2.2.1.2.2.2.1.1 k hk).2.2.2 hS (v := zJ ((zTl.getD k 0 : Nat) : Int)) rfl hd (kk p e s m args below meth c H locs ls C hl hW hS)
def zTc (k x : Nat) : Int := ((zTb.getD k []).getD x 0).toInt
theorem zx_bald {k : Nat} {x : Int} (hk : k < 9) (h0 : 0 ≤ x) (hx : x < (zTl.getD k 0 : Nat)) (hd : decode M.2.1 pc = .ok (.baload, 1)) (kk : zWP g M mo (pc + 1) lv (.int (zJ (zTc k x.toNat)) :: st) nc ns (zw μ)) : zWP g M mo pc lv (.int (zJ x) :: .ref (90101 + k) :: st) nc ns (zw μ) := by
  intro p e s m args below meth c H locs ls C hl hW hS
  have hb : zad g (90101 + k) = zgx g (k + 101) := by rw [show 90101 + k = 90000 + (k + 101) by omega, zad_x]
  have hl9 : ∀ k, k < 9 → zTl.getD k 0 < 100 := by decide
  obtain ⟨hin, ht⟩ := zin h0 hx (by have := hl9 k hk; omega)
  show W _ _ _ _ _ _ _ _ _ _ _ _ _ _ _ (F0 m pc ls (.int (zJ x) :: .ref (zad g (90101 + k)) :: _))
  rw [hb]
  exact va_tb C.1 C.2.1 (C.2.2.2.2.2.2.2.2.1.2.2.2.1.1 k hk).2.2.2 hS hin (v := .int (zJ (zTc k x.toNat))) (by rw [ht, zTc, zJ_of]) hd (kk p e s m args below meth c H locs ls C hl hW hS)
theorem zw_bret {Φ : Option Value → zWS → Prop} {w : zWS} {ty : FieldType} {x : Int} (hd : decode M.2.1 pc = .ok (.ireturn, 1)) (hr : M.2.2.2.1 = some ty) (hnr : narrow ty (.int (zJ x)) = .int (zJ x)) (hn : nc ≤ M.2.2.2.2.cells) (hs : ns ≤ M.2.2.2.2.slots) (h : Φ (some (.int (zJ x))) w) : zWP g M (zmo g M Φ) pc lv [.int (zJ x)] nc ns w := by
  intro p e s m args below meth c H locs ls C hl hW hS
  refine W.widen hn hs ?_
  exact W.zret C.1 C.2.1 (C.2.2.2.1.trans hr) hnr (fun t ht hv => ⟨⟨some (.int (zJ x)), w, rfl, h, by rw [ht]; exact hW⟩, hS.F ht⟩) hS.2.2 hd C.2.2.2.2.2.2.1
theorem zw_i2c {w : zWS} {x y : Int} (hd : decode M.2.1 pc = .ok (.i2c, 1)) (hv : ((zJ x).toUInt32 % 65536).toInt32 = zJ y) (k : zWP g M mo (pc + 1) lv (.int (zJ y) :: st) nc ns w) : zWP g M mo pc lv (.int (zJ x) :: st) nc ns w := by
  intro p e s m args below meth c H locs ls C hl hW hS
  exact lv_i2c C.1 C.2.1 hd hv (k p e s m args below meth c H locs ls C hl hW hS)
theorem zw_aload_n0 {n : Fin 4} (j : Nat) {i : Nat} {w : zWS} (hd : decode M.2.1 pc = .ok (.aload_n n, 1)) (hi : (n : Nat) = i) (hj : lv[j]? = some (i, .null)) (k : zWP g M mo (pc + 1) lv (.null :: st) nc ns w) : zWP g M mo pc lv st nc ns w := by
  intro p e s m args below meth c H locs ls C hl hW hS
  exact lv_aload_nN C.1 C.2.1 hd hi (zlv_at hl j hj) (k p e s m args below meth c H locs ls C hl hW hS)
end ZST
theorem zl_J0_335 : Cond.methodLink "java/lang/String" 335 yJ0_coder_7d493 ∈ ztbl := zmem 776 (by decide +kernel) rfl
theorem zl_J0_492 : Cond.methodLink "java/lang/String" 492 yJ0_isLatin1_aae02 ∈ ztbl := zmem 786 (by decide +kernel) rfl
theorem zl_J0_495 : Cond.methodLink "java/lang/String" 495 yJ1_charAt_3b067 ∈ ztbl := zmem 790 (by decide +kernel) rfl
theorem zl_J1_9 : Cond.methodLink "java/lang/StringLatin1" 9 yJ0_checkIndex_df160 ∈ ztbl := zmem 793 (by decide +kernel) rfl
theorem zl_J0_1059 : Cond.methodLink "java/lang/String" 1059 yJ3_checkIndex_8e157 ∈ ztbl := zmem 798 (by decide +kernel) rfl
theorem zl_J0_f38 : Cond.fieldLink "java/lang/String" 38 "java/lang/String" "COMPACT_STRINGS" "Z" ∈ ztbl := zmem 780 (by decide +kernel) rfl
theorem zl_J0_f1053 : Cond.fieldLink "java/lang/String" 1053 "jdk/internal/util/Preconditions" "SIOOBE_FORMATTER" "Ljava/util/function/BiFunction;" ∈ ztbl := zmem 796 (by decide +kernel) rfl
theorem zl_J0_f9 : Cond.fieldLink "java/lang/String" 9 "java/lang/String" "value" "[B" ∈ ztbl := zmem 1467 (by decide +kernel) rfl
theorem zl_J0_f15 : Cond.fieldLink "java/lang/String" 15 "java/lang/String" "coder" "B" ∈ ztbl := zmem 1468 (by decide +kernel) rfl
theorem sg_J0_coder {g : zG} {μ : zMu} {k : Nat} {φ : Int → zMu → Prop} (hk : k < 9) (h : φ 0 μ) : zOi g zm_J0_coder_7d493 [.ref (90001 + k)] μ φ := by
  refine zok_of (by decide +kernel) rfl ?_
  show zWP g zm_J0_coder_7d493 (zmo g zm_J0_coder_7d493 (zΦi φ)) 0 [(0, .ref (90001 + k))] [] 0 0 (zw μ)
  refine zx_compact (pc := 0) (idx := 38) (by decide +kernel) zl_J0_f38 ?_
  refine zw_if_eq (pc := 3) (off := 10) (tgt := 13) (by decide +kernel) (by decide) (by decide) (fun hc => absurd hc (by decide)) (fun hc => ?_)
  refine zw_aload_n (pc := 6) (n := 0) (i := 0) 0 (by decide +kernel) rfl rfl ?_
  refine zx_coder (pc := 7) (idx := 15) hk (by decide +kernel) zl_J0_f15 ?_
  refine zw_goto (pc := 10) (off := 4) (tgt := 14) (by decide +kernel) (by decide) ?_
  exact zw_bret (pc := 14) (ty := .byte) (by decide +kernel) rfl (by decide +kernel) (Nat.le_refl _) (Nat.le_refl _) ⟨_, _, rfl, rfl, h⟩
theorem sg_J0_isLatin1 {g : zG} {μ : zMu} {k : Nat} {φ : Int → zMu → Prop} (hk : k < 9) (h : φ 1 μ) : zOi g zm_J0_isLatin1_aae02 [.ref (90001 + k)] μ φ := by
  refine zok_of (by decide +kernel) rfl ?_
  show zWP g zm_J0_isLatin1_aae02 (zmo g zm_J0_isLatin1_aae02 (zΦi φ)) 0 [(0, .ref (90001 + k))] [] 0 0 (zw μ)
  refine zx_compact (pc := 0) (idx := 38) (by decide +kernel) zl_J0_f38 ?_
  refine zw_if_eq (pc := 3) (off := 14) (tgt := 17) (by decide +kernel) (by decide) (by decide) (fun hc => absurd hc (by decide)) (fun hc => ?_)
  refine zw_aload_n (pc := 6) (n := 0) (i := 0) 0 (by decide +kernel) rfl rfl ?_
  refine zx_coder (pc := 7) (idx := 15) hk (by decide +kernel) zl_J0_f15 ?_
  refine zw_if_ne (pc := 10) (off := 7) (tgt := 17) (by decide +kernel) (by decide) (by decide) (fun hc => absurd rfl hc) (fun hc => ?_)
  refine zw_iconst (pc := 13) (n := 1) (by decide +kernel) ?_
  refine zw_goto (pc := 14) (off := 4) (tgt := 18) (by decide +kernel) (by decide) ?_
  exact zw_zret (pc := 18) (by decide +kernel) rfl (Nat.le_refl _) (Nat.le_refl _) (Or.inr rfl) ⟨_, _, rfl, rfl, h⟩
theorem zshr0 : ∀ k, k < 9 → zshr ((zTl.getD k 0 : Nat) : Int) 0 = ((zTl.getD k 0 : Nat) : Int) := by decide +kernel
theorem sg_J0_length {g : zG} {μ : zMu} {k : Nat} {φ : Int → zMu → Prop} (hk : k < 9) (h : φ ((zTl.getD k 0 : Nat) : Int) μ) : zOi g zm_J0_length_8abf5 [.ref (90001 + k)] μ φ := by
  refine zok_of (by decide +kernel) rfl ?_
  show zWP g zm_J0_length_8abf5 (zmo g zm_J0_length_8abf5 (zΦi φ)) 0 [(0, .ref (90001 + k))] [] 0 0 (zw μ)
  refine zw_aload_n (pc := 0) (n := 0) (i := 0) 0 (by decide +kernel) rfl rfl ?_
  refine zx_value (pc := 1) (idx := 9) hk (by decide +kernel) zl_J0_f9 ?_
  refine zx_blen (pc := 4) hk (by decide +kernel) ?_
  refine zw_aload_n (pc := 5) (n := 0) (i := 0) 0 (by decide +kernel) rfl rfl ?_
  refine zx_callT (pc := 6) (As := []) (sg_J0_coder (φ := fun x μ' => x = 0 ∧ μ' = μ) hk ⟨rfl, rfl⟩) zi_J0_coder_7d493 zii_J0_coder_7d493 zie_J0_coder_7d493 zl_J0_335 (by decide +kernel) ⟨Nat.le_of_ble_eq_true rfl, Nat.le_of_ble_eq_true rfl⟩ rfl ⟨k, hk, rfl⟩ rfl rfl ⟨rfl, rfl⟩ ⟨Nat.zero_le _, Nat.zero_le _⟩ (zki (fun x μ' hx => ?_))
  obtain ⟨rfl, rfl⟩ := hx
  refine zw_ishr (pc := 9) (by decide +kernel) ?_
  rw [zshr0 k hk]
  exact zw_iret (pc := 10) (by decide +kernel) rfl (Nat.le_refl _) (Nat.le_refl _) ⟨_, _, rfl, rfl, h⟩
theorem sg_J3_checkIndex {g : zG} {μ : zMu} {x n : Int} {V : Value} {φ : Int → zMu → Prop} (hV : V = .null ∨ V = .ref 90201) (h0 : 0 ≤ x) (hx : x < n) (hn : zR n) (h : φ x μ) : zOi g zm_J3_checkIndex_8e157 [.int (zJ x), .int (zJ n), V] μ φ := by
  rcases hV with rfl | rfl
  · refine zok_of (by decide +kernel) rfl ?_
    show zWP g zm_J3_checkIndex_8e157 (zmo g zm_J3_checkIndex_8e157 (zΦi φ)) 0 [(0, .int (zJ x)), (1, .int (zJ n)), (2, .null)] [] 0 0 (zw μ)
    refine zw_iload_n (pc := 0) (n := 0) (i := 0) 0 (by decide +kernel) rfl rfl ?_
    refine zw_if_lt (pc := 1) (off := 8) (tgt := 9) (by decide +kernel) (by decide) (by omega) (fun hc => absurd hc (by omega)) (fun hc => ?_)
    refine zw_iload_n (pc := 4) (n := 0) (i := 0) 0 (by decide +kernel) rfl rfl ?_
    refine zw_iload_n (pc := 5) (n := 1) (i := 1) 1 (by decide +kernel) rfl rfl ?_
    refine zw_icmp_lt (pc := 6) (off := 10) (tgt := 16) (by decide +kernel) (by decide) (by omega) (by omega) (fun hc => ?_) (fun hc => absurd hc (by omega))
    refine zw_iload_n (pc := 16) (n := 0) (i := 0) 0 (by decide +kernel) rfl rfl ?_
    exact zw_iret (pc := 17) (by decide +kernel) rfl (Nat.le_refl _) (Nat.le_refl _) ⟨_, _, rfl, rfl, h⟩
  · refine zok_of (by decide +kernel) rfl ?_
    show zWP g zm_J3_checkIndex_8e157 (zmo g zm_J3_checkIndex_8e157 (zΦi φ)) 0 [(0, .int (zJ x)), (1, .int (zJ n)), (2, .ref 90201)] [] 0 0 (zw μ)
    refine zw_iload_n (pc := 0) (n := 0) (i := 0) 0 (by decide +kernel) rfl rfl ?_
    refine zw_if_lt (pc := 1) (off := 8) (tgt := 9) (by decide +kernel) (by decide) (by omega) (fun hc => absurd hc (by omega)) (fun hc => ?_)
    refine zw_iload_n (pc := 4) (n := 0) (i := 0) 0 (by decide +kernel) rfl rfl ?_
    refine zw_iload_n (pc := 5) (n := 1) (i := 1) 1 (by decide +kernel) rfl rfl ?_
    refine zw_icmp_lt (pc := 6) (off := 10) (tgt := 16) (by decide +kernel) (by decide) (by omega) (by omega) (fun hc => ?_) (fun hc => absurd hc (by omega))
    refine zw_iload_n (pc := 16) (n := 0) (i := 0) 0 (by decide +kernel) rfl rfl ?_
    exact zw_iret (pc := 17) (by decide +kernel) rfl (Nat.le_refl _) (Nat.le_refl _) ⟨_, _, rfl, rfl, h⟩
theorem sg_J0_checkIndex {g : zG} {μ : zMu} {x n : Int} {φ : zMu → Prop} (h0 : 0 ≤ x) (hx : x < n) (hn : zR n) (h : φ μ) : zOv g zm_J0_checkIndex_df160 [.int (zJ x), .int (zJ n)] μ φ := by
  refine zok_of (by decide +kernel) rfl ?_
  show zWP g zm_J0_checkIndex_df160 (zmo g zm_J0_checkIndex_df160 (zΦv φ)) 0 [(0, .int (zJ x)), (1, .int (zJ n))] [] 0 0 (zw μ)
  refine zw_iload_n (pc := 0) (n := 0) (i := 0) 0 (by decide +kernel) rfl rfl ?_
  refine zw_iload_n (pc := 1) (n := 1) (i := 1) 1 (by decide +kernel) rfl rfl ?_
  refine zx_formatter (pc := 2) (idx := 1053) (by decide +kernel) zl_J0_f1053 ?_ ?_
  · refine zx_callS (pc := 5) (As := [.int (zJ x), .int (zJ n), .null]) (sg_J3_checkIndex (φ := fun y μ' => μ' = μ) (Or.inl rfl) h0 hx hn rfl) zi_J3_checkIndex_8e157 zis_J3_checkIndex_8e157 zl_J0_1059 (by decide +kernel) ⟨Nat.le_of_ble_eq_true rfl, Nat.le_of_ble_eq_true rfl⟩ rfl rfl ⟨rfl, rfl⟩ ⟨Nat.zero_le _, Nat.zero_le _⟩ (zki (fun y μ' hy => ?_))
    subst hy
    refine zw_pop (pc := 8) (by decide +kernel) rfl ?_
    exact zw_vret (pc := 9) (by decide +kernel) rfl (Nat.le_refl _) (Nat.le_refl _) ⟨_, rfl, rfl, h⟩
  · refine zx_callS (pc := 5) (As := [.int (zJ x), .int (zJ n), .ref 90201]) (sg_J3_checkIndex (φ := fun y μ' => μ' = μ) (Or.inr rfl) h0 hx hn rfl) zi_J3_checkIndex_8e157 zis_J3_checkIndex_8e157 zl_J0_1059 (by decide +kernel) ⟨Nat.le_of_ble_eq_true rfl, Nat.le_of_ble_eq_true rfl⟩ rfl rfl ⟨rfl, rfl⟩ ⟨Nat.zero_le _, Nat.zero_le _⟩ (zki (fun y μ' hy => ?_))
    subst hy
    refine zw_pop (pc := 8) (by decide +kernel) rfl ?_
    exact zw_vret (pc := 9) (by decide +kernel) rfl (Nat.le_refl _) (Nat.le_refl _) ⟨_, rfl, rfl, h⟩
theorem zTc_b : ∀ k, k < 9 → ∀ x, x < zTl.getD k 0 → zand (zTc k x) 255 = zTc k x ∧ ((zJ (zTc k x)).toUInt32 % 65536).toInt32 = zJ (zTc k x) ∧ narrow .char (.int (zJ (zTc k x))) = .int (zJ (zTc k x)) := by decide +kernel
theorem sg_J1_charAt {g : zG} {μ : zMu} {k : Nat} {x : Int} {φ : Int → zMu → Prop} (hk : k < 9) (h0 : 0 ≤ x) (hx : x < (zTl.getD k 0 : Nat)) (h : φ (zTc k x.toNat) μ) : zOi g zm_J1_charAt_3b067 [.ref (90101 + k), .int (zJ x)] μ φ := by
  have hl9 : ∀ k, k < 9 → zTl.getD k 0 < 100 := by decide
  have hz := hl9 k hk
  obtain ⟨b1, b2, b3⟩ := zTc_b k hk x.toNat (by omega)
  refine zok_of (by decide +kernel) rfl ?_
  show zWP g zm_J1_charAt_3b067 (zmo g zm_J1_charAt_3b067 (zΦi φ)) 0 [(0, .ref (90101 + k)), (1, .int (zJ x))] [] 0 0 (zw μ)
  refine zw_iload_n (pc := 0) (n := 1) (i := 1) 1 (by decide +kernel) rfl rfl ?_
  refine zw_aload_n (pc := 1) (n := 0) (i := 0) 0 (by decide +kernel) rfl rfl ?_
  refine zx_blen (pc := 2) hk (by decide +kernel) ?_
  refine zx_callS (pc := 3) (As := [.int (zJ x), .int (zJ ((zTl.getD k 0 : Nat) : Int))]) (sg_J0_checkIndex (φ := fun μ' => μ' = μ) h0 hx (by omega) rfl) zi_J0_checkIndex_df160 zis_J0_checkIndex_df160 zl_J1_9 (by decide +kernel) ⟨Nat.le_of_ble_eq_true rfl, Nat.le_of_ble_eq_true rfl⟩ rfl rfl ⟨rfl, rfl⟩ ⟨Nat.zero_le _, Nat.zero_le _⟩ (zkv (fun μ' hy => ?_))
  subst hy
  refine zw_aload_n (pc := 6) (n := 0) (i := 0) 0 (by decide +kernel) rfl rfl ?_
  refine zw_iload_n (pc := 7) (n := 1) (i := 1) 1 (by decide +kernel) rfl rfl ?_
  refine zx_bald (pc := 8) hk h0 hx (by decide +kernel) ?_
  refine zw_sipush (pc := 9) (n := 255) (by decide +kernel) (by decide +kernel) ?_
  refine zw_iand (pc := 12) (by decide +kernel) ?_
  rw [b1]
  refine zw_i2c (pc := 13) (by decide +kernel) b2 ?_
  exact zw_bret (pc := 14) (ty := .char) (by decide +kernel) rfl b3 (Nat.le_refl _) (Nat.le_refl _) ⟨_, _, rfl, rfl, h⟩
theorem sg_J0_charAt {g : zG} {μ : zMu} {k : Nat} {x : Int} {φ : Int → zMu → Prop} (hk : k < 9) (h0 : 0 ≤ x) (hx : x < (zTl.getD k 0 : Nat)) (h : φ (zTc k x.toNat) μ) : zOi g zm_J0_charAt_5068e [.ref (90001 + k), .int (zJ x)] μ φ := by
  have hl9 : ∀ k, k < 9 → zTl.getD k 0 < 100 := by decide
  have hz := hl9 k hk
  obtain ⟨b1, b2, b3⟩ := zTc_b k hk x.toNat (by omega)
  refine zok_of (by decide +kernel) rfl ?_
  show zWP g zm_J0_charAt_5068e (zmo g zm_J0_charAt_5068e (zΦi φ)) 0 [(0, .ref (90001 + k)), (1, .int (zJ x))] [] 0 0 (zw μ)
  refine zw_aload_n (pc := 0) (n := 0) (i := 0) 0 (by decide +kernel) rfl rfl ?_
  refine zx_callT (pc := 1) (As := []) (sg_J0_isLatin1 (φ := fun x μ' => x = 1 ∧ μ' = μ) hk ⟨rfl, rfl⟩) zi_J0_isLatin1_aae02 zii_J0_isLatin1_aae02 zie_J0_isLatin1_aae02 zl_J0_492 (by decide +kernel) ⟨Nat.le_of_ble_eq_true rfl, Nat.le_of_ble_eq_true rfl⟩ rfl ⟨k, hk, rfl⟩ rfl rfl ⟨rfl, rfl⟩ ⟨Nat.zero_le _, Nat.zero_le _⟩ (zki (fun x μ' hx => ?_))
  obtain ⟨rfl, rfl⟩ := hx
  refine zw_if_eq (pc := 4) (off := 12) (tgt := 16) (by decide +kernel) (by decide) (by decide) (fun hc => absurd hc (by decide)) (fun hc => ?_)
  refine zw_aload_n (pc := 7) (n := 0) (i := 0) 0 (by decide +kernel) rfl rfl ?_
  refine zx_value (pc := 8) (idx := 9) hk (by decide +kernel) zl_J0_f9 ?_
  refine zw_iload_n (pc := 11) (n := 1) (i := 1) 1 (by decide +kernel) rfl rfl ?_
  refine zx_callS (pc := 12) (As := [.ref (90101 + k), .int (zJ _)]) (sg_J1_charAt (φ := fun y μ' => y = zTc k (Int.toNat _) ∧ μ' = _) hk h0 hx ⟨rfl, rfl⟩) zi_J1_charAt_3b067 zis_J1_charAt_3b067 zl_J0_495 (by decide +kernel) ⟨Nat.le_of_ble_eq_true rfl, Nat.le_of_ble_eq_true rfl⟩ rfl rfl ⟨rfl, rfl⟩ ⟨Nat.zero_le _, Nat.zero_le _⟩ (zki (fun y μ' hy => ?_))
  obtain ⟨rfl, rfl⟩ := hy
  exact zw_bret (pc := 15) (ty := .char) (by decide +kernel) rfl b3 (Nat.le_refl _) (Nat.le_refl _) ⟨_, _, rfl, rfl, h⟩
