/-! RULES of calls -/
theorem z_opt (g : zG) (r : Option Value) (st : List Value) : (r.map (ztv g)).toList ++ st.map (ztv g) = (r.toList ++ st).map (ztv g) := by cases r <;> rfl
theorem z_rev (g : zG) (As : List Value) (st : List Value) : (As.reverse ++ st).map (ztv g) = (As.map (ztv g)).reverse ++ st.map (ztv g) := by rw [List.map_append, List.map_reverse]
theorem z_sum (g : zG) (st : List Value) : ((st.map (ztv g)).map fun v => v.category).sum = (st.map fun v => v.category).sum := by
  rw [List.map_map]
  congr 1
  apply List.map_congr_left
  intro v _
  exact ztv_cat g v
section ZC
variable {g : zG} {M : zM} {mo : zMo} {pc nc ns : Nat} {lv : List (Nat × Value)} {st : List Value} {w : zWS}
theorem zw_run {p : Program} {e : Env} {s : State} {m : MethodId} {args : Array Value} {below : List Frame} {meth : Method} {c : Code} {H : Heap} {locs : List Loc} {ls : Array Slot} {mc ms : Nat} {Φ : Option Value → zWS → Prop} {a : Array Value} {st0 : List Value}
    (hr : va_Run p (zgl g) e M.2.2.2.2 s m args below meth c H locs nc ns mc ms (F0 m pc ls st0) (st.map (ztv g)) (zQ g Φ a) (zA g)) (C : zCX g M mo.1 p s m args meth c) (hl : lv_has ls M.2.2.1 (zlv g lv)) (hS : va_S (zA g) s.heap H locs)
    (kk : ∀ r w', Φ r w' → zWP g M mo (pc + 3) lv (r.toList ++ st) (nc + mc) (ns + ms) w') : W p (zgl g) e M.2.2.2.2 s m args below meth c H locs nc ns (mo.2 below args s) (F0 m pc ls st0) := by
  intro T hT X
  obtain ⟨v, st₀, t, T', L, h0, X', hL, e1, e2, ⟨⟨r, w', hv, hp, hb⟩, hz, hk⟩, stp⟩ := hr T hT X
  cases hv
  rw [h0] at hz hk
  obtain ⟨t2, a1, b1⟩ := kk r w' hp p e s m args below meth c T'.heap (locs ++ L) ls C hl (by rw [e1]; exact hb)
    ⟨Nat.le_trans hS.1 (by rw [e1]; exact hz), fun q h1 h2 => by rw [e1, hk q (Nat.lt_of_lt_of_le h1 hS.1) h2]; exact hS.2.1 q h1 h2, fun q hq => by
      rcases List.mem_append.mp hq with h | h
      · exact hS.2.2 q h
      · exact hL q h⟩ T' rfl X'
  rw [← z_opt] at a1
  exact ⟨t2, stp t2 a1, b1⟩
theorem z_pre {p : Program} {s : State} {m : MethodId} {args : Array Value} {meth : Method} {c : Code} {H : Heap} {locs : List Loc} (C : zCX g M mo.1 p s m args meth c) (hW : zHW g w H) (hS : va_S (zA g) s.heap H locs) (As : List Value) :
    PreS s H (va_Pc (As.map (ztv g)) (fun U => zU g U ∧ zgB g ≤ U.heap.size ∧ zHW g w U.heap)) (As.map (ztv g)) :=
  ⟨z_blind, fun U hU hv => ⟨rfl, zUwarm hv (fun a h1 h2 => by rw [hU]; exact hS.2.1 a h1 h2) C.2.2.2.2.2.2.2.2.1, by rw [hU]; exact Nat.le_trans C.2.2.2.2.2.2.2.2.2.1 hS.1, by rw [hU]; exact hW⟩⟩
theorem zw_callV {M' : zM} {idx kc n b k : Nat} {As : List Value} (hcal : zCal M' n) (hin : Cond.instanceMethod M'.1 ∈ ztbl) (hse : Cond.selects M'.1.cls M'.1 M'.1 ∈ ztbl) (hli : Cond.methodLink M.1.cls idx M'.1 ∈ ztbl) (hd : decode M.2.1 pc = .ok (.invokevirtual idx, 3)) (hrm : zRm M M') (hn : As.length = n)
    (hs : w.1[b]? = some (kc, k)) (hkc : kc < 12) (hcls : (vwCl.map (fun q => q.1))[kc]? = some M'.1.cls) (hsum : Nat.ble (st.map fun v => v.category).sum 8 = true) (hc1 : nc + M'.2.2.2.2.cells ≤ M.2.2.2.2.cells) (hc2 : ns + M'.2.2.2.2.slots ≤ M.2.2.2.2.slots)
    (hOK : zOK g M' (.ref b :: As) w (fun r w' => zWP g M mo (pc + 3) lv (r.toList ++ st) (nc + M'.2.2.2.2.cells) (ns + M'.2.2.2.2.slots) w')) : zWP g M mo pc lv (As.reverse ++ .ref b :: st) nc ns w := by
  intro p e s m args below meth c H locs ls C hl hW hS
  have hts := C.2.2.2.2.1
  have he := zwl_get (g := g) hs hW.2.2
  rw [zce_ob hkc] at he
  obtain ⟨q, hq, hqc⟩ : ∃ q, vwCl[kc]? = some q ∧ q.1 = M'.1.cls := by
    rw [List.getElem?_map] at hcls
    cases hz : vwCl[kc]? with
    | none => rw [hz] at hcls; cases hcls
    | some q => rw [hz] at hcls; exact ⟨q, rfl, Option.some.inj hcls⟩
  have hrecv := va_recv C.2.2.2.2.2.2.2.2.1.1 hW.1 hq he
  rw [hqc] at hrecv
  have hall : ∀ x ∈ wsV M.1.cls idx M'.1.cls M'.1 (zws M'), x ∈ ztbl := fun x hx => by
    rcases List.mem_append.mp hx with h | h
    · simp only [List.mem_cons, List.not_mem_nil, or_false] at h
      rcases h with rfl | rfl | rfl | rfl
      · exact hli
      · exact hin
      · exact hse
      · exact hcal.1
    · exact zws_in hcal x h
  rw [z_rev, List.map_cons]
  refine zw_run (st := st) (va_runV (As := As.map (ztv g)) (rest := st.map (ztv g)) (b := zad g b) ⟨C.1, C.2.1, C.2.2.1, C.2.2.2.2.2.1, hts⟩ hOK (cwV n hts (z_goodIn hall) rfl rfl rfl ⟨rfl, hcal.2.2⟩ hrm) ⟨z_blind, hrecv, (z_pre C hW hS (.ref b :: As)).2⟩ rfl (by rw [List.length_map]; exact hn) hl.1 rfl (lv_room (by rw [z_sum]; exact Nat.le_of_ble_eq_true hsum)) hd ⟨hc1, hc2⟩) C hl hS (fun r w' h => h)
theorem zw_callS {M' : zM} {idx n : Nat} {As : List Value} (hcal : zCal M' n) (hst : Cond.static M'.1 ∈ ztbl) (hli : Cond.methodLink M.1.cls idx M'.1 ∈ ztbl) (hd : decode M.2.1 pc = .ok (.invokestatic idx, 3)) (hrm : zRm M M') (hn : As.length = n)
    (hsum : Nat.ble (st.map fun v => v.category).sum 8 = true) (hc1 : nc + M'.2.2.2.2.cells ≤ M.2.2.2.2.cells) (hc2 : ns + M'.2.2.2.2.slots ≤ M.2.2.2.2.slots)
    (hOK : zOK g M' As w (fun r w' => zWP g M mo (pc + 3) lv (r.toList ++ st) (nc + M'.2.2.2.2.cells) (ns + M'.2.2.2.2.slots) w')) : zWP g M mo pc lv (As.reverse ++ st) nc ns w := by
  intro p e s m args below meth c H locs ls C hl hW hS
  have hts := C.2.2.2.2.1
  have hall : ∀ x ∈ va_wsS M.1.cls idx M'.1 (zws M'), x ∈ ztbl := fun x hx => by
    rcases List.mem_append.mp hx with h | h
    · simp only [List.mem_cons, List.not_mem_nil, or_false] at h
      rcases h with rfl | rfl | rfl
      · exact hli
      · exact hst
      · exact hcal.1
    · exact zws_in hcal x h
  rw [z_rev]
  refine zw_run (st := st) (va_runS (As := As.map (ztv g)) (rest := st.map (ztv g)) ⟨C.1, C.2.1, C.2.2.1, C.2.2.2.2.2.1, hts⟩ hOK (va_cwS n hts (z_goodIn hall) rfl rfl rfl hcal.2.2 hrm) (z_pre C hW hS As) rfl (by rw [List.length_map]; exact hn) hl.1 rfl (lv_room (by rw [z_sum]; exact Nat.le_of_ble_eq_true hsum)) hd ⟨hc1, hc2⟩) C hl hS (fun r w' h => h)
theorem zw_callSN {M' : zM} {idx n : Nat} {host : String} {As : List Value} (hcal : zCal M' n) (hst : Cond.static M'.1 ∈ ztbl) (hne : (M.1.cls, idx, M'.1, host) ∈ zNest) (hd : decode M.2.1 pc = .ok (.invokestatic idx, 3)) (hrm : zRm M M') (hn : As.length = n)
    (hsum : Nat.ble (st.map fun v => v.category).sum 8 = true) (hc1 : nc + M'.2.2.2.2.cells ≤ M.2.2.2.2.cells) (hc2 : ns + M'.2.2.2.2.slots ≤ M.2.2.2.2.slots)
    (hOK : zOK g M' As w (fun r w' => zWP g M mo (pc + 3) lv (r.toList ++ st) (nc + M'.2.2.2.2.cells) (ns + M'.2.2.2.2.slots) w')) : zWP g M mo pc lv (As.reverse ++ st) nc ns w := by
  intro p e s m args below meth c H locs ls C hl hW hS
  have hts := C.2.2.2.2.1
  rw [z_rev]
  refine zw_run (st := st) (va_runSN (As := As.map (ztv g)) (rest := st.map (ztv g)) ⟨C.1, C.2.1, C.2.2.1, C.2.2.2.2.2.1, hts⟩ hOK ⟨va_cnB n hts (z_goodIn (zws_in hcal)) rfl rfl rfl (C.2.2.2.2.2.2.2.2.1.2.1 _ hne) (hts _ hcal.1) hcal.2.2 hrm, hts _ hst, trivial⟩ (z_pre C hW hS As) rfl (by rw [List.length_map]; exact hn) hl.1 rfl (lv_room (by rw [z_sum]; exact Nat.le_of_ble_eq_true hsum)) hd ⟨hc1, hc2⟩) C hl hS (fun r w' h => h)
theorem zw_callIN {M' : zM} {idx n b : Nat} {host : String} {As : List Value} (hcal : zCal M' n) (hr : M'.2.2.2.1 = none) (hin : Cond.instanceMethod M'.1 ∈ ztbl) (hne : (M.1.cls, idx, M'.1, host) ∈ zNest) (hini : M'.1.name = "<init>") (hd : decode M.2.1 pc = .ok (.invokespecial idx, 3)) (hrm : zRm M M') (hn : As.length = n)
    (hsum : Nat.ble (st.map fun v => v.category).sum 8 = true) (hc1 : nc + M'.2.2.2.2.cells ≤ M.2.2.2.2.cells) (hc2 : ns + M'.2.2.2.2.slots ≤ M.2.2.2.2.slots)
    (hOK : zOK g M' (.ref b :: As) w (fun r w' => zWP g M mo (pc + 3) lv (r.toList ++ st) (nc + M'.2.2.2.2.cells) (ns + M'.2.2.2.2.slots) w')) : zWP g M mo pc lv (As.reverse ++ .ref b :: st) nc ns w := by
  intro p e s m args below meth c H locs ls C hl hW hS
  have hts := C.2.2.2.2.1
  rw [z_rev, List.map_cons]
  refine zw_run (st := st) (va_runIN (As := As.map (ztv g)) (rest := st.map (ztv g)) (b := zad g b) ⟨C.1, C.2.1, C.2.2.1, C.2.2.2.2.2.1, hts⟩ hOK ⟨va_cnB n hts (z_goodIn (zws_in hcal)) (by rw [zws, hr]) rfl rfl (C.2.2.2.2.2.2.2.2.1.2.1 _ hne) (hts _ hcal.1) hcal.2.2 hrm, hini, hts _ hin⟩ (z_pre C hW hS (.ref b :: As)) rfl (by rw [List.length_map]; exact hn) hl.1 rfl (lv_room (by rw [z_sum]; exact Nat.le_of_ble_eq_true hsum)) hd ⟨hc1, hc2⟩) C hl hS (fun r w' h => h)
theorem zw_callI {M' : zM} {idx n b : Nat} {As : List Value} (hcal : zCal M' n) (hr : M'.2.2.2.1 = none) (hin : Cond.instanceMethod M'.1 ∈ ztbl) (hli : Cond.methodLink M.1.cls idx M'.1 ∈ ztbl) (hini : M'.1.name = "<init>") (hd : decode M.2.1 pc = .ok (.invokespecial idx, 3)) (hrm : zRm M M') (hn : As.length = n)
    (hsum : Nat.ble (st.map fun v => v.category).sum 8 = true) (hc1 : nc + M'.2.2.2.2.cells ≤ M.2.2.2.2.cells) (hc2 : ns + M'.2.2.2.2.slots ≤ M.2.2.2.2.slots)
    (hOK : zOK g M' (.ref b :: As) w (fun r w' => zWP g M mo (pc + 3) lv (r.toList ++ st) (nc + M'.2.2.2.2.cells) (ns + M'.2.2.2.2.slots) w')) : zWP g M mo pc lv (As.reverse ++ .ref b :: st) nc ns w := by
  intro p e s m args below meth c H locs ls C hl hW hS
  have hts := C.2.2.2.2.1
  rw [z_rev, List.map_cons]
  refine zw_run (st := st) (va_runI (As := As.map (ztv g)) (rest := st.map (ztv g)) (b := zad g b) ⟨C.1, C.2.1, C.2.2.1, C.2.2.2.2.2.1, hts⟩ hOK (cwI n hts (z_goodIn (zws_in hcal)) (by rw [zws, hr]) rfl rfl (hts _ hcal.1) (hts _ hli) (hts _ hin) hini hcal.2.2 hrm) (z_pre C hW hS (.ref b :: As)) rfl (by rw [List.length_map]; exact hn) hl.1 rfl (lv_room (by rw [z_sum]; exact Nat.le_of_ble_eq_true hsum)) hd ⟨hc1, hc2⟩) C hl hS (fun r w' h => h)
end ZC
-- typed: what comes back
section ZT
variable {g : zG} {M : zM} {args : List Value} {w : zWS}
theorem zOKi.to {φ : Int → zWS → Prop} {Ψ : Option Value → zWS → Prop} (h : zOKi g M args w φ) (k : ∀ x w', φ x w' → Ψ (some (.int (zJ x))) w') : zOK g M args w Ψ := zOK.mono h (fun r w' ⟨x, hx, hp⟩ => by rw [hx]; exact k x w' hp)
theorem zOKl.to {φ : Int → zWS → Prop} {Ψ : Option Value → zWS → Prop} (h : zOKl g M args w φ) (k : ∀ x w', φ x w' → Ψ (some (.long (zL x))) w') : zOK g M args w Ψ := zOK.mono h (fun r w' ⟨x, hx, hp⟩ => by rw [hx]; exact k x w' hp)
theorem zOKr.to {φ : Nat → zWS → Prop} {Ψ : Option Value → zWS → Prop} (h : zOKr g M args w φ) (k : ∀ x w', φ x w' → Ψ (some (.ref x)) w') : zOK g M args w Ψ := zOK.mono h (fun r w' ⟨x, hx, hp⟩ => by rw [hx]; exact k x w' hp)
theorem zOKv.to {φ : zWS → Prop} {Ψ : Option Value → zWS → Prop} (h : zOKv g M args w φ) (k : ∀ w', φ w' → Ψ none w') : zOK g M args w Ψ := zOK.mono h (fun r w' ⟨hx, hp⟩ => by rw [hx]; exact k w' hp)
end ZT
section ZB
variable {g : zG} {M : zM} {mo : zMo} {pc nc ns : Nat} {lv : List (Nat × Value)} {st : List Value} {w : zWS}
-- Math, arraycopy
theorem zw_min {idx : Nat} {x y : Int} (hli : Cond.methodLink M.1.cls idx Lib.Math.min.name ∈ ztbl) (hst : Cond.static Lib.Math.min.name ∈ ztbl) (hini : Cond.initialized "java/lang/Math" ∈ ztbl) (hco : Cond.code Lib.Math.min.name Lib.Math.min.code 2 (some .int) ∈ ztbl) (hd : decode M.2.1 pc = .ok (.invokestatic idx, 3))
    (hrm : 1 ≤ M.2.2.2.2.frames ∧ 21 ≤ M.2.2.2.2.locals) (hc1 : nc ≤ M.2.2.2.2.cells) (hc2 : ns ≤ M.2.2.2.2.slots) (hsum : Nat.ble (st.map fun v => v.category).sum 8 = true) (hx : zR x) (hy : zR y) (kk : zWP g M mo (pc + 3) lv (.int (zJ (min x y)) :: st) nc ns w) : zWP g M mo pc lv (.int (zJ y) :: .int (zJ x) :: st) nc ns w := by
  intro p e s m args below meth c H locs ls C hl hW hS
  have hts := C.2.2.2.2.1
  have h8 := Nat.le_of_ble_eq_true hsum
  refine va_mmin C.1 C.2.1 (C.2.2.1.trans hl.1.symm) C.2.2.2.2.2.1 (hts _ hli) (hts _ hst) (hts _ hini) (hts _ hco) hrm.1 (by rw [z_sum]; have := hrm.2; omega) hc1 hc2 hd ?_
  have e2 : (if zJ y < zJ x then zJ y else zJ x) = zJ (min x y) := by
    by_cases h : y < x
    · rw [if_pos ((zJ_lt hy hx).mpr h), show min x y = y by omega]
    · rw [if_neg (fun q => h ((zJ_lt hy hx).mp q)), show min x y = x by omega]
  rw [e2]
  exact kk p e s m args below meth c H locs ls C hl hW hS
theorem zw_max {idx : Nat} {x y : Int} (hli : Cond.methodLink M.1.cls idx Lib.Math.max.name ∈ ztbl) (hst : Cond.static Lib.Math.max.name ∈ ztbl) (hini : Cond.initialized "java/lang/Math" ∈ ztbl) (hco : Cond.code Lib.Math.max.name Lib.Math.max.code 2 (some .int) ∈ ztbl) (hd : decode M.2.1 pc = .ok (.invokestatic idx, 3))
    (hrm : 1 ≤ M.2.2.2.2.frames ∧ 21 ≤ M.2.2.2.2.locals) (hc1 : nc ≤ M.2.2.2.2.cells) (hc2 : ns ≤ M.2.2.2.2.slots) (hsum : Nat.ble (st.map fun v => v.category).sum 8 = true) (hx : zR x) (hy : zR y) (kk : zWP g M mo (pc + 3) lv (.int (zJ (max x y)) :: st) nc ns w) : zWP g M mo pc lv (.int (zJ y) :: .int (zJ x) :: st) nc ns w := by
  intro p e s m args below meth c H locs ls C hl hW hS
  have hts := C.2.2.2.2.1
  have h8 := Nat.le_of_ble_eq_true hsum
  refine va_mmax C.1 C.2.1 (C.2.2.1.trans hl.1.symm) C.2.2.2.2.2.1 (hts _ hli) (hts _ hst) (hts _ hini) (hts _ hco) hrm.1 (by rw [z_sum]; have := hrm.2; omega) hc1 hc2 hd ?_
  have e2 : (if zJ x < zJ y then zJ y else zJ x) = zJ (max x y) := by
    by_cases h : x < y
    · rw [if_pos ((zJ_lt hx hy).mpr h), show max x y = y by omega]
    · rw [if_neg (fun q => h ((zJ_lt hx hy).mp q)), show max x y = x by omega]
  rw [e2]
  exact kk p e s m args below meth c H locs ls C hl hW hS
/-- a cell's numbers, some of another's put in -/
def zcpy (w : zWS) (a sp b dp n : Nat) : zWS := zuA w b (fun k => if dp ≤ k ∧ k < dp + n then w.2.2 a (sp + (k - dp)) else w.2.2 b k)
theorem zw_copy {idx a b n0 n1 : Nat} {sp dp n : Int} (hli : Cond.methodLink M.1.cls idx arraycopyName ∈ ztbl) (hna : Cond.native arraycopyName ∈ ztbl) (hst : Cond.static arraycopyName ∈ ztbl) (hini : Cond.initialized "java/lang/System" ∈ ztbl) (hd : decode M.2.1 pc = .ok (.invokestatic idx, 3))
    (hrm : 1 ≤ M.2.2.2.2.frames ∧ 8 + (nativeFrameWords "java/lang/System" "arraycopy" 5 + 11) ≤ M.2.2.2.2.locals) (hsum : Nat.ble (st.map fun v => v.category).sum 8 = true) (hsa : w.1[a]? = some (12, n0)) (hsb : w.1[b]? = some (12, n1)) (h1 : 0 ≤ sp) (h2 : 0 ≤ dp) (h3 : 0 ≤ n) (h4 : sp + n ≤ n0) (h5 : dp + n ≤ n1) (hn0 : n0 < 2147483648) (hn1 : n1 < 2147483648)
    (kk : zWP g M mo (pc + 3) lv st nc ns (zcpy w a sp.toNat b dp.toNat n.toNat)) : zWP g M mo pc lv (.int (zJ n) :: .int (zJ dp) :: .ref b :: .int (zJ sp) :: .ref a :: st) nc ns w := by
  intro p e s m args below meth c H locs ls C hl hW hS
  have hts := C.2.2.2.2.1
  have h8 := Nat.le_of_ble_eq_true hsum
  have ea := zwl_get (g := g) hsa hW.2.2
  have eb := zwl_get (g := g) hsb hW.2.2
  rw [zce_ar] at ea eb
  have rs : zR sp := ⟨by omega, by omega⟩
  have rd : zR dp := ⟨by omega, by omega⟩
  have rn : zR n := ⟨by omega, by omega⟩
  have cs : (zJ sp).toNatClampNeg = sp.toNat := by show (zJ sp).toInt.toNat = _; rw [zJ_toInt rs]
  have cd : (zJ dp).toNatClampNeg = dp.toNat := by show (zJ dp).toInt.toNat = _; rw [zJ_toInt rd]
  have cn : (zJ n).toNatClampNeg = n.toNat := by show (zJ n).toInt.toNat = _; rw [zJ_toInt rn]
  have hK := C.2.2.2.2.2.2.2.2.1.1
  have hc0 : H[zad g a]? = some (vp_cell (zgc g 12) (n0, .inl (fun j => zJ (w.2.2 a j)))) := hW.1 a _ ea
  have hc1 : H[zad g b]? = some (vp_cell (zgc g 12) (n1, .inl (fun j => zJ (w.2.2 b j)))) := hW.1 b _ eb
  obtain ⟨-, k0, hk0, cm0, hkk0⟩ := (hK.2 0 _ rfl).1 n0 (fun j => .int (zJ (w.2.2 a j)))
  intro T hT X
  obtain ⟨vm', X', step⟩ := X.arraycopy C.1 C.2.2.2.2.2.1 (hts _ hli) (hts _ hna) (hts _ hst) (hts _ hini) (src := zad g a) (dst := zad g b) (cs := vp_cell (zgc g 12) (n0, .inl (fun j => zJ (w.2.2 a j)))) (cd := vp_cell (zgc g 12) (n1, .inl (fun j => zJ (w.2.2 b j)))) (srcPos := zJ sp) (destPos := zJ dp) (n := zJ n) (by rw [hT]; exact hc0) (by rw [hT]; exact hc1)
    (fun _ h => by cases h) (fun _ h => by cases h) (fun h => by cases h) (fun h => by cases h) hk0 hk0 hkk0 hkk0 (by simp [refKind]) (fun q => by have := (zJ_lt rs zR0).mp q; omega) (fun q => by have := (zJ_lt rd zR0).mp q; omega) (fun q => by have := (zJ_lt rn zR0).mp q; omega)
    (by rw [zJ_toInt rs, zJ_toInt rn]; show ¬ _ > ((arrV (zgc g 12) n0 (fun j => .int (zJ (w.2.2 a j)))).slots.size : Int); rw [arrV_size]; omega)
    (by rw [zJ_toInt rd, zJ_toInt rn]; show ¬ _ > ((arrV (zgc g 12) n1 (fun j => .int (zJ (w.2.2 b j)))).slots.size : Int); rw [arrV_size]; omega)
    (fun vm₁ _ i hi => by
      have ee : (vp_cell (zgc g 12) (n0, .inl (fun j => zJ (w.2.2 a j)))).slots.getD ((zJ sp).toNatClampNeg + i) .null = .int (zJ (w.2.2 a ((zJ sp).toNatClampNeg + i))) := by
        show (arrV (zgc g 12) n0 (fun j => .int (zJ (w.2.2 a j)))).slots.getD _ _ = _
        rw [Array.getD_eq_getD_getElem?, arrV_read _ _ (by rw [cs]; rw [cn] at hi; omega)]
        rfl
      refine ⟨?_, ?_⟩
      · rw [ee]; rfl
      · rw [ee]; exact trivial)
    (g := F0 m pc ls _) rfl (by rw [C.2.2.1]; exact hl.1) (rest := st.map (ztv g)) rfl (by rw [C.2.1]; exact hd) hrm.1 (by rw [z_sum]; show 2 * 0 + _ + _ ≤ _; have := hrm.2; omega)
  have e1' : copied (vp_cell (zgc g 12) (n0, .inl (fun j => zJ (w.2.2 a j)))) (vp_cell (zgc g 12) (n1, .inl (fun j => zJ (w.2.2 b j)))) (zJ sp) (zJ dp) (zJ n) = vp_cell (zgc g 12) (n1, .inl (va_cpy (fun j => zJ (w.2.2 a j)) (fun j => zJ (w.2.2 b j)) sp.toNat dp.toNat n.toNat)) := by rw [← cs, ← cd, ← cn]; exact va_copied (fun z => Value.int z) (zgc g 12) (zgc g 12) (fun j => zJ (w.2.2 a j)) (fun j => zJ (w.2.2 b j)) (by rw [cs, cn]; omega)
  rw [e1'] at X' step
  have hlt : zad g b < H.size := (Array.getElem?_eq_some_iff.mp hc1).1
  generalize hV : vp_cell (zgc g 12) (n1, .inl (va_cpy (fun j => zJ (w.2.2 a j)) (fun j => zJ (w.2.2 b j)) sp.toNat dp.toNat n.toNat)) = V at X' step
  have hheap : ((T.setVm vm').setCell (zad g b) V).heap = H.setIfInBounds (zad g b) V := by rw [← hT]; rfl
  have oq : ∀ q : Nat, q ≠ zad g b → (H.setIfInBounds (zad g b) V)[q]? = H[q]? := fun q hq => by simp [Array.getElem?_setIfInBounds, Ne.symm hq]
  have hW' : zHW g (zcpy w a sp.toNat b dp.toNat n.toNat) (H.setIfInBounds (zad g b) V) := by
    refine ⟨?_, by simp; exact hW.2.1, hW.2.2⟩
    rw [zcpy, ← zw_aI (f := va_cpy (fun j => zJ (w.2.2 a j)) (fun j => zJ (w.2.2 b j)) sp.toNat dp.toNat n.toNat) hsb hW.2.2 (fun k => (apply_ite zJ _ _ _).symm)]
    refine hW.1.set (zwl_D g w) eb ?_ oq
    show (H.setIfInBounds (zad g b) V)[zad g b]? = some (vp_cell _ _)
    rw [hV]
    simp [Array.getElem?_setIfInBounds, hlt]
  obtain ⟨t, a1, b1⟩ := kk p e s m args below meth c _ _ ls C hl hW' ⟨by simp; exact hS.1, fun q g1 g2 => by
      rw [oq q (fun ee => g2 (by rw [ee]; exact z_in hW hsb))]
      exact hS.2.1 q g1 g2, fun q hq => by
      rcases List.mem_append.mp hq with h | h
      · exact hS.2.2 q h
      · obtain ⟨z, -, hz⟩ := List.mem_map.mp h
        rw [← hz]
        exact z_in hW hsb⟩ _ hheap X'
  exact ⟨t, step t a1, b1⟩
end ZB
