/-! THE SAME over worlds S ++ l: S ends with the object that is being made, l is what it has made so far -/
theorem zk_at {S l : List (Nat × Nat)} {c k j : Nat} {x : Nat × Nat} (hS : S.length = c + 1) (hk : k = j + 1) (h : l[j]? = some x) : (S ++ l)[c + k]? = some x := by
  subst hk
  rw [List.getElem?_append_right (by omega), show c + (j + 1) - S.length = j by omega]
  exact h
theorem zk_at0 {S l : List (Nat × Nat)} {c : Nat} {x : Nat × Nat} (hS : S.length = c + 1) (h : S[c]? = some x) : (S ++ l)[c]? = some x := by
  rw [List.getElem?_append_left (by omega)]
  exact h
theorem zk_len {S l : List (Nat × Nat)} {c k : Nat} (hS : S.length = c + 1) (hk : 1 + l.length = k) : (S ++ l).length = c + k := by rw [List.length_append]; omega
section ZK
variable {g : zG} {M : zM} {mo : zMo} {pc nc ns : Nat} {lv : List (Nat × Value)} {st : List Value} {S l : List (Nat × Nat)} {L : List (Nat × Nat × Nat)} {I : zMu} {c k : Nat}
theorem zk_new {idx kc N : Nat} {C : String} (hB : zNB kc N C) (hli : Cond.classLink M.1.cls idx C ∈ ztbl) (hins : Cond.instantiable C N ∈ ztbl) (hini : Cond.initialized C ∈ ztbl) (hd : decode M.2.1 pc = .ok (.new idx, 3)) (hS : S.length = c + 1) (hc : c < 80000) (hfr : zfrs (S ++ l, zrl L, I)) (hk : 1 + l.length = k) (hk2 : k < 5000) (hc1 : nc + 1 ≤ M.2.2.2.2.cells) (hc2 : ns + N ≤ M.2.2.2.2.slots)
    (kk : zfrs (S ++ (l ++ [(kc, N)]), zrl L, I) → zWP g M mo (pc + 3) lv (.ref (c + k) :: st) (nc + 1) (ns + N) (S ++ (l ++ [(kc, N)]), zrl L, I)) : zWP g M mo pc lv st nc ns (S ++ l, zrl L, I) := by
  have hl := zk_len hS hk
  refine zw_new hB hli hins hini hd hfr (by show (S ++ l).length + 1 < 90000; omega) hc1 hc2 hl ?_
  show zWP g M mo (pc + 3) lv (.ref (c + k) :: st) (nc + 1) (ns + N) ((S ++ l) ++ [(kc, N)], zrl L, I)
  rw [List.append_assoc]
  exact kk (by rw [← List.append_assoc]; exact zfrs_app hfr)
theorem zk_newA {n : Nat} {x : Int} (hx : x = (n : Int)) (hd : decode M.2.1 pc = .ok (.newarray .int, 2)) (hS : S.length = c + 1) (hc : c < 80000) (hfr : zfrs (S ++ l, zrl L, I)) (hk : 1 + l.length = k) (hk2 : k < 5000) (hn : n ≤ 100000) (hc1 : nc + 1 ≤ M.2.2.2.2.cells) (hc2 : ns + n ≤ M.2.2.2.2.slots)
    (kk : zfrs (S ++ (l ++ [(12, n)]), zrl L, I) → zWP g M mo (pc + 2) lv (.ref (c + k) :: st) (nc + 1) (ns + n) (S ++ (l ++ [(12, n)]), zrl L, I)) : zWP g M mo pc lv (.int (zJ x) :: st) nc ns (S ++ l, zrl L, I) := by
  have hl := zk_len hS hk
  refine zw_newA hx hd hfr (by show (S ++ l).length + 1 < 90000; omega) hn hc1 hc2 hl ?_
  show zWP g M mo (pc + 2) lv (.ref (c + k) :: st) (nc + 1) (ns + n) ((S ++ l) ++ [(12, n)], zrl L, I)
  rw [List.append_assoc]
  exact kk (by rw [← List.append_assoc]; exact zfrs_app hfr)
theorem zk_newQ {n t0 idx kq : Nat} {x : Int} {C : String} (hkq : 12 < kq) (ht : ∀ g : zG, (zTys g)[t0]? = some (zgc g kq, .object C)) (hAO : ∀ s, mo.1 s → va_AO C s) (hli : Cond.classLink M.1.cls idx C ∈ ztbl) (hx : x = (n : Int)) (hd : decode M.2.1 pc = .ok (.anewarray idx, 3)) (hS : S.length = c + 1) (hc : c < 80000) (hfr : zfrs (S ++ l, zrl L, I)) (hk : 1 + l.length = k) (hk2 : k < 5000) (hn : n ≤ 100000) (hc1 : nc + 1 ≤ M.2.2.2.2.cells) (hc2 : ns + n ≤ M.2.2.2.2.slots)
    (kk : zfrs (S ++ (l ++ [(kq, n)]), zrl L, I) → zWP g M mo (pc + 3) lv (.ref (c + k) :: st) (nc + 1) (ns + n) (S ++ (l ++ [(kq, n)]), zrl L, I)) : zWP g M mo pc lv (.int (zJ x) :: st) nc ns (S ++ l, zrl L, I) := by
  have hl := zk_len hS hk
  refine zw_newQ hkq ht hAO hli hx hd hfr (by show (S ++ l).length + 1 < 90000; omega) hn hc1 hc2 hl ?_
  show zWP g M mo (pc + 3) lv (.ref (c + k) :: st) (nc + 1) (ns + n) ((S ++ l) ++ [(kq, n)], zrl L, I)
  rw [List.append_assoc]
  exact kk (by rw [← List.append_assoc]; exact zfrs_app hfr)
theorem zk_newM {n m idx : Nat} {x y : Int} (hEX : ∀ s, mo.1 s → zEX s) (hli : Cond.classLink M.1.cls idx "[[I" ∈ ztbl) (hx : x = (n : Int)) (hy : y = (m : Int)) (hd : decode M.2.1 pc = .ok (.multianewarray idx 2, 4)) (hS : S.length = c + 1) (hc : c < 80000) (hfr : zfrs (S ++ l, zrl L, I)) (hk : 1 + l.length = k) (hk2 : k < 5000) (hn : n ≤ 1000) (hm : m ≤ 100000) (hc1 : nc + (1 + n) ≤ M.2.2.2.2.cells) (hc2 : ns + (n + n * m) ≤ M.2.2.2.2.slots)
    (kk : zfrs (S ++ (l ++ ((15, n) :: List.replicate n (12, m))), zrl ((List.range n).map (fun j => (c + k, j, c + k + 1 + j)) ++ L), I) → zWP g M mo (pc + 4) lv (.ref (c + k) :: st) (nc + (1 + n)) (ns + (n + n * m)) (S ++ (l ++ ((15, n) :: List.replicate n (12, m))), zrl ((List.range n).map (fun j => (c + k, j, c + k + 1 + j)) ++ L), I)) : zWP g M mo pc lv (.int (zJ y) :: .int (zJ x) :: st) nc ns (S ++ l, zrl L, I) := by
  have hl := zk_len hS hk
  refine zw_newM (R := zrl ((List.range n).map (fun j => (c + k, j, c + k + 1 + j)) ++ L)) hEX hli hx hy hd hfr (by show (S ++ l).length + (1 + n) < 90000; omega) (by omega) hm hc1 hc2 hl (fun a i => zrl_range _ _ _ _ _) ?_
  show zWP g M mo (pc + 4) lv (.ref (c + k) :: st) (nc + (1 + n)) (ns + (n + n * m)) ((S ++ l) ++ ((15, n) :: List.replicate n (12, m)), _, I)
  rw [List.append_assoc]
  refine kk (fun a ha j => ?_)
  have ha' : (S ++ (l ++ ((15, n) :: List.replicate n (12, m)))).length ≤ a := ha
  rw [← List.append_assoc, List.length_append, List.length_cons] at ha'
  refine ⟨?_, (hfr a (by show (S ++ l).length ≤ a; omega) j).2⟩
  show zrl _ a j = none
  rw [zrl_range, if_neg (fun q => by omega)]
  exact (hfr a (by show (S ++ l).length ≤ a; omega) j).1
theorem zk_putR {i j idx kc n r : Nat} {ty : FieldType} (hF : zFL M.1.cls idx kc j ty true) (hty : (∃ C, ty = .object C) ∨ ∃ t, ty = .array t) (hd : decode M.2.1 pc = .ok (.putfield idx, 3)) (hr : (zRk kc).getD j false = true) (hs : (S ++ l)[i]? = some (kc, n)) (hown : (vwCl.map (fun q => q.1))[kc]? = some M.1.cls) (hini : M.1.name = "<init>") (hfr : zfrs (S ++ l, zrl L, I))
    (kk : zfrs (S ++ l, zrl ((i, j, r) :: L), I) → zWP g M mo (pc + 3) lv st nc ns (S ++ l, zrl ((i, j, r) :: L), I)) : zWP g M mo pc lv (.ref r :: .ref i :: st) nc ns (S ++ l, zrl L, I) :=
  zw_putRF hF hty hd hr hs hown hini (kk (zfrs_R (v := some r) hfr (List.getElem?_eq_some_iff.mp hs).1))
theorem zk_putI {i j idx kc n : Nat} {x : Int} (hF : zFL M.1.cls idx kc j .int false) (hd : decode M.2.1 pc = .ok (.putfield idx, 3)) (hr : (zRk kc).getD j false = false) (hs : (S ++ l)[i]? = some (kc, n)) (hfr : zfrs (S ++ l, zrl L, I))
    (kk : zfrs (S ++ l, zrl L, zup I i j x) → zWP g M mo (pc + 3) lv st nc ns (S ++ l, zrl L, zup I i j x)) : zWP g M mo pc lv (.int (zJ x) :: .ref i :: st) nc ns (S ++ l, zrl L, I) :=
  zw_putI hF hd hr hs (kk (zfrs_I hfr (List.getElem?_eq_some_iff.mp hs).1))
theorem zk_aastore {i v j kq t0 ci n nv : Nat} {x : Int} {r : vw_C} (hk : 12 < kq) (ht : ∀ g : zG, (zTys g)[t0]? = some (zgc g kq, .object r.1)) (hc : vwCl[ci]? = some r) (hci : ci < 12) (hd : decode M.2.1 pc = .ok (.aastore, 1)) (hs : (S ++ l)[i]? = some (kq, n)) (hv : (S ++ l)[v]? = some (ci, nv)) (hx : x = (j : Int)) (hj : j < n) (hn : n ≤ 100000) (hfr : zfrs (S ++ l, zrl L, I))
    (kk : zfrs (S ++ l, zrl ((i, j, v) :: L), I) → zWP g M mo (pc + 1) lv st nc ns (S ++ l, zrl ((i, j, v) :: L), I)) : zWP g M mo pc lv (.ref v :: .int (zJ x) :: .ref i :: st) nc ns (S ++ l, zrl L, I) :=
  zw_aastore hk ht hc hci hd hs hv hx hj hn (kk (zfrs_R (v := some v) hfr (List.getElem?_eq_some_iff.mp hs).1))
theorem zk_iastore {i n j : Nat} {x y : Int} (hd : decode M.2.1 pc = .ok (.iastore, 1)) (hs : (S ++ l)[i]? = some (12, n)) (hx : x = (j : Int)) (hj : j < n) (hn : n ≤ 100000) (hfr : zfrs (S ++ l, zrl L, I))
    (kk : zfrs (S ++ l, zrl L, zup I i j y) → zWP g M mo (pc + 1) lv st nc ns (S ++ l, zrl L, zup I i j y)) : zWP g M mo pc lv (.int (zJ y) :: .int (zJ x) :: .ref i :: st) nc ns (S ++ l, zrl L, I) := by
  subst hx
  exact zw_iastore (w := (S ++ l, zrl L, I)) hd hs (by omega) (by omega) (by omega) (by
    rw [Int.toNat_natCast]
    exact kk (zfrs_I hfr (List.getElem?_eq_some_iff.mp hs).1))
theorem zk_fill {a n idx : Nat} {v : Int} (hli : Cond.methodLink M.1.cls idx yJ7_fill_53178 ∈ ztbl) (hd : decode M.2.1 pc = .ok (.invokestatic idx, 3)) (hrm : zRm M zm_J7_fill_53178) (hs : (S ++ l)[a]? = some (12, n)) (hn : n ≤ 100000) (hsum : Nat.ble (st.map fun v => v.category).sum 8 = true) (hc1 : nc ≤ M.2.2.2.2.cells) (hc2 : ns ≤ M.2.2.2.2.slots) (hfr : zfrs (S ++ l, zrl L, I))
    (kk : zfrs (S ++ l, zrl L, zua I a (fun b => if b < n then v else I a b)) → zWP g M mo (pc + 3) lv st nc ns (S ++ l, zrl L, zua I a (fun b => if b < n then v else I a b))) : zWP g M mo pc lv (.int (zJ v) :: .ref a :: st) nc ns (S ++ l, zrl L, I) :=
  zw_callS (M' := zm_J7_fill_53178) (As := [.ref a, .int (zJ v)]) zi_J7_fill_53178 zis_J7_fill_53178 hli hd hrm rfl hsum hc1 hc2 (ok_fill (w := (S ++ l, zrl L, I)) hs (by omega) (kk (zfrs_A hfr (List.getElem?_eq_some_iff.mp hs).1)))
/-- a constructor's call: what it adds -/
def zKnw (g : zG) (M' : zM) (kc N : Nat) (sh : List (Nat × Nat)) (RL : Nat → List (Nat × Nat × Nat) → List (Nat × Nat × Nat)) (RI : Nat → zMu → zMu) : Prop :=
  ∀ (S : List (Nat × Nat)) (L : List (Nat × Nat × Nat)) (I : zMu) (c : Nat) (Φ : Option Value → zWS → Prop), S.length = c + 1 → S[c]? = some (kc, N) → c + sh.length < 80000 → zfrs (S, zrl L, I) →
    (zfrs (S ++ sh, zrl (RL c L), RI c I) → Φ none (S ++ sh, zrl (RL c L), RI c I)) → zOX g M' [.ref c] (S, zrl L, I) Φ
theorem zk_call {M' : zM} {idx kc N j : Nat} {sh : List (Nat × Nat)} {RL : Nat → List (Nat × Nat × Nat) → List (Nat × Nat × Nat)} {RI : Nat → zMu → zMu} (hM : zKnw g M' kc N sh RL RI) (hEX : ∀ s, mo.1 s → zEX s) (hcal : zCal M' 0) (hr : M'.2.2.2.1 = none) (hin : Cond.instanceMethod M'.1 ∈ ztbl) (hli : Cond.methodLink M.1.cls idx M'.1 ∈ ztbl) (hini : M'.1.name = "<init>") (hd : decode M.2.1 pc = .ok (.invokespecial idx, 3)) (hrm : zRm M M')
    (hsum : Nat.ble (st.map fun v => v.category).sum 8 = true) (hc1 : nc + M'.2.2.2.2.cells ≤ M.2.2.2.2.cells) (hc2 : ns + M'.2.2.2.2.slots ≤ M.2.2.2.2.slots) (hS : S.length = c + 1) (hc : c + k + sh.length < 80000) (hk : k = j + 1) (hk2 : l.length = k) (hl : l[j]? = some (kc, N)) (hfr : zfrs (S ++ l, zrl L, I))
    (kk : zfrs (S ++ (l ++ sh), zrl (RL (c + k) L), RI (c + k) I) → zWP g M mo (pc + 3) lv st (nc + M'.2.2.2.2.cells) (ns + M'.2.2.2.2.slots) (S ++ (l ++ sh), zrl (RL (c + k) L), RI (c + k) I)) : zWP g M mo pc lv (.ref (c + k) :: st) nc ns (S ++ l, zrl L, I) := by
  refine zw_callX hEX hcal hr hin hli hini hd hrm hsum hc1 hc2 (hM (S ++ l) L I (c + k) _ (by rw [List.length_append]; omega) (zk_at hS hk hl) hc hfr (fun hf => ⟨rfl, ?_⟩))
  rw [List.append_assoc] at hf ⊢
  exact kk hf
theorem zk_callN {M' : zM} {idx kc N j : Nat} {host : String} {sh : List (Nat × Nat)} {RL : Nat → List (Nat × Nat × Nat) → List (Nat × Nat × Nat)} {RI : Nat → zMu → zMu} (hM : zKnw g M' kc N sh RL RI) (hEX : ∀ s, mo.1 s → zEX s) (hcal : zCal M' 0) (hr : M'.2.2.2.1 = none) (hin : Cond.instanceMethod M'.1 ∈ ztbl) (hne : (M.1.cls, idx, M'.1, host) ∈ zNest) (hini : M'.1.name = "<init>") (hd : decode M.2.1 pc = .ok (.invokespecial idx, 3)) (hrm : zRm M M')
    (hsum : Nat.ble (st.map fun v => v.category).sum 8 = true) (hc1 : nc + M'.2.2.2.2.cells ≤ M.2.2.2.2.cells) (hc2 : ns + M'.2.2.2.2.slots ≤ M.2.2.2.2.slots) (hS : S.length = c + 1) (hc : c + k + sh.length < 80000) (hk : k = j + 1) (hk2 : l.length = k) (hl : l[j]? = some (kc, N)) (hfr : zfrs (S ++ l, zrl L, I))
    (kk : zfrs (S ++ (l ++ sh), zrl (RL (c + k) L), RI (c + k) I) → zWP g M mo (pc + 3) lv st (nc + M'.2.2.2.2.cells) (ns + M'.2.2.2.2.slots) (S ++ (l ++ sh), zrl (RL (c + k) L), RI (c + k) I)) : zWP g M mo pc lv (.ref (c + k) :: st) nc ns (S ++ l, zrl L, I) := by
  refine zw_callXN hEX hcal hr hin hne hini hd hrm hsum hc1 hc2 (hM (S ++ l) L I (c + k) _ (by rw [List.length_append]; omega) (zk_at hS hk hl) hc hfr (fun hf => ⟨rfl, ?_⟩))
  rw [List.append_assoc] at hf ⊢
  exact kk hf
end ZK
