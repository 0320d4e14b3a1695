section ZN3
variable {g : zG} {M : zM} {mo : zMo} {pc nc ns : Nat} {lv : List (Nat × Value)} {st : List Value} {w : zWS}
theorem zw_aastore {i v j k t0 ci n nv : Nat} {x : Int} {r : vw_C} (hk : 12 < k) (ht : ∀ g : zG, (zTys g)[t0]? = some (zgc g k, .object r.1)) (hc : vwCl[ci]? = some r) (hci : ci < 12) (hd : decode M.2.1 pc = .ok (.aastore, 1)) (hs : w.1[i]? = some (k, n)) (hv : w.1[v]? = some (ci, nv)) (hx : x = (j : Int)) (hj : j < n) (hn : n ≤ 100000)
    (kk : zWP g M mo (pc + 1) lv st nc ns (zuR w i j (some v))) : zWP g M mo pc lv (.ref v :: .int (zJ x) :: .ref i :: st) nc ns w := by
  intro p e s m args below meth c H locs ls C0 hl hW hS
  have hK := C0.2.2.2.2.2.2.2.2.1.1
  have ha := zwl_get (g := g) hs hW.2.2
  have hve := zwl_get (g := g) hv hW.2.2
  rw [zce_rr hk] at ha
  rw [zce_ob hci] at hve
  obtain ⟨hx0, hx1⟩ := znn hx (by omega)
  obtain ⟨r', hr', cellV, g1, g2, g3, -⟩ := hW.1 v _ hve
  have hcls := (hK.1 ci r hc).2
  obtain ⟨kA, comp, k1, k2, k3, -⟩ := (hK.2 t0 _ (ht g)).2
  have hcomp : comp = (zgD g).1 ci := Option.some.inj (k3.symm.trans hcls.1)
  subst hcomp
  have hcls' := hcls
  obtain ⟨kC, hkC, -⟩ := hcls.2
  refine W.aast C0.1 C0.2.1 (hW.1 i _ ha) (fun q h => by cases h) (fun h => by cases h) k1 k2 rfl hkC ⟨hx0, by show _ < (arrV _ _ _).slots.size; rw [arrV_size, hx1]; exact hj⟩ g1 (fun q h => by rw [g3] at h; cases h) (by rw [g2]; exact hkC) (by rw [g2]; exact va_assign hcls') rfl rfl hd fun H1 e1 z oq => ?_
  refine kk p e s m args below meth c H1 _ ls C0 hl ⟨?_, by rw [z]; exact hW.2.1, hW.2.2⟩ (hS.put z oq (z_in hW hs))
  rw [← zw_aR (g := g) (j := j) (v := some v) hs hk hW.2.2]
  refine hW.1.set (zwl_D g w) ha ?_ oq
  show H1[zad g i]? = some (vp_cell _ _)
  rw [e1, vp_cell_q, vp_cell_q, arrV_store, hx1]
  congr 2
  funext q
  by_cases hq : q = j
  · subst hq
    simp [updV, va_up, va_rf]
  · simp [updV, va_up, hq]
theorem zw_objInit {b idx : Nat} (hli : Cond.methodLink M.1.cls idx Lib.objectInit ∈ ztbl) (hd : decode M.2.1 pc = .ok (.invokespecial idx, 3)) (hf : 1 ≤ M.2.2.2.2.frames) (hlo : 20 ≤ M.2.2.2.2.locals) (hsum : Nat.ble (st.map fun v => v.category).sum 8 = true) (kk : zWP g M mo (pc + 3) lv st nc ns w) : zWP g M mo pc lv (.ref b :: st) nc ns w := by
  intro p e s m args below meth c H locs ls C0 hl hW hS
  have hts := C0.2.2.2.2.1
  have h8 := Nat.le_of_ble_eq_true hsum
  refine W.objInit C0.1 C0.2.1 C0.2.2.2.2.2.1 (hts _ hli) (hts _ zb_objI) (hts _ zb_objC) (g := F0 m pc ls ((Value.ref b :: st).map (ztv g))) rfl (hl.1.trans C0.2.2.1.symm) (a := zad g b) (rest := st.map (ztv g)) rfl hd hf (by rw [z_sum]; show 2 * 0 + _ + _ ≤ _; omega) ?_
  exact kk p e s m args below meth c H locs ls C0 hl hW hS
/-- the constructors' mode, and what a call of one may take for granted -/
def zmoX (g : zG) (M : zM) (Φ : Option Value → zWS → Prop) : zMo := (zEX, fun below args s => MQ below (zQ g Φ) args s M.2.2.2.2.cells M.2.2.2.2.slots (zA g))
def zOX (g : zG) (M : zM) (args : List Value) (w : zWS) (Φ : Option Value → zWS → Prop) : Prop :=
  Met (zgl g) M.1 (zws M) M.2.2.2.2 (va_Pc (args.map (ztv g)) (fun U => (zU g U ∧ zEX U) ∧ zgB g ≤ U.heap.size ∧ zHW g w U.heap)) (zQ g Φ) M.2.2.2.2.cells M.2.2.2.2.slots (zA g)
theorem zok_ofX {args : List Value} {Φ : Option Value → zWS → Prop} (hy : plainName M.1.cls = true) (hn : Nat.ble (lg_sl args).length M.2.2.1 = true) (k : zWP g M (zmoX g M Φ) 0 (lv_args 0 args) [] 0 0 w) : zOX g M args w Φ := by
  refine Met.ofW (cc := M.2.1) (maxL := M.2.2.1) (ret := M.2.2.2.1) hy rfl ?_
  intro p e s m av below meth c s₁ B hml hv
  obtain ⟨rfl, ⟨hU, hE⟩, hB, hW⟩ := hv
  have hts := atoms_spec (ws := zws M) B.pre
  have hl := lv_entry (args.map (ztv g)) (n := M.2.2.1) (by rw [zlg_len]; exact Nat.le_of_ble_eq_true hn)
  rw [lg_entry_eq]
  generalize (lg_sl (args.map (ztv g)) ++ List.replicate (M.2.2.1 - (lg_sl (args.map (ztv g))).length) Slot.unset).toArray = ls at hl ⊢
  rw [zlv_args] at hl
  exact k p e s m _ below meth c s.heap [] ls ⟨B.exec, B.bytes, hml, B.returns, fun x hx => hts x (List.mem_cons_of_mem _ hx), findClass_of_methodNamed B.named, B.notSynchronized, fun _ => (name_of_methodNamed B.named B.method).1.trans (by assumption), hU, hB, hE⟩ hl hW va_S.rf
theorem zw_vretX {Φ : Option Value → zWS → Prop} (hd : decode M.2.1 pc = .ok (.return_, 1)) (hr : M.2.2.2.1 = none) (hn : nc ≤ M.2.2.2.2.cells) (hs : ns ≤ M.2.2.2.2.slots) (h : Φ none w) : zWP g M (zmoX g M Φ) pc lv [] nc ns w := by
  intro p e s m args below meth c H locs ls C hl hW hS
  refine W.widen hn hs ?_
  exact W.vret C.1 C.2.1 (C.2.2.2.1.trans hr) (fun t ht hv => ⟨⟨none, w, rfl, h, by rw [ht]; exact hW⟩, hS.F ht⟩) hS.2.2 hd C.2.2.2.2.2.2.1
theorem z_blindX {av : List Value} : FrameBlind (va_Pc av (fun U => (zU g U ∧ zEX U) ∧ zgB g ≤ U.heap.size ∧ zHW g w U.heap)) := fun a U f mk h =>
  ⟨h.1, ⟨zUvm (u := U) rfl rfl h.2.1.1, zEX_moved (u := U) (Vm.Alike.refl _) h.2.1.2⟩, h.2.2⟩
theorem z_preX {p : Program} {s : State} {m : MethodId} {args : Array Value} {meth : Method} {c : Code} {H : Heap} {locs : List Loc} (hEX : ∀ s, mo.1 s → zEX s) (C : zCX g M mo.1 p s m args meth c) (hW : zHW g w H) (hS : va_S (zA g) s.heap H locs) (As : List Value) :
    PreS s H (va_Pc (As.map (ztv g)) (fun U => (zU g U ∧ zEX U) ∧ zgB g ≤ U.heap.size ∧ zHW g w U.heap)) (As.map (ztv g)) :=
  ⟨z_blindX, fun U hU hv => ⟨rfl, ⟨zUwarm hv (fun a h1 h2 => by rw [hU]; exact hS.2.1 a h1 h2) C.2.2.2.2.2.2.2.2.1, zEX_moved hv.alike (hEX s C.2.2.2.2.2.2.2.2.2.2)⟩, by rw [hU]; exact Nat.le_trans C.2.2.2.2.2.2.2.2.2.1 hS.1, by rw [hU]; exact hW⟩⟩
theorem zw_callX {M' : zM} {idx b : Nat} (hEX : ∀ s, mo.1 s → zEX s) (hcal : zCal M' 0) (hr : M'.2.2.2.1 = none) (hin : Cond.instanceMethod M'.1 ∈ ztbl) (hli : Cond.methodLink M.1.cls idx M'.1 ∈ ztbl) (hini : M'.1.name = "<init>") (hd : decode M.2.1 pc = .ok (.invokespecial idx, 3)) (hrm : zRm M M')
    (hsum : Nat.ble (st.map fun v => v.category).sum 8 = true) (hc1 : nc + M'.2.2.2.2.cells ≤ M.2.2.2.2.cells) (hc2 : ns + M'.2.2.2.2.slots ≤ M.2.2.2.2.slots)
    (hOK : zOX g M' [.ref b] w (fun r w' => r = none ∧ zWP g M mo (pc + 3) lv st (nc + M'.2.2.2.2.cells) (ns + M'.2.2.2.2.slots) w')) : zWP g M mo pc lv (.ref b :: st) nc ns w := by
  intro p e s m args below meth c H locs ls C hl hW hS
  have hts := C.2.2.2.2.1
  refine zw_run (st := st) (va_runI (As := []) (rest := st.map (ztv g)) (b := zad g b) ⟨C.1, C.2.1, C.2.2.1, C.2.2.2.2.2.1, hts⟩ hOK (cwI 0 hts (z_goodIn (zws_in hcal)) (by rw [zws, hr]) rfl rfl (hts _ hcal.1) (hts _ hli) (hts _ hin) hini hcal.2.2 hrm) (z_preX hEX C hW hS [.ref b]) rfl rfl hl.1 rfl (lv_room (by rw [z_sum]; exact Nat.le_of_ble_eq_true hsum)) hd ⟨hc1, hc2⟩) C hl hS (fun r w' h => by obtain ⟨rfl, h⟩ := h; exact h)
theorem zw_callXN {M' : zM} {idx b : Nat} {host : String} (hEX : ∀ s, mo.1 s → zEX s) (hcal : zCal M' 0) (hr : M'.2.2.2.1 = none) (hin : Cond.instanceMethod M'.1 ∈ ztbl) (hne : (M.1.cls, idx, M'.1, host) ∈ zNest) (hini : M'.1.name = "<init>") (hd : decode M.2.1 pc = .ok (.invokespecial idx, 3)) (hrm : zRm M M')
    (hsum : Nat.ble (st.map fun v => v.category).sum 8 = true) (hc1 : nc + M'.2.2.2.2.cells ≤ M.2.2.2.2.cells) (hc2 : ns + M'.2.2.2.2.slots ≤ M.2.2.2.2.slots)
    (hOK : zOX g M' [.ref b] w (fun r w' => r = none ∧ zWP g M mo (pc + 3) lv st (nc + M'.2.2.2.2.cells) (ns + M'.2.2.2.2.slots) w')) : zWP g M mo pc lv (.ref b :: st) nc ns w := by
  intro p e s m args below meth c H locs ls C hl hW hS
  have hts := C.2.2.2.2.1
  refine zw_run (st := st) (va_runIN (As := []) (rest := st.map (ztv g)) (b := zad g b) ⟨C.1, C.2.1, C.2.2.1, C.2.2.2.2.2.1, hts⟩ hOK ⟨va_cnB 0 hts (z_goodIn (zws_in hcal)) (by rw [zws, hr]) rfl rfl (C.2.2.2.2.2.2.2.2.1.2.1 _ hne) (hts _ hcal.1) hcal.2.2 hrm, hini, hts _ hin⟩ (z_preX hEX C hW hS [.ref b]) rfl rfl hl.1 rfl (lv_room (by rw [z_sum]; exact Nat.le_of_ble_eq_true hsum)) hd ⟨hc1, hc2⟩) C hl hS (fun r w' h => by obtain ⟨rfl, h⟩ := h; exact h)
end ZN3
