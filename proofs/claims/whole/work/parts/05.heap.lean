/-! RULES of the heap, of calls and of ends -/
theorem zJ_vp {x : Int} {n : Nat} (h0 : 0 ≤ x) (h : x < n) (hn : n < 2147483648) : vp_in (zJ x) n := (zin h0 h hn).1
/-- a class of the world, by its number -/
def zCB (kc : Nat) (C : String) (T : u_T) (N : Nat) : Prop := vwCl[kc]? = some (C, T, N) ∧ kc < 12 ∧ N = zNF kc ∧ (∀ k, k < N → (T k).1 = C) ∧ (∃ ty : Nat → FieldType, ∀ k, k < N → parseFieldDescriptor (T k).2.2.1 = some (ty k)) ∧ (∀ a, a < N → ∀ b, b < N → a ≠ b → (T a).2.1 ≠ (T b).2.1) ∧ (∀ w ∈ u_ws C T N, w ∈ ztbl)
/-- an entry of a class's pool that links a field -/
def zFL (own : String) (idx kc k : Nat) (ty : FieldType) (fin : Bool) : Prop := ∃ (C : String) (T : u_T) (N : Nat), zCB kc C T N ∧ k < N ∧ (T k).2.2.2 = fin ∧ parseFieldDescriptor (T k).2.2.1 = some ty ∧ Cond.fieldLink own idx C (T k).2.1 (T k).2.2.1 ∈ ztbl
/-- a method that can be called -/
def zCal (M : zM) (n : Nat) : Prop := Cond.initialized M.1.cls ∈ ztbl ∧ Cond.code M.1 M.2.1 M.2.2.1 M.2.2.2.1 ∈ ztbl ∧ M.1.cls ≠ "java/lang/invoke/MethodHandle" ∧ M.1.cls ≠ "java/lang/invoke/VarHandle" ∧ (parseMethodDescriptor M.1.desc).map (fun d => d.parameters.length) = some n
def zRm (M M' : zM) : Prop := M'.2.2.2.2.frames + 1 ≤ M.2.2.2.2.frames ∧ 8 + (M'.2.2.1 + 11) + M'.2.2.2.2.locals ≤ M.2.2.2.2.locals
theorem z_good {big : List Cond} {w : Cond} (hb : ∀ w ∈ ztbl, w ∈ big) (h : w ∈ ztbl) : w ∈ big ∧ ((w.onTables && w.keeps) = true ∨ ∃ ty, w = .arrayClass ty) := ⟨hb w h, good_of_word (List.mem_filter.mp h).2⟩
theorem z_goodIn {ws : List Cond} (h : ∀ w ∈ ws, w ∈ ztbl) : GoodIn ztbl ws := fun w hw => z_good (fun _ h => h) (h w hw)
theorem zws_in {M : zM} {n : Nat} (h : zCal M n) : ∀ w ∈ zws M, w ∈ ztbl := fun w hw => (List.mem_cons.mp hw).elim (fun e => by rw [e]; exact h.2.1) (fun h => h)
theorem zUvm {g : zG} {u U : State} (hv : U.vm = u.vm) (hh : U.heap = u.heap) (h : zU g u) : zU g U := by
  obtain ⟨h1, h2, h3, h4, h5, h6⟩ := h
  have ha : u.vm.Alike U.vm := by rw [hv]; exact Vm.Alike.refl _
  refine ⟨va_K.moved ha h1, fun q hq => va_Nw.same rfl hv.symm (h2 q hq), fun k hk => vk_R.same hv (h3 k hk), ?_, ?_, ?_⟩
  · rw [hh]; exact vk_S.moved ha h4
  · rw [hh]; exact va_Z.moved ha h5
  · rw [hh]; exact h6.imp (va_Z.moved ha) (va_Z.moved ha)
theorem zUwarm {g : zG} {s U : State} (hW : s.WarmedH U.vm) (hq : ∀ a : Nat, a < s.heap.size → ¬ zA g a → U.heap[a]? = s.heap[a]?) (h : zU g s) : zU g U := by
  obtain ⟨h1, h2, h3, h4, h5, h6⟩ := h
  exact ⟨va_K.moved hW.alike h1, fun q hq => va_Nw.warmM hW (h2 q hq), fun k hk => vk_R.warm hW (h3 k hk), (vk_S.moved hW.alike h4).kept hq, (va_Z.moved hW.alike h5).kept hq, h6.imp (fun h => (va_Z.moved hW.alike h).kept hq) (fun h => (va_Z.moved hW.alike h).kept hq)⟩
theorem z_blind {g : zG} {w : zWS} {av : List Value} : FrameBlind (va_Pc av (fun U => zU g U ∧ zgB g ≤ U.heap.size ∧ zHW g w U.heap)) := fun a U f mk h =>
  ⟨h.1, zUvm (u := U) rfl rfl h.2.1, h.2.2⟩
theorem zlv_args (g : zG) : ∀ (vs : List Value) (i : Nat), lv_args i (vs.map (ztv g)) = zlv g (lv_args i vs)
  | [], _ => rfl
  | v :: vs, i => by
    show (i, ztv g v) :: lv_args _ (vs.map (ztv g)) = (i, ztv g v) :: zlv g (lv_args _ vs)
    rw [ztv_cat, zlv_args g vs]
theorem zlg_len (g : zG) : ∀ (vs : List Value), (lg_sl (vs.map (ztv g))).length = (lg_sl vs).length
  | [] => rfl
  | v :: vs => by
    have ih := zlg_len g vs
    simp only [lg_sl, List.map_cons, List.flatMap_cons, List.length_append, ztv_cat] at ih ⊢
    rw [ih]
    by_cases h : v.category = 2 <;> simp [h]
/-- a method's contract, by its walk -/
theorem zok_of {g : zG} {M : zM} {args : List Value} {w : zWS} {Φ : Option Value → zWS → Prop} (hy : plainName M.1.cls = true) (hn : Nat.ble (lg_sl args).length M.2.2.1 = true) (k : zWP g M (zmo g M Φ) 0 (lv_args 0 args) [] 0 0 w) : zOK g M args w Φ := by
  refine Met.ofW (cc := M.2.1) (maxL := M.2.2.1) (ret := M.2.2.2.1) hy rfl ?_
  intro p e s m av below meth c s₁ B hml hv
  obtain ⟨rfl, hU, hB, hW⟩ := hv
  have hts := atoms_spec (ws := zws M) B.pre
  have hl := lv_entry (args.map (ztv g)) (n := M.2.2.1) (by rw [zlg_len]; exact Nat.le_of_ble_eq_true hn)
  rw [lg_entry_eq]
  generalize (lg_sl (args.map (ztv g)) ++ List.replicate (M.2.2.1 - (lg_sl (args.map (ztv g))).length) Slot.unset).toArray = ls at hl ⊢
  rw [zlv_args] at hl
  exact k p e s m _ below meth c s.heap [] ls ⟨B.exec, B.bytes, hml, B.returns, fun x hx => hts x (List.mem_cons_of_mem _ hx), findClass_of_methodNamed B.named, B.notSynchronized, fun _ => (name_of_methodNamed B.named B.method).1.trans (by assumption), hU, hB, trivial⟩ hl hW va_S.rf
theorem zOK.mono {g : zG} {M : zM} {args : List Value} {w : zWS} {Φ Ψ : Option Value → zWS → Prop} (h : zOK g M args w Φ) (hm : ∀ r w', Φ r w' → Ψ r w') : zOK g M args w Ψ := by
  intro p e ha hc hk s m av below hf happ hP hK
  obtain ⟨t, o, h1, h2, h3, ⟨⟨⟨r, w', q1, q2, q3⟩, q4⟩, q5⟩⟩ := h p e ha hc hk s m av below hf happ hP hK
  exact ⟨t, o, h1, h2, h3, ⟨⟨⟨r, w', q1, hm r w' q2, q3⟩, q4⟩, q5⟩⟩
section ZH
variable {g : zG} {M : zM} {mo : zMo} {pc nc ns : Nat} {lv : List (Nat × Value)} {st : List Value} {w : zWS}
-- fields
theorem zw_getI {i idx kc k n : Nat} {ty : FieldType} {fin : Bool} (hF : zFL M.1.cls idx kc k ty fin) (hd : decode M.2.1 pc = .ok (.getfield idx, 3)) (hr : (zRk kc).getD k false = false) (hs : w.1[i]? = some (kc, n)) (kk : zWP g M mo (pc + 3) lv (.int (zJ (w.2.2 i k)) :: st) nc ns w) : zWP g M mo pc lv (.ref i :: st) nc ns w := by
  intro p e s m args below meth c H locs ls C hl hW hS
  obtain ⟨Cn, T, N, ⟨c1, c2, c3, c4, -, -, c7⟩, f1, -, -, f2⟩ := hF
  have he := zwl_get (g := g) hs hW.2.2
  rw [zce_ob c2] at he
  refine va_get (Ts := ztbl) C.1 C.2.1 C.2.2.2.2.1 c7 C.2.2.2.2.2.1 C.2.2.2.2.2.2.2.2.1.1 hW.1 i he c1 k f1 (C.2.2.2.2.1 _ f2) (fun x h => by rw [c4 k f1] at h; exact h) (v := .int (zJ (w.2.2 i k))) ?_ hd (kk p e s m args below meth c H locs ls C hl hW hS)
  rw [List.getElem?_map, List.getElem?_range (by rw [← c3]; exact f1)]
  exact congrArg some (zfv_ne hr)
theorem zw_getR {i idx kc k n r : Nat} {ty : FieldType} {fin : Bool} (hF : zFL M.1.cls idx kc k ty fin) (hd : decode M.2.1 pc = .ok (.getfield idx, 3)) (hr : (zRk kc).getD k false = true) (hs : w.1[i]? = some (kc, n)) (hv : w.2.1 i k = some r) (kk : zWP g M mo (pc + 3) lv (.ref r :: st) nc ns w) : zWP g M mo pc lv (.ref i :: st) nc ns w := by
  intro p e s m args below meth c H locs ls C hl hW hS
  obtain ⟨Cn, T, N, ⟨c1, c2, c3, c4, -, -, c7⟩, f1, -, -, f2⟩ := hF
  have he := zwl_get (g := g) hs hW.2.2
  rw [zce_ob c2] at he
  refine va_get (Ts := ztbl) C.1 C.2.1 C.2.2.2.2.1 c7 C.2.2.2.2.2.1 C.2.2.2.2.2.2.2.2.1.1 hW.1 i he c1 k f1 (C.2.2.2.2.1 _ f2) (fun x h => by rw [c4 k f1] at h; exact h) (v := .ref (zad g r)) ?_ hd (kk p e s m args below meth c H locs ls C hl hW hS)
  rw [List.getElem?_map, List.getElem?_range (by rw [← c3]; exact f1)]
  show some (zfv g w kc i k) = _
  rw [zfv_rf hr, hv]
  rfl
theorem zput {kc k : Nat} {C : String} {T : u_T} {N i n : Nat} {V : Value} {w' : zWS} {H H' : Heap} (hC : zCB kc C T N) (hk : k < N) (hW : zHW g w H) (hs : w.1[i]? = some (kc, n)) (hset : (zwl g w).set i (zad g i, .inr (kc, ((List.range (zNF kc)).map (zfv g w kc i)).set k V)) = zwl g w') (hlen : w'.1 = w.1) {s : State} {args : Array Value} (hts : ∀ w ∈ ztbl, w.before args s = true) (hK : va_K (zgD g) vwCl (zTys g) s) {cell : Cell} (hcell : H[zad g i]? = some cell) (hvm : cell.vm = .none)
    (e1 : H'[zad g i]? = some (cell.setSlot ((zgD g).2 kc k) V)) (e2 : H'.size = H.size) (e3 : ∀ q, q ≠ zad g i → H'[q]? = H[q]?) : zHW g w' H' := by
  obtain ⟨c1, c2, c3, c4, ⟨tyf, c5⟩, c6, c7⟩ := hC
  have he := zwl_get (g := g) hs hW.2.2
  rw [zce_ob c2] at he
  have hap := va_apart (own := C) hts c7 tyf c5 c6 hK c1
  obtain ⟨r, h1, cell', q1, q2, q3, q4⟩ := hW.1 i _ he
  have hr : r = (C, T, N) := Option.some.inj (h1.symm.trans c1)
  subst hr
  cases hcell.symm.trans q1
  refine ⟨?_, by rw [e2, hlen]; exact hW.2.1, by rw [hlen]; exact hW.2.2⟩
  rw [← hset]
  exact hW.1.set (zwl_D g w) he ⟨_, c1, t_OB.to (V := updV (vp_V ((List.range (zNF kc)).map (zfv g w kc i))) k V) ⟨_, e1, q2, q3, t_set q4 hap hk V⟩ (fun j _ => vp_updV_set (by rw [List.length_map, List.length_range, ← c3]; exact hk) V j)⟩ e3
theorem zw_putG {i idx kc k n : Nat} {ty : FieldType} {V : Value} {w' : zWS} (hF : zFL M.1.cls idx kc k ty false) (hd : decode M.2.1 pc = .ok (.putfield idx, 3)) (hs : w.1[i]? = some (kc, n)) (hnar : narrow ty (ztv g V) = ztv g V) (hfit : fits ty (ztv g V) = true) (hlen : w'.1 = w.1)
    (hset : w.1.length < 90000 → (zwl g w).set i (zad g i, .inr (kc, ((List.range (zNF kc)).map (zfv g w kc i)).set k (ztv g V))) = zwl g w') (kk : zWP g M mo (pc + 3) lv st nc ns w') : zWP g M mo pc lv (V :: .ref i :: st) nc ns w := by
  intro p e s m args below meth c H locs ls C hl hW hS
  obtain ⟨Cn, T, N, hC, f1, f3, f4, f2⟩ := hF
  obtain ⟨c1, c2, c3, c4, ⟨tyf, c5⟩, c6, c7⟩ := id hC
  have hts := C.2.2.2.2.1
  have hK := C.2.2.2.2.2.2.2.2.1.1
  have he := zwl_get (g := g) hs hW.2.2
  rw [zce_ob c2] at he
  obtain ⟨r, h1, cell, q1, q2, q3, q4⟩ := hW.1 i _ he
  have hr : r = (Cn, T, N) := Option.some.inj (h1.symm.trans c1)
  subst hr
  obtain ⟨hSl, hfc, kC, hkC, hkind⟩ := hK.1 kc _ c1
  obtain ⟨cf, kf, fi, f, hi, hsl⟩ := hSl k f1
  have hlay := hts _ (c7 _ (u_in_lay f1))
  unfold u_lay at hlay
  rw [if_neg (by rw [f3]; decide)] at hlay
  have hst := (u_facts hfc hkC (u_lays hts c7 f1) hi).1
  have h6 := u_store hfc hkC hkind hlay hi f4 hnar hfit
  have hi' : s.fieldFound? Cn (T k).2.1 (T k).2.2.1 = some (cf, kf, fi, f) := by rw [c4 k f1] at hi; exact hi
  refine W.putK C.1 C.2.1 (f := f) ⟨C.2.2.2.2.2.1, hts _ f2, ⟨_, _, _, hi'⟩, hst⟩ (by rw [q2]; exact h6) q1 q3 (by rw [hsl]; exact k2_hasslot (q4 k f1)) rfl rfl hd fun H' e1 e2 e3 => ?_
  rw [hsl] at e1 ⊢
  refine kk p e s m args below meth c H' _ ls C hl (zput hC f1 hW hs (hset hW.2.2) hlen hts hK q1 q3 e1 e2 e3) (hS.put e2 e3 ?_)
  show zgB g ≤ zad g i
  have hi2 : i < w.1.length := (List.getElem?_eq_some_iff.mp hs).1
  rw [zad, if_pos (by have := hW.2.2; omega)]
  exact Nat.le_add_right _ _
theorem zw_putF {i idx kc k n : Nat} {ty : FieldType} {V : Value} {w' : zWS} (hF : zFL M.1.cls idx kc k ty true) (hd : decode M.2.1 pc = .ok (.putfield idx, 3)) (hs : w.1[i]? = some (kc, n)) (hnar : narrow ty (ztv g V) = ztv g V) (hfit : fits ty (ztv g V) = true) (hlen : w'.1 = w.1) (hown : (vwCl.map (fun q => q.1))[kc]? = some M.1.cls) (hini : M.1.name = "<init>")
    (hset : w.1.length < 90000 → (zwl g w).set i (zad g i, .inr (kc, ((List.range (zNF kc)).map (zfv g w kc i)).set k (ztv g V))) = zwl g w') (kk : zWP g M mo (pc + 3) lv st nc ns w') : zWP g M mo pc lv (V :: .ref i :: st) nc ns w := by
  intro p e s m args below meth c H locs ls C hl hW hS
  obtain ⟨Cn, T, N, hC, f1, f3, f4, f2⟩ := hF
  obtain ⟨c1, c2, c3, c4, ⟨tyf, c5⟩, c6, c7⟩ := id hC
  have hts := C.2.2.2.2.1
  have hK := C.2.2.2.2.2.2.2.2.1.1
  have he := zwl_get (g := g) hs hW.2.2
  rw [zce_ob c2] at he
  obtain ⟨r, h1, cell, q1, q2, q3, q4⟩ := hW.1 i _ he
  have hr : r = (Cn, T, N) := Option.some.inj (h1.symm.trans c1)
  subst hr
  obtain ⟨hSl, hfc, kC, hkC, hkind⟩ := hK.1 kc _ c1
  obtain ⟨cf, kf, fi, f, hi, hsl⟩ := hSl k f1
  have hst := (u_facts hfc hkC (u_lays hts c7 f1) hi).1
  have hi' : s.fieldFound? Cn (T k).2.1 (T k).2.2.1 = some (cf, kf, fi, f) := by rw [c4 k f1] at hi; exact hi
  have hCn : Cn = M.1.cls := by
    rw [List.getElem?_map, c1] at hown
    exact Option.some.inj hown
  obtain ⟨v1, v2⟩ := u_fits hfc hkC hkind (u_lays hts c7 f1) hi f4 hnar hfit
  have hlay := hts _ (c7 _ (u_in_lay f1))
  unfold u_lay at hlay
  rw [if_pos f3] at hlay
  have hcf : m.cls = cf := by
    obtain ⟨_, _, c', _, _, _, -, -, hf', -, -, -, hown2, -⟩ := Cond.laysFinal_spec hlay
    have e1 : c' = cf := by have := hi.symm.trans hf'; simp at this; exact this.1.symm
    rw [c4 k f1, hCn] at hown2
    rw [← e1]; exact Option.some.inj (C.2.2.2.2.2.1.symm.trans hown2)
  have hlt : zad g i < H.size := (Array.getElem?_eq_some_iff.mp q1).1
  refine W.putf C.1 C.2.1 C.2.2.2.2.2.1 (hts _ f2) hi' hst (Or.inr ⟨hcf, C.2.2.2.2.2.2.2.1 hini⟩) q1 (by rw [q3]; exact fun h => by cases h) (by rw [hsl]; exact k2_hasslot (q4 k f1)) v1 (by rw [q2, q3]; exact v2) rfl rfl hd ?_
  rw [hsl]
  refine kk p e s m args below meth c _ _ ls C hl (zput (H' := H.setIfInBounds (zad g i) (cell.setSlot ((zgD g).2 kc k) (ztv g V))) hC f1 hW hs (hset hW.2.2) hlen hts hK q1 q3 (by simp [Array.getElem?_setIfInBounds, hlt]) (by simp) (fun q hq => by simp [Array.getElem?_setIfInBounds, Ne.symm hq])) (hS.put (by simp) (fun q hq => by simp [Array.getElem?_setIfInBounds, Ne.symm hq]) ?_)
  show zgB g ≤ zad g i
  have hi2 : i < w.1.length := (List.getElem?_eq_some_iff.mp hs).1
  rw [zad, if_pos (by have := hW.2.2; omega)]
  exact Nat.le_add_right _ _
end ZH
section ZH2
variable {g : zG} {M : zM} {mo : zMo} {pc nc ns : Nat} {lv : List (Nat × Value)} {st : List Value} {w : zWS}
theorem zw_putI {i idx kc k n : Nat} {x : Int} (hF : zFL M.1.cls idx kc k .int false) (hd : decode M.2.1 pc = .ok (.putfield idx, 3)) (hr : (zRk kc).getD k false = false) (hs : w.1[i]? = some (kc, n)) (kk : zWP g M mo (pc + 3) lv st nc ns (zuI w i k x)) : zWP g M mo pc lv (.int (zJ x) :: .ref i :: st) nc ns w := by
  have hk : kc < 12 ∧ k < zNF kc := by
    obtain ⟨_, _, _, ⟨-, c2, c3, -⟩, f1, -⟩ := hF
    exact ⟨c2, by rw [← c3]; exact f1⟩
  exact zw_putG (w' := zuI w i k x) hF hd hs rfl rfl rfl (fun hn => zw_uI hs hn hk.1 hk.2 hr) kk
theorem z01 {x : Int} (h : x = 0 ∨ x = 1) : narrow .boolean (.int (zJ x)) = .int (zJ x) ∧ fits .boolean (.int (zJ x)) = true := by
  rcases h with rfl | rfl <;> exact ⟨by decide +kernel, by decide +kernel⟩
theorem zw_putZ {i idx kc k n : Nat} {x : Int} (hF : zFL M.1.cls idx kc k .boolean false) (hd : decode M.2.1 pc = .ok (.putfield idx, 3)) (hr : (zRk kc).getD k false = false) (hs : w.1[i]? = some (kc, n)) (hx : x = 0 ∨ x = 1) (kk : zWP g M mo (pc + 3) lv st nc ns (zuI w i k x)) : zWP g M mo pc lv (.int (zJ x) :: .ref i :: st) nc ns w := by
  have hk : kc < 12 ∧ k < zNF kc := by
    obtain ⟨_, _, _, ⟨-, c2, c3, -⟩, f1, -⟩ := hF
    exact ⟨c2, by rw [← c3]; exact f1⟩
  exact zw_putG (w' := zuI w i k x) hF hd hs (z01 hx).1 (z01 hx).2 rfl (fun hn => zw_uI hs hn hk.1 hk.2 hr) kk
theorem zw_putRF {i idx kc k n r : Nat} {ty : FieldType} (hF : zFL M.1.cls idx kc k ty true) (hty : (∃ C, ty = .object C) ∨ ∃ t, ty = .array t) (hd : decode M.2.1 pc = .ok (.putfield idx, 3)) (hr : (zRk kc).getD k false = true) (hs : w.1[i]? = some (kc, n)) (hown : (vwCl.map (fun q => q.1))[kc]? = some M.1.cls) (hini : M.1.name = "<init>") (kk : zWP g M mo (pc + 3) lv st nc ns (zuR w i k (some r))) : zWP g M mo pc lv (.ref r :: .ref i :: st) nc ns w := by
  have hk : kc < 12 ∧ k < zNF kc := by
    obtain ⟨_, _, _, ⟨-, c2, c3, -⟩, f1, -⟩ := hF
    exact ⟨c2, by rw [← c3]; exact f1⟩
  exact zw_putF (w' := zuR w i k (some r)) hF hd hs (by rcases hty with ⟨C, rfl⟩ | ⟨t, rfl⟩ <;> rfl) (by rcases hty with ⟨C, rfl⟩ | ⟨t, rfl⟩ <;> rfl) rfl hown hini (fun hn => zw_uR (v := some r) hs hn hk.1 hk.2 hr) kk
-- arrays of ints
theorem zw_iaload {i n : Nat} {x : Int} (hd : decode M.2.1 pc = .ok (.iaload, 1)) (hs : w.1[i]? = some (12, n)) (h0 : 0 ≤ x) (hx : x < n) (hn : n < 2147483648) (kk : zWP g M mo (pc + 1) lv (.int (zJ (w.2.2 i x.toNat)) :: st) nc ns w) : zWP g M mo pc lv (.int (zJ x) :: .ref i :: st) nc ns w := by
  intro p e s m args below meth c H locs ls C hl hW hS
  have he := zwl_get (g := g) hs hW.2.2
  rw [zce_ar] at he
  obtain ⟨hin, ht⟩ := zin h0 hx hn
  refine va_iald C.1 C.2.1 C.2.2.2.2.2.2.2.2.1.1 hW.1 i 0 he rfl hin hd ?_
  rw [ht]
  exact kk p e s m args below meth c H locs ls C hl hW hS
theorem z_in {H : Heap} (hW : zHW g w H) {i : Nat} {sh : Nat × Nat} (hs : w.1[i]? = some sh) : zA g (zad g i) := by
  show zgB g ≤ zad g i
  have hi2 : i < w.1.length := (List.getElem?_eq_some_iff.mp hs).1
  rw [zad, if_pos (by have := hW.2.2; omega)]
  exact Nat.le_add_right _ _
theorem zw_iastore {i n : Nat} {x y : Int} (hd : decode M.2.1 pc = .ok (.iastore, 1)) (hs : w.1[i]? = some (12, n)) (h0 : 0 ≤ x) (hx : x < n) (hn : n < 2147483648) (kk : zWP g M mo (pc + 1) lv st nc ns (zuI w i x.toNat y)) : zWP g M mo pc lv (.int (zJ y) :: .int (zJ x) :: .ref i :: st) nc ns w := by
  intro p e s m args below meth c H locs ls C hl hW hS
  have he := zwl_get (g := g) hs hW.2.2
  rw [zce_ar] at he
  obtain ⟨hin, ht⟩ := zin h0 hx hn
  have hK := C.2.2.2.2.2.2.2.2.1.1
  have hc : H[zad g i]? = some (vp_cell (zgc g 12) (n, .inl (fun j => zJ (w.2.2 i j)))) := hW.1 i _ he
  refine W.iast C.1 C.2.1 hc ((hK.2 0 _ rfl).1 n (fun j => .int (zJ (w.2.2 i j)))) (fun q => by cases q) (by show ¬ (zJ x < 0 ∨ (arrV _ _ _).slots.size ≤ _); rw [arrV_size]; exact hin) rfl rfl hd fun H1 e1 e2 e3 => ?_
  refine kk p e s m args below meth c H1 _ ls C hl ⟨?_, by rw [e2]; exact hW.2.1, hW.2.2⟩ (hS.put e2 e3 (z_in hW hs))
  rw [← zuI_A, ← zw_aI (f := fun b => if b = x.toNat then zJ y else zJ (w.2.2 i b)) hs hW.2.2 (fun b => by by_cases hb : b = x.toNat <;> simp [hb])]
  refine hW.1.set (zwl_D g w) he ?_ e3
  show H1[zad g i]? = some (vp_cell _ _)
  rw [e1, vp_cell_i, vp_cell_i, arrV_store, ht]
  congr 2
  funext q
  by_cases hq : q = x.toNat
  · subst hq
    simp [updV]
  · simp [updV, hq]
theorem zw_alen {i k n : Nat} (hd : decode M.2.1 pc = .ok (.arraylength, 1)) (hs : w.1[i]? = some (k, n)) (hk : k = 12) (kk : zWP g M mo (pc + 1) lv (.int (zJ (n : Int)) :: st) nc ns w) : zWP g M mo pc lv (.ref i :: st) nc ns w := by
  intro p e s m args below meth c H locs ls C hl hW hS
  subst hk
  have he := zwl_get (g := g) hs hW.2.2
  rw [zce_ar] at he
  exact va_alen C.1 C.2.1 C.2.2.2.2.2.2.2.2.1.1 hW.1 i 0 he rfl (v := zJ (n : Int)) rfl hd (kk p e s m args below meth c H locs ls C hl hW hS)
-- arrays of references
theorem zw_aaload {i n r k : Nat} {x : Int} (hd : decode M.2.1 pc = .ok (.aaload, 1)) (hs : w.1[i]? = some (k, n)) (hk : k = 13 ∨ k = 14 ∨ k = 15) (h0 : 0 ≤ x) (hx : x < n) (hn : n < 2147483648) (hv : w.2.1 i x.toNat = some r) (kk : zWP g M mo (pc + 1) lv (.ref r :: st) nc ns w) : zWP g M mo pc lv (.int (zJ x) :: .ref i :: st) nc ns w := by
  intro p e s m args below meth c H locs ls C hl hW hS
  have he := zwl_get (g := g) hs hW.2.2
  rw [zce_rr (by omega)] at he
  obtain ⟨hin, ht⟩ := zin h0 hx hn
  have hK := C.2.2.2.2.2.2.2.2.1.1
  have hc : H[zad g i]? = some (vp_cell (zgc g k) (n, .inr (.inr (.inr (.inr (fun j => (w.2.1 i j).map (zad g))))))) := hW.1 i _ he
  have hlt : (zJ x).toNatClampNeg < n := Nat.not_le.mp fun q => hin (Or.inr q)
  obtain ⟨ty, hty, hA⟩ : ∃ ty : FieldType, ty.isReference = true ∧ ArrOfT s (zgc g k) ty := by
    rcases hk with rfl | rfl | rfl
    · exact ⟨_, rfl, (hK.2 1 _ rfl).1⟩
    · exact ⟨_, rfl, (hK.2 2 _ rfl).1⟩
    · exact ⟨_, rfl, (hK.2 3 _ rfl).1⟩
  refine W.aald (v := .ref (zad g r)) (ty := ty) C.1 C.2.1 hc (hA n (fun j => va_rf ((w.2.1 i j).map (zad g)))) hty (fun q => by cases q) (by show ¬ (zJ x < 0 ∨ (arrV _ _ _).slots.size ≤ _); rw [arrV_size]; exact hin) (by show (arrV _ _ _).slots[_]? = _; rw [arrV_read _ _ hlt, ht]; show some (va_rf ((w.2.1 i x.toNat).map (zad g))) = _; rw [hv]; rfl) rfl rfl hd (kk p e s m args below meth c H locs ls C hl hW hS)
-- ends
theorem zw_iret {Φ : Option Value → zWS → Prop} {x : Int} (hd : decode M.2.1 pc = .ok (.ireturn, 1)) (hr : M.2.2.2.1 = some .int) (hn : nc ≤ M.2.2.2.2.cells) (hs : ns ≤ M.2.2.2.2.slots) (h : Φ (some (.int (zJ x))) w) : zWP g M (zmo g M Φ) pc lv [.int (zJ x)] nc ns w := by
  intro p e s m args below meth c H locs ls C hl hW hS
  refine W.widen hn hs ?_
  exact W.iret C.1 C.2.1 (C.2.2.2.1.trans hr) (fun t ht hv => ⟨⟨some (.int (zJ x)), w, rfl, h, by rw [ht]; exact hW⟩, hS.F ht⟩) hS.2.2 hd C.2.2.2.2.2.2.1
theorem zw_zret {Φ : Option Value → zWS → Prop} {x : Int} (hd : decode M.2.1 pc = .ok (.ireturn, 1)) (hr : M.2.2.2.1 = some .boolean) (hn : nc ≤ M.2.2.2.2.cells) (hs : ns ≤ M.2.2.2.2.slots) (hx : x = 0 ∨ x = 1) (h : Φ (some (.int (zJ x))) w) : zWP g M (zmo g M Φ) pc lv [.int (zJ x)] nc ns w := by
  intro p e s m args below meth c H locs ls C hl hW hS
  refine W.widen hn hs ?_
  exact W.zret C.1 C.2.1 (C.2.2.2.1.trans hr) (z01 hx).1 (fun t ht hv => ⟨⟨some (.int (zJ x)), w, rfl, h, by rw [ht]; exact hW⟩, hS.F ht⟩) hS.2.2 hd C.2.2.2.2.2.2.1
theorem zw_lret {Φ : Option Value → zWS → Prop} {x : Int} (hd : decode M.2.1 pc = .ok (.lreturn, 1)) (hr : M.2.2.2.1 = some .long) (hn : nc ≤ M.2.2.2.2.cells) (hs : ns ≤ M.2.2.2.2.slots) (h : Φ (some (.long (zL x))) w) : zWP g M (zmo g M Φ) pc lv [.long (zL x)] nc ns w := by
  intro p e s m args below meth c H locs ls C hl hW hS
  refine W.widen hn hs ?_
  exact W.lret C.1 C.2.1 (C.2.2.2.1.trans hr) (fun t ht hv => ⟨⟨some (.long (zL x)), w, rfl, h, by rw [ht]; exact hW⟩, hS.F ht⟩) hS.2.2 hd C.2.2.2.2.2.2.1
theorem zw_aret {Φ : Option Value → zWS → Prop} {r : Nat} {C : String} (hd : decode M.2.1 pc = .ok (.areturn, 1)) (hr : M.2.2.2.1 = some (.object C)) (hn : nc ≤ M.2.2.2.2.cells) (hs : ns ≤ M.2.2.2.2.slots) (h : Φ (some (.ref r)) w) : zWP g M (zmo g M Φ) pc lv [.ref r] nc ns w := by
  intro p e s m args below meth c H locs ls C hl hW hS
  refine W.widen hn hs ?_
  exact W.aret C.1 C.2.1 (C.2.2.2.1.trans hr) (Or.inl ⟨_, rfl⟩) (Or.inr ⟨_, rfl⟩) (fun t ht hv => ⟨⟨some (.ref r), w, rfl, h, by rw [ht]; exact hW⟩, hS.F ht⟩) hS.2.2 hd C.2.2.2.2.2.2.1
theorem zw_vret {Φ : Option Value → zWS → Prop} (hd : decode M.2.1 pc = .ok (.return_, 1)) (hr : M.2.2.2.1 = none) (hn : nc ≤ M.2.2.2.2.cells) (hs : ns ≤ M.2.2.2.2.slots) (h : Φ none w) : zWP g M (zmo g M Φ) pc lv [] nc ns w := by
  intro p e s m args below meth c H locs ls C hl hW hS
  refine W.widen hn hs ?_
  exact W.vret C.1 C.2.1 (C.2.2.2.1.trans hr) (fun t ht hv => ⟨⟨none, w, rfl, h, by rw [ht]; exact hW⟩, hS.F ht⟩) hS.2.2 hd C.2.2.2.2.2.2.1
-- constants
theorem zw_ldc2 {idx : Nat} {v : Int} (hd : decode M.2.1 pc = .ok (.ldc2_w idx, 3)) (hw : Cond.constantLong M.1.cls idx (zL v) ∈ ztbl) (kk : zWP g M mo (pc + 3) lv (.long (zL v) :: st) nc ns w) : zWP g M mo pc lv st nc ns w := by
  intro p e s m args below meth c H locs ls C hl hW hS
  exact lv_ldc2 C.1 C.2.1 C.2.2.2.2.2.1 (C.2.2.2.2.1 _ hw) hd (kk p e s m args below meth c H locs ls C hl hW hS)
-- switches
theorem zw_swIn {dflt lo hi : Int} {offs : Array Int} {len : Nat} {x off : Int} {tgt : Nat} (hd : decode M.2.1 pc = .ok (.tableswitch dflt lo hi offs, len)) (hx : zR x) (h1 : lo ≤ x) (h2 : x ≤ hi) (ho : offs[(x - lo).toNat]? = some off) (ht : (pc : Int) + off = (tgt : Int)) (kk : zWP g M mo tgt lv st nc ns w) : zWP g M mo pc lv (.int (zJ x) :: st) nc ns w := by
  intro p e s m args below meth c H locs ls C hl hW hS
  exact lv_tableIn C.1 C.2.1 hd (by rw [zJ_toInt hx]; omega) (by rw [zJ_toInt hx]; omega) (by rw [zJ_toInt hx]; exact ho) ht (kk p e s m args below meth c H locs ls C hl hW hS)
theorem zw_swOut {dflt lo hi : Int} {offs : Array Int} {len : Nat} {x : Int} {tgt : Nat} (hd : decode M.2.1 pc = .ok (.tableswitch dflt lo hi offs, len)) (hx : zR x) (h : x < lo ∨ hi < x) (ht : (pc : Int) + dflt = (tgt : Int)) (kk : zWP g M mo tgt lv st nc ns w) : zWP g M mo pc lv (.int (zJ x) :: st) nc ns w := by
  intro p e s m args below meth c H locs ls C hl hW hS
  exact lv_tableOut C.1 C.2.1 hd (by rw [zJ_toInt hx]; exact h) ht (kk p e s m args below meth c H locs ls C hl hW hS)
end ZH2
