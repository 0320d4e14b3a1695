/-! RULES of the constructors: what is new in the world -/
def zrl : List (Nat × Nat × Nat) → Nat → Nat → Option Nat
  | [] => fun _ _ => none
  | q :: L => fun a b => if a = q.1 ∧ b = q.2.1 then some q.2.2 else zrl L a b
/-- nothing is known of a cell that isn't there yet -/
def zfrs (w : zWS) : Prop := ∀ a, w.1.length ≤ a → ∀ j, w.2.1 a j = none ∧ w.2.2 a j = 0
theorem zfrs_app {S l : List (Nat × Nat)} {R : Nat → Nat → Option Nat} {I : zMu} (h : zfrs (S, R, I)) : zfrs (S ++ l, R, I) := fun a ha j => h a (by
  have : S.length + l.length ≤ a := by rw [← List.length_append]; exact ha
  show S.length ≤ a
  omega) j
theorem zfrs_R {w : zWS} {i j : Nat} {v : Option Nat} (h : zfrs w) (hi : i < w.1.length) : zfrs (zuR w i j v) := fun a ha b => ⟨by
  show (if a = i ∧ b = j then v else w.2.1 a b) = none
  have ha' : w.1.length ≤ a := ha
  rw [if_neg (fun q => by omega)]
  exact (h a ha b).1, (h a ha b).2⟩
theorem zfrs_I {w : zWS} {i j : Nat} {v : Int} (h : zfrs w) (hi : i < w.1.length) : zfrs (zuI w i j v) := fun a ha b => ⟨(h a ha b).1, by
  show (if a = i ∧ b = j then v else w.2.2 a b) = 0
  have ha' : w.1.length ≤ a := ha
  rw [if_neg (fun q => by omega)]
  exact (h a ha b).2⟩
theorem zfrs_A {w : zWS} {i : Nat} {f : Nat → Int} (h : zfrs w) (hi : i < w.1.length) : zfrs (zuA w i f) := fun a ha b => ⟨(h a ha b).1, by
  show (if a = i then f b else w.2.2 a b) = 0
  have ha' : w.1.length ≤ a := ha
  rw [if_neg (by omega)]
  exact (h a ha b).2⟩
theorem zwl_is {g : zG} {w : zWS} {k : Nat} {q : Nat × va_E} (h : (zwl g w)[k]? = some q) : k < w.1.length ∧ q = (zgB g + k, zce g w k (w.1.getD k (99, 0))) := by
  have hk : k < w.1.length := (zwl_at h).1
  rw [zwl, List.getElem?_map, List.getElem?_range hk] at h
  exact ⟨hk, (Option.some.inj h).symm⟩
theorem zpushL {g : zG} {w w' : zWS} {l : List (Nat × Nat)} {H H' : Heap} (hW : zHW g w H) (h1 : w'.1 = w.1 ++ l) (hlen : w.1.length + l.length < 90000) (hR : ∀ a, a < w.1.length → ∀ j, w'.2.1 a j = w.2.1 a j ∧ w'.2.2 a j = w.2.2 a j) (hz : H'.size = H.size + l.length) (ho : ∀ q, q < H.size → H'[q]? = H[q]?)
    (hn : ∀ k sh, l[k]? = some sh → va_at (zgD g) vwCl (zgB g + (w.1.length + k), zce g w' (w.1.length + k) sh) H') : zHW g w' H' := by
  have hl : w'.1.length = w.1.length + l.length := by rw [h1, List.length_append]
  refine ⟨fun k q hq => ?_, by rw [hz, hW.2.1, hl]; omega, by rw [hl]; exact hlen⟩
  obtain ⟨hk, rfl⟩ := zwl_is hq
  rw [hl] at hk
  by_cases hkw : k < w.1.length
  · have hd : w'.1.getD k (99, 0) = w.1.getD k (99, 0) := by rw [List.getD_eq_getElem?_getD, List.getD_eq_getElem?_getD, h1, List.getElem?_append_left hkw]
    have h0 : (zwl g w)[k]? = some (zgB g + k, zce g w k (w.1.getD k (99, 0))) := by rw [zwl, List.getElem?_map, List.getElem?_range hkw]; rfl
    rw [hd, zce_eq (fun b => (hR k hkw b).1) (fun b => (hR k hkw b).2)]
    exact (hW.1 k _ h0).kept (ho _ (hW.1 k _ h0).lt)
  · obtain ⟨sh, hsh⟩ : ∃ sh, l[k - w.1.length]? = some sh := ⟨_, List.getElem?_eq_getElem (by omega)⟩
    have hd : w'.1.getD k (99, 0) = sh := by rw [List.getD_eq_getElem?_getD, h1, List.getElem?_append_right (by omega), hsh]; rfl
    have h2 := hn _ _ hsh
    rw [show w.1.length + (k - w.1.length) = k by omega] at h2
    rw [hd]
    exact h2
theorem zpush {g : zG} {w : zWS} {sh : Nat × Nat} {H H' : Heap} (hW : zHW g w H) (hlen : w.1.length + 1 < 90000) (hz : H'.size = H.size + 1) (ho : ∀ q, q < H.size → H'[q]? = H[q]?) (hn : va_at (zgD g) vwCl (zgB g + w.1.length, zce g w w.1.length sh) H') : zHW g (w.1 ++ [sh], w.2) H' := by
  refine zpushL (l := [sh]) hW rfl hlen (fun a _ j => ⟨rfl, rfl⟩) hz ho (fun k s hk => ?_)
  have hz2 : k < 1 := (List.getElem?_eq_some_iff.mp hk).1
  obtain rfl : k = 0 := by omega
  obtain rfl : sh = s := Option.some.inj hk
  exact hn
/-- further words on the tables: arrays over the program's classes -/
def zEX (U : State) : Prop := va_AO "LevelEquations$Series" U ∧ va_AO "LevelEquations$Polynomial" U ∧ (Cond.arrayOver (.array .int)).before #[] U = true
theorem zEX_moved {u U : State} (h : u.vm.Alike U.vm) (hX : zEX u) : zEX U := ⟨hX.1.moved h, hX.2.1.moved h, Jvm.Stand.arrayOver_alikeB h hX.2.2⟩
def zNB (kc N : Nat) (C : String) : Prop := ∃ (T : u_T) (ty : Nat → FieldType), zCB kc C T N ∧ (∀ k, k < N → parseFieldDescriptor (T k).2.2.1 = some (ty k)) ∧ ∀ j, j < N → defaultValue (ty j) = (if (zRk kc).getD j false then .null else .int (zJ 0))
section ZN
variable {g : zG} {M : zM} {mo : zMo} {pc nc ns : Nat} {lv : List (Nat × Value)} {st : List Value} {w : zWS}
theorem zw_new {idx kc N r : Nat} {C : String} (hB : zNB kc N C) (hli : Cond.classLink M.1.cls idx C ∈ ztbl) (hins : Cond.instantiable C N ∈ ztbl) (hini : Cond.initialized C ∈ ztbl) (hd : decode M.2.1 pc = .ok (.new idx, 3)) (hfr : zfrs w) (hlen : w.1.length + 1 < 90000) (hc1 : nc + 1 ≤ M.2.2.2.2.cells) (hc2 : ns + N ≤ M.2.2.2.2.slots) (hr : w.1.length = r)
    (kk : zWP g M mo (pc + 3) lv (.ref r :: st) (nc + 1) (ns + N) (w.1 ++ [(kc, N)], w.2)) : zWP g M mo pc lv st nc ns w := by
  intro p e s m args below meth c H locs ls C0 hl hW hS
  obtain ⟨T, ty, hCB, hty, hdf⟩ := hB
  obtain ⟨c1, c2, c3, c4, -, c6, c7⟩ := hCB
  have hts := C0.2.2.2.2.1
  have hK := C0.2.2.2.2.2.2.2.2.1.1
  have hKn := hK.1 kc _ c1
  subst hr
  refine W.newcK C0.1 C0.2.1 C0.2.2.2.2.2.1 (hts _ hli) (hts _ hins) (hts _ hini) rfl hd hc1 hc2 hKn.2.1 rfl fun H1 kC hkC e1 z1 o1 => ?_
  have hnew : zHW g (w.1 ++ [(kc, N)], w.2) H1 := zpush hW hlen z1 o1 (by
    rw [zce_ob c2]
    refine ⟨_, c1, (u_born (ws := ztbl) (args := args) ty hts c7 hKn hkC (by rw [← hW.2.1]; exact e1) hty).to (fun j hj => ?_)⟩
    rw [hdf j hj]
    show (if (zRk kc).getD j false then _ else _) = ((List.range (zNF kc)).map (zfv g w kc w.1.length)).getD j .null
    rw [List.getD_eq_getElem?_getD (l := (List.range (zNF kc)).map _), List.getElem?_map, List.getElem?_range (by rw [← c3]; exact hj)]
    show _ = zfv g w kc w.1.length j
    unfold zfv
    rw [(hfr _ (Nat.le_refl _) j).1, (hfr _ (Nat.le_refl _) j).2]
    rfl)
  have ead : zad g w.1.length = H.size := by rw [zad, if_pos (by omega), hW.2.1]
  have h2 := kk p e s m args below meth c H1 locs ls C0 hl hnew ⟨Nat.le_trans hS.1 (by omega), fun x h1 h2 => (o1 x (Nat.lt_of_lt_of_le h1 hS.1)).trans (hS.2.1 x h1 h2), hS.2.2⟩
  rw [List.map_cons, show ztv g (.ref w.1.length) = .ref (zad g w.1.length) from rfl, ead] at h2
  exact h2
theorem znn {n : Nat} {x : Int} (hx : x = (n : Int)) (hn : n < 2147483648) : ¬ zJ x < 0 ∧ (zJ x).toNatClampNeg = n := by
  subst hx
  have e := zJ_toInt (x := (n : Int)) ⟨by omega, by omega⟩
  refine ⟨fun q => ?_, ?_⟩
  · have := (zJ_lt (x := (n : Int)) (y := 0) ⟨by omega, by omega⟩ zR0).mp q
    omega
  · show (zJ (n : Int)).toInt.toNat = n
    rw [e]
    rfl
theorem zw_newA {n r : Nat} {x : Int} (hx : x = (n : Int)) (hd : decode M.2.1 pc = .ok (.newarray .int, 2)) (hfr : zfrs w) (hlen : w.1.length + 1 < 90000) (hn : n ≤ 100000) (hc1 : nc + 1 ≤ M.2.2.2.2.cells) (hc2 : ns + n ≤ M.2.2.2.2.slots) (hr : w.1.length = r)
    (kk : zWP g M mo (pc + 2) lv (.ref r :: st) (nc + 1) (ns + n) (w.1 ++ [(12, n)], w.2)) : zWP g M mo pc lv (.int (zJ x) :: st) nc ns w := by
  intro p e s m args below meth c H locs ls C0 hl hW hS
  have hts := C0.2.2.2.2.1
  have hK := C0.2.2.2.2.2.2.2.2.1.1
  subst hr
  obtain ⟨hn0, hn1⟩ := znn hx (by omega)
  refine va_newaK (atype := .int) (N := n) C0.1 C0.2.1 (hts _ zb_arrI) rfl hd rfl hn0 hn1 (show n * 4 ≤ _ by omega) hc1 hc2 rfl fun H1 cA e1 z1 o1 hAr hNm => ?_
  have hcA : cA = zgc g 12 := Option.some.inj (hNm.symm.trans (hK.2 0 _ rfl).2)
  subst hcA
  have hnew : zHW g (w.1 ++ [(12, n)], w.2) H1 := zpush hW hlen z1 o1 (by
    rw [zce_ar]
    show H1[zgB g + w.1.length]? = some (vp_cell _ _)
    rw [← hW.2.1, e1, vp_cell_i]
    congr 2
    funext j
    show _ = Value.int (zJ (w.2.2 w.1.length j))
    rw [(hfr _ (Nat.le_refl _) j).2]
    rfl)
  have ead : zad g w.1.length = H.size := by rw [zad, if_pos (by omega), hW.2.1]
  have h2 := kk p e s m args below meth c H1 locs ls C0 hl hnew ⟨Nat.le_trans hS.1 (by omega), fun x h1 h2 => (o1 x (Nat.lt_of_lt_of_le h1 hS.1)).trans (hS.2.1 x h1 h2), hS.2.2⟩
  rw [List.map_cons, show ztv g (.ref w.1.length) = .ref (zad g w.1.length) from rfl, ead] at h2
  exact h2
theorem zw_newQ {n r k t0 idx : Nat} {x : Int} {C : String} (hk : 12 < k) (ht : ∀ g : zG, (zTys g)[t0]? = some (zgc g k, .object C)) (hAO : ∀ s, mo.1 s → va_AO C s) (hli : Cond.classLink M.1.cls idx C ∈ ztbl) (hx : x = (n : Int)) (hd : decode M.2.1 pc = .ok (.anewarray idx, 3)) (hfr : zfrs w) (hlen : w.1.length + 1 < 90000) (hn : n ≤ 100000) (hc1 : nc + 1 ≤ M.2.2.2.2.cells) (hc2 : ns + n ≤ M.2.2.2.2.slots) (hr : w.1.length = r)
    (kk : zWP g M mo (pc + 3) lv (.ref r :: st) (nc + 1) (ns + n) (w.1 ++ [(k, n)], w.2)) : zWP g M mo pc lv (.int (zJ x) :: st) nc ns w := by
  intro p e s m args below meth c H locs ls C0 hl hW hS
  have hts := C0.2.2.2.2.1
  have hK := C0.2.2.2.2.2.2.2.2.1.1
  subst hr
  obtain ⟨hn0, hn1⟩ := znn hx (by omega)
  refine W.anew C0.1 C0.2.1 C0.2.2.2.2.2.1 (hts _ hli) (va_AO.use (hAO s C0.2.2.2.2.2.2.2.2.2.2)) rfl hd rfl hn0 (by rw [hn1]; omega) hc1 (by rw [hn1]; exact hc2) fun cA kA comp f1 f2 f3 f4 => ?_
  rw [hn1]
  obtain ⟨kA', comp', g1, g2, g3, g4⟩ := (hK.2 t0 _ (ht g)).2
  have hcA : cA = zgc g k := Option.some.inj (f1.symm.trans g4)
  subst hcA
  generalize hH1 : H.push ({ cls := zgc g k, slots := Array.replicate n .null, vm := .none } : Cell) = H1
  have z1 : H1.size = H.size + 1 := by rw [← hH1, Array.size_push]
  have e1 : H1[H.size]? = some (arrV (zgc g k) n (fun _ => .null)) := by rw [← hH1, Array.getElem?_push_size, ← arrV_new]
  have o1 : ∀ q : Nat, q < H.size → H1[q]? = H[q]? := fun q hq => by rw [← hH1, Array.getElem?_push, if_neg (Nat.ne_of_lt hq)]
  have hnew : zHW g (w.1 ++ [(k, n)], w.2) H1 := zpush hW hlen z1 o1 (by
    rw [zce_rr hk]
    show H1[zgB g + w.1.length]? = some (vp_cell _ _)
    rw [← hW.2.1, e1, vp_cell_q]
    congr 2
    funext j
    show _ = va_rf ((w.2.1 w.1.length j).map (zad g))
    rw [(hfr _ (Nat.le_refl _) j).1]
    rfl)
  have ead : zad g w.1.length = H.size := by rw [zad, if_pos (by omega), hW.2.1]
  have h2 := kk p e s m args below meth c H1 locs ls C0 hl hnew ⟨Nat.le_trans hS.1 (by omega), fun x h1 h2 => (o1 x (Nat.lt_of_lt_of_le h1 hS.1)).trans (hS.2.1 x h1 h2), hS.2.2⟩
  rw [List.map_cons, show ztv g (.ref w.1.length) = .ref (zad g w.1.length) from rfl, ead] at h2
  exact h2
end ZN
