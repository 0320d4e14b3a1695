/-! THE PURE WORLD: cells are numbered from 0 on; the cell i lies at the address base + i. A world: the cells' kinds and sizes, the references that they hold, the whole numbers that they hold. -/
def zJ (z : Int) : Int32 := Int32.ofInt z
def zL (z : Int) : Int64 := Int64.ofInt z
abbrev zWS : Type := List (Nat × Nat) × (Nat → Nat → Option Nat) × (Nat → Nat → Int)
/-- launch, classes' numbers and slots, base, array classes by kind, addresses outside the world -/
abbrev zG : Type := Launch × va_G × Nat × (Nat → ClassId) × (Nat → Nat)
def zgl (g : zG) : Launch := g.1
def zgD (g : zG) : va_G := g.2.1
def zgB (g : zG) : Nat := g.2.2.1
def zgc (g : zG) : Nat → ClassId := g.2.2.2.1
def zgx (g : zG) : Nat → Nat := g.2.2.2.2
def zad (g : zG) (i : Nat) : Nat := if i < 90000 then zgB g + i else zgx g (i - 90000)
def ztv (g : zG) : Value → Value
  | .ref i => .ref (zad g i)
  | v => v
theorem ztv_cat (g : zG) (v : Value) : (ztv g v).category = v.category := by cases v <;> rfl
def zlv (g : zG) (lv : List (Nat × Value)) : List (Nat × Value) := lv.map (fun q => (q.1, ztv g q.2))
/-- name, code, locals, answer, room -/
abbrev zM : Type := MethodName × ByteArray × Nat × Option FieldType × Room
/-- which fields of a class are references -/
def zRk : Nat → List Bool := fun k => match k with
  | 0 => [false, true, true, true, true]
  | 1 => [true, true, true, true, false, false, false, false, false, false]
  | 2 => [true, true, true, true, true]
  | 3 => [true, false]
  | 4 => [true, true, false]
  | 5 => [true, true, false]
  | 6 => [true, false, false]
  | 7 => [true, true, true, true]
  | 8 => [true, false, false, false]
  | 9 => [true, true, true, true, false, false, false, false, false]
  | 10 => [true, true, false, true, true, true, true, true, true, true, true, true]
  | _ => [false, true, true, true, false, true, true, false, false, true, true, true, true, true, false, false, false, false, true, true, true, true, false, true, false, true, true, true, false, true, true, false, false, true, true, true, true, false, true, false, true, true, false, false, false, true, true, true, true, true]
def zNF (k : Nat) : Nat := (zRk k).length
def zfv (g : zG) (w : zWS) (k i j : Nat) : Value := if (zRk k).getD j false then va_rf ((w.2.1 i j).map (zad g)) else .int (zJ (w.2.2 i j))
def zce (g : zG) (w : zWS) (i : Nat) (sh : Nat × Nat) : va_E :=
  if sh.1 < 12 then .inr (sh.1, (List.range (zNF sh.1)).map (zfv g w sh.1 i))
  else if sh.1 = 12 then .inl (zgc g 12, sh.2, .inl (fun j => zJ (w.2.2 i j)))
  else .inl (zgc g sh.1, sh.2, .inr (.inr (.inr (.inr (fun j => (w.2.1 i j).map (zad g))))))
def zwl (g : zG) (w : zWS) : va_W := (List.range w.1.length).map (fun i => (zgB g + i, zce g w i (w.1.getD i (99, 0))))
def zHW (g : zG) (w : zWS) (H : Heap) : Prop := va_P (zgD g) vwCl (zwl g w) H ∧ H.size = zgB g + w.1.length ∧ w.1.length < 90000
def zA (g : zG) : Nat → Prop := fun q => zgB g ≤ q
/-- the arrays' classes -/
def zTys (g : zG) : List (ClassId × FieldType) := [(zgc g 12, .int), (zgc g 13, .object "LevelEquations$Polynomial"), (zgc g 14, .object "LevelEquations$Series"), (zgc g 15, .array .int)]
def ztbl : List Cond := lw_tbl.filter goodWord
/-- the String constants -/
def zTx : List String := ["prime", "j", "sum", "times", "stretch", "over", "power", "find", "keep"]
def zTi : List Nat := [68, 70, 72, 74, 76, 78, 80, 82, 84]
def zTl : List Nat := [5, 1, 3, 5, 7, 4, 5, 4, 4]
def zTb : List (List Int32) := [[112, 114, 105, 109, 101], [106], [115, 117, 109], [116, 105, 109, 101, 115], [115, 116, 114, 101, 116, 99, 104], [111, 118, 101, 114], [112, 111, 119, 101, 114], [102, 105, 110, 100], [107, 101, 101, 112]]
/-- the calls of nest mates' private members -/
def zNest : List (String × Nat × MethodName × String) := [(RX0, 23, yX3_init, RX10), (RX0, 36, yX6_init, RX10), (RX10, 23, yX7_init, RX10), (RX10, 30, yX9_init, RX10), (RX10, 37, yX1_init, RX10), (RX10, 51, yX8_init, RX10), (RX10, 58, yX5_init, RX10), (RX10, 65, yX4_init, RX10), (RX4, 11, yX3_init, RX10), (RX7, 57, yX10_multiply, RX10), (RX7, 84, yX10_inverse, RX10), (RX9, 67, yX10_multiply, RX10), (RX1, 98, yX10_inverse, RX10), (RX0, 58, yX10_inverse, RX10)]
/-- what a method may take of the machine's state at its entry -/
def zU (g : zG) (U : State) : Prop := va_K (zgD g) vwCl (zTys g) U ∧ (∀ q ∈ zNest, va_Nw (.methodLinkNest q.1 q.2.1 q.2.2.1 q.2.2.2) U) ∧
  (∀ k, k < 9 → vk_R RX5 (zTi.getD k 0) (zTx.getD k "") (zgx g (k + 1)) U) ∧ vk_S 9 zTl zTb (fun k => zgx g (k + 1)) (fun k => zgx g (k + 101)) (zA g) U U.heap ∧ va_Z "java/lang/String" "COMPACT_STRINGS" "Z" (.int 1) (zA g) U U.heap ∧ (va_Z "jdk/internal/util/Preconditions" "SIOOBE_FORMATTER" "Ljava/util/function/BiFunction;" .null (zA g) U U.heap ∨ va_Z "jdk/internal/util/Preconditions" "SIOOBE_FORMATTER" "Ljava/util/function/BiFunction;" (.ref (zgx g 201)) (zA g) U U.heap)
/-- what a method's code may take of the machine -/
def zCX (g : zG) (M : zM) (EX : State → Prop) (p : Program) (s : State) (m : MethodId) (args : Array Value) (meth : Method) (c : Code) : Prop :=
  p.tables.exec = Jvm.exec ∧ c.code = M.2.1 ∧ c.maxLocals = M.2.2.1 ∧ meth.sig.returnType = M.2.2.2.1 ∧ (∀ w ∈ ztbl, w.before args s = true) ∧ s.vm.findClass M.1.cls = some m.cls ∧ meth.locks = false ∧ (M.1.name = "<init>" → meth.name = "<init>") ∧ zU g s ∧ zgB g ≤ s.heap.size ∧ EX s
/-- further facts of the entry's state; where the machine is to come -/
abbrev zMo : Type := (State → Prop) × (List Frame → Array Value → State → State → Prop)
/-- from here on the machine comes there -/
def zWP (g : zG) (M : zM) (mo : zMo) (pc : Nat) (lv : List (Nat × Value)) (st : List Value) (nc ns : Nat) (w : zWS) : Prop :=
  ∀ (p : Program) (e : Env) (s : State) (m : MethodId) (args : Array Value) (below : List Frame) (meth : Method) (c : Code) (H : Heap) (locs : List Loc) (ls : Array Slot),
    zCX g M mo.1 p s m args meth c → lv_has ls M.2.2.1 (zlv g lv) → zHW g w H → va_S (zA g) s.heap H locs →
    W p (zgl g) e M.2.2.2.2 s m args below meth c H locs nc ns (mo.2 below args s) (F0 m pc ls (st.map (ztv g)))
def zQ (g : zG) (Φ : Option Value → zWS → Prop) : Array Value → State → Outcome → State → Prop := fun _ st oc t =>
  (∃ (r : Option Value) (w' : zWS), oc = .returned (r.map (ztv g)) ∧ Φ r w' ∧ zHW g w' t.heap) ∧ va_F (zA g) st t
def zws (M : zM) : List Cond := .code M.1 M.2.1 M.2.2.1 M.2.2.2.1 :: ztbl
/-- the method's mode: it comes back with what Φ says -/
def zmo (g : zG) (M : zM) (Φ : Option Value → zWS → Prop) : zMo := (fun _ => True, fun below args s => MQ below (zQ g Φ) args s M.2.2.2.2.cells M.2.2.2.2.slots (zA g))
/-- a call of the method with these arguments in this world comes back with what Φ says -/
def zOK (g : zG) (M : zM) (args : List Value) (w : zWS) (Φ : Option Value → zWS → Prop) : Prop :=
  Met (zgl g) M.1 (zws M) M.2.2.2.2 (va_Pc (args.map (ztv g)) (fun U => zU g U ∧ zgB g ≤ U.heap.size ∧ zHW g w U.heap)) (zQ g Φ) M.2.2.2.2.cells M.2.2.2.2.slots (zA g)
def zOKi (g : zG) (M : zM) (args : List Value) (w : zWS) (φ : Int → zWS → Prop) : Prop := zOK g M args w (fun r w' => ∃ x : Int, r = some (.int (zJ x)) ∧ φ x w')
def zOKl (g : zG) (M : zM) (args : List Value) (w : zWS) (φ : Int → zWS → Prop) : Prop := zOK g M args w (fun r w' => ∃ x : Int, r = some (.long (zL x)) ∧ φ x w')
def zOKr (g : zG) (M : zM) (args : List Value) (w : zWS) (φ : Nat → zWS → Prop) : Prop := zOK g M args w (fun r w' => ∃ x : Nat, r = some (.ref x) ∧ φ x w')
def zOKv (g : zG) (M : zM) (args : List Value) (w : zWS) (φ : zWS → Prop) : Prop := zOK g M args w (fun r w' => r = none ∧ φ w')
-- the world's list
theorem zwl_len (g : zG) (w : zWS) : (zwl g w).length = w.1.length := by simp [zwl]
theorem zwl_get {g : zG} {w : zWS} {i : Nat} {sh : Nat × Nat} (h : w.1[i]? = some sh) (hn : w.1.length < 90000) : (zwl g w)[i]? = some (zad g i, zce g w i sh) := by
  have hi : i < w.1.length := (List.getElem?_eq_some_iff.mp h).1
  have hd : w.1.getD i (99, 0) = sh := by rw [List.getD_eq_getElem?_getD, h]; rfl
  rw [zwl, List.getElem?_map, List.getElem?_range hi]
  show some (zgB g + i, zce g w i (w.1.getD i (99, 0))) = some (zad g i, zce g w i sh)
  rw [hd, zad, if_pos (by omega)]
theorem zwl_at {g : zG} {w : zWS} {k : Nat} {q : Nat × va_E} (h : (zwl g w)[k]? = some q) : k < w.1.length ∧ q.1 = zgB g + k := by
  have hk : k < w.1.length := by rw [← zwl_len g w]; exact (List.getElem?_eq_some_iff.mp h).1
  refine ⟨hk, ?_⟩
  rw [zwl, List.getElem?_map, List.getElem?_range hk] at h
  rw [← Option.some.inj h]
theorem zwl_D (g : zG) (w : zWS) : va_D (zA g) (zwl g w) := by
  refine ⟨fun i j p q hi hj e => ?_, fun k q hk => ?_⟩
  · have := (zwl_at hi).2
    have := (zwl_at hj).2
    omega
  · rw [(zwl_at hk).2]
    exact Nat.le_add_right _ _
theorem zw_set {g : zG} {w w' : zWS} {i : Nat} {sh : Nat × Nat} {e : va_E} (h : w.1[i]? = some sh) (hn : w.1.length < 90000) (h1 : w'.1 = w.1) (he : zce g w' i sh = e) (ho : ∀ j s2, j ≠ i → w.1[j]? = some s2 → zce g w' j s2 = zce g w j s2) : (zwl g w).set i (zad g i, e) = zwl g w' := by
  have hi : i < w.1.length := (List.getElem?_eq_some_iff.mp h).1
  apply List.ext_getElem?
  intro j
  by_cases hj : j < w.1.length
  · obtain ⟨s2, hs2⟩ : ∃ s2, w.1[j]? = some s2 := ⟨_, List.getElem?_eq_getElem hj⟩
    rw [zwl_get (g := g) (w := w') (i := j) (sh := s2) (by rw [h1]; exact hs2) (by rw [h1]; exact hn)]
    by_cases hji : j = i
    · subst hji
      rw [List.getElem?_set_self (by rw [zwl_len]; exact hj)]
      rw [h] at hs2
      rw [← Option.some.inj hs2, he]
    · rw [List.getElem?_set_ne (Ne.symm hji), zwl_get hs2 hn, ho j s2 hji hs2]
  · rw [List.getElem?_eq_none (by rw [List.length_set, zwl_len]; omega), List.getElem?_eq_none (by rw [zwl_len, h1]; omega)]
def zuI (w : zWS) (i j : Nat) (v : Int) : zWS := (w.1, w.2.1, fun a b => if a = i ∧ b = j then v else w.2.2 a b)
def zuR (w : zWS) (i j : Nat) (r : Option Nat) : zWS := (w.1, fun a b => if a = i ∧ b = j then r else w.2.1 a b, w.2.2)
/-- all whole numbers of a cell anew -/
def zuA (w : zWS) (i : Nat) (f : Nat → Int) : zWS := (w.1, w.2.1, fun a b => if a = i then f b else w.2.2 a b)
def zpu (w : zWS) (k n : Nat) : zWS := (w.1 ++ [(k, n)], fun a b => if a = w.1.length then none else w.2.1 a b, fun a b => if a = w.1.length then 0 else w.2.2 a b)
theorem zfv_ne {g : zG} {w : zWS} {k i j : Nat} (hr : (zRk k).getD j false = false) : zfv g w k i j = .int (zJ (w.2.2 i j)) := by rw [zfv, hr]; rfl
theorem zfv_rf {g : zG} {w : zWS} {k i j : Nat} (hr : (zRk k).getD j false = true) : zfv g w k i j = va_rf ((w.2.1 i j).map (zad g)) := by rw [zfv, hr]; rfl
theorem zce_ob {g : zG} {w : zWS} {i k n : Nat} (h : k < 12) : zce g w i (k, n) = .inr (k, (List.range (zNF k)).map (zfv g w k i)) := by rw [zce, if_pos h]
theorem zce_ar {g : zG} {w : zWS} {i n : Nat} : zce g w i (12, n) = .inl (zgc g 12, n, .inl (fun j => zJ (w.2.2 i j))) := by rw [zce, if_neg (show ¬ (12 : Nat) < 12 by decide), if_pos rfl]
theorem zce_rr {g : zG} {w : zWS} {i k n : Nat} (h : 12 < k) : zce g w i (k, n) = .inl (zgc g k, n, .inr (.inr (.inr (.inr (fun j => (w.2.1 i j).map (zad g)))))) := by rw [zce, if_neg (by show ¬ k < 12; omega), if_neg (by show ¬ k = 12; omega)]
theorem zce_eq {g : zG} {w w' : zWS} {i : Nat} {sh : Nat × Nat} (h1 : ∀ b, w'.2.1 i b = w.2.1 i b) (h2 : ∀ b, w'.2.2 i b = w.2.2 i b) : zce g w' i sh = zce g w i sh := by
  have e1 : w'.2.1 i = w.2.1 i := funext h1
  have e2 : w'.2.2 i = w.2.2 i := funext h2
  unfold zce
  have e3 : zfv g w' sh.1 i = zfv g w sh.1 i := by
    funext j
    unfold zfv
    rw [e1, e2]
  rw [e1, e2, e3]
theorem zw_uI {g : zG} {w : zWS} {i j k n : Nat} {v : Int} (h : w.1[i]? = some (k, n)) (hn : w.1.length < 90000) (hk : k < 12) (hj : j < zNF k) (hr : (zRk k).getD j false = false) : (zwl g w).set i (zad g i, .inr (k, ((List.range (zNF k)).map (zfv g w k i)).set j (.int (zJ v)))) = zwl g (zuI w i j v) := by
  refine zw_set h hn rfl ?_ (fun a s2 ha _ => zce_eq (fun b => rfl) (fun b => if_neg (fun q => ha q.1)))
  rw [zce_ob hk]
  refine congrArg (fun l => (Sum.inr (k, l) : va_E)) ?_
  apply List.ext_getElem?
  intro b
  by_cases hb : b < zNF k
  · rw [List.getElem?_map, List.getElem?_range hb]
    by_cases hbj : b = j
    · subst hbj
      rw [List.getElem?_set_self (by simp [hb])]
      show some (zfv g _ k i b) = _
      rw [zfv_ne hr, show (zuI w i b v).2.2 i b = v from if_pos ⟨rfl, rfl⟩]
    · rw [List.getElem?_set_ne (Ne.symm hbj), List.getElem?_map, List.getElem?_range hb]
      show some (zfv g _ k i b) = some (zfv g w k i b)
      unfold zfv
      rw [show (zuI w i j v).2.2 i b = w.2.2 i b from if_neg (fun q => hbj q.2), show (zuI w i j v).2.1 = w.2.1 from rfl]
  · rw [List.getElem?_eq_none (by simp; omega), List.getElem?_eq_none (by simp; omega)]
theorem zw_uR {g : zG} {w : zWS} {i j k n : Nat} {v : Option Nat} (h : w.1[i]? = some (k, n)) (hn : w.1.length < 90000) (hk : k < 12) (hj : j < zNF k) (hr : (zRk k).getD j false = true) : (zwl g w).set i (zad g i, .inr (k, ((List.range (zNF k)).map (zfv g w k i)).set j (va_rf (v.map (zad g))))) = zwl g (zuR w i j v) := by
  refine zw_set h hn rfl ?_ (fun a s2 ha _ => zce_eq (fun b => if_neg (fun q => ha q.1)) (fun b => rfl))
  rw [zce_ob hk]
  refine congrArg (fun l => (Sum.inr (k, l) : va_E)) ?_
  apply List.ext_getElem?
  intro b
  by_cases hb : b < zNF k
  · rw [List.getElem?_map, List.getElem?_range hb]
    by_cases hbj : b = j
    · subst hbj
      rw [List.getElem?_set_self (by simp [hb])]
      show some (zfv g _ k i b) = _
      rw [zfv_rf hr, show (zuR w i b v).2.1 i b = v from if_pos ⟨rfl, rfl⟩]
    · rw [List.getElem?_set_ne (Ne.symm hbj), List.getElem?_map, List.getElem?_range hb]
      show some (zfv g _ k i b) = some (zfv g w k i b)
      unfold zfv
      rw [show (zuR w i j v).2.1 i b = w.2.1 i b from if_neg (fun q => hbj q.2), show (zuR w i j v).2.2 = w.2.2 from rfl]
  · rw [List.getElem?_eq_none (by simp; omega), List.getElem?_eq_none (by simp; omega)]
theorem zw_aI {g : zG} {w : zWS} {i n : Nat} {f : Nat → Int32} {F : Nat → Int} (h : w.1[i]? = some (12, n)) (hn : w.1.length < 90000) (hf : ∀ b, f b = zJ (F b)) : (zwl g w).set i (zad g i, .inl (zgc g 12, n, .inl f)) = zwl g (zuA w i F) := by
  refine zw_set h hn rfl ?_ (fun a s2 ha _ => zce_eq (fun b => rfl) (fun b => if_neg ha))
  rw [zce_ar]
  have : f = fun j => zJ ((zuA w i F).2.2 i j) := funext fun b => by rw [hf b]; exact congrArg zJ (if_pos rfl).symm
  rw [this]
theorem zw_aR {g : zG} {w : zWS} {i k n j : Nat} {v : Option Nat} (h : w.1[i]? = some (k, n)) (hk : 12 < k) (hn : w.1.length < 90000) : (zwl g w).set i (zad g i, .inl (zgc g k, n, .inr (.inr (.inr (.inr (va_up (fun j => (w.2.1 i j).map (zad g)) j (v.map (zad g)))))))) = zwl g (zuR w i j v) := by
  refine zw_set h hn rfl ?_ (fun a s2 ha _ => zce_eq (fun b => if_neg (fun q => ha q.1)) (fun b => rfl))
  rw [zce_rr hk]
  refine congrArg (fun f => (Sum.inl (zgc g k, n, .inr (.inr (.inr (.inr f)))) : va_E)) (funext fun b => ?_)
  by_cases hb : b = j
  · subst hb
    simp [va_up, zuR]
  · simp [va_up, zuR, hb]
theorem zuI_A (w : zWS) (i j : Nat) (v : Int) : zuA w i (fun b => if b = j then v else w.2.2 i b) = zuI w i j v := by
  refine congrArg (fun f => (w.1, w.2.1, f)) (funext fun a => funext fun b => ?_)
  by_cases ha : a = i
  · subst ha
    by_cases hb : b = j <;> simp [hb]
  · simp [ha]
