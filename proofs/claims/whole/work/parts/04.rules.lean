/-! THE RULES, an instruction each, over the pure world -/
abbrev zR (x : Int) : Prop := -2147483648 ≤ x ∧ x ≤ 2147483647
abbrev zR64 (x : Int) : Prop := -9223372036854775808 ≤ x ∧ x ≤ 9223372036854775807
theorem zJ_toInt {x : Int} (h : zR x) : (zJ x).toInt = x := Int32.toInt_ofInt_of_le (by have := h.1; omega) (by have := h.2; omega)
theorem zL_toInt {x : Int} (h : zR64 x) : (zL x).toInt = x := Int64.toInt_ofInt_of_le (by have := h.1; omega) (by have := h.2; omega)
theorem zJ_of (x : Int32) : zJ x.toInt = x := Int32.ofInt_toInt x
theorem zL_of (x : Int64) : zL x.toInt = x := Int64.ofInt_toInt x
theorem zR_of (x : Int32) : zR x.toInt := ⟨by have := Int32.le_toInt x; omega, by have := Int32.toInt_lt x; omega⟩
theorem zR64_of (x : Int64) : zR64 x.toInt := ⟨by have := Int64.le_toInt x; omega, by have := Int64.toInt_lt x; omega⟩
theorem zJ_add (x y : Int) : zJ x + zJ y = zJ (x + y) := (Int32.ofInt_add x y).symm
theorem zJ_sub (x y : Int) : zJ x - zJ y = zJ (x - y) := (Int32.ofInt_sub x y).symm
theorem zJ_mul (x y : Int) : zJ x * zJ y = zJ (x * y) := (Int32.ofInt_mul x y).symm
theorem zJ_neg (x : Int) : - zJ x = zJ (- x) := (Int32.ofInt_neg x).symm
theorem zL_add (x y : Int) : zL x + zL y = zL (x + y) := (Int64.ofInt_add x y).symm
theorem zL_sub (x y : Int) : zL x - zL y = zL (x - y) := (Int64.ofInt_sub x y).symm
theorem zL_mul (x y : Int) : zL x * zL y = zL (x * y) := (Int64.ofInt_mul x y).symm
theorem zJ_lt {x y : Int} (hx : zR x) (hy : zR y) : zJ x < zJ y ↔ x < y := by rw [Int32.lt_iff_toInt_lt, zJ_toInt hx, zJ_toInt hy]
theorem zJ_le {x y : Int} (hx : zR x) (hy : zR y) : zJ x ≤ zJ y ↔ x ≤ y := by rw [Int32.le_iff_toInt_le, zJ_toInt hx, zJ_toInt hy]
theorem zJ_eq {x y : Int} (hx : zR x) (hy : zR y) : zJ x = zJ y ↔ x = y := by rw [← Int32.toInt_inj, zJ_toInt hx, zJ_toInt hy]
theorem zL_lt {x y : Int} (hx : zR64 x) (hy : zR64 y) : zL x < zL y ↔ x < y := by rw [Int64.lt_iff_toInt_lt, zL_toInt hx, zL_toInt hy]
theorem zL_eq {x y : Int} (hx : zR64 x) (hy : zR64 y) : zL x = zL y ↔ x = y := by rw [← Int64.toInt_inj, zL_toInt hx, zL_toInt hy]
theorem zJ_div {x y : Int} (hx : zR x) (hy : zR y) : zJ x / zJ y = zJ (x.tdiv y) := by
  apply Int32.toInt_inj.mp
  rw [Int32.toInt_div, zJ_toInt hx, zJ_toInt hy, zJ, Int32.toInt_ofInt]
theorem zJ_rem {x y : Int} (hx : zR x) (hy : zR y) : zJ x - zJ x / zJ y * zJ y = zJ (x.tmod y) := by
  rw [zJ_div hx hy, zJ_mul, zJ_sub]
  congr 1
  rw [Int.tmod_def, Int.mul_comm]
theorem zL_div {x y : Int} (hx : zR64 x) (hy : zR64 y) : zL x / zL y = zL (x.tdiv y) := by
  apply Int64.toInt_inj.mp
  rw [Int64.toInt_div, zL_toInt hx, zL_toInt hy, zL, Int64.toInt_ofInt]
theorem zL_rem {x y : Int} (hx : zR64 x) (hy : zR64 y) : zL x - zL x / zL y * zL y = zL (x.tmod y) := by
  rw [zL_div hx hy, zL_mul, zL_sub]
  congr 1
  rw [Int.tmod_def, Int.mul_comm]
theorem zJ_l {x : Int} (hx : zR x) : (zJ x).toInt64 = zL x := by
  apply Int64.toInt_inj.mp
  rw [Int32.toInt_toInt64, zJ_toInt hx, zL_toInt ⟨by have := hx.1; omega, by have := hx.2; omega⟩]
theorem zL_i (x : Int) : (zL x).toInt32 = zJ x := by
  apply Int32.toInt_inj.mp
  rw [Int64.toInt_toInt32, zL, zJ, Int64.toInt_ofInt, Int32.toInt_ofInt]
  exact Int.bmod_bmod_of_dvd (by decide)
def zand (x y : Int) : Int := (zJ x &&& zJ y).toInt
def zor (x y : Int) : Int := (zJ x ||| zJ y).toInt
def zxor (x y : Int) : Int := (zJ x ^^^ zJ y).toInt
def zshl (x y : Int) : Int := (zJ x <<< (zJ y &&& 31)).toInt
def zshr (x y : Int) : Int := (zJ x >>> (zJ y &&& 31)).toInt
def zcmp (x y : Int) : Int := if y < x then 1 else if x = y then 0 else -1
theorem zin {x : Int} {n : Nat} (h0 : 0 ≤ x) (h : x < n) (hn : n < 2147483648) : vp_in (zJ x) n ∧ (zJ x).toNatClampNeg = x.toNat := by
  have e := zJ_toInt (x := x) ⟨by omega, by omega⟩
  have e2 : (zJ x).toNatClampNeg = x.toNat := by
    show (zJ x).toInt.toNat = x.toNat
    rw [e]
  refine ⟨vp_in_iff.mpr ⟨by rw [e]; exact h0, by rw [e]; omega⟩, e2⟩
/-- locals: a value put in its place -/
def zfl (l : List (Nat × Value)) (i : Nat) : List (Nat × Value) := l.filter (fun q => !(q.1 == i) && !(q.1 + 1 == i && q.2.category == 2))
def zins : List (Nat × Value) → Nat → Value → List (Nat × Value)
  | [], i, v => [(i, v)]
  | q :: t, i, v => bif Nat.blt q.1 i then q :: zins t i v else (i, v) :: q :: t
theorem zins_mem {l : List (Nat × Value)} {i : Nat} {v : Value} {q : Nat × Value} (h : q ∈ zins l i v) : q = (i, v) ∨ q ∈ l := by
  induction l with
  | nil => exact Or.inl (List.mem_singleton.mp h)
  | cons a t ih =>
    unfold zins at h
    cases hb : Nat.blt a.1 i with
    | true =>
      rw [hb] at h
      rcases List.mem_cons.mp h with e | e
      · exact Or.inr (by rw [e]; exact List.mem_cons_self)
      · rcases ih e with e | e
        · exact Or.inl e
        · exact Or.inr (List.mem_cons_of_mem _ e)
    | false =>
      rw [hb] at h
      rcases List.mem_cons.mp h with e | e
      · exact Or.inl e
      · exact Or.inr e
def zst (l : List (Nat × Value)) (i : Nat) (v : Value) : List (Nat × Value) := zins (zfl l i) i v
def zfl2 (l : List (Nat × Value)) (i : Nat) : List (Nat × Value) := l.filter (fun q => !(q.1 == i) && (!(q.1 == i + 1) && !(q.1 + 1 == i && q.2.category == 2)))
def zst2 (l : List (Nat × Value)) (i : Nat) (v : Value) : List (Nat × Value) := zins (zfl2 l i) i v
theorem zlv_at {g : zG} {ls : Array Slot} {nL : Nat} {lv : List (Nat × Value)} (h : lv_has ls nL (zlv g lv)) (j : Nat) {i : Nat} {v : Value} (hk : lv[j]? = some (i, v)) : ls[i]? = some (.val (ztv g v)) :=
  lv_at h j (by rw [zlv, List.getElem?_map, hk]; rfl)
theorem zlv_mem {g : zG} {lv : List (Nat × Value)} {q : Nat × Value} (h : q ∈ lv) : (q.1, ztv g q.2) ∈ zlv g lv := List.mem_map.mpr ⟨q, h, rfl⟩
theorem zlv_sub {g : zG} {ls : Array Slot} {nL : Nat} {l l' : List (Nat × Value)} (h : lv_has ls nL (zlv g l)) (hs : ∀ q ∈ l', q ∈ l) : lv_has ls nL (zlv g l') := by
  refine ⟨h.1, h.2.1, fun q hq => ?_⟩
  obtain ⟨r, hr, rfl⟩ := List.mem_map.mp hq
  exact h.2.2 _ (zlv_mem (hs r hr))
theorem zlv_st {g : zG} {ls' : Array Slot} {nL i : Nat} {lv : List (Nat × Value)} {v : Value} (h : lv_has ls' nL ((i, ztv g v) :: (zlv g lv).filter (fun q => !(q.1 == i) && !(q.1 + 1 == i && q.2.category == 2)))) : lv_has ls' nL (zlv g (zst lv i v)) := by
  refine ⟨h.1, h.2.1, fun q hq => ?_⟩
  obtain ⟨r, hr, rfl⟩ := List.mem_map.mp hq
  refine h.2.2 _ ?_
  rcases zins_mem hr with e | e
  · rw [e]; exact List.mem_cons_self
  · obtain ⟨e1, e2⟩ := List.mem_filter.mp e
    refine List.mem_cons_of_mem _ (List.mem_filter.mpr ⟨zlv_mem e1, ?_⟩)
    show (!(r.1 == i) && !(r.1 + 1 == i && (ztv g r.2).category == 2)) = true
    rw [ztv_cat]
    exact e2
theorem zlv_st2 {g : zG} {ls' : Array Slot} {nL i : Nat} {lv : List (Nat × Value)} {v : Value} (h : lv_has ls' nL ((i, ztv g v) :: (zlv g lv).filter (fun q => !(q.1 == i) && (!(q.1 == i + 1) && !(q.1 + 1 == i && q.2.category == 2))))) : lv_has ls' nL (zlv g (zst2 lv i v)) := by
  refine ⟨h.1, h.2.1, fun q hq => ?_⟩
  obtain ⟨r, hr, rfl⟩ := List.mem_map.mp hq
  refine h.2.2 _ ?_
  rcases zins_mem hr with e | e
  · rw [e]; exact List.mem_cons_self
  · obtain ⟨e1, e2⟩ := List.mem_filter.mp e
    refine List.mem_cons_of_mem _ (List.mem_filter.mpr ⟨zlv_mem e1, ?_⟩)
    show (!(r.1 == i) && (!(r.1 == i + 1) && !(r.1 + 1 == i && (ztv g r.2).category == 2))) = true
    rw [ztv_cat]
    exact e2
section ZR
variable {g : zG} {M : zM} {mo : zMo} {pc nc ns : Nat} {lv : List (Nat × Value)} {st : List Value} {w : zWS}
theorem zw_sub {lv' : List (Nat × Value)} (hs : ∀ q ∈ lv', q ∈ lv) (k : zWP g M mo pc lv' st nc ns w) : zWP g M mo pc lv st nc ns w := by
  intro p e s m args below meth c H locs ls C hl hW hS
  exact k p e s m args below meth c H locs ls C (zlv_sub hl hs) hW hS
/-- fewer locals, by their places -/
theorem zw_pick (ks : List Nat) {lv' : List (Nat × Value)} (hs : lv_pick lv ks = lv') (k : zWP g M mo pc lv' st nc ns w) : zWP g M mo pc lv st nc ns w := by
  refine zw_sub (fun q hq => ?_) k
  rw [← hs] at hq
  obtain ⟨k, -, hk⟩ := List.mem_filterMap.mp hq
  exact List.mem_of_getElem? hk
theorem zw_iconst {n : Int} (hd : decode M.2.1 pc = .ok (.iconst n, 1)) (k : zWP g M mo (pc + 1) lv (.int (zJ n) :: st) nc ns w) : zWP g M mo pc lv st nc ns w := by
  intro p e s m args below meth c H locs ls C hl hW hS
  exact lv_iconst C.1 C.2.1 hd rfl (k p e s m args below meth c H locs ls C hl hW hS)
theorem zw_bipush {n : Int} (hd : decode M.2.1 pc = .ok (.bipush n, 2)) (hv : (Int8.ofInt n).toInt32 = zJ n) (k : zWP g M mo (pc + 2) lv (.int (zJ n) :: st) nc ns w) : zWP g M mo pc lv st nc ns w := by
  intro p e s m args below meth c H locs ls C hl hW hS
  exact lv_bipush C.1 C.2.1 hd hv (k p e s m args below meth c H locs ls C hl hW hS)
theorem zw_sipush {n : Int} (hd : decode M.2.1 pc = .ok (.sipush n, 3)) (hv : (Int16.ofInt n).toInt32 = zJ n) (k : zWP g M mo (pc + 3) lv (.int (zJ n) :: st) nc ns w) : zWP g M mo pc lv st nc ns w := by
  intro p e s m args below meth c H locs ls C hl hW hS
  exact lv_sipush C.1 C.2.1 hd hv (k p e s m args below meth c H locs ls C hl hW hS)
theorem zw_lconst {n : Fin 2} {v : Int} (hd : decode M.2.1 pc = .ok (.lconst n, 1)) (hv : ((n : Nat) : Int) = v) (k : zWP g M mo (pc + 1) lv (.long (zL v) :: st) nc ns w) : zWP g M mo pc lv st nc ns w := by
  intro p e s m args below meth c H locs ls C hl hW hS
  exact lv_lconst C.1 C.2.1 hd (by rw [← hv]; rfl) (k p e s m args below meth c H locs ls C hl hW hS)
theorem zw_iload_n {n : Fin 4} (j : Nat) {i : Nat} {x : Int32} (hd : decode M.2.1 pc = .ok (.iload_n n, 1)) (hi : (n : Nat) = i) (hj : lv[j]? = some (i, .int x)) (k : zWP g M mo (pc + 1) lv (.int x :: st) nc ns w) : zWP g M mo pc lv st nc ns w := by
  intro p e s m args below meth c H locs ls C hl hW hS
  exact lv_iload_n C.1 C.2.1 hd hi (zlv_at hl j hj) (k p e s m args below meth c H locs ls C hl hW hS)
theorem zw_iload (j : Nat) {i : Nat} {x : Int32} (hd : decode M.2.1 pc = .ok (.iload i, 2)) (hj : lv[j]? = some (i, .int x)) (k : zWP g M mo (pc + 2) lv (.int x :: st) nc ns w) : zWP g M mo pc lv st nc ns w := by
  intro p e s m args below meth c H locs ls C hl hW hS
  exact lv_iload C.1 C.2.1 hd (zlv_at hl j hj) (k p e s m args below meth c H locs ls C hl hW hS)
theorem zw_lload_n {n : Fin 4} (j : Nat) {i : Nat} {x : Int64} (hd : decode M.2.1 pc = .ok (.lload_n n, 1)) (hi : (n : Nat) = i) (hj : lv[j]? = some (i, .long x)) (k : zWP g M mo (pc + 1) lv (.long x :: st) nc ns w) : zWP g M mo pc lv st nc ns w := by
  intro p e s m args below meth c H locs ls C hl hW hS
  exact lv_lload_n C.1 C.2.1 hd hi (zlv_at hl j hj) (k p e s m args below meth c H locs ls C hl hW hS)
theorem zw_lload (j : Nat) {i : Nat} {x : Int64} (hd : decode M.2.1 pc = .ok (.lload i, 2)) (hj : lv[j]? = some (i, .long x)) (k : zWP g M mo (pc + 2) lv (.long x :: st) nc ns w) : zWP g M mo pc lv st nc ns w := by
  intro p e s m args below meth c H locs ls C hl hW hS
  exact lv_lload C.1 C.2.1 hd (zlv_at hl j hj) (k p e s m args below meth c H locs ls C hl hW hS)
theorem zw_aload_n {n : Fin 4} (j : Nat) {i x : Nat} (hd : decode M.2.1 pc = .ok (.aload_n n, 1)) (hi : (n : Nat) = i) (hj : lv[j]? = some (i, .ref x)) (k : zWP g M mo (pc + 1) lv (.ref x :: st) nc ns w) : zWP g M mo pc lv st nc ns w := by
  intro p e s m args below meth c H locs ls C hl hW hS
  exact lv_aload_n C.1 C.2.1 hd hi (zlv_at hl j hj) (k p e s m args below meth c H locs ls C hl hW hS)
theorem zw_aload (j : Nat) {i x : Nat} (hd : decode M.2.1 pc = .ok (.aload i, 2)) (hj : lv[j]? = some (i, .ref x)) (k : zWP g M mo (pc + 2) lv (.ref x :: st) nc ns w) : zWP g M mo pc lv st nc ns w := by
  intro p e s m args below meth c H locs ls C hl hW hS
  exact lv_aload C.1 C.2.1 hd (zlv_at hl j hj) (k p e s m args below meth c H locs ls C hl hW hS)
theorem zw_istore_n {n : Fin 4} {i : Nat} {x : Int32} {lv' : List (Nat × Value)} (hd : decode M.2.1 pc = .ok (.istore_n n, 1)) (hi : (n : Nat) = i) (hn : i < M.2.2.1) (hl' : zst lv i (.int x) = lv') (k : zWP g M mo (pc + 1) lv' st nc ns w) : zWP g M mo pc lv (.int x :: st) nc ns w := by
  intro p e s m args below meth c H locs ls C hl hW hS
  exact lv_istore_n C.1 C.2.1 hd hi hl hn rfl (fun ls' h' => k p e s m args below meth c H locs ls' C (by rw [← hl']; exact zlv_st h') hW hS)
theorem zw_istore {i : Nat} {x : Int32} {lv' : List (Nat × Value)} (hd : decode M.2.1 pc = .ok (.istore i, 2)) (hn : i < M.2.2.1) (hl' : zst lv i (.int x) = lv') (k : zWP g M mo (pc + 2) lv' st nc ns w) : zWP g M mo pc lv (.int x :: st) nc ns w := by
  intro p e s m args below meth c H locs ls C hl hW hS
  exact lv_istore C.1 C.2.1 hd hl hn rfl (fun ls' h' => k p e s m args below meth c H locs ls' C (by rw [← hl']; exact zlv_st h') hW hS)
theorem zw_astore_n {n : Fin 4} {i x : Nat} {lv' : List (Nat × Value)} (hd : decode M.2.1 pc = .ok (.astore_n n, 1)) (hi : (n : Nat) = i) (hn : i < M.2.2.1) (hl' : zst lv i (.ref x) = lv') (k : zWP g M mo (pc + 1) lv' st nc ns w) : zWP g M mo pc lv (.ref x :: st) nc ns w := by
  intro p e s m args below meth c H locs ls C hl hW hS
  exact lv_astore_n C.1 C.2.1 hd hi hl hn rfl (fun ls' h' => k p e s m args below meth c H locs ls' C (by rw [← hl']; exact zlv_st h') hW hS)
theorem zw_astore {i x : Nat} {lv' : List (Nat × Value)} (hd : decode M.2.1 pc = .ok (.astore i, 2)) (hn : i < M.2.2.1) (hl' : zst lv i (.ref x) = lv') (k : zWP g M mo (pc + 2) lv' st nc ns w) : zWP g M mo pc lv (.ref x :: st) nc ns w := by
  intro p e s m args below meth c H locs ls C hl hW hS
  exact lv_astore C.1 C.2.1 hd hl hn rfl (fun ls' h' => k p e s m args below meth c H locs ls' C (by rw [← hl']; exact zlv_st h') hW hS)
theorem zw_lstore_n {n : Fin 4} {i : Nat} {x : Int64} {lv' : List (Nat × Value)} (hd : decode M.2.1 pc = .ok (.lstore_n n, 1)) (hi : (n : Nat) = i) (hn : i + 1 < M.2.2.1) (hl' : zst2 lv i (.long x) = lv') (k : zWP g M mo (pc + 1) lv' st nc ns w) : zWP g M mo pc lv (.long x :: st) nc ns w := by
  intro p e s m args below meth c H locs ls C hl hW hS
  exact lv_lstore_n C.1 C.2.1 hd hi hl hn rfl (fun ls' h' => k p e s m args below meth c H locs ls' C (by rw [← hl']; exact zlv_st2 h') hW hS)
theorem zw_lstore {i : Nat} {x : Int64} {lv' : List (Nat × Value)} (hd : decode M.2.1 pc = .ok (.lstore i, 2)) (hn : i + 1 < M.2.2.1) (hl' : zst2 lv i (.long x) = lv') (k : zWP g M mo (pc + 2) lv' st nc ns w) : zWP g M mo pc lv (.long x :: st) nc ns w := by
  intro p e s m args below meth c H locs ls C hl hW hS
  exact lv_lstore C.1 C.2.1 hd hl hn rfl (fun ls' h' => k p e s m args below meth c H locs ls' C (by rw [← hl']; exact zlv_st2 h') hW hS)
theorem zw_iinc (j : Nat) {i : Nat} {n x v : Int} {lv' : List (Nat × Value)} (hd : decode M.2.1 pc = .ok (.iinc i n, 3)) (hj : lv[j]? = some (i, .int (zJ x))) (hv : x + n = v) (hn : i < M.2.2.1) (hl' : zst lv i (.int (zJ v)) = lv') (k : zWP g M mo (pc + 3) lv' st nc ns w) : zWP g M mo pc lv st nc ns w := by
  intro p e s m args below meth c H locs ls C hl hW hS
  exact lv_iinc (v := zJ v) (k := j) C.1 C.2.1 hd hl (by rw [zlv, List.getElem?_map, hj]; rfl) (by rw [← hv]; exact zJ_add x n) hn rfl (fun ls' h' => k p e s m args below meth c H locs ls' C (by rw [← hl']; exact zlv_st h') hW hS)
theorem zw_iadd {x y : Int} (hd : decode M.2.1 pc = .ok (.iadd, 1)) (k : zWP g M mo (pc + 1) lv (.int (zJ (x + y)) :: st) nc ns w) : zWP g M mo pc lv (.int (zJ y) :: .int (zJ x) :: st) nc ns w := by
  intro p e s m args below meth c H locs ls C hl hW hS
  refine lv_iadd C.1 C.2.1 hd ?_
  rw [zJ_add]
  exact k p e s m args below meth c H locs ls C hl hW hS
theorem zw_isub {x y : Int} (hd : decode M.2.1 pc = .ok (.isub, 1)) (k : zWP g M mo (pc + 1) lv (.int (zJ (x - y)) :: st) nc ns w) : zWP g M mo pc lv (.int (zJ y) :: .int (zJ x) :: st) nc ns w := by
  intro p e s m args below meth c H locs ls C hl hW hS
  refine lv_isub C.1 C.2.1 hd ?_
  rw [zJ_sub]
  exact k p e s m args below meth c H locs ls C hl hW hS
theorem zw_imul {x y : Int} (hd : decode M.2.1 pc = .ok (.imul, 1)) (k : zWP g M mo (pc + 1) lv (.int (zJ (x * y)) :: st) nc ns w) : zWP g M mo pc lv (.int (zJ y) :: .int (zJ x) :: st) nc ns w := by
  intro p e s m args below meth c H locs ls C hl hW hS
  refine lv_imul C.1 C.2.1 hd ?_
  rw [zJ_mul]
  exact k p e s m args below meth c H locs ls C hl hW hS
theorem zw_ineg {x : Int} (hd : decode M.2.1 pc = .ok (.ineg, 1)) (k : zWP g M mo (pc + 1) lv (.int (zJ (-x)) :: st) nc ns w) : zWP g M mo pc lv (.int (zJ x) :: st) nc ns w := by
  intro p e s m args below meth c H locs ls C hl hW hS
  refine lv_ineg C.1 C.2.1 hd ?_
  rw [zJ_neg]
  exact k p e s m args below meth c H locs ls C hl hW hS
theorem zw_idiv {x y : Int} (hd : decode M.2.1 pc = .ok (.idiv, 1)) (hx : zR x) (hy : zR y) (h0 : y ≠ 0) (k : zWP g M mo (pc + 1) lv (.int (zJ (x.tdiv y)) :: st) nc ns w) : zWP g M mo pc lv (.int (zJ y) :: .int (zJ x) :: st) nc ns w := by
  intro p e s m args below meth c H locs ls C hl hW hS
  refine lv_idiv C.1 C.2.1 hd (fun h => h0 ((zJ_eq hy ⟨by decide, by decide⟩).mp (show zJ y = zJ 0 from h))) ?_
  rw [zJ_div hx hy]
  exact k p e s m args below meth c H locs ls C hl hW hS
theorem zw_irem {x y : Int} (hd : decode M.2.1 pc = .ok (.irem, 1)) (hx : zR x) (hy : zR y) (h0 : y ≠ 0) (k : zWP g M mo (pc + 1) lv (.int (zJ (x.tmod y)) :: st) nc ns w) : zWP g M mo pc lv (.int (zJ y) :: .int (zJ x) :: st) nc ns w := by
  intro p e s m args below meth c H locs ls C hl hW hS
  refine lv_irem C.1 C.2.1 hd (fun h => h0 ((zJ_eq hy ⟨by decide, by decide⟩).mp (show zJ y = zJ 0 from h))) ?_
  rw [zJ_rem hx hy]
  exact k p e s m args below meth c H locs ls C hl hW hS
theorem zw_iand {x y : Int} (hd : decode M.2.1 pc = .ok (.iand, 1)) (k : zWP g M mo (pc + 1) lv (.int (zJ (zand x y)) :: st) nc ns w) : zWP g M mo pc lv (.int (zJ y) :: .int (zJ x) :: st) nc ns w := by
  intro p e s m args below meth c H locs ls C hl hW hS
  refine lv_iand C.1 C.2.1 hd ?_
  rw [show zJ x &&& zJ y = zJ (zand x y) from (zJ_of _).symm]
  exact k p e s m args below meth c H locs ls C hl hW hS
theorem zw_ior {x y : Int} (hd : decode M.2.1 pc = .ok (.ior, 1)) (k : zWP g M mo (pc + 1) lv (.int (zJ (zor x y)) :: st) nc ns w) : zWP g M mo pc lv (.int (zJ y) :: .int (zJ x) :: st) nc ns w := by
  intro p e s m args below meth c H locs ls C hl hW hS
  refine lv_ior C.1 C.2.1 hd ?_
  rw [show zJ x ||| zJ y = zJ (zor x y) from (zJ_of _).symm]
  exact k p e s m args below meth c H locs ls C hl hW hS
theorem zw_ixor {x y : Int} (hd : decode M.2.1 pc = .ok (.ixor, 1)) (k : zWP g M mo (pc + 1) lv (.int (zJ (zxor x y)) :: st) nc ns w) : zWP g M mo pc lv (.int (zJ y) :: .int (zJ x) :: st) nc ns w := by
  intro p e s m args below meth c H locs ls C hl hW hS
  refine lv_ixor C.1 C.2.1 hd ?_
  rw [show zJ x ^^^ zJ y = zJ (zxor x y) from (zJ_of _).symm]
  exact k p e s m args below meth c H locs ls C hl hW hS
theorem zw_ishr {x y : Int} (hd : decode M.2.1 pc = .ok (.ishr, 1)) (k : zWP g M mo (pc + 1) lv (.int (zJ (zshr x y)) :: st) nc ns w) : zWP g M mo pc lv (.int (zJ y) :: .int (zJ x) :: st) nc ns w := by
  intro p e s m args below meth c H locs ls C hl hW hS
  refine lv_ishr C.1 C.2.1 hd ?_
  rw [show zJ x >>> (zJ y &&& 31) = zJ (zshr x y) from (zJ_of _).symm]
  exact k p e s m args below meth c H locs ls C hl hW hS
theorem zw_ladd {x y : Int} (hd : decode M.2.1 pc = .ok (.ladd, 1)) (k : zWP g M mo (pc + 1) lv (.long (zL (x + y)) :: st) nc ns w) : zWP g M mo pc lv (.long (zL y) :: .long (zL x) :: st) nc ns w := by
  intro p e s m args below meth c H locs ls C hl hW hS
  refine lv_ladd C.1 C.2.1 hd ?_
  rw [zL_add]
  exact k p e s m args below meth c H locs ls C hl hW hS
theorem zw_lsub {x y : Int} (hd : decode M.2.1 pc = .ok (.lsub, 1)) (k : zWP g M mo (pc + 1) lv (.long (zL (x - y)) :: st) nc ns w) : zWP g M mo pc lv (.long (zL y) :: .long (zL x) :: st) nc ns w := by
  intro p e s m args below meth c H locs ls C hl hW hS
  refine lv_lsub C.1 C.2.1 hd ?_
  rw [zL_sub]
  exact k p e s m args below meth c H locs ls C hl hW hS
theorem zw_lmul {x y : Int} (hd : decode M.2.1 pc = .ok (.lmul, 1)) (k : zWP g M mo (pc + 1) lv (.long (zL (x * y)) :: st) nc ns w) : zWP g M mo pc lv (.long (zL y) :: .long (zL x) :: st) nc ns w := by
  intro p e s m args below meth c H locs ls C hl hW hS
  refine lv_lmul C.1 C.2.1 hd ?_
  rw [zL_mul]
  exact k p e s m args below meth c H locs ls C hl hW hS
theorem zw_lrem {x y : Int} (hd : decode M.2.1 pc = .ok (.lrem, 1)) (hx : zR64 x) (hy : zR64 y) (h0 : y ≠ 0) (k : zWP g M mo (pc + 1) lv (.long (zL (x.tmod y)) :: st) nc ns w) : zWP g M mo pc lv (.long (zL y) :: .long (zL x) :: st) nc ns w := by
  intro p e s m args below meth c H locs ls C hl hW hS
  refine lv_lrem C.1 C.2.1 hd (fun h => h0 ((zL_eq hy ⟨by decide, by decide⟩).mp (show zL y = zL 0 from h))) ?_
  rw [zL_rem hx hy]
  exact k p e s m args below meth c H locs ls C hl hW hS
theorem zw_lcmp {x y : Int} (hd : decode M.2.1 pc = .ok (.lcmp, 1)) (hx : zR64 x) (hy : zR64 y) (k : zWP g M mo (pc + 1) lv (.int (zJ (zcmp x y)) :: st) nc ns w) : zWP g M mo pc lv (.long (zL y) :: .long (zL x) :: st) nc ns w := by
  intro p e s m args below meth c H locs ls C hl hW hS
  refine W.lcmp C.1 C.2.1 hd ?_
  have ee : lg_cmp (zL x) (zL y) = zJ (zcmp x y) := by
    unfold lg_cmp zcmp
    by_cases h1 : y < x
    · rw [if_pos (show zL x > zL y from (zL_lt hy hx).mpr h1), if_pos h1]; rfl
    · rw [if_neg (show ¬ zL x > zL y from fun q => h1 ((zL_lt hy hx).mp q)), if_neg h1]
      by_cases h2 : x = y
      · rw [if_pos (show zL x = zL y by rw [h2]), if_pos h2]; rfl
      · rw [if_neg (show ¬ zL x = zL y from fun q => h2 ((zL_eq hx hy).mp q)), if_neg h2]; rfl
  rw [ee]
  exact k p e s m args below meth c H locs ls C hl hW hS
theorem zw_i2l {x : Int} (hd : decode M.2.1 pc = .ok (.i2l, 1)) (hx : zR x) (k : zWP g M mo (pc + 1) lv (.long (zL x) :: st) nc ns w) : zWP g M mo pc lv (.int (zJ x) :: st) nc ns w := by
  intro p e s m args below meth c H locs ls C hl hW hS
  exact lv_i2l C.1 C.2.1 hd (zJ_l hx) (k p e s m args below meth c H locs ls C hl hW hS)
theorem zw_l2i {x : Int} (hd : decode M.2.1 pc = .ok (.l2i, 1)) (k : zWP g M mo (pc + 1) lv (.int (zJ x) :: st) nc ns w) : zWP g M mo pc lv (.long (zL x) :: st) nc ns w := by
  intro p e s m args below meth c H locs ls C hl hW hS
  exact lv_l2i C.1 C.2.1 hd (zL_i x) (k p e s m args below meth c H locs ls C hl hW hS)
theorem zw_dup {v : Value} (hd : decode M.2.1 pc = .ok (.dup, 1)) (hv : v.category = 1) (k : zWP g M mo (pc + 1) lv (v :: v :: st) nc ns w) : zWP g M mo pc lv (v :: st) nc ns w := by
  intro p e s m args below meth c H locs ls C hl hW hS
  exact lv_dup C.1 C.2.1 hd (by rw [ztv_cat]; exact hv) (k p e s m args below meth c H locs ls C hl hW hS)
theorem zw_dup2 {v u : Value} (hd : decode M.2.1 pc = .ok (.dup2, 1)) (hv : v.category = 1) (hu : u.category = 1) (k : zWP g M mo (pc + 1) lv (v :: u :: v :: u :: st) nc ns w) : zWP g M mo pc lv (v :: u :: st) nc ns w := by
  intro p e s m args below meth c H locs ls C hl hW hS
  exact lv_dup2_11 C.1 C.2.1 hd (by rw [ztv_cat]; exact hv) (by rw [ztv_cat]; exact hu) (k p e s m args below meth c H locs ls C hl hW hS)
theorem zw_pop {v : Value} (hd : decode M.2.1 pc = .ok (.pop, 1)) (hv : v.category = 1) (k : zWP g M mo (pc + 1) lv st nc ns w) : zWP g M mo pc lv (v :: st) nc ns w := by
  intro p e s m args below meth c H locs ls C hl hW hS
  exact lv_pop C.1 C.2.1 hd (by rw [ztv_cat]; exact hv) (k p e s m args below meth c H locs ls C hl hW hS)
theorem zw_goto {off : Int} {tgt : Nat} (hd : decode M.2.1 pc = .ok (.goto off, 3)) (ht : (pc : Int) + off = (tgt : Int)) (k : zWP g M mo tgt lv st nc ns w) : zWP g M mo pc lv st nc ns w := by
  intro p e s m args below meth c H locs ls C hl hW hS
  exact lv_goto C.1 C.2.1 hd ht (k p e s m args below meth c H locs ls C hl hW hS)
theorem zw_icmp_eq {x y off : Int} {tgt : Nat} (hd : decode M.2.1 pc = .ok (.if_icmp .eq off, 3)) (ht : (pc : Int) + off = (tgt : Int)) (hx : zR x) (hy : zR y) (kt : x = y → zWP g M mo tgt lv st nc ns w) (kf : ¬ x = y → zWP g M mo (pc + 3) lv st nc ns w) : zWP g M mo pc lv (.int (zJ y) :: .int (zJ x) :: st) nc ns w := by
  intro p e s m args below meth c H locs ls C hl hW hS
  exact lv_icmp_eq C.1 C.2.1 hd ht (fun h => kt ((zJ_eq hx hy).mp h) p e s m args below meth c H locs ls C hl hW hS) (fun h => kf (fun q => h ((zJ_eq hx hy).mpr q)) p e s m args below meth c H locs ls C hl hW hS)
theorem zw_icmp_ne {x y off : Int} {tgt : Nat} (hd : decode M.2.1 pc = .ok (.if_icmp .ne off, 3)) (ht : (pc : Int) + off = (tgt : Int)) (hx : zR x) (hy : zR y) (kt : ¬ x = y → zWP g M mo tgt lv st nc ns w) (kf : x = y → zWP g M mo (pc + 3) lv st nc ns w) : zWP g M mo pc lv (.int (zJ y) :: .int (zJ x) :: st) nc ns w := by
  intro p e s m args below meth c H locs ls C hl hW hS
  exact lv_icmp_ne C.1 C.2.1 hd ht (fun h => kt (fun q => h ((zJ_eq hx hy).mpr q)) p e s m args below meth c H locs ls C hl hW hS) (fun h => kf ((zJ_eq hx hy).mp h) p e s m args below meth c H locs ls C hl hW hS)
theorem zw_icmp_lt {x y off : Int} {tgt : Nat} (hd : decode M.2.1 pc = .ok (.if_icmp .lt off, 3)) (ht : (pc : Int) + off = (tgt : Int)) (hx : zR x) (hy : zR y) (kt : x < y → zWP g M mo tgt lv st nc ns w) (kf : y ≤ x → zWP g M mo (pc + 3) lv st nc ns w) : zWP g M mo pc lv (.int (zJ y) :: .int (zJ x) :: st) nc ns w := by
  intro p e s m args below meth c H locs ls C hl hW hS
  exact lv_icmp_lt C.1 C.2.1 hd ht (fun h => kt ((zJ_lt hx hy).mp h) p e s m args below meth c H locs ls C hl hW hS) (fun h => kf (Int.not_lt.mp fun q => h ((zJ_lt hx hy).mpr q)) p e s m args below meth c H locs ls C hl hW hS)
theorem zw_icmp_ge {x y off : Int} {tgt : Nat} (hd : decode M.2.1 pc = .ok (.if_icmp .ge off, 3)) (ht : (pc : Int) + off = (tgt : Int)) (hx : zR x) (hy : zR y) (kt : y ≤ x → zWP g M mo tgt lv st nc ns w) (kf : x < y → zWP g M mo (pc + 3) lv st nc ns w) : zWP g M mo pc lv (.int (zJ y) :: .int (zJ x) :: st) nc ns w := by
  intro p e s m args below meth c H locs ls C hl hW hS
  exact lv_icmp_ge C.1 C.2.1 hd ht (fun h => kt ((zJ_le hy hx).mp h) p e s m args below meth c H locs ls C hl hW hS) (fun h => kf (Int.not_le.mp fun q => h ((zJ_le hy hx).mpr q)) p e s m args below meth c H locs ls C hl hW hS)
theorem zw_icmp_gt {x y off : Int} {tgt : Nat} (hd : decode M.2.1 pc = .ok (.if_icmp .gt off, 3)) (ht : (pc : Int) + off = (tgt : Int)) (hx : zR x) (hy : zR y) (kt : y < x → zWP g M mo tgt lv st nc ns w) (kf : x ≤ y → zWP g M mo (pc + 3) lv st nc ns w) : zWP g M mo pc lv (.int (zJ y) :: .int (zJ x) :: st) nc ns w := by
  intro p e s m args below meth c H locs ls C hl hW hS
  exact lv_icmp_gt C.1 C.2.1 hd ht (fun h => kt ((zJ_lt hy hx).mp h) p e s m args below meth c H locs ls C hl hW hS) (fun h => kf (Int.not_lt.mp fun q => h ((zJ_lt hy hx).mpr q)) p e s m args below meth c H locs ls C hl hW hS)
theorem zw_icmp_le {x y off : Int} {tgt : Nat} (hd : decode M.2.1 pc = .ok (.if_icmp .le off, 3)) (ht : (pc : Int) + off = (tgt : Int)) (hx : zR x) (hy : zR y) (kt : x ≤ y → zWP g M mo tgt lv st nc ns w) (kf : y < x → zWP g M mo (pc + 3) lv st nc ns w) : zWP g M mo pc lv (.int (zJ y) :: .int (zJ x) :: st) nc ns w := by
  intro p e s m args below meth c H locs ls C hl hW hS
  exact lv_icmp_le C.1 C.2.1 hd ht (fun h => kt ((zJ_le hx hy).mp h) p e s m args below meth c H locs ls C hl hW hS) (fun h => kf (Int.not_le.mp fun q => h ((zJ_le hx hy).mpr q)) p e s m args below meth c H locs ls C hl hW hS)
theorem zR0 : zR 0 := ⟨by decide, by decide⟩
theorem zw_if_eq {x off : Int} {tgt : Nat} (hd : decode M.2.1 pc = .ok (.ifCond .eq off, 3)) (ht : (pc : Int) + off = (tgt : Int)) (hx : zR x) (kt : x = 0 → zWP g M mo tgt lv st nc ns w) (kf : ¬ x = 0 → zWP g M mo (pc + 3) lv st nc ns w) : zWP g M mo pc lv (.int (zJ x) :: st) nc ns w := by
  intro p e s m args below meth c H locs ls C hl hW hS
  exact lv_if_eq C.1 C.2.1 hd ht (fun h => kt ((zJ_eq hx zR0).mp h) p e s m args below meth c H locs ls C hl hW hS) (fun h => kf (fun q => h ((zJ_eq hx zR0).mpr q)) p e s m args below meth c H locs ls C hl hW hS)
theorem zw_if_ne {x off : Int} {tgt : Nat} (hd : decode M.2.1 pc = .ok (.ifCond .ne off, 3)) (ht : (pc : Int) + off = (tgt : Int)) (hx : zR x) (kt : ¬ x = 0 → zWP g M mo tgt lv st nc ns w) (kf : x = 0 → zWP g M mo (pc + 3) lv st nc ns w) : zWP g M mo pc lv (.int (zJ x) :: st) nc ns w := by
  intro p e s m args below meth c H locs ls C hl hW hS
  exact lv_if_ne C.1 C.2.1 hd ht (fun h => kt (fun q => h ((zJ_eq hx zR0).mpr q)) p e s m args below meth c H locs ls C hl hW hS) (fun h => kf ((zJ_eq hx zR0).mp h) p e s m args below meth c H locs ls C hl hW hS)
theorem zw_if_lt {x off : Int} {tgt : Nat} (hd : decode M.2.1 pc = .ok (.ifCond .lt off, 3)) (ht : (pc : Int) + off = (tgt : Int)) (hx : zR x) (kt : x < 0 → zWP g M mo tgt lv st nc ns w) (kf : 0 ≤ x → zWP g M mo (pc + 3) lv st nc ns w) : zWP g M mo pc lv (.int (zJ x) :: st) nc ns w := by
  intro p e s m args below meth c H locs ls C hl hW hS
  exact lv_if_lt C.1 C.2.1 hd ht (fun h => kt ((zJ_lt hx zR0).mp h) p e s m args below meth c H locs ls C hl hW hS) (fun h => kf (Int.not_lt.mp fun q => h ((zJ_lt hx zR0).mpr q)) p e s m args below meth c H locs ls C hl hW hS)
theorem zw_if_ge {x off : Int} {tgt : Nat} (hd : decode M.2.1 pc = .ok (.ifCond .ge off, 3)) (ht : (pc : Int) + off = (tgt : Int)) (hx : zR x) (kt : 0 ≤ x → zWP g M mo tgt lv st nc ns w) (kf : x < 0 → zWP g M mo (pc + 3) lv st nc ns w) : zWP g M mo pc lv (.int (zJ x) :: st) nc ns w := by
  intro p e s m args below meth c H locs ls C hl hW hS
  exact lv_if_ge C.1 C.2.1 hd ht (fun h => kt ((zJ_le zR0 hx).mp h) p e s m args below meth c H locs ls C hl hW hS) (fun h => kf (Int.not_le.mp fun q => h ((zJ_le zR0 hx).mpr q)) p e s m args below meth c H locs ls C hl hW hS)
theorem zw_if_gt {x off : Int} {tgt : Nat} (hd : decode M.2.1 pc = .ok (.ifCond .gt off, 3)) (ht : (pc : Int) + off = (tgt : Int)) (hx : zR x) (kt : 0 < x → zWP g M mo tgt lv st nc ns w) (kf : x ≤ 0 → zWP g M mo (pc + 3) lv st nc ns w) : zWP g M mo pc lv (.int (zJ x) :: st) nc ns w := by
  intro p e s m args below meth c H locs ls C hl hW hS
  exact lv_if_gt C.1 C.2.1 hd ht (fun h => kt ((zJ_lt zR0 hx).mp h) p e s m args below meth c H locs ls C hl hW hS) (fun h => kf (Int.not_lt.mp fun q => h ((zJ_lt zR0 hx).mpr q)) p e s m args below meth c H locs ls C hl hW hS)
theorem zw_if_le {x off : Int} {tgt : Nat} (hd : decode M.2.1 pc = .ok (.ifCond .le off, 3)) (ht : (pc : Int) + off = (tgt : Int)) (hx : zR x) (kt : x ≤ 0 → zWP g M mo tgt lv st nc ns w) (kf : 0 < x → zWP g M mo (pc + 3) lv st nc ns w) : zWP g M mo pc lv (.int (zJ x) :: st) nc ns w := by
  intro p e s m args below meth c H locs ls C hl hW hS
  exact lv_if_le C.1 C.2.1 hd ht (fun h => kt ((zJ_le hx zR0).mp h) p e s m args below meth c H locs ls C hl hW hS) (fun h => kf (Int.not_le.mp fun q => h ((zJ_le hx zR0).mpr q)) p e s m args below meth c H locs ls C hl hW hS)
end ZR
