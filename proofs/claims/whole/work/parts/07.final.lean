/-! THE WORLD AS IT STANDS BEHIND THE CONSTRUCTORS: shape and references are fixed, the numbers move -/
def zsh : List (Nat × Nat) := [(10, 12), (0, 5), (14, 6), (3, 2), (12, 81), (13, 8), (12, 8), (6, 3), (12, 80), (6, 3), (12, 80), (6, 3), (12, 80), (6, 3), (12, 80), (6, 3), (12, 80), (6, 3), (12, 80), (3, 2), (12, 81), (3, 2), (12, 81), (3, 2), (12, 81), (3, 2), (12, 81), (3, 2), (12, 81), (3, 2), (12, 81), (3, 2), (12, 81), (3, 2), (12, 81), (0, 5), (14, 6), (3, 2), (12, 81), (13, 8), (12, 8), (6, 3), (12, 80), (6, 3), (12, 80), (6, 3), (12, 80), (6, 3), (12, 80), (6, 3), (12, 80), (6, 3), (12, 80), (3, 2), (12, 81), (3, 2), (12, 81), (3, 2), (12, 81), (3, 2), (12, 81), (3, 2), (12, 81), (3, 2), (12, 81), (3, 2), (12, 81), (3, 2), (12, 81), (7, 4), (12, 80), (12, 80), (12, 80), (12, 80), (9, 9), (15, 9), (12, 80), (12, 80), (12, 80), (12, 80), (12, 80), (12, 80), (12, 80), (12, 80), (12, 80), (15, 9), (12, 80), (12, 80), (12, 80), (12, 80), (12, 80), (12, 80), (12, 80), (12, 80), (12, 80), (12, 80), (12, 80), (1, 10), (15, 80), (12, 81), (12, 81), (12, 81), (12, 81), (12, 81), (12, 81), (12, 81), (12, 81), (12, 81), (12, 81), (12, 81), (12, 81), (12, 81), (12, 81), (12, 81), (12, 81), (12, 81), (12, 81), (12, 81), (12, 81), (12, 81), (12, 81), (12, 81), (12, 81), (12, 81), (12, 81), (12, 81), (12, 81), (12, 81), (12, 81), (12, 81), (12, 81), (12, 81), (12, 81), (12, 81), (12, 81), (12, 81), (12, 81), (12, 81), (12, 81), (12, 81), (12, 81), (12, 81), (12, 81), (12, 81), (12, 81), (12, 81), (12, 81), (12, 81), (12, 81), (12, 81), (12, 81), (12, 81), (12, 81), (12, 81), (12, 81), (12, 81), (12, 81), (12, 81), (12, 81), (12, 81), (12, 81), (12, 81), (12, 81), (12, 81), (12, 81), (12, 81), (12, 81), (12, 81), (12, 81), (12, 81), (12, 81), (12, 81), (12, 81), (12, 81), (12, 81), (12, 81), (12, 81), (12, 81), (12, 81), (12, 81), (12, 81), (12, 81), (2, 5), (12, 199), (12, 1592), (12, 9), (12, 199), (12, 199), (8, 4), (12, 100), (5, 3), (12, 100), (12, 400), (4, 3), (3, 2), (12, 81), (12, 648), (15, 4), (12, 80), (12, 80), (12, 80), (12, 80), (12, 4), (11, 50), (12, 6), (12, 6), (12, 480), (12, 81), (12, 664), (12, 80), (12, 80), (12, 80), (12, 720), (12, 720), (12, 80), (12, 6400), (12, 6480), (12, 80), (12, 81), (12, 81), (12, 9), (12, 8), (12, 200), (12, 100), (12, 47), (12, 9), (12, 500), (12, 81), (12, 729), (12, 4), (12, 320), (12, 6), (12, 6), (12, 480), (12, 81), (12, 664)]
def zOffs : List (List Nat) := [[0, 1, 2, 4, 5], [1, 82, 83, 84, 0, 0, 0, 0, 0, 0], [1, 2, 3, 4, 5], [1, 0], [1, 3, 0], [1, 2, 0], [1, 0, 0], [1, 2, 3, 4], [1, 0, 0, 0], [1, 11, 21, 22, 0, 0, 0, 0, 0], [1, 35, 0, 69, 74, 97, 182, 188, 190, 193, 197, 202], [0, 1, 2, 3, 0, 4, 5, 0, 0, 6, 7, 8, 9, 10, 0, 0, 0, 0, 11, 12, 13, 14, 0, 15, 0, 16, 17, 18, 0, 19, 20, 0, 0, 21, 22, 23, 24, 0, 25, 0, 26, 27, 0, 0, 0, 28, 29, 30, 31, 32]]
def zOff (k j : Nat) : Option Nat := match (zOffs.getD k []).getD j 0 with
  | 0 => none
  | o + 1 => some (o + 1)
def zSt (k : Nat) : Nat := if k = 13 then 14 else if k = 14 then 5 else 1
def zTp (k : Nat) : Nat := if k = 15 then 1 else 2
def zrf (i j : Nat) : Option Nat := match zsh[i]? with
  | none => none
  | some (k, n) => if k < 12 then (zOff k j).map (fun o => i + o) else if k = 12 then none else if j < n then some (i + zSt k + zTp k * j) else none
abbrev zMu : Type := Nat → Nat → Int
def zw (μ : zMu) : zWS := (zsh, zrf, μ)
def zS (i k n : Nat) : Prop := zsh[i]? = some (k, n)
def zIx (a : Nat) (x : Int) : Prop := ∃ n, zS a 12 n ∧ 0 ≤ x ∧ x < n
def zAx (k a : Nat) (x : Int) : Prop := ∃ n, zS a k n ∧ 0 ≤ x ∧ x < n
def zup (μ : zMu) (i j : Nat) (v : Int) : zMu := fun a b => if a = i ∧ b = j then v else μ a b
def zua (μ : zMu) (i : Nat) (f : Nat → Int) : zMu := fun a b => if a = i then f b else μ a b
def zcp (μ : zMu) (a sp b dp n : Nat) : zMu := zua μ b (fun k => if dp ≤ k ∧ k < dp + n then μ a (sp + (k - dp)) else μ b k)
theorem zsh_small : ∀ i, i < 236 → ∀ p, zsh[i]? = some p → p.2 < 100000 := by
  have h : (List.range 236).all (fun i => match zsh[i]? with | none => true | some p => decide (p.2 < 100000)) = true := by decide +kernel
  intro i hi p hp
  have h1 := List.all_eq_true.mp h i (List.mem_range.mpr hi)
  rw [hp] at h1
  exact of_decide_eq_true h1
theorem zS_lt {i k n : Nat} (h : zS i k n) : i < 236 := (List.getElem?_eq_some_iff.mp h).1
theorem zS_n {i k n : Nat} (h : zS i k n) : n < 2147483648 := Nat.lt_trans (zsh_small i (zS_lt h) _ h) (by decide)
theorem zrf_ob {i k n j o : Nat} (h : zS i k n) (hk : k < 12) (ho : zOff k j = some o) : zrf i j = some (i + o) := by
  unfold zrf
  rw [show zsh[i]? = some (k, n) from h]
  show (if k < 12 then _ else _) = _
  rw [if_pos hk, ho]
  rfl
theorem zrf_ar {i k n j : Nat} (h : zS i k n) (hk : 12 < k) (hj : j < n) : zrf i j = some (i + zSt k + zTp k * j) := by
  unfold zrf
  rw [show zsh[i]? = some (k, n) from h]
  show (if k < 12 then _ else if k = 12 then _ else if j < n then _ else _) = _
  rw [if_neg (by omega), if_neg (by omega), if_pos hj]
/-- what comes back -/
def zΦi (φ : Int → zMu → Prop) : Option Value → zWS → Prop := fun r w => ∃ (x : Int) (μ : zMu), r = some (.int (zJ x)) ∧ w = zw μ ∧ φ x μ
def zΦl (φ : Int → zMu → Prop) : Option Value → zWS → Prop := fun r w => ∃ (x : Int) (μ : zMu), r = some (.long (zL x)) ∧ w = zw μ ∧ φ x μ
def zΦr (φ : Nat → zMu → Prop) : Option Value → zWS → Prop := fun r w => ∃ (x : Nat) (μ : zMu), r = some (.ref x) ∧ w = zw μ ∧ φ x μ
def zΦv (φ : zMu → Prop) : Option Value → zWS → Prop := fun r w => ∃ (μ : zMu), r = none ∧ w = zw μ ∧ φ μ
abbrev zOi (g : zG) (M : zM) (args : List Value) (μ : zMu) (φ : Int → zMu → Prop) : Prop := zOK g M args (zw μ) (zΦi φ)
abbrev zOl (g : zG) (M : zM) (args : List Value) (μ : zMu) (φ : Int → zMu → Prop) : Prop := zOK g M args (zw μ) (zΦl φ)
abbrev zOr (g : zG) (M : zM) (args : List Value) (μ : zMu) (φ : Nat → zMu → Prop) : Prop := zOK g M args (zw μ) (zΦr φ)
abbrev zOv (g : zG) (M : zM) (args : List Value) (μ : zMu) (φ : zMu → Prop) : Prop := zOK g M args (zw μ) (zΦv φ)
section ZX
variable {g : zG} {M : zM} {mo : zMo} {pc nc ns : Nat} {lv : List (Nat × Value)} {st : List Value} {μ : zMu}
theorem zx_getI {i idx kc k n : Nat} {ty : FieldType} {fin : Bool} (hF : zFL M.1.cls idx kc k ty fin) (hd : decode M.2.1 pc = .ok (.getfield idx, 3)) (hr : (zRk kc).getD k false = false) (hs : zS i kc n) (kk : zWP g M mo (pc + 3) lv (.int (zJ (μ i k)) :: st) nc ns (zw μ)) : zWP g M mo pc lv (.ref i :: st) nc ns (zw μ) := zw_getI hF hd hr hs kk
theorem zx_getR {i idx kc k n o r : Nat} {ty : FieldType} {fin : Bool} (hF : zFL M.1.cls idx kc k ty fin) (hd : decode M.2.1 pc = .ok (.getfield idx, 3)) (hr : (zRk kc).getD k false = true) (hs : zS i kc n) (ho : zOff kc k = some o) (hk : kc < 12) (he : i + o = r) (kk : zWP g M mo (pc + 3) lv (.ref r :: st) nc ns (zw μ)) : zWP g M mo pc lv (.ref i :: st) nc ns (zw μ) := zw_getR (r := r) hF hd hr hs (by rw [← he]; exact zrf_ob hs hk ho) kk
theorem zx_putI {i idx kc k n : Nat} {x : Int} (hF : zFL M.1.cls idx kc k .int false) (hd : decode M.2.1 pc = .ok (.putfield idx, 3)) (hr : (zRk kc).getD k false = false) (hs : zS i kc n) (kk : zWP g M mo (pc + 3) lv st nc ns (zw (zup μ i k x))) : zWP g M mo pc lv (.int (zJ x) :: .ref i :: st) nc ns (zw μ) := zw_putI hF hd hr hs kk
theorem zx_putZ {i idx kc k n : Nat} {x : Int} (hF : zFL M.1.cls idx kc k .boolean false) (hd : decode M.2.1 pc = .ok (.putfield idx, 3)) (hr : (zRk kc).getD k false = false) (hs : zS i kc n) (hx : x = 0 ∨ x = 1) (kk : zWP g M mo (pc + 3) lv st nc ns (zw (zup μ i k x))) : zWP g M mo pc lv (.int (zJ x) :: .ref i :: st) nc ns (zw μ) := zw_putZ hF hd hr hs hx kk
theorem zx_iaload {i : Nat} {x : Int} (hd : decode M.2.1 pc = .ok (.iaload, 1)) (hs : zIx i x) (kk : zWP g M mo (pc + 1) lv (.int (zJ (μ i x.toNat)) :: st) nc ns (zw μ)) : zWP g M mo pc lv (.int (zJ x) :: .ref i :: st) nc ns (zw μ) := by
  obtain ⟨n, h1, h2, h3⟩ := hs
  exact zw_iaload hd h1 h2 h3 (zS_n h1) kk
theorem zx_iastore {i : Nat} {x y : Int} (hd : decode M.2.1 pc = .ok (.iastore, 1)) (hs : zIx i x) (kk : zWP g M mo (pc + 1) lv st nc ns (zw (zup μ i x.toNat y))) : zWP g M mo pc lv (.int (zJ y) :: .int (zJ x) :: .ref i :: st) nc ns (zw μ) := by
  obtain ⟨n, h1, h2, h3⟩ := hs
  exact zw_iastore hd h1 h2 h3 (zS_n h1) kk
theorem zx_alen {i n : Nat} (hd : decode M.2.1 pc = .ok (.arraylength, 1)) (hs : zS i 12 n) (kk : zWP g M mo (pc + 1) lv (.int (zJ (n : Int)) :: st) nc ns (zw μ)) : zWP g M mo pc lv (.ref i :: st) nc ns (zw μ) := zw_alen hd hs rfl kk
theorem zx_aaload {k i r : Nat} {x : Int} (hd : decode M.2.1 pc = .ok (.aaload, 1)) (hk : k = 13 ∨ k = 14 ∨ k = 15) (hs : zAx k i x) (he : i + zSt k + zTp k * x.toNat = r) (kk : zWP g M mo (pc + 1) lv (.ref r :: st) nc ns (zw μ)) : zWP g M mo pc lv (.int (zJ x) :: .ref i :: st) nc ns (zw μ) := by
  obtain ⟨n, h1, h2, h3⟩ := hs
  exact zw_aaload (r := r) hd h1 hk h2 h3 (zS_n h1) (by rw [← he]; exact zrf_ar h1 (by omega) (by omega)) kk
theorem zx_copy {idx a b : Nat} {sp dp n : Int} (hli : Cond.methodLink M.1.cls idx arraycopyName ∈ ztbl) (hna : Cond.native arraycopyName ∈ ztbl) (hst : Cond.static arraycopyName ∈ ztbl) (hini : Cond.initialized "java/lang/System" ∈ ztbl) (hd : decode M.2.1 pc = .ok (.invokestatic idx, 3))
    (hrm : 1 ≤ M.2.2.2.2.frames ∧ 8 + (nativeFrameWords "java/lang/System" "arraycopy" 5 + 11) ≤ M.2.2.2.2.locals) (hsum : Nat.ble (st.map fun v => v.category).sum 8 = true) (h : ∃ n0 n1, zS a 12 n0 ∧ zS b 12 n1 ∧ 0 ≤ sp ∧ 0 ≤ dp ∧ 0 ≤ n ∧ sp + n ≤ n0 ∧ dp + n ≤ n1)
    (kk : zWP g M mo (pc + 3) lv st nc ns (zw (zcp μ a sp.toNat b dp.toNat n.toNat))) : zWP g M mo pc lv (.int (zJ n) :: .int (zJ dp) :: .ref b :: .int (zJ sp) :: .ref a :: st) nc ns (zw μ) := by
  obtain ⟨n0, n1, a1, a2, a3, a4, a5, a6, a7⟩ := h
  exact zw_copy hli hna hst hini hd hrm hsum a1 a2 a3 a4 a5 a6 a7 (zS_n a1) (zS_n a2) kk
theorem zx_ldcS {idx k : Nat} {tx : String} (hd : decode M.2.1 pc = .ok (.ldc idx, 2)) (hc : M.1.cls = RX5) (hk : k < 9) (h1 : zTi.getD k 0 = idx) (kk : zWP g M mo (pc + 2) lv (.ref (90001 + k) :: st) nc ns (zw μ)) : zWP g M mo pc lv st nc ns (zw μ) := by
  intro p e s m args below meth c H locs ls C hl hW hS
  have hZ := C.2.2.2.2.2.2.2.2.1.2.2.1 k hk
  rw [h1] at hZ
  refine va_ldcS C.1 C.2.1 (by rw [← hc]; exact C.2.2.2.2.2.1) hZ hd ?_
  have k2 := kk p e s m args below meth c H locs ls C hl hW hS
  have ha : zad g (90001 + k) = zgx g (k + 1) := by
    rw [zad, if_neg (by omega), show 90001 + k - 90000 = k + 1 by omega]
  rw [← ha]
  exact k2
-- calls
theorem zx_callV {M' : zM} {idx kc n b k : Nat} {As : List Value} {Φ : Option Value → zWS → Prop} (hOK : zOK g M' (.ref b :: As) (zw μ) Φ) (hcal : zCal M' n) (hin : Cond.instanceMethod M'.1 ∈ ztbl) (hse : Cond.selects M'.1.cls M'.1 M'.1 ∈ ztbl) (hli : Cond.methodLink M.1.cls idx M'.1 ∈ ztbl) (hd : decode M.2.1 pc = .ok (.invokevirtual idx, 3)) (hrm : zRm M M') (hn : As.length = n)
    (hs : zS b kc k) (hkc : kc < 12) (hcls : (vwCl.map (fun q => q.1))[kc]? = some M'.1.cls) (hsum : Nat.ble (st.map fun v => v.category).sum 8 = true) (hc : M'.2.2.2.2.cells = 0 ∧ M'.2.2.2.2.slots = 0) (hnn : nc ≤ M.2.2.2.2.cells ∧ ns ≤ M.2.2.2.2.slots)
    (kk : ∀ r w', Φ r w' → zWP g M mo (pc + 3) lv (r.toList ++ st) nc ns w') : zWP g M mo pc lv (As.reverse ++ .ref b :: st) nc ns (zw μ) :=
  zw_callV hcal hin hse hli hd hrm hn hs hkc hcls hsum (by rw [hc.1]; exact hnn.1) (by rw [hc.2]; exact hnn.2) (hOK.mono (fun r w' h => by rw [hc.1, hc.2]; exact kk r w' h))
theorem zx_callS {M' : zM} {idx n : Nat} {As : List Value} {Φ : Option Value → zWS → Prop} (hOK : zOK g M' As (zw μ) Φ) (hcal : zCal M' n) (hst : Cond.static M'.1 ∈ ztbl) (hli : Cond.methodLink M.1.cls idx M'.1 ∈ ztbl) (hd : decode M.2.1 pc = .ok (.invokestatic idx, 3)) (hrm : zRm M M') (hn : As.length = n)
    (hsum : Nat.ble (st.map fun v => v.category).sum 8 = true) (hc : M'.2.2.2.2.cells = 0 ∧ M'.2.2.2.2.slots = 0) (hnn : nc ≤ M.2.2.2.2.cells ∧ ns ≤ M.2.2.2.2.slots)
    (kk : ∀ r w', Φ r w' → zWP g M mo (pc + 3) lv (r.toList ++ st) nc ns w') : zWP g M mo pc lv (As.reverse ++ st) nc ns (zw μ) :=
  zw_callS hcal hst hli hd hrm hn hsum (by rw [hc.1]; exact hnn.1) (by rw [hc.2]; exact hnn.2) (hOK.mono (fun r w' h => by rw [hc.1, hc.2]; exact kk r w' h))
theorem zx_callSN {M' : zM} {idx n : Nat} {host : String} {As : List Value} {Φ : Option Value → zWS → Prop} (hOK : zOK g M' As (zw μ) Φ) (hcal : zCal M' n) (hst : Cond.static M'.1 ∈ ztbl) (hne : (M.1.cls, idx, M'.1, host) ∈ zNest) (hd : decode M.2.1 pc = .ok (.invokestatic idx, 3)) (hrm : zRm M M') (hn : As.length = n)
    (hsum : Nat.ble (st.map fun v => v.category).sum 8 = true) (hc : M'.2.2.2.2.cells = 0 ∧ M'.2.2.2.2.slots = 0) (hnn : nc ≤ M.2.2.2.2.cells ∧ ns ≤ M.2.2.2.2.slots)
    (kk : ∀ r w', Φ r w' → zWP g M mo (pc + 3) lv (r.toList ++ st) nc ns w') : zWP g M mo pc lv (As.reverse ++ st) nc ns (zw μ) :=
  zw_callSN hcal hst hne hd hrm hn hsum (by rw [hc.1]; exact hnn.1) (by rw [hc.2]; exact hnn.2) (hOK.mono (fun r w' h => by rw [hc.1, hc.2]; exact kk r w' h))
end ZX
theorem zki {φ : Int → zMu → Prop} {P : Option Value → zWS → Prop} (h : ∀ x μ, φ x μ → P (some (.int (zJ x))) (zw μ)) : ∀ r w', zΦi φ r w' → P r w' := fun r w' ⟨x, μ, e1, e2, e3⟩ => by rw [e1, e2]; exact h x μ e3
theorem zkl {φ : Int → zMu → Prop} {P : Option Value → zWS → Prop} (h : ∀ x μ, φ x μ → P (some (.long (zL x))) (zw μ)) : ∀ r w', zΦl φ r w' → P r w' := fun r w' ⟨x, μ, e1, e2, e3⟩ => by rw [e1, e2]; exact h x μ e3
theorem zkr {φ : Nat → zMu → Prop} {P : Option Value → zWS → Prop} (h : ∀ x μ, φ x μ → P (some (.ref x)) (zw μ)) : ∀ r w', zΦr φ r w' → P r w' := fun r w' ⟨x, μ, e1, e2, e3⟩ => by rw [e1, e2]; exact h x μ e3
theorem zkv {φ : zMu → Prop} {P : Option Value → zWS → Prop} (h : ∀ μ, φ μ → P none (zw μ)) : ∀ r w', zΦv φ r w' → P r w' := fun r w' ⟨μ, e1, e2, e3⟩ => by rw [e1, e2]; exact h μ e3
-- facts of the shape
def zTg (k : Nat) : List (Nat × Nat × Nat) := match k with
  | 0 => [(1, 14, 6), (2, 3, 2), (4, 13, 8), (5, 12, 8)]
  | 1 => [(1, 15, 80), (82, 12, 81), (83, 12, 81), (84, 12, 81)]
  | 2 => [(1, 12, 199), (2, 12, 1592), (3, 12, 9), (4, 12, 199), (5, 12, 199)]
  | 3 => [(1, 12, 81)]
  | 4 => [(1, 3, 2), (3, 12, 648)]
  | 5 => [(1, 12, 100), (2, 12, 400)]
  | 6 => [(1, 12, 80)]
  | 7 => [(1, 12, 80), (2, 12, 80), (3, 12, 80), (4, 12, 80)]
  | 8 => [(1, 12, 100)]
  | 9 => [(1, 15, 9), (11, 15, 9), (21, 12, 80), (22, 12, 80)]
  | 10 => [(1, 0, 5), (35, 0, 5), (69, 7, 4), (74, 9, 9), (97, 1, 10), (182, 2, 5), (188, 8, 4), (190, 5, 3), (193, 4, 3), (197, 15, 4), (202, 12, 4)]
  | 11 => [(1, 12, 6), (2, 12, 6), (3, 12, 480), (4, 12, 81), (5, 12, 664), (6, 12, 80), (7, 12, 80), (8, 12, 80), (9, 12, 720), (10, 12, 720), (11, 12, 80), (12, 12, 6400), (13, 12, 6480), (14, 12, 80), (15, 12, 81), (16, 12, 81), (17, 12, 9), (18, 12, 8), (19, 12, 200), (20, 12, 100), (21, 12, 47), (22, 12, 9), (23, 12, 500), (24, 12, 81), (25, 12, 729), (26, 12, 4), (27, 12, 320), (28, 12, 6), (29, 12, 6), (30, 12, 480), (31, 12, 81), (32, 12, 664)]
  | _ => []
def zbq (i k n : Nat) : Bool := match zsh[i]? with
  | none => false
  | some p => Nat.beq p.1 k && Nat.beq p.2 n
theorem zbq_of {i k n : Nat} (h : zbq i k n = true) : zS i k n := by
  unfold zbq at h
  unfold zS
  cases hz : zsh[i]? with
  | none => rw [hz] at h; cases h
  | some p =>
    rw [hz] at h
    simp only [Bool.and_eq_true, Nat.beq_eq] at h
    obtain ⟨a, b⟩ := p
    rw [show a = k from h.1, show b = n from h.2]
def zchk (i : Nat) : Bool := match zsh[i]? with
  | none => true
  | some p => (zTg p.1).all (fun t => zbq (i + t.1) t.2.1 t.2.2)
theorem zchk_all : (List.range 236).all zchk = true := by decide +kernel
theorem zq (t : Nat) {i k n o k2 n2 : Nat} (h : zS i k n) (hm : (zTg k)[t]? = some (o, k2, n2)) : zS (i + o) k2 n2 := by
  have h1 := List.all_eq_true.mp zchk_all i (List.mem_range.mpr (zS_lt h))
  unfold zchk at h1
  rw [show zsh[i]? = some (k, n) from h] at h1
  exact zbq_of (List.all_eq_true.mp h1 _ (List.mem_of_getElem? hm))
def zchr (i : Nat) : Bool := match zsh[i]? with
  | none => true
  | some p => if p.1 = 13 then (List.range p.2).all (fun j => zbq (i + zSt 13 + zTp 13 * j) 3 2) else if p.1 = 14 then (List.range p.2).all (fun j => zbq (i + zSt 14 + zTp 14 * j) 6 3) else true
theorem zchr_all : (List.range 236).all zchr = true := by decide +kernel
theorem zqe_13 {i n j : Nat} (h : zS i 13 n) (hj : j < n) : zS (i + zSt 13 + zTp 13 * j) 3 2 := by
  have h1 := List.all_eq_true.mp zchr_all i (List.mem_range.mpr (zS_lt h))
  unfold zchr at h1
  rw [show zsh[i]? = some (13, n) from h] at h1
  exact zbq_of (List.all_eq_true.mp h1 _ (List.mem_range.mpr hj))
theorem zqe_14 {i n j : Nat} (h : zS i 14 n) (hj : j < n) : zS (i + zSt 14 + zTp 14 * j) 6 3 := by
  have h1 := List.all_eq_true.mp zchr_all i (List.mem_range.mpr (zS_lt h))
  unfold zchr at h1
  rw [show zsh[i]? = some (14, n) from h] at h1
  exact zbq_of (List.all_eq_true.mp h1 _ (List.mem_range.mpr hj))
theorem zqr_75_b : (List.range 9).all (fun j => zbq (75 + zSt 15 + zTp 15 * j) 12 80) = true := by decide +kernel
theorem zqr_75 {j : Nat} (hj : j < 9) : zS (75 + zSt 15 + zTp 15 * j) 12 80 := zbq_of (List.all_eq_true.mp zqr_75_b _ (List.mem_range.mpr hj))
theorem zqr_85_b : (List.range 9).all (fun j => zbq (85 + zSt 15 + zTp 15 * j) 12 80) = true := by decide +kernel
theorem zqr_85 {j : Nat} (hj : j < 9) : zS (85 + zSt 15 + zTp 15 * j) 12 80 := zbq_of (List.all_eq_true.mp zqr_85_b _ (List.mem_range.mpr hj))
theorem zqr_98_b : (List.range 80).all (fun j => zbq (98 + zSt 15 + zTp 15 * j) 12 81) = true := by decide +kernel
theorem zqr_98 {j : Nat} (hj : j < 80) : zS (98 + zSt 15 + zTp 15 * j) 12 81 := zbq_of (List.all_eq_true.mp zqr_98_b _ (List.mem_range.mpr hj))
theorem zqr_197_b : (List.range 4).all (fun j => zbq (197 + zSt 15 + zTp 15 * j) 12 80) = true := by decide +kernel
theorem zqr_197 {j : Nat} (hj : j < 4) : zS (197 + zSt 15 + zTp 15 * j) 12 80 := zbq_of (List.all_eq_true.mp zqr_197_b _ (List.mem_range.mpr hj))
