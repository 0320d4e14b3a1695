theorem zrl_range (b : Nat) (L : List (Nat × Nat × Nat)) (a i : Nat) : ∀ n, zrl ((List.range n).map (fun j => (b, j, b + 1 + j)) ++ L) a i = if a = b ∧ i < n then some (b + 1 + i) else zrl L a i := by
  suffices h : ∀ (m k : Nat), zrl ((List.range' k m).map (fun j => (b, j, b + 1 + j)) ++ L) a i = if a = b ∧ k ≤ i ∧ i < k + m then some (b + 1 + i) else zrl L a i by
    intro n
    rw [List.range_eq_range', h n 0]
    by_cases hc : a = b ∧ i < n
    · rw [if_pos ⟨hc.1, by omega, by omega⟩, if_pos hc]
    · rw [if_neg (fun q => hc ⟨q.1, by omega⟩), if_neg hc]
  intro m
  induction m with
  | zero =>
    intro k
    rw [if_neg (by omega)]
    rfl
  | succ m ih =>
    intro k
    rw [List.range'_succ]
    show (if a = b ∧ i = k then some (b + 1 + k) else zrl ((List.range' (k + 1) m).map (fun j => (b, j, b + 1 + j)) ++ L) a i) = _
    rw [ih (k + 1)]
    by_cases h1 : a = b ∧ i = k
    · rw [if_pos h1, if_pos ⟨h1.1, by omega, by omega⟩, h1.2]
    · rw [if_neg h1]
      by_cases h2 : a = b ∧ k + 1 ≤ i ∧ i < k + 1 + m
      · rw [if_pos h2, if_pos ⟨h2.1, by omega, by omega⟩]
      · rw [if_neg h2, if_neg (fun q => h2 ⟨q.1, by
          have : i ≠ k := fun e => h1 ⟨q.1, e⟩
          omega, by omega⟩)]
theorem zouter (c : ClassId) (N h0 : Nat) : ∀ i, Jvm.Free.Multi.outerC c N h0 i = arrV c N (fun j => if j < i then .ref (h0 + 1 + j) else .null) := by
  intro i
  induction i with
  | zero =>
    show ({ cls := c, slots := Array.replicate N .null, vm := .none } : Cell) = _
    rw [arrV_new]
    congr 1
  | succ i ih =>
    show (Jvm.Free.Multi.outerC c N h0 i).setSlot i (.ref (h0 + 1 + i)) = _
    rw [ih, arrV_store]
    congr 1
    funext j
    unfold updV
    by_cases hj : j = i
    · rw [if_pos hj, if_pos (by omega), hj]
    · rw [if_neg hj]
      dsimp only
      by_cases h2 : j < i
      · rw [if_pos h2, if_pos (by omega)]
      · rw [if_neg h2, if_neg (by omega)]
section ZN2
variable {g : zG} {M : zM} {mo : zMo} {pc nc ns : Nat} {lv : List (Nat × Value)} {st : List Value} {w : zWS}
theorem zw_newM {n k r idx : Nat} {x y : Int} {R : Nat → Nat → Option Nat} (hEX : ∀ s, mo.1 s → zEX s) (hli : Cond.classLink M.1.cls idx "[[I" ∈ ztbl) (hx : x = (n : Int)) (hy : y = (k : Int)) (hd : decode M.2.1 pc = .ok (.multianewarray idx 2, 4)) (hfr : zfrs w) (hlen : w.1.length + (1 + n) < 90000) (hn : n ≤ 100000) (hk : k ≤ 100000) (hc1 : nc + (1 + n) ≤ M.2.2.2.2.cells) (hc2 : ns + (n + n * k) ≤ M.2.2.2.2.slots) (hr : w.1.length = r)
    (hR : ∀ a i, R a i = if a = r ∧ i < n then some (r + 1 + i) else w.2.1 a i)
    (kk : zWP g M mo (pc + 4) lv (.ref r :: st) (nc + (1 + n)) (ns + (n + n * k)) (w.1 ++ ((15, n) :: List.replicate n (12, k)), R, w.2.2)) : zWP g M mo pc lv (.int (zJ y) :: .int (zJ x) :: st) nc ns w := by
  intro p e s m args below meth c H locs ls C0 hl hW hS
  have hts := C0.2.2.2.2.1
  have hK := C0.2.2.2.2.2.2.2.2.1.1
  have hE := hEX s C0.2.2.2.2.2.2.2.2.2.2
  subst hr
  obtain ⟨hx0, hx1⟩ := znn hx (by omega)
  obtain ⟨hy0, hy1⟩ := znn hy (by omega)
  intro T hT X
  have hna : ("[" ++ (FieldType.array .int).toString) = "[[I" := by decide +kernel
  have hnb : (FieldType.array .int).toString = "[" ++ FieldType.int.toString := by decide +kernel
  have hs0 : ∀ n k : Nat, n ≤ 100000 → n * 4 ≤ 536870912 := fun n k h => by omega
  obtain ⟨vm₁, cA, comp, hWm, hfA, hfC, hO, hI, X1, stp⟩ := X.multianewarray2F C0.1 (ty := .int) C0.2.2.2.2.2.1 (by rw [hna]; exact hts _ hli) (show (Cond.arrayOver (.array .int)).before args s = true from hE.2.2) (hts _ zb_arrI) (g := F0 m pc ls ((Value.int (zJ y) :: .int (zJ x) :: st).map (ztv g))) rfl (by rw [C0.2.1]; exact hd) (n := zJ x) (k := zJ y) (rest := st.map (ztv g)) rfl hx0 hy0 (by rw [hx1]; omega) (by rw [hy1]; show k * 4 ≤ _; omega) (by rw [hy1]; omega) rfl rfl (by rw [hx1]; exact hc1) (by rw [hx1, hy1]; exact hc2)
  have hcA : cA = zgc g 15 := Option.some.inj (hfA.symm.trans (hK.2 3 _ rfl).2)
  have hcC : comp = zgc g 12 := Option.some.inj (hfC.symm.trans (by rw [hnb]; exact (hK.2 0 _ rfl).2))
  subst hcA; subst hcC
  obtain ⟨f1, f2, f3, f4⟩ := Jvm.Free.Multi.fill_facts (T.setVm vm₁) (zgc g 15) (zgc g 12) (zJ x).toNatClampNeg (zJ y).toNatClampNeg (defaultValue .int) (zJ x).toNatClampNeg
  have fo := fun (a : Nat) (ha : a < T.heap.size) => Jvm.Free.Multi.fill_old (T.setVm vm₁) (zgc g 15) (zgc g 12) (zJ x).toNatClampNeg (zJ y).toNatClampNeg (defaultValue .int) (a := a) ha (zJ x).toNatClampNeg
  have fi := fun (j : Nat) (hj : j < (zJ x).toNatClampNeg) => Jvm.Free.Multi.fill_inner (T.setVm vm₁) (zgc g 15) (zgc g 12) (zJ x).toNatClampNeg (zJ y).toNatClampNeg (defaultValue .int) (zJ x).toNatClampNeg j hj
  obtain ⟨o1, o2, o3⟩ := Jvm.Free.Multi.outerC_facts (zgc g 15) (zJ x).toNatClampNeg T.heap.size (zJ x).toNatClampNeg
  have os := fun (j : Nat) (hj : j < (zJ x).toNatClampNeg) => Jvm.Free.Multi.outerC_slot (zgc g 15) (zJ x).toNatClampNeg T.heap.size (zJ x).toNatClampNeg j hj
  generalize hF : Jvm.Free.Multi.fill (T.setVm vm₁) (zgc g 15) (zgc g 12) (zJ x).toNatClampNeg (zJ y).toNatClampNeg (defaultValue .int) (zJ x).toNatClampNeg = F at *
  generalize hO0 : Jvm.Free.Multi.outerC (zgc g 15) (zJ x).toNatClampNeg T.heap.size (zJ x).toNatClampNeg = O at *
  rw [hx1] at f1 o3 X1 fi os
  rw [hy1] at X1 fi
  have hTs : (T.setVm vm₁).heap.size = H.size := by rw [← hT]; rfl
  have hTz : T.heap.size = H.size := by rw [hT]
  rw [hTs] at f1
  have f2' : F.heap[H.size]? = some O := by
    rw [← hTz]
    exact (show F.heap[T.heap.size]? = _ from f2).trans (congrArg some hO0)
  have hOeq : O = arrV (zgc g 15) n (fun j => va_rf (if j < n then some (H.size + 1 + j) else none)) := by
    rw [← hO0, hx1, zouter, hTz]
    congr 1
    funext j
    by_cases hj : j < n
    · rw [if_pos hj, if_pos hj]; rfl
    · rw [if_neg hj, if_neg hj]; rfl
  have hnew : zHW g (w.1 ++ ((15, n) :: List.replicate n (12, k)), R, w.2.2) F.heap := by
    refine zpushL (w := w) (l := (15, n) :: List.replicate n (12, k)) hW rfl (by rw [List.length_cons, List.length_replicate]; omega) (fun a ha j => ⟨?_, rfl⟩) (by rw [f1, List.length_cons, List.length_replicate]; omega) (fun q hq => ?_) (fun j sh hj => ?_)
    · show R a j = w.2.1 a j
      rw [hR, if_neg (fun q => by omega)]
    · have := fo q (by rw [hTz]; exact hq)
      exact this.trans (by show T.heap[q]? = _; rw [hT])
    · match j, hj with
      | 0, hj =>
        obtain rfl : (15, n) = sh := Option.some.inj hj
        rw [zce_rr (by decide)]
        show F.heap[zgB g + (w.1.length + 0)]? = some (vp_cell _ _)
        rw [Nat.add_zero, ← hW.2.1, f2', hOeq, vp_cell_q]
        congr 2
        funext i
        show va_rf _ = va_rf ((R w.1.length i).map (zad g))
        rw [hR]
        by_cases hi : i < n
        · rw [if_pos hi, if_pos ⟨rfl, hi⟩]
          show va_rf (some _) = va_rf (some (zad g _))
          rw [zad, if_pos (by omega), hW.2.1]
          congr 2
          omega
        · rw [if_neg hi, if_neg (fun q => hi q.2), (hfr _ (Nat.le_refl _) i).1]
          rfl
      | j + 1, hj =>
        have hj' : (List.replicate n ((12, k) : Nat × Nat))[j]? = some sh := hj
        have hjn : j < n := by
          have := (List.getElem?_eq_some_iff.mp hj').1
          rw [List.length_replicate] at this
          exact this
        rw [List.getElem?_replicate, if_pos hjn] at hj'
        obtain rfl : (12, k) = sh := Option.some.inj hj'
        rw [zce_ar]
        show F.heap[zgB g + (w.1.length + (j + 1))]? = some (vp_cell _ _)
        have h3 := fi j hjn
        rw [hTs] at h3
        rw [show zgB g + (w.1.length + (j + 1)) = H.size + 1 + j by rw [hW.2.1]; omega, h3, vp_cell_i]
        show some ({ cls := zgc g 12, slots := Array.replicate k (defaultValue .int), vm := .none } : Cell) = _
        rw [arrV_new]
        congr 2
        funext i
        show _ = Value.int (zJ (w.2.2 (w.1.length + (j + 1)) i))
        rw [(hfr _ (by omega) i).2]
        rfl
  have ead : zad g w.1.length = H.size := by rw [zad, if_pos (by omega), hW.2.1]
  have h2 := kk p e s m args below meth c F.heap locs ls C0 hl hnew ⟨Nat.le_trans hS.1 (by omega), fun q h1 h2 => by
    have := fo q (by rw [hTz]; exact Nat.lt_of_lt_of_le h1 hS.1)
    exact (this.trans (by show T.heap[q]? = _; rw [hT])).trans (hS.2.1 q h1 h2), hS.2.2⟩
  rw [List.map_cons, show ztv g (.ref w.1.length) = .ref (zad g w.1.length) from rfl, ead] at h2
  obtain ⟨t, a1, b1⟩ := h2 F rfl (X1.more (by omega) (by omega))
  rw [hTz] at stp
  exact ⟨t, stp t a1, b1⟩
end ZN2
