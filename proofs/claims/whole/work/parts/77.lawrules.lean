/-! THE LAW's rules: its mode, the script, its end; what an operation owes on both sides -/
abbrev zm_law : zM := (x, code, 4, ret, room_1)
def zmoL (g : zG) (L : Nat) (xs : Nat → Int32) : zMo := (fun s => zEX s ∧ zgB g = s.heap.size ∧ va_X (zgx g 0) L xs s s.heap ∧ zgx g 0 < s.heap.size, fun below _ s => lw_Z below #[Value.ref (zgx g 0)] s)
theorem zlw_ret {p : Program} {l : Launch} {e : Env} {s : State} {m : MethodId} {args : Array Value} {below : List Frame} {meth : Method} {c : Code} {b : Nat} (hx : p.tables.exec = Jvm.exec) (hb : c.code = code) (hr : meth.sig.returnType = ret) (hlocks : meth.locks = false) {pc : Nat} {H : Heap} {ls : Array Slot} (hdg : decode code pc = .ok (.ireturn, 1)) : W p l e room_1 s m args below meth c H [] 600000 7302250 (lw_Z below #[Value.ref b] s) (F0 m pc ls [.int 1]) := by
  intro T hT X
  obtain ⟨fs, hret, hrun, hended, hW, hframe⟩ := X.leave (v := some (.int 1)) (hlocks := hlocks) (fun h => by rw [hr] at h; cases h)
  have hmeth' : T.vm.method? m = some meth := X.method'
  refine ⟨T.setFrames fs, ?_, .returned (some (.int 1)), hrun, hended, rfl, ⟨_, rfl⟩, hW, hframe⟩
  jvm_step X.here [X.here.top, hx, hb, hdg, hmeth', hr, ret, narrow_b1]
  (try refine ⟨rfl, ?_⟩); (try refine ⟨rfl, ?_⟩)
  first | (intro acts; rw [hret _ acts rfl rfl rfl]) | rw [hret _ _ rfl rfl rfl]
  exact Steps.refl _
section ZLAW
variable {g : zG} {L pc nc ns : Nat} {xs : Nat → Int32} {lv : List (Nat × Value)} {st : List Value} {w : zWS}
theorem zw_lawend (hd : decode code pc = .ok (.ireturn, 1)) (hn : nc ≤ 600000) (hs : ns ≤ 7302250) : zWP g zm_law (zmoL g L xs) pc lv [.int (zJ 1)] nc ns w := by
  intro p e s m args below meth c H locs ls C hl hW hS
  have EX := C.2.2.2.2.2.2.2.2.2.2
  refine va_forget (fun q hq => ?_) (W.widen hn hs ?_)
  · have h1 : zgB g ≤ q.base := hS.2.2 q hq
    rw [EX.2.1] at h1
    exact h1
  · have e1 : zJ 1 = 1 := by decide +kernel
    show W _ _ _ _ _ _ _ _ _ _ _ _ _ _ _ (F0 m pc ls [.int (zJ 1)])
    rw [e1]
    exact zlw_ret C.1 C.2.1 C.2.2.2.1 C.2.2.2.2.2.2.1 hd
theorem zw_sld {x : Int} (hd : decode code pc = .ok (.iaload, 1)) (h0 : 0 ≤ x) (hx : x < L) (hL : L ≤ 2560) (kk : zWP g zm_law (zmoL g L xs) (pc + 1) lv (.int (zJ (xs x.toNat).toInt) :: st) nc ns w) : zWP g zm_law (zmoL g L xs) pc lv (.int (zJ x) :: .ref 90000 :: st) nc ns w := by
  intro p e s m args below meth c H locs ls C hl hW hS
  have EX := C.2.2.2.2.2.2.2.2.2.2
  obtain ⟨hin, ht⟩ := zin h0 hx (by omega)
  have hbA : ¬ zA g (zgx g 0) := by
    show ¬ zgB g ≤ zgx g 0
    rw [EX.2.1]
    exact Nat.not_le.mpr EX.2.2.2
  have k2 := kk p e s m args below meth c H locs ls C hl hW hS
  rw [zJ_of, ← ht] at k2
  have k3 := va_sld (rest := st.map (ztv g)) (ls := ls) C.1 C.2.1 EX.2.2.1 EX.2.2.2 hbA hS hin hd k2
  have ez : zad g 90000 = zgx g 0 := zad_x g 0
  show W _ _ _ _ _ _ _ _ _ _ _ _ _ _ _ (F0 m pc ls (.int (zJ x) :: .ref (zad g 90000) :: st.map (ztv g)))
  rw [ez]
  exact k3
theorem zw_slen (hd : decode code pc = .ok (.arraylength, 1)) (kk : zWP g zm_law (zmoL g L xs) (pc + 1) lv (.int (zJ (L : Int)) :: st) nc ns w) : zWP g zm_law (zmoL g L xs) pc lv (.ref 90000 :: st) nc ns w := by
  intro p e s m args below meth c H locs ls C hl hW hS
  have EX := C.2.2.2.2.2.2.2.2.2.2
  have hbA : ¬ zA g (zgx g 0) := by
    show ¬ zgB g ≤ zgx g 0
    rw [EX.2.1]
    exact Nat.not_le.mpr EX.2.2.2
  have k2 := kk p e s m args below meth c H locs ls C hl hW hS
  have k3 := va_slen (rest := st.map (ztv g)) (ls := ls) C.1 C.2.1 EX.2.2.1 EX.2.2.2 hbA hS hd k2
  have ez : zad g 90000 = zgx g 0 := zad_x g 0
  show W _ _ _ _ _ _ _ _ _ _ _ _ _ _ _ (F0 m pc ls (.ref (zad g 90000) :: st.map (ztv g)))
  rw [ez]
  exact k3
end ZLAW
section ZSAME
variable {g : zG} {M : zM} {mo : zMo} {pc nc ns : Nat} {lv : List (Nat × Value)} {st : List Value} {w : zWS}
theorem zw_icmp_same {x off : Int} {tgt : Nat} (hd : decode M.2.1 pc = .ok (.if_icmp .eq off, 3)) (ht : (pc : Int) + off = (tgt : Int)) (kt : zWP g M mo tgt lv st nc ns w) : zWP g M mo pc lv (.int (zJ x) :: .int (zJ x) :: st) nc ns w := by
  intro p e s m args below meth c H locs ls C hl hW hS
  exact lv_icmp_eq C.1 C.2.1 hd ht (fun _ => kt p e s m args below meth c H locs ls C hl hW hS) (fun h => absurd rfl h)
theorem zw_lcmp_same {x : Int} (hd : decode M.2.1 pc = .ok (.lcmp, 1)) (k : zWP g M mo (pc + 1) lv (.int (zJ 0) :: st) nc ns w) : zWP g M mo pc lv (.long (zL x) :: .long (zL x) :: st) nc ns w := by
  intro p e s m args below meth c H locs ls C hl hW hS
  refine W.lcmp C.1 C.2.1 hd ?_
  have ee : lg_cmp (zL x) (zL x) = zJ 0 := by
    unfold lg_cmp
    rw [if_neg (show ¬ zL x > zL x from Int64.lt_irrefl), if_pos rfl]
    decide +kernel
  rw [ee]
  exact k p e s m args below meth c H locs ls C hl hW hS
end ZSAME
theorem zR_I (y : Int32) : zR y.toInt := ⟨Int32.le_toInt y, by have := Int32.toInt_lt y; omega⟩
theorem zand_63 (z : Int) : 0 ≤ zand z 63 ∧ zand z 63 ≤ 63 := by
  unfold zand
  have h : ∀ y : Int32, 0 ≤ (y &&& 63).toInt ∧ (y &&& 63).toInt ≤ 63 := by
    intro y
    have h1 : (y.toBitVec &&& 63#32).toNat ≤ 63 := by
      rw [BitVec.toNat_and]
      exact Nat.and_le_right
    have h2 : (y.toBitVec &&& 63#32).toInt = ((y.toBitVec &&& 63#32).toNat : Int) := BitVec.toInt_eq_toNat_of_lt (by omega)
    have h3 : (y &&& 63).toInt = (y.toBitVec &&& 63#32).toInt := rfl
    omega
  rw [show zJ 63 = 63 by decide +kernel]
  exact h _
theorem zRM_kp {A μ μ' : zMu} (h : zRM A μ) (e : ∀ i : Nat, 203 ≤ i → μ' i = μ i) : zRM A μ' := by
  unfold zRM zMn zMi zMt zMp zMl zMw at h ⊢
  simp only [e 203 (by omega), e 204 (by omega), e 205 (by omega), e 206 (by omega), e 207 (by omega), e 208 (by omega), e 231 (by omega), e 232 (by omega), e 233 (by omega), e 234 (by omega), e 235 (by omega), e 223 (by omega), e 228 (by omega), e 229 (by omega), e 230 (by omega), e 224 (by omega), e 225 (by omega)]
  exact h
theorem zRC_kp {A μ μ' : zMu} (h : zRC A μ) (e : ∀ i : Nat, i < 203 → μ' i = μ i) : zRC A μ' := by
  obtain ⟨h1, h2, h3, h4, h5, h6⟩ := h
  exact ⟨zCc_keep (fun _ _ _ => rfl) (fun i _ _ => e i (by omega)) h1, zRi_keep rfl (fun _ _ _ => rfl) (by rw [e 0 (by omega)]) (fun i _ _ => e i (by omega)) h2, zRg_keep rfl rfl rfl (e _ (by omega)) (e _ (by omega)) h3,
    zRt_keep rfl rfl (by rw [e 188 (by omega)]) (e _ (by omega)) h4, zRp_keep rfl rfl (by rw [e 193 (by omega)]) (e _ (by omega)) h5, zRl_keep (fun _ _ _ => rfl) (fun i _ _ => e i (by omega)) h6⟩
/-- both answer the same, and both hold the new state -/
def zOp (g : zG) (MC MM : zM) (as : List Value) (A : zMu) (s : Int × zMu) : Prop := zWF s.2 ∧ (∀ μ, zRC A μ → zRM A μ → zOi g MC (.ref 0 :: as) μ (fun x μ1 => x = s.1 ∧ zRC s.2 μ1 ∧ zRM A μ1)) ∧ ∀ μ, zRC s.2 μ → zRM A μ → zOi g MM (.ref 203 :: as) μ (fun x μ1 => x = s.1 ∧ zRC s.2 μ1 ∧ zRM s.2 μ1)
def zOpl (g : zG) (MC MM : zM) (as : List Value) (A : zMu) (s : Int × zMu) : Prop := zWF s.2 ∧ (∀ μ, zRC A μ → zRM A μ → zOl g MC (.ref 0 :: as) μ (fun x μ1 => x = s.1 ∧ zRC s.2 μ1 ∧ zRM A μ1)) ∧ ∀ μ, zRC s.2 μ → zRM A μ → zOl g MM (.ref 203 :: as) μ (fun x μ1 => x = s.1 ∧ zRC s.2 μ1 ∧ zRM s.2 μ1)
theorem zop_of {g : zG} {MC MM : zM} {as : List Value} {A : zMu} {s : Int × zMu} (wf : zWF s.2) (hc : ∀ μ φ, zRC A μ → zHd φ μ s → zOi g MC (.ref 0 :: as) μ φ) (hm : ∀ μ φ, zRM A μ → zHn φ μ s → zOi g MM (.ref 203 :: as) μ φ) : zOp g MC MM as A s :=
  ⟨wf, fun μ hR hM => hc μ _ hR (fun μ' h1 h2 => ⟨rfl, h1, zRM_kp hM h2⟩), fun μ hR hM => hm μ _ hM (fun μ' h1 h2 => ⟨rfl, zRC_kp hR h2, h1⟩)⟩
theorem zopl_of {g : zG} {MC MM : zM} {as : List Value} {A : zMu} {s : Int × zMu} (wf : zWF s.2) (hc : ∀ μ φ, zRC A μ → zHd φ μ s → zOl g MC (.ref 0 :: as) μ φ) (hm : ∀ μ φ, zRM A μ → zHn φ μ s → zOl g MM (.ref 203 :: as) μ φ) : zOpl g MC MM as A s :=
  ⟨wf, fun μ hR hM => hc μ _ hR (fun μ' h1 h2 => ⟨rfl, h1, zRM_kp hM h2⟩), fun μ hR hM => hm μ _ hM (fun μ' h1 h2 => ⟨rfl, zRC_kp hR h2, h1⟩)⟩
