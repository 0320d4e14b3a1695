/-! WRITE: the text on paper -/
def zdgt (v : Int) : List Int := (if 100 ≤ v then [48 + v / 100] else []) ++ ((if 10 ≤ v then [48 + v / 10 % 10] else []) ++ [48 + v % 10])
def zpy (c n : Int) : List Int := if n = 0 then [] else [c, 48 + n]
/-- one term more -/
def ztx (T : List Int) (v : Int) (i k : Nat) : List Int := (((if T.length = 0 then T else T ++ [43]) ++ zdgt v) ++ zpy 120 i) ++ zpy 121 k
def zwk (e : Nat → Int) (i : Nat) : Nat → List Int → List Int
  | 0, T => T
  | n + 1, T => zwk e i n (if e (9 * i + n) = 0 then T else ztx T (e (9 * i + n)) i n)
def zwi (e : Nat → Int) (d : Nat) : Nat → List Int → List Int
  | 0, T => T
  | n + 1, T => zwi e d n (zwk e n (d + 1) T)
def zwt (e : Nat → Int) (d : Nat) : List Int := if (zwi e d (d + 1) []).length = 0 then [48] else zwi e d (d + 1) []
def st_write (A : zMu) : Int × zMu := if A 3 0 = 0 then (-11, A) else (((zwt (A 4) (A 3 0).toNat).length : Int), zup (zua A 43 (fun j => (zwt (A 4) (A 3 0).toNat).getD j 0)) 42 0 ((zwt (A 4) (A 3 0).toNat).length : Int))
/-- letters -/
def zLt (T : List Int) : Prop := ∀ x, x ∈ T → 0 ≤ x ∧ x ≤ 200
theorem zLt_app {S T : List Int} (h : zLt S) (h2 : zLt T) : zLt (S ++ T) := fun x hx => by
  rcases List.mem_append.1 hx with q | q
  · exact h x q
  · exact h2 x q
theorem zLt_1 {x : Int} (h : 0 ≤ x ∧ x ≤ 200) : zLt [x] := fun y hy => by
  rw [List.mem_singleton.1 hy]; exact h
theorem zdgt_ok {v : Int} (h : 0 ≤ v ∧ v ≤ 999) : zLt (zdgt v) ∧ (zdgt v).length ≤ 3 := by
  unfold zdgt
  have a1 : zLt [48 + v % 10] := zLt_1 (by omega)
  have a2 : zLt (if 10 ≤ v then [48 + v / 10 % 10] else []) := by
    split
    · exact zLt_1 (by omega)
    · exact fun x hx => absurd hx (List.not_mem_nil)
  have a3 : zLt (if 100 ≤ v then [48 + v / 100] else []) := by
    split
    · exact zLt_1 (by omega)
    · exact fun x hx => absurd hx (List.not_mem_nil)
  refine ⟨zLt_app a3 (zLt_app a2 a1), ?_⟩
  rw [List.length_append, List.length_append]
  split <;> split <;> simp
theorem zpy_ok {c n : Int} (hc : 0 ≤ c ∧ c ≤ 200) (h : 0 ≤ n ∧ n ≤ 8) : zLt (zpy c n) ∧ (zpy c n).length ≤ 2 := by
  unfold zpy
  split
  · exact ⟨fun x hx => absurd hx (List.not_mem_nil), by simp⟩
  · exact ⟨fun x hx => by
      rcases List.mem_cons.1 hx with q | q
      · rw [q]; exact hc
      · rw [List.mem_singleton.1 q]; omega, by simp⟩
theorem ztx_ok {T : List Int} {v : Int} {i k : Nat} (hT : zLt T) (hv : 0 ≤ v ∧ v ≤ 999) (hi : i ≤ 8) (hk : k ≤ 8) : zLt (ztx T v i k) ∧ (ztx T v i k).length ≤ T.length + 8 := by
  obtain ⟨a1, a2⟩ := zdgt_ok hv
  obtain ⟨b1, b2⟩ := zpy_ok (c := 120) (n := (i : Int)) (by omega) (by omega)
  obtain ⟨c1, c2⟩ := zpy_ok (c := 121) (n := (k : Int)) (by omega) (by omega)
  have d1 : zLt (if T.length = 0 then T else T ++ [43]) ∧ (if T.length = 0 then T else T ++ [43]).length ≤ T.length + 1 := by
    split
    · exact ⟨hT, by omega⟩
    · exact ⟨zLt_app hT (zLt_1 (by omega)), by rw [List.length_append]; simp⟩
  unfold ztx
  refine ⟨zLt_app (zLt_app (zLt_app d1.1 a1) b1) c1, ?_⟩
  rw [List.length_append, List.length_append, List.length_append]
  have := d1.2
  omega
theorem zwk_ok {e : Nat → Int} {i : Nat} (he : ∀ t, t < 81 → 0 ≤ e t ∧ e t ≤ 999) (hi : i ≤ 8) : ∀ n, n ≤ 9 → ∀ T, zLt T → zLt (zwk e i n T) ∧ (zwk e i n T).length ≤ T.length + 8 * n
  | 0, _, T, hT => ⟨hT, Nat.le_refl _⟩
  | n + 1, hn, T, hT => by
    rw [zwk]
    by_cases z : e (9 * i + n) = 0
    · rw [if_pos z]
      have := zwk_ok he hi n (by omega) T hT
      exact ⟨this.1, by omega⟩
    · rw [if_neg z]
      obtain ⟨q1, q2⟩ := ztx_ok (v := e (9 * i + n)) (k := n) hT (he _ (by omega)) hi (by omega)
      have := zwk_ok he hi n (by omega) _ q1
      exact ⟨this.1, by omega⟩
theorem zwi_ok {e : Nat → Int} {d : Nat} (he : ∀ t, t < 81 → 0 ≤ e t ∧ e t ≤ 999) (hd : d ≤ 8) : ∀ n, n ≤ 9 → ∀ T, zLt T → zLt (zwi e d n T) ∧ (zwi e d n T).length ≤ T.length + 72 * n
  | 0, _, T, hT => ⟨hT, Nat.le_refl _⟩
  | n + 1, hn, T, hT => by
    rw [zwi]
    obtain ⟨q1, q2⟩ := zwk_ok he (i := n) (by omega) (d + 1) (by omega) T hT
    have := zwi_ok he hd n (by omega) _ q1
    exact ⟨this.1, by omega⟩
theorem zwt_ok {e : Nat → Int} {d : Nat} (he : ∀ t, t < 81 → 0 ≤ e t ∧ e t ≤ 999) (hd : d ≤ 8) : zLt (zwt e d) ∧ (zwt e d).length ≤ 648 := by
  have := zwi_ok he hd (d + 1) (by omega) [] (fun x hx => absurd hx (List.not_mem_nil))
  unfold zwt
  split
  · exact ⟨zLt_1 (by omega), by simp⟩
  · refine ⟨this.1, ?_⟩
    have h2 := this.2
    rw [List.length_nil] at h2
    omega
theorem zLt_get {T : List Int} (h : zLt T) {j : Nat} (hj : j < T.length) : 0 ≤ T.getD j 0 ∧ T.getD j 0 ≤ 200 := h _ (zmem_getD.2 ⟨j, hj, rfl⟩)
section WRT
variable {g : zG} {μ A : zMu}
theorem zWF_e9 (hw : zWF A) (h0 : A 3 0 ≠ 0) : ∀ t, t < 81 → 0 ≤ A 4 t ∧ A 4 t ≤ 999 := fun t ht => by
  have hp := zWF_p hw
  have := (zWF_e hw h0).1 t ht
  omega
theorem wf_write (hw : zWF A) : zWF (st_write A).2 := by
  unfold st_write
  by_cases h0 : A 3 0 = 0
  · rw [if_pos h0]; exact hw
  · rw [if_neg h0]
    have hd := zWF_d hw
    obtain ⟨q1, q2⟩ := zwt_ok (e := A 4) (d := (A 3 0).toNat) (zWF_e9 hw h0) (by omega)
    refine zWF_pp hw (fun i h1 h2 => (zup_nc h1).trans (zua_nc h2)) ?_
    dsimp only
    rw [zup_eq, zup_nc (by omega), zua_row]
    refine ⟨by omega, fun k hk => ?_⟩
    have := zLt_get q1 (j := k) (by omega)
    omega
/-- a row holds a text -/
def zLs (n : Int) (r : Nat → Int) (T : List Int) : Prop := n = (T.length : Int) ∧ ∀ j, j < T.length → r j = T.getD j 0
theorem zLs_app {n n' : Int} {r r' : Nat → Int} {T : List Int} {v : Int} (h : zLs n r T) (hn : n' = n + 1) (hr : ∀ j, r' j = if j = n.toNat then v else r j) : zLs n' r' (T ++ [v]) := by
  obtain ⟨h1, h2⟩ := h
  refine ⟨by rw [hn, h1, List.length_append]; simp, fun j hj => ?_⟩
  rw [List.length_append] at hj
  have hj : j < T.length + 1 := hj
  rw [hr j]
  by_cases e : j = T.length
  · rw [if_pos (by omega), e, List.getD_eq_getElem?_getD, List.getElem?_append_right (Nat.le_refl _), Nat.sub_self]; rfl
  · rw [if_neg (by omega), h2 j (by omega), List.getD_eq_getElem?_getD, List.getD_eq_getElem?_getD, List.getElem?_append_left (by omega)]
/-- the class -/
def zPf (μ ν : zMu) : Prop := ∀ (i : Nat), i ≠ 193 → i ≠ 196 → ν i = μ i
theorem zPf.tr {μ ν ω : zMu} (h : zPf μ ν) (h2 : zPf ν ω) : zPf μ ω := fun i q1 q2 => (h2 i q1 q2).trans (h i q1 q2)
theorem ok_X4_putByte {φ : zMu → Prop} {T : List Int} {v : Int} (hT : zLs (μ 193 2) (μ 196) T) (hl : T.length < 648) (h : ∀ ν, zPf μ ν → zLs (ν 193 2) (ν 196) (T ++ [v]) → φ ν) : zOv g zm_X4_putByte [.ref 193, .int (zJ v)] μ φ := by
  have h1 := hT.1
  refine sg_X4_putByte ⟨by omega, fun hc => absurd hc (by omega), fun _ => ⟨by omega, ?_⟩⟩
  rw [zup_ne (μ := μ) (i := 196) (a := 193) (Or.inl (by omega))]
  exact h _ (fun i q1 q2 => (zup_nc q1).trans (zup_nc q2)) (zLs_app hT zup_eq (fun j => by
    rw [zup_ne (Or.inl (by omega))]
    by_cases e : j = (μ 193 2).toNat
    · rw [if_pos e, e, zup_eq]
    · rw [if_neg e, zup_ne (Or.inr e)]))
theorem ok_X4_putNumber {φ : zMu → Prop} {T : List Int} {v : Int} (hv : 0 ≤ v ∧ v ≤ 999) (hT : zLs (μ 193 2) (μ 196) T) (hl : T.length + 3 ≤ 648) (h : ∀ ν, zPf μ ν → zLs (ν 193 2) (ν 196) (T ++ zdgt v) → φ ν) : zOv g zm_X4_putNumber [.ref 193, .int (zJ v)] μ φ := by
  have t1 : v.tmod 10 = v % 10 := ztm hv.1
  have t2 : v.tdiv 10 = v / 10 := Int.tdiv_eq_ediv_of_nonneg hv.1
  have t3 : v.tdiv 100 = v / 100 := Int.tdiv_eq_ediv_of_nonneg hv.1
  have t4 : (v / 10).tmod 10 = v / 10 % 10 := ztm (by omega)
  unfold zdgt at h
  refine sg_X4_putNumber ⟨by omega, fun q => ?_, fun q => ?_⟩
  · rw [if_neg (by omega), List.nil_append] at h
    refine ⟨fun q2 => ?_, fun q2 => ⟨by rw [t2]; omega, ?_⟩⟩
    · rw [if_neg (by omega), List.nil_append] at h
      rw [t1]
      exact ok_X4_putByte hT (by omega) h
    · rw [if_pos q2] at h
      rw [t2, t4, t1]
      refine ok_X4_putByte hT (by omega) (fun ν f1 L1 => ok_X4_putByte L1 (by rw [List.length_append]; simp; omega) (fun ν2 f2 L2 => h ν2 (f1.tr f2) ?_))
      rw [List.append_assoc] at L2
      exact L2
  · rw [if_pos q, if_pos (by omega)] at h
    rw [t3]
    refine ok_X4_putByte hT (by omega) (fun ν f1 L1 => ⟨fun q2 => absurd q2 (by omega), fun q2 => ⟨by rw [t2]; omega, ?_⟩⟩)
    rw [t2, t4, t1]
    refine ok_X4_putByte L1 (by rw [List.length_append]; simp; omega) (fun ν2 f2 L2 => ok_X4_putByte L2 (by rw [List.length_append, List.length_append]; simp; omega) (fun ν3 f3 L3 => h ν3 ((f1.tr f2).tr f3) ?_))
    rw [List.append_assoc, List.append_assoc] at L3
    exact L3
theorem zdgt_1 {n : Nat} (h : 1 ≤ n ∧ n ≤ 8) : zdgt (n : Int) = [48 + (n : Int)] := by
  unfold zdgt
  rw [if_neg (by omega), if_neg (by omega), show (n : Int) % 10 = n by omega]
  rfl
theorem ok_X4_putDig {φ : zMu → Prop} {T : List Int} {n : Nat} (hn : n ≤ 8) (hT : zLs (μ 193 2) (μ 196) T) (hl : T.length < 648) (h : ∀ ν, zPf μ ν → zLs (ν 193 2) (ν 196) (T ++ [48 + (n : Int)]) → φ ν) : zOv g zm_X4_putNumber [.ref 193, .int (zJ (n : Int))] μ φ := by
  have t1 : (n : Int).tmod 10 = (n : Int) := by rw [ztm (by omega)]; omega
  refine sg_X4_putNumber ⟨by omega, fun q => ⟨fun q2 => ?_, fun q2 => absurd q2 (by omega)⟩, fun q => absurd q (by omega)⟩
  rw [t1]
  exact ok_X4_putByte hT hl h
theorem ok_X4_putTerm {φ : zMu → Prop} {T : List Int} {v : Int} {i k : Nat} (hv : 0 ≤ v ∧ v ≤ 999) (hi : i ≤ 8) (hk : k ≤ 8) (hT : zLs (μ 193 2) (μ 196) T) (hl : T.length + 8 ≤ 648) (h : ∀ ν, zPf μ ν → zLs (ν 193 2) (ν 196) (ztx T v i k) → φ ν) : zOv g zm_X4_putTerm [.ref 193, .int (zJ v), .int (zJ (i : Int)), .int (zJ (k : Int))] μ φ := by
  have h1 := hT.1
  obtain ⟨_, a2⟩ := zdgt_ok hv
  -- behind the number: x and its figure, y and its figure
  have tail : ∀ (S : List Int) (ν : zMu), zPf μ ν → S.length ≤ T.length + 4 → zLs (ν 193 2) (ν 196) S → ((S ++ zpy 120 i) ++ zpy 121 k = ztx T v i k) → (zR (i : Int)) ∧ (((i : Int) ≤ 0 → (zR (k : Int)) ∧ (((k : Int) ≤ 0 → φ ν) ∧ (0 < (k : Int) → zOv g zm_X4_putByte [.ref 193, .int (zJ 121)] ν (fun μ5 => zOv g zm_X4_putNumber [.ref 193, .int (zJ (k : Int))] μ5 (fun μ6 => φ μ6))))) ∧ (0 < (i : Int) → zOv g zm_X4_putByte [.ref 193, .int (zJ 120)] ν (fun μ7 => zOv g zm_X4_putNumber [.ref 193, .int (zJ (i : Int))] μ7 (fun μ8 => (zR (k : Int)) ∧ (((k : Int) ≤ 0 → φ μ8) ∧ (0 < (k : Int) → zOv g zm_X4_putByte [.ref 193, .int (zJ 121)] μ8 (fun μ10 => zOv g zm_X4_putNumber [.ref 193, .int (zJ (k : Int))] μ10 (fun μ11 => φ μ11)))))))) := fun S ν f hS L e => by
    have ytail : ∀ (S : List Int) (ν : zMu), zPf μ ν → S.length ≤ T.length + 6 → zLs (ν 193 2) (ν 196) S → (S ++ zpy 121 k = ztx T v i k) → (zR (k : Int)) ∧ (((k : Int) ≤ 0 → φ ν) ∧ (0 < (k : Int) → zOv g zm_X4_putByte [.ref 193, .int (zJ 121)] ν (fun μ5 => zOv g zm_X4_putNumber [.ref 193, .int (zJ (k : Int))] μ5 (fun μ6 => φ μ6)))) := fun S ν f hS L e => by
      unfold zpy at e
      refine ⟨by omega, fun q => ?_, fun q => ?_⟩
      · rw [if_pos (by omega), List.append_nil] at e
        exact h ν f (e ▸ L)
      · rw [if_neg (by omega)] at e
        refine ok_X4_putByte L (by omega) (fun ν2 f2 L2 => ok_X4_putDig (by omega) L2 (by rw [List.length_append]; simp; omega) (fun ν3 f3 L3 => h ν3 ((f.tr f2).tr f3) ?_))
        rw [List.append_assoc] at L3
        exact e ▸ L3
    refine ⟨by omega, fun q => ?_, fun q => ?_⟩
    · have e2 : S ++ zpy 121 k = ztx T v i k := by
        rw [← e]
        rw [show zpy 120 (i : Int) = [] by unfold zpy; rw [if_pos (by omega)], List.append_nil]
      exact ytail S ν f (by omega) L e2
    · refine ok_X4_putByte L (by omega) (fun ν2 f2 L2 => ok_X4_putDig (by omega) L2 (by rw [List.length_append]; simp; omega) (fun ν3 f3 L3 => ?_))
      rw [List.append_assoc] at L3
      refine ytail _ ν3 ((f.tr f2).tr f3) (by rw [List.length_append]; simp; omega) L3 ?_
      rw [← e]
      rw [show zpy 120 (i : Int) = [120, 48 + (i : Int)] by unfold zpy; rw [if_neg (by omega)]]
      rfl
  refine sg_X4_putTerm ⟨by omega, fun q => ?_, fun q => ?_⟩
  · refine ok_X4_putNumber hv hT (by omega) (fun ν f L => tail _ ν f (by rw [List.length_append]; omega) L ?_)
    unfold ztx
    rw [if_pos (by omega)]
  · refine ok_X4_putByte hT (by omega) (fun ν f L => ok_X4_putNumber hv L (by rw [List.length_append]; simp; omega) (fun ν2 f2 L2 => tail _ ν2 (f.tr f2) (by rw [List.length_append, List.length_append]; simp; omega) L2 ?_))
    unfold ztx
    rw [if_neg (by omega)]
theorem cx_write {φ : Int → zMu → Prop} (hw : zWF A) (hR : zRC A μ) (h : zHc φ μ (st_write A)) : zOi g zm_X10_write [.ref 0] μ φ := by
  have hp := zWF_p hw
  have hd8 := zWF_d hw
  obtain ⟨t1, t2⟩ := zRC_eq hR
  unfold st_write at h
  refine sg_X10_write (ok_X3_isMissing zc_3 (by omega) (fun m => ⟨by omega, fun _ => ?_, fun hc => absurd rfl hc⟩) (fun m => ⟨by omega, fun hc => absurd hc (by omega), fun _ => h.at (if_pos (by omega)) rfl hR (zKm.refl μ)⟩))
  have h0 : A 3 0 ≠ 0 := by omega
  rw [if_neg h0] at h
  have he := zWF_e9 hw h0
  obtain ⟨d, hdd⟩ : ∃ d : Nat, A 3 0 = d := ⟨(A 3 0).toNat, by omega⟩
  rw [hdd, Int.toNat_natCast] at h
  refine sg_X4_putDown zc_3 ?_
  rw [zup_nc (by omega), t1, hdd]
  have e4 : ∀ ν, zPf μ ν → ∀ t, t < 81 → ν 4 t = A 4 t := fun ν f t ht => by rw [f 4 (by omega) (by omega)]; exact t2 h0 t ht
  have e3 : ∀ ν, zPf μ ν → ν 3 1 = d := fun ν f => by rw [f 3 (by omega) (by omega), t1, hdd]
  have fin : ∀ ν (T : List Int), zPf μ ν → zLs (ν 193 2) (ν 196) T → T = zwt (A 4) d → φ (ν 193 2) ν := fun ν T f L e => by
    refine h.at (A' := _) rfl (by rw [L.1, e]) (zRC_p hR (fun i q1 q2 => (zup_nc q1).trans (zua_nc q2)) f ⟨?_, fun k hk => ?_⟩) (fun i hi => f i (by omega) (by omega))
    · rw [zup_eq, L.1, e]
    · rw [zup_eq] at hk
      rw [zup_nc (by omega), zua_eq, L.2 k (by rw [e]; omega), e]
  have outer : ∀ n : Nat, n ≤ d + 1 → ∀ (T : List Int) (ν : zMu), zPf μ ν → zLs (ν 193 2) (ν 196) T → T.length + 72 * n ≤ 648 → zwi (A 4) d n T = zwi (A 4) d (d + 1) [] → at_X4_putDown_10 g (fun μ4 => φ (μ4 193 2) μ4) 3 ((n : Int) - 1) ν := by
    intro n
    induction n with
    | zero =>
      intro _ T ν f L hl e
      have L1 := L.1
      refine sg_X4_putDown_10 zc_3 ⟨by omega, fun _ => ⟨by omega, fun q => ?_, fun q => ?_⟩, fun hc => absurd hc (by omega)⟩
      · refine fin ν T f L ?_
        unfold zwt
        rw [← e]
        exact (if_neg (show ¬ T.length = 0 by omega)).symm
      · have e0 : T = [] := List.eq_nil_of_length_eq_zero (by omega)
        subst e0
        refine ok_X4_putByte L (by simp) (fun ν2 f2 L2 => fin ν2 _ (f.tr f2) L2 ?_)
        unfold zwt
        rw [← e]
        exact (if_pos rfl).symm
    | succ n ih =>
      intro hn T ν f L hl e
      rw [show ((n + 1 : Nat) : Int) - 1 = (n : Int) by omega]
      have inner : ∀ m : Nat, m ≤ d + 1 → ∀ (T : List Int) (ν : zMu), zPf μ ν → zLs (ν 193 2) (ν 196) T → T.length + 8 * m + 72 * n ≤ 648 → zwi (A 4) d n (zwk (A 4) n m T) = zwi (A 4) d (d + 1) [] → at_X4_putDown_19 g (fun μ4 => φ (μ4 193 2) μ4) 3 (n : Int) ((m : Int) - 1) ν := by
        intro m
        induction m with
        | zero =>
          intro _ T ν f L hl e
          refine sg_X4_putDown_19 zc_3 ⟨by omega, fun _ => ?_, fun hc => absurd hc (by omega)⟩
          rw [show (n : Int) + -1 = (n : Int) - 1 by omega]
          exact ih (by omega) T ν f L (by omega) e
        | succ m ih2 =>
          intro hm T ν f L hl e
          have hem := he (9 * n + m) (by omega)
          rw [show ((m + 1 : Nat) : Int) - 1 = (m : Int) by omega]
          refine sg_X4_putDown_19 zc_3 ⟨by omega, fun hc => absurd hc (by omega), fun _ => ⟨by omega, ?_⟩⟩
          rw [show Int.toNat (9 * (n : Int) + (m : Int)) = 9 * n + m by omega, show 3 + 1 = 4 from rfl, e4 ν f _ (by omega), show (m : Int) + -1 = (m : Int) - 1 by omega]
          rw [zwk] at e
          refine ⟨by omega, fun z => ?_, fun z => ?_⟩
          · rw [if_pos z] at e
            exact ih2 (by omega) T ν f L (by omega) e
          · rw [if_neg z] at e
            refine ok_X4_putTerm hem (by omega) (by omega) L (by omega) (fun ν2 f2 L2 => ih2 (by omega) _ ν2 (f.tr f2) L2 ?_ e)
            have hlen : (ztx T (A 4 (9 * n + m)) n m).length ≤ T.length + 8 := by
              obtain ⟨_, a2⟩ := zdgt_ok hem
              obtain ⟨_, b2⟩ := zpy_ok (c := 120) (n := (n : Int)) (by omega) (by omega)
              obtain ⟨_, c2⟩ := zpy_ok (c := 121) (n := (m : Int)) (by omega) (by omega)
              have d1 : (if T.length = 0 then T else T ++ [43]).length ≤ T.length + 1 := by
                split
                · omega
                · rw [List.length_append]; simp
              unfold ztx
              rw [List.length_append, List.length_append, List.length_append]
              omega
            omega
      refine sg_X4_putDown_10 zc_3 ⟨by omega, fun hc => absurd hc (by omega), fun _ => ?_⟩
      rw [e3 ν f]
      have := inner (d + 1) (Nat.le_refl _) T ν f L (by omega) (by rw [zwi] at e; exact e)
      rw [show ((d + 1 : Nat) : Int) - 1 = (d : Int) by omega] at this
      exact this
  have := outer (d + 1) (Nat.le_refl _) [] (zup μ 193 2 0) (fun i q1 q2 => zup_nc q1) ⟨zup_eq, fun j hj => absurd hj (Nat.not_lt_zero _)⟩ (by simp; omega) rfl
  rw [show ((d + 1 : Nat) : Int) - 1 = (d : Int) by omega] at this
  exact this
/-- the model -/
def zPg (μ ν : zMu) : Prop := (∀ (i : Nat), i ≠ 203 → i ≠ 228 → ν i = μ i) ∧ ∀ (j : Nat), j ≠ 39 → ν 203 j = μ 203 j
theorem zPg.tr {μ ν ω : zMu} (h : zPg μ ν) (h2 : zPg ν ω) : zPg μ ω := ⟨fun i q1 q2 => (h2.1 i q1 q2).trans (h.1 i q1 q2), fun j q => (h2.2 j q).trans (h.2 j q)⟩
theorem zPg.K {μ ν : zMu} (h : zPg μ ν) : zKc μ ν := fun i hi => h.1 i (by omega) (by omega)
theorem ok_X11_writes {φ : zMu → Prop} {T : List Int} {v : Int} (hT : zLs (μ 203 39) (μ 228) T) (hl : T.length < 729) (h : ∀ ν, zPg μ ν → zLs (ν 203 39) (ν 228) (T ++ [v]) → φ ν) : zOv g zm_X11_writes [.ref 203, .int (zJ v)] μ φ := by
  have h1 := hT.1
  refine sg_X11_writes ⟨by omega, ?_⟩
  rw [zup_ne (μ := μ) (i := 228) (a := 203) (Or.inl (by omega))]
  exact h _ ⟨fun i q1 q2 => (zup_nc q1).trans (zup_nc q2), fun j hj => (zup_ne (Or.inr hj)).trans (zup_ne (Or.inl (by omega)))⟩ (zLs_app hT zup_eq (fun j => by
    rw [zup_ne (Or.inl (by omega))]
    by_cases e : j = (μ 203 39).toNat
    · rw [if_pos e, e, zup_eq]
    · rw [if_neg e, zup_ne (Or.inr e)]))
theorem ok_X11_writesNumber {φ : zMu → Prop} {T : List Int} {v : Int} (hv : 0 ≤ v ∧ v ≤ 999) (hT : zLs (μ 203 39) (μ 228) T) (hl : T.length + 3 ≤ 729) (h : ∀ ν, zPg μ ν → zLs (ν 203 39) (ν 228) (T ++ zdgt v) → φ ν) : zOv g zm_X11_writesNumber [.ref 203, .int (zJ v)] μ φ := by
  have t1 : v.tmod 10 = v % 10 := ztm hv.1
  have t2 : v.tdiv 10 = v / 10 := Int.tdiv_eq_ediv_of_nonneg hv.1
  have t3 : v.tdiv 100 = v / 100 := Int.tdiv_eq_ediv_of_nonneg hv.1
  have t4 : (v / 10).tmod 10 = v / 10 % 10 := ztm (by omega)
  unfold zdgt at h
  refine sg_X11_writesNumber ⟨by omega, fun q => ?_, fun q => ?_⟩
  · rw [if_neg (by omega), List.nil_append] at h
    refine ⟨fun q2 => ?_, fun q2 => ⟨by rw [t2]; omega, ?_⟩⟩
    · rw [if_neg (by omega), List.nil_append] at h
      rw [t1]
      exact ok_X11_writes hT (by omega) h
    · rw [if_pos (by omega)] at h
      rw [t2, t4, t1]
      refine ok_X11_writes hT (by omega) (fun ν f1 L1 => ok_X11_writes L1 (by rw [List.length_append]; simp; omega) (fun ν2 f2 L2 => h ν2 (f1.tr f2) ?_))
      rw [List.append_assoc] at L2
      exact L2
  · rw [if_pos (by omega), if_pos (by omega)] at h
    rw [t3]
    refine ok_X11_writes hT (by omega) (fun ν f1 L1 => ⟨fun q2 => absurd q2 (by omega), fun q2 => ⟨by rw [t2]; omega, ?_⟩⟩)
    rw [t2, t4, t1]
    refine ok_X11_writes L1 (by rw [List.length_append]; simp; omega) (fun ν2 f2 L2 => ok_X11_writes L2 (by rw [List.length_append, List.length_append]; simp; omega) (fun ν3 f3 L3 => h ν3 ((f1.tr f2).tr f3) ?_))
    rw [List.append_assoc, List.append_assoc] at L3
    exact L3
theorem ok_X11_writesPower {φ : zMu → Prop} {T : List Int} {c : Int} {n : Nat} (hn : n ≤ 8) (hT : zLs (μ 203 39) (μ 228) T) (hl : T.length + 2 ≤ 729) (h : ∀ ν, zPg μ ν → zLs (ν 203 39) (ν 228) (T ++ zpy c n) → φ ν) : zOv g zm_X11_writesPower [.ref 203, .int (zJ c), .int (zJ (n : Int))] μ φ := by
  unfold zpy at h
  refine sg_X11_writesPower ⟨by omega, fun q => ?_, fun q => ?_⟩
  · rw [if_pos (by omega), List.append_nil] at h
    exact h μ ⟨fun _ _ _ => rfl, fun _ _ => rfl⟩ hT
  · rw [if_neg (by omega)] at h
    refine ok_X11_writes hT (by omega) (fun ν f1 L1 => ok_X11_writes L1 (by rw [List.length_append]; simp; omega) (fun ν2 f2 L2 => h ν2 (f1.tr f2) ?_))
    rw [List.append_assoc] at L2
    exact L2
theorem mx_write {φ : Int → zMu → Prop} (hw : zWF A) (hR : zRM A μ) (h : zHm φ μ (st_write A)) : zOi g zm_X11_write [.ref 203] μ φ := by
  have hp := zWF_p hw
  have hd8 := zWF_d hw
  have t1 := zRM_d hR
  unfold st_write at h
  refine sg_X11_write ⟨by omega, fun m => ?_, fun m => h.at (if_pos (by omega)) rfl hR (zKc.refl μ)⟩
  have h0 : A 3 0 ≠ 0 := by omega
  rw [if_neg h0] at h
  have he := zWF_e9 hw h0
  obtain ⟨d, hdd⟩ : ∃ d : Nat, A 3 0 = d := ⟨(A 3 0).toNat, by omega⟩
  rw [hdd, Int.toNat_natCast] at h
  rw [zup_ne (Or.inr (by omega)), t1, hdd]
  -- only the paper changes: the rest of what the model holds stays; the paper it holds is any
  have keep : ∀ ν, zPg μ ν → zRM (zup (zua A 43 (ν 228)) 42 0 (ν 203 39)) ν := fun ν f => zRM_p hR (fun i q1 q2 => (zup_nc q1).trans (zua_nc q2)) (fun j q1 q2 => f.2 j q2) (fun i q1 q2 => f.1 i (by unfold zhM at q1; omega) q2) ⟨by rw [zup_eq], fun k _ => by rw [zup_nc (by omega), zua_eq]⟩
  have termAt : ∀ (ν : zMu) (i k : Nat) (φ' : Int → zMu → Prop), zPg μ ν → i ≤ d → k ≤ d → φ' (A 4 (9 * i + k)) ν → zOi g zm_X11_termAt [.ref 203, .int (zJ (i : Int)), .int (zJ (k : Int))] ν φ' := fun ν i k φ' f hi hk hφ => by
    have hq := zRM_e hR h0 i k (by omega) (by omega)
    have h4 : ν 203 4 = d := by rw [f.2 4 (by omega), t1, hdd]
    have hb9 : (d + 1) * i + k < 81 := (zIdx_p (w := 0) (by omega) (by omega) hi hk).2
    refine sg_X11_termAt ?_
    rw [h4]
    refine sg_X11_place ?_
    have ep : ((d : Int) + 1) * (i : Int) + (k : Int) = (((d + 1) * i + k : Nat) : Int) := by
      rw [Int.natCast_add, Int.natCast_mul, Int.natCast_add]; rfl
    rw [ep]
    refine ⟨by omega, ?_⟩
    rw [Int.toNat_natCast, f.1 207 (by omega) (by omega)]
    rw [hdd, Int.toNat_natCast] at hq
    rw [hq]
    exact hφ
  have fin : ∀ ν (T : List Int), zPg μ ν → zLs (ν 203 39) (ν 228) T → T = zwt (A 4) d → φ (ν 203 39) ν := fun ν T f L e => by
    refine h.at (A' := _) rfl (by rw [L.1, e]) (zRM_p hR (fun i q1 q2 => (zup_nc q1).trans (zua_nc q2)) (fun j q1 q2 => f.2 j q2) (fun i q1 q2 => f.1 i (by unfold zhM at q1; omega) q2) ⟨?_, fun k hk => ?_⟩) f.K
    · rw [zup_eq, L.1, e]
    · rw [zup_eq] at hk
      rw [zup_nc (by omega), zua_eq, L.2 k (by rw [e]; omega), e]
  have outer : ∀ n : Nat, n ≤ d + 1 → ∀ (T : List Int) (ν : zMu), zPg μ ν → zLs (ν 203 39) (ν 228) T → T.length + 72 * n ≤ 648 → zwi (A 4) d n T = zwi (A 4) d (d + 1) [] → at_X11_write_20 g φ ((n : Int) - 1) ν := by
    intro n
    induction n with
    | zero =>
      intro _ T ν f L hl e
      have L1 := L.1
      refine sg_X11_write_20 ⟨by omega, fun _ => ⟨by omega, fun q => ?_, fun q => ?_⟩, fun hc => absurd hc (by omega)⟩
      · refine fin ν T f L ?_
        unfold zwt
        rw [← e]
        exact (if_neg (show ¬ T.length = 0 by omega)).symm
      · have e0 : T = [] := List.eq_nil_of_length_eq_zero (by omega)
        subst e0
        refine ok_X11_writes L (by simp) (fun ν2 f2 L2 => fin ν2 _ (f.tr f2) L2 ?_)
        unfold zwt
        rw [← e]
        exact (if_pos rfl).symm
    | succ n ih =>
      intro hn T ν f L hl e
      rw [show ((n + 1 : Nat) : Int) - 1 = (n : Int) by omega]
      have inner : ∀ m : Nat, m ≤ d + 1 → ∀ (T : List Int) (ν : zMu), zPg μ ν → zLs (ν 203 39) (ν 228) T → T.length + 8 * m + 72 * n ≤ 648 → zwi (A 4) d n (zwk (A 4) n m T) = zwi (A 4) d (d + 1) [] → at_X11_write_29 g φ (n : Int) ((m : Int) - 1) ν := by
        intro m
        induction m with
        | zero =>
          intro _ T ν f L hl e
          refine sg_X11_write_29 ⟨by omega, fun _ => ?_, fun hc => absurd hc (by omega)⟩
          rw [show (n : Int) + -1 = (n : Int) - 1 by omega]
          exact ih (by omega) T ν f L (by omega) e
        | succ m ih2 =>
          intro hm T ν f L hl e
          have L1 := L.1
          have hem := he (9 * n + m) (by omega)
          rw [show ((m + 1 : Nat) : Int) - 1 = (m : Int) by omega]
          refine sg_X11_write_29 ⟨by omega, fun hc => absurd hc (by omega), fun _ => termAt ν n m _ f (by omega) (by omega) ?_⟩
          rw [show (m : Int) + -1 = (m : Int) - 1 by omega]
          rw [zwk] at e
          refine ⟨by omega, fun z => ?_, fun z => ?_⟩
          · rw [if_pos z] at e
            exact ih2 (by omega) T ν f L (by omega) e
          · rw [if_neg z] at e
            obtain ⟨_, a2⟩ := zdgt_ok hem
            obtain ⟨_, b2⟩ := zpy_ok (c := 120) (n := (n : Int)) (by omega) (by omega)
            obtain ⟨_, c2⟩ := zpy_ok (c := 121) (n := (m : Int)) (by omega) (by omega)
            have rest : ∀ (S : List Int) (ω : zMu), zPg μ ω → S.length ≤ T.length + 1 → zLs (ω 203 39) (ω 228) S → (((S ++ zdgt (A 4 (9 * n + m))) ++ zpy 120 n) ++ zpy 121 m = ztx T (A 4 (9 * n + m)) n m) → zOv g zm_X11_writesNumber [.ref 203, .int (zJ (A 4 (9 * n + m)))] ω (fun μ8 => zOv g zm_X11_writesPower [.ref 203, .int (zJ 120), .int (zJ (n : Int))] μ8 (fun μ9 => zOv g zm_X11_writesPower [.ref 203, .int (zJ 121), .int (zJ (m : Int))] μ9 (fun μ10 => at_X11_write_29 g φ (n : Int) ((m : Int) - 1) μ10))) := fun S ω fo hS LS es => by
              refine ok_X11_writesNumber hem LS (by omega) (fun ν2 f2 L2 => ok_X11_writesPower (by omega) L2 (by rw [List.length_append]; omega) (fun ν3 f3 L3 => ok_X11_writesPower (by omega) L3 (by rw [List.length_append, List.length_append]; omega) (fun ν4 f4 L4 => ?_)))
              rw [es] at L4
              refine ih2 (by omega) _ ν4 (((fo.tr f2).tr f3).tr f4) L4 ?_ e
              rw [← es, List.length_append, List.length_append, List.length_append]
              omega
            refine ⟨by omega, fun q => termAt ν n m _ f (by omega) (by omega) (rest T ν f (by omega) L ?_), fun q => ok_X11_writes L (by omega) (fun ν2 f2 L2 => termAt ν2 n m _ (f.tr f2) (by omega) (by omega) (rest _ ν2 (f.tr f2) (by rw [List.length_append]; simp) L2 ?_))⟩
            · unfold ztx
              rw [if_pos (by omega)]
            · unfold ztx
              rw [if_neg (by omega)]
      refine sg_X11_write_20 ⟨by omega, fun hc => absurd hc (by omega), fun _ => ?_⟩
      rw [f.2 4 (by omega), t1, hdd]
      have := inner (d + 1) (Nat.le_refl _) T ν f L (by omega) (by rw [zwi] at e; exact e)
      rw [show ((d + 1 : Nat) : Int) - 1 = (d : Int) by omega] at this
      exact this
  have := outer (d + 1) (Nat.le_refl _) [] (zup μ 203 39 0) ⟨fun i q1 q2 => zup_nc q1, fun j hj => zup_ne (Or.inr hj)⟩ ⟨zup_eq, fun j hj => absurd hj (Nat.not_lt_zero _)⟩ (by simp; omega) rfl
  rw [show ((d + 1 : Nat) : Int) - 1 = (d : Int) by omega] at this
  exact this
end WRT
