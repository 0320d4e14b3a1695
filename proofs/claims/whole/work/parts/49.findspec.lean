/-! FIND: the terms in their order, what find does -/
noncomputable def zdec (P : Prop) : Bool := @decide P (Classical.propDecidable P)
theorem zdec_iff {P : Prop} : zdec P = true ↔ P := @decide_eq_true_iff P (Classical.propDecidable P)
theorem zdec_f {P : Prop} (h : ¬ P) : zdec P = false := by
  cases e : zdec P with
  | false => rfl
  | true => exact absurd (zdec_iff.1 e) h
/-- the greatest k beside i; how many terms come before x^i -/
def zgT (w d i : Nat) : Nat := if w = 1 then i else d
def zbT (w d i : Nat) : Nat := if w = 1 then i * (i + 1) / 2 else (d + 1) * i
def zmT (w d : Nat) : Nat := zbT w d (d + 1)
/-- the term with a number; the number of a term -/
def zpT (w d c : Nat) : Nat × Nat := (((List.range 81).map (fun x => (x / 9, x % 9))).find? (fun q => Nat.beq (zbT w d q.1 + q.2) c && Nat.ble q.2 (zgT w d q.1) && Nat.ble q.1 d)).getD (0, 0)
def zxT (w d i k : Nat) : Nat := if w = 1 then zbT 1 d (max i k) + min i k else zbT 0 d i + k
theorem zT_next_b : (List.range 2).all (fun w => (List.range 9).all (fun d => (List.range 9).all (fun i => Nat.beq (zbT w d (i + 1)) (zbT w d i + zgT w d i + 1) && Nat.ble (zbT w d i) (zbT w d (i + 1))))) = true := by decide +kernel
theorem zT_next {w d i : Nat} (hw : w < 2) (hd : d < 9) (hi : i < 9) : zbT w d (i + 1) = zbT w d i + zgT w d i + 1 := by
  have h := List.all_eq_true.mp (List.all_eq_true.mp (List.all_eq_true.mp zT_next_b w (List.mem_range.mpr hw)) d (List.mem_range.mpr hd)) i (List.mem_range.mpr hi)
  simp only [Bool.and_eq_true, Nat.beq_eq] at h
  exact h.1
theorem zT_m_b : (List.range 2).all (fun w => (List.range 9).all (fun d => Nat.ble (zmT w d) 81 && Nat.beq (zbT w d 0) 0 && (List.range 9).all (fun i => Nat.blt d i || Nat.ble (zbT w d (i + 1)) (zmT w d)))) = true := by decide +kernel
theorem zT_m {w d : Nat} (hw : w < 2) (hd : d < 9) : zmT w d ≤ 81 ∧ zbT w d 0 = 0 ∧ ∀ i, i ≤ d → zbT w d (i + 1) ≤ zmT w d := by
  have h := List.all_eq_true.mp (List.all_eq_true.mp zT_m_b w (List.mem_range.mpr hw)) d (List.mem_range.mpr hd)
  simp only [Bool.and_eq_true, Nat.beq_eq, Nat.ble_eq] at h
  refine ⟨h.1.1, h.1.2, fun i hi => ?_⟩
  have h2 := List.all_eq_true.mp h.2 i (List.mem_range.mpr (by omega))
  simp only [Bool.or_eq_true, Nat.blt_eq, Nat.ble_eq] at h2
  omega
theorem zT_p_b : (List.range 2).all (fun w => (List.range 9).all (fun d => (List.range 9).all (fun i => (List.range 9).all (fun k => Nat.blt d i || Nat.blt (zgT w d i) k || (Nat.beq (zpT w d (zbT w d i + k)).1 i && Nat.beq (zpT w d (zbT w d i + k)).2 k))))) = true := by decide +kernel
theorem zT_p {w d i k : Nat} (hw : w < 2) (hd : d < 9) (hi : i ≤ d) (hk : k ≤ zgT w d i) : (zpT w d (zbT w d i + k)).1 = i ∧ (zpT w d (zbT w d i + k)).2 = k := by
  have hk9 : k < 9 := by unfold zgT at hk; split at hk <;> omega
  have h := List.all_eq_true.mp (List.all_eq_true.mp (List.all_eq_true.mp (List.all_eq_true.mp zT_p_b w (List.mem_range.mpr hw)) d (List.mem_range.mpr hd)) i (List.mem_range.mpr (by omega))) k (List.mem_range.mpr hk9)
  simp only [Bool.or_eq_true, Bool.and_eq_true, Nat.blt_eq, Nat.beq_eq] at h
  omega
theorem zT_c_b : (List.range 2).all (fun w => (List.range 9).all (fun d => (List.range 81).all (fun c => Nat.ble (zmT w d) c || (Nat.ble (zpT w d c).1 d && Nat.ble (zpT w d c).2 d && Nat.ble (zpT w d c).2 (zgT w d (zpT w d c).1) && Nat.beq (zxT w d (zpT w d c).1 (zpT w d c).2) c && (Nat.beq w 0 || Nat.beq (zxT w d (zpT w d c).2 (zpT w d c).1) c))))) = true := by decide +kernel
theorem zT_c {w d c : Nat} (hw : w < 2) (hd : d < 9) (hc : c < zmT w d) : (zpT w d c).1 ≤ d ∧ (zpT w d c).2 ≤ d ∧ zxT w d (zpT w d c).1 (zpT w d c).2 = c ∧ (w = 1 → zxT w d (zpT w d c).2 (zpT w d c).1 = c) := by
  have hm := (zT_m hw hd).1
  have h := List.all_eq_true.mp (List.all_eq_true.mp (List.all_eq_true.mp zT_c_b w (List.mem_range.mpr hw)) d (List.mem_range.mpr hd)) c (List.mem_range.mpr (by omega))
  simp only [Bool.or_eq_true, Bool.and_eq_true, Nat.ble_eq, Nat.beq_eq] at h
  rcases h with h | h
  · omega
  · refine ⟨h.1.1.1.1, h.1.1.1.2, h.1.2, fun e => ?_⟩
    rcases h.2 with q | q
    · omega
    · exact q
theorem zT_x_b : (List.range 2).all (fun w => (List.range 9).all (fun d => (List.range 9).all (fun i => (List.range 9).all (fun k => Nat.blt d i || Nat.blt d k || (Nat.blt (zxT w d i k) (zmT w d) && ((Nat.beq (zpT w d (zxT w d i k)).1 i && Nat.beq (zpT w d (zxT w d i k)).2 k) || (Nat.beq w 1 && Nat.beq (zpT w d (zxT w d i k)).1 k && Nat.beq (zpT w d (zxT w d i k)).2 i))))))) = true := by decide +kernel
theorem zT_x {w d i k : Nat} (hw : w < 2) (hd : d < 9) (hi : i ≤ d) (hk : k ≤ d) : zxT w d i k < zmT w d ∧ (((zpT w d (zxT w d i k)).1 = i ∧ (zpT w d (zxT w d i k)).2 = k) ∨ (w = 1 ∧ (zpT w d (zxT w d i k)).1 = k ∧ (zpT w d (zxT w d i k)).2 = i)) := by
  have h := List.all_eq_true.mp (List.all_eq_true.mp (List.all_eq_true.mp (List.all_eq_true.mp zT_x_b w (List.mem_range.mpr hw)) d (List.mem_range.mpr hd)) i (List.mem_range.mpr (by omega))) k (List.mem_range.mpr (by omega))
  simp only [Bool.or_eq_true, Bool.and_eq_true, Nat.blt_eq, Nat.beq_eq] at h
  rcases h with (h | h) | h
  · omega
  · omega
  · exact ⟨h.1, h.2.imp id (fun q => ⟨q.1.1, q.1.2, q.2⟩)⟩
/-- the column of a term, of both mirrored ones -/
def zC (A : zMu) (a b d w c t : Nat) : Int := if w = 1 ∧ (zpT w d c).1 ≠ (zpT w d c).2 then (zqc A a b d (zpT w d c).1 (zpT w d c).2 t + zqc A a b d (zpT w d c).2 (zpT w d c).1 t) % A 0 0 else zqc A a b d (zpT w d c).1 (zpT w d c).2 t
theorem zC_bd {A : zMu} {a b d w c t : Nat} (hp : 0 < A 0 0) : 0 ≤ zC A a b d w c t ∧ zC A a b d w c t < A 0 0 := by
  unfold zC
  split
  · exact zemod_lt hp
  · exact zqc_bd hp
def zfC (A : zMu) (a b d w c : Nat) : Prop := zfr (A 0 0) (zkw A a b) (zC A a b d w) c
noncomputable def zfc (A : zMu) (a b d w m : Nat) : Int := zct (fun c => zdec (zfC A a b d w c)) m
def zSl (A : zMu) (a b d w F : Nat) (s : Nat → Int) : Prop := F < zmT w d ∧ zSol (A 0 0) (zkw A a b) (zC A a b d w) F s
/-- the polynomial -/
def zEq (w d : Nat) (s : Nat → Int) (t : Nat) : Int := if t / 9 ≤ d ∧ t % 9 ≤ d then s (zxT w d (t / 9) (t % 9)) else 0
noncomputable def zslv (A : zMu) (a b d w : Nat) : Nat → Int := @dite (Nat → Int) (∃ s : Nat → Int, ∃ F, zSl A a b d w F s) (Classical.propDecidable _) (fun h => Classical.choose h) (fun _ => fun _ => 0)
theorem zslv_eq {A : zMu} {a b d w F : Nat} {s : Nat → Int} (hP : zP (A 0 0)) (h : zSl A a b d w F s) : zslv A a b d w = s := by
  have hx : ∃ s : Nat → Int, ∃ F, zSl A a b d w F s := ⟨s, F, h⟩
  unfold zslv
  rw [dif_pos hx]
  obtain ⟨F', h'⟩ := Classical.choose_spec hx
  exact (zSol_eq hP h'.2 h.2).2
noncomputable def st_find (A : zMu) (a b d w : Int) : Int × zMu := if ¬ (0 ≤ a ∧ a < 6) ∨ ¬ (0 ≤ b ∧ b < 6) then (-1, A) else if ¬ (1 ≤ d ∧ d ≤ 8) ∨ ¬ (0 ≤ w ∧ w ≤ 1) then (-2, A) else if A 2 a.toNat = 0 ∨ A 2 b.toNat = 0 then (-11, A) else @ite (Int × zMu) (∃ s : Nat → Int, ∃ F, zSl A a.toNat b.toNat d.toNat w.toNat F s) (Classical.propDecidable _) (zfc A a.toNat b.toNat d.toNat w.toNat (zmT w.toNat d.toNat), zup (zua A 4 (zEq w.toNat d.toNat (zslv A a.toNat b.toNat d.toNat w.toNat))) 3 0 d) (-5, A)
theorem zEq_bd {A : zMu} {a b d w F : Nat} {s : Nat → Int} (h : zSl A a b d w F s) (hp : 0 < A 0 0) : zmodp (A 0 0) 81 (zEq w d s) := fun t _ => by
  unfold zEq
  split
  · exact h.2.2.2.1 _
  · omega
theorem wf_find {A : zMu} (hw : zWF A) (a b d w : Int) : zWF (st_find A a b d w).2 := by
  have hp := zWF_p hw
  unfold st_find
  by_cases h1 : ¬ (0 ≤ a ∧ a < 6) ∨ ¬ (0 ≤ b ∧ b < 6)
  · rw [if_pos h1]; exact hw
  · rw [if_neg h1]
    by_cases h2 : ¬ (1 ≤ d ∧ d ≤ 8) ∨ ¬ (0 ≤ w ∧ w ≤ 1)
    · rw [if_pos h2]; exact hw
    · rw [if_neg h2]
      by_cases h3 : A 2 a.toNat = 0 ∨ A 2 b.toNat = 0
      · rw [if_pos h3]; exact hw
      · rw [if_neg h3]
        by_cases h4 : ∃ s : Nat → Int, ∃ F, zSl A a.toNat b.toNat d.toNat w.toNat F s
        · rw [if_pos h4]
          obtain ⟨s, F, h⟩ := h4
          rw [zslv_eq hp.1 h]
          dsimp only
          have e3 : ∀ E, zup (zua A 4 E) 3 0 d 3 0 = d := fun E => zup_eq
          have eo : ∀ E (i : Nat), i ≠ 3 → i ≠ 4 → zup (zua A 4 E) 3 0 d i = A i := fun E i q1 q2 => (zup_nc q1).trans (zua_nc q2)
          have e4 : ∀ E, zup (zua A 4 E) 3 0 d 4 = E := fun E => (zup_nc (by omega)).trans zua_row
          obtain ⟨c1, c2, c3, c4, c5, c6⟩ := hw.1
          simp only [Nat.zero_add] at c1 c2 c3 c4 c5 c6
          refine zWF_n hw (fun i hi => eo _ i (by omega) (by omega)) ⟨?_, fun s' hs => ?_, ?_, fun _ => ?_, fun q hq => ?_, ?_⟩
          · rw [eo _ 0 (by omega) (by omega)]; exact c1
          · simp only [Nat.zero_add]
            rw [eo _ 0 (by omega) (by omega), eo _ 1 (by omega) (by omega), eo _ 2 (by omega) (by omega), eo _ (10 + s') (by omega) (by omega)]; exact c2 s' hs
          · simp only [Nat.zero_add]
            rw [e3]; omega
          · simp only [Nat.zero_add]
            rw [e4, e3, eo _ 0 (by omega) (by omega)]
            refine ⟨zEq_bd h (by omega), fun i k hi hk q => ?_⟩
            unfold zEq
            rw [if_neg (by omega)]
          · simp only [Nat.zero_add]
            rw [eo _ 5 (by omega) (by omega), eo _ 6 (by omega) (by omega), eo _ (20 + q) (by omega) (by omega)]; exact c5 q hq
          · simp only [Nat.zero_add]
            rw [eo _ 5 (by omega) (by omega)]; exact c6
        · rw [if_neg h4]; exact hw
