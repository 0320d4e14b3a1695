/-! READ: the model -/
section RDM
variable {g : zG} {μ ν A : zMu} {φ : Int → zMu → Prop}
/-- the model's tape at a place -/
def zTq (A μ ν : zMu) (p : Nat) : Prop := (∀ (i : Nat), i ≠ 203 → ν i = μ i) ∧ (∀ (j : Nat), j ≠ 32 → ν 203 j = μ 203 j) ∧ ν 203 32 = (p : Int) ∧ μ 203 31 = A 40 0 ∧ (∀ (k : Nat), (k : Int) < A 40 0 → μ 223 k = A 41 k) ∧ (p : Int) ≤ A 40 0
theorem zTq_to {p q : Nat} (h : zTq A μ ν p) (h4 : (q : Int) ≤ A 40 0) : zTq A μ (zup ν 203 32 (q : Int)) q := ⟨fun i hi => (zup_nc hi).trans (h.1 i hi), fun j hj => (zup_ne (Or.inr hj)).trans (h.2.1 j hj), zup_eq, h.2.2.2.1, h.2.2.2.2.1, h4⟩
theorem ok_X11_here {p : Nat} (hw : zWF A) (h : zTq A μ ν p) (k : φ (zch A p) ν) : zOi g zm_X11_here [.ref 203] ν φ := by
  have hL := zWF_tp hw
  obtain ⟨h1, h2, h3, h4, h5, h6⟩ := h
  have e31 : ν 203 31 = A 40 0 := (h2 31 (by omega)).trans h4
  unfold zch at k
  refine sg_X11_here ⟨by omega, by omega, fun q => ?_, fun q => ⟨by omega, ?_⟩⟩
  · rw [if_neg (by omega)] at k; exact k
  · rw [if_pos (by omega)] at k
    rw [h3, Int.toNat_natCast, h1 223 (by omega), h5 p (by omega)]; exact k
theorem ok_X11_isFigure {p : Nat} (hw : zWF A) (h : zTq A μ ν p) (k1 : 48 ≤ zch A p ∧ zch A p ≤ 57 → φ 1 ν) (k0 : ¬ (48 ≤ zch A p ∧ zch A p ≤ 57) → φ 0 ν) : zOi g zm_X11_isFigure [.ref 203] ν φ := by
  have hb := zch_bd hw p
  exact sg_X11_isFigure (ok_X11_here hw h ⟨by omega, ok_X11_in (by omega) (by omega) (by omega) (fun q => ⟨Or.inr rfl, k1 q⟩) (fun q => ⟨Or.inl rfl, k0 q⟩)⟩)
/-- a letter and a figure: -1 is a fault -/
theorem ok_X11_readsPower {p : Nat} {c : Int} (hw : zWF A) (hc : 1 ≤ c ∧ c ≤ 127) (h : zTq A μ ν p) (k1 : ∀ i q, zex (zch A) c p = (some i, q) → ∀ ν', zTq A μ ν' q → φ (i : Int) ν') (k0 : ∀ q, zex (zch A) c p = (none, q) → ∀ ν', zTq A μ ν' q → φ (-1) ν') : zOi g zm_X11_readsPower [.ref 203, .int (zJ c)] ν φ := by
  have hL := zWF_tp hw
  have hb := zch_bd hw p
  have e32 := h.2.2.1
  refine sg_X11_readsPower (ok_X11_here hw h ⟨by omega, by omega, fun q => ?_, fun q => k1 0 p (zex_n q) ν h⟩)
  have hlt := zch_lt (A := A) (p := p) (by omega)
  rw [e32]
  have h1 : zTq A μ (zup ν 203 32 ((p : Int) + 1)) (p + 1) := zTq_to (q := p + 1) h (by omega)
  have hb1 := zch_bd hw (p + 1)
  refine ok_X11_here hw h1 ⟨by omega, ok_X11_in (by omega) (by omega) (by omega) (fun z => ⟨by omega, fun _ => ?_, fun hc => absurd hc (by omega)⟩) (fun z => ⟨by omega, fun hc => absurd rfl hc, fun _ => k0 _ (zex_b q z) _ h1⟩)⟩
  have hlt1 := zch_lt (A := A) (p := p + 1) (by omega)
  rw [zup_eq (μ := ν) (i := 203) (j := 32)]
  have h2 : zTq A μ (zup (zup ν 203 32 ((p : Int) + 1)) 203 32 ((p : Int) + 1 + 1)) (p + 2) := zTq_to (q := p + 2) h1 (by omega)
  rw [zup_eq]
  refine ⟨by omega, ?_⟩
  rw [show Int.toNat ((p : Int) + 1 + 1 - 1) = p + 1 by omega, h2.1 223 (by omega), h.2.2.2.2.1 (p + 1) (by omega)]
  have hz : zch A (p + 1) = A 41 (p + 1) := by
    unfold zch
    rw [if_pos hlt1]
  rw [← hz]
  have := k1 _ _ (zex_y q z) _ h2
  rw [show (((zch A (p + 1) - 48).toNat : Nat) : Int) = zch A (p + 1) - 48 by omega] at this
  exact this
theorem ok_X11_readsTerm {p gd : Nat} (hw : zWF A) (hT : zTq A μ ν p) (h0 : μ 203 0 = A 0 0) (hg : μ 203 37 = (gd : Int)) (hgb : gd ≤ 8) (hE : ∀ t, t < 81 → 0 ≤ μ 227 t ∧ μ 227 t < A 0 0)
    (k1 : ∀ v i k q, zte (zch A) p = (some (v, i, k), q) → ∀ ν', zTq A (zup (zup μ 203 37 ((max gd (max i k) : Nat) : Int)) 227 (9 * i + k) ((μ 227 (9 * i + k) + v) % A 0 0)) ν' q → φ 1 ν')
    (k0 : ∀ q, zte (zch A) p = (none, q) → ∀ ν', zTq A μ ν' q → φ 0 ν') : zOi g zm_X11_readsTerm [.ref 203] ν φ := by
  have hp := zWF_p hw
  have hL := zWF_tp hw
  refine sg_X11_readsTerm (ok_X11_isFigure hw hT (fun hd => ⟨by omega, fun _ => ?_, fun hc => absurd hc (by omega)⟩) (fun hd => ⟨by omega, fun hc => absurd rfl hc, fun _ => k0 p (by unfold zte; rw [if_neg hd]) ν hT⟩))
  have hn := znu_3 (ch := zch A) (p := p)
  have fin : ∀ (i k q : Nat) (ω : zMu), i ≤ 8 → k ≤ 8 → zTq A μ ω q → zte (zch A) p = (some ((znu (zch A) 3 0 p).1, i, k), q) →
      (zR (ω 203 37)) ∧ (zR (max (i : Int) (k : Int))) ∧ (0 ≤ 9 * (i : Int) + (k : Int) ∧ 9 * (i : Int) + (k : Int) < 81) ∧ (zR (((zup ω 203 37 (max (ω 203 37) (max (i : Int) (k : Int)))) 227 (Int.toNat (9 * (i : Int) + (k : Int)))) + (znu (zch A) 3 0 p).1)) ∧ (zR ((zup ω 203 37 (max (ω 203 37) (max (i : Int) (k : Int)))) 203 0)) ∧ (((zup ω 203 37 (max (ω 203 37) (max (i : Int) (k : Int)))) 203 0) ≠ 0) ∧ φ 1 (zup (zup ω 203 37 (max (ω 203 37) (max (i : Int) (k : Int)))) 227 (Int.toNat (9 * (i : Int) + (k : Int))) ((((zup ω 203 37 (max (ω 203 37) (max (i : Int) (k : Int)))) 227 (Int.toNat (9 * (i : Int) + (k : Int)))) + (znu (zch A) 3 0 p).1).tmod ((zup ω 203 37 (max (ω 203 37) (max (i : Int) (k : Int)))) 203 0))) := by
    intro i k q ω hi hk T e
    have e5 : ω 227 = μ 227 := T.1 227 (by omega)
    have e4 : ω 203 37 = (gd : Int) := by rw [T.2.1 37 (by omega)]; exact hg
    have e0 : ω 203 0 = A 0 0 := by rw [T.2.1 0 (by omega)]; exact h0
    have hb := hE (9 * i + k) (by omega)
    rw [show Int.toNat (9 * (i : Int) + (k : Int)) = 9 * i + k by omega, zup_ne (i := 203) (a := 227) (Or.inl (by omega)), zup_ne (i := 203) (a := 203) (b := 0) (Or.inr (by omega)), e4, e5, e0, ztm (by omega), show max (gd : Int) (max (i : Int) (k : Int)) = ((max gd (max i k) : Nat) : Int) by omega]
    refine ⟨by omega, by omega, by omega, by omega, by omega, by omega, k1 _ i k q e _ ⟨fun x hx => ?_, fun j hj => ?_, ?_, ?_, fun x hx => ?_, T.2.2.2.2.2⟩⟩
    · exact zup_cong ((zup_nc hx).trans ((T.1 x hx).trans (zup_nc hx).symm))
    · rw [zup_ne (i := 227) (a := 203) (Or.inl (by omega)), zup_ne (i := 227) (a := 203) (Or.inl (by omega))]
      by_cases ej : j = 37
      · rw [ej, zup_eq, zup_eq]
      · rw [zup_ne (Or.inr ej), zup_ne (Or.inr ej)]; exact T.2.1 j hj
    · rw [zup_ne (Or.inl (by omega)), zup_ne (Or.inr (by omega))]; exact T.2.2.1
    · rw [zup_ne (Or.inl (by omega)), zup_ne (Or.inr (by omega))]; exact T.2.2.2.1
    · rw [zup_ne (Or.inl (by omega)), zup_ne (Or.inl (by omega))]; exact T.2.2.2.2.1 x hx
  -- behind the number
  have tail : ∀ (ω : zMu), zTq A μ ω (znu (zch A) 3 0 p).2 → ∀ v, v = (znu (zch A) 3 0 p).1 → zOi g zm_X11_readsPower [.ref 203, .int (zJ 120)] ω (fun x3 μ2 => (zR x3) ∧ ((0 ≤ x3 → zOi g zm_X11_readsPower [.ref 203, .int (zJ 121)] μ2 (fun x6 μ5 => (zR x6) ∧ ((0 ≤ x6 → (zR (μ5 203 37)) ∧ (zR (max x3 x6)) ∧ (0 ≤ ((9 * x3) + x6) ∧ ((9 * x3) + x6) < 81) ∧ (zR (((zup μ5 203 37 (max (μ5 203 37) (max x3 x6))) 227 (Int.toNat ((9 * x3) + x6))) + v)) ∧ (zR ((zup μ5 203 37 (max (μ5 203 37) (max x3 x6))) 203 0)) ∧ (((zup μ5 203 37 (max (μ5 203 37) (max x3 x6))) 203 0) ≠ 0) ∧ φ 1 (zup (zup μ5 203 37 (max (μ5 203 37) (max x3 x6))) 227 (Int.toNat ((9 * x3) + x6)) ((((zup μ5 203 37 (max (μ5 203 37) (max x3 x6))) 227 (Int.toNat ((9 * x3) + x6))) + v).tmod ((zup μ5 203 37 (max (μ5 203 37) (max x3 x6))) 203 0)))) ∧ (x6 < 0 → φ 0 μ5)))) ∧ (x3 < 0 → φ 0 μ2))) := fun ω T v hv => by
    subst hv
    refine ok_X11_readsPower hw (by omega) T (fun i q z1 ω2 T2 => ?_) (fun q z1 ω2 T2 => ⟨by omega, fun hc => absurd hc (by omega), fun _ => k0 _ (zte_none1 hd z1) ω2 T2⟩)
    have hi := zex_ok z1
    refine ⟨by omega, fun _ => ok_X11_readsPower hw (by omega) T2 (fun k r z2 ω3 T3 => ?_) (fun r z2 ω3 T3 => ⟨by omega, fun hc => absurd hc (by omega), fun _ => k0 _ (zte_none2 hd z1 z2) ω3 T3⟩), fun hc => absurd hc (by omega)⟩
    have hk := zex_ok z2
    exact ⟨by omega, fun _ => fin i k r ω3 hi.1 hk.1 T3 (zte_some hd z1 z2), fun hc => absurd hc (by omega)⟩
  have loop : ∀ f n : Nat, n + f = 3 → ∀ (q : Nat) (v : Int) (ω : zMu), zTq A μ ω q → znu (zch A) f v q = znu (zch A) 3 0 p → at_X11_readsTerm_13 g φ v (n : Int) ω := by
    intro f
    induction f with
    | zero =>
      intro n hn q v ω T e
      rw [znu] at e
      refine sg_X11_readsTerm_13 ⟨by omega, fun _ => tail ω ?_ v ?_, fun hc => absurd hc (by omega)⟩
      · rw [← e]; exact T
      · rw [← e]
    | succ f ih =>
      intro n hn q v ω T e
      rw [znu] at e
      refine sg_X11_readsTerm_13 ⟨by omega, fun hc => absurd hc (by omega), fun _ => ok_X11_isFigure hw T (fun z => ⟨by omega, fun hc => absurd hc (by omega), fun _ => ok_X11_here hw T ?_⟩) (fun z => ⟨by omega, fun _ => ?_, fun hc => absurd rfl hc⟩)⟩
      · rw [if_pos z] at e
        have hlt := zch_lt (A := A) (p := q) (by omega)
        rw [T.2.2.1]
        have := ih (n + 1) (by omega) (q + 1) _ _ (zTq_to (q := q + 1) T (by omega)) e
        rw [Int.natCast_add, Int.natCast_add] at this
        exact this
      · rw [if_neg z] at e
        refine tail ω ?_ v ?_
        · rw [← e]; exact T
        · rw [← e]
  exact loop 3 0 rfl p 0 ν hT rfl
theorem mx_read (hw : zWF A) (hR : zRM A μ) (h : zHm φ μ (st_read A)) : zOi g zm_X11_read [.ref 203] μ φ := by
  have hp := zWF_p hw
  have hL := zWF_tp hw
  obtain ⟨t1, t2⟩ := hR.2.2.1
  obtain ⟨a00, a01, a10, a11⟩ := zand_x
  -- what stays
  have keepR : ∀ ν : zMu, (∀ (i : Nat), i ≠ 203 → i ≠ 227 → ν i = μ i) → (∀ (j : Nat), j ≠ 32 → j ≠ 37 → ν 203 j = μ 203 j) → zRM A ν := fun ν f f2 => zRM_s hR (fun j hj => f2 j (by unfold zhS at hj; omega) (by unfold zhS at hj; omega)) (fun i hi => f i (by unfold zhM at hi; omega) (by unfold zhM at hi; omega))
  have keep0 : ∀ ν : zMu, (∀ (i : Nat), i ≠ 203 → i ≠ 227 → ν i = μ i) → (∀ (j : Nat), j ≠ 32 → j ≠ 37 → ν 203 j = μ 203 j) → zRM (zt0 A) (zup ν 203 31 0) := fun ν f f2 => zRM_t (keepR ν f f2) (fun i i0 i1 => zup_nc i0) (fun j j1 j2 => zup_ne (Or.inr j2)) (fun i i1 i2 => zup_nc (by unfold zhM at i1; omega)) ⟨by unfold zt0; rw [zup_eq, zup_eq], fun k hk => by unfold zt0 at hk; rw [zup_eq] at hk; omega⟩
  unfold st_read at h
  -- no text
  have bad : ∀ (β ν : zMu) (p : Nat), zTq A β ν p → (∀ (i : Nat), i ≠ 203 → i ≠ 227 → β i = μ i) → (∀ (j : Nat), j ≠ 32 → j ≠ 37 → β 203 j = μ 203 j) → p = (zrd A).2.1 → ¬ ((zrd A).1 = true ∧ ((zrd A).2.1 : Int) = A 40 0) → φ (-100 - (zup ν 203 31 0 203 32)) (zup ν 203 31 0) := fun β ν p T f f2 e hn => by
    rw [if_neg hn] at h
    rw [zup_ne (Or.inr (by omega)), T.2.2.1, e]
    exact h _ (keep0 ν (fun i i1 i2 => (T.1 i i1).trans (f i i1 i2)) (fun j j1 j2 => (T.2.1 j j1).trans (f2 j j1 j2))) (fun i hi => (zup_nc (by omega)).trans ((T.1 i (by omega)).trans (f i (by omega) (by omega))))
  -- a text: it becomes the equation
  have good : ∀ (β ν : zMu), zTq A β ν (zrd A).2.1 → (∀ (i : Nat), i ≠ 203 → i ≠ 227 → β i = μ i) → (∀ (j : Nat), j ≠ 32 → j ≠ 37 → β 203 j = μ 203 j) → β 203 37 = ((zrd A).2.2.1 : Int) → (∀ t, t < 81 → β 227 t = (zrd A).2.2.2 t) → ((zrd A).1 = true ∧ ((zrd A).2.1 : Int) = A 40 0) → at_X11_read_113 g φ 0 (zup (zup ν 203 31 0) 203 4 ((zup ν 203 31 0) 203 37)) := fun β ν T f f2 e37 e227 hy => by
    have hEo := zrd_ok hw
    rw [if_pos hy] at h
    have n37 : ν 203 37 = ((zrd A).2.2.1 : Int) := by rw [T.2.1 37 (by omega)]; exact e37
    have n227 : ∀ t, t < 81 → ν 227 t = (zrd A).2.2.2 t := fun t ht => by rw [T.1 227 (by omega)]; exact e227 t ht
    have hR0 := keep0 ν (fun i i1 i2 => (T.1 i i1).trans (f i i1 i2)) (fun j j1 j2 => (T.2.1 j j1).trans (f2 j j1 j2))
    have hK0 : zKc μ (zup ν 203 31 0) := fun i hi => (zup_nc (by omega)).trans ((T.1 i (by omega)).trans (f i (by omega) (by omega)))
    rw [zup_ne (μ := ν) (b := 37) (Or.inr (by omega)), n37]
    generalize (zrd A).2.2.1 = d at h hEo
    generalize (zrd A).2.2.2 = E at h hEo n227
    have h : ∀ μ', zRM (zup (zua (zt0 A) 4 E) 3 0 (d : Int)) μ' → zKc μ μ' → φ (d : Int) μ' := h
    have hd := hEo.1
    generalize hω : zup ν 203 31 0 = ω at hR0 hK0
    have w227 : ω 227 = ν 227 := by rw [← hω]; exact zup_nc (by omega)
    -- the end: row 207 holds the text's terms
    have fin : ∀ R : Nat → Int, (∀ (i k : Nat), i ≤ d → k ≤ d → R ((d + 1) * i + k) = E (9 * i + k)) → φ (d : Int) (zua (zup ω 203 4 (d : Int)) 207 R) := fun R hRw => by
      have e3 : zup (zua (zt0 A) 4 E) 3 0 (d : Int) 3 0 = d := zup_eq
      have eo : ∀ (i : Nat), i ≠ 3 → i ≠ 4 → zup (zua (zt0 A) 4 E) 3 0 (d : Int) i = zt0 A i := fun i q1 q2 => (zup_nc q1).trans (zua_nc q2)
      have e4 : zup (zua (zt0 A) 4 E) 3 0 (d : Int) 4 = E := (zup_nc (by omega)).trans zua_row
      have fs : ∀ (j : Nat), j ≠ 4 → zua (zup ω 203 4 (d : Int)) 207 R 203 j = ω 203 j := fun j hj => (zua_ne (by omega)).trans (zup_ne (Or.inr hj))
      have fo : ∀ (i : Nat), i ≠ 203 → i ≠ 207 → zua (zup ω 203 4 (d : Int)) 207 R i = ω i := fun i i1 i2 => (zua_nc i2).trans (zup_nc i1)
      obtain ⟨n1, n2, n3, n4, n5⟩ := hR0.1
      simp only [Nat.zero_add] at n1 n2 n3 n4 n5
      refine h _ (zRM_n hR0 (fun i hi => eo i (by omega) (by omega)) (fun j _ _ j4 => fs j j4) (fun i hi h8 => fo i (by omega) (by omega)) ⟨?_, fun s' hs' => ?_, ?_, fun _ i k hi hk => ?_, fun q hq => ?_⟩) (fun i hi => (fo i (by omega) (by omega)).trans (hK0 i hi))
      · rw [eo 0 (by omega) (by omega), fs 0 (by omega)]; exact n1
      · simp only [Nat.zero_add]
        rw [eo 1 (by omega) (by omega), eo 2 (by omega) (by omega), eo (10 + s') (by omega) (by omega), fo 204 (by omega) (by omega), fo 205 (by omega) (by omega), fo 206 (by omega) (by omega)]; exact n2 s' hs'
      · simp only [Nat.zero_add]
        rw [e3, zua_ne (by omega), zup_eq]
      · simp only [Nat.zero_add] at hi hk ⊢
        rw [e3] at hi hk
        rw [e3, e4, Int.toNat_natCast, zua_eq]
        exact hRw i k (by omega) (by omega)
      · simp only [Nat.zero_add]
        rw [eo 5 (by omega) (by omega), eo 6 (by omega) (by omega), eo (20 + q) (by omega) (by omega), fo 208 (by omega) (by omega)]; exact n5 q hq
    have b9 : ∀ (i k : Nat), i ≤ d → k ≤ d → (d + 1) * i + k < 81 := fun i k hi hk => (zIdx_p (w := 0) (by omega) (by omega) hi hk).2
    have inj : ∀ (i k x y : Nat), k ≤ d → y ≤ d → (d + 1) * i + k = (d + 1) * x + y → i = x ∧ k = y := fun i k x y hk hy e => by
      rcases Nat.lt_trichotomy i x with q | q | q
      · have : (d + 1) * (i + 1) ≤ (d + 1) * x := Nat.mul_le_mul_left _ q
        rw [Nat.mul_add, Nat.mul_one] at this
        omega
      · subst q; omega
      · have : (d + 1) * (x + 1) ≤ (d + 1) * i := Nat.mul_le_mul_left _ q
        rw [Nat.mul_add, Nat.mul_one] at this
        omega
    have outer : ∀ m i : Nat, i + m = d + 1 → ∀ R : Nat → Int, (∀ (x y : Nat), x < i → y ≤ d → R ((d + 1) * x + y) = E (9 * x + y)) → at_X11_read_134 g φ (i : Int) (zua (zup ω 203 4 (d : Int)) 207 R) := by
      intro m
      induction m with
      | zero =>
        intro i hi R hRw
        have e4 : zua (zup ω 203 4 (d : Int)) 207 R 203 4 = (d : Int) := (zua_ne (by omega)).trans zup_eq
        refine sg_X11_read_134 ⟨by omega, by omega, fun _ => ?_, fun hc => absurd hc (by omega)⟩
        rw [e4]
        exact fin R (fun x y hx hy => hRw x y (by omega) hy)
      | succ m ih =>
        intro i hi R hRw
        have inner : ∀ m2 k : Nat, k + m2 = d + 1 → ∀ R : Nat → Int, (∀ (x y : Nat), x < i → y ≤ d → R ((d + 1) * x + y) = E (9 * x + y)) → (∀ y, y < k → R ((d + 1) * i + y) = E (9 * i + y)) → at_X11_read_144 g φ (i : Int) (k : Int) (zua (zup ω 203 4 (d : Int)) 207 R) := by
          intro m2
          induction m2 with
          | zero =>
            intro k hk R hRw hRk
            have e4 : zua (zup ω 203 4 (d : Int)) 207 R 203 4 = (d : Int) := (zua_ne (by omega)).trans zup_eq
            have := ih (i + 1) (by omega) R (fun x y hx hy => by
              by_cases e : x = i
              · rw [e]; exact hRk y (by omega)
              · exact hRw x y (by omega) hy)
            rw [Int.natCast_add] at this
            exact sg_X11_read_144 ⟨by omega, by omega, fun _ => this, fun hc => absurd hc (by omega)⟩
          | succ m2 ih2 =>
            intro k hk R hRw hRk
            have e4 : zua (zup ω 203 4 (d : Int)) 207 R 203 4 = (d : Int) := (zua_ne (by omega)).trans zup_eq
            have hbk := b9 i k (by omega) (by omega)
            refine sg_X11_read_144 ⟨by omega, by omega, fun hc => absurd hc (by omega), fun _ => sg_X11_place ?_⟩
            rw [e4, show ((d : Int) + 1) * (i : Int) + (k : Int) = (((d + 1) * i + k : Nat) : Int) by rw [Int.natCast_add, Int.natCast_mul, Int.natCast_add]; rfl]
            refine ⟨by omega, by omega, ?_⟩
            rw [Int.toNat_natCast, show Int.toNat (9 * (i : Int) + (k : Int)) = 9 * i + k by omega, zua_ne (a := 227) (by omega), zup_ne (μ := ω) (a := 227) (Or.inl (by omega)), w227, n227 _ (by omega), zup_zua]
            have := ih2 (k + 1) (by omega) (fun b => if b = (d + 1) * i + k then E (9 * i + k) else R b) (fun x y hx hy => by
              rw [if_neg (fun e => by
                have := (inj x y i k hy (by omega) e).1
                omega)]
              exact hRw x y hx hy) (fun y hy => by
              by_cases e : y = k
              · rw [e, if_pos rfl]
              · rw [if_neg (fun z => e (inj i y i k (by omega) (by omega) z).2)]
                exact hRk y (by omega))
            rw [Int.natCast_add] at this
            exact this
        have e4 : zua (zup ω 203 4 (d : Int)) 207 R 203 4 = (d : Int) := (zua_ne (by omega)).trans zup_eq
        exact sg_X11_read_134 ⟨by omega, by omega, fun hc => absurd hc (by omega), fun _ => inner (d + 1) 0 (by omega) R hRw (fun y hy => absurd hy (by omega))⟩
    have zero : ∀ m t : Nat, t + m = 81 → at_X11_read_113 g φ (t : Int) (zua (zup ω 203 4 (d : Int)) 207 (fun x => if x < t then 0 else ω 207 x)) := by
      intro m
      induction m with
      | zero =>
        intro t ht
        exact sg_X11_read_113 ⟨by omega, fun _ => outer (d + 1) 0 (by omega) _ (fun x y hx _ => absurd hx (by omega)), fun hc => absurd hc (by omega)⟩
      | succ m ih =>
        intro t ht
        refine sg_X11_read_113 ⟨by omega, fun hc => absurd hc (by omega), fun _ => ⟨by omega, ?_⟩⟩
        rw [Int.toNat_natCast, zup_zua, zua_congr (h := fun x => if x < t + 1 then 0 else ω 207 x) (fun x => by
          by_cases q : x = t
          · rw [if_pos q, if_pos (by omega)]
          · rw [if_neg q]
            by_cases q2 : x < t
            · rw [if_pos q2, if_pos (by omega)]
            · rw [if_neg q2, if_neg (by omega)])]
        have := ih (t + 1) (by omega)
        rw [Int.natCast_add] at this
        exact this
    have k0 := zero 81 0 (by omega)
    rw [zua_self (fun x => by rw [if_neg (by omega), zup_ne (Or.inl (by omega))])] at k0
    exact k0
  have loop : ∀ f n : Nat, n + f = 101 → ∀ (p gd : Nat) (E : Nat → Int) (β ν : zMu), zTq A β ν p → (∀ (i : Nat), i ≠ 203 → i ≠ 227 → β i = μ i) → (∀ (j : Nat), j ≠ 32 → j ≠ 37 → β 203 j = μ 203 j) → β 203 37 = (gd : Int) → (∀ t, t < 81 → β 227 t = E t) → zEo (A 0 0) gd E → 2 * n ≤ p → zpse (zch A) (A 0 0) f E gd p = zrd A → zOi g zm_X11_readsTerm [.ref 203] ν (fun x14 μ13 => at_X11_read_36 g φ x14 μ13) := by
    intro f
    induction f with
    | zero =>
      intro n hn p gd E β ν T _ _ _ _ _ h2
      have := T.2.2.2.2.2
      omega
    | succ f ih =>
      intro n hn p gd E β ν T fβ f2 e4 e5 hEo h2 e
      refine ok_X11_readsTerm hw T (by rw [f2 0 (by omega) (by omega)]; exact zRM_p0 hR) e4 hEo.1.2 (fun t ht => by rw [e5 t ht]; exact hEo.2.1 t ht) (fun v i k q ez ν' T' => ?_) (fun q ez ν' T' => ?_)
      · have hz := zte_ok ez
        have hadd := zEo_add (v := v) (show 0 < A 0 0 by omega) hEo hz.2.2.1 hz.2.2.2.1
        generalize hβ' : zup (zup β 203 37 ((max gd (max i k) : Nat) : Int)) 227 (9 * i + k) ((β 227 (9 * i + k) + v) % A 0 0) = β' at T'
        have fβ' : ∀ (x : Nat), x ≠ 203 → x ≠ 227 → β' x = μ x := fun x x1 x2 => by rw [← hβ']; exact (zup_nc x2).trans ((zup_nc x1).trans (fβ x x1 x2))
        have f2' : ∀ (j : Nat), j ≠ 32 → j ≠ 37 → β' 203 j = μ 203 j := fun j j1 j2 => by rw [← hβ']; exact (zup_ne (Or.inl (by omega))).trans ((zup_ne (Or.inr j2)).trans (f2 j j1 j2))
        have e4' : β' 203 37 = ((max gd (max i k) : Nat) : Int) := by rw [← hβ', zup_ne (Or.inl (by omega)), zup_eq]
        have e5' : ∀ t, t < 81 → β' 227 t = if t = 9 * i + k then (E t + v) % A 0 0 else E t := fun t ht => by
          rw [← hβ']
          by_cases q : t = 9 * i + k
          · rw [q, zup_eq, if_pos rfl, e5 _ (by omega)]
          · rw [zup_ne (Or.inr q), if_neg q, zup_ne (Or.inl (by omega)), e5 t ht]
        rw [zpse, ez] at e
        dsimp only at e
        have hb := zch_bd hw q
        refine sg_X11_read_36 ⟨by omega, fun hc => absurd hc (by omega), fun _ => ok_X11_here hw T' ⟨by omega, fun hx => ?_, fun hx => ?_⟩⟩
        · rw [if_neg hx] at e
          have e32 := T'.2.2.1
          have e31 : ν' 203 31 = A 40 0 := (T'.2.1 31 (by omega)).trans T'.2.2.2.1
          rw [a10, a11]
          have hle := T'.2.2.2.2.2
          refine ⟨by omega, by omega, fun z => ⟨by omega, fun hc => absurd rfl hc, fun _ => bad β' ν' q T' fβ' f2' (by rw [← e]) (fun z2 => ?_)⟩, fun z => ⟨by omega, fun _ => ?_, fun hc => absurd hc (by omega)⟩⟩
          · rw [← e] at z2
            have := z2.2
            dsimp only at this
            omega
          · have hy : (zrd A).1 = true ∧ ((zrd A).2.1 : Int) = A 40 0 := by
              rw [← e]
              exact ⟨rfl, by dsimp only; omega⟩
            exact good β' ν' (by rw [← e]; exact T') fβ' f2' (by rw [← e]; exact e4') (by rw [← e]; exact e5') hy
        · rw [if_pos hx] at e
          have hlt := zch_lt (A := A) (p := q) (by omega)
          rw [T'.2.2.1]
          exact ih (n + 1) (by omega) (q + 1) _ _ β' _ (zTq_to (q := q + 1) T' (by omega)) fβ' f2' e4' e5' hadd (by omega) e
      · rw [zpse, ez] at e
        dsimp only at e
        have e32 := T'.2.2.1
        have e31 : ν' 203 31 = A 40 0 := (T'.2.1 31 (by omega)).trans T'.2.2.2.1
        have hle := T'.2.2.2.2.2
        have hn : ¬ ((zrd A).1 = true ∧ ((zrd A).2.1 : Int) = A 40 0) := fun z2 => by
          rw [← e] at z2
          exact absurd z2.1 (by simp)
        refine sg_X11_read_36 ⟨by omega, fun _ => ?_, fun hc => absurd rfl hc⟩
        rw [a00, a01]
        exact ⟨by omega, by omega, fun z => ⟨by omega, fun hc => absurd rfl hc, fun _ => bad β ν' q T' fβ f2 (by rw [← e]) hn⟩, fun z => ⟨by omega, fun hc => absurd rfl hc, fun _ => bad β ν' q T' fβ f2 (by rw [← e]) hn⟩⟩
  have zero : ∀ m t : Nat, t + m = 81 → at_X11_read_12 g φ (t : Int) (zua (zup (zup μ 203 32 0) 203 37 1) 227 (fun x => if x < t then 0 else μ 227 x)) := by
    intro m
    induction m with
    | zero =>
      intro t ht
      have et : t = 81 := by omega
      subst et
      refine sg_X11_read_12 ⟨by omega, fun _ => ?_, fun hc => absurd hc (by omega)⟩
      refine loop 101 0 (by omega) 0 1 (fun _ => 0) (zua (zup (zup μ 203 32 0) 203 37 1) 227 (fun x => if x < 81 then 0 else μ 227 x)) _ ⟨fun _ _ => rfl, fun _ _ => rfl, ?_, ?_, fun k hk => ?_, by omega⟩ (fun i i1 i2 => (zua_nc i2).trans ((zup_nc i1).trans (zup_nc i1))) (fun j j1 j2 => (zua_ne (by omega)).trans ((zup_ne (Or.inr j2)).trans (zup_ne (Or.inr j1)))) ?_ (fun t ht => ?_) ⟨by omega, fun _ _ => ⟨Int.le_refl _, show (0 : Int) < A 0 0 by omega⟩, fun _ _ _ _ _ => rfl⟩ (by omega) rfl
      · rw [zua_ne (by omega), zup_ne (Or.inr (by omega)), zup_eq]; rfl
      · rw [zua_ne (by omega), zup_ne (Or.inr (by omega)), zup_ne (Or.inr (by omega))]; exact t1
      · rw [zua_ne (by omega), zup_ne (Or.inl (by omega)), zup_ne (Or.inl (by omega))]; exact t2 k hk
      · rw [zua_ne (by omega), zup_eq]; rfl
      · rw [zua_eq, if_pos ht]
    | succ m ih =>
      intro t ht
      refine sg_X11_read_12 ⟨by omega, fun hc => absurd hc (by omega), fun _ => ⟨by omega, ?_⟩⟩
      rw [Int.toNat_natCast, zup_zua, zua_congr (h := fun x => if x < t + 1 then 0 else μ 227 x) (fun x => by
        by_cases q : x = t
        · rw [if_pos q, if_pos (by omega)]
        · rw [if_neg q]
          by_cases q2 : x < t
          · rw [if_pos q2, if_pos (by omega)]
          · rw [if_neg q2, if_neg (by omega)])]
      have := ih (t + 1) (by omega)
      rw [Int.natCast_add] at this
      exact this
  have k0 := zero 81 0 (by omega)
  rw [zua_self (fun x => by rw [if_neg (by omega), zup_ne (Or.inl (by omega)), zup_ne (Or.inl (by omega))])] at k0
  exact sg_X11_read k0
end RDM
