/-! READ: the class -/
section RDC
variable {g : zG} {μ ν A : zMu} {φ : Int → zMu → Prop}
theorem zup_cong {μ ν : zMu} {a b i : Nat} {v : Int} (h : ν i = μ i) : zup ν a b v i = zup μ a b v i := by
  funext j
  unfold zup
  rw [h]
theorem zex_y {ch : Nat → Int} {c : Int} {p : Nat} (h : ch p = c) (h2 : 49 ≤ ch (p + 1) ∧ ch (p + 1) ≤ 56) : zex ch c p = (some (ch (p + 1) - 48).toNat, p + 2) := by
  unfold zex
  rw [if_pos h, if_pos h2]
theorem zex_b {ch : Nat → Int} {c : Int} {p : Nat} (h : ch p = c) (h2 : ¬ (49 ≤ ch (p + 1) ∧ ch (p + 1) ≤ 56)) : zex ch c p = (none, p + 1) := by
  unfold zex
  rw [if_pos h, if_neg h2]
theorem zex_n {ch : Nat → Int} {c : Int} {p : Nat} (h : ch p ≠ c) : zex ch c p = (some 0, p) := by
  unfold zex
  rw [if_neg h]
/-- a term, from its parts -/
theorem zte_none1 {ch : Nat → Int} {p q : Nat} (hd : 48 ≤ ch p ∧ ch p ≤ 57) (h : zex ch 120 (znu ch 3 0 p).2 = (none, q)) : zte ch p = (none, q) := by
  unfold zte
  rw [if_pos hd, h]
theorem zte_none2 {ch : Nat → Int} {p q r i : Nat} (hd : 48 ≤ ch p ∧ ch p ≤ 57) (h : zex ch 120 (znu ch 3 0 p).2 = (some i, q)) (h2 : zex ch 121 q = (none, r)) : zte ch p = (none, r) := by
  unfold zte
  rw [if_pos hd, h]
  dsimp only
  rw [h2]
theorem zte_some {ch : Nat → Int} {p q r i k : Nat} (hd : 48 ≤ ch p ∧ ch p ≤ 57) (h : zex ch 120 (znu ch 3 0 p).2 = (some i, q)) (h2 : zex ch 121 q = (some k, r)) : zte ch p = (some ((znu ch 3 0 p).1, i, k), r) := by
  unfold zte
  rw [if_pos hd, h]
  dsimp only
  rw [h2]
theorem ok_X4_parseTerm {p gd : Nat} (hw : zWF A) (hT : zTpe A μ ν p) (hg : μ 194 1 = (gd : Int)) (hgb : gd ≤ 8) (hE : ∀ t, t < 81 → 0 ≤ μ 195 t ∧ μ 195 t < A 0 0)
    (k1 : ∀ v i k q, zte (zch A) p = (some (v, i, k), q) → ∀ ν', zTpe A (zup (zup μ 195 (9 * i + k) ((μ 195 (9 * i + k) + v) % A 0 0)) 194 1 ((max gd (max i k) : Nat) : Int)) ν' q → φ 1 ν')
    (k0 : ∀ q, zte (zch A) p = (none, q) → ∀ ν', zTpe A μ ν' q → φ 0 ν') : zOi g zm_X4_parseTerm [.ref 193, .ref 188, .int (zJ (A 0 0))] ν φ := by
  have hp := zWF_p hw
  refine sg_X4_parseTerm (ok_X8_acceptNumber hw hT (fun hd ν1 T1 n1 => ?_) (fun hd ν1 T1 => ⟨by omega, fun hc => absurd rfl hc, fun _ => k0 p (by unfold zte; rw [if_neg hd]) ν1 T1⟩))
  rw [n1]
  have hn := znu_3 (ch := zch A) (p := p)
  have fin : ∀ (i k q : Nat) (I K : Int) (ω : zMu), I = (i : Int) → K = (k : Int) → i ≤ 8 → k ≤ 8 → zTpe A μ ω q → zte (zch A) p = (some ((znu (zch A) 3 0 p).1, i, k), q) →
      (0 ≤ 9 * I + K ∧ 9 * I + K < 81) ∧ zR (ω 195 (Int.toNat (9 * I + K)) + (znu (zch A) 3 0 p).1) ∧ zR (A 0 0) ∧ A 0 0 ≠ 0 ∧ zR I ∧ zR K ∧ zR ((zup ω 195 (Int.toNat (9 * I + K)) ((ω 195 (Int.toNat (9 * I + K)) + (znu (zch A) 3 0 p).1).tmod (A 0 0))) 194 1) ∧ zR (max I K) ∧ φ 1 (zup (zup ω 195 (Int.toNat (9 * I + K)) ((ω 195 (Int.toNat (9 * I + K)) + (znu (zch A) 3 0 p).1).tmod (A 0 0))) 194 1 (max ((zup ω 195 (Int.toNat (9 * I + K)) ((ω 195 (Int.toNat (9 * I + K)) + (znu (zch A) 3 0 p).1).tmod (A 0 0))) 194 1) (max I K))) := by
    intro i k q I K ω eI eK hi hk T e
    subst eI
    subst eK
    have e5 : ω 195 = μ 195 := T.1 195 (by omega)
    have e4 : ω 194 1 = (gd : Int) := by rw [T.1 194 (by omega)]; exact hg
    have hb := hE (9 * i + k) (by omega)
    rw [show Int.toNat (9 * (i : Int) + (k : Int)) = 9 * i + k by omega, zup_ne (i := 195) (a := 194) (Or.inl (by omega)), e4, e5, ztm (by omega), show max (gd : Int) (max (i : Int) (k : Int)) = ((max gd (max i k) : Nat) : Int) by omega]
    refine ⟨by omega, by omega, by omega, by omega, by omega, by omega, by omega, by omega, k1 _ i k q e _ ⟨fun x hx => zup_cong (zup_cong (T.1 x hx)), ?_, ?_, fun x hx => ?_, T.2.2.2.2⟩⟩
    · rw [zup_ne (Or.inl (by omega)), zup_ne (Or.inl (by omega))]; exact T.2.1
    · rw [zup_ne (Or.inl (by omega)), zup_ne (Or.inl (by omega))]; exact T.2.2.1
    · rw [zup_ne (Or.inl (by omega)), zup_ne (Or.inl (by omega))]; exact T.2.2.2.1 x hx
  generalize hp1 : (znu (zch A) 3 0 p).2 = p1 at T1
  refine ⟨by omega, fun _ => ok_X8_accept hw (by omega) T1 (fun hx ν2 T2 s2 => ⟨by omega, fun hc => absurd hc (by omega), fun _ => ?_⟩) (fun hx => ⟨by omega, fun _ => ?_, fun hc => absurd rfl hc⟩), fun hc => absurd hc (by omega)⟩
  · refine ok_X8_acceptExponent hw T2 (fun he ν3 T3 n3 => ⟨by omega, fun _ => ?_, fun hc => absurd hc (by omega)⟩) (fun he => ⟨by omega, fun hc => absurd rfl hc, fun _ => k0 _ (zte_none1 hd (by rw [hp1]; exact zex_b hx he)) ν2 T2⟩)
    have z1 : zex (zch A) 120 (znu (zch A) 3 0 p).2 = (some (zch A (p1 + 1) - 48).toNat, p1 + 2) := by rw [hp1]; exact zex_y hx he
    rw [n3]
    refine ok_X8_accept hw (by omega) T3 (fun hy ν4 T4 s4 => ⟨by omega, fun hc => absurd hc (by omega), fun _ => ?_⟩) (fun hy => ⟨by omega, fun _ => ?_, fun hc => absurd rfl hc⟩)
    · refine ok_X8_acceptExponent hw T4 (fun he2 ν5 T5 n5 => ⟨by omega, fun _ => ?_, fun hc => absurd hc (by omega)⟩) (fun he2 => ⟨by omega, fun hc => absurd rfl hc, fun _ => k0 _ (zte_none2 hd z1 (zex_b hy he2)) ν4 T4⟩)
      have he2 : 49 ≤ zch A (p1 + 2 + 1) ∧ zch A (p1 + 2 + 1) ≤ 56 := he2
      have n5 : ν5 188 3 = zch A (p1 + 2 + 1) - 48 := n5
      rw [n5]
      obtain ⟨r1, r2, r3, r4, r5, r6, r7, r8, r9⟩ := fin _ _ _ (zch A (p1 + 1) - 48) (zch A (p1 + 2 + 1) - 48) ν5 (by omega) (by omega) (by omega) (by omega) T5 (zte_some hd z1 (zex_y hy he2))
      exact ⟨r1, r2, r3, r4, r5, r6, r7, r8, r9⟩
    · obtain ⟨r1, r2, r3, r4, r5, r6, r7, r8, r9⟩ := fin _ _ _ (zch A (p1 + 1) - 48) 0 ν3 (by omega) (by omega) (by omega) (by omega) T3 (zte_some hd z1 (zex_n hy))
      exact ⟨r1, r2, r3, r4, r5, r7, r8, r9⟩
  · have z1 : zex (zch A) 120 (znu (zch A) 3 0 p).2 = (some 0, p1) := by rw [hp1]; exact zex_n hx
    refine ok_X8_accept hw (by omega) T1 (fun hy ν4 T4 s4 => ⟨by omega, fun hc => absurd hc (by omega), fun _ => ?_⟩) (fun hy => ⟨by omega, fun _ => ?_, fun hc => absurd rfl hc⟩)
    · refine ok_X8_acceptExponent hw T4 (fun he2 ν5 T5 n5 => ⟨by omega, fun _ => ?_, fun hc => absurd hc (by omega)⟩) (fun he2 => ⟨by omega, fun hc => absurd rfl hc, fun _ => k0 _ (zte_none2 hd z1 (zex_b hy he2)) ν4 T4⟩)
      rw [n5]
      obtain ⟨r1, r2, r3, r4, r5, r6, r7, r8, r9⟩ := fin _ _ _ 0 (zch A (p1 + 1) - 48) ν5 (by omega) (by omega) (by omega) (by omega) T5 (zte_some hd z1 (zex_y hy he2))
      exact ⟨r1, r2, r3, r4, r6, r7, r8, r9⟩
    · obtain ⟨r1, r2, r3, r4, r5, r6, r7, r8, r9⟩ := fin _ _ _ 0 0 ν1 (by omega) (by omega) (by omega) (by omega) T1 (zte_some hd z1 (zex_n hy))
      exact ⟨r1, r2, r3, r4, r7, r8, r9⟩
theorem ok_X4_parse (hw : zWF A) (hR : zRC A μ) (h : ∀ (x : Int) (ν β : zMu), zTpe A β ν (zrd A).2.1 → (∀ (i : Nat), i ≠ 188 → i ≠ 194 → i ≠ 195 → β i = μ i) → ((x = 1 ∧ ((zrd A).1 = true ∧ ((zrd A).2.1 : Int) = A 40 0) ∧ β 194 1 = ((zrd A).2.2.1 : Int) ∧ ∀ t, t < 81 → β 195 t = (zrd A).2.2.2 t) ∨ (x = 0 ∧ ¬ ((zrd A).1 = true ∧ ((zrd A).2.1 : Int) = A 40 0))) → φ x ν) : zOi g zm_X4_parse [.ref 193, .ref 188, .int (zJ (A 0 0))] μ φ := by
  have hp := zWF_p hw
  have hL := zWF_tp hw
  obtain ⟨t1, t2⟩ := hR.2.2.2.1
  -- the end of a text that has no fault before its end
  have fin : ∀ (β ν : zMu) (p gd : Nat) (E : Nat → Int) (φ2 : Int → zMu → Prop), zTpe A β ν p → (∀ (i : Nat), i ≠ 188 → i ≠ 194 → i ≠ 195 → β i = μ i) → β 194 1 = (gd : Int) → (∀ t, t < 81 → β 195 t = E t) → zrd A = (true, p, gd, E) → (∀ x ν, (x = 0 ∨ x = 1) → φ x ν → φ2 x ν) → zOi g zm_X8_isAtEnd [.ref 188] ν φ2 := fun β ν p gd E φ2 T f e4 e5 e hφ => by
    rw [e] at h
    have a1 := T.2.1
    have a2 := T.2.2.1
    refine sg_X8_isAtEnd ⟨by have := T.2.2.2.2; omega, by omega, fun q => hφ 0 ν (Or.inl rfl) (h 0 ν β T f (Or.inr ⟨rfl, fun z => ?_⟩)), fun q => hφ 1 ν (Or.inr rfl) (h 1 ν β T f (Or.inl ⟨rfl, ⟨rfl, ?_⟩, e4, e5⟩))⟩
    · have := z.2
      dsimp only at this
      omega
    · dsimp only
      omega
  have loop : ∀ f n : Nat, n + f = 101 → ∀ (p gd : Nat) (E : Nat → Int) (β ν : zMu), zTpe A β ν p → (∀ (i : Nat), i ≠ 188 → i ≠ 194 → i ≠ 195 → β i = μ i) → β 194 1 = (gd : Int) → (∀ t, t < 81 → β 195 t = E t) → zEo (A 0 0) gd E → 2 * n ≤ p → zpse (zch A) (A 0 0) f E gd p = zrd A → at_X4_parse_17 g φ (A 0 0) 1 (n : Int) ν := by
    intro f
    induction f with
    | zero =>
      intro n hn p gd E β ν T _ _ _ _ h2
      have := T.2.2.2.2
      omega
    | succ f ih =>
      intro n hn p gd E β ν T fβ e4 e5 hEo h2 e
      have hle := T.2.2.2.2
      refine sg_X4_parse_17 ⟨by omega, fun hc => absurd hc (by omega), fun _ => ⟨by omega, fun hc => absurd hc (by omega), fun _ => ?_⟩⟩
      refine ok_X4_parseTerm hw T e4 hEo.1.2 (fun t ht => by rw [e5 t ht]; exact hEo.2.1 t ht) (fun v i k q ez ν' T' => ⟨by omega, fun _ => ?_, fun hc => absurd hc (by omega)⟩) (fun q ez ν' T' => ⟨by omega, fun hc => absurd rfl hc, fun _ => ?_⟩)
      · have hz := zte_ok ez
        have hadd := zEo_add (v := v) (show 0 < A 0 0 by omega) hEo hz.2.2.1 hz.2.2.2.1
        have fβ' : ∀ (x : Nat), x ≠ 188 → x ≠ 194 → x ≠ 195 → zup (zup β 195 (9 * i + k) ((β 195 (9 * i + k) + v) % A 0 0)) 194 1 ((max gd (max i k) : Nat) : Int) x = μ x := fun x x0 x1 x2 => (zup_nc x1).trans ((zup_nc x2).trans (fβ x x0 x1 x2))
        have e5' : ∀ t, t < 81 → zup (zup β 195 (9 * i + k) ((β 195 (9 * i + k) + v) % A 0 0)) 194 1 ((max gd (max i k) : Nat) : Int) 195 t = if t = 9 * i + k then (E t + v) % A 0 0 else E t := fun t ht => by
          rw [zup_ne (Or.inl (by omega))]
          by_cases q : t = 9 * i + k
          · rw [q, zup_eq, if_pos rfl, e5 _ (by omega)]
          · rw [zup_ne (Or.inr q), if_neg q, e5 t ht]
        rw [zpse, ez] at e
        dsimp only at e
        refine ok_X8_accept hw (by omega) T' (fun hx ν2 T2 s2 => ?_) (fun hx => ?_)
        · rw [if_pos hx] at e
          have := ih (n + 1) (by omega) (q + 1) _ _ _ ν2 T2 fβ' zup_eq e5' hadd (by omega) e
          rw [Int.natCast_add] at this
          exact this
        · rw [if_neg hx] at e
          exact sg_X4_parse_17 ⟨by omega, fun _ => fin _ ν' q _ _ _ T' fβ' zup_eq e5' e.symm (fun x ν hx hφ => ⟨hx, hφ⟩), fun hc => absurd rfl hc⟩
      · rw [zpse, ez] at e
        dsimp only at e
        rw [← e] at h
        exact h 0 ν' β T' fβ (Or.inr ⟨rfl, fun z => absurd z.1 (by simp)⟩)
  refine sg_X4_parse (sg_X8_rewind (sg_X3_clear zc_194 (sg_J7_fill zc_195 ?_)))
  refine loop 101 0 (by omega) 0 1 (fun _ => 0) (zua (zup (zup μ 188 2 0) 194 1 1) 195 (fun b => if b < 81 then 0 else zup (zup μ 188 2 0) 194 1 1 195 b)) _ ⟨fun _ _ => rfl, ?_, ?_, fun k hk => ?_, by omega⟩ (fun i i0 i1 i2 => (zua_nc i2).trans ((zup_nc i1).trans (zup_nc i0))) ?_ (fun t ht => ?_) ⟨by omega, fun _ _ => ⟨Int.le_refl _, show (0 : Int) < A 0 0 by omega⟩, fun _ _ _ _ _ => rfl⟩ (by omega) rfl
  · rw [zua_ne (by omega), zup_ne (Or.inl (by omega)), zup_ne (Or.inr (by omega))]; exact t1
  · rw [zua_ne (by omega), zup_ne (Or.inl (by omega)), zup_eq]; rfl
  · rw [zua_ne (by omega), zup_ne (Or.inl (by omega)), zup_ne (Or.inl (by omega))]; exact t2 k hk
  · rw [zua_ne (by omega), zup_eq]; rfl
  · rw [zua_eq, if_pos ht]
theorem cx_read (hw : zWF A) (hR : zRC A μ) (h : zHc φ μ (st_read A)) : zOi g zm_X10_read [.ref 0] μ φ := by
  have hp := zWF_p hw
  refine sg_X10_read ?_
  rw [zRC_p0 hR]
  refine ok_X4_parse hw hR (fun x ν β T fβ hx => sg_X8_clear ?_)
  have fν : ∀ (i : Nat), i ≠ 188 → i ≠ 194 → i ≠ 195 → ν i = μ i := fun i i0 i1 i2 => (T.1 i i0).trans (fβ i i0 i1 i2)
  have hR1 : zRC A ν := zRC_s hR (fun i hi j hj => by
    by_cases e : i = 188
    · rw [e, hj e, T.2.1, hR.2.2.2.1.1]
    · rw [fν i e (by omega) (by omega)])
  have hR2 : zRC (zt0 A) (zup ν 188 1 0) := zRC_t hR1 (fun i i0 i1 => zup_nc i0) (fun i i0 i1 => zup_nc i0) ⟨by unfold zt0; rw [zup_eq, zup_eq], fun k hk => by unfold zt0 at hk; rw [zup_eq] at hk; omega⟩
  have hK2 : zKm μ (zup ν 188 1 0) := fun i hi => (zup_nc (by omega)).trans (fν i (by omega) (by omega) (by omega))
  unfold st_read at h
  rcases hx with ⟨rfl, hx, e4, e5⟩ | ⟨rfl, hx⟩
  · rw [if_pos hx] at h
    refine ⟨by omega, fun _ => ok_X3_copyFrom zc_3 zc_194 (sg_X2_forget (sg_J7_fill zc_183 ?_)), fun hc => absurd hc (by omega)⟩
    have n4 : ν 194 1 = ((zrd A).2.2.1 : Int) := by rw [T.1 194 (by omega)]; exact e4
    have n5 : ∀ t, t < 81 → ν 195 t = (zrd A).2.2.2 t := fun t ht => by rw [T.1 195 (by omega)]; exact e5 t ht
    generalize (zrd A).2.2.1 = d at h n4
    generalize (zrd A).2.2.2 = E at h n5
    have h : ∀ μ', zRC (zup (zua (zt0 A) 4 E) 3 0 (d : Int)) μ' → zKm μ μ' → φ (d : Int) μ' := h
    rw [zup_ne (μ := ν) (i := 188) (a := 194) (Or.inl (by omega)), n4]
    generalize hω : zua (zup (zup ν 188 1 0) 3 1 (d : Int)) (3 + 1) (fun k => if k < 81 then zup (zup ν 188 1 0) 3 1 (d : Int) (194 + 1) k else zup (zup ν 188 1 0) 3 1 (d : Int) (3 + 1) k) = ω
    have o3 : ω 3 1 = (d : Int) := by rw [← hω, zua_ne (by omega), zup_eq]
    have o4 : ∀ t, t < 81 → ω 4 t = E t := fun t ht => by
      rw [← hω, show (4 : Nat) = 3 + 1 from rfl, zua_eq, if_pos ht, zup_ne (Or.inl (by omega)), zup_ne (Or.inl (by omega))]
      exact n5 t ht
    have oo : ∀ (i : Nat), i ≠ 3 → i ≠ 4 → ω i = zup ν 188 1 0 i := fun i i3 i4 => by rw [← hω]; exact (zua_nc (by omega)).trans (zup_nc i3)
    have e3 : zup (zua (zt0 A) 4 E) 3 0 (d : Int) 3 0 = d := zup_eq
    have eo : ∀ (i : Nat), i ≠ 3 → i ≠ 4 → zup (zua (zt0 A) 4 E) 3 0 (d : Int) i = zt0 A i := fun i q1 q2 => (zup_nc q1).trans (zua_nc q2)
    have e4' : zup (zua (zt0 A) 4 E) 3 0 (d : Int) 4 = E := (zup_nc (by omega)).trans zua_row
    have fo : ∀ (i : Nat), i ≠ 3 → i ≠ 4 → i ≠ 183 → zua ω 183 (fun b => if b < 199 then -2 else ω 183 b) i = zup ν 188 1 0 i := fun i i3 i4 i5 => (zua_nc i5).trans (oo i i3 i4)
    obtain ⟨r1, r2, r3, r4⟩ := hR2.1
    have hd3 : zua ω 183 (fun b => if b < 199 then -2 else ω 183 b) 3 1 = (d : Int) := by rw [zua_ne (by omega)]; exact o3
    rw [hd3]
    refine h _ (zRC_n hR2 (fun i hi => eo i (by omega) (by omega)) (fun i hi => fo i (by omega) (by omega) (by omega)) ⟨?_, fun s' hs' => ?_, ?_, fun q hq => ?_⟩ (fun v hv => Or.inl ?_)) (fun i hi => (fo i (by omega) (by omega) (by omega)).trans (hK2 i hi))
    · rw [eo 0 (by omega) (by omega), fo 1 (by omega) (by omega) (by omega)]; exact r1
    · have := r2 s' hs'
      unfold zCs at this ⊢
      simp only [Nat.zero_add] at this ⊢
      rw [eo 1 (by omega) (by omega), eo 2 (by omega) (by omega), eo (10 + s') (by omega) (by omega), fo _ (by omega) (by omega) (by omega), fo (1 + 7 + 2 * s') (by omega) (by omega) (by omega)]; exact this
    · unfold zCe
      simp only [Nat.zero_add]
      rw [e3, e4', zua_nc (i := 183) (a := 1 + 2) (by omega), zua_nc (i := 183) (a := 1 + 3) (by omega)]
      exact ⟨o3, fun _ t ht => o4 t ht⟩
    · have := r4 q hq
      unfold zCk at this ⊢
      simp only [Nat.zero_add] at this ⊢
      rw [eo 5 (by omega) (by omega), eo 6 (by omega) (by omega), eo (20 + q) (by omega) (by omega), fo _ (by omega) (by omega) (by omega), fo (1 + 5) (by omega) (by omega) (by omega), fo (1 + 19 + 2 * q) (by omega) (by omega) (by omega)]; exact this
    · rw [zua_eq, if_pos hv]
  · rw [if_neg hx] at h
    refine ⟨by omega, fun hc => absurd rfl hc, fun _ => ?_⟩
    rw [T.2.2.1]
    exact h _ hR2 hK2
end RDC
