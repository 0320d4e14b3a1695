/-! FIND: the class's elimination -/
section FEL
variable {g : zG} {μ A : zMu}
/-- the matrix of a state -/
def zMtx (ν : zMu) (t j : Nat) : Int := ν (99 + t) j
theorem ok_X1_pivotRow {φ : Int → zMu → Prop} {n c r : Nat} (hn : n ≤ 80) (h7 : μ 97 7 = (n : Int)) (hc : c < 81) (hr : r ≤ n) (hb : ∀ t, t < n → zR (μ (99 + t) c)) (h : ∀ x : Int, ((x = -1 ∧ ∀ t, r ≤ t → t < n → μ (99 + t) c = 0) ∨ (∃ t : Nat, x = t ∧ r ≤ t ∧ t < n ∧ μ (99 + t) c ≠ 0)) → φ x μ) : zOi g zm_X1_pivotRow [.ref 97, .int (zJ (c : Int)), .int (zJ (r : Int))] μ φ := by
  have loop : ∀ f t : Nat, t + f = n → r ≤ t → (∀ s, r ≤ s → s < t → μ (99 + s) c = 0) → at_X1_pivotRow_2 g φ (c : Int) (t : Int) μ := by
    intro f
    induction f with
    | zero =>
      intro t ht hrt hz
      exact sg_X1_pivotRow_2 ⟨by omega, by omega, fun _ => h (-1) (Or.inl ⟨rfl, fun s h1 h2 => hz s h1 (by omega)⟩), fun hc => absurd hc (by omega)⟩
    | succ f ih =>
      intro t ht hrt hz
      refine sg_X1_pivotRow_2 ⟨by omega, by omega, fun hc => absurd hc (by omega), fun _ => ⟨by omega, by omega, ?_⟩⟩
      rw [Int.toNat_natCast, Int.toNat_natCast]
      refine ⟨hb t (by omega), fun z => ?_, fun z => h t (Or.inr ⟨t, rfl, hrt, by omega, z⟩)⟩
      have := ih (t + 1) (by omega) (by omega) (fun s h1 h2 => by
        by_cases e : s = t
        · rw [e]; exact z
        · exact hz s h1 (by omega))
      rw [Int.natCast_add] at this
      exact this
  exact sg_X1_pivotRow (loop (n - r) r (by omega) (Nat.le_refl _) (fun s h1 h2 => by omega))
theorem ok_X1_swapRows {φ : zMu → Prop} {m a b c : Nat} (ha : a < 80) (hb : b < 80) (hm : m ≤ 81) (hc : c ≤ m) (h6 : μ 97 6 = (m : Int)) (h : ∀ ν : zMu, (∀ (i : Nat), ¬ (99 ≤ i ∧ i ≤ 178) → ν i = μ i) → (∀ t j, t < 80 → ν (99 + t) j = if c ≤ j ∧ j < m then (if t = a then μ (99 + b) j else if t = b then μ (99 + a) j else μ (99 + t) j) else μ (99 + t) j) → φ ν) : zOv g zm_X1_swapRows [.ref 97, .int (zJ (a : Int)), .int (zJ (b : Int)), .int (zJ (c : Int))] μ φ := by
  have loop : a ≠ b → ∀ f j0 : Nat, j0 + f = m → c ≤ j0 → ∀ ν : zMu, (∀ (i : Nat), ¬ (99 ≤ i ∧ i ≤ 178) → ν i = μ i) → (∀ t j, t < 80 → ν (99 + t) j = if c ≤ j ∧ j < j0 then (if t = a then μ (99 + b) j else if t = b then μ (99 + a) j else μ (99 + t) j) else μ (99 + t) j) → at_X1_swapRows_9 g φ (a : Int) (b : Int) (j0 : Int) ν := by
    intro hab f
    induction f with
    | zero =>
      intro j0 hj hcj ν f1 f2
      have e : j0 = m := by omega
      subst e
      exact sg_X1_swapRows_9 ⟨by omega, by rw [f1 97 (by omega)]; omega, fun _ => h ν f1 f2, fun hc => absurd hc (by rw [f1 97 (by omega)]; omega)⟩
    | succ f ih =>
      intro j0 hj hcj ν f1 f2
      refine sg_X1_swapRows_9 ⟨by omega, by rw [f1 97 (by omega)]; omega, fun hc => absurd hc (by rw [f1 97 (by omega)]; omega), fun _ => ⟨by omega, by omega, by omega, ?_⟩⟩
      rw [Int.toNat_natCast, Int.toNat_natCast, Int.toNat_natCast]
      have := ih (j0 + 1) (by omega) (by omega) (zup (zup ν (99 + a) j0 (ν (99 + b) j0)) (99 + b) j0 (ν (99 + a) j0)) (fun i hi => (zup_nc (by omega)).trans ((zup_nc (by omega)).trans (f1 i hi))) (fun t j ht => by
        by_cases ej : j = j0
        · subst ej
          rw [if_pos (by omega)]
          by_cases eb : t = b
          · subst eb
            rw [zup_eq, if_neg (by omega), if_pos rfl, f2 a j ha, if_neg (by omega)]
          · rw [zup_ne (Or.inl (by omega))]
            by_cases ea : t = a
            · subst ea
              rw [zup_eq, if_pos rfl, f2 b j hb, if_neg (by omega)]
            · rw [zup_ne (Or.inl (by omega)), if_neg ea, if_neg eb, f2 t j ht, if_neg (by omega)]
        · rw [zup_ne (Or.inr ej), zup_ne (Or.inr ej), f2 t j ht]
          by_cases q : c ≤ j ∧ j < j0
          · rw [if_pos q, if_pos (show c ≤ j ∧ j < j0 + 1 by omega)]
          · rw [if_neg q, if_neg (show ¬ (c ≤ j ∧ j < j0 + 1) by omega)])
      rw [Int.natCast_add] at this
      exact this
  refine sg_X1_swapRows ⟨by omega, by omega, fun q => ?_, fun q => ?_⟩
  · exact loop (by omega) (m - c) c (by omega) (Nat.le_refl _) μ (fun _ _ => rfl) (fun t j ht => by rw [if_neg (by omega)])
  · have e : a = b := by omega
    subst e
    refine h μ (fun _ _ => rfl) (fun t j ht => ?_)
    by_cases e : t = a
    · subst e; split <;> simp
    · simp [e]
theorem ok_X1_scaleRow {φ : zMu → Prop} {m r c : Nat} {p : Int} (hP : zP p) (hr : r < 80) (hm : m ≤ 81) (hc : c < m) (h6 : μ 97 6 = (m : Int)) (h9 : μ 97 9 = p) (hb : ∀ j, j < m → 0 ≤ μ (99 + r) j ∧ μ (99 + r) j < p) (hne : μ (99 + r) c ≠ 0) (h : ∀ F : Nat → Int, (∀ j, F j = if c ≤ j ∧ j < m then μ (99 + r) j * zI p (μ (99 + r) c) % p else μ (99 + r) j) → φ (zua μ (99 + r) F)) : zOv g zm_X1_scaleRow [.ref 97, .int (zJ (r : Int)), .int (zJ (c : Int))] μ φ := by
  have hpb := zP_bd hP
  have hx := hb c hc
  obtain ⟨i1, i2, i3⟩ := zI_ok hP (x := μ (99 + r) c) (by omega) hx.2
  refine sg_X1_scaleRow ⟨by omega, by omega, ?_⟩
  rw [Int.toNat_natCast, Int.toNat_natCast, h9]
  refine ok_X10_inverse hP (by omega) hx.2 ?_
  have loop : ∀ f j0 : Nat, j0 + f = m → c ≤ j0 → at_X1_scaleRow_19 g φ (r : Int) (zI p (μ (99 + r) c)) (j0 : Int) (zua μ (99 + r) (fun j => if c ≤ j ∧ j < j0 then μ (99 + r) j * zI p (μ (99 + r) c) % p else μ (99 + r) j)) := by
    intro f
    induction f with
    | zero =>
      intro j0 hj hcj
      have e : j0 = m := by omega
      subst e
      exact sg_X1_scaleRow_19 ⟨by omega, by rw [zua_ne (by omega)]; omega, fun _ => h _ (fun j => rfl), fun hc => absurd hc (by rw [zua_ne (by omega)]; omega)⟩
    | succ f ih =>
      intro j0 hj hcj
      have hj0 := hb j0 (by omega)
      have hmul := zmul_bd hj0 ⟨i1, i2⟩ hpb.2
      refine sg_X1_scaleRow_19 ⟨by omega, by rw [zua_ne (by omega)]; omega, fun hc => absurd hc (by rw [zua_ne (by omega)]; omega), fun _ => ⟨by omega, by omega, ?_⟩⟩
      rw [Int.toNat_natCast, Int.toNat_natCast, zua_eq, if_neg (by omega), zua_ne (i := 99 + r) (a := 97) (by omega), h9]
      refine ⟨by omega, by omega, by omega, ?_⟩
      rw [ztm hmul.1, zup_zua, zua_congr (h := fun j => if c ≤ j ∧ j < j0 + 1 then μ (99 + r) j * zI p (μ (99 + r) c) % p else μ (99 + r) j) (fun j => by
        by_cases e : j = j0
        · rw [if_pos e, e, if_pos (show c ≤ j0 ∧ j0 < j0 + 1 by omega)]
        · rw [if_neg e]
          by_cases q : c ≤ j ∧ j < j0
          · rw [if_pos q, if_pos (show c ≤ j ∧ j < j0 + 1 by omega)]
          · rw [if_neg q, if_neg (show ¬ (c ≤ j ∧ j < j0 + 1) by omega)])]
      have := ih (j0 + 1) (by omega) (by omega)
      rw [Int.natCast_add] at this
      exact this
  have k0 := loop (m - c) c (by omega) (Nat.le_refl _)
  rw [zua_self (fun j => if_neg (by omega))] at k0
  exact k0
theorem ok_X1_clearBelow {φ : zMu → Prop} {n m r c : Nat} {p : Int} (hp : 2 ≤ p ∧ p ≤ 199) (hr : r < n) (hn : n ≤ 80) (hm : m ≤ 81) (hc : c < m) (h6 : μ 97 6 = (m : Int)) (h7 : μ 97 7 = (n : Int)) (h9 : μ 97 9 = p) (hb : ∀ t, t < n → ∀ j, j < m → 0 ≤ μ (99 + t) j ∧ μ (99 + t) j < p)
    (h : ∀ ν : zMu, (∀ (i : Nat), ¬ (99 + r < i ∧ i < 99 + n) → ν i = μ i) → (∀ t, r < t → t < n → ∀ j, j < m → ν (99 + t) j = if c ≤ j then (μ (99 + t) j + (p - μ (99 + t) c) * μ (99 + r) j) % p else μ (99 + t) j) → φ ν) : zOv g zm_X1_clearBelow [.ref 97, .int (zJ (r : Int)), .int (zJ (c : Int))] μ φ := by
  refine sg_X1_clearBelow ⟨by omega, ?_⟩
  rw [Int.toNat_natCast]
  have loop : ∀ f t0 : Nat, t0 + f = n → r < t0 → ∀ ν : zMu, (∀ (i : Nat), ¬ (99 + r < i ∧ i < 99 + t0) → ν i = μ i) → (∀ t, r < t → t < t0 → ∀ j, j < m → ν (99 + t) j = if c ≤ j then (μ (99 + t) j + (p - μ (99 + t) c) * μ (99 + r) j) % p else μ (99 + t) j) → at_X1_clearBelow_12 g φ (c : Int) (99 + r) (t0 : Int) ν := by
    intro f
    induction f with
    | zero =>
      intro t0 ht hrt ν f1 f2
      have e : t0 = n := by omega
      subst e
      exact sg_X1_clearBelow_12 (zcm (by omega)) ⟨by omega, by rw [f1 97 (by omega)]; omega, fun _ => h ν f1 f2, fun hc => absurd hc (by rw [f1 97 (by omega)]; omega)⟩
    | succ f ih =>
      intro t0 ht hrt ν f1 f2
      have ht0 : ν (99 + t0) = μ (99 + t0) := f1 _ (by omega)
      have hrr : ν (99 + r) = μ (99 + r) := f1 _ (by omega)
      have hx := hb t0 (by omega) c hc
      refine sg_X1_clearBelow_12 (zcm (by omega)) ⟨by omega, by rw [f1 97 (by omega)]; omega, fun hc => absurd hc (by rw [f1 97 (by omega)]; omega), fun _ => ⟨by omega, by omega, ?_⟩⟩
      rw [Int.toNat_natCast, Int.toNat_natCast, ht0, f1 97 (by omega), h9]
      refine ⟨by omega, fun z => ?_, fun z => ?_⟩
      · have := ih (t0 + 1) (by omega) (by omega) ν (fun i hi => f1 i (by omega)) (fun t h1 h2 j hj => by
          by_cases e : t = t0
          · rw [e, ht0]
            by_cases q : c ≤ j
            · have hy := hb r hr j hj
              have hw := hb t0 (by omega) j hj
              rw [if_pos q, z, Int.sub_zero, Int.add_mul_emod_self_left, Int.emod_eq_of_lt hw.1 hw.2]
            · rw [if_neg q]
          · exact f2 t h1 (by omega) j hj)
        rw [Int.natCast_add] at this
        exact this
      · have inner : ∀ f2' j0 : Nat, j0 + f2' = m → c ≤ j0 → at_X1_clearBelow_51 g φ (c : Int) (99 + r) (t0 : Int) (99 + t0) (p - μ (99 + t0) c) (j0 : Int) (zua ν (99 + t0) (fun j => if c ≤ j ∧ j < j0 then (μ (99 + t0) j + (p - μ (99 + t0) c) * μ (99 + r) j) % p else μ (99 + t0) j)) := by
          intro f2'
          induction f2' with
          | zero =>
            intro j0 hj hcj
            have e : j0 = m := by omega
            subst e
            refine sg_X1_clearBelow_51 (zcm (by omega)) (zcm (by omega)) ⟨by omega, by rw [zua_ne (by omega), f1 97 (by omega)]; omega, fun _ => ?_, fun hc => absurd hc (by rw [zua_ne (by omega), f1 97 (by omega)]; omega)⟩
            have := ih (t0 + 1) (by omega) (by omega) (zua ν (99 + t0) (fun j => if c ≤ j ∧ j < j0 then (μ (99 + t0) j + (p - μ (99 + t0) c) * μ (99 + r) j) % p else μ (99 + t0) j)) (fun i hi => (zua_nc (by omega)).trans (f1 i (by omega))) (fun t h1 h2 j hj => by
              by_cases e : t = t0
              · rw [e, zua_eq]
                by_cases q : c ≤ j
                · rw [if_pos ⟨q, hj⟩, if_pos q]
                · rw [if_neg (fun z => q z.1), if_neg q]
              · rw [zua_ne (by omega)]
                exact f2 t h1 (by omega) j hj)
            rw [Int.natCast_add] at this
            exact this
          | succ f2' ih2 =>
            intro j0 hj hcj
            have hy := hb r hr j0 (by omega)
            have hw := hb t0 (by omega) j0 (by omega)
            have hmul := zmul_bd (a := p - μ (99 + t0) c) (b := μ (99 + r) j0) (p := p) ⟨by omega, by omega⟩ hy hp.2
            refine sg_X1_clearBelow_51 (zcm (by omega)) (zcm (by omega)) ⟨by omega, by rw [zua_ne (by omega), f1 97 (by omega)]; omega, fun hc => absurd hc (by rw [zua_ne (by omega), f1 97 (by omega)]; omega), fun _ => ⟨by omega, ?_⟩⟩
            rw [Int.toNat_natCast, zua_eq, if_neg (by omega), zua_ne (i := 99 + t0) (a := 99 + r) (by omega), hrr, zua_ne (i := 99 + t0) (a := 97) (by omega), f1 97 (by omega), h9]
            refine ⟨by omega, by omega, by omega, ?_⟩
            rw [ztm (by omega), zup_zua, zua_congr (h := fun j => if c ≤ j ∧ j < j0 + 1 then (μ (99 + t0) j + (p - μ (99 + t0) c) * μ (99 + r) j) % p else μ (99 + t0) j) (fun j => by
              by_cases e : j = j0
              · rw [if_pos e, e, if_pos (show c ≤ j0 ∧ j0 < j0 + 1 by omega)]
              · rw [if_neg e]
                by_cases q : c ≤ j ∧ j < j0
                · rw [if_pos q, if_pos (show c ≤ j ∧ j < j0 + 1 by omega)]
                · rw [if_neg q, if_neg (show ¬ (c ≤ j ∧ j < j0 + 1) by omega)])]
            have := ih2 (j0 + 1) (by omega) (by omega)
            rw [Int.natCast_add] at this
            exact this
        have k0 := inner (m - c) c (by omega) (Nat.le_refl _)
        rw [zua_self (fun j => by rw [if_neg (by omega), ht0])] at k0
        exact k0
  have := loop (n - (r + 1)) (r + 1) (by omega) (by omega) μ (fun _ _ => rfl) (fun t h1 h2 => by omega)
  rw [Int.natCast_add] at this
  exact this
theorem ok_X1_eliminate {φ : Int → zMu → Prop} {n w d : Nat} {p : Int} {C : Nat → Nat → Int} (hP : zP p) (hn : n ≤ 80) (hm : zmT w d ≤ 81) (hT : zFt w d n p μ) (hM : ∀ t, t < n → ∀ j, j < zmT w d → zMtx μ t j = C j t) (hb : ∀ j t, 0 ≤ C j t ∧ C j t < p)
    (h : ∀ (ν : zMu) (r F : Nat), zFr μ ν → zFt w d n p ν → ν 97 8 = (F : Int) → zElM p n (zmT w d) C (zMtx ν) (zmT w d) r F → φ (r : Int) ν) : zOi g zm_X1_eliminate [.ref 97] μ φ := by
  have hpb := zP_bd hP
  have loop : ∀ f c : Nat, c + f = zmT w d → ∀ (ν : zMu) (r F : Nat), zFr μ ν → zFt w d n p ν → ν 97 8 = (F : Int) → zElM p n (zmT w d) C (zMtx ν) c r F → at_X1_eliminate_12 g φ (r : Int) (c : Int) ν := by
    intro f
    induction f with
    | zero =>
      intro c hc ν r F g1 g2 g3 g4
      have e6 := g2.2.2.1
      have hrc := g4.2.1
      have e : c = zmT w d := by omega
      rw [e] at g4
      exact sg_X1_eliminate_12 ⟨by omega, by omega, fun _ => h ν r F g1 g2 g3 g4, fun hc => absurd hc (by omega)⟩
    | succ f ih =>
      intro c hc ν r F g1 g2 g3 g4
      obtain ⟨e4, e5, e6, e7, e9, e17⟩ := g2
      have g2 : zFt w d n p ν := ⟨e4, e5, e6, e7, e9, e17⟩
      have hrc := g4.2.1
      have hbd := g4.1
      refine sg_X1_eliminate_12 ⟨by omega, by omega, fun hc => absurd hc (by omega), fun _ => ok_X1_pivotRow hn e7 (by omega) hrc.1 (fun t ht => by have := hbd t ht c (by omega); unfold zMtx at this; omega) (fun x hx => ?_)⟩
      have hF : F ≤ 81 := by
        rcases g4.2.2.2.2.2.2 with ⟨q, _⟩ | ⟨q, _⟩ <;> omega
      rcases hx with ⟨rfl, hz⟩ | ⟨t0, rfl, h1, h2, h3⟩
      · refine ⟨by omega, fun hc => absurd hc (by omega), fun _ => ⟨by omega, ?_⟩⟩
        rw [g3, show min (F : Int) (c : Int) = ((min F c : Nat) : Int) by omega]
        have := ih (c + 1) (by omega) (zup ν 97 8 ((min F c : Nat) : Int)) r (min F c) (g1.tr (fun i hi => zup_nc (by omega))) (zFt_keep g2 (fun j hj => zup_ne (Or.inr hj)) (zup_nc (by omega)) (zup_nc (by omega))) zup_eq (by
          have e : zMtx (zup ν 97 8 ((min F c : Nat) : Int)) = zMtx ν := funext fun t => funext fun j => zup_ne (Or.inl (by omega))
          rw [e]
          exact zEl_free g4 (by omega) hz)
        rw [Int.natCast_add] at this
        exact this
      · refine ⟨by omega, fun _ => ?_, fun hc => absurd hc (by omega)⟩
        have b0 := hbd t0 h2
        unfold zMtx at b0
        refine ok_X1_swapRows (m := zmT w d) (a := t0) (b := r) (c := c) (by omega) (by omega) hm (by omega) e6 (fun ν1 s1 s2 => ?_)
        have rowr : ∀ j, j < zmT w d → c ≤ j → ν1 (99 + r) j = ν (99 + t0) j := fun j hj hcj => by
          rw [s2 r j (by omega), if_pos ⟨hcj, hj⟩]
          by_cases e : r = t0
          · rw [if_pos e, e]
          · rw [if_neg e, if_pos rfl]
        have rowb : ∀ t, t < n → ∀ j, j < zmT w d → 0 ≤ ν1 (99 + t) j ∧ ν1 (99 + t) j < p := fun t ht j hj => by
          rw [s2 t j (by omega)]
          have q1 := hbd t ht j hj
          have q2 := hbd r (by omega) j hj
          have q3 := hbd t0 h2 j hj
          unfold zMtx at q1 q2 q3
          split
          · split
            · exact q2
            · split
              · exact q3
              · exact q1
          · exact q1
        refine ok_X1_scaleRow (m := zmT w d) (r := r) (c := c) hP (by omega) hm (by omega) (by rw [s1 97 (by omega)]; exact e6) (by rw [s1 97 (by omega)]; exact e9) (rowb r (by omega)) (by rw [rowr c (by omega) (Nat.le_refl _)]; exact h3) (fun Fr hFr => ?_)
        have ec : ν1 (99 + r) c = ν (99 + t0) c := rowr c (by omega) (Nat.le_refl _)
        refine ok_X1_clearBelow (n := n) (m := zmT w d) (r := r) (c := c) (p := p) (by omega) (by omega) hn hm (by omega) (by rw [zua_ne (by omega), s1 97 (by omega)]; exact e6) (by rw [zua_ne (by omega), s1 97 (by omega)]; exact e7) (by rw [zua_ne (by omega), s1 97 (by omega)]; exact e9) (fun t ht j hj => ?_) (fun ν3 u1 u2 => ?_)
        · by_cases e : t = r
          · rw [e, zua_eq, hFr j]
            split
            · exact zemod_lt (by omega)
            · exact rowb r (by omega) j hj
          · rw [zua_ne (by omega)]; exact rowb t ht j hj
        · have fr3 : zFr μ ν3 := g1.tr (fun i hi => (u1 i (by omega)).trans ((zua_nc (by omega)).trans (s1 i (by omega))))
          have e97 : ν3 97 = ν 97 := (u1 97 (by omega)).trans ((zua_nc (by omega)).trans (s1 97 (by omega)))
          have hz := g4.2.2.1
          have hT3 : zFt w d n p ν3 := zFt_keep g2 (fun j _ => by rw [e97]) ((u1 179 (by omega)).trans ((zua_nc (by omega)).trans (s1 179 (by omega)))) ((u1 180 (by omega)).trans ((zua_nc (by omega)).trans (s1 180 (by omega))))
          have zlow : ∀ t, r ≤ t → t < n → ∀ j, j < c → ν (99 + t) j = 0 := fun t q1 q2 j q3 => hz t q1 q2 j q3
          have rowr3 : ∀ j, j < zmT w d → ν3 (99 + r) j = ν (99 + t0) j * zI p (ν (99 + t0) c) % p := fun j hj => by
            rw [u1 (99 + r) (by omega), zua_eq, hFr j, ec]
            by_cases q : c ≤ j
            · rw [if_pos ⟨q, hj⟩, rowr j hj q]
            · rw [if_neg (fun z => q z.1), s2 r j (by omega), if_neg (fun z => q z.1), zlow r (Nat.le_refl _) (by omega) j (by omega), zlow t0 h1 h2 j (by omega), Int.zero_mul, Int.zero_emod]
          have hS : ∀ t, t < n → ∀ j, j < zmT w d → ν1 (99 + t) j = if t = t0 then ν (99 + r) j else if t = r then ν (99 + t0) j else ν (99 + t) j := fun t ht j hj => by
            rw [s2 t j (by omega)]
            by_cases q : c ≤ j
            · rw [if_pos ⟨q, hj⟩]
            · rw [if_neg (fun z => q z.1)]
              by_cases q1 : t = t0
              · rw [if_pos q1, q1, zlow t0 h1 h2 j (by omega), zlow r (Nat.le_refl _) (by omega) j (by omega)]
              · rw [if_neg q1]
                by_cases q2 : t = r
                · rw [if_pos q2, q2, zlow r (Nat.le_refl _) (by omega) j (by omega), zlow t0 h1 h2 j (by omega)]
                · rw [if_neg q2]
          have g5 := zEl_piv (M' := zMtx ν3) (S := zMtx ν1) hP g4 (by omega) h1 h2 h3 hS (fun t ht j hj => by
            show ν3 (99 + t) j = ν (99 + t) j
            rw [u1 (99 + t) (by omega), zua_ne (by omega), s2 t j (by omega)]
            by_cases q : c ≤ j ∧ j < zmT w d
            · rw [if_pos q, if_neg (by omega), if_neg (by omega)]
            · rw [if_neg q]) rowr3 (fun t q1 q2 j hj => by
            show ν3 (99 + t) j = (ν1 (99 + t) j + (p - ν1 (99 + t) c) * ν3 (99 + r) j) % p
            have er : zua ν1 (99 + r) Fr (99 + r) j = ν3 (99 + r) j := by rw [u1 (99 + r) (by omega)]
            rw [u2 t q1 q2 j hj, er, zua_ne (i := 99 + r) (a := 99 + t) (by omega), zua_ne (i := 99 + r) (a := 99 + t) (by omega)]
            by_cases q : c ≤ j
            · rw [if_pos q]
            · have hb1 := rowb t q2 j hj
              rw [if_neg q, rowr3 j hj, zlow t0 h1 h2 j (by omega), Int.zero_mul, Int.zero_emod, Int.mul_zero, Int.add_zero, Int.emod_eq_of_lt hb1.1 hb1.2])
          have := ih (c + 1) (by omega) ν3 (r + 1) F fr3 hT3 (by rw [e97]; exact g3) g5
          rw [Int.natCast_add, Int.natCast_add] at this
          exact this
  refine sg_X1_eliminate ?_
  rw [hT.2.2.1]
  have e : zMtx (zup μ 97 8 ((zmT w d : Nat) : Int)) = zMtx μ := funext fun t => funext fun j => zup_ne (Or.inl (by omega))
  exact loop (zmT w d) 0 (by omega) _ 0 (zmT w d) (fun i hi => zup_nc (by omega)) (zFt_keep hT (fun j hj => zup_ne (Or.inr hj)) (zup_nc (by omega)) (zup_nc (by omega))) zup_eq (by rw [e]; exact zEl_first hM hb)
end FEL
