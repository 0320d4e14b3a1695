/-! READ: the tape on paper, the class's tape -/
/-- the byte at a place; 0 behind the end -/
def zch (A : zMu) (p : Nat) : Int := if (p : Int) < A 40 0 then A 41 p else 0
def zfg (c : Int) : Prop := 48 ≤ c ∧ c ≤ 57
/-- up to so many figures: the number, the place behind it -/
def znu (ch : Nat → Int) : Nat → Int → Nat → Int × Nat
  | 0, v, p => (v, p)
  | f + 1, v, p => if 48 ≤ ch p ∧ ch p ≤ 57 then znu ch f (10 * v + ch p - 48) (p + 1) else (v, p)
/-- a letter and a figure from 1 to 8, or neither -/
def zex (ch : Nat → Int) (c : Int) (p : Nat) : Option Nat × Nat := if ch p = c then (if 49 ≤ ch (p + 1) ∧ ch (p + 1) ≤ 56 then (some (ch (p + 1) - 48).toNat, p + 2) else (none, p + 1)) else (some 0, p)
def zte (ch : Nat → Int) (p : Nat) : Option (Int × Nat × Nat) × Nat :=
  if 48 ≤ ch p ∧ ch p ≤ 57 then
    match zex ch 120 (znu ch 3 0 p).2 with
    | (none, p2) => (none, p2)
    | (some i, p2) => match zex ch 121 p2 with
      | (none, p3) => (none, p3)
      | (some k, p3) => (some ((znu ch 3 0 p).1, i, k), p3)
  else (none, p)
def zpse (ch : Nat → Int) (P : Int) : Nat → (Nat → Int) → Nat → Nat → Bool × Nat × Nat × (Nat → Int)
  | 0, E, g, p => (true, p, g, E)
  | f + 1, E, g, p => match zte ch p with
    | (none, p1) => (false, p1, g, E)
    | (some (v, i, k), p1) => if ch p1 = 43 then zpse ch P f (fun t => if t = 9 * i + k then (E t + v) % P else E t) (max g (max i k)) (p1 + 1) else (true, p1, max g (max i k), fun t => if t = 9 * i + k then (E t + v) % P else E t)
def zrd (A : zMu) : Bool × Nat × Nat × (Nat → Int) := zpse (zch A) (A 0 0) 101 (fun _ => 0) 1 0
def zt0 (A : zMu) : zMu := zup A 40 0 0
def st_read (A : zMu) : Int × zMu := if (zrd A).1 = true ∧ ((zrd A).2.1 : Int) = A 40 0 then (((zrd A).2.2.1 : Int), zup (zua (zt0 A) 4 (zrd A).2.2.2) 3 0 ((zrd A).2.2.1 : Int)) else (-100 - ((zrd A).2.1 : Int), zt0 A)
theorem znu_bd {ch : Nat → Int} : ∀ f (v : Int) p, 0 ≤ v → (v + 1) * 10 ^ f ≤ 1000 → 0 ≤ (znu ch f v p).1 ∧ (znu ch f v p).1 ≤ 999 ∧ p ≤ (znu ch f v p).2
  | 0, v, p, h0, h => by
    rw [znu]
    simp at h
    exact ⟨h0, by omega, Nat.le_refl _⟩
  | f + 1, v, p, h0, h => by
    rw [znu]
    have h10 : (10 : Int) ^ (f + 1) = 10 ^ f * 10 := Int.pow_succ _ _
    have hp : (1 : Int) ≤ 10 ^ f := by
      have := Nat.one_le_pow f 10 (by decide)
      exact_mod_cast this
    split
    · rename_i hc
      have hle : (10 * v + ch p - 48 + 1) * 10 ^ f ≤ 1000 := by
        refine Int.le_trans (Int.mul_le_mul_of_nonneg_right (show 10 * v + ch p - 48 + 1 ≤ (v + 1) * 10 by omega) (by omega)) ?_
        rw [h10] at h
        rw [Int.mul_assoc, Int.mul_comm 10 (10 ^ f)]; exact h
      have := znu_bd (ch := ch) f (10 * v + ch p - 48) (p + 1) (by omega) hle
      exact ⟨this.1, this.2.1, by omega⟩
    · refine ⟨h0, ?_, Nat.le_refl _⟩
      have : (v + 1) * 1 ≤ (v + 1) * (10 ^ f * 10) := Int.mul_le_mul_of_nonneg_left (by omega) (by omega)
      rw [← h10] at this
      omega
theorem znu_3 {ch : Nat → Int} {p : Nat} : 0 ≤ (znu ch 3 0 p).1 ∧ (znu ch 3 0 p).1 ≤ 999 ∧ p ≤ (znu ch 3 0 p).2 := znu_bd 3 0 p (Int.le_refl _) (by decide)
theorem znu_1 {ch : Nat → Int} {p : Nat} (h : 48 ≤ ch p ∧ ch p ≤ 57) : p + 1 ≤ (znu ch 3 0 p).2 := by
  rw [znu, if_pos h]
  exact (znu_bd (ch := ch) 2 (10 * 0 + ch p - 48) (p + 1) (by omega) (by show (10 * 0 + ch p - 48 + 1) * 100 ≤ 1000; omega)).2.2
theorem zex_ok {ch : Nat → Int} {c : Int} {p i q : Nat} (h : zex ch c p = (some i, q)) : i ≤ 8 ∧ p ≤ q := by
  unfold zex at h
  split at h
  · split at h
    · have := Prod.mk.inj h
      have e := Option.some.inj this.1
      omega
    · exact absurd (Prod.mk.inj h).1 (by simp)
  · have := Prod.mk.inj h
    have e := Option.some.inj this.1
    omega
theorem zte_ok {ch : Nat → Int} {p i k q : Nat} {v : Int} (h : zte ch p = (some (v, i, k), q)) : 0 ≤ v ∧ v ≤ 999 ∧ i ≤ 8 ∧ k ≤ 8 ∧ p + 1 ≤ q := by
  have hn := znu_3 (ch := ch) (p := p)
  unfold zte at h
  split at h
  · rename_i hc
    have hn1 := znu_1 hc
    cases h1 : zex ch 120 (znu ch 3 0 p).2 with
    | mk o p2 =>
      rw [h1] at h
      cases o with
      | none => exact absurd (Prod.mk.inj h).1 (by simp)
      | some x =>
        dsimp only at h
        have a1 := zex_ok h1
        cases h2 : zex ch 121 p2 with
        | mk o2 p3 =>
          rw [h2] at h
          cases o2 with
          | none => exact absurd (Prod.mk.inj h).1 (by simp)
          | some y =>
            dsimp only at h
            have a2 := zex_ok h2
            have h3 := Prod.mk.inj h
            have h4 := Prod.mk.inj (Option.some.inj h3.1)
            have h5 := Prod.mk.inj h4.2
            rw [← h4.1, ← h5.1, ← h5.2, ← h3.2]
            exact ⟨hn.1, hn.2.1, a1.1, a2.1, by omega⟩
  · exact absurd (Prod.mk.inj h).1 (by simp)
/-- what the rows of a text hold -/
def zEo (P : Int) (g : Nat) (E : Nat → Int) : Prop := (1 ≤ g ∧ g ≤ 8) ∧ (∀ t, t < 81 → 0 ≤ E t ∧ E t < P) ∧ ∀ (i k : Nat), i < 9 → k < 9 → (g < i ∨ g < k) → E (9 * i + k) = 0
theorem zEo_add {P v : Int} {g i k : Nat} {E : Nat → Int} (hP : 0 < P) (h : zEo P g E) (hi : i ≤ 8) (hk : k ≤ 8) : zEo P (max g (max i k)) (fun t => if t = 9 * i + k then (E t + v) % P else E t) := by
  obtain ⟨h1, h2, h3⟩ := h
  refine ⟨by omega, fun t ht => ?_, fun x y hx hy q => ?_⟩
  · dsimp only
    split
    · exact zemod_lt hP
    · exact h2 t ht
  · dsimp only
    rw [if_neg (by omega)]
    exact h3 x y hx hy (by omega)
theorem zpse_ok {ch : Nat → Int} {P : Int} (hP : 0 < P) : ∀ f E g p, zEo P g E → zEo P (zpse ch P f E g p).2.2.1 (zpse ch P f E g p).2.2.2
  | 0, E, g, p, h => h
  | f + 1, E, g, p, h => by
    rw [zpse]
    cases ht : zte ch p with
    | mk o p1 =>
      cases o with
      | none => exact h
      | some x =>
        obtain ⟨v, i, k⟩ := x
        dsimp only
        have a := zte_ok ht
        have h2 := zEo_add (v := v) hP h a.2.2.1 a.2.2.2.1
        split
        · exact zpse_ok hP f _ _ _ h2
        · exact h2
theorem zrd_ok {A : zMu} (hw : zWF A) : zEo (A 0 0) (zrd A).2.2.1 (zrd A).2.2.2 := by
  have hp := zWF_p hw
  exact zpse_ok (by omega) 101 _ _ _ ⟨by omega, fun _ _ => ⟨Int.le_refl _, show (0 : Int) < A 0 0 by omega⟩, fun _ _ _ _ _ => rfl⟩
theorem wf_t0 {A : zMu} (hw : zWF A) : zWF (zt0 A) := zWF_t hw (fun i h1 h2 => zup_nc h1) ⟨by unfold zt0; rw [zup_eq]; omega, fun k hk => by unfold zt0 at hk; rw [zup_eq] at hk; omega⟩
theorem wf_read {A : zMu} (hw : zWF A) : zWF (st_read A).2 := by
  have hp := zWF_p hw
  unfold st_read
  have h0 := wf_t0 hw
  by_cases c : (zrd A).1 = true ∧ ((zrd A).2.1 : Int) = A 40 0
  · rw [if_pos c]
    obtain ⟨q1, q2, q3⟩ := zrd_ok hw
    dsimp only
    generalize (zrd A).2.2.1 = d at q1 q3 ⊢
    generalize (zrd A).2.2.2 = E at q2 q3 ⊢
    have e3 : zup (zua (zt0 A) 4 E) 3 0 (d : Int) 3 0 = d := zup_eq
    have eo : ∀ (i : Nat), i ≠ 3 → i ≠ 4 → zup (zua (zt0 A) 4 E) 3 0 (d : Int) i = zt0 A i := fun i q1 q2 => (zup_nc q1).trans (zua_nc q2)
    have e4 : zup (zua (zt0 A) 4 E) 3 0 (d : Int) 4 = E := (zup_nc (by omega)).trans zua_row
    have e00 : zt0 A 0 0 = A 0 0 := zup_ne (Or.inl (by omega))
    obtain ⟨c1, c2, c3, c4, c5, c6⟩ := h0.1
    simp only [Nat.zero_add] at c1 c2 c3 c4 c5 c6
    refine zWF_n h0 (fun i hi => eo i (by omega) (by omega)) ⟨?_, fun s' hs => ?_, ?_, fun _ => ?_, fun q hq => ?_, ?_⟩
    · rw [eo 0 (by omega) (by omega)]; exact c1
    · simp only [Nat.zero_add]
      rw [eo 0 (by omega) (by omega), eo 1 (by omega) (by omega), eo 2 (by omega) (by omega), eo (10 + s') (by omega) (by omega)]; exact c2 s' hs
    · simp only [Nat.zero_add]
      rw [e3]; omega
    · simp only [Nat.zero_add]
      rw [e4, e3, eo 0 (by omega) (by omega), e00]
      exact ⟨q2, fun i k hi hk q => q3 i k hi hk (by omega)⟩
    · simp only [Nat.zero_add]
      rw [eo 5 (by omega) (by omega), eo 6 (by omega) (by omega), eo (20 + q) (by omega) (by omega)]; exact c5 q hq
    · simp only [Nat.zero_add]
      rw [eo 5 (by omega) (by omega)]; exact c6
  · rw [if_neg c]; exact h0
section TAP
variable {g : zG} {μ ν A : zMu} {φ : Int → zMu → Prop}
theorem zWF_tp (hw : zWF A) : (0 ≤ A 40 0 ∧ A 40 0 ≤ 100) ∧ ∀ (k : Nat), (k : Int) < A 40 0 → 1 ≤ A 41 k ∧ A 41 k ≤ 127 := hw.2.2.1
theorem zch_lt {p : Nat} (h : zch A p ≠ 0) : (p : Int) < A 40 0 := by
  by_cases q : (p : Int) < A 40 0
  · exact q
  · unfold zch at h
    rw [if_neg q] at h
    exact absurd rfl h
theorem zch_bd (hw : zWF A) (p : Nat) : 0 ≤ zch A p ∧ zch A p ≤ 127 := by
  unfold zch
  split
  · rename_i q
    have := (zWF_tp hw).2 p q
    omega
  · omega
/-- the class's tape at a place -/
def zTpe (A μ ν : zMu) (p : Nat) : Prop := (∀ (i : Nat), i ≠ 188 → ν i = μ i) ∧ ν 188 1 = A 40 0 ∧ ν 188 2 = (p : Int) ∧ (∀ (k : Nat), (k : Int) < A 40 0 → μ 189 k = A 41 k) ∧ (p : Int) ≤ A 40 0
theorem zTpe_at {p : Nat} (h : zTpe A μ ν p) (hp : (p : Int) < A 40 0) : ν 189 p = zch A p := by
  unfold zch
  rw [if_pos hp, h.1 189 (by omega)]
  exact h.2.2.2.1 p hp
theorem zTpe_to {p q : Nat} {ν' : zMu} (h : zTpe A μ ν p) (h1 : ∀ (i : Nat), i ≠ 188 → ν' i = ν i) (h2 : ν' 188 1 = ν 188 1) (h3 : ν' 188 2 = (q : Int)) (h4 : (q : Int) ≤ A 40 0) : zTpe A μ ν' q := ⟨fun i hi => (h1 i hi).trans (h.1 i hi), h2.trans h.2.1, h3, h.2.2.2.1, h4⟩
theorem ok_X8_accept {p : Nat} {c : Int} (hw : zWF A) (hc : 1 ≤ c ∧ c ≤ 127) (h : zTpe A μ ν p) (k1 : zch A p = c → ∀ ν', zTpe A μ ν' (p + 1) → (∀ (j : Nat), j ≠ 2 → ν' 188 j = ν 188 j) → φ 1 ν') (k0 : zch A p ≠ c → φ 0 ν) : zOi g zm_X8_accept [.ref 188, .int (zJ c)] ν φ := by
  have hL := zWF_tp hw
  obtain ⟨h1, h2, h3, h4, h5⟩ := h
  have h : zTpe A μ ν p := ⟨h1, h2, h3, h4, h5⟩
  have hcb := zch_bd hw p
  refine sg_X8_accept ⟨by omega, by omega, fun q => k0 (fun e => ?_), fun q => ⟨by omega, ?_⟩⟩
  · have := zch_lt (A := A) (p := p) (by omega)
    omega
  · rw [h3, Int.toNat_natCast, zTpe_at h (by omega)]
    refine ⟨by omega, by omega, fun z => k0 z, fun z => k1 z _ (zTpe_to h (fun i hi => zup_nc hi) (zup_ne (Or.inr (by omega))) (by rw [zup_eq]; omega) (by omega)) (fun j hj => zup_ne (Or.inr hj))⟩
theorem ok_X8_isAtDigit {p : Nat} {a b : Int} (hw : zWF A) (hab : 0 ≤ a ∧ a ≤ 9 ∧ 0 ≤ b ∧ b ≤ 9) (h : zTpe A μ ν p) (k1 : 48 + a ≤ zch A p ∧ zch A p ≤ 48 + b → φ 1 ν) (k0 : ¬ (48 + a ≤ zch A p ∧ zch A p ≤ 48 + b) → φ 0 ν) : zOi g zm_X8_isAtDigit [.ref 188, .int (zJ a), .int (zJ b)] ν φ := by
  have hL := zWF_tp hw
  obtain ⟨h1, h2, h3, h4, h5⟩ := h
  have h : zTpe A μ ν p := ⟨h1, h2, h3, h4, h5⟩
  have hcb := zch_bd hw p
  refine sg_X8_isAtDigit ⟨by omega, by omega, fun q => k0 (fun e => ?_), fun q => ⟨by omega, ?_⟩⟩
  · have := zch_lt (A := A) (p := p) (by omega)
    omega
  · rw [h3, Int.toNat_natCast, zTpe_at h (by omega)]
    exact ⟨by omega, by omega, fun z => k0 (by omega), fun z => ⟨by omega, fun z2 => k0 (by omega), fun z2 => k1 (by omega)⟩⟩
theorem ok_X8_acceptNumber {p : Nat} (hw : zWF A) (h : zTpe A μ ν p) (k1 : 48 ≤ zch A p ∧ zch A p ≤ 57 → ∀ ν', zTpe A μ ν' (znu (zch A) 3 0 p).2 → ν' 188 3 = (znu (zch A) 3 0 p).1 → φ 1 ν') (k0 : ¬ (48 ≤ zch A p ∧ zch A p ≤ 57) → ∀ ν', zTpe A μ ν' p → φ 0 ν') : zOi g zm_X8_acceptNumber [.ref 188] ν φ := by
  have hL := zWF_tp hw
  have fin : ∀ (n q : Nat) (v : Int) (ω : zMu), zTpe A μ ω q → ω 188 3 = v → (n = 0 → q = p ∧ ¬ (48 ≤ zch A p ∧ zch A p ≤ 57)) → (0 < n → (48 ≤ zch A p ∧ zch A p ≤ 57) ∧ (v, q) = znu (zch A) 3 0 p) → (((n : Int) ≤ 0 → φ 0 ω) ∧ (0 < (n : Int) → φ 1 ω)) := fun n q v ω hT h3 a0 a1 => by
    refine ⟨fun z => ?_, fun z => ?_⟩
    · obtain ⟨e, e2⟩ := a0 (by omega)
      exact k0 e2 ω (e ▸ hT)
    · obtain ⟨e, e2⟩ := a1 (by omega)
      refine k1 e ω ?_ ?_
      · rw [← e2]; exact hT
      · rw [← e2]; exact h3
  have loop : ∀ f n : Nat, n + f = 3 → ∀ (q : Nat) (v : Int) (ω : zMu), zTpe A μ ω q → ω 188 3 = v → znu (zch A) f v q = znu (zch A) 3 0 p → (n = 0 → q = p) → (0 < n → (48 ≤ zch A p ∧ zch A p ≤ 57)) → at_X8_acceptNumber_7 g φ (n : Int) ω := by
    intro f
    induction f with
    | zero =>
      intro n hn q v ω hT h3 e a0 a1
      refine sg_X8_acceptNumber_7 ⟨by omega, fun _ => fin n q v ω hT h3 (fun z => absurd z (by omega)) (fun z => ⟨a1 z, e⟩), fun hc => absurd hc (by omega)⟩
    | succ f ih =>
      intro n hn q v ω hT h3 e a0 a1
      refine sg_X8_acceptNumber_7 ⟨by omega, fun hc => absurd hc (by omega), fun _ => ok_X8_isAtDigit hw (by omega) hT (fun z => ?_) (fun z => ?_)⟩
      · have hq := zch_lt (A := A) (p := q) (by omega)
        refine ⟨by omega, fun hc => absurd hc (by omega), fun _ => ?_⟩
        have e2 := hT.2.2.1
        rw [e2, h3, Int.toNat_natCast, zTpe_at hT hq, zup_ne (μ := ω) (i := 188) (j := 3) (a := 188) (b := 2) (Or.inr (by omega)), e2]
        refine ⟨by omega, ?_⟩
        have := ih (n + 1) (by omega) (q + 1) (10 * v + zch A q - 48) (zup (zup ω 188 3 (10 * v + zch A q - 48)) 188 2 ((q : Int) + 1)) (zTpe_to hT (fun i hi => (zup_nc hi).trans (zup_nc hi)) ((zup_ne (Or.inr (by omega))).trans (zup_ne (Or.inr (by omega)))) (by rw [zup_eq]; omega) (by omega)) ((zup_ne (Or.inr (by omega))).trans zup_eq) (by
          rw [← e, znu, if_pos (by omega)]) (fun z2 => absurd z2 (by omega)) (fun _ => by
          by_cases n0 : n = 0
          · rw [← a0 n0]; omega
          · exact a1 (by omega))
        rw [Int.natCast_add] at this
        exact this
      · refine ⟨by omega, fun _ => fin n q v ω hT h3 (fun n0 => ⟨a0 n0, by rw [← a0 n0]; omega⟩) (fun n0 => ⟨a1 n0, by rw [← e, znu, if_neg (by omega)]⟩), fun hc => absurd rfl hc⟩
  exact sg_X8_acceptNumber (loop 3 0 rfl p 0 _ (zTpe_to h (fun i hi => zup_nc hi) (zup_ne (Or.inr (by omega))) ((zup_ne (Or.inr (by omega))).trans h.2.2.1) h.2.2.2.2) zup_eq rfl (fun _ => rfl) (fun z => absurd z (by omega)))
theorem ok_X8_acceptExponent {p : Nat} (hw : zWF A) (h : zTpe A μ ν p) (k1 : 49 ≤ zch A p ∧ zch A p ≤ 56 → ∀ ν', zTpe A μ ν' (p + 1) → ν' 188 3 = zch A p - 48 → φ 1 ν') (k0 : ¬ (49 ≤ zch A p ∧ zch A p ≤ 56) → φ 0 ν) : zOi g zm_X8_acceptExponent [.ref 188] ν φ := by
  have hL := zWF_tp hw
  refine sg_X8_acceptExponent (ok_X8_isAtDigit hw (by omega) h (fun z => ⟨by omega, fun _ => ?_, fun hc => absurd hc (by omega)⟩) (fun z => ⟨by omega, fun hc => absurd rfl hc, fun _ => k0 (by omega)⟩))
  have hq := zch_lt (A := A) (p := p) (by omega)
  have e2 := h.2.2.1
  rw [e2, Int.toNat_natCast, zTpe_at h hq, zup_ne (μ := ν) (i := 188) (j := 3) (a := 188) (b := 2) (Or.inr (by omega)), e2]
  exact ⟨by omega, k1 (by omega) _ (zTpe_to h (fun i hi => (zup_nc hi).trans (zup_nc hi)) ((zup_ne (Or.inr (by omega))).trans (zup_ne (Or.inr (by omega)))) (by rw [zup_eq]; omega) (by omega)) ((zup_ne (Or.inr (by omega))).trans zup_eq)⟩
end TAP
