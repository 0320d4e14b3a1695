/-! EQUATION -/
section EQU
variable {g : zG} {φ : Int → zMu → Prop} {μ A : zMu}
def zlead (L : Nat → Int) : Nat → Int
  | 0 => -5
  | n + 1 => if L n = 0 then zlead L n else 10 * ((n / 9 : Nat) : Int) + ((n % 9 : Nat) : Int)
def zsy (L : Nat → Int) : Nat → Int
  | 0 => 1
  | n + 1 => if L n = L (9 * (n % 9) + n / 9) then zsy L n else 0
theorem zlead_ext {L : Nat → Int} {m : Nat} : ∀ n, m ≤ n → (∀ t, m ≤ t → t < n → L t = 0) → zlead L n = zlead L m
  | 0, h, _ => by rw [show m = 0 by omega]
  | n + 1, h, e => by
    by_cases h2 : m = n + 1
    · rw [h2]
    · rw [zlead, if_pos (e n (by omega) (by omega))]
      exact zlead_ext n (by omega) (fun t h1 h2 => e t h1 (by omega))
theorem zct_ext {P : Nat → Bool} {m : Nat} : ∀ n, m ≤ n → (∀ t, m ≤ t → t < n → P t = false) → zct P n = zct P m
  | 0, h, _ => by rw [show m = 0 by omega]
  | n + 1, h, e => by
    by_cases h2 : m = n + 1
    · rw [h2]
    · rw [zct, e n (by omega) (by omega), if_neg Bool.false_ne_true, Int.add_zero]
      exact zct_ext n (by omega) (fun t h1 h2 => e t h1 (by omega))
theorem zsy_ext {L : Nat → Int} {m : Nat} : ∀ n, m ≤ n → (∀ t, m ≤ t → t < n → L t = L (9 * (t % 9) + t / 9)) → zsy L n = zsy L m
  | 0, h, _ => by rw [show m = 0 by omega]
  | n + 1, h, e => by
    by_cases h2 : m = n + 1
    · rw [h2]
    · rw [zsy, if_pos (e n (by omega) (by omega))]
      exact zsy_ext n (by omega) (fun t h1 h2 => e t h1 (by omega))
theorem zsy_01 {L : Nat → Int} : ∀ n, zsy L n = 0 ∨ zsy L n = 1
  | 0 => Or.inr rfl
  | n + 1 => by
    rw [zsy]
    split
    · exact zsy_01 n
    · exact Or.inl rfl
theorem zsy_one {L : Nat → Int} {n : Nat} (h : ∀ t, t < n → L t = L (9 * (t % 9) + t / 9)) : zsy L n = 1 := zsy_ext (m := 0) n (by omega) (fun t _ h2 => h t h2)
theorem zsy_zero {L : Nat → Int} {t : Nat} (h : L t ≠ L (9 * (t % 9) + t / 9)) : ∀ n, t < n → zsy L n = 0
  | 0, h2 => absurd h2 (by omega)
  | n + 1, h2 => by
    rw [zsy]
    by_cases e : t = n
    · rw [if_neg (e ▸ h)]
    · split
      · exact zsy_zero h n (by omega)
      · rfl
def rd_eq (A : zMu) (w : Int) : Int := if w < 0 ∨ 3 < w then -1 else if A 3 0 = 0 then -11 else if w = 0 then A 3 0 else if w = 1 then zlead (A 4) 81 else if w = 2 then zsy (A 4) 81 else zct (fun t => decide (A 4 t ≠ 0)) 81
theorem zsym_all (hw : zWF A) (h0 : A 3 0 ≠ 0) (h : ∀ i k : Nat, (i : Int) ≤ A 3 0 → k < i → A 4 (9 * i + k) = A 4 (9 * k + i)) : ∀ t, t < 81 → A 4 t = A 4 (9 * (t % 9) + t / 9) := fun t ht => by
  have hd := zWF_d hw
  have hz := (zWF_e hw h0).2
  obtain ⟨i, k, hi, hk, e⟩ : ∃ i k, i < 9 ∧ k < 9 ∧ t = 9 * i + k := ⟨t / 9, t % 9, by omega, by omega, by omega⟩
  rw [show 9 * (t % 9) + t / 9 = 9 * k + i by omega, e]
  by_cases hbig : A 3 0 < i ∨ A 3 0 < k
  · rw [hz i k hi hk hbig, hz k i hk hi (by omega)]
  · by_cases h1 : k < i
    · exact h i k (by omega) h1
    · by_cases h2 : i < k
      · exact (h k i (by omega) h2).symm
      · rw [show i = k by omega]
theorem cx_equation {w : Int} (hw : zWF A) (hR : zRC A μ) (hv : zR w) (h : zHc φ μ (rd_eq A w, A)) : zOi g zm_X10_equation [.ref 0, .int (zJ w)] μ φ := by
  have hp := zWF_p hw
  have hd := zWF_d hw
  obtain ⟨t1, t2⟩ := zRC_eq hR
  unfold rd_eq at h
  refine sg_X10_equation ⟨hv, fun _ => h.rd (if_pos (by omega)) hR (zKm.refl μ), fun _ => ⟨fun _ => ?_, fun _ => h.rd (if_pos (by omega)) hR (zKm.refl μ)⟩⟩
  rw [if_neg (by omega)] at h
  refine ok_X3_isMissing zc_3 (by omega) (fun m => ⟨by omega, fun _ => ?_, fun hc => absurd rfl hc⟩) (fun m => ⟨by omega, fun hc => absurd hc (by omega), fun _ => h.rd (if_pos (by omega)) hR (zKm.refl μ)⟩)
  have h0 : A 3 0 ≠ 0 := by omega
  rw [if_neg h0] at h
  have he := zWF_e hw h0
  have t2 := t2 h0
  refine ⟨fun q => ?_, fun q => h.rd ((if_pos q).trans t1.symm) hR (zKm.refl μ), fun q => ?_, fun q => ?_⟩
  · rw [if_neg (by omega), if_neg (by omega), if_neg (by omega)] at h
    refine sg_X3_nonzeroCount zc_3 ?_
    have loop : ∀ m t : Nat, t + m = 81 → at_X3_nonzeroCount_4 g (fun x6 μ5 => φ x6 μ5) 3 (zct (fun t => decide (A 4 t ≠ 0)) t) (t : Int) μ := by
      intro m
      induction m with
      | zero =>
        intro t ht
        have e : t = 81 := by omega
        subst e
        exact sg_X3_nonzeroCount_4 zc_3 ⟨by omega, fun _ => h.rd rfl hR (zKm.refl μ), fun hc => absurd hc (by omega)⟩
      | succ m ih =>
        intro t ht
        have k2 := ih (t + 1) (by omega)
        rw [Int.natCast_add, zct] at k2
        have b := he.1 t (by omega)
        refine sg_X3_nonzeroCount_4 zc_3 ⟨by omega, fun hc => absurd hc (by omega), fun _ => ⟨by omega, ?_⟩⟩
        rw [Int.toNat_natCast, show 3 + 1 = 4 from rfl, t2 t (by omega)]
        refine ⟨by omega, fun hq => ?_, fun hq => ?_⟩
        · rw [if_neg (by rw [decide_eq_true_eq]; exact fun z => z hq), Int.add_zero] at k2; exact k2
        · rw [if_pos (decide_eq_true hq)] at k2; exact k2
    exact loop 81 0 (by omega)
  · rw [if_neg (by omega), if_pos q] at h
    refine sg_X3_leadingTerm zc_3 ?_
    have loop : ∀ t : Nat, t ≤ 81 → φ (zlead (A 4) t) μ → at_X3_leadingTerm_3 g (fun x9 μ8 => φ x9 μ8) 3 ((t : Int) - 1) μ := by
      intro t
      induction t with
      | zero =>
        intro ht hh
        exact sg_X3_leadingTerm_3 zc_3 ⟨by omega, fun _ => hh, fun hc => absurd hc (by omega)⟩
      | succ t ih =>
        intro ht hh
        rw [zlead] at hh
        have b := he.1 t (by omega)
        refine sg_X3_leadingTerm_3 zc_3 ⟨by omega, fun hc => absurd hc (by omega), fun _ => ⟨by omega, ?_⟩⟩
        rw [show ((t + 1 : Nat) : Int) - 1 = (t : Int) by omega, Int.toNat_natCast, show 3 + 1 = 4 from rfl, t2 t (by omega)]
        refine ⟨by omega, fun hq => ?_, fun hq => ?_⟩
        · rw [if_pos hq] at hh; exact ih (by omega) hh
        · rw [if_neg hq] at hh
          rw [ztm (by omega), Int.tdiv_eq_ediv_of_nonneg (by omega)]
          rw [show 10 * ((t : Int) / 9) + (t : Int) % 9 = 10 * ((t / 9 : Nat) : Int) + ((t % 9 : Nat) : Int) by omega]
          exact hh
    exact loop 81 (by omega) (h.rd rfl hR (zKm.refl μ))
  · rw [if_neg (by omega), if_neg (by omega), if_pos q] at h
    have f1 : (∀ i k : Nat, (i : Int) ≤ A 3 0 → k < i → A 4 (9 * i + k) = A 4 (9 * k + i)) → φ 1 μ := fun hh => h.rd (zsy_one (zsym_all hw h0 hh)) hR (zKm.refl μ)
    have f0 : ∀ i k : Nat, i < 9 → k < i → A 4 (9 * i + k) ≠ A 4 (9 * k + i) → φ 0 μ := fun i k hi hk hh => h.rd (zsy_zero (t := 9 * i + k) (by rw [show 9 * ((9 * i + k) % 9) + (9 * i + k) / 9 = 9 * k + i by omega]; exact hh) 81 (by omega)) hR (zKm.refl μ)
    refine sg_X3_isSymmetric zc_3 ?_
    have loop : ∀ f i : Nat, f + i = 9 → (∀ a b : Nat, a < i → b < a → A 4 (9 * a + b) = A 4 (9 * b + a)) → at_X3_isSymmetric_2 g (fun x11 μ10 => (zR x11) ∧ ((x11 = 0 → φ 0 μ10) ∧ (¬ x11 = 0 → φ 1 μ10))) 3 (i : Int) μ := by
      intro f
      induction f with
      | zero =>
        intro i hi hh
        exact sg_X3_isSymmetric_2 zc_3 ⟨by omega, by omega, fun _ => ⟨by omega, fun hc => absurd hc (by omega), fun _ => f1 (fun a b ha hb => hh a b (by omega) hb)⟩, fun hc => absurd hc (by omega)⟩
      | succ f ih =>
        intro i hi hh
        refine sg_X3_isSymmetric_2 zc_3 ⟨by omega, by omega, fun hc => ⟨by omega, fun hc => absurd hc (by omega), fun _ => f1 (fun a b ha hb => hh a b (by omega) hb)⟩, fun hc => ?_⟩
        have inner : ∀ m k : Nat, k + m = i → (∀ b : Nat, b < k → A 4 (9 * i + b) = A 4 (9 * b + i)) → at_X3_isSymmetric_12 g (fun x11 μ10 => (zR x11) ∧ ((x11 = 0 → φ 0 μ10) ∧ (¬ x11 = 0 → φ 1 μ10))) 3 (i : Int) (k : Int) μ := by
          intro m
          induction m with
          | zero =>
            intro k hk hh2
            have := ih (i + 1) (by omega) (fun a b ha hb => by
              by_cases e : a = i
              · subst e; exact hh2 b (by omega)
              · exact hh a b (by omega) hb)
            rw [Int.natCast_add] at this
            exact sg_X3_isSymmetric_12 zc_3 ⟨by omega, by omega, fun _ => this, fun hc => absurd hc (by omega)⟩
          | succ m ih2 =>
            intro k hk hh2
            have b1 := he.1 (9 * i + k) (by omega)
            have b2 := he.1 (9 * k + i) (by omega)
            refine sg_X3_isSymmetric_12 zc_3 ⟨by omega, by omega, fun hc => absurd hc (by omega), fun _ => ⟨by omega, by omega, ?_⟩⟩
            rw [show Int.toNat (9 * (i : Int) + (k : Int)) = 9 * i + k by omega, show Int.toNat (9 * (k : Int) + (i : Int)) = 9 * k + i by omega, show 3 + 1 = 4 from rfl, t2 _ (by omega), t2 _ (by omega)]
            refine ⟨by omega, by omega, fun hq => ?_, fun hq => ⟨by omega, fun _ => f0 i k (by omega) (by omega) hq, fun hc => absurd rfl hc⟩⟩
            have := ih2 (k + 1) (by omega) (fun b hb => by
              by_cases e : b = k
              · subst e; exact hq
              · exact hh2 b (by omega))
            rw [Int.natCast_add] at this
            exact this
        exact inner i 0 (by omega) (fun b hb => absurd hb (by omega))
    exact loop 9 0 (by omega) (fun a b ha _ => absurd ha (by omega))
theorem zand_x : zand 0 0 = 0 ∧ zand 0 1 = 0 ∧ zand 1 0 = 0 ∧ zand 1 1 = 1 := by decide +kernel
theorem mx_equation {w : Int} (hw : zWF A) (hR : zRM A μ) (hv : zR w) (h : zHm φ μ (rd_eq A w, A)) : zOi g zm_X11_equation [.ref 203, .int (zJ w)] μ φ := by
  have hp := zWF_p hw
  have hd := zWF_d hw
  have t1 := zRM_d hR
  unfold rd_eq at h
  refine sg_X11_equation ⟨hv, ok_X11_in (by omega) (by omega) (by omega) (fun q => ⟨by omega, fun _ => ⟨by omega, fun m => ?_, fun m => h.rd ((if_neg (by omega)).trans (if_pos (by omega))) hR (zKc.refl μ)⟩, fun hc => absurd hc (by omega)⟩) (fun q => ⟨by omega, fun hc => absurd rfl hc, fun _ => h.rd (if_pos (by omega)) hR (zKc.refl μ)⟩)⟩
  have h0 : A 3 0 ≠ 0 := by omega
  rw [if_neg (by omega), if_neg h0] at h
  have he := zWF_e hw h0
  obtain ⟨d, hdd⟩ : ∃ d : Nat, A 3 0 = d := ⟨(A 3 0).toNat, by omega⟩
  have hz : ∀ t, t < 81 → (d < t / 9 ∨ d < t % 9) → A 4 t = 0 := fun t ht hb => by
    have := he.2 (t / 9) (t % 9) (by omega) (by omega) (by omega)
    rwa [show 9 * (t / 9) + t % 9 = t by omega] at this
  have hext : ∀ m n, m ≤ n → n ≤ 81 → (∀ t, m ≤ t → t < n → d < t / 9 ∨ d < t % 9) → zlead (A 4) n = zlead (A 4) m ∧ zct (fun t => decide (A 4 t ≠ 0)) n = zct (fun t => decide (A 4 t ≠ 0)) m ∧ zsy (A 4) n = zsy (A 4) m := fun m n hmn hn hb => ⟨zlead_ext n hmn (fun t h1 h2 => hz t (by omega) (hb t h1 h2)), zct_ext n hmn (fun t h1 h2 => by
      rw [decide_eq_false_iff_not, Decidable.not_not]; exact hz t (by omega) (hb t h1 h2)), zsy_ext n hmn (fun t h1 h2 => by
      rw [hz t (by omega) (hb t h1 h2), hz _ (by omega) (by have := hb t h1 h2; omega)])⟩
  have outer : ∀ f i : Nat, f + i = d + 1 → at_X11_equation_35 g φ w (zlead (A 4) (9 * i)) (zct (fun t => decide (A 4 t ≠ 0)) (9 * i)) (zsy (A 4) (9 * i)) (i : Int) μ := by
    intro f
    induction f with
    | zero =>
      intro i hi
      obtain ⟨x1, x2, x3⟩ := hext (9 * i) 81 (by omega) (by omega) (fun t h1 h2 => by omega)
      rw [← x1, ← x2, ← x3]
      have x4 := zsy_01 (L := A 4) 81
      refine sg_X11_equation_35 ⟨by omega, by omega, fun _ => ⟨hv, fun w0 => ⟨fun w1 => ⟨fun w2 => ?_, fun w2 => ⟨by omega, fun s => ?_, fun s => ?_⟩⟩, fun w1 => ?_⟩, fun w0 => h.rd ((if_pos w0).trans t1.symm) hR (zKc.refl μ)⟩, fun hc => absurd hc (by omega)⟩
      · exact h.rd ((if_neg w0).trans ((if_neg w1).trans (if_neg w2))) hR (zKc.refl μ)
      · exact h.rd ((if_neg w0).trans ((if_neg w1).trans ((if_pos w2).trans s))) hR (zKc.refl μ)
      · exact h.rd ((if_neg w0).trans ((if_neg w1).trans ((if_pos w2).trans (x4.resolve_left s)))) hR (zKc.refl μ)
      · exact h.rd ((if_neg w0).trans (if_pos w1)) hR (zKc.refl μ)
    | succ f ih =>
      intro i hi
      have k1 := ih (i + 1) (by omega)
      rw [Int.natCast_add] at k1
      refine sg_X11_equation_35 ⟨by omega, by omega, fun hc => absurd hc (by omega), fun _ => ?_⟩
      have inner : ∀ m k : Nat, k + m = d + 1 → at_X11_equation_47 g φ w (zlead (A 4) (9 * i + k)) (zct (fun t => decide (A 4 t ≠ 0)) (9 * i + k)) (zsy (A 4) (9 * i + k)) (i : Int) (k : Int) μ := by
        intro m
        induction m with
        | zero =>
          intro k hk
          obtain ⟨x1, x2, x3⟩ := hext (9 * i + k) (9 * (i + 1)) (by omega) (by omega) (fun t h1 h2 => by omega)
          rw [x1, x2, x3] at k1
          exact sg_X11_equation_47 ⟨by omega, by omega, fun _ => k1, fun hc => absurd hc (by omega)⟩
        | succ m ih2 =>
          intro k hk
          have k2 := ih2 (k + 1) (by omega)
          rw [Int.natCast_add, show 9 * i + (k + 1) = 9 * i + k + 1 by omega, zlead, zct, zsy, show 9 * ((9 * i + k) % 9) + (9 * i + k) / 9 = 9 * k + i by omega, show (9 * i + k) / 9 = i by omega, show (9 * i + k) % 9 = k by omega] at k2
          have b1 := he.1 (9 * i + k) (by omega)
          have b2 := he.1 (9 * k + i) (by omega)
          have x4 := zsy_01 (L := A 4) (9 * i + k)
          obtain ⟨z1, z2, z3, z4⟩ := zand_x
          have y0 : zand (zsy (A 4) (9 * i + k)) 0 = 0 := by rcases x4 with e | e <;> rw [e] <;> assumption
          have y1 : zand (zsy (A 4) (9 * i + k)) 1 = zsy (A 4) (9 * i + k) := by rcases x4 with e | e <;> rw [e] <;> assumption
          have tA : ∀ {ψ : Int → zMu → Prop}, ψ (A 4 (9 * i + k)) μ → zOi g zm_X11_termAt [.ref 203, .int (zJ (i : Int)), .int (zJ (k : Int))] μ ψ := fun hh => ok_X11_termAt hw hR h0 (by omega) (by omega) hh
          have tB : ∀ {ψ : Int → zMu → Prop}, ψ (A 4 (9 * k + i)) μ → zOi g zm_X11_termAt [.ref 203, .int (zJ (k : Int)), .int (zJ (i : Int))] μ ψ := fun hh => ok_X11_termAt hw hR h0 (by omega) (by omega) hh
          rw [← y1] at k2
          refine sg_X11_equation_47 ⟨by omega, by omega, fun hc => absurd hc (by omega), fun _ => tA ⟨by omega, fun q1 => tA ⟨by omega, fun q2 => tA (tB ⟨by omega, by omega, fun q3 => ?_, fun q3 => ?_⟩), fun q2 => absurd q1 q2⟩, fun q1 => tA ⟨by omega, fun q2 => absurd q2 q1, fun q2 => tA (tB ⟨by omega, by omega, fun q3 => ?_, fun q3 => ?_⟩)⟩⟩⟩
          · rw [if_pos q1, if_neg (by rw [decide_eq_true_eq]; exact fun z => z q1), if_neg q3] at k2
            rw [y0]; exact k2
          · rw [if_pos q1, if_neg (by rw [decide_eq_true_eq]; exact fun z => z q1), if_pos q3] at k2
            exact k2
          · rw [if_neg q1, if_pos (decide_eq_true q1), if_neg q3] at k2
            rw [y0]; exact k2
          · rw [if_neg q1, if_pos (decide_eq_true q1), if_pos q3] at k2
            exact k2
      exact inner (d + 1) 0 (by omega)
  exact outer (d + 1) 0 (by omega)
end EQU
