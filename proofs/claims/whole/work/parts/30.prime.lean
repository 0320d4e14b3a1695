/-! PRIME, LAY, JUDGE -/
section PRM
variable {g : zG} {φ : Int → zMu → Prop} {μ A : zMu}
def zcl (P : Nat) : Nat → Nat → Bool
  | 0, _ => true
  | f + 1, d => if P < d * d then true else if P % d = 0 then false else zcl P f (d + 1)
def zml (P : Nat) : Nat → Nat → Bool
  | 0, _ => true
  | f + 1, d => if P ≤ d then true else if P % d = 0 then false else zml P f (d + 1)
theorem zcl_all : (List.range 200).all (fun P => Nat.blt P 5 || (zcl P 20 2 == zprs.contains P)) = true := by decide +kernel
theorem zml_all : (List.range 200).all (fun P => Nat.blt P 5 || (zml P 200 2 == zprs.contains P)) = true := by decide +kernel
theorem zcl_ok {P : Nat} (h5 : 5 ≤ P) (h : P < 200) : zcl P 20 2 = zprs.contains P := by
  have := List.all_eq_true.1 zcl_all P (List.mem_range.2 h)
  rw [Bool.or_eq_true] at this
  rcases this with q | q
  · rw [Nat.blt_eq] at q; omega
  · exact eq_of_beq q
theorem zml_ok {P : Nat} (h5 : 5 ≤ P) (h : P < 200) : zml P 200 2 = zprs.contains P := by
  have := List.all_eq_true.1 zml_all P (List.mem_range.2 h)
  rw [Bool.or_eq_true] at this
  rcases this with q | q
  · rw [Nat.blt_eq] at q; omega
  · exact eq_of_beq q
def zisp (p : Int) : Bool := decide (5 ≤ p) && (decide (p ≤ 199) && zprs.contains p.toNat)
theorem zisp_P {p : Int} (h : zisp p = true) : zP p := by
  unfold zisp at h
  rw [Bool.and_eq_true, Bool.and_eq_true, decide_eq_true_eq, decide_eq_true_eq] at h
  exact ⟨p.toNat, by have := h.2.2; rwa [List.contains_iff_mem] at this, by omega⟩
theorem ok_X10_isModulus {p : Int} (hp : zR p) (h : φ (if zisp p = true then 1 else 0) μ) : zOi g zm_X10_isModulus [.int (zJ p)] μ φ := by
  by_cases h1 : p < 5
  · rw [if_neg (by unfold zisp; rw [decide_eq_false (by omega)]; exact Bool.false_ne_true)] at h
    exact sg_X10_isModulus ⟨hp, fun _ => h, fun hc => absurd h1 (by omega)⟩
  by_cases h2 : 199 < p
  · rw [if_neg (by unfold zisp; rw [decide_eq_true (by omega), decide_eq_false (by omega)]; exact Bool.false_ne_true)] at h
    exact sg_X10_isModulus ⟨hp, fun hc => absurd hc h1, fun _ => ⟨fun hc => absurd hc (by omega), fun _ => h⟩⟩
  obtain ⟨P, rfl⟩ : ∃ q : Nat, p = q := ⟨p.toNat, by omega⟩
  have e : zisp (P : Int) = zcl P 20 2 := by
    unfold zisp
    rw [decide_eq_true (by omega), decide_eq_true (by omega), Bool.true_and, Bool.true_and, Int.toNat_natCast, zcl_ok (by omega) (by omega)]
  rw [e] at h
  have loop : ∀ f d : Nat, f + d = 22 → 2 ≤ d → φ (if zcl P f d = true then 1 else 0) μ → at_X10_isModulus_16 g φ (P : Int) (d : Int) μ := by
    intro f
    induction f with
    | zero =>
      intro d hd hd2 hh
      have ed : d = 22 := by omega
      subst ed
      exact sg_X10_isModulus_16 ⟨by omega, by omega, fun _ => hh, fun hc => absurd hc (by omega)⟩
    | succ f ih =>
      intro d hd hd2 hh
      have e2 : (d : Int) * d = ((d * d : Nat) : Int) := (Int.natCast_mul d d).symm
      have e3 : (P : Int).tmod (d : Int) = ((P % d : Nat) : Int) := by rw [ztm (by omega), Int.natCast_emod]
      have hb : d * d ≤ 22 * 22 := Nat.mul_le_mul (by omega) (by omega)
      have hl := Nat.mod_lt P (show 0 < d by omega)
      rw [zcl] at hh
      refine sg_X10_isModulus_16 ?_
      rw [e2, e3]
      refine ⟨by omega, by omega, fun hq => ?_, fun hq => ?_⟩
      · rw [if_pos (show P < d * d by omega)] at hh; exact hh
      · rw [if_neg (show ¬ P < d * d by omega)] at hh
        by_cases hz : P % d = 0
        · rw [if_pos hz] at hh
          exact ⟨by omega, by omega, by omega, fun hc => absurd hc (by omega), fun _ => hh⟩
        · rw [if_neg hz] at hh
          have := ih (d + 1) (by omega) (by omega) hh
          rw [Int.natCast_add] at this
          generalize P % d = r at hz hl
          exact ⟨by omega, by omega, by omega, fun _ => this, fun hc => absurd hc (by omega)⟩
  exact sg_X10_isModulus ⟨hp, fun hc => absurd hc h1, fun _ => ⟨fun _ => loop 20 2 (by omega) (by omega) h, fun hc => absurd hc h2⟩⟩
theorem ok_X11_isPrime {p : Int} (hp : zR p) (h : φ (if zisp p = true then 1 else 0) μ) : zOi g zm_X11_isPrime [.int (zJ p)] μ φ := by
  refine sg_X11_isPrime ⟨hp, ok_X11_in (by omega) (by omega) (by omega) (fun q => ?_) (fun q => ?_)⟩
  · obtain ⟨P, rfl⟩ : ∃ q : Nat, p = q := ⟨p.toNat, by omega⟩
    have e : zisp (P : Int) = zml P 200 2 := by
      unfold zisp
      rw [decide_eq_true (by omega), decide_eq_true (by omega), Bool.true_and, Bool.true_and, Int.toNat_natCast, zml_ok (by omega) (by omega)]
    rw [e] at h
    have loop : ∀ f d : Nat, f + d = 202 → 2 ≤ d → φ (if zml P f d = true then 1 else 0) μ → at_X11_isPrime_14 g φ (P : Int) 1 (d : Int) μ := by
      intro f
      induction f with
      | zero =>
        intro d hd hd2 hh
        exact sg_X11_isPrime_14 ⟨by omega, fun hc => absurd hc (by omega), fun _ => ⟨by omega, by omega, fun _ => ⟨by omega, hh⟩, fun hc => absurd hc (by omega)⟩⟩
      | succ f ih =>
        intro d hd hd2 hh
        have e3 : (P : Int).tmod (d : Int) = ((P % d : Nat) : Int) := by rw [ztm (by omega), Int.natCast_emod]
        have hl := Nat.mod_lt P (show 0 < d by omega)
        rw [zml] at hh
        refine sg_X11_isPrime_14 ⟨by omega, fun hc => absurd hc (by omega), fun _ => ⟨by omega, by omega, fun hq => ?_, fun hq => ?_⟩⟩
        · rw [if_pos (show P ≤ d by omega)] at hh; exact ⟨by omega, hh⟩
        · rw [if_neg (show ¬ P ≤ d by omega)] at hh
          rw [e3]
          by_cases hz : P % d = 0
          · rw [if_pos hz] at hh
            exact ⟨by omega, by omega, fun _ => sg_X11_isPrime_14 ⟨by omega, fun _ => ⟨by omega, hh⟩, fun hc => absurd rfl hc⟩, fun hc => absurd (by omega) hc⟩
          · rw [if_neg hz] at hh
            have := ih (d + 1) (by omega) (by omega) hh
            rw [Int.natCast_add] at this
            generalize P % d = r at hz hl
            exact ⟨by omega, by omega, fun hc => absurd hc (by omega), fun _ => this⟩
    exact loop 200 2 (by omega) (by omega) h
  · have e : zisp p = false := by
      unfold zisp
      by_cases h5 : 5 ≤ p
      · rw [decide_eq_true h5, decide_eq_false (by omega)]; rfl
      · rw [decide_eq_false h5]; rfl
    rw [e] at h
    exact sg_X11_isPrime_14 ⟨by omega, fun _ => ⟨by omega, h⟩, fun hc => absurd rfl hc⟩
def zpr (A : zMu) (p : Int) : zMu := zua (zup (zup A 0 0 p) 3 0 0) 2 (fun _ => 0)
def st_prime (A : zMu) (p : Int) : Int × zMu := if zisp p = true then (A 0 0, zpr A p) else (-2, A)
theorem zpr_o {p : Int} {i : Nat} (h0 : i ≠ 0) (h2 : i ≠ 2) (h3 : i ≠ 3) : zpr A p i = A i := by
  unfold zpr
  rw [zua_nc h2, zup_nc h3, zup_nc h0]
theorem zpr_0 {p : Int} : zpr A p 0 0 = p := by
  unfold zpr
  rw [zua_ne (by omega), zup_ne (Or.inl (by omega)), zup_eq]
theorem zpr_2 {p : Int} {s : Nat} : zpr A p 2 s = 0 := by
  unfold zpr
  rw [zua_eq]
theorem zpr_3 {p : Int} : zpr A p 3 0 = 0 := by
  unfold zpr
  rw [zua_ne (by omega), zup_eq]
theorem wf_prime (hw : zWF A) (p : Int) : zWF (st_prime A p).2 := by
  unfold st_prime
  by_cases h : zisp p = true
  · rw [if_pos h]
    show zWF (zpr A p)
    obtain ⟨h1, h2, h3, h4, h5, h6⟩ := hw.1
    rw [Nat.zero_add] at h2 h3 h4 h5 h6
    refine zWF_n hw (fun i hi => zpr_o (by omega) (by omega) (by omega)) ⟨?_, fun s hs => ?_, ?_, fun hc => absurd ?_ hc, fun q hq => ?_, ?_⟩
    · rw [zpr_0]; exact zisp_P h
    · rw [Nat.zero_add, Nat.zero_add, Nat.zero_add, zpr_2, zpr_o (i := 1) (by omega) (by omega) (by omega)]
      exact ⟨(zWF_s hw hs).1, by omega, fun k hk => absurd hk (by omega)⟩
    · rw [Nat.zero_add, zpr_3]; omega
    · rw [Nat.zero_add]; exact zpr_3
    · rw [Nat.zero_add, Nat.zero_add, Nat.zero_add, zpr_o (by omega) (by omega) (by omega), zpr_o (by omega) (by omega) (by omega), zpr_o (by omega) (by omega) (by omega)]
      exact zWF_k hw hq
    · rw [Nat.zero_add, zpr_o (by omega) (by omega) (by omega)]; exact h6
  · rw [if_neg h]; exact hw
theorem cx_prime {p : Int} (hw : zWF A) (hR : zRC A μ) (hp : zR p) (h : zHc φ μ (st_prime A p)) : zOi g zm_X10_prime [.ref 0, .int (zJ p)] μ φ := by
  refine sg_X10_prime (ok_X10_isModulus hp ?_)
  unfold st_prime at h
  by_cases hq : zisp p = true
  · rw [if_pos hq] at h ⊢
    refine ⟨by omega, fun _ => sg_X0_startAnew zc_1 ?_, fun hc => absurd hc (by omega)⟩
    have loop : ∀ m t : Nat, t + m = 6 → ∀ ν, (∀ (i : Nat), i ≠ 1 → i ≠ 3 → (∀ s, s < 6 → i ≠ 7 + 2 * s) → ν i = μ i) → ν 1 0 = p → ν 3 1 = 0 → (∀ s, s < 6 → ν (7 + 2 * s) 1 = μ (7 + 2 * s) 1) → (∀ s, s < t → ν (7 + 2 * s) 2 = 0) → at_X0_startAnew_15 g (fun μ4 => zOv g zm_X2_forget [.ref 182] μ4 (fun μ5 => φ (μ 1 0) μ5)) 1 (t : Int) ν := by
      intro m
      induction m with
      | zero =>
        intro t ht ν f0 f1 f3 fs fl
        have e : t = 6 := by omega
        subst e
        have fo : ∀ (i : Nat), (∀ s, s < 6 → i ≠ 7 + 2 * s) → i ≠ 1 → i ≠ 3 → i ≠ 183 → ∀ f, zua ν 183 f i = μ i := fun i h1 h2 h3 h4 f => (zua_nc h4).trans (f0 i h2 h3 h1)
        refine sg_X0_startAnew_15 zc_1 ⟨by omega, fun _ => sg_X2_forget (sg_J7_fill zc_183 ?_), fun hc => absurd hc (by omega)⟩
        refine h.at rfl (zRC_p0 hR) (zRC_n hR (fun i hi => zpr_o (by omega) (by omega) (by omega)) (fun i hi => fo i (fun s hs => by omega) (by omega) (by omega) (by omega) _) ⟨?_, fun s hs => ?_, ?_, fun q hq => ?_⟩ (fun v hv => Or.inl (by rw [zua_eq, if_pos hv]))) (fun i hi => fo i (fun s hs => by omega) (by omega) (by omega) (by omega) _)
        · rw [zua_ne (by omega), f1, zpr_0]
        · unfold zCs
          rw [Nat.zero_add, Nat.zero_add, Nat.zero_add, zpr_2, zpr_o (by omega) (by omega) (by omega), show 1 + 6 + 2 * s = 7 + 2 * s by omega, zua_ne (by omega), zua_ne (by omega), fs s hs, fl s hs]
          exact ⟨(zRC_sr hR hs).1, rfl, fun k hk => absurd hk (by omega)⟩
        · unfold zCe
          rw [Nat.zero_add, zpr_3, show 1 + 2 = 3 from rfl, zua_ne (by omega), f3]
          exact ⟨rfl, fun hc => absurd rfl hc⟩
        · unfold zCk
          rw [Nat.zero_add, Nat.zero_add, Nat.zero_add, zpr_o (by omega) (by omega) (by omega), zpr_o (by omega) (by omega) (by omega), zpr_o (by omega) (by omega) (by omega), fo _ (fun s hs => by omega) (by omega) (by omega) (by omega), fo _ (fun s hs => by omega) (by omega) (by omega) (by omega), fo _ (fun s hs => by omega) (by omega) (by omega) (by omega)]
          have := hR.1.2.2.2 q hq
          unfold zCk at this
          rw [Nat.zero_add, Nat.zero_add, Nat.zero_add] at this
          exact this
      | succ m ih =>
        intro t ht ν f0 f1 f3 fs fl
        refine sg_X0_startAnew_15 zc_1 ⟨by omega, fun hc => absurd hc (by omega), fun _ => ⟨by omega, ?_⟩⟩
        rw [Int.toNat_natCast, show 1 + 6 + 2 * t = 7 + 2 * t by omega]
        have := ih (t + 1) (by omega) (zup ν (7 + 2 * t) 2 0) (fun i h1 h2 h3 => (zup_nc (h3 t (by omega))).trans (f0 i h1 h2 h3)) (by rw [zup_ne (Or.inl (by omega)), f1]) (by rw [zup_ne (Or.inl (by omega)), f3]) (fun s hs => by rw [zup_ne (Or.inr (by omega)), fs s hs]) (fun s hs => by
          by_cases hst : s = t
          · rw [hst, zup_eq]
          · rw [zup_ne (Or.inl (by omega)), fl s (by omega)])
        rw [Int.natCast_add] at this
        exact this
    exact loop 6 0 (by omega) _ (fun i h1 h2 _ => (zup_nc h2).trans (zup_nc h1)) (by rw [zup_ne (Or.inl (by omega)), zup_eq]) (by rw [zup_eq]) (fun s hs => by rw [zup_ne (Or.inl (by omega)), zup_ne (Or.inl (by omega))]) (fun s hs => absurd hs (by omega))
  · rw [if_neg hq] at h ⊢
    exact ⟨by omega, fun hc => absurd rfl hc, fun _ => h.at rfl rfl hR (zKm.refl μ)⟩
theorem mx_prime {p : Int} (hw : zWF A) (hR : zRM A μ) (hp : zR p) (h : zHm φ μ (st_prime A p)) : zOi g zm_X11_prime [.ref 203, .int (zJ p)] μ φ := by
  refine sg_X11_prime (ok_X11_isPrime hp ?_)
  unfold st_prime at h
  by_cases hq : zisp p = true
  · rw [if_pos hq] at h ⊢
    refine ⟨by omega, fun _ => ?_, fun hc => absurd hc (by omega)⟩
    have loop : ∀ m t : Nat, t + m = 6 → ∀ ν, (∀ (i : Nat), i ≠ 203 → i ≠ 205 → ν i = μ i) → (∀ (j : Nat), j ≠ 0 → ν 203 j = μ 203 j) → ν 203 0 = p → (∀ s, s < t → ν 205 s = 0) → at_X11_prime_22 g φ (μ 203 0) (t : Int) ν := by
      intro m
      induction m with
      | zero =>
        intro t ht ν f0 f1 f2 fl
        have e : t = 6 := by omega
        subst e
        refine sg_X11_prime_22 ⟨by omega, fun _ => ?_, fun hc => absurd hc (by omega)⟩
        refine h.at rfl (zRM_p0 hR) (zRM_n hR (fun i hi => zpr_o (by omega) (by omega) (by omega)) (fun j _ h2 h3 => (zup_ne (Or.inr h3)).trans (f1 j h2)) (fun i hi hi2 => (zup_nc (by omega)).trans (f0 i (by omega) (by omega))) ⟨?_, fun s hs => ?_, ?_, ?_, fun q hq => ?_⟩) (fun i hi => (zup_nc (by omega)).trans (f0 i (by omega) (by omega)))
        · rw [zup_ne (Or.inr (by omega)), f2, zpr_0]
        · rw [Nat.zero_add, Nat.zero_add, Nat.zero_add, zpr_2, zpr_o (by omega) (by omega) (by omega), zup_ne (Or.inl (by omega)), zup_ne (Or.inl (by omega)), fl s hs, f0 204 (by omega) (by omega)]
          exact ⟨(zRM_sr hR hs).1, rfl, fun k hk => absurd hk (by omega)⟩
        · rw [Nat.zero_add, zpr_3, zup_eq]
        · rw [Nat.zero_add, zpr_3]
          exact fun hc => absurd rfl hc
        · rw [Nat.zero_add, Nat.zero_add, Nat.zero_add, zpr_o (by omega) (by omega) (by omega), zpr_o (by omega) (by omega) (by omega), zpr_o (by omega) (by omega) (by omega), zup_nc (by omega), f0 208 (by omega) (by omega)]
          exact zRM_k hR hq
      | succ m ih =>
        intro t ht ν f0 f1 f2 fl
        refine sg_X11_prime_22 ⟨by omega, fun hc => absurd hc (by omega), fun _ => ⟨by omega, ?_⟩⟩
        rw [Int.toNat_natCast]
        have := ih (t + 1) (by omega) (zup ν 205 t 0) (fun i h1 h2 => (zup_nc h2).trans (f0 i h1 h2)) (fun j hj => (zup_ne (Or.inl (by omega))).trans (f1 j hj)) (by rw [zup_ne (Or.inl (by omega)), f2]) (fun s hs => by
          by_cases hst : s = t
          · rw [hst, zup_eq]
          · rw [zup_ne (Or.inr hst), fl s (by omega)])
        rw [Int.natCast_add] at this
        exact this
    exact loop 6 0 (by omega) _ (fun i h1 _ => zup_nc h1) (fun j hj => zup_ne (Or.inr hj)) (by rw [zup_eq]) (fun s hs => absurd hs (by omega))
  · rw [if_neg hq] at h ⊢
    exact ⟨by omega, fun hc => absurd rfl hc, fun _ => h.at rfl rfl hR (zKc.refl μ)⟩
def st_lay (A : zMu) (l s : Int) : Int × zMu := if ¬ (0 ≤ l ∧ l < 4) ∨ ¬ (0 ≤ s ∧ s < 6) then (-1, A) else if A 44 l.toNat < 0 ∨ A 2 s.toNat = 0 then (-11, A) else (min (A 44 l.toNat) (A 2 s.toNat), zua A (45 + l.toNat) (fun k => if (k : Int) < min (A 44 l.toNat) (A 2 s.toNat) then A (10 + s.toNat) k else A (45 + l.toNat) k))
theorem wf_lay (hw : zWF A) (l s : Int) : zWF (st_lay A l s).2 := by
  unfold st_lay
  have hp := zWF_p hw
  by_cases h1 : ¬ (0 ≤ l ∧ l < 4) ∨ ¬ (0 ≤ s ∧ s < 6)
  · rw [if_pos h1]; exact hw
  · rw [if_neg h1]
    by_cases h2 : A 44 l.toNat < 0 ∨ A 2 s.toNat = 0
    · rw [if_pos h2]; exact hw
    · rw [if_neg h2]
      obtain ⟨b1, b2, b3⟩ := zWF_s hw (s := s.toNat) (by omega)
      refine zWF_l hw (fun i hi => zua_nc (by omega)) (fun q hq => ?_)
      obtain ⟨c1, c2⟩ := hw.2.2.2.2 q hq
      dsimp only
      rw [zua_ne (by omega)]
      refine ⟨c1, fun k hk => ?_⟩
      by_cases hl : q = l.toNat
      · rw [hl, zua_eq]
        by_cases hkn : (k : Int) < min (A 44 l.toNat) (A 2 s.toNat)
        · rw [if_pos hkn]
          have := b3 k (by omega); omega
        · rw [if_neg hkn, ← hl]; exact c2 k hk
      · rw [zua_ne (by omega)]; exact c2 k hk
theorem cx_lay {l s : Int} (hw : zWF A) (hR : zRC A μ) (hl : zR l) (hs : zR s) (h : zHc φ μ (st_lay A l s)) : zOi g zm_X10_lay [.ref 0, .int (zJ l), .int (zJ s)] μ φ := by
  have h1 : ¬ (0 ≤ l ∧ l < 4) ∨ ¬ (0 ≤ s ∧ s < 6) → φ (-1) μ := fun q => h.at (if_pos q) rfl hR (zKm.refl μ)
  refine sg_X10_lay (ok_X10_isList hl (fun ql => ⟨by omega, fun hc => absurd hc (by omega), fun _ => ok_X10_isSeries hs (fun qs => ⟨by omega, fun _ => ⟨ql, ?_⟩, fun hc => absurd hc (by omega)⟩) (fun q => ⟨by omega, fun hc => absurd rfl hc, fun _ => h1 (by omega)⟩)⟩) (fun q => ⟨by omega, fun _ => h1 (by omega), fun hc => absurd rfl hc⟩))
  obtain ⟨l, rfl⟩ : ∃ q : Nat, l = q := ⟨l.toNat, by omega⟩
  obtain ⟨s, rfl⟩ : ∃ q : Nat, s = q := ⟨s.toNat, by omega⟩
  unfold st_lay at h
  rw [if_neg (by omega)] at h
  simp only [Int.toNat_natCast] at h ⊢
  obtain ⟨s1, s2, s3⟩ := zRC_sr hR (s := s) (by omega)
  obtain ⟨b1, b2, b3⟩ := zWF_s hw (s := s) (by omega)
  obtain ⟨t1, t2⟩ := hR.2.2.2.2.2 l (by omega)
  obtain ⟨c1, c2⟩ := hw.2.2.2.2 l (by omega)
  refine ⟨by omega, fun _ => h.at (if_pos (by omega)) rfl hR (zKm.refl μ), fun _ => ⟨qs, ok_X6_isMissing (zsr s (by omega)).1 (by omega) (fun m => ⟨by omega, fun _ => ⟨by omega, by omega, by omega, ?_⟩, fun hc => absurd rfl hc⟩) (fun m => ⟨by omega, fun hc => absurd hc (by omega), fun _ => h.at (if_pos (by omega)) rfl hR (zKm.refl μ)⟩)⟩⟩
  rw [t1, s2, show 7 + 2 * s + 1 = 8 + 2 * s by omega]
  refine h.at (if_neg (by omega)) rfl (zRC_l hR (fun i hi => zua_nc (by omega)) (fun i hi => zua_nc (by omega)) (fun q hq => ?_)) (fun i hi => zua_nc (by omega))
  obtain ⟨t1, t2⟩ := hR.2.2.2.2.2 q hq
  refine ⟨by unfold zcp; rw [zua_ne (by omega), zua_ne (by omega)]; exact t1, fun k hk => ?_⟩
  unfold zcp
  by_cases hql : q = l
  · rw [hql, zua_eq, zua_eq]
    by_cases hkn : (k : Int) < min (A 44 l) (A 2 s)
    · rw [if_pos (by omega), if_pos hkn, Nat.zero_add, Nat.sub_zero, s3 k (by omega)]
    · rw [if_neg (by omega), if_neg hkn, ← hql]; exact t2 k hk
  · rw [zua_ne (by omega), zua_ne (by omega)]; exact t2 k hk
theorem mx_lay {l s : Int} (hw : zWF A) (hR : zRM A μ) (hl : zR l) (hs : zR s) (h : zHm φ μ (st_lay A l s)) : zOi g zm_X11_lay [.ref 203, .int (zJ l), .int (zJ s)] μ φ := by
  have h1 : ¬ (0 ≤ l ∧ l < 4) ∨ ¬ (0 ≤ s ∧ s < 6) → φ (-1) μ := fun q => h.at (if_pos q) rfl hR (zKc.refl μ)
  refine sg_X11_lay (ok_X11_isList hl (fun ql => ⟨by omega, fun hc => absurd hc (by omega), fun _ => ok_X11_isSeries hs (fun qs => ⟨by omega, fun _ => ⟨ql, ?_⟩, fun hc => absurd hc (by omega)⟩) (fun q => ⟨by omega, fun hc => absurd rfl hc, fun _ => h1 (by omega)⟩)⟩) (fun q => ⟨by omega, fun _ => h1 (by omega), fun hc => absurd rfl hc⟩))
  obtain ⟨l, rfl⟩ : ∃ q : Nat, l = q := ⟨l.toNat, by omega⟩
  obtain ⟨s, rfl⟩ : ∃ q : Nat, s = q := ⟨s.toNat, by omega⟩
  unfold st_lay at h
  rw [if_neg (by omega)] at h
  simp only [Int.toNat_natCast] at h ⊢
  obtain ⟨s1, s2, s3⟩ := zRM_sr hR (s := s) (by omega)
  obtain ⟨b1, b2, b3⟩ := zWF_s hw (s := s) (by omega)
  obtain ⟨t1, t2⟩ := hR.2.2.2.2.1 l (by omega)
  obtain ⟨c1, c2⟩ := hw.2.2.2.2 l (by omega)
  refine ⟨by omega, fun _ => h.at (if_pos (by omega)) rfl hR (zKc.refl μ), fun _ => ok_X11_isThere (by omega) (by omega) (fun m => ⟨by omega, fun _ => ⟨qs, by omega, by omega, ?_⟩, fun hc => absurd hc (by omega)⟩) (fun m => ⟨by omega, fun hc => absurd rfl hc, fun _ => h.at (if_pos (by omega)) rfl hR (zKc.refl μ)⟩)⟩
  rw [t1, s2]
  rw [if_neg (by omega)] at h
  obtain ⟨n, hn⟩ : ∃ n : Nat, min (A 44 l) (A 2 s) = n := ⟨(min (A 44 l) (A 2 s)).toNat, by omega⟩
  rw [hn] at h ⊢
  have loop : ∀ m t : Nat, t + m = n → at_X11_lay_55 g φ (l : Int) (s : Int) (n : Int) (t : Int) (zua μ 230 (fun k => if 80 * l ≤ k ∧ k < 80 * l + t then A (10 + s) (k - 80 * l) else μ 230 k)) := by
    intro m
    induction m with
    | zero =>
      intro t ht
      have e : t = n := by omega
      subst e
      refine sg_X11_lay_55 ⟨by omega, by omega, fun _ => h.at rfl rfl (zRM_l hR (fun i hi => zua_nc (by omega)) (fun j hj => zua_ne (by omega)) (fun i a b c => zua_nc c) (fun q hq => ?_)) (fun i hi => zua_nc (by omega)), fun hc => absurd hc (by omega)⟩
      obtain ⟨t1, t2⟩ := hR.2.2.2.2.1 q hq
      refine ⟨by rw [zua_ne (by omega), zua_ne (by omega)]; exact t1, fun k hk => ?_⟩
      rw [zua_eq]
      by_cases hql : q = l
      · rw [hql, zua_eq]
        by_cases hkn : (k : Int) < (t : Int)
        · rw [if_pos (by omega), if_pos hkn, show 80 * l + k - 80 * l = k by omega]
        · rw [if_neg (by omega), if_neg hkn, ← hql]; exact t2 k hk
      · rw [if_neg (by omega), zua_ne (by omega)]; exact t2 k hk
    | succ m ih =>
      intro t ht
      have k2 := ih (t + 1) (by omega)
      rw [Int.natCast_add] at k2
      refine sg_X11_lay_55 ⟨by omega, by omega, fun hc => absurd hc (by omega), fun _ => ⟨by omega, by omega, ?_⟩⟩
      rw [show Int.toNat (80 * (l : Int) + (t : Int)) = 80 * l + t by omega, show Int.toNat (80 * (s : Int) + (t : Int)) = 80 * s + t by omega, zua_ne (by omega), s3 t (by omega), zup_zua, zua_congr (h := fun k => if 80 * l ≤ k ∧ k < 80 * l + (t + 1) then A (10 + s) (k - 80 * l) else μ 230 k) (fun b => by
        by_cases hb : b = 80 * l + t
        · rw [if_pos hb, if_pos (by omega), hb, show 80 * l + t - 80 * l = t by omega]
        · rw [if_neg hb]
          by_cases hc : 80 * l ≤ b ∧ b < 80 * l + t
          · rw [if_pos hc, if_pos (by omega)]
          · rw [if_neg hc, if_neg (by omega)])]
      exact k2
  have k0 := loop n 0 (by omega)
  rw [zua_self (fun b => if_neg (by omega))] at k0
  exact k0
def zjg (L S : Nat → Int) (n m : Int) : Nat → Nat → Int
  | 0, _ => -5
  | f + 1, i => if n ≤ i then -5 else if m ≤ i then i else if L i = S i then zjg L S n m f (i + 1) else i
def rd_judge (A : zMu) (l s : Int) : Int := if ¬ (0 ≤ l ∧ l < 4) ∨ ¬ (0 ≤ s ∧ s < 6) then -1 else if A 44 l.toNat < 0 ∨ A 2 s.toNat = 0 then -11 else zjg (A (45 + l.toNat)) (A (10 + s.toNat)) (A 44 l.toNat) (A 2 s.toNat) 81 0
theorem cx_judge {l s : Int} (hw : zWF A) (hR : zRC A μ) (hl : zR l) (hs : zR s) (h : zHc φ μ (rd_judge A l s, A)) : zOi g zm_X10_judge [.ref 0, .int (zJ l), .int (zJ s)] μ φ := by
  have hp := zWF_p hw
  have h1 : ¬ (0 ≤ l ∧ l < 4) ∨ ¬ (0 ≤ s ∧ s < 6) → φ (-1) μ := fun q => h.rd (if_pos q) hR (zKm.refl μ)
  refine sg_X10_judge (ok_X10_isList hl (fun ql => ⟨by omega, fun hc => absurd hc (by omega), fun _ => ok_X10_isSeries hs (fun qs => ⟨by omega, fun _ => ⟨qs, ql, ?_⟩, fun hc => absurd hc (by omega)⟩) (fun q => ⟨by omega, fun hc => absurd rfl hc, fun _ => h1 (by omega)⟩)⟩) (fun q => ⟨by omega, fun _ => h1 (by omega), fun hc => absurd rfl hc⟩))
  obtain ⟨l, rfl⟩ : ∃ q : Nat, l = q := ⟨l.toNat, by omega⟩
  obtain ⟨s, rfl⟩ : ∃ q : Nat, s = q := ⟨s.toNat, by omega⟩
  unfold rd_judge at h
  rw [if_neg (by omega)] at h
  simp only [Int.toNat_natCast] at h ⊢
  obtain ⟨s1, s2, s3⟩ := zRC_sr hR (s := s) (by omega)
  obtain ⟨b1, b2, b3⟩ := zWF_s hw (s := s) (by omega)
  obtain ⟨t1, t2⟩ := hR.2.2.2.2.2 l (by omega)
  obtain ⟨c1, c2⟩ := hw.2.2.2.2 l (by omega)
  refine ⟨by omega, fun _ => h.rd (if_pos (by omega)) hR (zKm.refl μ), fun _ => ok_X6_isMissing (zsr s (by omega)).1 (by omega) (fun m => ⟨by omega, fun _ => ?_, fun hc => absurd rfl hc⟩) (fun m => ⟨by omega, fun hc => absurd hc (by omega), fun _ => h.rd (if_pos (by omega)) hR (zKm.refl μ)⟩)⟩
  rw [if_neg (by omega)] at h
  have loop : ∀ f i : Nat, f + i = 81 → φ (zjg (A (45 + l)) (A (10 + s)) (A 44 l) (A 2 s) f i) μ → at_X10_judge_48 g φ (l : Int) (7 + 2 * s) (i : Int) μ := by
    intro f
    induction f with
    | zero =>
      intro i hi hh
      refine sg_X10_judge_48 (zsr s (by omega)).1 ?_
      rw [Int.toNat_natCast, t1]
      exact ⟨ql, by omega, by omega, fun _ => hh, fun hc => absurd hc (by omega)⟩
    | succ f ih =>
      intro i hi hh
      rw [zjg] at hh
      refine sg_X10_judge_48 (zsr s (by omega)).1 ?_
      simp only [Int.toNat_natCast]
      rw [t1, s2, show 7 + 2 * s + 1 = 8 + 2 * s by omega]
      refine ⟨ql, by omega, by omega, fun hc => ?_, fun hc => ⟨by omega, fun hc2 => ?_, fun hc2 => ?_⟩⟩
      · rw [if_pos hc] at hh; exact hh
      · rw [if_neg (by omega), if_pos hc2] at hh; exact hh
      · rw [if_neg (by omega), if_neg (by omega)] at hh
        rw [t2 i (by omega), s3 i hc2]
        have := b3 i (by omega)
        refine ⟨by omega, c2 i (by omega), by omega, fun hq => ?_, fun hq => ?_⟩
        · rw [if_pos hq] at hh
          have := ih (i + 1) (by omega) hh
          rw [Int.natCast_add] at this
          exact this
        · rw [if_neg hq] at hh; exact hh
  exact loop 81 0 (by omega) (h.rd rfl hR (zKm.refl μ))
theorem mx_judge {l s : Int} (hw : zWF A) (hR : zRM A μ) (hl : zR l) (hs : zR s) (h : zHm φ μ (rd_judge A l s, A)) : zOi g zm_X11_judge [.ref 203, .int (zJ l), .int (zJ s)] μ φ := by
  have hp := zWF_p hw
  have h1 : ¬ (0 ≤ l ∧ l < 4) ∨ ¬ (0 ≤ s ∧ s < 6) → φ (-1) μ := fun q => h.rd (if_pos q) hR (zKc.refl μ)
  refine sg_X11_judge (ok_X11_isList hl (fun ql => ⟨by omega, fun hc => absurd hc (by omega), fun _ => ok_X11_isSeries hs (fun qs => ⟨by omega, fun _ => ⟨ql, ?_⟩, fun hc => absurd hc (by omega)⟩) (fun q => ⟨by omega, fun hc => absurd rfl hc, fun _ => h1 (by omega)⟩)⟩) (fun q => ⟨by omega, fun _ => h1 (by omega), fun hc => absurd rfl hc⟩))
  obtain ⟨l, rfl⟩ : ∃ q : Nat, l = q := ⟨l.toNat, by omega⟩
  obtain ⟨s, rfl⟩ : ∃ q : Nat, s = q := ⟨s.toNat, by omega⟩
  unfold rd_judge at h
  rw [if_neg (by omega)] at h
  simp only [Int.toNat_natCast] at h ⊢
  obtain ⟨s1, s2, s3⟩ := zRM_sr hR (s := s) (by omega)
  obtain ⟨b1, b2, b3⟩ := zWF_s hw (s := s) (by omega)
  obtain ⟨t1, t2⟩ := hR.2.2.2.2.1 l (by omega)
  obtain ⟨c1, c2⟩ := hw.2.2.2.2 l (by omega)
  refine ⟨by omega, fun _ => h.rd (if_pos (by omega)) hR (zKc.refl μ), fun _ => ok_X11_isThere (by omega) (by omega) (fun m => ⟨by omega, fun _ => ?_, fun hc => absurd hc (by omega)⟩) (fun m => ⟨by omega, fun hc => absurd rfl hc, fun _ => h.rd (if_pos (by omega)) hR (zKc.refl μ)⟩)⟩
  rw [if_neg (by omega)] at h
  have loop : ∀ f i : Nat, f + i = 81 → φ (zjg (A (45 + l)) (A (10 + s)) (A 44 l) (A 2 s) f i) μ → at_X11_judge_38 g φ (l : Int) (s : Int) (i : Int) μ := by
    intro f
    induction f with
    | zero =>
      intro i hi hh
      refine sg_X11_judge_38 ?_
      rw [Int.toNat_natCast, t1]
      exact ⟨ql, by omega, by omega, fun _ => hh, fun hc => absurd hc (by omega)⟩
    | succ f ih =>
      intro i hi hh
      rw [zjg] at hh
      refine sg_X11_judge_38 ?_
      simp only [Int.toNat_natCast]
      rw [t1, s2, show Int.toNat (80 * (l : Int) + (i : Int)) = 80 * l + i by omega, show Int.toNat (80 * (s : Int) + (i : Int)) = 80 * s + i by omega]
      refine ⟨ql, by omega, by omega, fun hc => ?_, fun hc => ⟨qs, by omega, fun hc2 => ?_, fun hc2 => ?_⟩⟩
      · rw [if_pos hc] at hh; exact hh
      · rw [if_neg (by omega), if_pos hc2] at hh; exact hh
      · rw [if_neg (by omega), if_neg (by omega)] at hh
        rw [t2 i (by omega), s3 i hc2]
        have := b3 i (by omega)
        refine ⟨by omega, by omega, c2 i (by omega), by omega, fun hq => ?_, fun hq => ?_⟩
        · rw [if_pos hq] at hh
          have := ih (i + 1) (by omega) hh
          rw [Int.natCast_add] at this
          exact this
        · rw [if_neg hq] at hh; exact hh
  exact loop 81 0 (by omega) (h.rd rfl hR (zKc.refl μ))
end PRM
