/-! JOINED -/
section JOI
variable {g : zG} {φ : Int → zMu → Prop} {μ A : zMu}
theorem zpq_all : zprs.all (fun p => zprs.all (fun q => p == q || Nat.blt 0 (q % p))) = true := by decide +kernel
theorem zP_ne {p q : Int} (hp : zP p) (hq : zP q) (h : q ≠ p) : q % p ≠ 0 := by
  obtain ⟨P, hP, rfl⟩ := hp
  obtain ⟨Q, hQ, rfl⟩ := hq
  have := List.all_eq_true.1 (List.all_eq_true.1 zpq_all P hP) Q hQ
  rw [Bool.or_eq_true] at this
  rcases this with e | e
  · exact absurd (by rw [eq_of_beq e]) h
  · rw [Nat.blt_eq] at e
    rw [← Int.natCast_emod]; omega
/-- the common degree of the first n: 0 none, -1 they differ -/
def zdg (A : zMu) : Nat → Int
  | 0 => 0
  | n + 1 => if A 5 n = 0 then zdg A n else if zdg A n = -1 then -1 else if zdg A n = 0 then A 6 n else if A 6 n = zdg A n then zdg A n else -1
theorem zdg_stay {m : Nat} (h : zdg A m = -1) : ∀ n, m ≤ n → zdg A n = -1
  | 0, h2 => by rw [show m = 0 by omega] at h; exact h
  | n + 1, h2 => by
    by_cases e : m = n + 1
    · rw [← e]; exact h
    · rw [zdg, zdg_stay h n (by omega)]
      split
      · rfl
      · rw [if_pos rfl]
theorem zdg_bd (hw : zWF A) : ∀ n, n ≤ 8 → -1 ≤ zdg A n ∧ zdg A n ≤ 8
  | 0, _ => ⟨by show -1 ≤ (0 : Int); omega, by show (0 : Int) ≤ 8; omega⟩
  | n + 1, h => by
    have ih := zdg_bd hw n (by omega)
    rw [zdg]
    by_cases h1 : A 5 n = 0
    · rw [if_pos h1]; exact ih
    · rw [if_neg h1]
      have b := ((zWF_k hw (q := n) (by omega)).resolve_left h1).2.1
      by_cases h2 : zdg A n = -1
      · rw [if_pos h2]; omega
      · rw [if_neg h2]
        by_cases h3 : zdg A n = 0
        · rw [if_pos h3]; omega
        · rw [if_neg h3]
          split <;> omega
theorem zdg_all (hw : zWF A) : ∀ n, n ≤ 8 → 0 < zdg A n → ∀ q, q < n → A 5 q ≠ 0 → A 6 q = zdg A n
  | 0, _, _ => fun q hq => absurd hq (by omega)
  | n + 1, h, hpos => fun q hq h5 => by
    have ih := zdg_all hw n (by omega)
    have ib := zdg_bd hw n (by omega)
    rw [zdg] at hpos ⊢
    by_cases h1 : A 5 n = 0
    · rw [if_pos h1] at hpos ⊢
      exact ih hpos q (by have : q ≠ n := fun e => h5 (e ▸ h1); omega) h5
    · rw [if_neg h1] at hpos ⊢
      by_cases h2 : zdg A n = -1
      · rw [if_pos h2] at hpos; omega
      · rw [if_neg h2] at hpos ⊢
        by_cases h3 : zdg A n = 0
        · rw [if_pos h3] at hpos ⊢
          by_cases e : q = n
          · rw [e]
          · exfalso
            have key : ∀ m, m ≤ 8 → zdg A m = 0 → ∀ r, r < m → A 5 r = 0 := by
              intro m
              induction m with
              | zero => exact fun _ _ r hr => absurd hr (by omega)
              | succ m im =>
                intro hm hz r hr
                rw [zdg] at hz
                by_cases g1 : A 5 m = 0
                · rw [if_pos g1] at hz
                  by_cases e : r = m
                  · rw [e]; exact g1
                  · exact im (by omega) hz r (by omega)
                · rw [if_neg g1] at hz
                  have b := ((zWF_k hw (q := m) (by omega)).resolve_left g1).2.1
                  by_cases g2 : zdg A m = -1
                  · rw [if_pos g2] at hz; omega
                  · rw [if_neg g2] at hz
                    by_cases g3 : zdg A m = 0
                    · rw [if_pos g3] at hz; omega
                    · rw [if_neg g3] at hz
                      split at hz <;> omega
            exact h5 (key n (by omega) h3 q (by omega))
        · rw [if_neg h3] at hpos ⊢
          by_cases h4 : A 6 n = zdg A n
          · rw [if_pos h4] at hpos ⊢
            by_cases e : q = n
            · rw [e]; exact h4
            · exact ih hpos q (by omega) h5
          · rw [if_neg h4] at hpos; omega
/-- the number that is right for the first n -/
def zcr (A : zMu) (t : Nat) : Nat → Int
  | 0 => 0
  | n + 1 => if A 5 n = 0 then zcr A t n else zcr A t n + zkp A n * (((A (20 + n) t + A 5 n - zcr A t n % A 5 n) % A 5 n * zI (A 5 n) (zkp A n % A 5 n)) % A 5 n)
theorem zkp_bd (hw : zWF A) : ∀ n, n ≤ 8 → 1 ≤ zkp A n ∧ zkp A n ≤ 199 ^ n
  | 0, _ => ⟨Int.le_refl _, Int.le_refl _⟩
  | n + 1, h => by
    obtain ⟨i1, i2⟩ := zkp_bd hw n (by omega)
    have b := zWF_k0 hw (q := n) (by omega)
    rw [zkp]
    have hb : 1 ≤ (if A 5 n = 0 then (1 : Int) else A 5 n) ∧ (if A 5 n = 0 then (1 : Int) else A 5 n) ≤ 199 := by
      split <;> omega
    refine ⟨zmul_1 i1 hb.1, ?_⟩
    rw [show (199 : Int) ^ (n + 1) = 199 ^ n * 199 from Int.pow_succ _ _]
    exact Int.mul_le_mul i2 hb.2 (by omega) (by omega)
theorem zkp_8 (hw : zWF A) {n : Nat} (hn : n ≤ 8) : 1 ≤ zkp A n ∧ zkp A n ≤ 2459374191553118401 := by
  obtain ⟨h1, h2⟩ := zkp_bd hw n hn
  have : n = 0 ∨ n = 1 ∨ n = 2 ∨ n = 3 ∨ n = 4 ∨ n = 5 ∨ n = 6 ∨ n = 7 ∨ n = 8 := by omega
  rcases this with q | q | q | q | q | q | q | q | q <;> subst q <;> exact ⟨h1, Int.le_trans h2 (by decide)⟩
theorem zcr_bd (hw : zWF A) {t : Nat} : ∀ n, n ≤ 8 → 0 ≤ zcr A t n ∧ zcr A t n < zkp A n
  | 0, _ => ⟨Int.le_refl _, by show (0 : Int) < 1; omega⟩
  | n + 1, h => by
    obtain ⟨i1, i2⟩ := zcr_bd hw n (by omega) (t := t)
    have k1 := (zkp_bd hw n (by omega)).1
    have b := zWF_k0 hw (q := n) (by omega)
    rw [zcr, zkp]
    by_cases h1 : A 5 n = 0
    · rw [if_pos h1, if_pos h1, Int.mul_one]; exact ⟨i1, i2⟩
    · rw [if_neg h1, if_neg h1]
      have hm := zemod_lt (x := (A (20 + n) t + A 5 n - zcr A t n % A 5 n) % A 5 n * zI (A 5 n) (zkp A n % A 5 n)) (p := A 5 n) (by omega)
      generalize (A (20 + n) t + A 5 n - zcr A t n % A 5 n) % A 5 n * zI (A 5 n) (zkp A n % A 5 n) % A 5 n = s at hm
      have m1 : 0 ≤ zkp A n * s := Int.mul_nonneg (by omega) hm.1
      have m2 : zkp A n * s ≤ zkp A n * (A 5 n - 1) := Int.mul_le_mul_of_nonneg_left (by omega) (by omega)
      rw [Int.mul_sub, Int.mul_one] at m2
      omega
theorem zkp_co (hw : zWF A) {r : Nat} (hr : r < 8) (h0 : A 5 r ≠ 0) : ∀ n, n ≤ r → zkp A n % A 5 r ≠ 0
  | 0, _ => by
    have hp := ((zWF_k hw hr).resolve_left h0).1
    have := zP_bd hp
    show (1 : Int) % A 5 r ≠ 0
    rw [zmod1 (by omega)]; omega
  | n + 1, h => fun e => by
    have hp := ((zWF_k hw hr).resolve_left h0).1
    have ih := zkp_co hw hr h0 n (by omega)
    rw [zkp] at e
    by_cases h1 : A 5 n = 0
    · rw [if_pos h1, Int.mul_one] at e; exact ih e
    · rw [if_neg h1] at e
      have hq := ((zWF_k hw (q := n) (by omega)).resolve_left h1).1
      exact zP_ne hp hq (fun z => by have := zWF_u hw (q := n) (by omega) hr h1 z; omega) (zP_nz hp ih e)
def rd_joined (A : zMu) (i k : Int) : Int := if zdg A 8 ≤ 0 ∨ i < 0 ∨ zdg A 8 < i ∨ k < 0 ∨ zdg A 8 < k then -9223372036854775808 else if zkp A 8 < 2 * zcr A (9 * i.toNat + k.toNat) 8 then zcr A (9 * i.toNat + k.toNat) 8 - zkp A 8 else zcr A (9 * i.toNat + k.toNat) 8
theorem ok_X0_commonDegree (hw : zWF A) (hR : zRC A μ) (h : φ (if zdg A 8 = -1 then 0 else zdg A 8) μ) : zOi g zm_X0_commonDegree [.ref 1] μ φ := by
  refine sg_X0_commonDegree zc_1 ?_
  have loop : ∀ m t : Nat, t + m = 8 → zdg A t ≠ -1 → at_X0_commonDegree_4 g φ 1 (zdg A t) (t : Int) μ := by
    intro m
    induction m with
    | zero =>
      intro t ht hne
      have e : t = 8 := by omega
      subst e
      rw [if_neg hne] at h
      exact sg_X0_commonDegree_4 zc_1 ⟨by omega, fun _ => h, fun hc => absurd hc (by omega)⟩
    | succ m ih =>
      intro t ht hne
      have k2 := ih (t + 1) (by omega)
      rw [Int.natCast_add, zdg] at k2
      have t1 := zRC_k hR (q := t) (by omega)
      have hb := zWF_k hw (q := t) (by omega)
      have ib := zdg_bd hw t (by omega)
      refine sg_X0_commonDegree_4 zc_1 ⟨by omega, fun hc => absurd hc (by omega), fun _ => ⟨by omega, ?_⟩⟩
      rw [Int.toNat_natCast, show 1 + 18 + 2 * t = 19 + 2 * t by omega]
      rcases t1 with q | q
      · rw [if_pos q.1] at k2
        exact ok_X3_isMissing (zsk t (by omega)).1 (by omega) (fun q2 => absurd q.2 q2) (fun _ => ⟨by omega, fun _ => k2 hne, fun hc => absurd hc (by omega)⟩)
      · have b := (hb.resolve_left q.1).2.1
        rw [if_neg q.1, if_neg hne] at k2
        refine ok_X3_isMissing (zsk t (by omega)).1 (by omega) (fun _ => ⟨by omega, fun hc => absurd rfl hc, fun _ => ?_⟩) (fun q2 => by omega)
        rw [q.2.1]
        refine ⟨by omega, fun z => ?_, fun z => ⟨by omega, fun e => ?_, fun e => ?_⟩⟩
        · rw [if_pos z] at k2; exact k2 (by omega)
        · rw [if_neg z, if_pos e] at k2; rw [e]; exact k2 hne
        · have hs : zdg A (t + 1) = -1 := by rw [zdg, if_neg q.1, if_neg hne, if_neg z, if_neg e]
          rw [if_pos (zdg_stay hs 8 (by omega))] at h; exact h
  exact loop 8 0 (by omega) (by show (0 : Int) ≠ -1; omega)
theorem cx_joined {i k : Int} (hw : zWF A) (hR : zRC A μ) (hi : zR i) (hk : zR k) (h : zHc φ μ (rd_joined A i k, A)) : zOl g zm_X10_joined [.ref 0, .int (zJ i), .int (zJ k)] μ φ := by
  have hd := zdg_bd hw 8 (by omega)
  have hN : zdg A 8 ≤ 0 ∨ i < 0 ∨ zdg A 8 < i ∨ k < 0 ∨ zdg A 8 < k → φ (-9223372036854775808) μ := fun q => h.rd (if_pos q) hR (zKm.refl μ)
  have fin : ¬ (zdg A 8 ≤ 0 ∨ i < 0 ∨ zdg A 8 < i ∨ k < 0 ∨ zdg A 8 < k) → ∀ x : Int, x = 9 * i + k → zOl g zm_X0_joinAt [.ref 1, .int (zJ x)] μ φ := fun hq x hx => by
    obtain ⟨i, rfl⟩ : ∃ q : Nat, i = q := ⟨i.toNat, by omega⟩
    obtain ⟨k, rfl⟩ : ∃ q : Nat, k = q := ⟨k.toNat, by omega⟩
    unfold rd_joined at h
    rw [if_neg hq, Int.toNat_natCast, Int.toNat_natCast] at h
    obtain ⟨t, ht⟩ : ∃ t : Nat, 9 * i + k = t := ⟨_, rfl⟩
    rw [ht] at h
    rw [show x = (t : Int) by omega]
    refine sg_X0_joinAt zc_1 ?_
    have loop : ∀ m n : Nat, n + m = 8 → at_X0_joinAt_8 g φ 1 (t : Int) (zkp A n) (zcr A t n) (n : Int) μ := by
      intro m
      induction m with
      | zero =>
        intro n hn
        have e : n = 8 := by omega
        subst e
        have b1 := zkp_8 hw (n := 8) (by omega)
        have b2 := zcr_bd hw (t := t) 8 (by omega)
        have z := zcmp_3 (2 * zcr A t 8) (zkp A 8)
        exact sg_X0_joinAt_8 zc_1 ⟨by omega, fun _ => ⟨by omega, by omega, by omega, fun hc => h.rd (if_neg (by omega)) hR (zKm.refl μ), fun hc => h.rd (if_pos (by omega)) hR (zKm.refl μ)⟩, fun hc => absurd hc (by omega)⟩
      | succ m ih =>
        intro n hn
        have k2 := ih (n + 1) (by omega)
        rw [Int.natCast_add, zkp, zcr] at k2
        have t1 := zRC_k hR (q := n) (by omega)
        have hb := zWF_k hw (q := n) (by omega)
        have b1 := zkp_8 hw (n := n) (by omega)
        have b2 := zcr_bd hw (t := t) n (by omega)
        refine sg_X0_joinAt_8 zc_1 ⟨by omega, fun hc => absurd hc (by omega), fun _ => ⟨by omega, ?_⟩⟩
        rw [Int.toNat_natCast, Int.toNat_natCast, show 1 + 18 + 2 * n = 19 + 2 * n by omega]
        rcases t1 with q | q
        · rw [if_pos q.1, if_pos q.1, Int.mul_one] at k2
          exact ok_X3_isMissing (zsk n (by omega)).1 (by omega) (fun q2 => absurd q.2 q2) (fun _ => ⟨by omega, fun _ => k2, fun hc => absurd hc (by omega)⟩)
        · obtain ⟨hP, b, hmod, _⟩ := hb.resolve_left q.1
          have hpb := zP_bd hP
          rw [if_neg q.1, if_neg q.1] at k2
          refine ok_X3_isMissing (zsk n (by omega)).1 (by omega) (fun _ => ⟨by omega, fun hc => absurd rfl hc, fun _ => ?_⟩) (fun q2 => by omega)
          have hco := zkp_co hw (r := n) (by omega) q.1 n (Nat.le_refl n)
          have hpm := zemod_lt (x := zkp A n) (p := A 5 n) (by omega)
          have hcm := zemod_lt (x := zcr A t n) (p := A 5 n) (by omega)
          have hct := hmod t (by omega)
          have hI := zI_ok hP (x := zkp A n % A 5 n) (by omega) (by omega)
          have hmm := zemod_lt (x := A (20 + n) t + A 5 n - zcr A t n % A 5 n) (p := A 5 n) (by omega)
          have hprod := zmul_bd hmm ⟨hI.1, hI.2.1⟩ hpb.2
          have hll := zemod_lt (x := (A (20 + n) t + A 5 n - zcr A t n % A 5 n) % A 5 n * zI (A 5 n) (zkp A n % A 5 n)) (p := A 5 n) (by omega)
          rw [show 1 + 5 = 6 from rfl, q.2.2.1, show 19 + 2 * n + 1 = 20 + 2 * n by omega, q.2.2.2 t (by omega), ztm b2.1, ztm (x := zkp A n) (by omega), ztm (x := A (20 + n) t + A 5 n - zcr A t n % A 5 n) (by omega)]
          refine ⟨by omega, by omega, by omega, by omega, by omega, by omega, by omega, ok_X10_inverse hP (by omega) (by omega) ?_⟩
          rw [ztm hprod.1]
          exact ⟨by omega, by omega, k2⟩
    exact loop 8 0 (by omega)
  refine sg_X10_joined (ok_X0_commonDegree hw hR ?_)
  have e : ∀ P : Prop, ((if zdg A 8 = -1 then 0 else zdg A 8) = 0 ∧ zdg A 8 ≤ 0 → P) → ((if zdg A 8 = -1 then 0 else zdg A 8) = zdg A 8 ∧ 0 < zdg A 8 → P) → P := fun P p1 p2 => by
    by_cases z : zdg A 8 = -1
    · exact p1 ⟨if_pos z, by omega⟩
    · by_cases z2 : zdg A 8 = 0
      · exact p1 ⟨(if_neg z).trans z2, by omega⟩
      · exact p2 ⟨if_neg z, by omega⟩
  refine e _ (fun ⟨e1, e2⟩ => ?_) (fun ⟨e1, e2⟩ => ?_)
  · rw [e1]
    exact ⟨by omega, fun _ => hN (by omega), fun hc => absurd rfl hc⟩
  · rw [e1]
    refine ⟨by omega, fun hc => hN (by omega), fun _ => ⟨hi, fun _ => hN (by omega), fun _ => ⟨fun _ => hN (by omega), fun _ => ⟨hk, fun _ => hN (by omega), fun _ => ⟨fun _ => fin (by omega) _ rfl, fun _ => hN (by omega)⟩⟩⟩⟩⟩
theorem ok_X11_joinedDegree (hw : zWF A) (hR : zRM A μ) (h : φ (if zdg A 8 ≤ 0 then -1 else zdg A 8) μ) : zOi g zm_X11_joinedDegree [.ref 203] μ φ := by
  refine sg_X11_joinedDegree ?_
  obtain ⟨z1, z2, z3, z4⟩ := zand_x
  have loop : ∀ m t : Nat, t + m = 8 → ∀ v1 v2 : Int, ((v2 = 1 ∧ zdg A t ≠ -1 ∧ v1 = if zdg A t = 0 then -1 else zdg A t) ∨ (v2 = 0 ∧ zdg A t = -1 ∧ 1 ≤ v1 ∧ v1 ≤ 8)) → at_X11_joinedDegree_6 g φ v1 v2 (t : Int) μ := by
    intro m
    induction m with
    | zero =>
      intro t ht v1 v2 hs
      have e : t = 8 := by omega
      subst e
      have ib := zdg_bd hw 8 (by omega)
      refine sg_X11_joinedDegree_6 ⟨by omega, fun _ => ⟨by omega, fun q => ?_, fun q => ?_⟩, fun hc => absurd hc (by omega)⟩
      · rw [if_pos (by omega)] at h; exact h
      · rcases hs with ⟨s1, s2, s3⟩ | ⟨s1, s2, s3⟩
        · by_cases z : zdg A 8 = 0
          · rw [if_pos (by omega)] at h; rw [if_pos z] at s3; rw [s3]; exact h
          · rw [if_neg (by omega)] at h; rw [if_neg z] at s3; rw [s3]; exact h
        · exact absurd s1 q
    | succ m ih =>
      intro t ht v1 v2 hs
      have ib := zdg_bd hw t (by omega)
      have hb := zWF_k hw (q := t) (by omega)
      have hb0 := zWF_k0 hw (q := t) (by omega)
      have next : ∀ w1 w2 : Int, ((w2 = 1 ∧ zdg A (t + 1) ≠ -1 ∧ w1 = if zdg A (t + 1) = 0 then -1 else zdg A (t + 1)) ∨ (w2 = 0 ∧ zdg A (t + 1) = -1 ∧ 1 ≤ w1 ∧ w1 ≤ 8)) → at_X11_joinedDegree_6 g φ w1 w2 ((t : Int) + 1) μ := fun w1 w2 hh => by
        have := ih (t + 1) (by omega) w1 w2 hh
        rw [Int.natCast_add] at this
        exact this
      refine sg_X11_joinedDegree_6 ⟨by omega, fun hc => absurd hc (by omega), fun _ => ok_X11_keptPrime hR (by omega) ⟨by omega, fun q => next v1 v2 ?_, fun q => ?_⟩⟩
      · rw [zdg, if_pos (show A 5 t = 0 by omega)]; exact hs
      · have h5 : A 5 t ≠ 0 := by omega
        have b := (hb.resolve_left h5).2.1
        obtain ⟨u1, u2⟩ := zRM_k hR (q := t) (by omega)
        have u3 := (u2 h5).1
        rw [show Int.toNat (83 * (t : Int) + 1) = 83 * t + 1 by omega, u3]
        have hz : zdg A (t + 1) = if zdg A t = -1 then -1 else if zdg A t = 0 then A 6 t else if A 6 t = zdg A t then zdg A t else -1 := by rw [zdg, if_neg h5]
        refine ⟨by split at hs <;> omega, fun q1 => ⟨by omega, next _ _ ?_⟩, fun q1 => ⟨by omega, by omega, fun q2 => next _ _ ?_, fun q2 => next _ _ ?_⟩⟩
        · rcases hs with ⟨s1, s2, s3⟩ | ⟨s1, s2, s3⟩
          · have z0 : zdg A t = 0 := by
              by_cases z : zdg A t = 0
              · exact z
              · rw [if_neg z] at s3; omega
            rw [if_neg s2, if_pos z0] at hz
            exact Or.inl ⟨by rw [s1]; exact z4, by omega, by rw [hz, if_neg (by omega)]⟩
          · omega
        · refine Or.inr ⟨?_, ?_, b⟩
          · rcases hs with ⟨s1, _⟩ | ⟨s1, _⟩ <;> rw [s1] <;> assumption
          · rcases hs with ⟨s1, s2, s3⟩ | ⟨s1, s2, s3⟩
            · have z0 : zdg A t ≠ 0 := fun z => by rw [if_pos z] at s3; omega
              rw [if_neg z0] at s3
              rw [hz, if_neg s2, if_neg z0, if_neg (by omega)]
            · rw [hz, if_pos s2]
        · rcases hs with ⟨s1, s2, s3⟩ | ⟨s1, s2, s3⟩
          · have z0 : zdg A t ≠ 0 := fun z => by rw [if_pos z] at s3; omega
            rw [if_neg z0] at s3
            rw [if_neg s2, if_neg z0, if_pos (by omega)] at hz
            exact Or.inl ⟨by rw [s1]; exact z4, by omega, by rw [hz, if_neg z0]; omega⟩
          · exact Or.inr ⟨by rw [s1]; exact z2, by rw [hz, if_pos s2], b⟩
  exact loop 8 0 (by omega) (-1) 1 (Or.inl ⟨rfl, by show (0 : Int) ≠ -1; omega, by rw [if_pos (show zdg A 0 = 0 from rfl)]⟩)
theorem zsol {p c P x : Int} (hp : zP p) (hP : P % p ≠ 0) (hx : 0 ≤ x ∧ x < p) : (c + P * (((x + p - c % p) % p * zI p (P % p)) % p)) % p = x := by
  have hpb := zP_bd hp
  have hpm := zemod_lt (x := P) (p := p) (by omega)
  have hI := (zI_ok hp (x := P % p) (by omega) (by omega)).2.2
  rw [zmm] at hI
  have e : (P * (((x + p - c % p) % p * zI p (P % p)) % p)) % p = (x + p - c % p) % p := by
    rw [zmm2, show P * ((x + p - c % p) % p * zI p (P % p)) = (x + p - c % p) % p * (P * zI p (P % p)) by rw [← Int.mul_assoc, Int.mul_comm P, Int.mul_assoc], ← zmm2, hI, Int.mul_one, Int.emod_emod]
  rw [Int.add_emod, e]
  rw [Int.add_comm (c % p), Int.emod_add_emod, show x + p - c % p + c % p = x + p by omega, Int.add_emod_right, Int.emod_eq_of_lt hx.1 hx.2]
theorem zsol1 {p c P s s' : Int} (hp : zP p) (hP : P % p ≠ 0) (h : s < s') (h2 : s' < s + p) (e : (c + P * s) % p = (c + P * s') % p) : False := by
  have e1 := (Int.emod_eq_emod_iff_emod_sub_eq_zero).1 e.symm
  rw [show c + P * s' - (c + P * s) = P * (s' - s) by rw [Int.mul_sub]; omega] at e1
  have e2 := zP_nz hp hP e1
  rw [Int.emod_eq_of_lt (by omega) (by omega)] at e2
  omega
theorem mx_joined {i k : Int} (hw : zWF A) (hR : zRM A μ) (hi : zR i) (hk : zR k) (h : zHm φ μ (rd_joined A i k, A)) : zOl g zm_X11_joined [.ref 203, .int (zJ i), .int (zJ k)] μ φ := by
  have hd := zdg_bd hw 8 (by omega)
  have hN : zdg A 8 ≤ 0 ∨ i < 0 ∨ zdg A 8 < i ∨ k < 0 ∨ zdg A 8 < k → φ (-9223372036854775808) μ := fun q => h.rd (if_pos q) hR (zKc.refl μ)
  refine sg_X11_joined (ok_X11_joinedDegree hw hR ?_)
  by_cases z : zdg A 8 ≤ 0
  · rw [if_pos z]
    exact ⟨by omega, fun _ => hN (by omega), fun hc => absurd hc (by omega)⟩
  rw [if_neg z]
  refine ⟨by omega, fun hc => absurd hc (by omega), fun _ => ⟨hi, ok_X11_in (by omega) (by omega) (by omega) (fun q1 => ⟨by omega, fun hc => absurd hc (by omega), fun _ => ⟨hk, ok_X11_in (by omega) (by omega) (by omega) (fun q2 => ⟨by omega, fun _ => ?_, fun hc => absurd hc (by omega)⟩) (fun q2 => ⟨by omega, fun hc => absurd rfl hc, fun _ => hN (by omega)⟩)⟩⟩) (fun q1 => ⟨by omega, fun _ => hN (by omega), fun hc => absurd rfl hc⟩)⟩⟩
  obtain ⟨i, rfl⟩ : ∃ q : Nat, i = q := ⟨i.toNat, by omega⟩
  obtain ⟨k, rfl⟩ : ∃ q : Nat, k = q := ⟨k.toNat, by omega⟩
  unfold rd_joined at h
  rw [if_neg (by omega), Int.toNat_natCast, Int.toNat_natCast] at h
  obtain ⟨d, hdd⟩ : ∃ d : Nat, zdg A 8 = d := ⟨(zdg A 8).toNat, by omega⟩
  rw [hdd] at q1 q2 hd ⊢
  have hbd : (d + 1) * i ≤ 9 * d ∧ (d + 1) * i ≤ 72 := by
    have h1 : (d + 1) * i ≤ (d + 1) * d := Nat.mul_le_mul_left _ (by omega)
    have h2 : (d + 1) * d ≤ 9 * d := Nat.mul_le_mul_right _ (by omega)
    omega
  obtain ⟨t, ht⟩ : ∃ t : Nat, 9 * i + k = t := ⟨_, rfl⟩
  rw [ht] at h
  have loop : ∀ m n : Nat, n + m = 8 → at_X11_joined_44 g φ (i : Int) (k : Int) (d : Int) (zcr A t n) (zkp A n) (n : Int) μ := by
    intro m
    induction m with
    | zero =>
      intro n hn
      have e : n = 8 := by omega
      subst e
      have b1 := zkp_8 hw (n := 8) (by omega)
      have b2 := zcr_bd hw (t := t) 8 (by omega)
      have z := zcmp_3 (2 * zcr A t 8) (zkp A 8)
      exact sg_X11_joined_44 ⟨by omega, fun _ => ⟨by omega, by omega, by omega, fun hc => h.rd (if_pos (by omega)) hR (zKc.refl μ), fun hc => h.rd (if_neg (by omega)) hR (zKc.refl μ)⟩, fun hc => absurd hc (by omega)⟩
    | succ m ih =>
      intro n hn
      have k2 := ih (n + 1) (by omega)
      have hb := zWF_k hw (q := n) (by omega)
      have hb0 := zWF_k0 hw (q := n) (by omega)
      have b1 := zkp_8 hw (n := n) (by omega)
      have b2 := zcr_bd hw (t := t) n (by omega)
      have c1 := zkp_8 hw (n := n + 1) (by omega)
      have c2 := zcr_bd hw (t := t) (n + 1) (by omega)
      rw [Int.natCast_add] at k2
      refine sg_X11_joined_44 ⟨by omega, fun hc => absurd hc (by omega), fun _ => ok_X11_keptPrime hR (by omega) ⟨by omega, fun q => ?_, fun q => sg_X11_place ?_⟩⟩
      · rw [zkp, zcr, if_pos (by omega), if_pos (by omega), Int.mul_one] at k2; exact k2
      · have h5 : A 5 n ≠ 0 := by omega
        obtain ⟨hP, b, hmod, _⟩ := hb.resolve_left h5
        have hpb := zP_bd hP
        have h6 := zdg_all hw 8 (by omega) (by omega) n (by omega) h5
        rw [hdd] at h6
        obtain ⟨u1, u2⟩ := zRM_k hR (q := n) (by omega)
        have u4 := (u2 h5).2 i k (by omega) (by omega)
        rw [h6, Int.toNat_natCast, ht] at u4
        have e2 : ((d : Int) + 1) * i + k = (((d + 1) * i + k : Nat) : Int) := by
          rw [Int.natCast_add, Int.natCast_mul, Int.natCast_add]; rfl
        rw [e2, show Int.toNat (83 * (n : Int) + 2 + (((d + 1) * i + k : Nat) : Int)) = 83 * n + 2 + ((d + 1) * i + k) by omega, u4]
        refine ⟨by omega, ?_⟩
        have hco := zkp_co hw (r := n) (by omega) h5 n (Nat.le_refl n)
        have hct := hmod t (by omega)
        have hs := zsol (c := zcr A t n) hP hco hct
        rw [zcr, if_neg h5] at k2 c2
        rw [zkp, if_neg h5] at k2 c2 c1
        have hm := zemod_lt (x := (A (20 + n) t + A 5 n - zcr A t n % A 5 n) % A 5 n * zI (A 5 n) (zkp A n % A 5 n)) (p := A 5 n) (by omega)
        generalize (A (20 + n) t + A 5 n - zcr A t n % A 5 n) % A 5 n * zI (A 5 n) (zkp A n % A 5 n) % A 5 n = s0 at hs hm k2 c2
        have inner : ∀ f s : Nat, (s : Int) + f = s0 → at_X11_joined_88 g φ (i : Int) (k : Int) (d : Int) (zcr A t n + zkp A n * s) (zkp A n) (n : Int) (A 5 n) (A (20 + n) t) (s : Int) μ := by
          intro f
          induction f with
          | zero =>
            intro s hss
            have es : (s : Int) = s0 := by omega
            have zc := zcmp_3 ((zcr A t n + zkp A n * s) % A 5 n) (A (20 + n) t)
            rw [es] at zc ⊢
            have hem := zemod_lt (x := zcr A t n + zkp A n * s0) (p := A 5 n) (by omega)
            refine sg_X11_joined_88 ⟨by omega, by omega, fun hc => absurd hc (by omega), fun _ => ?_⟩
            rw [ztm (by omega)]
            exact ⟨by omega, by omega, by omega, by omega, by omega, by omega, by omega, fun _ => k2, fun hc => absurd (by omega) hc⟩
          | succ f ih2 =>
            intro s hss
            have k3 := ih2 (s + 1) (by omega)
            rw [Int.natCast_add, Int.mul_add, show zkp A n * ((1 : Nat) : Int) = zkp A n from Int.mul_one _, ← Int.add_assoc] at k3
            have m1 : 0 ≤ zkp A n * s := Int.mul_nonneg (by omega) (by omega)
            have m2 : zkp A n * s ≤ zkp A n * s0 := Int.mul_le_mul_of_nonneg_left (by omega) (by omega)
            have hem := zemod_lt (x := zcr A t n + zkp A n * s) (p := A 5 n) (by omega)
            have zc := zcmp_3 ((zcr A t n + zkp A n * s) % A 5 n) (A (20 + n) t)
            refine sg_X11_joined_88 ⟨by omega, by omega, fun hc => absurd hc (by omega), fun _ => ?_⟩
            rw [ztm (by omega)]
            refine ⟨by omega, by omega, by omega, by omega, by omega, by omega, by omega, fun hc => ?_, fun _ => k3⟩
            exact (zsol1 (c := zcr A t n) (P := zkp A n) (s := s) (s' := s0) hP hco (by omega) (by omega) (by omega)).elim
        have k0 := inner s0.toNat 0 (by omega)
        rw [show zkp A n * ((0 : Nat) : Int) = 0 from Int.mul_zero _, Int.add_zero] at k0
        exact k0
  exact loop 8 0 (by omega)
end JOI
