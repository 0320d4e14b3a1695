/-! PRIMES from 5 to 199, inverses modulo them -/
def zprs : List Nat := [5, 7, 11, 13, 17, 19, 23, 29, 31, 37, 41, 43, 47, 53, 59, 61, 67, 71, 73, 79, 83, 89, 97, 101, 103, 107, 109, 113, 127, 131, 137, 139, 149, 151, 157, 163, 167, 173, 179, 181, 191, 193, 197, 199]
def zil : Nat → Nat → Nat → Nat → Nat → Nat
  | 0, _, r, _, _ => r
  | f + 1, p, r, s, n => match n with
    | 0 => r
    | n' + 1 => zil f p (if (n' + 1) % 2 = 1 then r * s % p else r) (s * s % p) ((n' + 1) / 2)
def zinvp (p a : Nat) : Nat := zil 8 p 1 (a % p) (p - 2)
theorem zinv_all : zprs.all (fun p => (List.range p).all (fun a => Nat.beq a 0 || (Nat.beq (a * zinvp p a % p) 1 && Nat.blt (zinvp p a) p))) = true := by decide +kernel
theorem zprs_bd : zprs.all (fun p => Nat.ble 5 p && Nat.ble p 199) = true := by decide +kernel
/-- a modulus -/
def zP (p : Int) : Prop := ∃ P : Nat, P ∈ zprs ∧ p = (P : Int)
theorem zP_bd {p : Int} (h : zP p) : 5 ≤ p ∧ p ≤ 199 := by
  obtain ⟨P, hP, rfl⟩ := h
  have h1 := List.all_eq_true.mp zprs_bd P hP
  simp only [Bool.and_eq_true, Nat.ble_eq] at h1
  omega
def zI (p x : Int) : Int := ((zinvp p.toNat x.toNat : Nat) : Int)
theorem zI_ok {p x : Int} (h : zP p) (h0 : 0 < x) (hx : x < p) : 0 ≤ zI p x ∧ zI p x < p ∧ (x * zI p x) % p = 1 := by
  obtain ⟨P, hP, rfl⟩ := h
  obtain ⟨a, rfl⟩ : ∃ a : Nat, x = (a : Int) := ⟨x.toNat, by omega⟩
  have h1 := List.all_eq_true.mp (List.all_eq_true.mp zinv_all P hP) a (List.mem_range.mpr (by omega))
  simp only [Bool.or_eq_true, Bool.and_eq_true, Nat.beq_eq, Nat.blt_eq] at h1
  rcases h1 with h1 | ⟨h1, h2⟩
  · omega
  · unfold zI
    rw [Int.toNat_natCast, Int.toNat_natCast]
    refine ⟨by omega, by omega, ?_⟩
    rw [← Int.natCast_mul, ← Int.natCast_emod, h1]
    rfl
/-- p divides no product of two numbers that it divides neither of -/
theorem zP_nz {p x y : Int} (h : zP p) (hx : x % p ≠ 0) (e : (x * y) % p = 0) : y % p = 0 := by
  have hb := zP_bd h
  have h1 := zemod_lt (x := x) (p := p) (by omega)
  obtain ⟨-, -, h4⟩ := zI_ok h (x := x % p) (by omega) h1.2
  have h5 : (x * zI p (x % p)) % p = 1 := by rw [Int.mul_emod] at h4 ⊢; rw [Int.emod_emod] at h4; exact h4
  have h6 : (zI p (x % p) * (x * y)) % p = 0 := by rw [Int.mul_emod, e, Int.mul_zero, Int.zero_emod]
  rw [← Int.mul_assoc, Int.mul_comm (zI p (x % p)) x, Int.mul_emod, h5] at h6
  rw [Int.one_mul, Int.emod_emod] at h6
  exact h6
/-- inverses are unique -/
theorem zI_unique {p x y : Int} (h : zP p) (h0 : 0 < x) (hx : x < p) (hy : 0 ≤ y ∧ y < p) (e : (x * y) % p = 1) : y = zI p x := by
  obtain ⟨h1, h2, h3⟩ := zI_ok h h0 hx
  have h4 : (x * (y - zI p x)) % p = 0 := by rw [Int.mul_sub, Int.sub_emod, e, h3]; simp
  have h5 := zP_nz h (by rw [Int.emod_eq_of_lt (by omega) hx]; omega) h4
  have hb := zP_bd h
  have h6 : y - zI p x = 0 := by
    obtain ⟨t, ht⟩ := Int.dvd_of_emod_eq_zero h5
    rcases Int.lt_trichotomy t 0 with q | q | q
    · have : p * t ≤ p * (-1) := Int.mul_le_mul_of_nonneg_left (by omega) (by omega)
      omega
    · rw [q, Int.mul_zero] at ht; exact ht
    · have : p * 1 ≤ p * t := Int.mul_le_mul_of_nonneg_left (by omega) (by omega)
      omega
  omega
theorem zbit : ∀ n : Nat, n < 200 → zand (n : Int) 1 = ((n % 2 : Nat) : Int) ∧ zshr (n : Int) 1 = ((n / 2 : Nat) : Int) := by decide +kernel
theorem in11 {g : zG} {φ : Int → zMu → Prop} {μ : zMu} {P : Nat} (hP : 0 < P) (hP2 : P < 200) : ∀ (f r s n : Nat), n < 2 ^ f → n < 200 → r < P → s < P → φ ((zil f P r s n : Nat) : Int) μ → at_X10_inverse_11 g φ (P : Int) (r : Int) (s : Int) (n : Int) μ
  | 0, r, s, n, h1, h2, hr, hs, h => by
    refine sg_X10_inverse_11 ⟨by omega, fun _ => h, fun hc => ?_⟩
    simp at h1; omega
  | f + 1, r, s, 0, h1, h2, hr, hs, h => by
    exact sg_X10_inverse_11 ⟨by omega, fun _ => h, fun hc => absurd hc (by omega)⟩
  | f + 1, r, s, n + 1, h1, h2, hr, hs, h => by
    obtain ⟨b1, b2⟩ := zbit (n + 1) h2
    have hss : s * s < 40000 := Nat.lt_of_le_of_lt (Nat.mul_le_mul (by omega : s ≤ 199) (by omega : s ≤ 199)) (by decide)
    have hrs : r * s < 40000 := Nat.lt_of_le_of_lt (Nat.mul_le_mul (by omega : r ≤ 199) (by omega : s ≤ 199)) (by decide)
    have hms : ((s : Int) * (s : Int)).tmod (P : Int) = ((s * s % P : Nat) : Int) := by rw [ztm (by rw [← Int.natCast_mul]; omega)]; rw [← Int.natCast_mul, ← Int.natCast_emod]
    have hmr : ((r : Int) * (s : Int)).tmod (P : Int) = ((r * s % P : Nat) : Int) := by rw [ztm (by rw [← Int.natCast_mul]; omega)]; rw [← Int.natCast_mul, ← Int.natCast_emod]
    have ess : ((s : Int) * (s : Int)) = ((s * s : Nat) : Int) := (Int.natCast_mul s s).symm
    have ers : ((r : Int) * (s : Int)) = ((r * s : Nat) : Int) := (Int.natCast_mul r s).symm
    have hdiv : (n + 1) / 2 < 2 ^ f := by rw [Nat.pow_succ] at h1; omega
    refine sg_X10_inverse_11 ⟨by omega, fun hc => absurd hc (by omega), fun _ => ⟨by rw [b1]; omega, fun hc => ?_, fun hc => ?_⟩⟩
    · refine ⟨by rw [ess]; omega, by omega, by omega, ?_⟩
      rw [hms, b2]
      refine in11 hP hP2 f r _ _ hdiv (by omega) hr (Nat.mod_lt _ hP) ?_
      have hz : zil (f + 1) P r s (n + 1) = zil f P (if (n + 1) % 2 = 1 then r * s % P else r) (s * s % P) ((n + 1) / 2) := rfl
      rw [hz, if_neg (fun q => hc (by rw [b1, q]; rfl))] at h
      exact h
    · refine ⟨by rw [ers]; omega, by omega, by omega, by rw [ess]; omega, ?_⟩
      rw [hms, hmr, b2]
      refine in11 hP hP2 f _ _ _ hdiv (by omega) (Nat.mod_lt _ hP) (Nat.mod_lt _ hP) ?_
      have hz : zil (f + 1) P r s (n + 1) = zil f P (if (n + 1) % 2 = 1 then r * s % P else r) (s * s % P) ((n + 1) / 2) := rfl
      rw [hz, if_pos (by rw [b1] at hc; omega)] at h
      exact h
theorem ok_X10_inverse {g : zG} {φ : Int → zMu → Prop} {μ : zMu} {p x : Int} (hp : zP p) (h0 : 0 < x) (hx : x < p) (h : φ (zI p x) μ) : zOi g zm_X10_inverse [.int (zJ x), .int (zJ p)] μ φ := by
  have hb := zP_bd hp
  refine sg_X10_inverse ⟨by omega, by omega, by omega, ?_⟩
  obtain ⟨P, hP, rfl⟩ := hp
  obtain ⟨a, rfl⟩ : ∃ a : Nat, x = (a : Int) := ⟨x.toNat, by omega⟩
  rw [ztm (by omega), Int.emod_eq_of_lt (by omega) hx, show (P : Int) - 2 = ((P - 2 : Nat) : Int) by omega]
  refine in11 (by omega) (by omega) 8 1 a (P - 2) (by omega) (by omega) (by omega) (by omega) ?_
  unfold zI zinvp at h
  rw [Int.toNat_natCast, Int.toNat_natCast, Nat.mod_eq_of_lt (by omega)] at h
  exact h
theorem ok_X11_inverse {g : zG} {φ : Int → zMu → Prop} {μ : zMu} {x : Int} (hp : zP (μ 203 0)) (h0 : 0 < x) (hx : x < μ 203 0) (h : φ (zI (μ 203 0) x) μ) : zOi g zm_X11_inverse [.ref 203, .int (zJ x)] μ φ := by
  have hb := zP_bd hp
  obtain ⟨h1, h2, h3⟩ := zI_ok hp h0 hx
  refine sg_X11_inverse ?_
  have h4 : 0 < zI (μ 203 0) x := by
    rcases Int.lt_or_eq_of_le h1 with q | q
    · exact q
    · rw [← q, Int.mul_zero, Int.zero_emod] at h3; omega
  have key : ∀ (m : Nat) (b : Int), 1 ≤ b → b + m = zI (μ 203 0) x → at_X11_inverse_2 g φ x b μ := by
    intro m
    induction m with
    | zero =>
      intro b hb1 hb2
      have e : b = zI (μ 203 0) x := by omega
      subst e
      have hm := zmul_bd ⟨by omega, hx⟩ ⟨h1, h2⟩ hb.2
      refine sg_X11_inverse_2 ⟨by omega, by omega, by omega, ?_, fun _ => h, fun hc => absurd ?_ hc⟩
      · rw [ztm hm.1, h3]; omega
      · rw [ztm hm.1, h3]
    | succ m ih =>
      intro b hb1 hb2
      have hm := zmul_bd (a := x) (b := b) ⟨by omega, hx⟩ ⟨by omega, by omega⟩ hb.2
      have hl := zemod_lt (x := x * b) (p := μ 203 0) (by omega)
      refine sg_X11_inverse_2 ⟨by omega, by omega, by omega, by rw [ztm hm.1]; omega, fun hc => ?_, fun hc => ih (b + 1) (by omega) (by omega)⟩
      rw [ztm hm.1] at hc
      have := zI_unique hp h0 hx ⟨by omega, by omega⟩ hc
      omega
  exact key (zI (μ 203 0) x - 1).toNat 1 (by omega) (by omega)
