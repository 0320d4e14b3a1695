/-! VANISHES: products of powers -/
/-- the lowest start -/
def zlo (A : zMu) (a b d : Nat) : Int := (d : Int) * (min (A 1 a) 0 + min (A 1 b) 0)
theorem zlo_eq {A : zMu} {a b d : Nat} (hd : d ≤ 8) : zlo A a b d = min 0 ((d : Int) * A 1 a) + min 0 ((d : Int) * A 1 b) := by
  unfold zlo
  have : d = 0 ∨ d = 1 ∨ d = 2 ∨ d = 3 ∨ d = 4 ∨ d = 5 ∨ d = 6 ∨ d = 7 ∨ d = 8 := by omega
  rcases this with q | q | q | q | q | q | q | q | q <;> subst q <;> omega
/-- how far behind it a term begins -/
def zof (A : zMu) (a b d i k : Nat) : Int := ((i : Int) * A 1 a + (k : Int) * A 1 b) - zlo A a b d
theorem zof_bd {A : zMu} {a b d i k : Nat} (ha : -99 ≤ A 1 a ∧ A 1 a ≤ 99) (hb : -99 ≤ A 1 b ∧ A 1 b ≤ 99) (hd : d ≤ 8) (hi : i ≤ d) (hk : k ≤ d) : 0 ≤ zof A a b d i k ∧ zof A a b d i k ≤ 3168 ∧ (-3168 ≤ (i : Int) * A 1 a + (k : Int) * A 1 b) := by
  have key : ∀ (x : Int) (i : Nat), -99 ≤ x ∧ x ≤ 99 → i ≤ d → (d : Int) * min x 0 ≤ (i : Int) * x ∧ (i : Int) * x ≤ (d : Int) * min x 0 + 1584 ∧ -792 ≤ (i : Int) * x := by
    intro x i hx hi
    have h1 : d = 0 ∨ d = 1 ∨ d = 2 ∨ d = 3 ∨ d = 4 ∨ d = 5 ∨ d = 6 ∨ d = 7 ∨ d = 8 := by omega
    have h2 : i = 0 ∨ i = 1 ∨ i = 2 ∨ i = 3 ∨ i = 4 ∨ i = 5 ∨ i = 6 ∨ i = 7 ∨ i = 8 := by omega
    have hi2 : 0 ≤ (i : Int) * x ∨ 0 > (i : Int) * x := by omega
    rcases h1 with q | q | q | q | q | q | q | q | q <;> subst q <;> rcases h2 with r | r | r | r | r | r | r | r | r <;> subst r <;> omega
  have k1 := key (A 1 a) i ha hi
  have k2 := key (A 1 b) k hb hk
  unfold zof zlo
  rw [Int.mul_add]
  generalize (d : Int) * min (A 1 a) 0 = u at k1 ⊢
  generalize (d : Int) * min (A 1 b) 0 = v at k2 ⊢
  generalize (i : Int) * A 1 a = x at k1 ⊢
  generalize (k : Int) * A 1 b = y at k2 ⊢
  omega
/-- the product of the powers -/
def zpx (A : zMu) (a b i k t : Nat) : Int := zcv (zpw (A 0 0) (A (10 + a)) i) (zpw (A 0 0) (A (10 + b)) k) t % A 0 0
/-- a term's column -/
def zqc (A : zMu) (a b d i k t : Nat) : Int := if zof A a b d i k ≤ t then zpx A a b i k ((t : Int) - zof A a b d i k).toNat else 0
theorem zqc_bd {A : zMu} {a b d i k t : Nat} (hp : 0 < A 0 0) : 0 ≤ zqc A a b d i k t ∧ zqc A a b d i k t < A 0 0 := by
  unfold zqc
  split
  · exact zemod_lt hp
  · omega
/-- known of both -/
def zkw (A : zMu) (a b : Nat) : Nat := (min (A 2 a) (A 2 b)).toNat
/-- what the class has prepared -/
def zPC (A : zMu) (a b d : Nat) (ν : zMu) : Prop := ν 74 4 = A 1 a ∧ ν 74 5 = A 1 b ∧ ν 74 6 = zlo A a b d ∧ ν 74 7 = zkw A a b ∧ ν 74 8 = A 0 0 ∧ ∀ (i : Nat), i ≤ d → ∀ (t : Nat), t < zkw A a b → ν (76 + i) t = zpw (A 0 0) (A (10 + a)) i t ∧ ν (86 + i) t = zpw (A 0 0) (A (10 + b)) i t
theorem zPC_keep {A ν ν' : zMu} {a b d : Nat} (hd : d ≤ 8) (h : zPC A a b d ν) (e : ∀ (i : Nat), 74 ≤ i → i < 95 → ν' i = ν i) : zPC A a b d ν' := by
  obtain ⟨h1, h2, h3, h4, h5, h6⟩ := h
  have e1 := e 74 (by omega) (by omega)
  exact ⟨by rw [e1]; exact h1, by rw [e1]; exact h2, by rw [e1]; exact h3, by rw [e1]; exact h4, by rw [e1]; exact h5, fun i hi t ht => by rw [e (76 + i) (by omega) (by omega), e (86 + i) (by omega) (by omega)]; exact h6 i hi t ht⟩
section VNC
variable {g : zG} {μ A : zMu}
theorem zcx {j : Nat} (hj : j < 9) : zS (76 + j) 12 80 := by
  have h : zS (75 + 1 + 1 * j) 12 80 := zqr_75 hj
  rw [show 75 + 1 + 1 * j = 76 + j by omega] at h
  exact h
theorem zcy {j : Nat} (hj : j < 9) : zS (86 + j) 12 80 := by
  have h : zS (85 + 1 + 1 * j) 12 80 := zqr_85 hj
  rw [show 85 + 1 + 1 * j = 86 + j by omega] at h
  exact h
theorem ok_X9_fillPowers {φ : zMu → Prop} {B d n a : Nat} {p : Int} {f : Nat → Int} (hB : B = 75 ∨ B = 85) (hd : d ≤ 8) (hn : n ≤ 80) (hn1 : 1 ≤ n) (hp : 2 ≤ p ∧ p ≤ 199) (ha : a < 6) (h7 : μ 74 7 = n) (h8 : μ 74 8 = p) (hf : ∀ k, k < n → μ (8 + 2 * a) k = f k) (hm : zmodp p n f)
    (h : ∀ ν, (∀ (i : Nat), (i ≤ B ∨ B + 10 ≤ i) → ν i = μ i) → (∀ (i : Nat), i ≤ d → ∀ t, t < n → ν (B + 1 + i) t = zpw p f i t) → φ ν) : zOv g zm_X9_fillPowers [.ref 74, .ref (8 + 2 * a), .ref B, .int (zJ (d : Int))] μ φ := by
  have hS : ∀ {j : Nat}, j < 9 → zS (B + 1 + j) 12 80 := fun {j} hj => by
    rcases hB with q | q <;> subst q
    · exact zcx hj
    · exact zcy hj
  have hA : ∀ {j : Nat}, j < 9 → zAx 15 B (j : Int) := fun {j} hj => by
    rcases hB with q | q <;> subst q
    · exact ⟨9, zc_75, by omega, by omega⟩
    · exact ⟨9, zc_85, by omega, by omega⟩
  have loop : ∀ m s : Nat, s + m = d + 1 → 1 ≤ s → ∀ ν, (∀ (i : Nat), (i ≤ B ∨ B + 10 ≤ i) → ν i = μ i) → (∀ (i : Nat), i < s → ∀ t, t < n → ν (B + 1 + i) t = zpw p f i t) → at_X9_fillPowers_16 g φ (8 + 2 * a) B (d : Int) (s : Int) ν := by
    intro m
    induction m with
    | zero =>
      intro s hs h1 ν hν hr
      exact sg_X9_fillPowers_16 ⟨by omega, by omega, fun _ => h ν hν (fun i hi => hr i (by omega)), fun hc => absurd hc (by omega)⟩
    | succ m ih =>
      intro s hs h1 ν hν hr
      refine sg_X9_fillPowers_16 ⟨by omega, by omega, fun hc => absurd hc (by omega), fun _ => ⟨by rw [show (s : Int) - 1 = ((s - 1 : Nat) : Int) by omega]; exact hA (by omega), hA (by omega), ?_⟩⟩
      rw [hν 74 (by omega), h7, h8, Int.toNat_natCast, show Int.toNat ((s : Int) - 1) = s - 1 by omega]
      have e8 : ν (8 + 2 * a) = μ (8 + 2 * a) := hν _ (by omega)
      refine ok_X10_multiply (zsr a ha).2 (hS (j := s - 1) (by omega)) (hS (j := s) (by omega)) (by omega) (by omega) (by omega) (by omega) (by omega) (by omega) (by omega) (by omega) (fun k hk => by rw [e8, hf k (by omega)]; exact hm k (by omega)) (fun k hk => by rw [hr (s - 1) (by omega) k (by omega)]; exact zpw_modp hp.1 n _ k (by omega)) ?_
      have := ih (s + 1) (by omega) (by omega) (zua ν (B + 1 + s) (zmr (ν (8 + 2 * a)) (ν (B + 1 + (s - 1))) p (n : Int).toNat 80 (ν (B + 1 + s)))) (fun i hi => (zua_nc (by omega)).trans (hν i hi)) (fun i hi t ht => by
        by_cases e : i = s
        · subst e
          rw [zua_eq, zmr, if_pos (by omega)]
          obtain ⟨s', rfl⟩ : ∃ s', i = s' + 1 := ⟨i - 1, by omega⟩
          show _ = zcv (zpw p f s') f t % p
          rw [zcv_comm (zpw p f s') f, show s' + 1 - 1 = s' by omega]
          rw [zcv_congr (fun j hj => by rw [e8, hf j (by omega)]) (fun j hj => hr s' (by omega) j (by omega))]
        · rw [zua_ne (by omega)]
          exact hr i (by omega) t ht)
      rw [Int.natCast_add] at this
      exact this
  refine sg_X9_fillPowers ⟨hA (j := 0) (by omega), sg_J7_fill (hS (j := 0) (by omega)) ⟨zIx_of (hS (j := 0) (by omega)) (by omega) (by omega), ?_⟩⟩
  refine loop d 1 (by omega) (by omega) _ (fun i hi => (zup_nc (by omega)).trans (zua_nc (by omega))) (fun i hi t ht => ?_)
  have e : i = 0 := by omega
  subst e
  show _ = zone t
  unfold zone
  by_cases t0 : t = 0
  · rw [if_pos t0, t0, zup_eq]
  · rw [if_neg t0, zup_ne (Or.inr t0), zua_eq, if_pos (by omega)]
theorem zkw_bd (hw : zWF A) {a b : Nat} (ha : a < 6) (hb : b < 6) (h1 : A 2 a ≠ 0) (h2 : A 2 b ≠ 0) : 1 ≤ zkw A a b ∧ zkw A a b ≤ 80 ∧ (zkw A a b : Int) ≤ A 2 a ∧ (zkw A a b : Int) ≤ A 2 b ∧ min (A 2 a) (A 2 b) = zkw A a b := by
  have b1 := (zWF_s hw ha).2.1
  have b2 := (zWF_s hw hb).2.1
  unfold zkw
  omega
theorem ok_X9_prepare {φ : zMu → Prop} {a b d : Nat} {D P : Int} (hw : zWF A) (hR : zRC A μ) (ha : a < 6) (hb : b < 6) (h1 : A 2 a ≠ 0) (h2 : A 2 b ≠ 0) (hd : d ≤ 8) (hD : D = d) (hP : P = A 0 0)
    (h : ∀ ν, zRC A ν → zKm μ ν → zPC A a b d ν → φ ν) : zOv g zm_X9_prepare [.ref 74, .ref (7 + 2 * a), .ref (7 + 2 * b), .int (zJ D), .int (zJ P)] μ φ := by
  subst hD
  subst hP
  have hp := zWF_p hw
  obtain ⟨s1, s2, s3⟩ := zRC_sr hR ha
  obtain ⟨u1, u2, u3⟩ := zRC_sr hR hb
  obtain ⟨b1, b2, b3⟩ := zWF_s hw ha
  obtain ⟨c1, c2, c3⟩ := zWF_s hw hb
  obtain ⟨k1, k2, k3, k4, k5⟩ := zkw_bd hw ha hb h1 h2
  refine sg_X9_prepare (zsr a ha).1 (zsr b hb).1 ?_
  rw [s1, zup_ne (μ := μ) (i := 74) (j := 4) (a := 7 + 2 * b) (Or.inl (by omega)), u1]
  have e2 : zup (zup μ 74 4 (A 1 a)) 74 5 (A 1 b) 74 4 = A 1 a := (zup_ne (Or.inr (by decide))).trans zup_eq
  have e3 : zup (zup μ 74 4 (A 1 a)) 74 5 (A 1 b) 74 5 = A 1 b := zup_eq
  rw [e2, e3]
  have hlo : (d : Int) * (min (A 1 a) 0 + min (A 1 b) 0) = zlo A a b d := rfl
  rw [hlo]
  have f3 : ∀ i : Nat, i ≠ 74 → zup (zup (zup μ 74 4 (A 1 a)) 74 5 (A 1 b)) 74 6 (zlo A a b d) i = μ i := fun i hi => (zup_nc hi).trans ((zup_nc hi).trans (zup_nc hi))
  rw [f3 (7 + 2 * a) (by omega), f3 (7 + 2 * b) (by omega), s2, u2, k5]
  refine ⟨by omega, by omega, by omega, by omega, ?_⟩
  have f5 : ∀ i : Nat, i ≠ 74 → zup (zup (zup (zup (zup μ 74 4 (A 1 a)) 74 5 (A 1 b)) 74 6 (zlo A a b d)) 74 7 (zkw A a b : Int)) 74 8 (A 0 0) i = μ i := fun i hi => (zup_nc hi).trans ((zup_nc hi).trans (f3 i hi))
  have v4 : zup (zup (zup (zup (zup μ 74 4 (A 1 a)) 74 5 (A 1 b)) 74 6 (zlo A a b d)) 74 7 (zkw A a b : Int)) 74 8 (A 0 0) 74 4 = A 1 a := (zup_ne (Or.inr (by decide))).trans ((zup_ne (Or.inr (by decide))).trans ((zup_ne (Or.inr (by decide))).trans e2))
  have v5 : zup (zup (zup (zup (zup μ 74 4 (A 1 a)) 74 5 (A 1 b)) 74 6 (zlo A a b d)) 74 7 (zkw A a b : Int)) 74 8 (A 0 0) 74 5 = A 1 b := (zup_ne (Or.inr (by decide))).trans ((zup_ne (Or.inr (by decide))).trans ((zup_ne (Or.inr (by decide))).trans e3))
  have v6 : zup (zup (zup (zup (zup μ 74 4 (A 1 a)) 74 5 (A 1 b)) 74 6 (zlo A a b d)) 74 7 (zkw A a b : Int)) 74 8 (A 0 0) 74 6 = zlo A a b d := (zup_ne (Or.inr (by decide))).trans ((zup_ne (Or.inr (by decide))).trans zup_eq)
  have v7 : zup (zup (zup (zup (zup μ 74 4 (A 1 a)) 74 5 (A 1 b)) 74 6 (zlo A a b d)) 74 7 (zkw A a b : Int)) 74 8 (A 0 0) 74 7 = zkw A a b := (zup_ne (Or.inr (by decide))).trans zup_eq
  have v8 : zup (zup (zup (zup (zup μ 74 4 (A 1 a)) 74 5 (A 1 b)) 74 6 (zlo A a b d)) 74 7 (zkw A a b : Int)) 74 8 (A 0 0) 74 8 = A 0 0 := zup_eq
  generalize zup (zup (zup (zup (zup μ 74 4 (A 1 a)) 74 5 (A 1 b)) 74 6 (zlo A a b d)) 74 7 (zkw A a b : Int)) 74 8 (A 0 0) = ω at f5 v4 v5 v6 v7 v8 ⊢
  rw [show 7 + 2 * a + 1 = 8 + 2 * a by omega, show 7 + 2 * b + 1 = 8 + 2 * b by omega]
  refine ok_X9_fillPowers (f := A (10 + a)) (Or.inl rfl) hd k2 k1 (by omega) ha v7 v8 (fun k hk => by rw [f5 _ (by omega)]; exact s3 k (by omega)) (fun k hk => b3 k (by omega)) (fun ν1 g1 g2 => ?_)
  refine ok_X9_fillPowers (f := A (10 + b)) (n := zkw A a b) (p := A 0 0) (Or.inr rfl) hd k2 k1 (by omega) hb (by rw [g1 74 (by omega)]; exact v7) (by rw [g1 74 (by omega)]; exact v8) (fun k hk => by rw [g1 _ (by omega), f5 _ (by omega)]; exact u3 k (by omega)) (fun k hk => c3 k (by omega)) (fun ν2 q1 q2 => ?_)
  have e74 : ν2 74 = ω 74 := (q1 74 (by omega)).trans (g1 74 (by omega))
  have fo : ∀ (i : Nat), (i < 74 ∨ 95 ≤ i) → ν2 i = μ i := fun i hi => (q1 i (by omega)).trans ((g1 i (by omega)).trans (f5 i (by omega)))
  refine h ν2 (zRC_s hR (fun i hi j _ => by rw [fo i (by omega)])) (fun i hi => fo i (by omega)) ⟨by rw [e74]; exact v4, by rw [e74]; exact v5, by rw [e74]; exact v6, by rw [e74]; exact v7, by rw [e74]; exact v8, fun i hi t ht => ⟨?_, ?_⟩⟩
  · rw [q1 (76 + i) (by omega)]
    exact g2 i hi t ht
  · exact q2 i hi t ht
theorem ok_X9_multiplyTerm {φ : Int → zMu → Prop} {a b d i k : Nat} (hw : zWF A) (ha : a < 6) (hb : b < 6) (h1 : A 2 a ≠ 0) (h2 : A 2 b ≠ 0) (hd : d ≤ 8) (hi : i ≤ d) (hk : k ≤ d) (hP : zPC A a b d μ)
    (h : ∀ F : Nat → Int, (∀ t : Nat, (t : Int) + zof A a b d i k < zkw A a b → F t = zpx A a b i k t) → φ (zof A a b d i k) (zua μ 95 F)) : zOi g zm_X9_multiplyTerm [.ref 74, .int (zJ (i : Int)), .int (zJ (k : Int))] μ φ := by
  have hp := zWF_p hw
  obtain ⟨k1, k2, k3, k4, k5⟩ := zkw_bd hw ha hb h1 h2
  obtain ⟨p4, p5, p6, p7, p8, p9⟩ := hP
  have ho := zof_bd (A := A) (a := a) (b := b) (zWF_s hw ha).1 (zWF_s hw hb).1 hd hi hk
  refine sg_X9_multiplyTerm ⟨by omega, by omega, ?_⟩
  rw [p4, p5, p6, p7, p8, Int.toNat_natCast, Int.toNat_natCast]
  have e : (i : Int) * A 1 a + (k : Int) * A 1 b - zlo A a b d = zof A a b d i k := rfl
  rw [e]
  refine ok_X10_multiply (zcx (by omega)) (zcy (by omega)) zc_95 (by omega) (by omega) (by omega) (by omega) (by omega) (by omega) (by omega) (by omega) (fun t ht => by rw [(p9 i hi t (by omega)).1]; exact zpw_modp (by omega) 80 _ t (by omega)) (fun t ht => by rw [(p9 k hk t (by omega)).2]; exact zpw_modp (by omega) 80 _ t (by omega)) ?_
  refine h _ (fun t ht => ?_)
  rw [zmr, if_pos (by omega), zcv_congr (fun j hj => (p9 i hi j (by omega)).1) (fun j hj => (p9 k hk j (by omega)).2)]
  rfl
end VNC
