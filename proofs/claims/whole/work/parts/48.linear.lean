/-! FIND: columns modulo p, dependence -/
theorem zsm_trunc {F : Nat → Int} {c : Nat} : ∀ m, c ≤ m → (∀ j, c ≤ j → j < m → F j = 0) → zsm F m = zsm F c
  | 0, h, _ => by rw [show c = 0 by omega]
  | m + 1, h, hz => by
    by_cases e : c = m + 1
    · rw [e]
    · rw [zsm, zsm_trunc m (by omega) (fun j h1 h2 => hz j h1 (by omega)), hz m (by omega) (by omega), Int.add_zero]
theorem zsm_pick {G : Nat → Int} {v : Int} {c : Nat} (n : Nat) (h : c < n) : zsm (fun j => (if j = c then v else 0) * G j) n = v * G c := by
  rw [zsm_congr (G := fun j => if j = c then v * G c else 0) (fun j _ => by
    by_cases e : j = c
    · rw [if_pos e, if_pos e, e]
    · rw [if_neg e, if_neg e, Int.zero_mul]), zsm_only, if_pos h]
def zker (p : Int) (n m : Nat) (M : Nat → Nat → Int) (s : Nat → Int) : Prop := ∀ t, t < n → zsm (fun j => s j * M t j) m % p = 0
theorem zker_row {p : Int} {n m : Nat} {M M' : Nat → Nat → Int} {s : Nat → Int} (h : ∀ t, t < n → ∃ (a b : Int) (u v : Nat), u < n ∧ v < n ∧ ∀ j, j < m → M' t j % p = (a * M u j + b * M v j) % p) (hk : zker p n m M s) : zker p n m M' s := fun t ht => by
  obtain ⟨a, b, u, v, hu, hv, e⟩ := h t ht
  have e1 : zsm (fun j => s j * M' t j) m % p = zsm (fun j => a * (s j * M u j) + b * (s j * M v j)) m % p := zsm_mod (fun j hj => by
    rw [Int.mul_emod, e j hj, ← Int.mul_emod]
    congr 1
    grind)
  rw [e1, zsm_add (fun j => a * (s j * M u j)) (fun j => b * (s j * M v j)), zsm_mul, zsm_mul, Int.add_emod, Int.mul_emod a, hk u hu, Int.mul_emod b, hk v hv]
  simp
/-- column c depends on those before it -/
def zfr (p : Int) (n : Nat) (C : Nat → Nat → Int) (c : Nat) : Prop := ∃ s : Nat → Int, ∀ t, t < n → (zsm (fun j => s j * C j t) c + C c t) % p = 0
theorem zind {p : Int} {n : Nat} {C : Nat → Nat → Int} (hP : zP p) : ∀ F, (∀ c, c < F → ¬ zfr p n C c) → ∀ u : Nat → Int, (∀ t, t < n → zsm (fun j => u j * C j t) F % p = 0) → ∀ j, j < F → u j % p = 0
  | 0, _, _, _, j, hj => absurd hj (by omega)
  | F + 1, h, u, hu, j, hj => by
    have hb := zP_bd hP
    have hF : u F % p = 0 := by
      by_cases e : u F % p = 0
      · exact e
      · exfalso
        have hx := zemod_lt (x := u F) (p := p) (by omega)
        obtain ⟨i1, i2, i3⟩ := zI_ok hP (x := u F % p) (by omega) hx.2
        refine h F (by omega) ⟨fun j => zI p (u F % p) * u j, fun t ht => ?_⟩
        have e1 : zsm (fun j => zI p (u F % p) * u j * C j t) F = zI p (u F % p) * zsm (fun j => u j * C j t) F := by
          rw [← zsm_mul]; exact zsm_congr (fun j _ => Int.mul_assoc _ _ _)
        have h0 : (zsm (fun j => u j * C j t) F + u F * C F t) % p = 0 := hu t ht
        show (zsm (fun j => zI p (u F % p) * u j * C j t) F + C F t) % p = 0
        rw [e1]
        obtain ⟨t3, e4⟩ := zme_q p (u F)
        generalize zsm (fun j => u j * C j t) F = S at h0 ⊢
        generalize zI p (u F % p) = i at i3 ⊢
        generalize u F % p = r at i3 e4
        generalize u F = w at h0 e4
        generalize C F t = c at h0 ⊢
        obtain ⟨t1, e2⟩ := zme_e (x := S + w * c) (y := 0) (p := p) (by rw [h0, Int.zero_emod])
        obtain ⟨t2, e3⟩ := zme_e (x := r * i) (y := 1) (p := p) (by rw [i3, Int.emod_eq_of_lt (by omega) (by omega)])
        refine (zme_i (y := 0) ⟨i * t1 - t2 * c + t3 * i * c, ?_⟩).trans (Int.zero_emod p)
        have eS : S = p * t1 - w * c := by omega
        have ew : w = r - p * t3 := by omega
        subst eS
        subst ew
        have e5 : r * i * c = (1 + p * t2) * c := by rw [e3]
        grind
    by_cases e : j = F
    · rw [e]; exact hF
    · refine zind hP F (fun c hc => h c (by omega)) u (fun t ht => ?_) j (by omega)
      have h0 : (zsm (fun j => u j * C j t) F + u F * C F t) % p = 0 := hu t ht
      rw [Int.add_emod, Int.mul_emod, hF, Int.zero_mul, Int.zero_emod, Int.add_zero, Int.emod_emod] at h0
      exact h0
/-- the first dependent column and its dependence -/
def zSol (p : Int) (n : Nat) (C : Nat → Nat → Int) (F : Nat) (s : Nat → Int) : Prop := (∀ c, c < F → ¬ zfr p n C c) ∧ s F = 1 ∧ (∀ j, 0 ≤ s j ∧ s j < p) ∧ (∀ j, F < j → s j = 0) ∧ ∀ t, t < n → zsm (fun j => s j * C j t) (F + 1) % p = 0
theorem zSol_fr {p : Int} {n : Nat} {C : Nat → Nat → Int} {F : Nat} {s : Nat → Int} (h : zSol p n C F s) : zfr p n C F := ⟨s, fun t ht => by
  have h0 : (zsm (fun j => s j * C j t) F + s F * C F t) % p = 0 := h.2.2.2.2 t ht
  rw [h.2.1, Int.one_mul] at h0
  exact h0⟩
theorem zSol_eq {p : Int} {n : Nat} {C : Nat → Nat → Int} {F F' : Nat} {s s' : Nat → Int} (hP : zP p) (h : zSol p n C F s) (h' : zSol p n C F' s') : F = F' ∧ s = s' := by
  have e : F = F' := by
    rcases Nat.lt_trichotomy F F' with q | q | q
    · exact absurd (zSol_fr h) (h'.1 F q)
    · exact q
    · exact absurd (zSol_fr h') (h.1 F' q)
  subst e
  refine ⟨rfl, funext fun j => ?_⟩
  have hb := zP_bd hP
  by_cases hj : j < F
  · have := zind hP F h.1 (fun j => s j + -1 * s' j) (fun t ht => by
      have h0 : (zsm (fun j => s j * C j t) F + s F * C F t) % p = 0 := h.2.2.2.2 t ht
      have h1 : (zsm (fun j => s' j * C j t) F + s' F * C F t) % p = 0 := h'.2.2.2.2 t ht
      rw [h.2.1, Int.one_mul] at h0
      rw [h'.2.1, Int.one_mul] at h1
      rw [zsm_congr (G := fun j => s j * C j t + -1 * (s' j * C j t)) (fun j _ => by rw [Int.add_mul, Int.mul_assoc]), zsm_add (fun j => s j * C j t) (fun j => -1 * (s' j * C j t)), zsm_mul]
      generalize zsm (fun j => s j * C j t) F = S at h0 ⊢
      generalize zsm (fun j => s' j * C j t) F = S' at h1 ⊢
      have e3 : S + -1 * S' = (S + C F t) - (S' + C F t) := by omega
      rw [e3, Int.sub_emod, h0, h1]
      simp) j hj
    have a1 := h.2.2.1 j
    have a2 := h'.2.2.1 j
    obtain ⟨t, e⟩ := zme_e (x := s j + -1 * s' j) (y := 0) (p := p) (by rw [this, Int.zero_emod])
    rcases Int.lt_trichotomy t 0 with q | q | q
    · have : p * t ≤ p * (-1) := Int.mul_le_mul_of_nonneg_left (by omega) (by omega)
      omega
    · rw [q, Int.mul_zero] at e; omega
    · have : p * 1 ≤ p * t := Int.mul_le_mul_of_nonneg_left (by omega) (by omega)
      omega
  · by_cases e : j = F
    · rw [e, h.2.1, h'.2.1]
    · rw [h.2.2.2.1 j (by omega), h'.2.2.2.1 j (by omega)]
/-- back substitution -/
theorem zback {p : Int} {n c : Nat} {M : Nat → Nat → Int} {Pv : Nat → Nat} : ∀ r, (∀ k, k < r → Pv k < c ∧ M k (Pv k) = 1 ∧ ∀ t, k < t → t < n → M t (Pv k) = 0) → ∀ V : Nat → Int, (∀ t, r ≤ t → t < n → V t % p = 0) → ∃ s : Nat → Int, ∀ t, t < n → (zsm (fun j => s j * M t j) c + V t) % p = 0
  | 0, _, V, hV => ⟨fun _ => 0, fun t ht => by
    rw [zsm_zero (fun j _ => Int.zero_mul _), Int.zero_add]
    exact hV t (by omega) ht⟩
  | r + 1, h, V, hV => by
    obtain ⟨p1, p2, p3⟩ := h r (by omega)
    obtain ⟨s, hs⟩ := zback r (fun k hk => h k (by omega)) (fun t => V t - V r * M t (Pv r)) (fun t h1 h2 => by
      by_cases e : t = r
      · rw [e, p2, Int.mul_one, Int.sub_self, Int.zero_emod]
      · rw [p3 t (by omega) h2, Int.mul_zero, Int.sub_zero]
        exact hV t (by omega) h2)
    refine ⟨fun j => s j + (if j = Pv r then -V r else 0), fun t ht => ?_⟩
    have := hs t ht
    rw [zsm_congr (G := fun j => s j * M t j + (if j = Pv r then -V r else 0) * M t j) (fun j _ => Int.add_mul _ _ _), zsm_add (fun j => s j * M t j) (fun j => (if j = Pv r then -V r else 0) * M t j), zsm_pick c p1]
    rw [Int.neg_mul]
    rw [show zsm (fun j => s j * M t j) c + -(V r * M t (Pv r)) + V t = zsm (fun j => s j * M t j) c + (V t - V r * M t (Pv r)) by omega]
    exact this
/-- a row of coefficients up to c, 1 there -/
def zcut (s : Nat → Int) (c j : Nat) : Int := if j < c then s j else if j = c then 1 else 0
theorem zcut_sum {s G : Nat → Int} {c m : Nat} (h : c < m) : zsm (fun j => zcut s c j * G j) m = zsm (fun j => s j * G j) c + G c := by
  rw [zsm_trunc (c := c + 1) m (by omega) (fun j h1 h2 => by
    unfold zcut
    rw [if_neg (by omega), if_neg (by omega), Int.zero_mul])]
  show zsm (fun j => zcut s c j * G j) c + zcut s c c * G c = _
  rw [zsm_congr (G := fun j => s j * G j) (fun j hj => by
    unfold zcut
    rw [if_pos hj])]
  unfold zcut
  rw [if_neg (by omega), if_pos rfl, Int.one_mul]
/-- dependence seen in a matrix with the same kernel -/
theorem zfr_iff {p : Int} {n m c : Nat} {M C : Nat → Nat → Int} (hc : c < m) (hK : ∀ s, zker p n m (fun t j => C j t) s ↔ zker p n m M s) : zfr p n C c ↔ ∃ s : Nat → Int, ∀ t, t < n → (zsm (fun j => s j * M t j) c + M t c) % p = 0 := by
  constructor
  · rintro ⟨s, hs⟩
    refine ⟨s, fun t ht => ?_⟩
    have := (hK (zcut s c)).1 (fun t ht => by
      show zsm (fun j => zcut s c j * C j t) m % p = 0
      rw [zcut_sum hc]; exact hs t ht) t ht
    rw [zcut_sum hc] at this
    exact this
  · rintro ⟨s, hs⟩
    refine ⟨s, fun t ht => ?_⟩
    have := (hK (zcut s c)).2 (fun t ht => by
      rw [zcut_sum hc]; exact hs t ht) t ht
    have e : zsm (fun j => zcut s c j * C j t) m % p = 0 := this
    rw [zcut_sum hc] at e
    exact e
/-- sums of bases -/
def zspn (p : Int) (n : Nat) (G : Nat → Nat → Int) (B : Nat) (V : Nat → Int) : Prop := ∃ e : Nat → Int, ∀ t, t < n → V t % p = zsm (fun b => e b * G b t) B % p
theorem zspn_congr {p : Int} {n B : Nat} {G : Nat → Nat → Int} {V W : Nat → Int} (h : zspn p n G B V) (e : ∀ t, t < n → W t % p = V t % p) : zspn p n G B W := by
  obtain ⟨x, hx⟩ := h
  exact ⟨x, fun t ht => (e t ht).trans (hx t ht)⟩
theorem zspn_lin {p : Int} {n B : Nat} {G : Nat → Nat → Int} {C : Nat → Nat → Int} {s : Nat → Int} : ∀ c, (∀ j, j < c → zspn p n G B (C j)) → zspn p n G B (fun t => zsm (fun j => s j * C j t) c)
  | 0, _ => ⟨fun _ => 0, fun t _ => by rw [zsm_zero (fun j _ => Int.zero_mul _)]; rfl⟩
  | c + 1, h => by
    obtain ⟨x, hx⟩ := zspn_lin (s := s) c (fun j hj => h j (by omega))
    have hx : ∀ t, t < n → zsm (fun j => s j * C j t) c % p = zsm (fun b => x b * G b t) B % p := hx
    obtain ⟨y, hy⟩ := h c (by omega)
    refine ⟨fun b => x b + s c * y b, fun t ht => ?_⟩
    show (zsm (fun j => s j * C j t) c + s c * C c t) % p = zsm (fun b => (x b + s c * y b) * G b t) B % p
    rw [zsm_congr (F := fun b => (x b + s c * y b) * G b t) (G := fun b => x b * G b t + s c * (y b * G b t)) (fun b _ => by rw [Int.add_mul, Int.mul_assoc]), zsm_add (fun b => x b * G b t) (fun b => s c * (y b * G b t)), zsm_mul, Int.add_emod, hx t ht, Int.mul_emod (s c), hy t ht, ← Int.mul_emod, ← Int.add_emod]
theorem zspn_more {p : Int} {n B : Nat} {G G' : Nat → Nat → Int} {V : Nat → Int} (h : zspn p n G B V) (e : ∀ b t, b < B → t < n → G' b t = G b t) : zspn p n G' (B + 1) V := by
  obtain ⟨x, hx⟩ := h
  refine ⟨fun b => if b < B then x b else 0, fun t ht => ?_⟩
  rw [hx t ht]
  show _ = (zsm (fun b => (if b < B then x b else 0) * G' b t) B + (if B < B then x B else 0) * G' B t) % p
  rw [if_neg (show ¬ B < B by omega), Int.zero_mul, Int.add_zero, zsm_congr (F := fun b => (if b < B then x b else 0) * G' b t) (G := fun b => x b * G b t) (fun b hb => by rw [if_pos hb, e b t hb ht])]
theorem zspn_last {p : Int} {n B : Nat} {G : Nat → Nat → Int} {V : Nat → Int} {x : Int} (e : ∀ t, t < n → V t % p = (x * G B t) % p) : zspn p n G (B + 1) V := by
  refine ⟨fun b => if b = B then x else 0, fun t ht => ?_⟩
  rw [e t ht, zsm_pick (B + 1) (by omega)]
theorem ztri {p : Int} {B : Nat} {G : Nat → Nat → Int} {P : Nat → Nat} {e : Nat → Int} (h1 : ∀ b, b < B → G b (P b) = 1) (h2 : ∀ a b, a < b → b < B → G b (P a) = 0) (h : ∀ a, a < B → zsm (fun b => e b * G b (P a)) B % p = 0) : ∀ k, k ≤ B → ∀ b, b < k → e b % p = 0
  | 0, _, b, hb => absurd hb (by omega)
  | k + 1, hk, b, hb => by
    have ih := ztri h1 h2 h k (by omega)
    by_cases eb : b = k
    · subst eb
      have := h b (by omega)
      rw [zsm_mod (G := fun j => (if j = b then e b else 0) * 1) (fun j hj => by
        show e j * G j (P b) % p = ((if j = b then e b else 0) * 1) % p
        by_cases q : j = b
        · rw [if_pos q, q, h1 b (by omega)]
        · rw [if_neg q]
          by_cases q2 : j < b
          · rw [Int.mul_emod, ih j q2]; simp
          · rw [h2 b j (by omega) (by omega)]; simp), zsm_pick B (by omega), Int.mul_one] at this
      exact this
    · exact ih b (by omega)
/-- a column that depends leaves nothing -/
theorem zrest {p : Int} {n B c : Nat} {G C : Nat → Nat → Int} {P : Nat → Nat} {s R : Nat → Int} (hPn : ∀ b, b < B → P b < n) (h1 : ∀ b, b < B → G b (P b) = 1) (h2 : ∀ a b, a < b → b < B → G b (P a) = 0) (hS : ∀ j, j < c → zspn p n G B (C j)) (hR : ∀ t, t < n → R t % p = (zsm (fun j => s j * C j t) c + C c t) % p) (h0 : ∀ b, b < B → R (P b) % p = 0) (hf : zfr p n C c) : ∀ t, t < n → R t % p = 0 := by
  obtain ⟨u, hu⟩ := hf
  have hsp : zspn p n G B R := by
    refine zspn_congr (zspn_lin (s := fun j => s j + -1 * u j) c hS) (fun t ht => ?_)
    rw [hR t ht, zsm_congr (F := fun j => (s j + -1 * u j) * C j t) (G := fun j => s j * C j t + -1 * (u j * C j t)) (fun j _ => by rw [Int.add_mul, Int.mul_assoc]), zsm_add (fun j => s j * C j t) (fun j => -1 * (u j * C j t)), zsm_mul]
    have := hu t ht
    generalize zsm (fun j => s j * C j t) c = S
    generalize zsm (fun j => u j * C j t) c = U at this ⊢
    rw [show S + C c t = (S + -1 * U) + (U + C c t) by omega, Int.add_emod, this, Int.add_zero, Int.emod_emod]
  obtain ⟨e, he⟩ := hsp
  have hz := ztri (p := p) h1 h2 (e := e) (fun a ha => by rw [← he (P a) (hPn a ha)]; exact h0 a ha) B (Nat.le_refl _)
  intro t ht
  rw [he t ht, zsm_mod (G := fun _ => 0) (fun b hb => by
    show e b * G b t % p = 0 % p
    rw [Int.mul_emod, hz b hb]; simp), zsm_zero (fun _ _ => rfl), Int.zero_emod]
