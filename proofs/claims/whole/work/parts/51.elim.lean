/-! FIND: elimination on paper -/
/-- columns up to c are through, r of them are pivots, F is the first that depends -/
def zElM (p : Int) (n m : Nat) (C M : Nat → Nat → Int) (c r F : Nat) : Prop :=
  (∀ t, t < n → ∀ j, j < m → 0 ≤ M t j ∧ M t j < p) ∧ (r ≤ n ∧ r ≤ c ∧ c ≤ m) ∧
  (∀ t, r ≤ t → t < n → ∀ j, j < c → M t j = 0) ∧
  (∃ Pv : Nat → Nat, ∀ k, k < r → Pv k < c ∧ M k (Pv k) = 1 ∧ ∀ t, k < t → t < n → M t (Pv k) = 0) ∧
  (∀ s, zker p n m (fun t j => C j t) s ↔ zker p n m M s) ∧
  ((c : Int) - r = zct (fun c => zdec (zfr p n C c)) c) ∧
  ((F = m ∧ r = c ∧ ∀ k, k < c → ¬ zfr p n C k ∧ M k k = 1 ∧ ∀ t, k < t → t < n → M t k = 0) ∨ (F < c ∧ F ≤ r ∧ (∀ k, k < F → ¬ zfr p n C k ∧ M k k = 1 ∧ ∀ t, k < t → t < n → M t k = 0) ∧ ∀ t, F ≤ t → t < n → M t F = 0))
theorem zEl_free {p : Int} {n m c r F : Nat} {C M : Nat → Nat → Int} (h : zElM p n m C M c r F) (hc : c < m) (hz : ∀ t, r ≤ t → t < n → M t c = 0) : zElM p n m C M (c + 1) r (min F c) := by
  obtain ⟨a1, a2, a3, ⟨Pv, a4⟩, a5, a6, a7⟩ := h
  have hfr : zfr p n C c := by
    rw [zfr_iff (M := M) hc a5]
    exact zback (p := p) (n := n) (c := c) (M := M) (Pv := Pv) r a4 (fun t => M t c) (fun t h1 h2 => by rw [hz t h1 h2, Int.zero_emod])
  refine ⟨a1, by omega, fun t h1 h2 j hj => ?_, ⟨Pv, fun k hk => ⟨by have := (a4 k hk).1; omega, (a4 k hk).2⟩⟩, a5, ?_, ?_⟩
  · by_cases e : j = c
    · rw [e]; exact hz t h1 h2
    · exact a3 t h1 h2 j (by omega)
  · rw [zct, zdec_iff.2 hfr, if_pos rfl, ← a6]; omega
  · rcases a7 with ⟨b1, b2, b3⟩ | ⟨b1, b2, b3, b4⟩
    · right
      rw [show min F c = c by omega]
      exact ⟨by omega, by omega, b3, fun t h1 h2 => hz t (by omega) h2⟩
    · right
      rw [show min F c = F by omega]
      exact ⟨by omega, b2, b3, b4⟩
theorem zEl_piv {p : Int} {n m c r F t0 : Nat} {C M S M' : Nat → Nat → Int} (hP : zP p) (h : zElM p n m C M c r F) (hc : c < m) (hrt : r ≤ t0) (htn : t0 < n) (hne : M t0 c ≠ 0)
    (hS : ∀ t, t < n → ∀ j, j < m → S t j = if t = t0 then M r j else if t = r then M t0 j else M t j)
    (hlo : ∀ t, t < r → ∀ j, j < m → M' t j = M t j) (hr : ∀ j, j < m → M' r j = M t0 j * zI p (M t0 c) % p) (hhi : ∀ t, r < t → t < n → ∀ j, j < m → M' t j = (S t j + (p - S t c) * M' r j) % p) : zElM p n m C M' (c + 1) (r + 1) F := by
  obtain ⟨a1, a2, a3, ⟨Pv, a4⟩, a5, a6, a7⟩ := h
  have hb := zP_bd hP
  have hx := a1 t0 htn c hc
  obtain ⟨i1, i2, i3⟩ := zI_ok hP (x := M t0 c) (by omega) hx.2
  have hfr : ¬ zfr p n C c := by
    rw [zfr_iff (M := M) hc a5]
    rintro ⟨s, hs⟩
    have := hs t0 htn
    rw [zsm_zero (fun j hj => by rw [a3 t0 hrt htn j hj, Int.mul_zero]), Int.zero_add, Int.emod_eq_of_lt hx.1 hx.2] at this
    exact hne this
  have hrn : r < n := by omega
  have hrz : ∀ j, j < c → M' r j = 0 := fun j hj => by rw [hr j (by omega), a3 t0 hrt htn j hj, Int.zero_mul, Int.zero_emod]
  have hrc : M' r c = 1 := by rw [hr c hc, i3]
  have hSz : ∀ t, r < t → t < n → ∀ j, j < c → S t j = 0 := fun t h1 h2 j hj => by
    rw [hS t h2 j (by omega)]
    by_cases e : t = t0
    · rw [if_pos e]; exact a3 r (by omega) hrn j hj
    · rw [if_neg e, if_neg (by omega)]; exact a3 t (by omega) h2 j hj
  have hSb : ∀ t, t < n → ∀ j, j < m → 0 ≤ S t j ∧ S t j < p := fun t ht j hj => by
    rw [hS t ht j hj]
    split
    · exact a1 r hrn j hj
    · split
      · exact a1 t0 htn j hj
      · exact a1 t ht j hj
  have hzn : ∀ t, r + 1 ≤ t → t < n → ∀ j, j < c + 1 → M' t j = 0 := fun t h1 h2 j hj => by
    rw [hhi t (by omega) h2 j (by omega)]
    by_cases e : j = c
    · rw [e, hrc, Int.mul_one, show S t c + (p - S t c) = p by omega, Int.emod_self]
    · rw [hSz t (by omega) h2 j (by omega), hrz j (by omega), Int.mul_zero, Int.add_zero, Int.zero_emod]
  have hzr : ∀ t, r ≤ t → t < n → ∀ j, j < c → M' t j = 0 := fun t h1 h2 j hj => by
    by_cases e : t = r
    · rw [e]; exact hrz j hj
    · exact hzn t (by omega) h2 j (by omega)
  -- what held of columns before c, rows below, holds
  have keep : ∀ k, k < c → ∀ q, (∀ t, q < t → t < n → M t k = 0) → ∀ t, q < t → t < n → M' t k = 0 := fun k hk q hq t h1 h2 => by
    by_cases e : t < r
    · rw [hlo t e k (by omega)]; exact hq t h1 h2
    · exact hzr t (by omega) h2 k hk
  refine ⟨fun t ht j hj => ?_, by omega, hzn, ⟨fun k => if k < r then Pv k else c, fun k hk => ?_⟩, fun s => (a5 s).trans ⟨zker_row (fun t ht => ?_), zker_row (fun t ht => ?_)⟩, ?_, ?_⟩
  · rcases Nat.lt_trichotomy t r with e | e | e
    · rw [hlo t e j hj]; exact a1 t ht j hj
    · rw [e, hr j hj]; exact zemod_lt (by omega)
    · rw [hhi t e ht j hj]; exact zemod_lt (by omega)
  · dsimp only
    by_cases e : k < r
    · obtain ⟨b1, b2, b3⟩ := a4 k e
      rw [if_pos e]
      exact ⟨by omega, by rw [hlo k e _ (by omega)]; exact b2, keep _ b1 k b3⟩
    · have ek : k = r := by omega
      subst ek
      rw [if_neg e]
      exact ⟨by omega, hrc, fun t h1 h2 => hzn t (by omega) h2 c (by omega)⟩
  · rcases Nat.lt_trichotomy t r with e | e | e
    · exact ⟨1, 0, t, t, ht, ht, fun j hj => by rw [hlo t e j hj]; congr 1; omega⟩
    · refine ⟨zI p (M t0 c), 0, t0, t0, htn, htn, fun j hj => ?_⟩
      rw [e, hr j hj, Int.emod_emod, Int.zero_mul, Int.add_zero, Int.mul_comm]
    · refine ⟨1, (p - S t c) * zI p (M t0 c), if t = t0 then r else t, t0, by split <;> omega, htn, fun j hj => ?_⟩
      have e2 : M (if t = t0 then r else t) j = S t j := by
        rw [hS t ht j hj]
        by_cases q : t = t0
        · rw [if_pos q, if_pos q]
        · rw [if_neg q, if_neg q, if_neg (by omega)]
      rw [e2, hhi t e ht j hj, Int.emod_emod, hr j hj]
      obtain ⟨u, hu⟩ := zme_q p (M t0 j * zI p (M t0 c))
      rw [hu]
      generalize zI p (M t0 c) = i
      generalize p - S t c = f
      exact zme_i ⟨f * u, by grind⟩
  · rcases Nat.lt_trichotomy t r with e | e | e
    · exact ⟨1, 0, t, t, ht, ht, fun j hj => by rw [hlo t e j hj]; congr 1; omega⟩
    · -- row r of the old matrix
      by_cases q : t0 = r
      · refine ⟨M t0 c, 0, r, r, hrn, hrn, fun j hj => ?_⟩
        rw [e, hr j hj, q, Int.zero_mul, Int.add_zero]
        rw [q] at i3
        obtain ⟨u, hu⟩ := zme_q p (M r j * zI p (M r c))
        rw [hu]
        obtain ⟨v, hv⟩ := zme_e (x := M r c * zI p (M r c)) (y := 1) (p := p) (by rw [i3, Int.emod_eq_of_lt (by omega) (by omega)])
        generalize zI p (M r c) = i at hv ⊢
        generalize M r c = x at hv ⊢
        generalize M r j = y
        have e5 : x * i * y = (1 + p * v) * y := by rw [hv]
        exact zme_i ⟨-(v * y) - x * u, by grind⟩
      · refine ⟨1, -(p - S t0 c), t0, r, htn, hrn, fun j hj => ?_⟩
        rw [hhi t0 (by omega) htn j hj]
        have e2 : S t0 j = M t j := by rw [hS t0 htn j hj, if_pos rfl, e]
        rw [e2]
        generalize p - S t0 c = f
        generalize M' r j = y
        obtain ⟨u, hu⟩ := zme_q p (M t j + f * y)
        rw [hu]
        exact zme_i ⟨-u, by grind⟩
    · by_cases q : t = t0
      · refine ⟨M t0 c, 0, r, r, hrn, hrn, fun j hj => ?_⟩
        rw [q, hr j hj, Int.zero_mul, Int.add_zero]
        obtain ⟨u, hu⟩ := zme_q p (M t0 j * zI p (M t0 c))
        rw [hu]
        obtain ⟨v, hv⟩ := zme_e (x := M t0 c * zI p (M t0 c)) (y := 1) (p := p) (by rw [i3, Int.emod_eq_of_lt (by omega) (by omega)])
        generalize zI p (M t0 c) = i at hv ⊢
        generalize M t0 c = x at hv ⊢
        generalize M t0 j = y
        have e5 : x * i * y = (1 + p * v) * y := by rw [hv]
        exact zme_i ⟨-(v * y) - x * u, by grind⟩
      · refine ⟨1, -(p - S t c), t, r, ht, hrn, fun j hj => ?_⟩
        rw [hhi t e ht j hj]
        have e2 : S t j = M t j := by rw [hS t ht j hj, if_neg q, if_neg (by omega)]
        rw [e2]
        generalize p - S t c = f
        generalize M' r j = y
        obtain ⟨u, hu⟩ := zme_q p (M t j + f * y)
        rw [hu]
        exact zme_i ⟨-u, by grind⟩
  · rw [zct, zdec_f hfr, if_neg (by simp), ← a6]; omega
  · rcases a7 with ⟨b1, b2, b3⟩ | ⟨b1, b2, b3, b4⟩
    · refine Or.inl ⟨b1, by omega, fun k hk => ?_⟩
      by_cases e : k = c
      · subst e
        rw [b2] at hrc hzn
        exact ⟨hfr, hrc, fun t h1 h2 => hzn t (by omega) h2 k (by omega)⟩
      · obtain ⟨d1, d2, d3⟩ := b3 k (by omega)
        exact ⟨d1, by rw [hlo k (by omega) k (by omega)]; exact d2, keep k (by omega) k d3⟩
    · refine Or.inr ⟨by omega, by omega, fun k hk => ?_, fun t h1 h2 => ?_⟩
      · obtain ⟨d1, d2, d3⟩ := b3 k hk
        exact ⟨d1, by rw [hlo k (by omega) k (by omega)]; exact d2, keep k (by omega) k d3⟩
      · by_cases e : t < r
        · rw [hlo t e F (by omega)]; exact b4 t h1 h2
        · exact hzr t (by omega) h2 F b1
theorem zEl_first {p : Int} {n m : Nat} {C M : Nat → Nat → Int} (hM : ∀ t, t < n → ∀ j, j < m → M t j = C j t) (hb : ∀ j t, 0 ≤ C j t ∧ C j t < p) : zElM p n m C M 0 0 m :=
  ⟨fun t ht j hj => by rw [hM t ht j hj]; exact hb j t, by omega, fun _ _ _ j hj => absurd hj (by omega), ⟨fun _ => 0, fun k hk => absurd hk (by omega)⟩, fun s => ⟨zker_row (fun t ht => ⟨1, 0, t, t, ht, ht, fun j hj => by rw [hM t ht j hj]; congr 1; omega⟩), zker_row (fun t ht => ⟨1, 0, t, t, ht, ht, fun j hj => by rw [hM t ht j hj]; congr 1; omega⟩)⟩, rfl, Or.inl ⟨rfl, rfl, fun k hk => absurd hk (by omega)⟩⟩
theorem zsm_shift (G : Nat → Int) (a : Nat) : ∀ b, zsm G (a + b) = zsm G a + zsm (fun x => G (a + x)) b
  | 0 => by show zsm G a = zsm G a + 0; omega
  | b + 1 => by
    show zsm G (a + b) + G (a + b) = zsm G a + (zsm (fun x => G (a + x)) b + G (a + b))
    rw [zsm_shift G a b]; omega
/-- the dependence that back substitution gives -/
theorem zEl_sol {p : Int} {n m r F : Nat} {C M : Nat → Nat → Int} {s : Nat → Int} (hp : 0 < p) (h : zElM p n m C M m r F) (hF : F < m) (h1 : s F = 1) (hb : ∀ j, 0 ≤ s j ∧ s j < p) (hz : ∀ j, F < j → s j = 0) (hr : ∀ t, t < F → (zsm (fun x => M t (t + 1 + x) * s (t + 1 + x)) (F - t) + s t) % p = 0) : zSol p n C F s := by
  obtain ⟨a1, a2, a3, a4, a5, a6, a7⟩ := h
  rcases a7 with ⟨b1, b2, b3⟩ | ⟨b1, b2, b3, b4⟩
  · omega
  · have key : zker p n m M s := fun t ht => by
      rw [zsm_trunc (c := F + 1) m (by omega) (fun j h1 _ => by rw [hz j (by omega), Int.zero_mul])]
      by_cases e : t < F
      · rw [show F + 1 = t + (F - t + 1) by omega, zsm_shift, zsm_zero (fun j hj => by rw [(b3 j (by omega)).2.2 t hj ht, Int.mul_zero]), Int.zero_add, zsm_front]
        show (s (t + 0) * M t (t + 0) + zsm (fun i => s (t + (i + 1)) * M t (t + (i + 1))) (F - t)) % p = 0
        rw [Nat.add_zero, (b3 t e).2.1, Int.mul_one, zsm_congr (G := fun x => M t (t + 1 + x) * s (t + 1 + x)) (fun x _ => by rw [show t + (x + 1) = t + 1 + x by omega, Int.mul_comm]), Int.add_comm]
        exact hr t e
      · rw [zsm_zero (fun j hj => by
          by_cases ej : j = F
          · rw [ej, b4 t (by omega) ht, Int.mul_zero]
          · rw [(b3 j (by omega)).2.2 t (by omega) ht, Int.mul_zero]), Int.zero_emod]
    refine ⟨fun c hc => (b3 c hc).1, h1, hb, hz, fun t ht => ?_⟩
    have h3 : zsm (fun j => s j * C j t) m % p = 0 := (a5 s).2 key t ht
    rw [zsm_trunc (c := F + 1) m (by omega) (fun j h1 _ => by rw [hz j (by omega), Int.zero_mul])] at h3
    exact h3
