/-! FIND: the model's bases on paper -/
/-- the term's number at a place of the model's rows -/
def zIdx (w d t : Nat) : Nat := if t < (d + 1) * (d + 1) then zxT w d (t / (d + 1)) (t % (d + 1)) else 100
theorem zIdx_p_b : (List.range 2).all (fun w => (List.range 9).all (fun d => (List.range 9).all (fun i => (List.range 9).all (fun k => Nat.blt d i || Nat.blt d k || (Nat.beq (zIdx w d ((d + 1) * i + k)) (zxT w d i k) && Nat.blt ((d + 1) * i + k) 81))))) = true := by decide +kernel
theorem zIdx_p {w d i k : Nat} (hw : w < 2) (hd : d < 9) (hi : i ≤ d) (hk : k ≤ d) : zIdx w d ((d + 1) * i + k) = zxT w d i k ∧ (d + 1) * i + k < 81 := by
  have h := List.all_eq_true.mp (List.all_eq_true.mp (List.all_eq_true.mp (List.all_eq_true.mp zIdx_p_b w (List.mem_range.mpr hw)) d (List.mem_range.mpr hd)) i (List.mem_range.mpr (by omega))) k (List.mem_range.mpr (by omega))
  simp only [Bool.or_eq_true, Bool.and_eq_true, Nat.blt_eq, Nat.beq_eq] at h
  rcases h with (h | h) | h
  · omega
  · omega
  · exact h
theorem zIdx_t_b : (List.range 2).all (fun w => (List.range 9).all (fun d => (List.range 81).all (fun t => Nat.beq (zIdx w d t) 100 || (Nat.blt (zIdx w d t) (zmT w d) && (Nat.beq t ((d + 1) * (zpT w d (zIdx w d t)).1 + (zpT w d (zIdx w d t)).2) || (Nat.beq w 1 && Nat.beq t ((d + 1) * (zpT w d (zIdx w d t)).2 + (zpT w d (zIdx w d t)).1))))))) = true := by decide +kernel
theorem zIdx_t {w d t : Nat} (hw : w < 2) (hd : d < 9) (ht : t < 81) : zIdx w d t = 100 ∨ (zIdx w d t < zmT w d ∧ (t = (d + 1) * (zpT w d (zIdx w d t)).1 + (zpT w d (zIdx w d t)).2 ∨ (w = 1 ∧ t = (d + 1) * (zpT w d (zIdx w d t)).2 + (zpT w d (zIdx w d t)).1))) := by
  have h := List.all_eq_true.mp (List.all_eq_true.mp (List.all_eq_true.mp zIdx_t_b w (List.mem_range.mpr hw)) d (List.mem_range.mpr hd)) t (List.mem_range.mpr ht)
  simp only [Bool.or_eq_true, Bool.and_eq_true, Nat.blt_eq, Nat.beq_eq] at h
  exact h
/-- which places hold the column c -/
theorem zIdx_c {w d c t : Nat} (hw : w < 2) (hd : d < 9) (hc : c < zmT w d) (ht : t < 81) : zIdx w d t = c ↔ (t = (d + 1) * (zpT w d c).1 + (zpT w d c).2 ∨ (w = 1 ∧ t = (d + 1) * (zpT w d c).2 + (zpT w d c).1)) := by
  obtain ⟨c1, c2, c3, c4⟩ := zT_c hw hd hc
  have hm := (zT_m hw hd).1
  constructor
  · intro e
    rcases zIdx_t hw hd ht with q | ⟨_, q⟩
    · omega
    · rw [e] at q; exact q
  · rintro (e | ⟨e0, e⟩)
    · rw [e, (zIdx_p hw hd c1 c2).1, c3]
    · rw [e, (zIdx_p hw hd c2 c1).1, c4 e0]
/-- bases so far: rows, their terms, their pivots -/
def zBa (p : Int) (n w d : Nat) (C : Nat → Nat → Int) (c B : Nat) (P : Nat → Nat) (S : Nat → Nat → Int) (r5 r6 r7 : Nat → Int) : Prop :=
  (∀ b, b < B → r7 b = (P b : Int) ∧ P b < n ∧ r5 (80 * b + P b) = 1 ∧ (∀ t, t < n → 0 ≤ r5 (80 * b + t) ∧ r5 (80 * b + t) < p ∧ r5 (80 * b + t) % p = zsm (fun j => S b j * C j t) c % p) ∧ (∀ t, t < 81 → r6 (81 * b + t) = S b (zIdx w d t)) ∧ (∀ j, 0 ≤ S b j ∧ S b j < p) ∧ ∀ j, c ≤ j → S b j = 0) ∧
  (∀ a b, a < b → b < B → r5 (80 * b + P a) = 0) ∧
  (∀ j, j < c → zspn p n (fun b t => r5 (80 * b + t)) B (C j)) ∧
  (B : Int) = zct (fun e => zdec (∃ b, b < B ∧ P b = e)) n
theorem zBa_le {p : Int} {n w d c B : Nat} {C : Nat → Nat → Int} {P : Nat → Nat} {S : Nat → Nat → Int} {r5 r6 r7 : Nat → Int} (h : zBa p n w d C c B P S r5 r6 r7) : B ≤ n := by
  have := (zct_bd (P := fun e => zdec (∃ b, b < B ∧ P b = e)) (n := n)).2
  have := h.2.2.2
  omega
/-- a column under way: R its rest, s its terms -/
def zRs (p : Int) (n : Nat) (C : Nat → Nat → Int) (c : Nat) (s R : Nat → Int) : Prop := s c = 1 ∧ (∀ j, 0 ≤ s j ∧ s j < p) ∧ (∀ j, c < j → s j = 0) ∧ (∀ t, t < n → 0 ≤ R t ∧ R t < p ∧ R t % p = (zsm (fun j => s j * C j t) c + C c t) % p)
theorem zBa_less {p : Int} {n w d c B b : Nat} {C : Nat → Nat → Int} {P : Nat → Nat} {S : Nat → Nat → Int} {r5 r6 r7 s R R' : Nat → Int} (hp : 2 ≤ p) (h : zBa p n w d C c B P S r5 r6 r7) (hb : b < B) (hR : zRs p n C c s R) (hR' : ∀ t, t < n → R' t = (R t + (p - R (P b)) * r5 (80 * b + t)) % p) : zRs p n C c (fun j => (s j + (p - R (P b)) * S b j) % p) R' := by
  obtain ⟨h1, h2, h3, h4⟩ := hR
  obtain ⟨_, _, _, b4, _, b6, b7⟩ := h.1 b hb
  refine ⟨?_, fun j => zemod_lt (by omega), fun j hj => ?_, fun t ht => ?_⟩
  · show (s c + (p - R (P b)) * S b c) % p = 1
    rw [b7 c (Nat.le_refl _), Int.mul_zero, Int.add_zero, h1, Int.emod_eq_of_lt (by omega) (by omega)]
  · show (s j + (p - R (P b)) * S b j) % p = 0
    rw [b7 j (by omega), h3 j hj, Int.mul_zero, Int.add_zero, Int.zero_emod]
  · rw [hR' t ht]
    refine ⟨(zemod_lt (by omega)).1, (zemod_lt (by omega)).2, ?_⟩
    rw [Int.emod_emod]
    have hs : zsm (fun j => (s j + (p - R (P b)) * S b j) % p * C j t) c % p = zsm (fun j => s j * C j t + (p - R (P b)) * (S b j * C j t)) c % p := zsm_mod (fun j _ => by
      rw [Int.mul_emod, Int.emod_emod, ← Int.mul_emod, Int.add_mul, Int.mul_assoc])
    rw [zsm_add (fun j => s j * C j t) (fun j => (p - R (P b)) * (S b j * C j t)), zsm_mul] at hs
    have e1 := (h4 t ht).2.2
    have e2 := (b4 t ht).2.2
    generalize zsm (fun j => (s j + (p - R (P b)) * S b j) % p * C j t) c = X at hs ⊢
    generalize zsm (fun j => s j * C j t) c = Y at hs e1
    generalize zsm (fun j => S b j * C j t) c = Z at hs e2
    generalize p - R (P b) = f at hs ⊢
    obtain ⟨t1, g1⟩ := zme_e hs
    obtain ⟨t2, g2⟩ := zme_e e1
    obtain ⟨t3, g3⟩ := zme_e e2
    rw [g1, g2, g3]
    exact zme_i ⟨t2 + f * t3 - t1, by grind⟩
theorem zBa_free {p : Int} {n w d c B : Nat} {C : Nat → Nat → Int} {P : Nat → Nat} {S : Nat → Nat → Int} {r5 r6 r7 : Nat → Int} (h : zBa p n w d C c B P S r5 r6 r7) (hf : zfr p n C c) : zBa p n w d C (c + 1) B P S r5 r6 r7 := by
  obtain ⟨h1, h2, h3, h4⟩ := h
  refine ⟨fun b hb => ?_, h2, fun j hj => ?_, h4⟩
  · obtain ⟨b1, b2, b3, b4, b5, b6, b7⟩ := h1 b hb
    refine ⟨b1, b2, b3, fun t ht => ⟨(b4 t ht).1, (b4 t ht).2.1, ?_⟩, b5, b6, fun j hj => b7 j (by omega)⟩
    rw [(b4 t ht).2.2]
    show _ = (zsm (fun j => S b j * C j t) c + S b c * C c t) % p
    rw [b7 c (Nat.le_refl _), Int.zero_mul, Int.add_zero]
  · by_cases e : j = c
    · subst e
      obtain ⟨s, hs⟩ := hf
      refine zspn_congr (zspn_lin (s := fun x => -1 * s x) j h3) (fun t ht => ?_)
      have := hs t ht
      rw [zsm_congr (F := fun x => -1 * s x * C x t) (G := fun x => -1 * (s x * C x t)) (fun x _ => Int.mul_assoc _ _ _), zsm_mul]
      generalize zsm (fun x => s x * C x t) j = Y at this ⊢
      obtain ⟨u, hu⟩ := zme_e (x := Y + C j t) (y := 0) (p := p) (by rw [this, Int.zero_emod])
      exact zme_i ⟨u, by omega⟩
    · exact h3 j (by omega)
theorem zBa_new {p : Int} {n w d c B a : Nat} {C : Nat → Nat → Int} {P : Nat → Nat} {S : Nat → Nat → Int} {r5 r6 r7 s R q5 q6 q7 : Nat → Int} (hP : zP p) (hn : n ≤ 80) (h : zBa p n w d C c B P S r5 r6 r7) (hR : zRs p n C c s R) (ha : a < n) (hne : R a ≠ 0) (hz : ∀ b, b < B → R (P b) = 0)
    (e5 : ∀ b t, t < 80 → q5 (80 * b + t) = if b = B then R t * zI p (R a) % p else r5 (80 * b + t)) (e6 : ∀ b t, t < 81 → q6 (81 * b + t) = if b = B then s (zIdx w d t) * zI p (R a) % p else r6 (81 * b + t)) (e7 : ∀ b, q7 b = if b = B then (a : Int) else r7 b) :
    zBa p n w d C (c + 1) (B + 1) (fun b => if b = B then a else P b) (fun b => if b = B then fun j => s j * zI p (R a) % p else S b) q5 q6 q7 ∧ B + 1 ≤ n := by
  have hpb := zP_bd hP
  obtain ⟨h1, h2, h3, h4⟩ := h
  obtain ⟨g1, g2, g3, g4⟩ := hR
  have hx := g4 a ha
  obtain ⟨i1, i2, i3⟩ := zI_ok hP (x := R a) (by omega) hx.2.1
  have hPn : ∀ b, b < B → P b < n := fun b hb => (h1 b hb).2.1
  have hPa : ∀ b, b < B → P b ≠ a := fun b hb e => hne (by rw [← e]; exact hz b hb)
  have hnew : ∀ b, b < B → ∀ t, t < n → q5 (80 * b + t) = r5 (80 * b + t) := fun b hb t ht => by rw [e5 b t (by omega), if_neg (by omega)]
  have hlast : ∀ t, t < n → q5 (80 * B + t) = R t * zI p (R a) % p := fun t ht => by rw [e5 B t (by omega), if_pos rfl]
  have hct := zct_flip (P := fun e => zdec (∃ b, b < B ∧ P b = e)) (Q := fun e => zdec (∃ b, b < B + 1 ∧ (if b = B then a else P b) = e)) (w := a) (zdec_f (fun ⟨b, hb, e⟩ => hPa b hb e)) (fun e => by
    by_cases q : e = a
    · rw [if_pos q]
      exact zdec_iff.2 ⟨B, by omega, by rw [if_pos rfl, q]⟩
    · rw [if_neg q]
      by_cases z : ∃ b, b < B ∧ P b = e
      · rw [zdec_iff.2 z]
        obtain ⟨b, hb, z⟩ := z
        exact zdec_iff.2 ⟨b, by omega, by rw [if_neg (by omega)]; exact z⟩
      · rw [zdec_f z, zdec_f]
        rintro ⟨b, hb, z2⟩
        by_cases eb : b = B
        · rw [if_pos eb] at z2; exact q z2.symm
        · rw [if_neg eb] at z2; exact z ⟨b, by omega, z2⟩) n
  rw [if_pos ha, ← h4] at hct
  have hle : B + 1 ≤ n := by
    have := (zct_bd (P := fun e => zdec (∃ b, b < B + 1 ∧ (if b = B then a else P b) = e)) (n := n)).2
    omega
  refine ⟨⟨fun b hb => ?_, fun a' b hab hb => ?_, fun j hj => ?_, by rw [hct]; omega⟩, hle⟩
  · by_cases eb : b = B
    · subst eb
      simp only [↓reduceIte]
      refine ⟨by rw [e7, if_pos rfl], ha, by rw [hlast a ha, i3], fun t ht => ?_, fun t ht => by rw [e6 b t ht, if_pos rfl], fun j => zemod_lt (by omega), fun j hj => ?_⟩
      · rw [hlast t ht]
        refine ⟨(zemod_lt (by omega)).1, (zemod_lt (by omega)).2, ?_⟩
        rw [Int.emod_emod]
        have hs : zsm (fun j => s j * zI p (R a) % p * C j t) (c + 1) % p = zsm (fun j => zI p (R a) * (s j * C j t)) (c + 1) % p := zsm_mod (fun j _ => by
          rw [Int.mul_emod, Int.emod_emod, ← Int.mul_emod, Int.mul_comm (s j), Int.mul_assoc])
        rw [hs, zsm_mul]
        show _ = (zI p (R a) * (zsm (fun j => s j * C j t) c + s c * C c t)) % p
        rw [g1, Int.one_mul, Int.mul_emod (R t), (g4 t ht).2.2, ← Int.mul_emod, Int.mul_comm]
      · rw [g3 j (by omega), Int.zero_mul, Int.zero_emod]
    · obtain ⟨b1, b2, b3, b4, b5, b6, b7⟩ := h1 b (by omega)
      simp only [if_neg eb]
      refine ⟨by rw [e7, if_neg eb]; exact b1, b2, by rw [hnew b (by omega) _ b2]; exact b3, fun t ht => ?_, fun t ht => by rw [e6 b t ht, if_neg eb]; exact b5 t ht, b6, fun j hj => b7 j (by omega)⟩
      rw [hnew b (by omega) t ht]
      refine ⟨(b4 t ht).1, (b4 t ht).2.1, ?_⟩
      rw [(b4 t ht).2.2]
      show _ = (zsm (fun j => S b j * C j t) c + S b c * C c t) % p
      rw [b7 c (Nat.le_refl _), Int.zero_mul, Int.add_zero]
  · have ea : a' < B := by omega
    simp only [if_neg (show ¬ a' = B by omega)]
    by_cases eb : b = B
    · subst eb
      rw [hlast _ (hPn a' ea), hz a' ea, Int.zero_mul, Int.zero_emod]
    · rw [hnew b (by omega) _ (hPn a' ea)]
      exact h2 a' b hab (by omega)
  · have hold : ∀ x, x < c → zspn p n (fun b t => q5 (80 * b + t)) (B + 1) (C x) := fun x hx => zspn_more (h3 x hx) (fun b t hb ht => hnew b hb t ht)
    by_cases e : j = c
    · subst e
      -- the column is its rest less what was taken, and the rest is a multiple of the new base
      have hrest : zspn p n (fun b t => q5 (80 * b + t)) (B + 1) R := zspn_last (x := R a) (fun t ht => by
        show R t % p = (R a * q5 (80 * B + t)) % p
        rw [hlast t ht]
        obtain ⟨u, hu⟩ := zme_q p (R t * zI p (R a))
        obtain ⟨v, hv⟩ := zme_e (x := R a * zI p (R a)) (y := 1) (p := p) (by rw [i3, Int.emod_eq_of_lt (by omega) (by omega)])
        rw [hu]
        generalize zI p (R a) = i at hv ⊢
        generalize R a = x at hv ⊢
        generalize R t = y
        have e5 : x * i * y = (1 + p * v) * y := by rw [hv]
        exact zme_i ⟨-(v * y) - x * u, by grind⟩)
      obtain ⟨x, hx⟩ := hrest
      obtain ⟨y, hy⟩ := zspn_lin (s := s) j hold
      have hy : ∀ t, t < n → zsm (fun x => s x * C x t) j % p = zsm (fun b => y b * q5 (80 * b + t)) (B + 1) % p := hy
      refine ⟨fun b => x b + -1 * y b, fun t ht => ?_⟩
      rw [zsm_congr (F := fun b => (x b + -1 * y b) * q5 (80 * b + t)) (G := fun b => x b * q5 (80 * b + t) + -1 * (y b * q5 (80 * b + t))) (fun b _ => by rw [Int.add_mul, Int.mul_assoc]), zsm_add (fun b => x b * q5 (80 * b + t)) (fun b => -1 * (y b * q5 (80 * b + t))), zsm_mul]
      have w1 := hx t ht
      have w2 := hy t ht
      have w3 := (g4 t ht).2.2
      generalize zsm (fun b => x b * q5 (80 * b + t)) (B + 1) = X at w1 ⊢
      generalize zsm (fun b => y b * q5 (80 * b + t)) (B + 1) = Y at w2 ⊢
      generalize zsm (fun x => s x * C x t) j = Z at w2 w3
      obtain ⟨t1, e1⟩ := zme_e w1
      obtain ⟨t2, e2⟩ := zme_e w2
      obtain ⟨t3, e3⟩ := zme_e w3
      refine zme_i ⟨t1 - t2 - t3, ?_⟩
      rw [Int.mul_sub, Int.mul_sub]
      omega
    · exact hold j (by omega)
