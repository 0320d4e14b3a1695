/-! FIND: the model -/
section FMO
variable {g : zG} {μ A : zMu}
theorem ok_X11_lessens {φ : zMu → Prop} {n b P : Nat} {p : Int} (hp : 2 ≤ p ∧ p ≤ 199) (hn : n ≤ 80) (hb : b < 80) (h0 : μ 203 0 = p) (h14 : μ 203 14 = (n : Int)) (h17 : μ 217 b = (P : Int)) (hP : P < n) (hR : ∀ t, t < n → 0 ≤ μ 214 t ∧ μ 214 t < p) (hB : ∀ t, t < n → 0 ≤ μ 215 (80 * b + t) ∧ μ 215 (80 * b + t) < p) (hT : ∀ t, t < 81 → 0 ≤ μ 218 t ∧ μ 218 t < p) (hS : ∀ t, t < 81 → 0 ≤ μ 216 (81 * b + t) ∧ μ 216 (81 * b + t) < p)
    (h : φ (zua (zua μ 214 (fun t => if t < n then (μ 214 t + (p - μ 214 P) * μ 215 (80 * b + t)) % p else μ 214 t)) 218 (fun t => if t < 81 then (μ 218 t + (p - μ 214 P) * μ 216 (81 * b + t)) % p else μ 218 t))) : zOv g zm_X11_lessens [.ref 203, .int (zJ (b : Int))] μ φ := by
  refine sg_X11_lessens ⟨by omega, ?_⟩
  rw [Int.toNat_natCast, h17, h0, Int.toNat_natCast]
  refine ⟨by omega, ?_⟩
  have hx := hR P hP
  generalize hf : p - μ 214 P = f at h ⊢
  have hfm : ∀ x y : Int, (0 ≤ x ∧ x < p) → (0 ≤ y ∧ y < p) → 0 ≤ x + f * y ∧ x + f * y ≤ 40000 := fun x y h1 h2 => by
    have hm : 0 ≤ f * y := Int.mul_nonneg (by omega) h2.1
    have h3 : f * y ≤ 199 * y := Int.mul_le_mul_of_nonneg_right (by omega) h2.1
    omega
  have second : at_X11_lessens_66 g φ (b : Int) f 0 (zua μ 214 (fun t => if t < n then (μ 214 t + f * μ 215 (80 * b + t)) % p else μ 214 t)) := by
    generalize hν : zua μ 214 (fun t => if t < n then (μ 214 t + f * μ 215 (80 * b + t)) % p else μ 214 t) = ν at h ⊢
    have e218 : ν 218 = μ 218 := by rw [← hν]; exact zua_nc (by omega)
    have e216 : ν 216 = μ 216 := by rw [← hν]; exact zua_nc (by omega)
    have e203 : ν 203 = μ 203 := by rw [← hν]; exact zua_nc (by omega)
    have loop : ∀ m t : Nat, t + m = 81 → at_X11_lessens_66 g φ (b : Int) f (t : Int) (zua ν 218 (fun x => if x < t then (μ 218 x + f * μ 216 (81 * b + x)) % p else μ 218 x)) := by
      intro m
      induction m with
      | zero =>
        intro t ht
        have e : t = 81 := by omega
        subst e
        exact sg_X11_lessens_66 ⟨by omega, fun _ => h, fun hc => absurd hc (by omega)⟩
      | succ m ih =>
        intro t ht
        have hb2 := hfm _ _ (hT t (by omega)) (hS t (by omega))
        refine sg_X11_lessens_66 ⟨by omega, fun hc => absurd hc (by omega), fun _ => ⟨by omega, by omega, ?_⟩⟩
        rw [Int.toNat_natCast, show Int.toNat (81 * (b : Int) + (t : Int)) = 81 * b + t by omega, zua_eq, if_neg (by omega), zua_ne (a := 216) (by omega), e216, zua_ne (a := 203) (by omega), e203, h0]
        refine ⟨by omega, by omega, by omega, ?_⟩
        rw [ztm hb2.1, zup_zua, zua_congr (h := fun x => if x < t + 1 then (μ 218 x + f * μ 216 (81 * b + x)) % p else μ 218 x) (fun x => by
          by_cases e : x = t
          · rw [if_pos e, e, if_pos (show t < t + 1 by omega)]
          · rw [if_neg e]
            by_cases q : x < t
            · rw [if_pos q, if_pos (show x < t + 1 by omega)]
            · rw [if_neg q, if_neg (show ¬ x < t + 1 by omega)])]
        have := ih (t + 1) (by omega)
        rw [Int.natCast_add] at this
        exact this
    have k0 := loop 81 0 (by omega)
    rw [zua_self (fun x => by rw [if_neg (by omega), e218])] at k0
    exact k0
  have loop : ∀ m t : Nat, t + m = n → at_X11_lessens_19 g φ (b : Int) f (t : Int) (zua μ 214 (fun x => if x < t then (μ 214 x + f * μ 215 (80 * b + x)) % p else μ 214 x)) := by
    intro m
    induction m with
    | zero =>
      intro t ht
      have e : t = n := by omega
      subst e
      exact sg_X11_lessens_19 ⟨by omega, by rw [zua_ne (by omega)]; omega, fun _ => second, fun hc => absurd hc (by rw [zua_ne (by omega)]; omega)⟩
    | succ m ih =>
      intro t ht
      have hb2 := hfm _ _ (hR t (by omega)) (hB t (by omega))
      refine sg_X11_lessens_19 ⟨by omega, by rw [zua_ne (by omega)]; omega, fun hc => absurd hc (by rw [zua_ne (by omega)]; omega), fun _ => ⟨by omega, by omega, ?_⟩⟩
      rw [Int.toNat_natCast, show Int.toNat (80 * (b : Int) + (t : Int)) = 80 * b + t by omega, zua_eq, if_neg (by omega), zua_ne (a := 215) (by omega), zua_ne (a := 203) (by omega), h0]
      refine ⟨by omega, by omega, by omega, ?_⟩
      rw [ztm hb2.1, zup_zua, zua_congr (h := fun x => if x < t + 1 then (μ 214 x + f * μ 215 (80 * b + x)) % p else μ 214 x) (fun x => by
        by_cases e : x = t
        · rw [if_pos e, e, if_pos (show t < t + 1 by omega)]
        · rw [if_neg e]
          by_cases q : x < t
          · rw [if_pos q, if_pos (show x < t + 1 by omega)]
          · rw [if_neg q, if_neg (show ¬ x < t + 1 by omega)])]
      have := ih (t + 1) (by omega)
      rw [Int.natCast_add] at this
      exact this
  have k0 := loop n 0 (by omega)
  rw [zua_self (fun x => if_neg (by omega))] at k0
  exact k0
/-- the two rows that the loops of a new base fill -/
theorem mo_comes46 {φ : Int → zMu → Prop} {B a : Nat} {p x : Int} (hp : 2 ≤ p ∧ p ≤ 199) (hB : B < 80) (hx : 0 ≤ x ∧ x < p) (h0 : μ 203 0 = p) (h22 : μ 203 22 = (B : Int)) (hR : ∀ t, t < 80 → 0 ≤ μ 214 t ∧ μ 214 t < p) (hT : ∀ t, t < 81 → 0 ≤ μ 218 t ∧ μ 218 t < p)
    (h : ∀ F5 F6 : Nat → Int, (∀ b t, t < 80 → F5 (80 * b + t) = if b = B then μ 214 t * x % p else μ 215 (80 * b + t)) → (∀ b t, t < 81 → F6 (81 * b + t) = if b = B then μ 218 t * x % p else μ 216 (81 * b + t)) → φ 1 (zup (zup (zua (zua μ 215 F5) 216 F6) 217 B (a : Int)) 203 22 ((B : Int) + 1))) : at_X11_comes_46 g φ (a : Int) x 0 μ := by
  have second : ∀ F5 : Nat → Int, (∀ b t, t < 80 → F5 (80 * b + t) = if b = B then μ 214 t * x % p else μ 215 (80 * b + t)) → at_X11_comes_87 g φ (a : Int) x 0 (zua μ 215 F5) := fun F5 h5 => by
    have loop : ∀ m t : Nat, t + m = 81 → at_X11_comes_87 g φ (a : Int) x (t : Int) (zua (zua μ 215 F5) 216 (fun y => if 81 * B ≤ y ∧ y < 81 * B + t then μ 218 (y - 81 * B) * x % p else μ 216 y)) := by
      intro m
      induction m with
      | zero =>
        intro t ht
        have e : t = 81 := by omega
        subst e
        have e22 : zua (zua μ 215 F5) 216 (fun y => if 81 * B ≤ y ∧ y < 81 * B + 81 then μ 218 (y - 81 * B) * x % p else μ 216 y) 203 22 = (B : Int) := by rw [zua_ne (by omega), zua_ne (by omega)]; exact h22
        refine sg_X11_comes_87 ⟨by omega, fun _ => ?_, fun hc => absurd hc (by omega)⟩
        rw [e22, Int.toNat_natCast]
        refine ⟨by omega, ?_⟩
        rw [zup_ne (i := 217) (a := 203) (Or.inl (by omega)), e22]
        refine h F5 _ h5 (fun b t ht => ?_)
        by_cases eb : b = B
        · rw [if_pos eb, if_pos (by omega), eb, show 81 * B + t - 81 * B = t by omega]
        · rw [if_neg eb, if_neg (by omega)]
      | succ m ih =>
        intro t ht
        have hb2 := zmul_bd (hT t (by omega)) hx hp.2
        refine sg_X11_comes_87 ⟨by omega, fun hc => absurd hc (by omega), fun _ => ⟨by omega, ?_⟩⟩
        rw [Int.toNat_natCast, zua_ne (a := 218) (by omega), zua_ne (a := 218) (by omega), zua_ne (a := 203) (by omega), zua_ne (a := 203) (by omega), h0, zua_ne (a := 203) (by omega), zua_ne (a := 203) (by omega), h22]
        refine ⟨by omega, by omega, by omega, by omega, ?_⟩
        rw [show Int.toNat (81 * (B : Int) + (t : Int)) = 81 * B + t by omega, ztm hb2.1, zup_zua, zua_congr (h := fun y => if 81 * B ≤ y ∧ y < 81 * B + (t + 1) then μ 218 (y - 81 * B) * x % p else μ 216 y) (fun y => by
          by_cases e : y = 81 * B + t
          · rw [if_pos e, e, if_pos (by omega), show 81 * B + t - 81 * B = t by omega]
          · rw [if_neg e]
            by_cases q : 81 * B ≤ y ∧ y < 81 * B + t
            · rw [if_pos q, if_pos (show 81 * B ≤ y ∧ y < 81 * B + (t + 1) by omega)]
            · rw [if_neg q, if_neg (show ¬ (81 * B ≤ y ∧ y < 81 * B + (t + 1)) by omega)])]
        have := ih (t + 1) (by omega)
        rw [Int.natCast_add] at this
        exact this
    have k0 := loop 81 0 (by omega)
    rw [zua_self (fun y => by rw [if_neg (by omega), zua_ne (by omega)])] at k0
    exact k0
  have loop : ∀ m t : Nat, t + m = 80 → at_X11_comes_46 g φ (a : Int) x (t : Int) (zua μ 215 (fun y => if 80 * B ≤ y ∧ y < 80 * B + t then μ 214 (y - 80 * B) * x % p else μ 215 y)) := by
    intro m
    induction m with
    | zero =>
      intro t ht
      have e : t = 80 := by omega
      subst e
      refine sg_X11_comes_46 ⟨by omega, fun _ => second _ (fun b t ht => ?_), fun hc => absurd hc (by omega)⟩
      by_cases eb : b = B
      · rw [if_pos eb, if_pos (by omega), eb, show 80 * B + t - 80 * B = t by omega]
      · rw [if_neg eb, if_neg (by omega)]
    | succ m ih =>
      intro t ht
      have hb2 := zmul_bd (hR t (by omega)) hx hp.2
      refine sg_X11_comes_46 ⟨by omega, fun hc => absurd hc (by omega), fun _ => ⟨by omega, ?_⟩⟩
      rw [Int.toNat_natCast, zua_ne (a := 214) (by omega), zua_ne (a := 203) (by omega), h0, zua_ne (a := 203) (by omega), h22]
      refine ⟨by omega, by omega, by omega, by omega, ?_⟩
      rw [show Int.toNat (80 * (B : Int) + (t : Int)) = 80 * B + t by omega, ztm hb2.1, zup_zua, zua_congr (h := fun y => if 80 * B ≤ y ∧ y < 80 * B + (t + 1) then μ 214 (y - 80 * B) * x % p else μ 215 y) (fun y => by
        by_cases e : y = 80 * B + t
        · rw [if_pos e, e, if_pos (by omega), show 80 * B + t - 80 * B = t by omega]
        · rw [if_neg e]
          by_cases q : 80 * B ≤ y ∧ y < 80 * B + t
          · rw [if_pos q, if_pos (show 80 * B ≤ y ∧ y < 80 * B + (t + 1) by omega)]
          · rw [if_neg q, if_neg (show ¬ (80 * B ≤ y ∧ y < 80 * B + (t + 1)) by omega)])]
      have := ih (t + 1) (by omega)
      rw [Int.natCast_add] at this
      exact this
  have k0 := loop 80 0 (by omega)
  rw [zua_self (fun y => if_neg (by omega))] at k0
  exact k0
theorem ok_X11_comes {φ : Int → zMu → Prop} {n w d c B : Nat} {p : Int} {C : Nat → Nat → Int} {P : Nat → Nat} {S : Nat → Nat → Int} {s R : Nat → Int} (hP : zP p) (hn : n ≤ 80) (h0 : μ 203 0 = p) (h14 : μ 203 14 = (n : Int)) (h22 : μ 203 22 = (B : Int)) (hBa : zBa p n w d C c B P S (μ 215) (μ 216) (μ 217))
    (hRs : zRs p n C c s R) (hR : ∀ t, t < n → μ 214 t = R t) (hRz : ∀ t, n ≤ t → t < 80 → μ 214 t = 0) (hT : ∀ t, t < 81 → μ 218 t = s (zIdx w d t))
    (k0 : ∀ (ν : zMu) (s : Nat → Int), (∀ (i : Nat), i ≠ 214 → i ≠ 218 → ν i = μ i) → s c = 1 → (∀ j, 0 ≤ s j ∧ s j < p) → (∀ j, c < j → s j = 0) → (∀ t, t < n → (zsm (fun j => s j * C j t) c + C c t) % p = 0) → (∀ t, t < 81 → ν 218 t = s (zIdx w d t)) → φ 0 ν)
    (k1 : ∀ (ν : zMu) (P' : Nat → Nat) (S' : Nat → Nat → Int), (∀ (i : Nat), i ≠ 203 → ¬ (214 ≤ i ∧ i ≤ 218) → ν i = μ i) → (∀ (j : Nat), j ≠ 22 → ν 203 j = μ 203 j) → ν 203 22 = ((B + 1 : Nat) : Int) → zBa p n w d C (c + 1) (B + 1) P' S' (ν 215) (ν 216) (ν 217) → ¬ zfr p n C c → φ 1 ν) : zOi g zm_X11_comes [.ref 203] μ φ := by
  have hpb := zP_bd hP
  have hle := zBa_le hBa
  have loop : ∀ m b : Nat, b + m = B → ∀ (ν : zMu) (s R : Nat → Int), (∀ (i : Nat), i ≠ 214 → i ≠ 218 → ν i = μ i) → zRs p n C c s R → (∀ t, t < n → ν 214 t = R t) → (∀ t, n ≤ t → t < 80 → ν 214 t = 0) → (∀ t, t < 81 → ν 218 t = s (zIdx w d t)) → (∀ a, a < b → R (P a) = 0) → at_X11_comes_2 g φ (b : Int) ν := by
    intro m
    induction m with
    | zero =>
      intro b hb ν s R f1 hRs hR hRz hT hz
      have eb : b = B := by omega
      subst eb
      have e22 : ν 203 22 = (b : Int) := by rw [f1 203 (by omega) (by omega)]; exact h22
      have e0 : ν 203 0 = p := by rw [f1 203 (by omega) (by omega)]; exact h0
      have hb14 : ∀ t, t < 80 → 0 ≤ ν 214 t ∧ ν 214 t < p := fun t ht => by
        by_cases q : t < n
        · rw [hR t q]; exact ⟨(hRs.2.2.2 t q).1, (hRs.2.2.2 t q).2.1⟩
        · rw [hRz t (by omega) ht]; omega
      refine sg_X11_comes_2 ⟨by omega, by omega, fun _ => ?_, fun hc => absurd hc (by omega)⟩
      refine ok_X11_firstOther hn (by rw [f1 203 (by omega) (by omega)]; exact h14) (fun t ht => by have := hb14 t (by omega); omega) (fun x hx => ?_)
      rcases hx with ⟨rfl, hx⟩ | ⟨a, rfl, ha, hne, _⟩
      · refine ⟨by omega, fun hc => absurd rfl hc, fun _ => k0 ν s f1 hRs.1 hRs.2.1 hRs.2.2.1 (fun t ht => ?_) hT⟩
        rw [← (hRs.2.2.2 t ht).2.2, ← hR t ht, hx t ht, Int.zero_emod]
      · refine ⟨by omega, fun _ => ⟨by omega, ?_⟩, fun hc => absurd hc (by omega)⟩
        rw [Int.toNat_natCast]
        have hba := hb14 a (by omega)
        have hRs : zRs p n C c s (ν 214) := ⟨hRs.1, hRs.2.1, hRs.2.2.1, fun t ht => by rw [hR t ht]; exact hRs.2.2.2 t ht⟩
        have hz : ∀ a, a < b → ν 214 (P a) = 0 := fun a ha2 => by rw [hR _ (hBa.1 a ha2).2.1]; exact hz a ha2
        refine ok_X11_inverse (by rw [e0]; exact hP) (by omega) (by rw [e0]; exact hba.2) ?_
        rw [e0]
        obtain ⟨i1, i2, i3⟩ := zI_ok hP (x := ν 214 a) (by omega) hba.2
        refine mo_comes46 (B := b) (p := p) (by omega) (by
          by_cases q : b < 80
          · exact q
          · exfalso
            have := (zBa_new (q5 := fun x => if x / 80 = b then ν 214 (x % 80) * zI p (ν 214 a) % p else μ 215 x) (q6 := fun x => if x / 81 = b then s (zIdx w d (x % 81)) * zI p (ν 214 a) % p else μ 216 x) (q7 := fun x => if x = b then (a : Int) else μ 217 x) hP hn hBa hRs ha hne hz (fun b2 t ht => by
              rw [show (80 * b2 + t) / 80 = b2 by omega, show (80 * b2 + t) % 80 = t by omega]) (fun b2 t ht => by
              rw [show (81 * b2 + t) / 81 = b2 by omega, show (81 * b2 + t) % 81 = t by omega]) (fun b2 => rfl)).2
            omega) ⟨i1, i2⟩ e0 e22 hb14 (fun t ht => by rw [hT t ht]; exact hRs.2.1 _) (fun F5 F6 g5 g6 => ?_)
        have hnew := zBa_new (q5 := F5) (q6 := F6) (q7 := fun x => if x = b then (a : Int) else μ 217 x) hP hn hBa hRs ha hne hz (fun b2 t ht => by
          rw [g5 b2 t ht, f1 215 (by omega) (by omega)]) (fun b2 t ht => by
          rw [g6 b2 t ht, f1 216 (by omega) (by omega), hT t ht]) (fun b2 => rfl)
        refine k1 _ (fun x => if x = b then a else P x) (fun x => if x = b then fun j => s j * zI p (ν 214 a) % p else S x) (fun i h1 h2 => ?_) (fun j hj => ?_) ?_ ?_ (fun hf => ?_)
        · exact (zup_nc h1).trans ((zup_nc (by omega)).trans ((zua_nc (by omega)).trans ((zua_nc (by omega)).trans (f1 i (by omega) (by omega)))))
        · exact (zup_ne (Or.inr hj)).trans ((zup_ne (Or.inl (by omega))).trans ((zua_ne (by omega)).trans ((zua_ne (by omega)).trans (by rw [f1 203 (by omega) (by omega)]))))
        · rw [zup_eq]; rfl
        · have e5 : zup (zup (zua (zua ν 215 F5) 216 F6) 217 b (a : Int)) 203 22 ((b : Int) + 1) 215 = F5 := (zup_nc (by omega)).trans ((zup_nc (by omega)).trans ((zua_nc (by omega)).trans zua_row))
          have e6 : zup (zup (zua (zua ν 215 F5) 216 F6) 217 b (a : Int)) 203 22 ((b : Int) + 1) 216 = F6 := (zup_nc (by omega)).trans ((zup_nc (by omega)).trans zua_row)
          have e7 : zup (zup (zua (zua ν 215 F5) 216 F6) 217 b (a : Int)) 203 22 ((b : Int) + 1) 217 = fun x => if x = b then (a : Int) else μ 217 x := funext fun x => by
            rw [zup_ne (Or.inl (by omega))]
            by_cases ex : x = b
            · rw [ex, zup_eq, if_pos rfl]
            · rw [zup_ne (Or.inr ex), if_neg ex, zua_ne (by omega), zua_ne (by omega), f1 217 (by omega) (by omega)]
          rw [e5, e6, e7]
          exact hnew.1
        · have := zrest (G := fun b t => μ 215 (80 * b + t)) (s := s) (R := ν 214) (fun b hb => (hBa.1 b hb).2.1) (fun b hb => (hBa.1 b hb).2.2.1) hBa.2.1 hBa.2.2.1 (fun t ht => (hRs.2.2.2 t ht).2.2) (fun b hb => by rw [hz b hb, Int.zero_emod]) hf a ha
          have hb := hRs.2.2.2 a ha
          rw [Int.emod_eq_of_lt hb.1 hb.2.1] at this
          exact hne this
    | succ m ih =>
      intro b hb ν s R f1 hRs hR hRz hT hz
      have e22 : ν 203 22 = (B : Int) := by rw [f1 203 (by omega) (by omega)]; exact h22
      obtain ⟨b1, b2, b3, b4, b5, b6, b7⟩ := hBa.1 b (by omega)
      refine sg_X11_comes_2 ⟨by omega, by omega, fun hc => absurd hc (by omega), fun _ => ?_⟩
      refine ok_X11_lessens (n := n) (P := P b) (p := p) (by omega) hn (by omega) (by rw [f1 203 (by omega) (by omega)]; exact h0) (by rw [f1 203 (by omega) (by omega)]; exact h14) (by rw [f1 217 (by omega) (by omega)]; exact b1) b2 (fun t ht => by rw [hR t ht]; exact ⟨(hRs.2.2.2 t ht).1, (hRs.2.2.2 t ht).2.1⟩) (fun t ht => by rw [f1 215 (by omega) (by omega)]; exact ⟨(b4 t ht).1, (b4 t ht).2.1⟩) (fun t ht => by rw [hT t ht]; exact hRs.2.1 _) (fun t ht => by rw [f1 216 (by omega) (by omega), b5 t ht]; exact b6 _) ?_
      have hless := zBa_less (R' := fun t => (R t + (p - R (P b)) * μ 215 (80 * b + t)) % p) (by omega) hBa (show b < B by omega) hRs (fun t ht => rfl)
      have := ih (b + 1) (by omega) (zua (zua ν 214 (fun t => if t < n then (ν 214 t + (p - ν 214 (P b)) * ν 215 (80 * b + t)) % p else ν 214 t)) 218 (fun t => if t < 81 then (ν 218 t + (p - ν 214 (P b)) * ν 216 (81 * b + t)) % p else ν 218 t)) _ _ (fun i h1 h2 => (zua_nc h2).trans ((zua_nc h1).trans (f1 i h1 h2))) hless (fun t ht => by
        rw [zua_ne (by omega), zua_eq, if_pos ht, hR t ht, hR _ b2, f1 215 (by omega) (by omega)]) (fun t h1 h2 => by
        rw [zua_ne (by omega), zua_eq, if_neg (by omega)]; exact hRz t h1 h2) (fun t ht => by
        rw [zua_eq, if_pos ht, hT t ht, hR _ b2, f1 216 (by omega) (by omega), b5 t ht]) (fun a ha => by
        by_cases e : a = b
        · rw [e]
          show (R (P b) + (p - R (P b)) * μ 215 (80 * b + P b)) % p = 0
          rw [b3, Int.mul_one, show R (P b) + (p - R (P b)) = p by omega, Int.emod_self]
        · show (R (P a) + (p - R (P b)) * μ 215 (80 * b + P a)) % p = 0
          rw [hz a (by omega), hBa.2.1 a b (by omega) (by omega), Int.mul_zero, Int.add_zero, Int.zero_emod])
      rw [Int.natCast_add] at this
      exact this
  exact sg_X11_comes (loop B 0 (by omega) μ s R (fun _ _ _ => rfl) hRs hR hRz hT (fun a ha => absurd ha (by omega)))
end FMO
