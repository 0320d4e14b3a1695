/-! SERIES TWO BY TWO: sum, times, stretch -/
section SR2
variable {g : zG} {φ : Int → zMu → Prop} {μ A : zMu}
def zsn (A : zMu) (a b : Nat) : Int := min (A 1 a + A 2 a - 1) (A 1 b + A 2 b - 1) - min (A 1 a) (A 1 b) + 1
def zsf (A : zMu) (a b : Nat) (k : Nat) : Int := (zat A a (min (A 1 a) (A 1 b) + k) + zat A b (min (A 1 a) (A 1 b) + k)) % A 0 0
def st_sum (A : zMu) (a b t : Int) : Int × zMu := if ¬ (0 ≤ a ∧ a < 6) ∨ ¬ (0 ≤ b ∧ b < 6) ∨ ¬ (0 ≤ t ∧ t < 6) then (-1, A) else if A 2 a.toNat = 0 ∨ A 2 b.toNat = 0 then (-11, A) else (zsn A a.toNat b.toNat, st_set A t.toNat (min (A 1 a.toNat) (A 1 b.toNat)) (zsn A a.toNat b.toNat) (zsf A a.toNat b.toNat))
theorem zat_bd (hw : zWF A) {s : Nat} (hs : s < 6) {e : Int} (he : e ≤ A 1 s + A 2 s - 1) : 0 ≤ zat A s e ∧ zat A s e < A 0 0 := by
  have hp := zWF_p hw
  obtain ⟨b1, b2, b3⟩ := zWF_s hw hs
  unfold zat
  by_cases h : e < A 1 s
  · rw [if_pos h]; omega
  · rw [if_neg h]; exact b3 _ (by omega)
theorem zsn_bd (hw : zWF A) {a b : Nat} (ha : a < 6) (hb : b < 6) (h1 : A 2 a ≠ 0) (h2 : A 2 b ≠ 0) : 1 ≤ zsn A a b ∧ zsn A a b ≤ 80 := by
  obtain ⟨b1, b2, _⟩ := zWF_s hw ha
  obtain ⟨c1, c2, _⟩ := zWF_s hw hb
  unfold zsn
  omega
theorem wf_sum (hw : zWF A) (a b t : Int) : zWF (st_sum A a b t).2 := by
  unfold st_sum
  have hp := zWF_p hw
  by_cases h1 : ¬ (0 ≤ a ∧ a < 6) ∨ ¬ (0 ≤ b ∧ b < 6) ∨ ¬ (0 ≤ t ∧ t < 6)
  · rw [if_pos h1]; exact hw
  · rw [if_neg h1]
    by_cases h2 : A 2 a.toNat = 0 ∨ A 2 b.toNat = 0
    · rw [if_pos h2]; exact hw
    · rw [if_neg h2]
      have hn := zsn_bd hw (a := a.toNat) (b := b.toNat) (by omega) (by omega) (by omega) (by omega)
      obtain ⟨b1, b2, _⟩ := zWF_s hw (s := a.toNat) (by omega)
      obtain ⟨c1, c2, _⟩ := zWF_s hw (s := b.toNat) (by omega)
      exact zWF_set hw (by omega) (by omega) (by omega) (fun k _ => zemod_lt (by omega))
theorem cx_sum {a b t : Int} (hw : zWF A) (hR : zRC A μ) (ha : zR a) (hb : zR b) (ht : zR t) (h : zHc φ μ (st_sum A a b t)) : zOi g zm_X10_sum [.ref 0, .int (zJ a), .int (zJ b), .int (zJ t)] μ φ := by
  have hp := zWF_p hw
  have h1 : ¬ (0 ≤ a ∧ a < 6) ∨ ¬ (0 ≤ b ∧ b < 6) ∨ ¬ (0 ≤ t ∧ t < 6) → φ (-1) μ := fun q => h.at (if_pos q) rfl hR (zKm.refl μ)
  refine sg_X10_sum (ok_X10_isSeries ha (fun qa => ⟨by omega, fun hc => absurd hc (by omega), fun _ => ok_X10_isSeries hb (fun qb => ⟨by omega, fun hc => absurd hc (by omega), fun _ => ok_X10_isSeries ht (fun qt => ⟨by omega, fun _ => ⟨qa, ?_⟩, fun hc => absurd hc (by omega)⟩) (fun q => ⟨by omega, fun hc => absurd rfl hc, fun _ => h1 (by omega)⟩)⟩) (fun q => ⟨by omega, fun _ => h1 (by omega), fun hc => absurd rfl hc⟩)⟩) (fun q => ⟨by omega, fun _ => h1 (by omega), fun hc => absurd rfl hc⟩))
  obtain ⟨a, rfl⟩ : ∃ q : Nat, a = q := ⟨a.toNat, by omega⟩
  obtain ⟨b, rfl⟩ : ∃ q : Nat, b = q := ⟨b.toNat, by omega⟩
  obtain ⟨t, rfl⟩ : ∃ q : Nat, t = q := ⟨t.toNat, by omega⟩
  unfold st_sum at h
  rw [if_neg (by omega)] at h
  simp only [Int.toNat_natCast] at h ⊢
  obtain ⟨s1, s2, s3⟩ := zRC_sr hR (s := a) (by omega)
  obtain ⟨t1, t2, t3⟩ := zRC_sr hR (s := b) (by omega)
  obtain ⟨b1, b2, b3⟩ := zWF_s hw (s := a) (by omega)
  obtain ⟨c1, c2, c3⟩ := zWF_s hw (s := b) (by omega)
  have h11 : A 2 a = 0 ∨ A 2 b = 0 → φ (-11) μ := fun q => h.at (if_pos q) rfl hR (zKm.refl μ)
  refine ok_X6_isMissing (zsr a (by omega)).1 (by omega) (fun m1 => ⟨by omega, fun hc => absurd rfl hc, fun _ => ⟨qb, ok_X6_isMissing (zsr b (by omega)).1 (by omega) (fun m2 => ⟨by omega, fun _ => ⟨qt, ?_⟩, fun hc => absurd rfl hc⟩) (fun m2 => ⟨by omega, fun hc => absurd hc (by omega), fun _ => h11 (by omega)⟩)⟩⟩) (fun m1 => ⟨by omega, fun _ => h11 (by omega), fun hc => absurd hc (by omega)⟩)
  have hn := zsn_bd hw (a := a) (b := b) (by omega) (by omega) (by omega) (by omega)
  rw [if_neg (by omega)] at h
  refine sg_X7_add (zsr a (by omega)).1 (zsr b (by omega)).1 (zsr t (by omega)).1 ⟨by omega, by omega, sg_X6_last (zsr a (by omega)).1 (sg_X6_last (zsr b (by omega)).1 ⟨by omega, by omega, ?_⟩)⟩
  rw [s1, s2, t1, t2, zRC_p0 hR]
  show at_X7_add_34 g _ _ _ _ _ _ (zsn A a b) 0 μ
  obtain ⟨n, hnn⟩ : ∃ n : Nat, zsn A a b = n := ⟨(zsn A a b).toNat, by omega⟩
  have hle : ∀ k : Nat, k < n → min (A 1 a) (A 1 b) + k ≤ A 1 a + A 2 a - 1 ∧ min (A 1 a) (A 1 b) + k ≤ A 1 b + A 2 b - 1 := fun k hk => by
    unfold zsn at hnn; omega
  rw [hnn] at h ⊢
  have loop : ∀ m s : Nat, s + m = n → at_X7_add_34 g (fun μ24 => φ (μ24 (7 + 2 * t) 2) μ24) (7 + 2 * a) (7 + 2 * b) (7 + 2 * t) (A 0 0) (min (A 1 a) (A 1 b)) (n : Int) (s : Int) (zua μ 70 (fun k => if k < s then zsf A a b k else μ 70 k)) := by
    intro m
    induction m with
    | zero =>
      intro s hs
      have e : s = n := by omega
      subst e
      refine sg_X7_add_34 (zsr a (by omega)).1 (zsr b (by omega)).1 (zsr t (by omega)).1 ⟨by omega, by omega, fun _ => ok_become (F := zsf A a b) (zRC_scr (by omega) hR) (by omega) (by omega) (fun k hk => by rw [zua_eq, if_pos (by omega)]) (fun μ' hR' hk' => ?_), fun hc => absurd hc (by omega)⟩
      exact h.at rfl (zRC_len hR' (by omega)) hR' ((zKm_scr (by omega)).trans hk')
    | succ m ih =>
      intro s hs
      have k2 := ih (s + 1) (by omega)
      rw [Int.natCast_add] at k2
      have l1 := hle s (by omega)
      have z1 := zat_bd hw (s := a) (by omega) (e := min (A 1 a) (A 1 b) + s) (by omega)
      have z2 := zat_bd hw (s := b) (by omega) (e := min (A 1 a) (A 1 b) + s) (by omega)
      refine sg_X7_add_34 (zsr a (by omega)).1 (zsr b (by omega)).1 (zsr t (by omega)).1 ⟨by omega, by omega, fun hc => absurd hc (by omega), fun _ => ok_X6_valueOf hw (zRC_scr (by omega) hR) (by omega) (by omega) (by omega) (ok_X6_valueOf hw (zRC_scr (by omega) hR) (by omega) (by omega) (by omega) ⟨by omega, by omega, by omega, by omega, ?_⟩)⟩
      rw [ztm (by omega), Int.toNat_natCast, zup_zua, zua_congr (h := fun k => if k < s + 1 then zsf A a b k else μ 70 k) (fun q => by
        by_cases hb : q = s
        · rw [if_pos hb, if_pos (by omega), hb]; rfl
        · rw [if_neg hb]
          by_cases hc : q < s
          · rw [if_pos hc, if_pos (by omega)]
          · rw [if_neg hc, if_neg (by omega)])]
      exact k2
  have k0 := loop n 0 (by omega)
  rw [zua_self (fun b => if_neg (by omega))] at k0
  exact k0
theorem mx_sum {a b t : Int} (hw : zWF A) (hR : zRM A μ) (ha : zR a) (hb : zR b) (ht : zR t) (h : zHm φ μ (st_sum A a b t)) : zOi g zm_X11_sum [.ref 203, .int (zJ a), .int (zJ b), .int (zJ t)] μ φ := by
  have hp := zWF_p hw
  have h1 : ¬ (0 ≤ a ∧ a < 6) ∨ ¬ (0 ≤ b ∧ b < 6) ∨ ¬ (0 ≤ t ∧ t < 6) → φ (-1) μ := fun q => h.at (if_pos q) rfl hR (zKc.refl μ)
  refine sg_X11_sum (ok_X11_isSeries ha (fun qa => ⟨by omega, fun hc => absurd hc (by omega), fun _ => ok_X11_isSeries hb (fun qb => ⟨by omega, fun hc => absurd hc (by omega), fun _ => ok_X11_isSeries ht (fun qt => ⟨by omega, fun _ => ?_, fun hc => absurd hc (by omega)⟩) (fun q => ⟨by omega, fun hc => absurd rfl hc, fun _ => h1 (by omega)⟩)⟩) (fun q => ⟨by omega, fun _ => h1 (by omega), fun hc => absurd rfl hc⟩)⟩) (fun q => ⟨by omega, fun _ => h1 (by omega), fun hc => absurd rfl hc⟩))
  obtain ⟨a, rfl⟩ : ∃ q : Nat, a = q := ⟨a.toNat, by omega⟩
  obtain ⟨b, rfl⟩ : ∃ q : Nat, b = q := ⟨b.toNat, by omega⟩
  obtain ⟨t, rfl⟩ : ∃ q : Nat, t = q := ⟨t.toNat, by omega⟩
  unfold st_sum at h
  rw [if_neg (by omega)] at h
  simp only [Int.toNat_natCast] at h ⊢
  obtain ⟨s1, s2, s3⟩ := zRM_sr hR (s := a) (by omega)
  obtain ⟨t1, t2, t3⟩ := zRM_sr hR (s := b) (by omega)
  obtain ⟨b1, b2, b3⟩ := zWF_s hw (s := a) (by omega)
  obtain ⟨c1, c2, c3⟩ := zWF_s hw (s := b) (by omega)
  have h11 : A 2 a = 0 ∨ A 2 b = 0 → φ (-11) μ := fun q => h.at (if_pos q) rfl hR (zKc.refl μ)
  refine ok_X11_isThere (by omega) (by omega) (fun m1 => ⟨by omega, fun hc => absurd hc (by omega), fun _ => ok_X11_isThere (by omega) (by omega) (fun m2 => ⟨by omega, fun _ => ?_, fun hc => absurd hc (by omega)⟩) (fun m2 => ⟨by omega, fun hc => absurd rfl hc, fun _ => h11 (by omega)⟩)⟩) (fun m1 => ⟨by omega, fun _ => h11 (by omega), fun hc => absurd rfl hc⟩)
  have hn := zsn_bd hw (a := a) (b := b) (by omega) (by omega) (by omega) (by omega)
  rw [if_neg (by omega)] at h
  rw [s1, s2, t1, t2]
  obtain ⟨n, hnn⟩ : ∃ n : Nat, zsn A a b = n := ⟨(zsn A a b).toNat, by omega⟩
  have hle : ∀ k : Nat, k < n → min (A 1 a) (A 1 b) + k ≤ A 1 a + A 2 a - 1 ∧ min (A 1 a) (A 1 b) + k ≤ A 1 b + A 2 b - 1 := fun k hk => by
    unfold zsn at hnn; omega
  have hmn : min 80 ((min (A 1 a + A 2 a) (A 1 b + A 2 b) - 1 - min (A 1 a) (A 1 b)) + 1) = (n : Int) := by
    unfold zsn at hnn hn; omega
  rw [hnn] at h
  refine ⟨qa, qb, by omega, by omega, by omega, by omega, by omega, ?_⟩
  rw [hmn]
  have hR1 : zRM A (zup (zup μ 203 7 (min (A 1 a) (A 1 b))) 203 8 (n : Int)) := zRM_slt (by omega) (zRM_slt (by omega) hR)
  have hK1 : zKc μ (zup (zup μ 203 7 (min (A 1 a) (A 1 b))) 203 8 (n : Int)) := zKc_slt.trans zKc_slt
  have e7 : ∀ f, zua (zup (zup μ 203 7 (min (A 1 a) (A 1 b))) 203 8 (n : Int)) 209 f 203 7 = min (A 1 a) (A 1 b) := fun f => by rw [zua_ne (by omega), zup_ne (Or.inr (by omega)), zup_eq]
  have e8 : ∀ f, zua (zup (zup μ 203 7 (min (A 1 a) (A 1 b))) 203 8 (n : Int)) 209 f 203 8 = n := fun f => by rw [zua_ne (by omega), zup_eq]
  generalize zup (zup μ 203 7 (min (A 1 a) (A 1 b))) 203 8 (n : Int) = ν at hR1 hK1 e7 e8 ⊢
  have loop : ∀ m s : Nat, s + m = n → at_X11_sum_117 g φ (a : Int) (b : Int) (t : Int) (min (A 1 a) (A 1 b)) (s : Int) (zua ν 209 (fun k => if k < s then zsf A a b k else ν 209 k)) := by
    intro m
    induction m with
    | zero =>
      intro s hs
      have e : s = n := by omega
      subst e
      refine sg_X11_sum_117 ⟨by omega, by rw [e8]; omega, fun _ => ok_X11_becomes (F := zsf A a b) hw (zRM_scr (by omega) hR1) (by omega) (e7 _) (e8 _) (by omega) (fun k hk => by rw [zua_eq, if_pos (by omega)]) (fun μ' hR' hk' => ?_), fun hc => absurd hc (by rw [e8]; omega)⟩
      exact h.at rfl rfl hR' (hK1.trans ((zKc_scr (by omega)).trans hk'))
    | succ m ih =>
      intro s hs
      have k2 := ih (s + 1) (by omega)
      rw [Int.natCast_add] at k2
      have l1 := hle s (by omega)
      have z1 := zat_bd hw (s := a) (by omega) (e := min (A 1 a) (A 1 b) + s) (by omega)
      have z2 := zat_bd hw (s := b) (by omega) (e := min (A 1 a) (A 1 b) + s) (by omega)
      refine sg_X11_sum_117 ⟨by omega, by rw [e8]; omega, fun hc => absurd hc (by rw [e8]; omega), fun _ => ok_X11_numberOf hw (zRM_scr (by omega) hR1) (by omega) (by omega) (by omega) (ok_X11_numberOf hw (zRM_scr (by omega) hR1) (by omega) (by omega) (by omega) ?_)⟩
      rw [zRM_p0 (zRM_scr (by omega) hR1)]
      refine ⟨by omega, by omega, by omega, by omega, ?_⟩
      rw [ztm (by omega), Int.toNat_natCast, zup_zua, zua_congr (h := fun k => if k < s + 1 then zsf A a b k else ν 209 k) (fun q => by
        by_cases hb : q = s
        · rw [if_pos hb, if_pos (by omega), hb]; rfl
        · rw [if_neg hb]
          by_cases hc : q < s
          · rw [if_pos hc, if_pos (by omega)]
          · rw [if_neg hc, if_neg (by omega)])]
      exact k2
  have k0 := loop n 0 (by omega)
  rw [zua_self (fun b => if_neg (by omega))] at k0
  exact k0
def st_times (A : zMu) (a b t : Int) : Int × zMu := if ¬ (0 ≤ a ∧ a < 6) ∨ ¬ (0 ≤ b ∧ b < 6) ∨ ¬ (0 ≤ t ∧ t < 6) then (-1, A) else if A 2 a.toNat = 0 ∨ A 2 b.toNat = 0 then (-11, A) else if ¬ (-99 ≤ A 1 a.toNat + A 1 b.toNat ∧ A 1 a.toNat + A 1 b.toNat ≤ 99) then (-3, A) else (min (A 2 a.toNat) (A 2 b.toNat), st_set A t.toNat (A 1 a.toNat + A 1 b.toNat) (min (A 2 a.toNat) (A 2 b.toNat)) (fun k => zcv (A (10 + a.toNat)) (A (10 + b.toNat)) k % A 0 0))
theorem wf_times (hw : zWF A) (a b t : Int) : zWF (st_times A a b t).2 := by
  unfold st_times
  have hp := zWF_p hw
  by_cases h1 : ¬ (0 ≤ a ∧ a < 6) ∨ ¬ (0 ≤ b ∧ b < 6) ∨ ¬ (0 ≤ t ∧ t < 6)
  · rw [if_pos h1]; exact hw
  · rw [if_neg h1]
    by_cases h2 : A 2 a.toNat = 0 ∨ A 2 b.toNat = 0
    · rw [if_pos h2]; exact hw
    · rw [if_neg h2]
      by_cases h3 : ¬ (-99 ≤ A 1 a.toNat + A 1 b.toNat ∧ A 1 a.toNat + A 1 b.toNat ≤ 99)
      · rw [if_pos h3]; exact hw
      · rw [if_neg h3]
        obtain ⟨b1, b2, _⟩ := zWF_s hw (s := a.toNat) (by omega)
        obtain ⟨c1, c2, _⟩ := zWF_s hw (s := b.toNat) (by omega)
        exact zWF_set hw (by omega) (by omega) (by omega) (fun k _ => zemod_lt (by omega))
theorem cx_times {a b t : Int} (hw : zWF A) (hR : zRC A μ) (ha : zR a) (hb : zR b) (ht : zR t) (h : zHc φ μ (st_times A a b t)) : zOi g zm_X10_times [.ref 0, .int (zJ a), .int (zJ b), .int (zJ t)] μ φ := by
  have hp := zWF_p hw
  have h1 : ¬ (0 ≤ a ∧ a < 6) ∨ ¬ (0 ≤ b ∧ b < 6) ∨ ¬ (0 ≤ t ∧ t < 6) → φ (-1) μ := fun q => h.at (if_pos q) rfl hR (zKm.refl μ)
  refine sg_X10_times (ok_X10_isSeries ha (fun qa => ⟨by omega, fun hc => absurd hc (by omega), fun _ => ok_X10_isSeries hb (fun qb => ⟨by omega, fun hc => absurd hc (by omega), fun _ => ok_X10_isSeries ht (fun qt => ⟨by omega, fun _ => ⟨qa, qb, ?_⟩, fun hc => absurd hc (by omega)⟩) (fun q => ⟨by omega, fun hc => absurd rfl hc, fun _ => h1 (by omega)⟩)⟩) (fun q => ⟨by omega, fun _ => h1 (by omega), fun hc => absurd rfl hc⟩)⟩) (fun q => ⟨by omega, fun _ => h1 (by omega), fun hc => absurd rfl hc⟩))
  obtain ⟨a, rfl⟩ : ∃ q : Nat, a = q := ⟨a.toNat, by omega⟩
  obtain ⟨b, rfl⟩ : ∃ q : Nat, b = q := ⟨b.toNat, by omega⟩
  obtain ⟨t, rfl⟩ : ∃ q : Nat, t = q := ⟨t.toNat, by omega⟩
  unfold st_times at h
  rw [if_neg (by omega)] at h
  simp only [Int.toNat_natCast] at h ⊢
  obtain ⟨s1, s2, s3⟩ := zRC_sr hR (s := a) (by omega)
  obtain ⟨t1, t2, t3⟩ := zRC_sr hR (s := b) (by omega)
  obtain ⟨b1, b2, b3⟩ := zWF_s hw (s := a) (by omega)
  obtain ⟨c1, c2, c3⟩ := zWF_s hw (s := b) (by omega)
  have h11 : A 2 a = 0 ∨ A 2 b = 0 → φ (-11) μ := fun q => h.at (if_pos q) rfl hR (zKm.refl μ)
  refine ok_X6_isMissing (zsr a (by omega)).1 (by omega) (fun m1 => ⟨by omega, fun hc => absurd rfl hc, fun _ => ok_X6_isMissing (zsr b (by omega)).1 (by omega) (fun m2 => ⟨by omega, fun _ => ?_, fun hc => absurd rfl hc⟩) (fun m2 => ⟨by omega, fun hc => absurd hc (by omega), fun _ => h11 (by omega)⟩)⟩) (fun m1 => ⟨by omega, fun _ => h11 (by omega), fun hc => absurd hc (by omega)⟩)
  rw [if_neg (by omega)] at h
  rw [s1, t1]
  refine ok_X10_isTooFar (by omega) (fun q => ⟨by omega, fun _ => ⟨qt, ?_⟩, fun hc => absurd rfl hc⟩) (fun q => ⟨by omega, fun hc => absurd hc (by omega), fun _ => h.at (if_pos q) rfl hR (zKm.refl μ)⟩)
  rw [if_neg (by omega)] at h
  refine sg_X7_makeProduct (zsr a (by omega)).1 (zsr b (by omega)).1 (zsr t (by omega)).1 ⟨by omega, by omega, ?_⟩
  rw [s2, t2, zRC_p0 hR, show 7 + 2 * a + 1 = 8 + 2 * a by omega, show 7 + 2 * b + 1 = 8 + 2 * b by omega]
  refine ok_X10_multiply (zsr a (by omega)).2 (zsr b (by omega)).2 zc_70 (by omega) (by omega) (by omega) (by omega) (by omega) (by omega) (by omega) (by omega) (fun k hk => by rw [s3 k (by omega)]; exact b3 k (by omega)) (fun k hk => by rw [t3 k (by omega)]; exact c3 k (by omega)) ?_
  rw [zua_ne (by omega), zua_ne (by omega), s1, t1]
  refine ok_become (F := fun k => zcv (A (10 + a)) (A (10 + b)) k % A 0 0) (zRC_scr (by omega) hR) (by omega) (by omega) (fun k hk => ?_) (fun μ' hR' hk' => h.at rfl (zRC_len hR' (by omega)) hR' ((zKm_scr (by omega)).trans hk'))
  rw [zua_eq, zmr, if_pos (by omega), zcv_congr (fun i hi => s3 i (by omega)) (fun i hi => t3 i (by omega))]
theorem mx_times {a b t : Int} (hw : zWF A) (hR : zRM A μ) (ha : zR a) (hb : zR b) (ht : zR t) (h : zHm φ μ (st_times A a b t)) : zOi g zm_X11_times [.ref 203, .int (zJ a), .int (zJ b), .int (zJ t)] μ φ := by
  have hp := zWF_p hw
  have h1 : ¬ (0 ≤ a ∧ a < 6) ∨ ¬ (0 ≤ b ∧ b < 6) ∨ ¬ (0 ≤ t ∧ t < 6) → φ (-1) μ := fun q => h.at (if_pos q) rfl hR (zKc.refl μ)
  refine sg_X11_times (ok_X11_isSeries ha (fun qa => ⟨by omega, fun hc => absurd hc (by omega), fun _ => ok_X11_isSeries hb (fun qb => ⟨by omega, fun hc => absurd hc (by omega), fun _ => ok_X11_isSeries ht (fun qt => ⟨by omega, fun _ => ?_, fun hc => absurd hc (by omega)⟩) (fun q => ⟨by omega, fun hc => absurd rfl hc, fun _ => h1 (by omega)⟩)⟩) (fun q => ⟨by omega, fun _ => h1 (by omega), fun hc => absurd rfl hc⟩)⟩) (fun q => ⟨by omega, fun _ => h1 (by omega), fun hc => absurd rfl hc⟩))
  obtain ⟨a, rfl⟩ : ∃ q : Nat, a = q := ⟨a.toNat, by omega⟩
  obtain ⟨b, rfl⟩ : ∃ q : Nat, b = q := ⟨b.toNat, by omega⟩
  obtain ⟨t, rfl⟩ : ∃ q : Nat, t = q := ⟨t.toNat, by omega⟩
  unfold st_times at h
  rw [if_neg (by omega)] at h
  simp only [Int.toNat_natCast] at h ⊢
  obtain ⟨s1, s2, s3⟩ := zRM_sr hR (s := a) (by omega)
  obtain ⟨t1, t2, t3⟩ := zRM_sr hR (s := b) (by omega)
  obtain ⟨b1, b2, b3⟩ := zWF_s hw (s := a) (by omega)
  obtain ⟨c1, c2, c3⟩ := zWF_s hw (s := b) (by omega)
  have h11 : A 2 a = 0 ∨ A 2 b = 0 → φ (-11) μ := fun q => h.at (if_pos q) rfl hR (zKc.refl μ)
  refine ok_X11_isThere (by omega) (by omega) (fun m1 => ⟨by omega, fun hc => absurd hc (by omega), fun _ => ok_X11_isThere (by omega) (by omega) (fun m2 => ⟨by omega, fun _ => ?_, fun hc => absurd hc (by omega)⟩) (fun m2 => ⟨by omega, fun hc => absurd rfl hc, fun _ => h11 (by omega)⟩)⟩) (fun m1 => ⟨by omega, fun _ => h11 (by omega), fun hc => absurd rfl hc⟩)
  rw [if_neg (by omega)] at h
  rw [s1, t1]
  refine ⟨qa, qb, ok_X11_isStart (by omega) (fun q => ⟨by omega, fun _ => ?_, fun hc => absurd hc (by omega)⟩) (fun q => ⟨by omega, fun hc => absurd rfl hc, fun _ => h.at (if_pos q) rfl hR (zKc.refl μ)⟩)⟩
  rw [if_neg (by omega)] at h
  refine ok_X11_lays (s := 80 * a) (by omega) zc_206 zc_210 (by omega) (by omega) (by omega) (ok_X11_lays (s := 80 * b) (by omega) zc_206 zc_211 (by omega) (by omega) (by omega) ?_)
  simp only [zup_ne (Or.inl (show (205 : Nat) ≠ 203 by omega)), zua_ne (show (204 : Nat) ≠ 211 by omega), zua_ne (show (204 : Nat) ≠ 210 by omega), zua_ne (show (205 : Nat) ≠ 211 by omega), zua_ne (show (205 : Nat) ≠ 210 by omega), zua_ne (show (206 : Nat) ≠ 210 by omega), zup_eq]
  rw [s1, t1, s2, t2]
  refine ⟨by omega, by omega, ?_⟩
  obtain ⟨n, hnn⟩ : ∃ n : Nat, min (A 2 a) (A 2 b) = n := ⟨(min (A 2 a) (A 2 b)).toNat, by omega⟩
  rw [hnn] at h ⊢
  have hR1 : zRM A (zup (zup (zua (zua μ 210 fun k => if k < 80 then μ 206 (80 * a + k) else μ 210 k) 211 fun k => if k < 80 then μ 206 (80 * b + k) else (zua μ 210 fun k => if k < 80 then μ 206 (80 * a + k) else μ 210 k) 211 k) 203 7 (A 1 a + A 1 b)) 203 8 (n : Int)) := zRM_slt (by omega) (zRM_slt (by omega) (zRM_scr (by omega) (zRM_scr (by omega) hR)))
  have hK1 : zKc μ (zup (zup (zua (zua μ 210 fun k => if k < 80 then μ 206 (80 * a + k) else μ 210 k) 211 fun k => if k < 80 then μ 206 (80 * b + k) else (zua μ 210 fun k => if k < 80 then μ 206 (80 * a + k) else μ 210 k) 211 k) 203 7 (A 1 a + A 1 b)) 203 8 (n : Int)) := (zKc_scr (by omega)).trans ((zKc_scr (by omega)).trans (zKc_slt.trans zKc_slt))
  have r1 : ∀ (k : Nat), k < n → zup (zup (zua (zua μ 210 fun k => if k < 80 then μ 206 (80 * a + k) else μ 210 k) 211 fun k => if k < 80 then μ 206 (80 * b + k) else (zua μ 210 fun k => if k < 80 then μ 206 (80 * a + k) else μ 210 k) 211 k) 203 7 (A 1 a + A 1 b)) 203 8 (n : Int) 210 k = A (10 + a) k := fun k hk => by
    rw [zup_ne (Or.inl (by omega)), zup_ne (Or.inl (by omega)), zua_ne (by omega), zua_eq, if_pos (by omega), s3 k (by omega)]
  have r2 : ∀ (k : Nat), k < n → zup (zup (zua (zua μ 210 fun k => if k < 80 then μ 206 (80 * a + k) else μ 210 k) 211 fun k => if k < 80 then μ 206 (80 * b + k) else (zua μ 210 fun k => if k < 80 then μ 206 (80 * a + k) else μ 210 k) 211 k) 203 7 (A 1 a + A 1 b)) 203 8 (n : Int) 211 k = A (10 + b) k := fun k hk => by
    rw [zup_ne (Or.inl (by omega)), zup_ne (Or.inl (by omega)), zua_eq, if_pos (by omega), t3 k (by omega)]
  have e7 : ∀ f, zua (zup (zup (zua (zua μ 210 fun k => if k < 80 then μ 206 (80 * a + k) else μ 210 k) 211 fun k => if k < 80 then μ 206 (80 * b + k) else (zua μ 210 fun k => if k < 80 then μ 206 (80 * a + k) else μ 210 k) 211 k) 203 7 (A 1 a + A 1 b)) 203 8 (n : Int)) 209 f 203 7 = A 1 a + A 1 b := fun f => by rw [zua_ne (by omega), zup_ne (Or.inr (by omega)), zup_eq]
  have e8 : ∀ f, zua (zup (zup (zua (zua μ 210 fun k => if k < 80 then μ 206 (80 * a + k) else μ 210 k) 211 fun k => if k < 80 then μ 206 (80 * b + k) else (zua μ 210 fun k => if k < 80 then μ 206 (80 * a + k) else μ 210 k) 211 k) 203 7 (A 1 a + A 1 b)) 203 8 (n : Int)) 209 f 203 8 = n := fun f => by rw [zua_ne (by omega), zup_eq]
  generalize zup (zup (zua (zua μ 210 fun k => if k < 80 then μ 206 (80 * a + k) else μ 210 k) 211 fun k => if k < 80 then μ 206 (80 * b + k) else (zua μ 210 fun k => if k < 80 then μ 206 (80 * a + k) else μ 210 k) 211 k) 203 7 (A 1 a + A 1 b)) 203 8 (n : Int) = ν at hR1 hK1 r1 r2 e7 e8 ⊢
  refine ok_X11_multiplies (N := n) rfl zc_210 zc_211 (by omega) (by omega) (by omega) (by omega) (by omega) (zRM_p0 hR1) (by omega) (fun k hk => by rw [r1 k hk]; exact b3 k (by omega)) (fun k hk => by rw [r2 k hk]; exact c3 k (by omega)) ?_
  refine ok_X11_becomes (F := fun k => zcv (A (10 + a)) (A (10 + b)) k % A 0 0) hw (zRM_scr (by omega) hR1) (by omega) (e7 _) (e8 _) (by omega) (fun k hk => ?_) (fun μ' hR' hk' => h.at rfl rfl hR' (hK1.trans ((zKc_scr (by omega)).trans hk')))
  rw [zua_eq, if_pos (by omega), zcv_congr (fun i hi => r1 i (by omega)) (fun i hi => r2 i (by omega))]
end SR2
