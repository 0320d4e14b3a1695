/-! SERIES: stretch, over, power -/
section SR3
variable {g : zG} {φ : Int → zMu → Prop} {μ A : zMu}
def zwd (M : Nat) (f : Nat → Int) (k : Nat) : Int := if k % M = 0 then f (k / M) else 0
theorem zwd_1 {k M t : Nat} (hM : 1 ≤ M) : (k % M = 0 ∧ k / M = t) ↔ k = t * M := by
  have h := Nat.div_add_mod k M
  constructor
  · intro ⟨h1, h2⟩
    rw [h1, h2, Nat.mul_comm] at h; omega
  · intro h1
    subst h1
    exact ⟨Nat.mul_mod_left t M, Nat.mul_div_cancel t (by omega)⟩
def st_stretch (A : zMu) (a m t : Int) : Int × zMu := if ¬ (0 ≤ a ∧ a < 6) ∨ ¬ (0 ≤ t ∧ t < 6) then (-1, A) else if ¬ (1 ≤ m ∧ m ≤ 9) then (-2, A) else if A 2 a.toNat = 0 then (-11, A) else if ¬ (-99 ≤ A 1 a.toNat * m ∧ A 1 a.toNat * m ≤ 99) then (-3, A) else (min (A 2 a.toNat * m) 80, st_set A t.toNat (A 1 a.toNat * m) (min (A 2 a.toNat * m) 80) (zwd m.toNat (A (10 + a.toNat))))
theorem zwd_bd {A : zMu} (hw : zWF A) {a M : Nat} (ha : a < 6) (hM : 1 ≤ M) {k : Nat} (hk : (k : Int) < A 2 a * M) : 0 ≤ zwd M (A (10 + a)) k ∧ zwd M (A (10 + a)) k < A 0 0 := by
  have hp := zWF_p hw
  obtain ⟨b1, b2, b3⟩ := zWF_s hw ha
  unfold zwd
  by_cases h : k % M = 0
  · rw [if_pos h]
    refine b3 _ ?_
    rw [Nat.div_lt_iff_lt_mul (by omega)]
    obtain ⟨n, hn⟩ : ∃ n : Nat, A 2 a = n := ⟨(A 2 a).toNat, by omega⟩
    rw [hn] at hk ⊢
    rw [← Int.natCast_mul] at hk
    rw [Int.toNat_natCast]; omega
  · rw [if_neg h]; omega
theorem zmul_1 {x m : Int} (hx : 1 ≤ x) (hm : 1 ≤ m) : 1 ≤ x * m := by
  have := Int.mul_le_mul hx hm (by omega) (by omega)
  omega
theorem wf_stretch (hw : zWF A) (a m t : Int) : zWF (st_stretch A a m t).2 := by
  unfold st_stretch
  have hp := zWF_p hw
  by_cases h1 : ¬ (0 ≤ a ∧ a < 6) ∨ ¬ (0 ≤ t ∧ t < 6)
  · rw [if_pos h1]; exact hw
  · rw [if_neg h1]
    by_cases h2 : ¬ (1 ≤ m ∧ m ≤ 9)
    · rw [if_pos h2]; exact hw
    · rw [if_neg h2]
      by_cases h3 : A 2 a.toNat = 0
      · rw [if_pos h3]; exact hw
      · rw [if_neg h3]
        by_cases h4 : ¬ (-99 ≤ A 1 a.toNat * m ∧ A 1 a.toNat * m ≤ 99)
        · rw [if_pos h4]; exact hw
        · rw [if_neg h4]
          obtain ⟨b1, b2, _⟩ := zWF_s hw (s := a.toNat) (by omega)
          have := zmul_1 (x := A 2 a.toNat) (m := m) (by omega) (by omega)
          refine zWF_set hw (by omega) (by omega) (by omega) (fun k hk => zwd_bd hw (by omega) (by omega) ?_)
          rw [show ((m.toNat : Nat) : Int) = m by omega]; omega
theorem cx_stretch {a m t : Int} (hw : zWF A) (hR : zRC A μ) (ha : zR a) (hm : zR m) (ht : zR t) (h : zHc φ μ (st_stretch A a m t)) : zOi g zm_X10_stretch [.ref 0, .int (zJ a), .int (zJ m), .int (zJ t)] μ φ := by
  have hp := zWF_p hw
  have h1 : ¬ (0 ≤ a ∧ a < 6) ∨ ¬ (0 ≤ t ∧ t < 6) → φ (-1) μ := fun q => h.at (if_pos q) rfl hR (zKm.refl μ)
  have h2 : (0 ≤ a ∧ a < 6) ∧ (0 ≤ t ∧ t < 6) → ¬ (1 ≤ m ∧ m ≤ 9) → φ (-2) μ := fun q q2 => h.at ((if_neg (by omega)).trans (if_pos q2)) rfl hR (zKm.refl μ)
  refine sg_X10_stretch (ok_X10_isSeries ha (fun qa => ⟨by omega, fun hc => absurd hc (by omega), fun _ => ok_X10_isSeries ht (fun qt => ⟨by omega, fun _ => ⟨hm, fun _ => h2 ⟨qa, qt⟩ (by omega), fun _ => ⟨fun _ => ⟨qa, ?_⟩, fun _ => h2 ⟨qa, qt⟩ (by omega)⟩⟩, fun hc => absurd hc (by omega)⟩) (fun q => ⟨by omega, fun hc => absurd rfl hc, fun _ => h1 (by omega)⟩)⟩) (fun q => ⟨by omega, fun _ => h1 (by omega), fun hc => absurd rfl hc⟩))
  obtain ⟨a, rfl⟩ : ∃ q : Nat, a = q := ⟨a.toNat, by omega⟩
  obtain ⟨t, rfl⟩ : ∃ q : Nat, t = q := ⟨t.toNat, by omega⟩
  obtain ⟨M, rfl⟩ : ∃ q : Nat, m = q := ⟨m.toNat, by omega⟩
  unfold st_stretch at h
  rw [if_neg (by omega), if_neg (by omega)] at h
  simp only [Int.toNat_natCast] at h ⊢
  obtain ⟨s1, s2, s3⟩ := zRC_sr hR (s := a) (by omega)
  obtain ⟨b1, b2, b3⟩ := zWF_s hw (s := a) (by omega)
  have hb9 : -99 * 9 ≤ A 1 a * M ∧ A 1 a * M ≤ 99 * 9 ∧ 0 ≤ A 2 a * M ∧ A 2 a * M ≤ 80 * 9 := by
    have : M = 1 ∨ M = 2 ∨ M = 3 ∨ M = 4 ∨ M = 5 ∨ M = 6 ∨ M = 7 ∨ M = 8 ∨ M = 9 := by omega
    rcases this with q | q | q | q | q | q | q | q | q <;> subst q <;> omega
  refine ok_X6_isMissing (zsr a (by omega)).1 (by omega) (fun m1 => ⟨by omega, fun _ => ?_, fun hc => absurd rfl hc⟩) (fun m1 => ⟨by omega, fun hc => absurd hc (by omega), fun _ => h.at (if_pos (by omega)) rfl hR (zKm.refl μ)⟩)
  rw [if_neg (by omega)] at h
  rw [s1]
  refine ok_X10_isTooFar (by omega) (fun q => ⟨by omega, fun _ => ⟨qt, ?_⟩, fun hc => absurd rfl hc⟩) (fun q => ⟨by omega, fun hc => absurd hc (by omega), fun _ => h.at (if_pos q) rfl hR (zKm.refl μ)⟩)
  rw [if_neg (by omega)] at h
  have hn1 := zmul_1 (x := A 2 a) (m := M) (by omega) (by omega)
  refine sg_X7_widen (zsr a (by omega)).1 (zsr t (by omega)).1 ⟨by rw [s2]; omega, sg_J7_fill zc_70 ?_⟩
  rw [s2]
  obtain ⟨n, hnn⟩ : ∃ n : Nat, min (A 2 a * M) 80 = n := ⟨(min (A 2 a * M) 80).toNat, by omega⟩
  have hn80 : n ≤ 80 := by omega
  have hnM : (n : Int) ≤ A 2 a * M := by omega
  rw [hnn] at h ⊢
  have loop : ∀ f s : Nat, n ≤ s + f → s * M ≤ n + M → at_X7_widen_24 g (fun μ20 => φ (μ20 (7 + 2 * t) 2) μ20) (7 + 2 * a) (M : Int) (7 + 2 * t) (n : Int) (s : Int) (zua μ 70 (fun k => if k < 80 then (if k % M = 0 ∧ k / M < s then A (10 + a) (k / M) else 0) else μ 70 k)) := by
    intro f
    induction f with
    | zero =>
      intro s hs hs2
      have e1 : (s : Int) * M = ((s * M : Nat) : Int) := (Int.natCast_mul s M).symm
      have e2 : s ≤ s * M := Nat.le_mul_of_pos_right s (by omega)
      refine sg_X7_widen_24 (zsr a (by omega)).1 (zsr t (by omega)).1 ⟨by omega, by omega, fun _ => ?_, fun hc => absurd hc (by omega)⟩
      rw [zua_ne (by omega), s1]
      refine ok_become (F := zwd M (A (10 + a))) (zRC_scr (by omega) hR) (by omega) (by omega) (fun k hk => ?_) (fun μ' hR' hk' => h.at rfl (zRC_len hR' (by omega)) hR' ((zKm_scr (by omega)).trans hk'))
      have hq : k / M < s := by rw [Nat.div_lt_iff_lt_mul (by omega)]; omega
      rw [zua_eq, if_pos (by omega), zwd]
      by_cases hc : k % M = 0
      · rw [if_pos ⟨hc, hq⟩, if_pos hc]
      · rw [if_neg (fun q => hc q.1), if_neg hc]
    | succ f ih =>
      intro s hs hs2
      have e1 : (s : Int) * M = ((s * M : Nat) : Int) := (Int.natCast_mul s M).symm
      have e2 : s ≤ s * M := Nat.le_mul_of_pos_right s (by omega)
      refine sg_X7_widen_24 (zsr a (by omega)).1 (zsr t (by omega)).1 ⟨by omega, by omega, fun hc => ?_, fun hc => ⟨by omega, by omega, ?_⟩⟩
      · rw [zua_ne (by omega), s1]
        refine ok_become (F := zwd M (A (10 + a))) (zRC_scr (by omega) hR) (by omega) (by omega) (fun k hk => ?_) (fun μ' hR' hk' => h.at rfl (zRC_len hR' (by omega)) hR' ((zKm_scr (by omega)).trans hk'))
        have hq : k / M < s := by rw [Nat.div_lt_iff_lt_mul (by omega)]; omega
        rw [zua_eq, if_pos (by omega), zwd]
        by_cases hc : k % M = 0
        · rw [if_pos ⟨hc, hq⟩, if_pos hc]
        · rw [if_neg (fun q => hc q.1), if_neg hc]
      · have k2 := ih (s + 1) (by omega) (by rw [Nat.add_mul]; omega)
        rw [Int.natCast_add] at k2
        have hsl : (s : Int) < A 2 a := by
          apply Int.lt_of_mul_lt_mul_right (a := (M : Int)) (by omega) (by omega)
        rw [e1, Int.toNat_natCast, Int.toNat_natCast, show 7 + 2 * a + 1 = 8 + 2 * a by omega, zua_ne (by omega), s3 s hsl, zup_zua, zua_congr (h := fun k => if k < 80 then (if k % M = 0 ∧ k / M < s + 1 then A (10 + a) (k / M) else 0) else μ 70 k) (fun q => by
          by_cases hb : q = s * M
          · have hq := (zwd_1 (k := q) (M := M) (t := s) (by omega)).2 hb
            rw [if_pos hb, if_pos (by omega), if_pos ⟨hq.1, by omega⟩, hq.2]
          · rw [if_neg hb]
            have hq := fun z => hb ((zwd_1 (k := q) (M := M) (t := s) (by omega)).1 z)
            by_cases h80 : q < 80
            · rw [if_pos h80, if_pos h80]
              by_cases hc : q % M = 0 ∧ q / M < s
              · rw [if_pos hc, if_pos ⟨hc.1, by omega⟩]
              · rw [if_neg hc, if_neg (fun z => hc ⟨z.1, by
                  have : q / M ≠ s := fun w => hq ⟨z.1, w⟩
                  omega⟩)]
            · rw [if_neg h80, if_neg h80])]
        exact k2
  have k0 := loop 80 0 (by omega) (by omega)
  rw [zua_congr (h := fun b => if b < 80 then 0 else μ 70 b) (fun b => by
    by_cases h80 : b < 80
    · rw [if_pos h80, if_pos h80, if_neg (fun z => Nat.not_lt_zero _ z.2)]
    · rw [if_neg h80, if_neg h80])] at k0
  exact k0
theorem mx_stretch {a m t : Int} (hw : zWF A) (hR : zRM A μ) (ha : zR a) (hm : zR m) (ht : zR t) (h : zHm φ μ (st_stretch A a m t)) : zOi g zm_X11_stretch [.ref 203, .int (zJ a), .int (zJ m), .int (zJ t)] μ φ := by
  have hp := zWF_p hw
  have h1 : ¬ (0 ≤ a ∧ a < 6) ∨ ¬ (0 ≤ t ∧ t < 6) → φ (-1) μ := fun q => h.at (if_pos q) rfl hR (zKc.refl μ)
  have h2 : (0 ≤ a ∧ a < 6) ∧ (0 ≤ t ∧ t < 6) → ¬ (1 ≤ m ∧ m ≤ 9) → φ (-2) μ := fun q q2 => h.at ((if_neg (by omega)).trans (if_pos q2)) rfl hR (zKc.refl μ)
  refine sg_X11_stretch (ok_X11_isSeries ha (fun qa => ⟨by omega, fun hc => absurd hc (by omega), fun _ => ok_X11_isSeries ht (fun qt => ⟨by omega, fun _ => ⟨hm, ok_X11_in (by omega) (by omega) (by omega) (fun qm => ⟨by omega, fun _ => ?_, fun hc => absurd hc (by omega)⟩) (fun qm => ⟨by omega, fun hc => absurd rfl hc, fun _ => h2 ⟨qa, qt⟩ (by omega)⟩)⟩, fun hc => absurd hc (by omega)⟩) (fun q => ⟨by omega, fun hc => absurd rfl hc, fun _ => h1 (by omega)⟩)⟩) (fun q => ⟨by omega, fun _ => h1 (by omega), fun hc => absurd rfl hc⟩))
  obtain ⟨a, rfl⟩ : ∃ q : Nat, a = q := ⟨a.toNat, by omega⟩
  obtain ⟨t, rfl⟩ : ∃ q : Nat, t = q := ⟨t.toNat, by omega⟩
  obtain ⟨M, rfl⟩ : ∃ q : Nat, m = q := ⟨m.toNat, by omega⟩
  unfold st_stretch at h
  rw [if_neg (by omega), if_neg (by omega)] at h
  simp only [Int.toNat_natCast] at h ⊢
  obtain ⟨s1, s2, s3⟩ := zRM_sr hR (s := a) (by omega)
  obtain ⟨b1, b2, b3⟩ := zWF_s hw (s := a) (by omega)
  have hb9 : -99 * 9 ≤ A 1 a * M ∧ A 1 a * M ≤ 99 * 9 ∧ 0 ≤ A 2 a * M ∧ A 2 a * M ≤ 80 * 9 := by
    have : M = 1 ∨ M = 2 ∨ M = 3 ∨ M = 4 ∨ M = 5 ∨ M = 6 ∨ M = 7 ∨ M = 8 ∨ M = 9 := by omega
    rcases this with q | q | q | q | q | q | q | q | q <;> subst q <;> omega
  refine ok_X11_isThere (by omega) (by omega) (fun m1 => ⟨by omega, fun _ => ⟨qa, ?_⟩, fun hc => absurd hc (by omega)⟩) (fun m1 => ⟨by omega, fun hc => absurd rfl hc, fun _ => h.at (if_pos (by omega)) rfl hR (zKc.refl μ)⟩)
  rw [if_neg (by omega)] at h
  rw [s1, Int.mul_comm (M : Int) (A 1 a)]
  refine ok_X11_isStart (by omega) (fun q => ⟨by omega, fun _ => ?_, fun hc => absurd hc (by omega)⟩) (fun q => ⟨by omega, fun hc => absurd rfl hc, fun _ => h.at (if_pos q) rfl hR (zKc.refl μ)⟩)
  rw [if_neg (by omega)] at h
  have hn1 := zmul_1 (x := A 2 a) (m := M) (by omega) (by omega)
  rw [zup_ne (μ := μ) (Or.inl (show 205 ≠ 203 by omega)), s1, s2, Int.mul_comm (M : Int) (A 1 a), Int.mul_comm (M : Int) (A 2 a), show min 80 (A 2 a * (M : Int)) = min (A 2 a * M) 80 by omega]
  refine ⟨by omega, ?_⟩
  obtain ⟨n, hnn⟩ : ∃ n : Nat, min (A 2 a * M) 80 = n := ⟨(min (A 2 a * M) 80).toNat, by omega⟩
  have hn80 : n ≤ 80 := by omega
  have hnM : (n : Int) ≤ A 2 a * M := by omega
  rw [hnn] at h ⊢
  have hR1 : zRM A (zup (zup μ 203 7 (A 1 a * M)) 203 8 (n : Int)) := zRM_slt (by omega) (zRM_slt (by omega) hR)
  have hK1 : zKc μ (zup (zup μ 203 7 (A 1 a * M)) 203 8 (n : Int)) := zKc_slt.trans zKc_slt
  have e7 : ∀ f, zua (zup (zup μ 203 7 (A 1 a * M)) 203 8 (n : Int)) 209 f 203 7 = A 1 a * M := fun f => by rw [zua_ne (by omega), zup_ne (Or.inr (by omega)), zup_eq]
  have e8 : ∀ f, zua (zup (zup μ 203 7 (A 1 a * M)) 203 8 (n : Int)) 209 f 203 8 = n := fun f => by rw [zua_ne (by omega), zup_eq]
  generalize zup (zup μ 203 7 (A 1 a * M)) 203 8 (n : Int) = ν at hR1 hK1 e7 e8 ⊢
  have loop : ∀ m s : Nat, s + m = n → at_X11_stretch_91 g φ (a : Int) (M : Int) (t : Int) (s : Int) (zua ν 209 (fun k => if k < s then zwd M (A (10 + a)) k else ν 209 k)) := by
    intro m
    induction m with
    | zero =>
      intro s hs
      have e : s = n := by omega
      subst e
      refine sg_X11_stretch_91 ⟨by omega, by rw [e8]; omega, fun _ => ok_X11_becomes (F := zwd M (A (10 + a))) hw (zRM_scr (by omega) hR1) (by omega) (e7 _) (e8 _) (by omega) (fun k hk => by rw [zua_eq, if_pos (by omega)]) (fun μ' hR' hk' => ?_), fun hc => absurd hc (by rw [e8]; omega)⟩
      exact h.at rfl rfl hR' (hK1.trans ((zKc_scr (by omega)).trans hk'))
    | succ m ih =>
      intro s hs
      have k2 := ih (s + 1) (by omega)
      rw [Int.natCast_add] at k2
      have em : (s : Int).tmod (M : Int) = ((s % M : Nat) : Int) := by rw [ztm (by omega), Int.natCast_emod]
      have ed : (s : Int).tdiv (M : Int) = ((s / M : Nat) : Int) := by rw [Int.tdiv_eq_ediv_of_nonneg (by omega), Int.natCast_ediv]
      have hml := Nat.mod_lt s (show 0 < M by omega)
      have hdl := Nat.div_le_self s M
      obtain ⟨w1, w2, w3⟩ := zRM_sr (zRM_scr (f := fun k => if k < s then zwd M (A (10 + a)) k else ν 209 k) (i := 209) (by omega) hR1) (s := a) (by omega)
      have key : ∀ v, v = zwd M (A (10 + a)) s → at_X11_stretch_91 g φ (a : Int) (M : Int) (t : Int) ((s : Int) + 1) (zup (zua ν 209 (fun k => if k < s then zwd M (A (10 + a)) k else ν 209 k)) 209 (s : Int).toNat v) := fun v hv => by
        rw [Int.toNat_natCast, zup_zua, zua_congr (h := fun k => if k < s + 1 then zwd M (A (10 + a)) k else ν 209 k) (fun q => by
          by_cases hb : q = s
          · rw [if_pos hb, if_pos (by omega), hb, hv]
          · rw [if_neg hb]
            by_cases hc : q < s
            · rw [if_pos hc, if_pos (by omega)]
            · rw [if_neg hc, if_neg (by omega)])]
        exact k2
      refine sg_X11_stretch_91 ⟨by omega, by rw [e8]; omega, fun hc => absurd hc (by rw [e8]; omega), fun _ => ?_⟩
      have h3 : s / M < (A 2 a).toNat := by
        rw [Nat.div_lt_iff_lt_mul (by omega)]
        obtain ⟨l, hl⟩ : ∃ l : Nat, A 2 a = l := ⟨(A 2 a).toNat, by omega⟩
        rw [hl, ← Int.natCast_mul] at hnM
        rw [hl, Int.toNat_natCast]; omega
      have hz : (s % M = 0 → zwd M (A (10 + a)) s = A (10 + a) (s / M)) ∧ (s % M ≠ 0 → zwd M (A (10 + a)) s = 0) := ⟨fun z => by rw [zwd, if_pos z], fun z => by rw [zwd, if_neg z]⟩
      generalize s / M = dd at ed hdl h3 hz
      generalize s % M = rr at em hml hz
      rw [em, ed, show Int.toNat (80 * (a : Int) + (dd : Int)) = 80 * a + dd by omega]
      exact ⟨by omega, by omega, by omega, fun hc => ⟨by omega, key 0 (hz.2 (by omega)).symm⟩, fun hc => ⟨by omega, by omega, key _ ((w3 _ (by omega)).trans (hz.1 (by omega)).symm)⟩⟩
  have k0 := loop n 0 (by omega)
  rw [zua_self (fun b => if_neg (by omega))] at k0
  exact k0
def st_over (A : zMu) (a t : Int) : Int × zMu := if ¬ (0 ≤ a ∧ a < 6) ∨ ¬ (0 ≤ t ∧ t < 6) then (-1, A) else if A 2 a.toNat = 0 then (-11, A) else if A (10 + a.toNat) 0 = 0 then (-3, A) else (A 2 a.toNat, st_set A t.toNat (-(A 1 a.toNat)) (A 2 a.toNat) (zdv (A 0 0) zone (A (10 + a.toNat))))
theorem wf_over (hw : zWF A) (a t : Int) : zWF (st_over A a t).2 := by
  unfold st_over
  have hp := zWF_p hw
  by_cases h1 : ¬ (0 ≤ a ∧ a < 6) ∨ ¬ (0 ≤ t ∧ t < 6)
  · rw [if_pos h1]; exact hw
  · rw [if_neg h1]
    by_cases h2 : A 2 a.toNat = 0
    · rw [if_pos h2]; exact hw
    · rw [if_neg h2]
      by_cases h3 : A (10 + a.toNat) 0 = 0
      · rw [if_pos h3]; exact hw
      · rw [if_neg h3]
        obtain ⟨b1, b2, _⟩ := zWF_s hw (s := a.toNat) (by omega)
        exact zWF_set hw (by omega) (by omega) (by omega) (zdv_modp (by omega) _)
theorem cx_over {a t : Int} (hw : zWF A) (hR : zRC A μ) (ha : zR a) (ht : zR t) (h : zHc φ μ (st_over A a t)) : zOi g zm_X10_over [.ref 0, .int (zJ a), .int (zJ t)] μ φ := by
  have hp := zWF_p hw
  have h1 : ¬ (0 ≤ a ∧ a < 6) ∨ ¬ (0 ≤ t ∧ t < 6) → φ (-1) μ := fun q => h.at (if_pos q) rfl hR (zKm.refl μ)
  refine sg_X10_over (ok_X10_isSeries ha (fun qa => ⟨by omega, fun hc => absurd hc (by omega), fun _ => ok_X10_isSeries ht (fun qt => ⟨by omega, fun _ => ⟨qa, ?_⟩, fun hc => absurd hc (by omega)⟩) (fun q => ⟨by omega, fun hc => absurd rfl hc, fun _ => h1 (by omega)⟩)⟩) (fun q => ⟨by omega, fun _ => h1 (by omega), fun hc => absurd rfl hc⟩))
  obtain ⟨a, rfl⟩ : ∃ q : Nat, a = q := ⟨a.toNat, by omega⟩
  obtain ⟨t, rfl⟩ : ∃ q : Nat, t = q := ⟨t.toNat, by omega⟩
  unfold st_over at h
  rw [if_neg (by omega)] at h
  simp only [Int.toNat_natCast] at h ⊢
  obtain ⟨s1, s2, s3⟩ := zRC_sr hR (s := a) (by omega)
  obtain ⟨b1, b2, b3⟩ := zWF_s hw (s := a) (by omega)
  refine ok_X6_isMissing (zsr a (by omega)).1 (by omega) (fun m1 => ⟨by omega, fun _ => ?_, fun hc => absurd rfl hc⟩) (fun m1 => ⟨by omega, fun hc => absurd hc (by omega), fun _ => h.at (if_pos (by omega)) rfl hR (zKm.refl μ)⟩)
  rw [if_neg (by omega)] at h
  have b30 := b3 0 (by omega)
  rw [show 7 + 2 * a + 1 = 8 + 2 * a by omega, s3 0 (by omega)]
  refine ⟨by omega, fun q => ⟨qt, ?_⟩, fun q => h.at (if_pos q) rfl hR (zKm.refl μ)⟩
  rw [if_neg (by omega)] at h
  obtain ⟨n, hn⟩ : ∃ n : Nat, A 2 a = n := ⟨(A 2 a).toNat, by omega⟩
  rw [hn] at s2 h s3 b2 b3
  refine sg_X7_makeReciprocal (zsr a (by omega)).1 (zsr t (by omega)).1 ?_
  rw [show 7 + 2 * a + 1 = 8 + 2 * a by omega, s2, zRC_p0 hR]
  have hv : zmodp (A 0 0) n (μ (8 + 2 * a)) := fun k hk => by rw [s3 k (by omega)]; exact b3 k (by omega)
  refine ok_X7_invert (zsr a (by omega)).2 zc_70 (by omega) (by omega) (by omega) (by omega) (by omega) hp.1 hv (by rw [s3 0 (by omega)]; omega) ?_
  rw [zua_ne (by omega), zua_ne (by omega), s1, s2]
  refine ok_become (F := zdv (A 0 0) zone (A (10 + a))) (zRC_scr (by omega) hR) (by omega) (by omega) (fun k hk => ?_) (fun μ' hR' hk' => h.at rfl (zRC_len hR' (by omega)) hR' ((zKm_scr (by omega)).trans hk'))
  rw [zua_eq, if_pos (by omega)]
  exact zdv_congr (n := n) hp.1 (by rw [s3 0 (by omega)]; omega) (by rw [s3 0 (by omega)]; omega) (by omega) (by omega) (zeq.refl _) (fun i hi => by rw [s3 i (by omega)]) k (by omega)
theorem mx_over {a t : Int} (hw : zWF A) (hR : zRM A μ) (ha : zR a) (ht : zR t) (h : zHm φ μ (st_over A a t)) : zOi g zm_X11_over [.ref 203, .int (zJ a), .int (zJ t)] μ φ := by
  have hp := zWF_p hw
  have h1 : ¬ (0 ≤ a ∧ a < 6) ∨ ¬ (0 ≤ t ∧ t < 6) → φ (-1) μ := fun q => h.at (if_pos q) rfl hR (zKc.refl μ)
  refine sg_X11_over (ok_X11_isSeries ha (fun qa => ⟨by omega, fun hc => absurd hc (by omega), fun _ => ok_X11_isSeries ht (fun qt => ⟨by omega, fun _ => ?_, fun hc => absurd hc (by omega)⟩) (fun q => ⟨by omega, fun hc => absurd rfl hc, fun _ => h1 (by omega)⟩)⟩) (fun q => ⟨by omega, fun _ => h1 (by omega), fun hc => absurd rfl hc⟩))
  obtain ⟨a, rfl⟩ : ∃ q : Nat, a = q := ⟨a.toNat, by omega⟩
  obtain ⟨t, rfl⟩ : ∃ q : Nat, t = q := ⟨t.toNat, by omega⟩
  unfold st_over at h
  rw [if_neg (by omega)] at h
  simp only [Int.toNat_natCast] at h ⊢
  obtain ⟨s1, s2, s3⟩ := zRM_sr hR (s := a) (by omega)
  obtain ⟨b1, b2, b3⟩ := zWF_s hw (s := a) (by omega)
  refine ok_X11_isThere (by omega) (by omega) (fun m1 => ⟨by omega, fun _ => ?_, fun hc => absurd hc (by omega)⟩) (fun m1 => ⟨by omega, fun hc => absurd rfl hc, fun _ => h.at (if_pos (by omega)) rfl hR (zKc.refl μ)⟩)
  rw [if_neg (by omega)] at h
  have b30 := b3 0 (by omega)
  have e0 : μ 206 (Int.toNat (80 * (a : Int))) = A (10 + a) 0 := by rw [show Int.toNat (80 * (a : Int)) = 80 * a + 0 by omega]; exact s3 0 (by omega)
  rw [e0]
  refine ⟨by omega, by omega, fun q => ?_, fun q => h.at (if_pos q) rfl hR (zKc.refl μ)⟩
  rw [if_neg (by omega)] at h
  obtain ⟨n, hn⟩ : ∃ n : Nat, A 2 a = n := ⟨(A 2 a).toNat, by omega⟩
  rw [hn] at s2 h s3 b2 b3
  refine ok_X11_lays (s := 80 * a) (by omega) zc_206 zc_211 (by omega) (by omega) (by omega) ?_
  have hR1 : zRM A (zua μ 211 (fun k => if k < 80 then μ 206 (80 * a + k) else μ 211 k)) := zRM_scr (by omega) hR
  have hK1 : zKc μ (zua μ 211 (fun k => if k < 80 then μ 206 (80 * a + k) else μ 211 k)) := zKc_scr (by omega)
  have r2 : ∀ (k : Nat), k < n → zua μ 211 (fun k => if k < 80 then μ 206 (80 * a + k) else μ 211 k) 211 k = A (10 + a) k := fun k hk => by rw [zua_eq, if_pos (by omega), s3 k (by omega)]
  generalize zua μ 211 (fun k => if k < 80 then μ 206 (80 * a + k) else μ 211 k) = ν at hR1 hK1 r2 ⊢
  have loop : ∀ m s : Nat, s + m = 80 → at_X11_over_59 g φ (a : Int) (t : Int) (s : Int) (zua ν 210 (fun k => if k < s then zone k else ν 210 k)) := by
    intro m
    induction m with
    | zero =>
      intro s hs
      have e : s = 80 := by omega
      subst e
      refine sg_X11_over_59 ⟨by omega, fun _ => ⟨qa, ?_⟩, fun hc => absurd hc (by omega)⟩
      simp only [Int.toNat_natCast]
      obtain ⟨w1, w2, w3⟩ := zRM_sr (zRM_scr (f := fun k => if k < 80 then zone k else ν 210 k) (i := 210) (by omega) hR1) (s := a) (by omega)
      simp only [zup_ne (Or.inl (show (205 : Nat) ≠ 203 by omega)), zup_eq, w1, w2, hn]
      have hR2 : zRM A (zup (zup (zua ν 210 (fun k => if k < 80 then zone k else ν 210 k)) 203 7 (-(A 1 a))) 203 8 (n : Int)) := zRM_slt (by omega) (zRM_slt (by omega) (zRM_scr (by omega) hR1))
      have r1 : ∀ (k : Nat), k < n → zup (zup (zua ν 210 (fun k => if k < 80 then zone k else ν 210 k)) 203 7 (-(A 1 a))) 203 8 (n : Int) 210 k = zone k := fun k hk => by rw [zup_ne (Or.inl (by omega)), zup_ne (Or.inl (by omega)), zua_eq, if_pos (by omega)]
      have r2' : ∀ (k : Nat), k < n → zup (zup (zua ν 210 (fun k => if k < 80 then zone k else ν 210 k)) 203 7 (-(A 1 a))) 203 8 (n : Int) 211 k = A (10 + a) k := fun k hk => by rw [zup_ne (Or.inl (by omega)), zup_ne (Or.inl (by omega)), zua_ne (by omega), r2 k hk]
      refine ok_X11_divides (N := n) rfl (by omega) zc_210 zc_211 (by omega) (by omega) (by omega) (by omega) (by omega) (zRM_p0 hR2) hp.1 (fun k hk => by rw [r1 k hk]; unfold zone; split <;> omega) (fun k hk => by rw [r2' k hk]; exact b3 k (by omega)) (by rw [r2' 0 (by omega)]; omega) ?_
      refine ok_X11_becomes (F := zdv (A 0 0) zone (A (10 + a))) hw (zRM_scr (by omega) hR2) (by omega) (by rw [zua_ne (by omega), zup_ne (Or.inr (by omega)), zup_eq]) (by rw [zua_ne (by omega), zup_eq]) (by omega) (fun k hk => ?_) (fun μ' hR' hk' => h.at rfl rfl hR' (hK1.trans ((zKc_scr (by omega)).trans (zKc_slt.trans (zKc_slt.trans ((zKc_scr (by omega)).trans hk'))))))
      rw [zua_eq, if_pos (by omega)]
      exact zdv_congr (n := n) hp.1 (by rw [r2' 0 (by omega)]; omega) (by rw [r2' 0 (by omega)]; omega) (by omega) (by omega) (fun i hi => by rw [r1 i (by omega)]) (fun i hi => by rw [r2' i (by omega)]) k (by omega)
    | succ m ih =>
      intro s hs
      have k2 := ih (s + 1) (by omega)
      rw [Int.natCast_add] at k2
      have key : ∀ v, v = zone s → at_X11_over_59 g φ (a : Int) (t : Int) ((s : Int) + 1) (zup (zua ν 210 (fun k => if k < s then zone k else ν 210 k)) 210 (s : Int).toNat v) := fun v hv => by
        rw [Int.toNat_natCast, zup_zua, zua_congr (h := fun k => if k < s + 1 then zone k else ν 210 k) (fun q => by
          by_cases hb : q = s
          · rw [if_pos hb, if_pos (by omega), hb, hv]
          · rw [if_neg hb]
            by_cases hc : q < s
            · rw [if_pos hc, if_pos (by omega)]
            · rw [if_neg hc, if_neg (by omega)])]
        exact k2
      exact sg_X11_over_59 ⟨by omega, fun hc => absurd hc (by omega), fun _ => ⟨fun hc => ⟨by omega, key 0 (by unfold zone; rw [if_neg (by omega)])⟩, fun hc => ⟨by omega, key 1 (by unfold zone; rw [if_pos (by omega)])⟩⟩⟩
  have k0 := loop 80 0 (by omega)
  rw [zua_self (fun b => if_neg (by omega))] at k0
  exact k0
end SR3
