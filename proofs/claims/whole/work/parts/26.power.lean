/-! SERIES: power -/
section POW
variable {g : zG} {μ A : zMu}
def zpw (p : Int) (f : Nat → Int) : Nat → Nat → Int
  | 0 => zone
  | m + 1 => fun k => zcv (zpw p f m) f k % p
theorem zpw_modp {p : Int} {f : Nat → Int} (hp : 2 ≤ p) (n : Nat) : ∀ m, zmodp p n (zpw p f m)
  | 0 => fun k _ => by
    show 0 ≤ zone k ∧ zone k < p
    unfold zone; split <;> omega
  | m + 1 => fun k _ => zemod_lt (by omega)
def st_power (A : zMu) (a m t : Int) : Int × zMu := if ¬ (0 ≤ a ∧ a < 6) ∨ ¬ (0 ≤ t ∧ t < 6) then (-1, A) else if ¬ (0 ≤ m ∧ m ≤ 9) then (-2, A) else if A 2 a.toNat = 0 then (-11, A) else if ¬ (-99 ≤ A 1 a.toNat * m ∧ A 1 a.toNat * m ≤ 99) then (-3, A) else (A 2 a.toNat, st_set A t.toNat (A 1 a.toNat * m) (A 2 a.toNat) (zpw (A 0 0) (A (10 + a.toNat)) m.toNat))
theorem wf_power (hw : zWF A) (a m t : Int) : zWF (st_power A a m t).2 := by
  unfold st_power
  have hp := zWF_p hw
  by_cases h1 : ¬ (0 ≤ a ∧ a < 6) ∨ ¬ (0 ≤ t ∧ t < 6)
  · rw [if_pos h1]; exact hw
  · rw [if_neg h1]
    by_cases h2 : ¬ (0 ≤ m ∧ m ≤ 9)
    · rw [if_pos h2]; exact hw
    · rw [if_neg h2]
      by_cases h3 : A 2 a.toNat = 0
      · rw [if_pos h3]; exact hw
      · rw [if_neg h3]
        by_cases h4 : ¬ (-99 ≤ A 1 a.toNat * m ∧ A 1 a.toNat * m ≤ 99)
        · rw [if_pos h4]; exact hw
        · rw [if_neg h4]
          obtain ⟨b1, b2, _⟩ := zWF_s hw (s := a.toNat) (by omega)
          exact zWF_set hw (by omega) (by omega) (by omega) (zpw_modp (by omega) _ _)
theorem cx_power {φ : Int → zMu → Prop} {a m t : Int} (hw : zWF A) (hR : zRC A μ) (ha : zR a) (hm : zR m) (ht : zR t) (h : zHc φ μ (st_power A a m t)) : zOi g zm_X10_power [.ref 0, .int (zJ a), .int (zJ m), .int (zJ t)] μ φ := by
  have hp := zWF_p hw
  have h1 : ¬ (0 ≤ a ∧ a < 6) ∨ ¬ (0 ≤ t ∧ t < 6) → φ (-1) μ := fun q => h.at (if_pos q) rfl hR (zKm.refl μ)
  have h2 : (0 ≤ a ∧ a < 6) ∧ (0 ≤ t ∧ t < 6) → ¬ (0 ≤ m ∧ m ≤ 9) → φ (-2) μ := fun q q2 => h.at ((if_neg (by omega)).trans (if_pos q2)) rfl hR (zKm.refl μ)
  refine sg_X10_power (ok_X10_isSeries ha (fun qa => ⟨by omega, fun hc => absurd hc (by omega), fun _ => ok_X10_isSeries ht (fun qt => ⟨by omega, fun _ => ⟨hm, fun _ => h2 ⟨qa, qt⟩ (by omega), fun _ => ⟨fun _ => ⟨qa, ?_⟩, fun _ => h2 ⟨qa, qt⟩ (by omega)⟩⟩, fun hc => absurd hc (by omega)⟩) (fun q => ⟨by omega, fun hc => absurd rfl hc, fun _ => h1 (by omega)⟩)⟩) (fun q => ⟨by omega, fun _ => h1 (by omega), fun hc => absurd rfl hc⟩))
  obtain ⟨a, rfl⟩ : ∃ q : Nat, a = q := ⟨a.toNat, by omega⟩
  obtain ⟨t, rfl⟩ : ∃ q : Nat, t = q := ⟨t.toNat, by omega⟩
  obtain ⟨M, rfl⟩ : ∃ q : Nat, m = q := ⟨m.toNat, by omega⟩
  unfold st_power at h
  rw [if_neg (by omega), if_neg (by omega)] at h
  simp only [Int.toNat_natCast] at h ⊢
  obtain ⟨s1, s2, s3⟩ := zRC_sr hR (s := a) (by omega)
  obtain ⟨b1, b2, b3⟩ := zWF_s hw (s := a) (by omega)
  have hb9 : -99 * 9 ≤ A 1 a * M ∧ A 1 a * M ≤ 99 * 9 := by
    have : M = 0 ∨ M = 1 ∨ M = 2 ∨ M = 3 ∨ M = 4 ∨ M = 5 ∨ M = 6 ∨ M = 7 ∨ M = 8 ∨ M = 9 := by omega
    rcases this with q | q | q | q | q | q | q | q | q | q <;> subst q <;> omega
  refine ok_X6_isMissing (zsr a (by omega)).1 (by omega) (fun m1 => ⟨by omega, fun _ => ?_, fun hc => absurd rfl hc⟩) (fun m1 => ⟨by omega, fun hc => absurd hc (by omega), fun _ => h.at (if_pos (by omega)) rfl hR (zKm.refl μ)⟩)
  rw [if_neg (by omega)] at h
  rw [s1]
  refine ok_X10_isTooFar (by omega) (fun q => ⟨by omega, fun _ => ⟨qt, ?_⟩, fun hc => absurd rfl hc⟩) (fun q => ⟨by omega, fun hc => absurd hc (by omega), fun _ => h.at (if_pos q) rfl hR (zKm.refl μ)⟩)
  rw [if_neg (by omega)] at h
  rw [zRC_p0 hR]
  refine sg_X7_makePower (zsr a (by omega)).1 (zsr t (by omega)).1 (sg_J7_fill zc_70 ?_)
  obtain ⟨n, hn⟩ : ∃ n : Nat, A 2 a = n := ⟨(A 2 a).toNat, by omega⟩
  rw [hn] at h b2 b3
  have loop : ∀ f s : Nat, s + f = M → ∀ ν, zRC A ν → zKm μ ν → (∀ (k : Nat), k < n → ν 70 k = zpw (A 0 0) (A (10 + a)) s k) → at_X7_makePower_18 g (fun μ20 => φ (μ20 (7 + 2 * t) 2) μ20) (7 + 2 * a) (M : Int) (7 + 2 * t) (A 0 0) (s : Int) ν := by
    intro f
    induction f with
    | zero =>
      intro s hs ν hν kν eν
      have e : s = M := by omega
      subst e
      obtain ⟨w1, w2, w3⟩ := zRC_sr hν (s := a) (by omega)
      refine sg_X7_makePower_18 (zsr a (by omega)).1 (zsr t (by omega)).1 ⟨by omega, by omega, fun _ => ?_, fun hc => absurd hc (by omega)⟩
      rw [w1, w2, hn]
      exact ok_become (F := zpw (A 0 0) (A (10 + a)) s) hν (by omega) (by omega) (fun k hk => eν k (by omega)) (fun μ' hR' hk' => h.at rfl (zRC_len hR' (by omega)) hR' (kν.trans hk'))
    | succ f ih =>
      intro s hs ν hν kν eν
      obtain ⟨w1, w2, w3⟩ := zRC_sr hν (s := a) (by omega)
      refine sg_X7_makePower_18 (zsr a (by omega)).1 (zsr t (by omega)).1 ⟨by omega, by omega, fun hc => absurd hc (by omega), fun _ => ?_⟩
      rw [w2, hn, show 7 + 2 * a + 1 = 8 + 2 * a by omega]
      refine ok_X10_multiply zc_70 (zsr a (by omega)).2 zc_71 (by omega) (by omega) (by omega) (by omega) (by omega) (by omega) (by omega) (by omega) (fun k hk => by rw [eν k (by omega)]; exact zpw_modp (by omega) n s k (by omega)) (fun k hk => by rw [w3 k (by omega)]; exact b3 k (by omega)) ⟨by omega, ?_⟩
      have := ih (s + 1) (by omega) (zcp (zua ν 71 (zmr (ν 70) (ν (8 + 2 * a)) (A 0 0) (n : Int).toNat 80 (ν 71))) 71 0 70 0 80) (zRC_scr (by omega) (zRC_scr (by omega) hν)) (kν.trans ((zKm_scr (by omega)).trans (zKm_scr (by omega)))) (fun k hk => by
        unfold zcp
        rw [zua_eq, if_pos (by omega), zua_eq, zmr, if_pos (by omega), show 0 + (k - 0) = k by omega]
        show _ = zcv (zpw (A 0 0) (A (10 + a)) s) (A (10 + a)) k % A 0 0
        rw [zcv_congr (fun i hi => eν i (by omega)) (fun i hi => w3 i (by omega))])
      rw [Int.natCast_add] at this
      exact this
  refine loop M 0 (by omega) _ (zRC_scp (by omega) (zRC_scr (by omega) hR)) ((zKm_scr (by omega)).trans (fun i hi => zup_nc (by omega))) (fun k hk => ?_)
  show _ = zone k
  unfold zone
  by_cases hk0 : k = 0
  · rw [if_pos hk0, hk0, zup_eq]
  · rw [if_neg hk0, zup_ne (Or.inr hk0), zua_eq, if_pos (by omega)]
theorem ok_X11_powers {φ : zMu → Prop} {a M n : Nat} {x : Int} (hx : x = n) (hw : zWF A) (hR : zRM A μ) (ha : a < 6) (hn : (n : Int) ≤ A 2 a) (hM : M ≤ 9)
    (h : ∀ μ', (∀ (i : Nat), i ≠ 209 → i ≠ 210 → i ≠ 211 → μ' i = μ i) → (∀ (k : Nat), k < n → μ' 209 k = zpw (A 0 0) (A (10 + a)) M k) → φ μ') : zOv g zm_X11_powers [.ref 203, .int (zJ (a : Int)), .int (zJ (M : Int)), .int (zJ x)] μ φ := by
  subst hx
  have hp := zWF_p hw
  obtain ⟨b1, b2, b3⟩ := zWF_s hw ha
  refine sg_X11_powers (ok_X11_lays (s := 80 * a) (by omega) zc_206 zc_211 (by omega) (by omega) (by omega) ?_)
  have l2 : ∀ f s : Nat, s + f = M → ∀ ν, (∀ (i : Nat), i ≠ 209 → i ≠ 210 → i ≠ 211 → ν i = μ i) → (∀ (k : Nat), k < n → ν 211 k = A (10 + a) k) → (∀ (k : Nat), k < n → ν 209 k = zpw (A 0 0) (A (10 + a)) s k) → at_X11_powers_51 g φ (M : Int) (n : Int) (s : Int) ν := by
    intro f
    induction f with
    | zero =>
      intro s hs ν fν rν eν
      have e : s = M := by omega
      subst e
      exact sg_X11_powers_51 ⟨by omega, by omega, fun _ => h ν fν eν, fun hc => absurd hc (by omega)⟩
    | succ f ih =>
      intro s hs ν fν rν eν
      refine sg_X11_powers_51 ⟨by omega, by omega, fun hc => absurd hc (by omega), fun _ => ok_X11_lays (s := 0) (by omega) zc_209 zc_210 (by omega) (by omega) (by omega) ?_⟩
      have hr : ∀ (k : Nat), k < n → zua ν 210 (fun k => if k < 80 then ν 209 (0 + k) else ν 210 k) 210 k = zpw (A 0 0) (A (10 + a)) s k := fun k hk => by
        rw [zua_eq, if_pos (by omega), Nat.zero_add, eν k hk]
      have hr2 : ∀ (k : Nat), k < n → zua ν 210 (fun k => if k < 80 then ν 209 (0 + k) else ν 210 k) 211 k = A (10 + a) k := fun k hk => by
        rw [zua_ne (by omega), rν k hk]
      refine ok_X11_multiplies (N := n) (p := A 0 0) rfl zc_210 zc_211 (by omega) (by omega) (by omega) (by omega) (by omega) (by rw [zua_ne (by omega), fν 203 (by omega) (by omega) (by omega)]; exact zRM_p0 hR) (by omega) (fun k hk => by rw [hr k hk]; exact zpw_modp (by omega) n s k hk) (fun k hk => by rw [hr2 k hk]; exact b3 k (by omega)) ?_
      have := ih (s + 1) (by omega) (zua (zua ν 210 (fun k => if k < 80 then ν 209 (0 + k) else ν 210 k)) 209 (fun k => if k < n then zcv (zua ν 210 (fun k => if k < 80 then ν 209 (0 + k) else ν 210 k) 210) (zua ν 210 (fun k => if k < 80 then ν 209 (0 + k) else ν 210 k) 211) k % A 0 0 else zua ν 210 (fun k => if k < 80 then ν 209 (0 + k) else ν 210 k) 209 k)) (fun i h1 h2 h3 => (zua_nc h1).trans ((zua_nc h2).trans (fν i h1 h2 h3))) (fun k hk => by rw [zua_ne (by omega)]; exact hr2 k hk) (fun k hk => by
        rw [zua_eq, if_pos hk]
        show _ = zcv (zpw (A 0 0) (A (10 + a)) s) (A (10 + a)) k % A 0 0
        rw [zcv_congr (fun i hi => hr i (by omega)) (fun i hi => hr2 i (by omega))])
      rw [Int.natCast_add] at this
      exact this
  have hr0 : ∀ (k : Nat), k < n → zua μ 211 (fun k => if k < 80 then μ 206 (80 * a + k) else μ 211 k) 211 k = A (10 + a) k := fun k hk => by
    rw [zua_eq, if_pos (by omega)]; exact (zRM_sr hR ha).2.2 k (by omega)
  have hf0 : ∀ (i : Nat), i ≠ 209 → i ≠ 210 → i ≠ 211 → zua μ 211 (fun k => if k < 80 then μ 206 (80 * a + k) else μ 211 k) i = μ i := fun i h1 h2 h3 => zua_nc h3
  generalize zua μ 211 (fun k => if k < 80 then μ 206 (80 * a + k) else μ 211 k) = ν at hr0 hf0 ⊢
  have l1 : ∀ m s : Nat, s + m = 80 → at_X11_powers_18 g φ (M : Int) (n : Int) (s : Int) (zua ν 209 (fun k => if k < s then zone k else ν 209 k)) := by
    intro m
    induction m with
    | zero =>
      intro s hs
      have e : s = 80 := by omega
      subst e
      refine sg_X11_powers_18 ⟨by omega, fun _ => ?_, fun hc => absurd hc (by omega)⟩
      exact l2 M 0 (by omega) _ (fun i h1 h2 h3 => (zua_nc h1).trans (hf0 i h1 h2 h3)) (fun k hk => by rw [zua_ne (by omega)]; exact hr0 k hk) (fun k hk => by rw [zua_eq, if_pos (by omega)]; rfl)
    | succ m ih =>
      intro s hs
      have k2 := ih (s + 1) (by omega)
      rw [Int.natCast_add] at k2
      have key : ∀ v, v = zone s → at_X11_powers_18 g φ (M : Int) (n : Int) ((s : Int) + 1) (zup (zua ν 209 (fun k => if k < s then zone k else ν 209 k)) 209 (s : Int).toNat v) := fun v hv => by
        rw [Int.toNat_natCast, zup_zua, zua_congr (h := fun k => if k < s + 1 then zone k else ν 209 k) (fun q => by
          by_cases hb : q = s
          · rw [if_pos hb, if_pos (by omega), hb, hv]
          · rw [if_neg hb]
            by_cases hc : q < s
            · rw [if_pos hc, if_pos (by omega)]
            · rw [if_neg hc, if_neg (by omega)])]
        exact k2
      exact sg_X11_powers_18 ⟨by omega, fun hc => absurd hc (by omega), fun _ => ⟨fun hc => ⟨by omega, key 0 (by unfold zone; rw [if_neg (by omega)])⟩, fun hc => ⟨by omega, key 1 (by unfold zone; rw [if_pos (by omega)])⟩⟩⟩
  have k0 := l1 80 0 (by omega)
  rw [zua_self (fun b => if_neg (by omega))] at k0
  exact k0
theorem mx_power {φ : Int → zMu → Prop} {a m t : Int} (hw : zWF A) (hR : zRM A μ) (ha : zR a) (hm : zR m) (ht : zR t) (h : zHm φ μ (st_power A a m t)) : zOi g zm_X11_power [.ref 203, .int (zJ a), .int (zJ m), .int (zJ t)] μ φ := by
  have hp := zWF_p hw
  have h1 : ¬ (0 ≤ a ∧ a < 6) ∨ ¬ (0 ≤ t ∧ t < 6) → φ (-1) μ := fun q => h.at (if_pos q) rfl hR (zKc.refl μ)
  have h2 : (0 ≤ a ∧ a < 6) ∧ (0 ≤ t ∧ t < 6) → ¬ (0 ≤ m ∧ m ≤ 9) → φ (-2) μ := fun q q2 => h.at ((if_neg (by omega)).trans (if_pos q2)) rfl hR (zKc.refl μ)
  refine sg_X11_power (ok_X11_isSeries ha (fun qa => ⟨by omega, fun hc => absurd hc (by omega), fun _ => ok_X11_isSeries ht (fun qt => ⟨by omega, fun _ => ⟨hm, ok_X11_in (by omega) (by omega) (by omega) (fun qm => ⟨by omega, fun _ => ?_, fun hc => absurd hc (by omega)⟩) (fun qm => ⟨by omega, fun hc => absurd rfl hc, fun _ => h2 ⟨qa, qt⟩ (by omega)⟩)⟩, fun hc => absurd hc (by omega)⟩) (fun q => ⟨by omega, fun hc => absurd rfl hc, fun _ => h1 (by omega)⟩)⟩) (fun q => ⟨by omega, fun _ => h1 (by omega), fun hc => absurd rfl hc⟩))
  obtain ⟨a, rfl⟩ : ∃ q : Nat, a = q := ⟨a.toNat, by omega⟩
  obtain ⟨t, rfl⟩ : ∃ q : Nat, t = q := ⟨t.toNat, by omega⟩
  obtain ⟨M, rfl⟩ : ∃ q : Nat, m = q := ⟨m.toNat, by omega⟩
  unfold st_power at h
  rw [if_neg (by omega), if_neg (by omega)] at h
  simp only [Int.toNat_natCast] at h ⊢
  obtain ⟨s1, s2, s3⟩ := zRM_sr hR (s := a) (by omega)
  obtain ⟨b1, b2, b3⟩ := zWF_s hw (s := a) (by omega)
  have hb9 : -99 * 9 ≤ A 1 a * M ∧ A 1 a * M ≤ 99 * 9 := by
    have : M = 0 ∨ M = 1 ∨ M = 2 ∨ M = 3 ∨ M = 4 ∨ M = 5 ∨ M = 6 ∨ M = 7 ∨ M = 8 ∨ M = 9 := by omega
    rcases this with q | q | q | q | q | q | q | q | q | q <;> subst q <;> omega
  refine ok_X11_isThere (by omega) (by omega) (fun m1 => ⟨by omega, fun _ => ⟨qa, ?_⟩, fun hc => absurd hc (by omega)⟩) (fun m1 => ⟨by omega, fun hc => absurd rfl hc, fun _ => h.at (if_pos (by omega)) rfl hR (zKc.refl μ)⟩)
  rw [if_neg (by omega)] at h
  rw [s1, Int.mul_comm (M : Int) (A 1 a)]
  refine ok_X11_isStart (by omega) (fun q => ⟨by omega, fun _ => ?_, fun hc => absurd hc (by omega)⟩) (fun q => ⟨by omega, fun hc => absurd rfl hc, fun _ => h.at (if_pos q) rfl hR (zKc.refl μ)⟩)
  rw [if_neg (by omega)] at h
  obtain ⟨n, hn⟩ : ∃ n : Nat, A 2 a = n := ⟨(A 2 a).toNat, by omega⟩
  rw [hn] at h b2 b3
  rw [zup_eq, zup_ne (μ := μ) (Or.inl (show 205 ≠ 203 by omega)), s1, s2, hn, Int.mul_comm (M : Int) (A 1 a)]
  have hR1 : zRM A (zup (zup μ 203 7 (A 1 a * M)) 203 8 (n : Int)) := zRM_slt (by omega) (zRM_slt (by omega) hR)
  refine ok_X11_powers (n := n) rfl hw hR1 (by omega) (by omega) (by omega) (fun μ' f1 f2 => ?_)
  have hR2 : zRM A μ' := zRM_s hR1 (fun j _ => by rw [f1 203 (by omega) (by omega) (by omega)]) (fun i hi => f1 i (by unfold zhM at hi; omega) (by unfold zhM at hi; omega) (by unfold zhM at hi; omega))
  have hK2 : zKc μ μ' := (zKc_slt.trans zKc_slt).trans (fun i hi => f1 i (by omega) (by omega) (by omega))
  exact ok_X11_becomes (F := zpw (A 0 0) (A (10 + a)) M) hw hR2 (by omega) (by rw [f1 203 (by omega) (by omega) (by omega), zup_ne (Or.inr (by omega)), zup_eq]) (by rw [f1 203 (by omega) (by omega) (by omega), zup_eq]) (by omega) (fun k hk => f2 k (by omega)) (fun μ2 hR' hk' => h.at rfl rfl hR' (hK2.trans hk'))
end POW
