/-! SERIES ONE BY ONE: tell, sum, stretch -/
section SER
variable {g : zG} {φ : Int → zMu → Prop} {μ A : zMu}
theorem zxor_neg {x y : Int} (hx : zR x) (hy : zR y) (h0 : 0 ≤ y) : zxor x y < 0 ↔ x < 0 := by
  have e1 : (zJ x).toBitVec.toInt = x := zJ_toInt hx
  have e2 : (zJ y).toBitVec.toInt = y := zJ_toInt hy
  have e3 : zxor x y = ((zJ x).toBitVec ^^^ (zJ y).toBitVec).toInt := rfl
  have m := BitVec.msb_xor (x := (zJ x).toBitVec) (y := (zJ y).toBitVec)
  rw [BitVec.msb_eq_toInt, BitVec.msb_eq_toInt, BitVec.msb_eq_toInt, ← e3, e1, e2, decide_eq_false (p := y < 0) (by omega), Bool.xor_false] at m
  exact decide_eq_decide.1 m
theorem ztm_neg {x p : Int} (hp : 0 < p) (h : x < 0) : -p < x.tmod p ∧ x.tmod p ≤ 0 := by
  have e : x.tmod p = -((-x).tmod p) := by rw [Int.neg_tmod, Int.neg_neg]
  have := zemod_lt (x := -x) hp
  rw [e, ztm (by omega)]
  omega
theorem ztm_emod {x p : Int} : x.tmod p % p = x % p := by
  rw [Int.tmod_def, Int.sub_mul_emod_self_left]
theorem zwh {x p : Int} (hp : 0 < p) : (x.tmod p + p).tmod p = x % p := by
  have h0 : 0 ≤ x.tmod p + p := by
    by_cases h : x < 0
    · have := ztm_neg hp h; omega
    · have := zemod_lt (x := x) hp
      rw [ztm (by omega)]; omega
  rw [ztm h0, Int.add_emod_right, ztm_emod]
theorem ok_floorMod {x p : Int} (hx : zR x) (hp : 0 < p ∧ p ≤ 199) (h : φ (x % p) μ) : zOi g zm_J9_floorMod_7cf53 [.int (zJ x), .int (zJ p)] μ φ := by
  have hn := zxor_neg hx (show zR p by omega) (by omega)
  have hzr : zR (zxor x p) := by
    unfold zxor
    have h1 := Int32.le_toInt (zJ x ^^^ zJ p)
    have h2 := Int32.toInt_le (zJ x ^^^ zJ p)
    exact ⟨h1, h2⟩
  refine sg_J9_floorMod_7cf53 ⟨hx, by omega, by omega, hzr, fun hc => ?_, fun hc => ?_⟩
  · rw [ztm (by omega)]; exact h
  · have hx0 := hn.1 hc
    have hb := ztm_neg (p := p) (by omega) hx0
    have hw := zwh (x := x) (p := p) (by omega)
    refine ⟨by omega, fun h0 => ?_, fun h0 => ?_⟩
    · rw [h0, Int.zero_add, ztm (by omega), Int.emod_self] at hw
      rw [h0, hw]; exact h
    · rw [ztm (by omega), Int.emod_eq_of_lt (by omega) (by omega)] at hw
      rw [hw]; exact h
def st_tell (A : zMu) (s l a : Int) : Int × zMu := if ¬ (0 ≤ s ∧ s < 6) ∨ ¬ (0 ≤ l ∧ l < 4) then (-1, A) else if ¬ (-99 ≤ a ∧ a ≤ 99) then (-2, A) else if A 44 l.toNat < 0 then (-11, A) else if A 44 l.toNat = 0 then (-3, A) else (A 44 l.toNat, st_set A s.toNat a (A 44 l.toNat) (fun k => A (45 + l.toNat) k % A 0 0))
theorem wf_tell (hw : zWF A) (s l a : Int) : zWF (st_tell A s l a).2 := by
  unfold st_tell
  have hp := zWF_p hw
  by_cases h1 : ¬ (0 ≤ s ∧ s < 6) ∨ ¬ (0 ≤ l ∧ l < 4)
  · rw [if_pos h1]; exact hw
  · rw [if_neg h1]
    by_cases h2 : ¬ (-99 ≤ a ∧ a ≤ 99)
    · rw [if_pos h2]; exact hw
    · rw [if_neg h2]
      by_cases h3 : A 44 l.toNat < 0
      · rw [if_pos h3]; exact hw
      · rw [if_neg h3]
        by_cases h4 : A 44 l.toNat = 0
        · rw [if_pos h4]; exact hw
        · rw [if_neg h4]
          have := hw.2.2.2.2 l.toNat (by omega)
          exact zWF_set hw (by omega) (by omega) (by omega) (fun k _ => zemod_lt (by omega))
theorem cx_tell {s l a : Int} (hw : zWF A) (hR : zRC A μ) (hs : zR s) (hl : zR l) (ha : zR a) (h : zHc φ μ (st_tell A s l a)) : zOi g zm_X10_tell [.ref 0, .int (zJ s), .int (zJ l), .int (zJ a)] μ φ := by
  have hp := zWF_p hw
  refine sg_X10_tell (ok_X10_isSeries hs (fun h1 => ⟨by omega, fun hc => absurd hc (by omega), fun _ => ok_X10_isList hl (fun h2 => ⟨by omega, fun _ => ok_X10_isTooFar ha (fun h3 => ⟨by omega, fun _ => ?_, fun hc => absurd rfl hc⟩) (fun h3 => ⟨by omega, fun hc => absurd hc (by omega), fun _ => h.at ((if_neg (by omega)).trans (if_pos h3)) rfl hR (zKm.refl μ)⟩), fun hc => absurd hc (by omega)⟩) (fun h2 => ⟨by omega, fun hc => absurd rfl hc, fun _ => h.at (if_pos (by omega)) rfl hR (zKm.refl μ)⟩)⟩) (fun h1 => ⟨by omega, fun _ => h.at (if_pos (by omega)) rfl hR (zKm.refl μ), fun hc => absurd rfl hc⟩))
  obtain ⟨t1, t2⟩ := hR.2.2.2.2.2 l.toNat (by omega)
  obtain ⟨b1, b2⟩ := hw.2.2.2.2 l.toNat (by omega)
  rw [t1]
  refine ⟨h2, by omega, fun _ => ⟨fun h4 => ⟨h1, ?_⟩, fun h4 => h.at ((if_neg (by omega)).trans ((if_neg (by omega)).trans ((if_neg (by omega)).trans (if_pos h4)))) rfl hR (zKm.refl μ)⟩, fun h4 => h.at ((if_neg (by omega)).trans ((if_neg (by omega)).trans (if_pos h4))) rfl hR (zKm.refl μ)⟩
  obtain ⟨n, hn⟩ : ∃ n : Nat, A 44 l.toNat = n := ⟨(A 44 l.toNat).toNat, by omega⟩
  rw [zRC_p0 hR, hn]
  refine sg_X7_reduce (zsr _ (by omega)).1 ?_
  have loop : ∀ m t : Nat, t + m = n → at_X7_reduce_3 g (fun μ15 => φ (n : Int) μ15) (198 + l.toNat) (7 + 2 * s.toNat) a (n : Int) (A 0 0) (t : Int) (zua μ 70 (fun k => if k < t then A (45 + l.toNat) k % A 0 0 else μ 70 k)) := by
    intro m
    induction m with
    | zero =>
      intro t ht
      have e : t = n := by omega
      subst e
      refine sg_X7_reduce_3 (zsr _ (by omega)).1 ⟨by omega, by omega, fun _ => ok_become (F := fun k => A (45 + l.toNat) k % A 0 0) (zRC_scr (by omega) hR) (by omega) (by omega) (fun k hk => by rw [zua_eq, if_pos (by omega)]) (fun μ' hR' hk' => ?_), fun hc => absurd hc (by omega)⟩
      exact h.at ((if_neg (by omega)).trans ((if_neg (by omega)).trans ((if_neg (by omega)).trans ((if_neg (by omega)).trans (by rw [hn]))))) rfl hR' ((zKm_scr (by omega)).trans hk')
    | succ m ih =>
      intro t ht
      have k2 := ih (t + 1) (by omega)
      rw [Int.natCast_add] at k2
      refine sg_X7_reduce_3 (zsr _ (by omega)).1 ⟨by omega, by omega, fun hc => absurd hc (by omega), fun _ => ⟨zIx_of (zsl _ (by omega)) (by omega) (by omega), ?_⟩⟩
      rw [Int.toNat_natCast, zua_ne (by omega), t2 t (by omega)]
      refine ok_floorMod (b2 t (by omega)) (by omega) ⟨by omega, ?_⟩
      rw [zup_zua, zua_congr (h := fun k => if k < t + 1 then A (45 + l.toNat) k % A 0 0 else μ 70 k) (fun b => by
        by_cases hb : b = t
        · rw [if_pos hb, if_pos (by omega), hb]
        · rw [if_neg hb]
          by_cases hc : b < t
          · rw [if_pos hc, if_pos (by omega)]
          · rw [if_neg hc, if_neg (by omega)])]
      exact k2
  have k0 := loop n 0 (by omega)
  rw [zua_self (fun b => if_neg (by omega))] at k0
  exact k0
theorem mx_tell {s l a : Int} (hw : zWF A) (hR : zRM A μ) (hs : zR s) (hl : zR l) (ha : zR a) (h : zHm φ μ (st_tell A s l a)) : zOi g zm_X11_tell [.ref 203, .int (zJ s), .int (zJ l), .int (zJ a)] μ φ := by
  have hp := zWF_p hw
  refine sg_X11_tell (ok_X11_isSeries hs (fun h1 => ⟨by omega, fun hc => absurd hc (by omega), fun _ => ok_X11_isList hl (fun h2 => ⟨by omega, fun _ => ok_X11_isStart ha (fun h3 => ⟨by omega, fun _ => ?_, fun hc => absurd hc (by omega)⟩) (fun h3 => ⟨by omega, fun hc => absurd rfl hc, fun _ => h.at ((if_neg (by omega)).trans (if_pos h3)) rfl hR (zKc.refl μ)⟩), fun hc => absurd hc (by omega)⟩) (fun h2 => ⟨by omega, fun hc => absurd rfl hc, fun _ => h.at (if_pos (by omega)) rfl hR (zKc.refl μ)⟩)⟩) (fun h1 => ⟨by omega, fun _ => h.at (if_pos (by omega)) rfl hR (zKc.refl μ), fun hc => absurd rfl hc⟩))
  obtain ⟨s, rfl⟩ : ∃ q : Nat, s = q := ⟨s.toNat, by omega⟩
  obtain ⟨l, rfl⟩ : ∃ q : Nat, l = q := ⟨l.toNat, by omega⟩
  obtain ⟨t1, t2⟩ := hR.2.2.2.2.1 l (by omega)
  obtain ⟨b1, b2⟩ := hw.2.2.2.2 l (by omega)
  unfold st_tell at h
  rw [if_neg (by omega), if_neg (by omega), Int.toNat_natCast, Int.toNat_natCast] at h
  rw [Int.toNat_natCast, t1]
  refine ⟨h2, by omega, fun _ => ⟨fun h4 => ?_, fun h4 => h.at ((if_neg (by omega)).trans (if_pos h4)) rfl hR (zKc.refl μ)⟩, fun h4 => h.at (if_pos h4) rfl hR (zKc.refl μ)⟩
  rw [if_neg (by omega), if_neg (by omega)] at h
  rw [zup_ne (μ := μ) (Or.inl (show 229 ≠ 203 by omega)), t1]
  obtain ⟨n, hn⟩ : ∃ n : Nat, A 44 l = n := ⟨(A 44 l).toNat, by omega⟩
  rw [hn] at h ⊢
  have hR1 : zRM A (zup (zup μ 203 7 a) 203 8 (n : Int)) := zRM_slt (by omega) (zRM_slt (by omega) hR)
  have hK1 : zKc μ (zup (zup μ 203 7 a) 203 8 (n : Int)) := zKc_slt.trans zKc_slt
  have e7 : ∀ f, zua (zup (zup μ 203 7 a) 203 8 (n : Int)) 209 f 203 7 = a := fun f => by rw [zua_ne (by omega), zup_ne (Or.inr (by omega)), zup_eq]
  have e8 : ∀ f, zua (zup (zup μ 203 7 a) 203 8 (n : Int)) 209 f 203 8 = n := fun f => by rw [zua_ne (by omega), zup_eq]
  generalize zup (zup μ 203 7 a) 203 8 (n : Int) = ν at hR1 hK1 e7 e8 ⊢
  have loop : ∀ m t : Nat, t + m = n → at_X11_tell_68 g φ (s : Int) (l : Int) (t : Int) (zua ν 209 (fun k => if k < t then A (45 + l) k % A 0 0 else ν 209 k)) := by
    intro m
    induction m with
    | zero =>
      intro t ht
      have e : t = n := by omega
      subst e
      refine sg_X11_tell_68 ⟨by omega, by rw [e8]; omega, fun _ => ok_X11_becomes (F := fun k => A (45 + l) k % A 0 0) hw (zRM_scr (by omega) hR1) (by omega) (e7 _) (e8 _) (by omega) (fun k hk => by rw [zua_eq, if_pos (by omega)]) (fun μ' hR' hk' => ?_), fun hc => absurd hc (by rw [e8]; omega)⟩
      exact h.at rfl rfl hR' (hK1.trans ((zKc_scr (by omega)).trans hk'))
    | succ m ih =>
      intro t ht
      have k2 := ih (t + 1) (by omega)
      rw [Int.natCast_add] at k2
      obtain ⟨u1, u2⟩ := (zRM_scr (f := fun k => if k < t then A (45 + l) k % A 0 0 else ν 209 k) (i := 209) (by omega) hR1).2.2.2.2.1 l (by omega)
      refine sg_X11_tell_68 ⟨by omega, by rw [e8]; omega, fun hc => absurd hc (by rw [e8]; omega), fun _ => ⟨by omega, ?_⟩⟩
      rw [show Int.toNat (80 * (l : Int) + (t : Int)) = 80 * l + t by omega, u2 t (by omega)]
      have hv := b2 t (by omega)
      refine ⟨hv, sg_X11_whole ?_⟩
      rw [zRM_p0 (zRM_scr (by omega) hR1)]
      have hb : -199 < (A (45 + l) t).tmod (A 0 0) ∧ (A (45 + l) t).tmod (A 0 0) < 199 := by
        by_cases hc : A (45 + l) t < 0
        · have := ztm_neg (x := A (45 + l) t) (p := A 0 0) (by omega) hc; omega
        · have := zemod_lt (x := A (45 + l) t) (p := A 0 0) (by omega)
          rw [ztm (by omega)]; omega
      rw [zwh (by omega)]
      refine ⟨by omega, by omega, by omega, by omega, by omega, by omega, ?_⟩
      rw [Int.toNat_natCast, zup_zua, zua_congr (h := fun k => if k < t + 1 then A (45 + l) k % A 0 0 else ν 209 k) (fun b => by
        by_cases hb : b = t
        · rw [if_pos hb, if_pos (by omega), hb]
        · rw [if_neg hb]
          by_cases hc : b < t
          · rw [if_pos hc, if_pos (by omega)]
          · rw [if_neg hc, if_neg (by omega)])]
      exact k2
  have k0 := loop n 0 (by omega)
  rw [zua_self (fun b => if_neg (by omega))] at k0
  exact k0
end SER
