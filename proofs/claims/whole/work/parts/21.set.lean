/-! A SERIES IS SET: what both sides do behind a result; tell, sum, stretch -/
section SET
variable {g : zG} {μ A : zMu}
def st_set (A : zMu) (s : Nat) (a n : Int) (F : Nat → Int) : zMu := zup (zup (zua A (10 + s) F) 1 s a) 2 s n
theorem st_set_1 {s q : Nat} {a n : Int} {F : Nat → Int} : st_set A s a n F 1 q = if q = s then a else A 1 q := by
  unfold st_set
  rw [zup_ne (Or.inl (by omega))]
  by_cases h : q = s
  · rw [if_pos h, h, zup_eq]
  · rw [if_neg h, zup_ne (Or.inr h), zua_ne (by omega)]
theorem st_set_2 {s q : Nat} {a n : Int} {F : Nat → Int} : st_set A s a n F 2 q = if q = s then n else A 2 q := by
  unfold st_set
  by_cases h : q = s
  · rw [if_pos h, h, zup_eq]
  · rw [if_neg h, zup_ne (Or.inr h), zup_ne (Or.inl (by omega)), zua_ne (by omega)]
theorem st_set_r {s q : Nat} {a n : Int} {F : Nat → Int} : st_set A s a n F (10 + q) = if q = s then F else A (10 + q) := by
  unfold st_set
  rw [zup_nc (by omega), zup_nc (by omega)]
  by_cases h : q = s
  · rw [if_pos h, h, zua_row]
  · rw [if_neg h, zua_nc (by omega)]
theorem st_set_o {s i : Nat} {a n : Int} {F : Nat → Int} (h1 : i ≠ 1) (h2 : i ≠ 2) (h3 : i ≠ 10 + s) : st_set A s a n F i = A i := by
  unfold st_set
  rw [zup_nc h2, zup_nc h1, zua_nc h3]
theorem zWF_set {s : Nat} {a n : Int} {F : Nat → Int} (hw : zWF A) (hs : s < 6) (ha : -99 ≤ a ∧ a ≤ 99) (hn : 0 ≤ n ∧ n ≤ 80) (hF : zmodp (A 0 0) n.toNat F) : zWF (st_set A s a n F) := by
  obtain ⟨h1, h2, h3, h4, h5, h6⟩ := hw.1
  rw [Nat.zero_add] at h2 h3 h4 h5 h6
  refine zWF_n hw (fun i hi => st_set_o (by omega) (by omega) (by omega)) ⟨?_, fun q hq => ?_, ?_, ?_, fun q hq => ?_, ?_⟩
  · rw [st_set_o (by omega) (by omega) (by omega)]; exact h1
  · rw [st_set_o (i := 0) (by omega) (by omega) (by omega), Nat.zero_add, Nat.zero_add, Nat.zero_add, st_set_1, st_set_2, st_set_r]
    by_cases hh : q = s
    · rw [if_pos hh, if_pos hh, if_pos hh]; exact ⟨ha, hn, hF⟩
    · rw [if_neg hh, if_neg hh, if_neg hh]
      exact zWF_s hw hq
  · rw [Nat.zero_add, st_set_o (by omega) (by omega) (by omega)]; exact h3
  · rw [Nat.zero_add, Nat.zero_add, st_set_o (i := 3) (by omega) (by omega) (by omega), st_set_o (i := 4) (by omega) (by omega) (by omega), st_set_o (i := 0) (by omega) (by omega) (by omega)]; exact h4
  · rw [Nat.zero_add, Nat.zero_add, Nat.zero_add, st_set_o (i := 5) (by omega) (by omega) (by omega), st_set_o (i := 6) (by omega) (by omega) (by omega), st_set_o (i := 20 + q) (by omega) (by omega) (by omega)]; exact zWF_k hw hq
  · rw [Nat.zero_add, st_set_o (i := 5) (by omega) (by omega) (by omega)]; exact h6
theorem zRC_scr {i : Nat} {f : Nat → Int} (hi : 69 ≤ i ∧ i ≤ 182) (hR : zRC A μ) : zRC A (zua μ i f) := zRC_s hR (fun j hj k _ => zua_ne (by omega))
theorem zRC_scp {i j : Nat} {v : Int} (hi : 69 ≤ i ∧ i ≤ 182) (hR : zRC A μ) : zRC A (zup μ i j v) := zRC_s hR (fun j hj k _ => zup_ne (Or.inl (by omega)))
theorem zKm_scr {i : Nat} {f : Nat → Int} (hi : i < 190) : zKm μ (zua μ i f) := fun j hj => zua_nc (by omega)
theorem zRM_scr {i : Nat} {f : Nat → Int} (hi : (209 ≤ i ∧ i ≤ 222) ∨ i = 226 ∨ i = 227) (hR : zRM A μ) : zRM A (zua μ i f) := zRM_s hR (fun j hj => zua_ne (by omega)) (fun j hj => zua_nc (by unfold zhM at hj; omega))
theorem zRM_slt {j : Nat} {v : Int} (hj : j = 7 ∨ j = 8 ∨ j = 32 ∨ j = 37 ∨ (14 ≤ j ∧ j ≤ 28)) (hR : zRM A μ) : zRM A (zup μ 203 j v) := zRM_s hR (fun k hk => zup_ne (Or.inr (by unfold zhS at hk; omega))) (fun k hk => zup_nc (by unfold zhM at hk; omega))
theorem zKc_scr {i : Nat} {f : Nat → Int} (hi : 203 ≤ i ∧ i ≠ 226) : zKc μ (zua μ i f) := fun j hj => zua_nc (by omega)
theorem zKc_slt {j : Nat} {v : Int} : zKc μ (zup μ 203 j v) := fun k hk => zup_nc (by omega)
theorem ok_become {φ : zMu → Prop} {s : Nat} {a n : Int} {F : Nat → Int} (hR : zRC A μ) (hs : s < 6) (hn : 0 ≤ n ∧ n ≤ 80) (hF : ∀ (k : Nat), (k : Int) < n → μ 70 k = F k) (h : ∀ μ', zRC (st_set A s a n F) μ' → zKm μ μ' → φ μ') : zOv g zm_X6_become [.ref (7 + 2 * s), .int (zJ a), .int (zJ n), .ref 70] μ φ := by
  refine sg_X6_become (zsr s hs).1 ⟨⟨80, 80, zc_70, by rw [show 7 + 2 * s + 1 = 8 + 2 * s by omega]; exact (zsr s hs).2, by omega, by omega, by omega, by omega, by omega⟩, ?_⟩
  unfold zcp
  rw [show 7 + 2 * s + 1 = 8 + 2 * s by omega]
  have hout : ∀ (i : Nat), i ≠ 7 + 2 * s → i ≠ 8 + 2 * s → ∀ f, zua (zup (zup μ (7 + 2 * s) 1 a) (7 + 2 * s) 2 n) (8 + 2 * s) f i = μ i := fun i h1 h2 f => by rw [zua_nc h2, zup_nc h1, zup_nc h1]
  refine h _ (zRC_n hR (fun i hi => st_set_o (by omega) (by omega) (by omega)) (fun i hi => hout i (by omega) (by omega) _) ⟨?_, fun q hq => ?_, ?_, fun q hq => ?_⟩ (zRg_keep (st_set_o (by omega) (by omega) (by omega)) (st_set_o (by omega) (by omega) (by omega)) (st_set_o (by omega) (by omega) (by omega)) (hout _ (by omega) (by omega) _) (hout _ (by omega) (by omega) _) hR.2.2.1)) (fun i hi => hout i (by omega) (by omega) _)
  · rw [hout 1 (by omega) (by omega), st_set_o (by omega) (by omega) (by omega)]; exact hR.1.1
  · unfold zCs
    rw [Nat.zero_add, Nat.zero_add, Nat.zero_add, st_set_1, st_set_2, st_set_r, show 1 + 6 + 2 * q = 7 + 2 * q by omega, show 1 + 7 + 2 * q = 8 + 2 * q by omega]
    by_cases hh : q = s
    · subst hh
      rw [if_pos rfl, if_pos rfl, if_pos rfl]
      refine ⟨by rw [zua_ne (by omega), zup_ne (Or.inr (by omega)), zup_eq], by rw [zua_ne (by omega), zup_eq], fun k hk => ?_⟩
      rw [zua_eq, if_pos (by omega), zup_ne (Or.inl (by omega)), zup_ne (Or.inl (by omega)), Nat.zero_add, Nat.sub_zero]
      exact hF k hk
    · rw [if_neg hh, if_neg hh, if_neg hh, hout _ (by omega) (by omega), hout _ (by omega) (by omega)]
      exact zRC_sr hR hq
  · unfold zCe
    rw [hout _ (by omega) (by omega), hout _ (by omega) (by omega), st_set_o (by omega) (by omega) (by omega), st_set_o (by omega) (by omega) (by omega)]
    exact hR.1.2.2.1
  · unfold zCk
    rw [hout _ (by omega) (by omega), hout _ (by omega) (by omega), hout _ (by omega) (by omega), st_set_o (by omega) (by omega) (by omega), st_set_o (by omega) (by omega) (by omega), st_set_o (by omega) (by omega) (by omega)]
    exact hR.1.2.2.2 q hq
theorem zRC_len {s : Nat} {a n : Int} {F : Nat → Int} (hR : zRC (st_set A s a n F) μ) (hs : s < 6) : μ (7 + 2 * s) 2 = n := by
  rw [(zRC_sr hR hs).2.1, st_set_2, if_pos rfl]
theorem ok_X11_becomes {φ : Int → zMu → Prop} {s : Nat} {a n : Int} {F : Nat → Int} (hw : zWF A) (hR : zRM A μ) (hs : s < 6) (h7 : μ 203 7 = a) (h8 : μ 203 8 = n) (hn : 0 ≤ n ∧ n ≤ 80) (hF : ∀ (k : Nat), (k : Int) < n → μ 209 k = F k) (h : ∀ μ', zRM (st_set A s a n F) μ' → zKc μ μ' → φ n μ') : zOi g zm_X11_becomes [.ref 203, .int (zJ (s : Int))] μ φ := by
  refine sg_X11_becomes ⟨by omega, ?_⟩
  rw [Int.toNat_natCast]
  have e8 : (zup μ 204 s (μ 203 7)) 203 8 = n := by rw [zup_ne (Or.inl (by omega)), h8]
  rw [e8, h7]
  have loop : ∀ m t : Nat, t + m = 80 → at_X11_becomes_22 g φ (s : Int) (t : Int) (zua (zup (zup μ 204 s a) 205 s n) 206 (fun k => if 80 * s ≤ k ∧ k < 80 * s + t then (if ((k - 80 * s : Nat) : Int) < n then F (k - 80 * s) else 0) else μ 206 k)) := by
    intro m
    induction m with
    | zero =>
      intro t ht
      have e : t = 80 := by omega
      subst e
      have hout : ∀ (i : Nat), i ≠ 204 → i ≠ 205 → i ≠ 206 → ∀ f, zua (zup (zup μ 204 s a) 205 s n) 206 f i = μ i := fun i h1 h2 h3 f => by rw [zua_nc h3, zup_nc h2, zup_nc h1]
      refine sg_X11_becomes_22 ⟨by omega, fun _ => ?_, fun hc => absurd hc (by omega)⟩
      rw [hout 203 (by omega) (by omega) (by omega), h8]
      refine h _ (zRM_n hR (fun i hi => st_set_o (by omega) (by omega) (by omega)) (fun j _ _ _ => by rw [hout 203 (by omega) (by omega) (by omega)]) (fun i hi hi2 => hout i (by omega) (by omega) (by omega) _) ⟨?_, fun q hq => ?_, ?_, ?_, fun q hq => ?_⟩) (fun i hi => hout i (by omega) (by omega) (by omega) _)
      · rw [hout 203 (by omega) (by omega) (by omega), st_set_o (by omega) (by omega) (by omega)]; exact hR.1.1
      · rw [Nat.zero_add, Nat.zero_add, Nat.zero_add, st_set_1, st_set_2, st_set_r]
        obtain ⟨t1, t2, t3⟩ := zRM_sr hR hq
        by_cases hh : q = s
        · subst hh
          rw [if_pos rfl, if_pos rfl, if_pos rfl]
          refine ⟨by rw [zua_ne (by omega), zup_ne (Or.inl (by omega)), zup_eq], by rw [zua_ne (by omega), zup_eq], fun k hk => ?_⟩
          rw [zua_eq, if_pos (by omega), if_pos (by omega), show 80 * q + k - 80 * q = k by omega]
        · rw [if_neg hh, if_neg hh, if_neg hh]
          refine ⟨by rw [zua_ne (by omega), zup_ne (Or.inl (by omega)), zup_ne (Or.inr hh)]; exact t1, by rw [zua_ne (by omega), zup_ne (Or.inr hh), zup_ne (Or.inl (by omega))]; exact t2, fun k hk => ?_⟩
          have hb := (zWF_s hw hq).2.1
          rw [zua_eq, if_neg (by omega)]
          exact t3 k hk
      · rw [hout 203 (by omega) (by omega) (by omega), Nat.zero_add, st_set_o (by omega) (by omega) (by omega)]; exact zRM_d hR
      · rw [Nat.zero_add, Nat.zero_add, hout 207 (by omega) (by omega) (by omega), st_set_o (by omega) (by omega) (by omega), st_set_o (by omega) (by omega) (by omega)]; exact hR.1.2.2.2.1
      · rw [Nat.zero_add, Nat.zero_add, Nat.zero_add, hout 208 (by omega) (by omega) (by omega), st_set_o (by omega) (by omega) (by omega), st_set_o (by omega) (by omega) (by omega), st_set_o (by omega) (by omega) (by omega)]; exact zRM_k hR hq
    | succ m ih =>
      intro t ht
      have k2 := ih (t + 1) (by omega)
      rw [Int.natCast_add] at k2
      have hm8 : ∀ f, zua (zup (zup μ 204 s a) 205 s n) 206 f 203 8 = n := fun f => by rw [zua_ne (by omega), zup_ne (Or.inl (by omega)), zup_ne (Or.inl (by omega)), h8]
      have hstep : ∀ v, v = (if (t : Int) < n then F t else 0) → (zup (zua (zup (zup μ 204 s a) 205 s n) 206 (fun k => if 80 * s ≤ k ∧ k < 80 * s + t then (if ((k - 80 * s : Nat) : Int) < n then F (k - 80 * s) else 0) else μ 206 k)) 206 (Int.toNat (80 * (s : Int) + (t : Int))) v) = zua (zup (zup μ 204 s a) 205 s n) 206 (fun k => if 80 * s ≤ k ∧ k < 80 * s + (t + 1) then (if ((k - 80 * s : Nat) : Int) < n then F (k - 80 * s) else 0) else μ 206 k) := fun v hv => by
        rw [show Int.toNat (80 * (s : Int) + (t : Int)) = 80 * s + t by omega, zup_zua]
        refine zua_congr (fun b => ?_)
        by_cases hb : b = 80 * s + t
        · rw [if_pos hb, if_pos (by omega), hb, show 80 * s + t - 80 * s = t by omega]; exact hv
        · rw [if_neg hb]
          by_cases hc : 80 * s ≤ b ∧ b < 80 * s + t
          · rw [if_pos hc, if_pos (show 80 * s ≤ b ∧ b < 80 * s + (t + 1) by omega)]
          · rw [if_neg hc, if_neg (show ¬ (80 * s ≤ b ∧ b < 80 * s + (t + 1)) by omega)]
      refine sg_X11_becomes_22 ⟨by omega, fun hc => absurd hc (by omega), fun _ => ?_⟩
      rw [hm8]
      refine ⟨by omega, fun hq => ⟨by omega, ?_⟩, fun hq => ⟨by omega, by omega, ?_⟩⟩
      · rw [hstep _ (by rw [if_neg (by omega)])]; exact k2
      · rw [hstep _ (by rw [if_pos hq, Int.toNat_natCast, zua_ne (by omega), zup_ne (Or.inl (by omega)), zup_ne (Or.inl (by omega)), hF t hq])]; exact k2
  have k0 := loop 80 0 (by omega)
  rw [zua_self (fun b => by rw [if_neg (by omega), zup_ne (Or.inl (by omega)), zup_ne (Or.inl (by omega))])] at k0
  exact k0
end SET
