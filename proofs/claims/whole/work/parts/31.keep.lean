/-! KEEP AND DROP -/
section KEE
variable {g : zG} {φ : Int → zMu → Prop} {μ A : zMu}
def zhs (A : zMu) (k : Nat) : Nat → Bool
  | 0 => false
  | n + 1 => zhs A k n || decide (n ≠ k ∧ A 5 n = A 0 0)
theorem zhs_iff {k : Nat} : ∀ {n : Nat}, zhs A k n = true ↔ ∃ q, q < n ∧ q ≠ k ∧ A 5 q = A 0 0
  | 0 => ⟨fun h => absurd h Bool.false_ne_true, fun ⟨_, h, _⟩ => absurd h (by omega)⟩
  | n + 1 => by
    rw [zhs, Bool.or_eq_true, decide_eq_true_eq, zhs_iff]
    constructor
    · rintro (⟨q, h1, h2⟩ | h)
      · exact ⟨q, by omega, h2⟩
      · exact ⟨n, by omega, h⟩
    · rintro ⟨q, h1, h2, h3⟩
      by_cases e : q = n
      · exact Or.inr (e ▸ ⟨h2, h3⟩)
      · exact Or.inl ⟨q, by omega, h2, h3⟩
def zkeep (A : zMu) (k : Nat) : zMu := zua (zup (zup A 5 k (A 0 0)) 6 k (A 3 0)) (20 + k) (A 4)
def st_keep (A : zMu) (k : Int) : Int × zMu := if ¬ (0 ≤ k ∧ k < 8) then (-1, A) else if A 3 0 = 0 then (-11, A) else if zhs A k.toNat 8 = true then (-3, A) else (zkc (zkeep A k.toNat), zkeep A k.toNat)
theorem zkeep_o {k i : Nat} (h5 : i ≠ 5) (h6 : i ≠ 6) (h : i ≠ 20 + k) : zkeep A k i = A i := by
  unfold zkeep
  rw [zua_nc h, zup_nc h6, zup_nc h5]
theorem zkeep_5 {k q : Nat} : zkeep A k 5 q = if q = k then A 0 0 else A 5 q := by
  unfold zkeep
  rw [zua_ne (by omega), zup_ne (Or.inl (by omega))]
  by_cases h : q = k
  · rw [if_pos h, h, zup_eq]
  · rw [if_neg h, zup_ne (Or.inr h)]
theorem zkeep_6 {k q : Nat} : zkeep A k 6 q = if q = k then A 3 0 else A 6 q := by
  unfold zkeep
  rw [zua_ne (by omega)]
  by_cases h : q = k
  · rw [if_pos h, h, zup_eq]
  · rw [if_neg h, zup_ne (Or.inr h), zup_ne (Or.inl (by omega))]
theorem zkeep_r {k q : Nat} : zkeep A k (20 + q) = if q = k then A 4 else A (20 + q) := by
  unfold zkeep
  by_cases h : q = k
  · rw [if_pos h, h, zua_row]
  · rw [if_neg h, zua_nc (by omega), zup_nc (by omega), zup_nc (by omega)]
theorem zWF_u (hw : zWF A) {q r : Nat} (hq : q < 8) (hr : r < 8) (h0 : A 5 q ≠ 0) (e : A 5 q = A 5 r) : q = r := hw.1.2.2.2.2.2 q r hq hr h0 e
theorem wf_zkeep (hw : zWF A) {k : Nat} (hk : k < 8) (hd : A 3 0 ≠ 0) (hn : ¬ zhs A k 8 = true) : zWF (zkeep A k) := by
  have hp := zWF_p hw
  have hd2 := zWF_d hw
  have he := zWF_e hw hd
  refine zWF_n hw (fun i hi => zkeep_o (by omega) (by omega) (by omega)) ⟨?_, fun s hs => ?_, ?_, ?_, fun q hq => ?_, fun q r hq hr => ?_⟩
  · rw [zkeep_o (by omega) (by omega) (by omega)]; exact hp.1
  · rw [zkeep_o (i := 0) (by omega) (by omega) (by omega), Nat.zero_add, Nat.zero_add, Nat.zero_add, zkeep_o (i := 1) (by omega) (by omega) (by omega), zkeep_o (i := 2) (by omega) (by omega) (by omega), zkeep_o (i := 10 + s) (by omega) (by omega) (by omega)]
    exact zWF_s hw hs
  · rw [Nat.zero_add, zkeep_o (by omega) (by omega) (by omega)]; exact hd2
  · rw [Nat.zero_add, Nat.zero_add, zkeep_o (i := 3) (by omega) (by omega) (by omega), zkeep_o (i := 4) (by omega) (by omega) (by omega), zkeep_o (i := 0) (by omega) (by omega) (by omega)]
    exact fun _ => he
  · rw [Nat.zero_add, Nat.zero_add, Nat.zero_add, zkeep_5, zkeep_6, zkeep_r]
    by_cases h : q = k
    · rw [if_pos h, if_pos h, if_pos h]
      exact Or.inr ⟨hp.1, by omega, he.1, he.2⟩
    · rw [if_neg h, if_neg h, if_neg h]
      exact zWF_k hw hq
  · rw [Nat.zero_add, zkeep_5, zkeep_5]
    intro h0 e
    rw [zhs_iff] at hn
    by_cases h : q = k
    · by_cases h' : r = k
      · rw [h, h']
      · rw [if_pos h, if_neg h'] at e
        exact absurd ⟨r, hr, h', e.symm⟩ hn
    · rw [if_neg h] at h0 e
      by_cases h' : r = k
      · rw [if_pos h'] at e
        exact absurd ⟨q, hq, h, e⟩ hn
      · rw [if_neg h'] at e
        exact zWF_u hw hq hr h0 e
theorem wf_keep (hw : zWF A) (k : Int) : zWF (st_keep A k).2 := by
  unfold st_keep
  by_cases h1 : ¬ (0 ≤ k ∧ k < 8)
  · rw [if_pos h1]; exact hw
  · rw [if_neg h1]
    by_cases h2 : A 3 0 = 0
    · rw [if_pos h2]; exact hw
    · rw [if_neg h2]
      by_cases h3 : zhs A k.toNat 8 = true
      · rw [if_pos h3]; exact hw
      · rw [if_neg h3]; exact wf_zkeep hw (by omega) h2 h3
theorem ok_X0_placeOf (hw : zWF A) (hR : zRC A μ) (h : ∀ r : Int, (r = -1 ∧ (∀ q, q < 8 → A 5 q ≠ A 0 0)) ∨ (∃ q : Nat, q < 8 ∧ r = q ∧ A 5 q = A 0 0) → φ r μ) : zOi g zm_X0_placeOf [.ref 1, .int (zJ (A 0 0))] μ φ := by
  have hp := zWF_p hw
  refine sg_X0_placeOf zc_1 ?_
  have loop : ∀ m t : Nat, t + m = 8 → (∀ q, q < t → A 5 q ≠ A 0 0) → at_X0_placeOf_2 g φ 1 (A 0 0) (t : Int) μ := by
    intro m
    induction m with
    | zero =>
      intro t ht hn
      have e : t = 8 := by omega
      subst e
      exact sg_X0_placeOf_2 zc_1 ⟨by omega, fun _ => h _ (Or.inl ⟨rfl, hn⟩), fun hc => absurd hc (by omega)⟩
    | succ m ih =>
      intro t ht hn
      have t1 := zRC_k hR (q := t) (by omega)
      have hb := zWF_k hw (q := t) (by omega)
      have hb0 := zWF_k0 hw (q := t) (by omega)
      have next : A 5 t ≠ A 0 0 → at_X0_placeOf_2 g φ 1 (A 0 0) ((t : Int) + 1) μ := fun hne => by
        have := ih (t + 1) (by omega) (fun q hq => by
          by_cases e : q = t
          · rw [e]; exact hne
          · exact hn q (by omega))
        rw [Int.natCast_add] at this
        exact this
      refine sg_X0_placeOf_2 zc_1 ⟨by omega, fun hc => absurd hc (by omega), fun _ => ⟨by omega, ?_⟩⟩
      rw [Int.toNat_natCast, show 1 + 18 + 2 * t = 19 + 2 * t by omega]
      rcases t1 with q | q
      · exact ok_X3_isMissing (zsk t (by omega)).1 (by omega) (fun q2 => absurd q.2 q2) (fun _ => ⟨by omega, fun _ => next (by omega), fun hc => absurd hc (by omega)⟩)
      · have b := (hb.resolve_left q.1).2.1
        refine ok_X3_isMissing (zsk t (by omega)).1 (by omega) (fun _ => ⟨by omega, fun hc => absurd rfl hc, fun _ => ?_⟩) (fun q2 => by omega)
        rw [show 1 + 5 = 6 from rfl, q.2.2.1]
        exact ⟨by omega, by omega, next, fun e => h _ (Or.inr ⟨t, by omega, rfl, e⟩)⟩
  exact loop 8 0 (by omega) (fun q hq => absurd hq (by omega))
/-- a polynomial is copied -/
theorem ok_X3_copyFrom {φ : zMu → Prop} {c d : Nat} (hc : zS c 3 2) (hd : zS d 3 2) (h : φ (zua (zup μ c 1 (μ d 1)) (c + 1) (fun k => if k < 81 then zup μ c 1 (μ d 1) (d + 1) k else zup μ c 1 (μ d 1) (c + 1) k))) : zOv g zm_X3_copyFrom [.ref c, .ref d] μ φ := by
  refine sg_X3_copyFrom hc hd ⟨by omega, ?_⟩
  have e : zcp (zup μ c 1 (μ d 1)) (d + 1) 0 (c + 1) 0 81 = zua (zup μ c 1 (μ d 1)) (c + 1) (fun k => if k < 81 then zup μ c 1 (μ d 1) (d + 1) k else zup μ c 1 (μ d 1) (c + 1) k) := by
    unfold zcp
    refine zua_congr (fun b => ?_)
    by_cases hb : b < 81
    · rw [if_pos (by omega), if_pos hb, Nat.zero_add, Nat.sub_zero]
    · rw [if_neg (by omega), if_neg hb]
  rw [e]; exact h
theorem cx_keep {k : Int} (hw : zWF A) (hR : zRC A μ) (hk : zR k) (h : zHc φ μ (st_keep A k)) : zOi g zm_X10_keep [.ref 0, .int (zJ k)] μ φ := by
  have hp := zWF_p hw
  have hd := zWF_d hw
  obtain ⟨t1, t2⟩ := zRC_eq hR
  refine sg_X10_keep (ok_X10_isPlace hk (fun qk => ⟨by omega, fun _ => ?_, fun hc => absurd hc (by omega)⟩) (fun q => ⟨by omega, fun hc => absurd rfl hc, fun _ => h.at (if_pos q) rfl hR (zKm.refl μ)⟩))
  obtain ⟨k, rfl⟩ : ∃ q : Nat, k = q := ⟨k.toNat, by omega⟩
  unfold st_keep at h
  rw [if_neg (by omega)] at h
  simp only [Int.toNat_natCast] at h ⊢
  refine ok_X3_isMissing zc_3 (by omega) (fun m => ⟨by omega, fun _ => ?_, fun hc => absurd rfl hc⟩) (fun m => ⟨by omega, fun hc => absurd hc (by omega), fun _ => h.at (if_pos (by omega)) rfl hR (zKm.refl μ)⟩)
  have hd0 : A 3 0 ≠ 0 := by omega
  rw [if_neg hd0] at h
  rw [zRC_p0 hR]
  have fin : ¬ zhs A k 8 = true → zOv g zm_X3_copyFrom [.ref (19 + 2 * k), .ref 3] μ (fun μ12 => zOi g zm_X0_keptCount [.ref 1] (zup μ12 6 k (μ12 1 0)) (fun x14 μ13 => φ x14 μ13)) := fun hn => by
    rw [if_neg hn] at h
    refine ok_X3_copyFrom (zsk k (by omega)).1 zc_3 ?_
    rw [show 19 + 2 * k + 1 = 20 + 2 * k by omega, zua_ne (i := 20 + 2 * k) (a := 1) (by omega), zup_ne (i := 19 + 2 * k) (a := 1) (Or.inl (by omega)), zRC_p0 hR]
    have fo : ∀ (i : Nat), i ≠ 6 → i ≠ 19 + 2 * k → i ≠ 20 + 2 * k → ∀ f, zup (zua (zup μ (19 + 2 * k) 1 (μ 3 1)) (20 + 2 * k) f) 6 k (A 0 0) i = μ i := fun i h1 h2 h3 f => by rw [zup_nc h1, zua_nc h3, zup_nc h2]
    have hR2 : zRC (zkeep A k) (zup (zua (zup μ (19 + 2 * k) 1 (μ 3 1)) (20 + 2 * k) (fun j => if j < 81 then zup μ (19 + 2 * k) 1 (μ 3 1) (3 + 1) j else zup μ (19 + 2 * k) 1 (μ 3 1) (20 + 2 * k) j)) 6 k (A 0 0)) := by
      refine zRC_n hR (fun i hi => zkeep_o (by omega) (by omega) (by omega)) (fun i hi => fo i (by omega) (by omega) (by omega) _) ⟨?_, fun s hs => ?_, ?_, fun q hq => ?_⟩ (zRg_keep (zkeep_o (by omega) (by omega) (by omega)) (zkeep_o (by omega) (by omega) (by omega)) (zkeep_o (by omega) (by omega) (by omega)) (fo _ (by omega) (by omega) (by omega) _) (fo _ (by omega) (by omega) (by omega) _) hR.2.2.1)
      · rw [fo 1 (by omega) (by omega) (by omega), zkeep_o (by omega) (by omega) (by omega)]; exact hR.1.1
      · unfold zCs
        rw [Nat.zero_add, Nat.zero_add, Nat.zero_add, zkeep_o (i := 1) (by omega) (by omega) (by omega), zkeep_o (i := 2) (by omega) (by omega) (by omega), zkeep_o (i := 10 + s) (by omega) (by omega) (by omega), show 1 + 6 + 2 * s = 7 + 2 * s by omega, show 1 + 7 + 2 * s = 8 + 2 * s by omega, fo _ (by omega) (by omega) (by omega), fo _ (by omega) (by omega) (by omega)]
        exact zRC_sr hR hs
      · unfold zCe
        rw [Nat.zero_add, Nat.zero_add, zkeep_o (i := 3) (by omega) (by omega) (by omega), zkeep_o (i := 4) (by omega) (by omega) (by omega), fo _ (by omega) (by omega) (by omega), fo _ (by omega) (by omega) (by omega)]
        exact ⟨t1, t2⟩
      · unfold zCk
        rw [Nat.zero_add, Nat.zero_add, Nat.zero_add, zkeep_5, zkeep_6, zkeep_r, show 1 + 18 + 2 * q = 19 + 2 * q by omega, show 1 + 19 + 2 * q = 20 + 2 * q by omega]
        by_cases hqk : q = k
        · subst hqk
          rw [if_pos rfl, if_pos rfl, if_pos rfl]
          refine Or.inr ⟨by omega, ?_, by rw [zup_eq], fun t ht => ?_⟩
          · rw [zup_ne (Or.inl (by omega)), zua_ne (by omega), zup_eq, t1]
          · rw [zup_ne (Or.inl (by omega)), zua_eq, if_pos ht, zup_ne (Or.inl (by omega))]
            exact t2 hd0 t ht
        · rw [if_neg hqk, if_neg hqk, if_neg hqk, fo (19 + 2 * q) (by omega) (by omega) (by omega), fo (20 + 2 * q) (by omega) (by omega) (by omega), zup_ne (Or.inr hqk), zua_ne (by omega), zup_ne (Or.inl (by omega))]
          exact zRC_k hR hq
    exact ok_X0_keptCount (wf_zkeep hw (by omega) hd0 hn) hR2 (h.at rfl rfl hR2 (fun i hi => fo i (by omega) (by omega) (by omega) _))
  refine ok_X0_placeOf hw hR (fun r hr => ?_)
  rcases hr with ⟨rfl, hr⟩ | ⟨q, hq, rfl, e⟩
  · have hn : ¬ zhs A k 8 = true := by
      rw [zhs_iff]
      exact fun ⟨q, h1, _, h3⟩ => hr q h1 h3
    exact ⟨by omega, fun _ => ⟨qk, fin hn⟩, fun hc => absurd hc (by omega)⟩
  · refine ⟨by omega, fun hc => absurd hc (by omega), fun _ => ⟨by omega, fun hqk => ⟨qk, fin ?_⟩, fun hqk => h.at (if_pos (zhs_iff.2 ⟨q, hq, by omega, e⟩)) rfl hR (zKm.refl μ)⟩⟩
    rw [zhs_iff]
    rintro ⟨r, h1, h2, h3⟩
    have := zWF_u hw h1 hq (by omega) (h3.trans e.symm)
    omega
theorem mx_keep {k : Int} (hw : zWF A) (hR : zRM A μ) (hk : zR k) (h : zHm φ μ (st_keep A k)) : zOi g zm_X11_keep [.ref 203, .int (zJ k)] μ φ := by
  have hp := zWF_p hw
  have hd := zWF_d hw
  have t1 := zRM_d hR
  refine sg_X11_keep (ok_X11_isKept hk (fun qk => ⟨by omega, fun _ => ⟨by omega, fun m => ?_, fun m => h.at ((if_neg (by omega)).trans (if_pos (by omega))) rfl hR (zKc.refl μ)⟩, fun hc => absurd hc (by omega)⟩) (fun q => ⟨by omega, fun hc => absurd rfl hc, fun _ => h.at (if_pos q) rfl hR (zKc.refl μ)⟩))
  obtain ⟨k, rfl⟩ : ∃ q : Nat, k = q := ⟨k.toNat, by omega⟩
  have hd0 : A 3 0 ≠ 0 := by omega
  unfold st_keep at h
  rw [if_neg (by omega), if_neg hd0, Int.toNat_natCast] at h
  have fin : ¬ zhs A k 8 = true → at_X11_keep_82 g φ (83 * (k : Int)) 0 (zup (zup μ 208 (Int.toNat (83 * (k : Int))) (μ 203 0)) 208 (Int.toNat ((83 * (k : Int)) + 1)) ((zup μ 208 (Int.toNat (83 * (k : Int))) (μ 203 0)) 203 4)) := fun hn => by
    rw [if_neg hn] at h
    rw [show Int.toNat (83 * (k : Int)) = 83 * k by omega, show Int.toNat (83 * (k : Int) + 1) = 83 * k + 1 by omega, zup_ne (i := 208) (a := 203) (Or.inl (by omega)), t1, zRM_p0 hR]
    have loop : ∀ m t : Nat, t + m = 81 → at_X11_keep_82 g φ (83 * (k : Int)) (t : Int) (zua (zup (zup μ 208 (83 * k) (A 0 0)) 208 (83 * k + 1) (A 3 0)) 208 (fun j => if 83 * k + 2 ≤ j ∧ j < 83 * k + 2 + t then μ 207 (j - (83 * k + 2)) else if j = 83 * k then A 0 0 else if j = 83 * k + 1 then A 3 0 else μ 208 j)) := by
      intro m
      induction m with
      | zero =>
        intro t ht
        have e : t = 81 := by omega
        subst e
        have fo : ∀ (i : Nat), i ≠ 208 → ∀ f, zua (zup (zup μ 208 (83 * k) (A 0 0)) 208 (83 * k + 1) (A 3 0)) 208 f i = μ i := fun i h1 f => by rw [zua_nc h1, zup_nc h1, zup_nc h1]
        have hR2 : zRM (zkeep A k) (zua (zup (zup μ 208 (83 * k) (A 0 0)) 208 (83 * k + 1) (A 3 0)) 208 (fun j => if 83 * k + 2 ≤ j ∧ j < 83 * k + 2 + 81 then μ 207 (j - (83 * k + 2)) else if j = 83 * k then A 0 0 else if j = 83 * k + 1 then A 3 0 else μ 208 j)) := by
          refine zRM_n hR (fun i hi => zkeep_o (by omega) (by omega) (by omega)) (fun j _ _ _ => by rw [fo 203 (by omega)]) (fun i hi hi2 => fo i (by omega) _) ⟨?_, fun s hs => ?_, ?_, ?_, fun q hq => ?_⟩
          · rw [fo 203 (by omega), zkeep_o (by omega) (by omega) (by omega)]; exact hR.1.1
          · rw [Nat.zero_add, Nat.zero_add, Nat.zero_add, zkeep_o (i := 1) (by omega) (by omega) (by omega), zkeep_o (i := 2) (by omega) (by omega) (by omega), zkeep_o (i := 10 + s) (by omega) (by omega) (by omega), fo _ (by omega), fo _ (by omega), fo _ (by omega)]
            exact zRM_sr hR hs
          · rw [fo 203 (by omega), Nat.zero_add, zkeep_o (by omega) (by omega) (by omega)]; exact t1
          · rw [Nat.zero_add, Nat.zero_add, zkeep_o (i := 3) (by omega) (by omega) (by omega), zkeep_o (i := 4) (by omega) (by omega) (by omega), fo 207 (by omega)]
            exact fun _ => zRM_e hR hd0
          · rw [Nat.zero_add, Nat.zero_add, Nat.zero_add, zkeep_5, zkeep_6, zkeep_r]
            obtain ⟨u1, u2⟩ := zRM_k hR hq
            by_cases hqk : q = k
            · subst hqk
              rw [if_pos rfl, if_pos rfl, if_pos rfl]
              refine ⟨by rw [zua_eq, if_neg (by omega), if_pos rfl], fun _ => ⟨by rw [zua_eq, if_neg (by omega), if_neg (by omega), if_pos rfl], fun i j hi hj => ?_⟩⟩
              have e := zRM_e hR hd0 i j hi hj
              obtain ⟨d, hdd⟩ : ∃ d : Nat, A 3 0 = d := ⟨(A 3 0).toNat, by omega⟩
              rw [hdd, Int.toNat_natCast] at e ⊢
              rw [hdd] at hi hj hd
              have hb : (d + 1) * i ≤ 9 * d ∧ (d + 1) * i ≤ 72 := by
                have h1 : (d + 1) * i ≤ (d + 1) * d := Nat.mul_le_mul_left _ (by omega)
                have h2 : (d + 1) * d ≤ 9 * d := Nat.mul_le_mul_right _ (by omega)
                omega
              rw [zua_eq, if_pos (by omega), show 83 * q + 2 + ((d + 1) * i + j) - (83 * q + 2) = (d + 1) * i + j by omega]
              exact e
            · rw [if_neg hqk, if_neg hqk, if_neg hqk]
              refine ⟨by rw [zua_eq, if_neg (by omega), if_neg (by omega), if_neg (by omega)]; exact u1, fun h0 => ?_⟩
              obtain ⟨u3, u4⟩ := u2 h0
              refine ⟨by rw [zua_eq, if_neg (by omega), if_neg (by omega), if_neg (by omega)]; exact u3, fun i j hi hj => ?_⟩
              have e := u4 i j hi hj
              have hb6 := ((zWF_k hw hq).resolve_left h0).2.1
              obtain ⟨d, hdd⟩ : ∃ d : Nat, A 6 q = d := ⟨(A 6 q).toNat, by omega⟩
              rw [hdd, Int.toNat_natCast] at e ⊢
              rw [hdd] at hi hj hb6
              have hb : (d + 1) * i ≤ 9 * d ∧ (d + 1) * i ≤ 72 := by
                have h1 : (d + 1) * i ≤ (d + 1) * d := Nat.mul_le_mul_left _ (by omega)
                have h2 : (d + 1) * d ≤ 9 * d := Nat.mul_le_mul_right _ (by omega)
                omega
              rw [zua_eq, if_neg (by omega), if_neg (by omega), if_neg (by omega)]
              exact e
        exact sg_X11_keep_82 ⟨by omega, fun _ => ok_X11_keptMany (wf_zkeep hw (by omega) hd0 hn) hR2 (h.at rfl rfl hR2 (fun i hi => fo i (by omega) _)), fun hc => absurd hc (by omega)⟩
      | succ m ih =>
        intro t ht
        have k2 := ih (t + 1) (by omega)
        rw [Int.natCast_add] at k2
        refine sg_X11_keep_82 ⟨by omega, fun hc => absurd hc (by omega), fun _ => ⟨by omega, by omega, ?_⟩⟩
        rw [show Int.toNat (83 * (k : Int) + 2 + (t : Int)) = 83 * k + 2 + t by omega, Int.toNat_natCast, zua_ne (a := 207) (by omega), zup_ne (i := 208) (a := 207) (Or.inl (by omega)), zup_ne (i := 208) (a := 207) (Or.inl (by omega)), zup_zua, zua_congr (h := fun j => if 83 * k + 2 ≤ j ∧ j < 83 * k + 2 + (t + 1) then μ 207 (j - (83 * k + 2)) else if j = 83 * k then A 0 0 else if j = 83 * k + 1 then A 3 0 else μ 208 j) (fun b => by
          by_cases hb : b = 83 * k + 2 + t
          · rw [if_pos hb, if_pos (by omega), hb, show 83 * k + 2 + t - (83 * k + 2) = t by omega]
          · rw [if_neg hb]
            by_cases hc : 83 * k + 2 ≤ b ∧ b < 83 * k + 2 + t
            · rw [if_pos hc, if_pos (show 83 * k + 2 ≤ b ∧ b < 83 * k + 2 + (t + 1) by omega)]
            · rw [if_neg hc, if_neg (show ¬ (83 * k + 2 ≤ b ∧ b < 83 * k + 2 + (t + 1)) by omega)])]
        exact k2
    have k0 := loop 81 0 (by omega)
    rw [zua_self (fun b => by
      rw [if_neg (by omega)]
      by_cases h1 : b = 83 * k
      · rw [if_pos h1, h1, zup_ne (Or.inr (by omega)), zup_eq]
      · rw [if_neg h1]
        by_cases h2 : b = 83 * k + 1
        · rw [if_pos h2, h2, zup_eq]
        · rw [if_neg h2, zup_ne (Or.inr h2), zup_ne (Or.inr h1)])] at k0
    exact k0
  have loop : ∀ m t : Nat, t + m = 8 → ¬ zhs A k t = true → at_X11_keep_21 g φ (k : Int) (t : Int) μ := by
    intro m
    induction m with
    | zero =>
      intro t ht hn
      have e : t = 8 := by omega
      subst e
      exact sg_X11_keep_21 ⟨by omega, fun _ => ⟨by omega, by omega, fin hn⟩, fun hc => absurd hc (by omega)⟩
    | succ m ih =>
      intro t ht hn
      have hb0 := zWF_k0 hw (q := t) (by omega)
      have next : ¬ (t ≠ k ∧ A 5 t = A 0 0) → at_X11_keep_21 g φ (k : Int) ((t : Int) + 1) μ := fun hne => by
        have := ih (t + 1) (by omega) (by
          rw [zhs, Bool.or_eq_true, decide_eq_true_eq]
          exact fun z => z.elim hn hne)
        rw [Int.natCast_add] at this
        exact this
      refine sg_X11_keep_21 ⟨by omega, fun hc => absurd hc (by omega), fun _ => ⟨by omega, fun e => next (fun z => z.1 (by omega)), fun e => ok_X11_keptPrime hR (by omega) ?_⟩⟩
      rw [zRM_p0 hR]
      exact ⟨by omega, by omega, fun e2 => next (fun z => e2 z.2), fun e2 => h.at (if_pos (zhs_iff.2 ⟨t, by omega, by omega, e2⟩)) rfl hR (zKc.refl μ)⟩
  exact loop 8 0 (by omega) (fun z => Bool.false_ne_true z)
def st_drop (A : zMu) (k : Int) : Int × zMu := if ¬ (0 ≤ k ∧ k < 8) then (-1, A) else if A 5 k.toNat = 0 then (-11, A) else (A 5 k.toNat, zup A 5 k.toNat 0)
theorem wf_drop (hw : zWF A) (k : Int) : zWF (st_drop A k).2 := by
  unfold st_drop
  by_cases h1 : ¬ (0 ≤ k ∧ k < 8)
  · rw [if_pos h1]; exact hw
  · rw [if_neg h1]
    by_cases h2 : A 5 k.toNat = 0
    · rw [if_pos h2]; exact hw
    · rw [if_neg h2]
      show zWF (zup A 5 k.toNat 0)
      have hp := zWF_p hw
      have hd := zWF_d hw
      refine zWF_n hw (fun i hi => zup_nc (by omega)) ⟨?_, fun s hs => ?_, ?_, ?_, fun q hq => ?_, fun q r hq hr => ?_⟩
      · rw [zup_nc (by omega)]; exact hp.1
      · rw [zup_nc (a := 0) (by omega), Nat.zero_add, Nat.zero_add, Nat.zero_add, zup_nc (a := 1) (by omega), zup_nc (a := 2) (by omega), zup_nc (a := 10 + s) (by omega)]
        exact zWF_s hw hs
      · rw [Nat.zero_add, zup_nc (by omega)]; exact hd
      · rw [Nat.zero_add, Nat.zero_add, zup_nc (a := 3) (by omega), zup_nc (a := 4) (by omega), zup_nc (a := 0) (by omega)]
        exact fun q => zWF_e hw q
      · rw [Nat.zero_add, Nat.zero_add, Nat.zero_add, zup_nc (a := 6) (by omega), zup_nc (a := 20 + q) (by omega)]
        by_cases h : q = k.toNat
        · rw [h, zup_eq]; exact Or.inl rfl
        · rw [zup_ne (Or.inr h)]; exact zWF_k hw hq
      · rw [Nat.zero_add]
        intro h0 e
        by_cases h : q = k.toNat
        · rw [h, zup_eq] at h0; exact absurd rfl h0
        · rw [zup_ne (Or.inr h)] at h0 e
          by_cases h' : r = k.toNat
          · rw [h', zup_eq] at e; exact absurd e h0
          · rw [zup_ne (Or.inr h')] at e
            exact zWF_u hw hq hr h0 e
theorem cx_drop {k : Int} (hw : zWF A) (hR : zRC A μ) (hk : zR k) (h : zHc φ μ (st_drop A k)) : zOi g zm_X10_drop [.ref 0, .int (zJ k)] μ φ := by
  refine sg_X10_drop (ok_X10_isPlace hk (fun qk => ⟨by omega, fun _ => ⟨qk, ?_⟩, fun hc => absurd hc (by omega)⟩) (fun q => ⟨by omega, fun hc => absurd rfl hc, fun _ => h.at (if_pos q) rfl hR (zKm.refl μ)⟩))
  obtain ⟨k, rfl⟩ : ∃ q : Nat, k = q := ⟨k.toNat, by omega⟩
  unfold st_drop at h
  rw [if_neg (by omega)] at h
  simp only [Int.toNat_natCast] at h ⊢
  have hb := zWF_k hw (q := k) (by omega)
  rcases zRC_k hR (q := k) (by omega) with q | q
  · exact ok_X3_isMissing (zsk k (by omega)).1 (by omega) (fun q2 => absurd q.2 q2) (fun _ => ⟨by omega, fun hc => absurd hc (by omega), fun _ => h.at (if_pos q.1) rfl hR (zKm.refl μ)⟩)
  · have b := (hb.resolve_left q.1).2.1
    refine ok_X3_isMissing (zsk k (by omega)).1 (by omega) (fun _ => ⟨by omega, fun _ => ?_, fun hc => absurd rfl hc⟩) (fun q2 => by omega)
    have fo : ∀ (i : Nat), i ≠ 19 + 2 * k → zup μ (19 + 2 * k) 1 0 i = μ i := fun i h1 => zup_nc h1
    refine h.at (if_neg q.1) (by rw [fo 6 (by omega)]; exact q.2.2.1) (zRC_n hR (fun i hi => zup_nc (by omega)) (fun i hi => fo i (by omega)) ⟨?_, fun s hs => ?_, ?_, fun r hr => ?_⟩ (zRg_keep (zup_nc (by omega)) (zup_nc (by omega)) (zup_nc (by omega)) (fo _ (by omega)) (fo _ (by omega)) hR.2.2.1)) (fun i hi => fo i (by omega))
    · rw [fo 1 (by omega), zup_nc (by omega)]; exact hR.1.1
    · unfold zCs
      rw [Nat.zero_add, Nat.zero_add, Nat.zero_add, zup_nc (a := 1) (by omega), zup_nc (a := 2) (by omega), zup_nc (a := 10 + s) (by omega), show 1 + 6 + 2 * s = 7 + 2 * s by omega, show 1 + 7 + 2 * s = 8 + 2 * s by omega, fo _ (by omega), fo _ (by omega)]
      exact zRC_sr hR hs
    · unfold zCe
      rw [Nat.zero_add, Nat.zero_add, zup_nc (i := 5) (a := 3) (by omega), zup_nc (i := 5) (a := 4) (by omega), fo _ (by omega), fo _ (by omega)]
      exact zRC_eq hR
    · unfold zCk
      rw [Nat.zero_add, Nat.zero_add, Nat.zero_add, zup_nc (i := 5) (a := 6) (by omega), zup_nc (i := 5) (a := 20 + r) (by omega), show 1 + 18 + 2 * r = 19 + 2 * r by omega, show 1 + 19 + 2 * r = 20 + 2 * r by omega, fo 6 (by omega), fo (20 + 2 * r) (by omega)]
      by_cases hrk : r = k
      · rw [hrk, zup_eq, zup_eq]; exact Or.inl ⟨rfl, rfl⟩
      · rw [zup_ne (Or.inr hrk), fo _ (by omega)]; exact zRC_k hR hr
theorem mx_drop {k : Int} (hw : zWF A) (hR : zRM A μ) (hk : zR k) (h : zHm φ μ (st_drop A k)) : zOi g zm_X11_drop [.ref 203, .int (zJ k)] μ φ := by
  refine sg_X11_drop (ok_X11_isKept hk (fun qk => ⟨by omega, fun _ => ?_, fun hc => absurd hc (by omega)⟩) (fun q => ⟨by omega, fun hc => absurd rfl hc, fun _ => h.at (if_pos q) rfl hR (zKc.refl μ)⟩))
  obtain ⟨k, rfl⟩ : ∃ q : Nat, k = q := ⟨k.toNat, by omega⟩
  unfold st_drop at h
  rw [if_neg (by omega)] at h
  simp only [Int.toNat_natCast] at h
  have hb0 := zWF_k0 hw (q := k) (by omega)
  refine ok_X11_keptPrime hR (by omega) ⟨by omega, by omega, fun h0 => ?_, fun h0 => ?_⟩
  · rw [show Int.toNat (83 * (k : Int)) = 83 * k by omega]
    refine h.at (if_neg h0) rfl (zRM_n hR (fun i hi => zup_nc (by omega)) (fun j _ _ _ => zup_ne (Or.inl (by omega))) (fun i hi hi2 => zup_nc (by omega)) ⟨?_, fun s hs => ?_, ?_, ?_, fun q hq => ?_⟩) (fun i hi => zup_nc (by omega))
    · rw [zup_ne (Or.inl (by omega)), zup_nc (by omega)]; exact hR.1.1
    · rw [Nat.zero_add, Nat.zero_add, Nat.zero_add, zup_nc (i := 5) (by omega), zup_nc (i := 5) (by omega), zup_nc (i := 5) (by omega), zup_nc (i := 208) (by omega), zup_nc (i := 208) (by omega), zup_nc (i := 208) (by omega)]
      exact zRM_sr hR hs
    · rw [zup_ne (Or.inl (by omega)), Nat.zero_add, zup_nc (by omega)]; exact zRM_d hR
    · rw [Nat.zero_add, Nat.zero_add, zup_nc (i := 5) (by omega), zup_nc (i := 5) (by omega), zup_nc (i := 208) (by omega)]
      exact fun q => zRM_e hR q
    · rw [Nat.zero_add, Nat.zero_add, Nat.zero_add, zup_nc (i := 5) (a := 6) (by omega), zup_nc (i := 5) (a := 20 + q) (by omega)]
      obtain ⟨u1, u2⟩ := zRM_k hR hq
      by_cases hqk : q = k
      · rw [hqk, zup_eq, zup_eq]; exact ⟨rfl, fun hc => absurd rfl hc⟩
      · rw [zup_ne (i := 5) (Or.inr hqk), zup_ne (Or.inr (by omega))]
        refine ⟨u1, fun h1 => ?_⟩
        obtain ⟨u3, u4⟩ := u2 h1
        refine ⟨by rw [zup_ne (Or.inr (by omega))]; exact u3, fun i j hi hj => ?_⟩
        have e := u4 i j hi hj
        have hb6 := ((zWF_k hw hq).resolve_left h1).2.1
        obtain ⟨d, hdd⟩ : ∃ d : Nat, A 6 q = d := ⟨(A 6 q).toNat, by omega⟩
        rw [hdd, Int.toNat_natCast] at e ⊢
        rw [hdd] at hi hj hb6
        have hb : (d + 1) * i ≤ 9 * d ∧ (d + 1) * i ≤ 72 := by
          have h1 : (d + 1) * i ≤ (d + 1) * d := Nat.mul_le_mul_left _ (by omega)
          have h2 : (d + 1) * d ≤ 9 * d := Nat.mul_le_mul_right _ (by omega)
          omega
        rw [zup_ne (Or.inr (by omega))]
        exact e
  · refine h.at (if_pos h0) rfl ?_ (fun i hi => zup_nc (by omega))
    have e : zup μ 208 (Int.toNat (83 * (k : Int))) 0 = μ := by
      funext i j
      by_cases hij : i = 208 ∧ j = 83 * k
      · rw [hij.1, hij.2, show Int.toNat (83 * (k : Int)) = 83 * k by omega, zup_eq, (zRM_k hR (q := k) (by omega)).1, h0]
      · rw [zup_ne (by omega)]
    rw [e]; exact hR
end KEE
