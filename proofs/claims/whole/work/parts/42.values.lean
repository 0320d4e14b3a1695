/-! VALUES: roots and the list of neighbours -/
theorem zme_i {p x y : Int} (h : ∃ t, x = y + p * t) : x % p = y % p := by
  obtain ⟨t, rfl⟩ := h
  exact Int.add_mul_emod_self_left y p t
theorem zme_e {p x y : Int} (h : x % p = y % p) : ∃ t, x = y + p * t := by
  refine ⟨x / p - y / p, ?_⟩
  rw [Int.emod_def, Int.emod_def] at h
  rw [Int.mul_sub]
  generalize p * (x / p) = a at h ⊢
  generalize p * (y / p) = b at h ⊢
  omega
theorem zme_q (p x : Int) : ∃ t, x % p = x + p * t := ⟨-(x / p), by
  rw [Int.emod_def, Int.mul_neg]
  omega⟩
theorem zdl_hr {p w u : Int} {L : Nat → Int} {top : Nat} : ∀ m, m ≤ top → zhr p w L top (m + 1) % p = ((w - u) * zhr p w (zdl p u L top) (top - 1) m + zhr p u L top (m + 1)) % p
  | 0, _ => by
    show ((0 * w + L (top - 0)) % p) % p = ((w - u) * 0 + (0 * u + L (top - 0)) % p) % p
    rw [Int.zero_mul, Int.zero_mul, Int.mul_zero, Int.zero_add, Int.zero_add]
  | m + 1, h => by
    obtain ⟨t1, e1⟩ := zme_e (zdl_hr (p := p) (w := w) (u := u) (L := L) (top := top) m (by omega))
    have e0 : zdl p u L top (top - 1 - m) = zhr p u L top (m + 1) := by
      unfold zdl
      rw [if_pos (by omega), show top - (top - 1 - m) = m + 1 by omega]
    have eR : zhr p w (zdl p u L top) (top - 1) (m + 1) = (zhr p w (zdl p u L top) (top - 1) m * w + zhr p u L top (m + 1)) % p := by
      rw [← e0]; rfl
    rw [eR]
    show ((zhr p w L top (m + 1) * w + L (top - (m + 1))) % p) % p = ((w - u) * ((zhr p w (zdl p u L top) (top - 1) m * w + zhr p u L top (m + 1)) % p) + (zhr p u L top (m + 1) * u + L (top - (m + 1))) % p) % p
    rw [Int.emod_emod, e1]
    generalize zhr p w (zdl p u L top) (top - 1) m = R
    generalize zhr p u L top (m + 1) = h2
    generalize L (top - (m + 1)) = c
    obtain ⟨t2, e2⟩ := zme_q p (R * w + h2)
    obtain ⟨t3, e3⟩ := zme_q p (h2 * u + c)
    rw [e2, e3]
    exact zme_i ⟨t1 * w - (w - u) * t2 - t3, by grind⟩
theorem zdl_val {p w u : Int} {L : Nat → Int} {top : Nat} (h1 : 1 ≤ top) (hu : zval p u L top = 0) : zval p w L top % p = ((w - u) * zval p w (zdl p u L top) (top - 1)) % p := by
  have := zdl_hr (p := p) (w := w) (u := u) (L := L) (top := top) top (by omega)
  unfold zval at hu ⊢
  rw [hu, Int.add_zero] at this
  rw [show top - 1 + 1 = top by omega]
  exact this
theorem zNb_lo {p : Int} : ∀ {f top : Nat} {L : Nat → Int} {w : Int}, ∀ x, x ∈ zNb p f top L w → w ≤ x
  | 0, _, _, _, _, h => absurd h (List.not_mem_nil)
  | f + 1, top, L, w, x, h => by
    rw [zNb] at h
    by_cases c : top = 0 ∨ p ≤ w
    · rw [if_pos c] at h; exact absurd h (List.not_mem_nil)
    · rw [if_neg c] at h
      by_cases z : zval p w L top = 0
      · rw [if_pos z] at h
        rcases List.mem_cons.1 h with e | e
        · rw [e]; omega
        · exact zNb_lo x e
      · rw [if_neg z] at h
        have := zNb_lo x h
        omega
theorem zNb_mem {p w : Int} (hP : zP p) (hw : w < p) : ∀ (f top : Nat) (L : Nat → Int) (u : Int), 0 ≤ u → u ≤ w → (∀ k, k ≤ top → 0 ≤ L k ∧ L k < p) → L top ≠ 0 → p - u + top < f → (w ∈ zNb p f top L u ↔ zval p w L top = 0)
  | 0, top, L, u, h0, hu, _, _, hf => by omega
  | f + 1, top, L, u, h0, hu, hL, hne, hf => by
    have hb := zP_bd hP
    rw [zNb]
    by_cases t0 : top = 0
    · rw [if_pos (Or.inl t0)]
      refine ⟨fun h => absurd h (List.not_mem_nil), fun h => ?_⟩
      subst t0
      have h2 : (0 * w + L 0) % p = 0 := h
      have := hL 0 (by omega)
      rw [Int.zero_mul, Int.zero_add, Int.emod_eq_of_lt this.1 this.2] at h2
      exact absurd h2 hne
    · rw [if_neg (by omega)]
      have hbd := hL top (by omega)
      have hQ : ∀ k, k ≤ top - 1 → 0 ≤ zdl p u L top k ∧ zdl p u L top k < p := fun k hk => by
        unfold zdl
        rw [if_pos (by omega)]
        exact zhr_bd (by omega) _
      have hQt : zdl p u L top (top - 1) ≠ 0 := by
        unfold zdl
        rw [if_pos (by omega), show top - (top - 1) = 0 + 1 by omega, zhr]
        show (0 * u + L (top - 0)) % p ≠ 0
        rw [Int.zero_mul, Int.zero_add, Nat.sub_zero, Int.emod_eq_of_lt hbd.1 hbd.2]; exact hne
      by_cases z : zval p u L top = 0
      · rw [if_pos z, List.mem_cons]
        by_cases e : w = u
        · exact ⟨fun _ => e ▸ z, fun _ => Or.inl e⟩
        · have ih := zNb_mem hP hw f (top - 1) (zdl p u L top) u h0 hu hQ hQt (by omega)
          have hv := zdl_val (p := p) (w := w) (u := u) (L := L) (top := top) (by omega) z
          have b1 := zval_bd (p := p) (w := w) (L := L) (top := top) (by omega)
          have b2 := zval_bd (p := p) (w := w) (L := zdl p u L top) (top := top - 1) (by omega)
          refine ⟨fun h => ?_, fun h => Or.inr ?_⟩
          · rcases h with h | h
            · exact absurd h e
            · rw [ih.1 h, Int.mul_zero, Int.zero_emod, Int.emod_eq_of_lt b1.1 b1.2] at hv
              exact hv
          · rw [h, Int.zero_emod] at hv
            have := zP_nz hP (x := w - u) (by rw [Int.emod_eq_of_lt (by omega) (by omega)]; omega) hv.symm
            rw [Int.emod_eq_of_lt b2.1 b2.2] at this
            exact ih.2 this
      · rw [if_neg z]
        by_cases e : w = u
        · refine ⟨fun h => ?_, fun h => absurd (e ▸ h) z⟩
          have := zNb_lo w h
          omega
        · exact zNb_mem hP hw f top L (u + 1) (by omega) (by omega) hL hne (by omega)
/-- a neighbour of v is a zero -/
theorem znbs_zero {p v w : Int} {d : Nat} {e : Nat → Int} {l : List Int} (hP : zP p) (hd : d ≤ 8) (hw : 0 ≤ w ∧ w < p) (h : znbs p d e v = some l) : w ∈ l ↔ zval p w (zln p d e v) d = 0 := by
  have hpb := zP_bd hP
  have hb := ztp_bd (L := zln p d e v) (d + 1)
  unfold znbs at h
  by_cases hn : ztp (zln p d e v) (d + 1) < 0
  · rw [if_pos hn] at h; exact absurd h (by simp)
  · obtain ⟨top, htop⟩ : ∃ top : Nat, ztp (zln p d e v) (d + 1) = top := ⟨(ztp (zln p d e v) (d + 1)).toNat, by omega⟩
    obtain ⟨t1, t2⟩ := ztp_top _ htop
    rw [if_neg hn, htop, Int.toNat_natCast] at h
    rw [← Option.some.inj h, zNb_mem hP hw.2 210 top (zln p d e v) 0 (by omega) hw.1 (fun k _ => zval_bd (by omega)) t1 (by omega)]
    rw [zval_row (d := d) (top := top) (L := zln p d e v) (R := zln p d e v) (fun k hk => by
      by_cases hkt : k ≤ top
      · rw [if_pos hkt]
      · rw [if_neg hkt]; exact t2 k (by omega) (by omega)) (by omega)]
theorem zmem_getD {l : List Int} {v : Int} : v ∈ l ↔ ∃ j, j < l.length ∧ l.getD j 0 = v := by
  rw [List.mem_iff_getElem]
  refine ⟨fun ⟨j, hj, h⟩ => ⟨j, hj, ?_⟩, fun ⟨j, hj, h⟩ => ⟨j, hj, ?_⟩⟩
  · rw [List.getD_eq_getElem?_getD, List.getElem?_eq_getElem hj]; exact h
  · rw [List.getD_eq_getElem?_getD, List.getElem?_eq_getElem hj] at h; exact h
def zvn (A : zMu) (v : Nat) : Option (List Int) := znbs (A 0 0) (A 3 0).toNat (A 4) (v : Int)
def zown (A : zMu) (v : Nat) : Bool := match zvn A v with
  | none => false
  | some l => decide ((v : Int) ∈ l)
def zdeg (A : zMu) (v : Nat) : Bool := match zvn A v with
  | none => true
  | some _ => false
def zlon (A : zMu) (v : Nat) : Bool := match zvn A v with
  | none => false
  | some l => decide (l.length = 0)
def zsz (A : zMu) (v : Nat) : Int := match zvn A v with
  | none => 0
  | some l => (l.length : Int)
def zmx (A : zMu) : Nat → Int
  | 0 => 0
  | n + 1 => max (zmx A n) (zsz A n)
def rd_values (A : zMu) (w : Int) : Int := if w < 0 ∨ 3 < w then -1 else if A 3 0 = 0 then -11 else if w = 0 then zct (zown A) (A 0 0).toNat else if w = 1 then zct (zdeg A) (A 0 0).toNat else if w = 2 then zct (zlon A) (A 0 0).toNat else zmx A (A 0 0).toNat
theorem zsz_bd {A : zMu} (hw : zWF A) (v : Nat) : 0 ≤ zsz A v ∧ zsz A v ≤ 8 := by
  have hd := zWF_d hw
  unfold zsz
  cases hz : zvn A v with
  | none => dsimp only; omega
  | some l =>
    have := znbs_len hz
    dsimp only
    omega
theorem zmx_bd {A : zMu} (hw : zWF A) : ∀ n, 0 ≤ zmx A n ∧ zmx A n ≤ 8
  | 0 => by show (0:Int) ≤ 0 ∧ (0:Int) ≤ 8; omega
  | n + 1 => by
    have := zmx_bd hw n
    have := zsz_bd hw n
    rw [zmx]; omega
section VAC
variable {g : zG} {μ A : zMu} {φ : Int → zMu → Prop}
theorem ok_X2_isDegenerate {v : Nat} (hw : zWF A) (hR : zRC A μ) (h0 : A 3 0 ≠ 0) (hv : (v : Int) < A 0 0) (h : ∀ μ', zRC A μ' → (∀ (i : Nat), i ≠ 183 → i ≠ 184 → i ≠ 185 → μ' i = μ i) → φ (if zdeg A v then 1 else 0) μ') : zOi g zm_X2_isDegenerate [.ref 182, .ref 1, .int (zJ (v : Int))] μ φ := by
  have hp := zWF_p hw
  refine sg_X2_isDegenerate zc_1 (ok_X2_explore hw hR h0 hv (fun ν hR1 f1 k1 r1 => ?_))
  rw [Int.toNat_natCast]
  have hh := h ν hR1 f1
  unfold zdeg zvn at hh
  unfold zkn at k1
  cases hz : znbs (A 0 0) (A 3 0).toNat (A 4) (v : Int) with
  | none =>
    rw [hz] at k1 hh
    dsimp only at k1 hh
    exact ⟨by omega, r1, fun hc => absurd k1 hc, fun _ => hh⟩
  | some l =>
    rw [hz] at k1 hh
    dsimp only at k1 hh
    exact ⟨by omega, r1, fun _ => hh, fun hc => by omega⟩
theorem ok_X2_sizeOf {v : Nat} (hw : zWF A) (hR : zRC A μ) (h0 : A 3 0 ≠ 0) (hv : (v : Int) < A 0 0) (h : ∀ μ', zRC A μ' → (∀ (i : Nat), i ≠ 183 → i ≠ 184 → i ≠ 185 → μ' i = μ i) → zkn A μ' v → φ (zsz A v) μ') : zOi g zm_X2_sizeOf [.ref 182, .ref 1, .int (zJ (v : Int))] μ φ := by
  have hp := zWF_p hw
  refine sg_X2_sizeOf zc_1 (ok_X2_explore hw hR h0 hv (fun ν hR1 f1 k1 r1 => ?_))
  rw [Int.toNat_natCast]
  have hh := h ν hR1 f1 k1
  unfold zsz zvn at hh
  unfold zkn at k1
  refine ⟨by omega, r1, ?_⟩
  cases hz : znbs (A 0 0) (A 3 0).toNat (A 4) (v : Int) with
  | none =>
    rw [hz] at k1 hh
    dsimp only at k1 hh
    rw [k1]
    exact hh
  | some l =>
    rw [hz] at k1 hh
    dsimp only at k1 hh
    rw [k1.1, show max (l.length : Int) 0 = l.length by omega]
    exact hh
theorem ok_X2_valueOf {v w : Nat} (hw : zWF A) (hR : zRC A μ) (h0 : A 3 0 ≠ 0) (hv : (v : Int) < A 0 0) (hw2 : (w : Int) < A 0 0) (h : φ (zval (A 0 0) w (zln (A 0 0) (A 3 0).toNat (A 4) v) (A 3 0).toNat) μ) : zOi g zm_X3_valueOf [.ref 3, .int (zJ (v : Int)), .int (zJ (w : Int)), .int (zJ (A 0 0))] μ φ := by
  have hp := zWF_p hw
  have hd := zWF_d hw
  obtain ⟨t1, t2⟩ := zRC_eq hR
  exact ok_X3_valueOf (by omega) (by omega) (by omega) (by omega) (by omega) (t2 h0) (zWF_e hw h0).1 h
theorem lp_degenerate (hw : zWF A) (h0 : A 3 0 ≠ 0) : ∀ m n : Nat, n + m = (A 0 0).toNat → ∀ ν, zRC A ν → zKm μ ν → (∀ μ', zRC A μ' → zKm μ μ' → φ (zct (zdeg A) (A 0 0).toNat) μ') → at_X2_degenerateValues_4 g φ 1 (zct (zdeg A) n) (n : Int) ν := by
  have hp := zWF_p hw
  intro m
  induction m with
  | zero =>
    intro n hn ν hR hK h
    have e0 := zRC_p0 hR
    refine sg_X2_degenerateValues_4 zc_1 ⟨by omega, by omega, fun _ => ?_, fun hc => absurd hc (by omega)⟩
    rw [show n = (A 0 0).toNat by omega]
    exact h ν hR hK
  | succ m ih =>
    intro n hn ν hR hK h
    have e0 := zRC_p0 hR
    refine sg_X2_degenerateValues_4 zc_1 ⟨by omega, by omega, fun hc => absurd hc (by omega), fun _ => ok_X2_isDegenerate hw hR h0 (by omega) (fun ν2 hR2 f2 => ?_)⟩
    have k := ih (n + 1) (by omega) ν2 hR2 (hK.trans (fun i hi => f2 i (by omega) (by omega) (by omega))) h
    rw [Int.natCast_add, zct] at k
    cases hz : zdeg A n with
    | true =>
      rw [hz, if_pos rfl] at k
      rw [if_pos rfl]
      exact ⟨by omega, fun hc => absurd hc (by omega), fun _ => k⟩
    | false =>
      rw [hz, if_neg (by simp), Int.add_zero] at k
      rw [if_neg (by simp)]
      exact ⟨by omega, fun _ => k, fun hc => absurd rfl hc⟩
theorem lp_lonely (hw : zWF A) (h0 : A 3 0 ≠ 0) : ∀ m n : Nat, n + m = (A 0 0).toNat → ∀ ν, zRC A ν → zKm μ ν → (∀ μ', zRC A μ' → zKm μ μ' → φ (zct (zlon A) (A 0 0).toNat) μ') → at_X2_lonelyValues_4 g φ 1 (zct (zlon A) n) (n : Int) ν := by
  have hp := zWF_p hw
  intro m
  induction m with
  | zero =>
    intro n hn ν hR hK h
    have e0 := zRC_p0 hR
    refine sg_X2_lonelyValues_4 zc_1 ⟨by omega, by omega, fun _ => ?_, fun hc => absurd hc (by omega)⟩
    rw [show n = (A 0 0).toNat by omega]
    exact h ν hR hK
  | succ m ih =>
    intro n hn ν hR hK h
    have e0 := zRC_p0 hR
    refine sg_X2_lonelyValues_4 zc_1 ⟨by omega, by omega, fun hc => absurd hc (by omega), fun _ => ok_X2_isDegenerate hw hR h0 (by omega) (fun ν2 hR2 f2 => ?_)⟩
    have hK2 := hK.trans (fun i hi => f2 i (by omega) (by omega) (by omega))
    have k : ∀ ν3, zRC A ν3 → zKm μ ν3 → at_X2_lonelyValues_4 g φ 1 (zct (zlon A) (n + 1)) ((n : Int) + 1) ν3 := fun ν3 hR3 hK3 => by
      have := ih (n + 1) (by omega) ν3 hR3 hK3 h
      rw [Int.natCast_add] at this
      exact this
    rw [zct] at k
    unfold zdeg
    unfold zlon at k
    cases hz : zvn A n with
    | none =>
      rw [hz] at k
      dsimp only at k ⊢
      rw [if_neg (by simp), Int.add_zero] at k
      rw [if_pos rfl]
      exact ⟨by omega, fun _ => k _ hR2 hK2, fun hc => absurd hc (by omega)⟩
    | some l =>
      rw [hz] at k
      dsimp only at k ⊢
      rw [if_neg (by simp)]
      refine ⟨by omega, fun hc => absurd rfl hc, fun _ => ok_X2_sizeOf hw hR2 h0 (by omega) (fun ν3 hR3 f3 _ => ?_)⟩
      have hK3 := hK2.trans (fun i hi => f3 i (by omega) (by omega) (by omega))
      unfold zsz
      rw [hz]
      dsimp only
      have hl := znbs_len hz
      have hd := zWF_d hw
      refine ⟨by omega, fun q => ?_, fun q => ?_⟩
      · have := k _ hR3 hK3
        rw [if_neg (by simp only [decide_eq_true_eq]; omega), Int.add_zero] at this
        exact this
      · have := k _ hR3 hK3
        rw [if_pos (by simp only [decide_eq_true_eq]; omega)] at this
        exact this
theorem lp_own (hw : zWF A) (h0 : A 3 0 ≠ 0) : ∀ m n : Nat, n + m = (A 0 0).toNat → ∀ ν, zRC A ν → zKm μ ν → (∀ μ', zRC A μ' → zKm μ μ' → φ (zct (zown A) (A 0 0).toNat) μ') → at_X2_ownNeighbours_4 g φ 1 (zct (zown A) n) (n : Int) ν := by
  have hp := zWF_p hw
  intro m
  induction m with
  | zero =>
    intro n hn ν hR hK h
    have e0 := zRC_p0 hR
    refine sg_X2_ownNeighbours_4 zc_1 ⟨by omega, by omega, fun _ => ?_, fun hc => absurd hc (by omega)⟩
    rw [show n = (A 0 0).toNat by omega]
    exact h ν hR hK
  | succ m ih =>
    intro n hn ν hR hK h
    have e0 := zRC_p0 hR
    have hd := zWF_d hw
    refine sg_X2_ownNeighbours_4 zc_1 ⟨by omega, by omega, fun hc => absurd hc (by omega), fun _ => ok_X2_isDegenerate hw hR h0 (by omega) (fun ν2 hR2 f2 => ?_)⟩
    have hK2 := hK.trans (fun i hi => f2 i (by omega) (by omega) (by omega))
    have k := ih (n + 1) (by omega) ν2 hR2 hK2 h
    rw [Int.natCast_add, zct] at k
    unfold zdeg
    unfold zown at k
    cases hz : zvn A n with
    | none =>
      rw [hz] at k
      dsimp only at k ⊢
      rw [if_neg (by simp), Int.add_zero] at k
      rw [if_pos rfl]
      exact ⟨by omega, fun _ => k, fun hc => absurd hc (by omega)⟩
    | some l =>
      rw [hz] at k
      dsimp only at k ⊢
      rw [if_neg (by simp)]
      have hiff := znbs_zero (w := (n : Int)) hp.1 (by omega) (by omega) hz
      have hb := zval_bd (p := A 0 0) (w := (n : Int)) (L := zln (A 0 0) (A 3 0).toNat (A 4) (n : Int)) (top := (A 3 0).toNat) (by omega)
      refine ⟨by omega, fun hc => absurd rfl hc, fun _ => ?_⟩
      rw [zRC_p0 hR2]
      refine ok_X2_valueOf hw hR2 h0 (by omega) (by omega) ⟨by omega, fun q => ?_, fun q => ?_⟩
      · rw [if_neg (by simp only [decide_eq_true_eq]; exact fun e => q (hiff.1 e)), Int.add_zero] at k
        exact k
      · rw [if_pos (by simp only [decide_eq_true_eq]; exact hiff.2 q)] at k
        exact k
theorem lp_greatest (hw : zWF A) (h0 : A 3 0 ≠ 0) : ∀ m n : Nat, n + m = (A 0 0).toNat → ∀ ν, zRC A ν → zKm μ ν → (∀ μ', zRC A μ' → zKm μ μ' → φ (zmx A (A 0 0).toNat) μ') → at_X2_greatestSize_4 g φ 1 (zmx A n) (n : Int) ν := by
  have hp := zWF_p hw
  intro m
  induction m with
  | zero =>
    intro n hn ν hR hK h
    have e0 := zRC_p0 hR
    refine sg_X2_greatestSize_4 zc_1 ⟨by omega, by omega, fun _ => ?_, fun hc => absurd hc (by omega)⟩
    rw [show n = (A 0 0).toNat by omega]
    exact h ν hR hK
  | succ m ih =>
    intro n hn ν hR hK h
    have e0 := zRC_p0 hR
    refine sg_X2_greatestSize_4 zc_1 ⟨by omega, by omega, fun hc => absurd hc (by omega), fun _ => ok_X2_sizeOf hw hR h0 (by omega) (fun ν2 hR2 f2 _ => ?_)⟩
    have k := ih (n + 1) (by omega) ν2 hR2 (hK.trans (fun i hi => f2 i (by omega) (by omega) (by omega))) h
    rw [Int.natCast_add, zmx] at k
    have b1 := zmx_bd hw n
    have b2 := zsz_bd hw n
    exact ⟨by omega, by omega, k⟩
theorem cx_values {w : Int} (hw : zWF A) (hR : zRC A μ) (hv : zR w) (h : zHc φ μ (rd_values A w, A)) : zOi g zm_X10_values [.ref 0, .int (zJ w)] μ φ := by
  have hp := zWF_p hw
  have hd := zWF_d hw
  obtain ⟨t1, t2⟩ := zRC_eq hR
  unfold rd_values at h
  refine sg_X10_values ⟨hv, fun q => h.rd (if_pos (by omega)) hR (zKm.refl μ), fun q => ⟨fun q2 => ?_, fun q2 => h.rd (if_pos (by omega)) hR (zKm.refl μ)⟩⟩
  rw [if_neg (by omega)] at h
  refine ok_X3_isMissing zc_3 (by omega) (fun m => ⟨by omega, fun _ => ?_, fun hc => absurd rfl hc⟩) (fun m => ⟨by omega, fun hc => absurd hc (by omega), fun _ => h.rd (if_pos (by omega)) hR (zKm.refl μ)⟩)
  have h0 : A 3 0 ≠ 0 := by omega
  rw [if_neg h0] at h
  refine ⟨fun q3 => ?_, fun q3 => ?_, fun q3 => ?_, fun q3 => ?_⟩
  · rw [if_neg (by omega), if_neg (by omega), if_neg (by omega)] at h
    exact sg_X2_greatestSize zc_1 (lp_greatest hw h0 (A 0 0).toNat 0 (by omega) μ hR (zKm.refl μ) (fun μ' a b => h μ' a b))
  · rw [if_pos q3] at h
    exact sg_X2_ownNeighbours zc_1 (lp_own hw h0 (A 0 0).toNat 0 (by omega) μ hR (zKm.refl μ) (fun μ' a b => h μ' a b))
  · rw [if_neg (by omega), if_pos q3] at h
    exact sg_X2_degenerateValues zc_1 (lp_degenerate hw h0 (A 0 0).toNat 0 (by omega) μ hR (zKm.refl μ) (fun μ' a b => h μ' a b))
  · rw [if_neg (by omega), if_neg (by omega), if_pos q3] at h
    exact sg_X2_lonelyValues zc_1 (lp_lonely hw h0 (A 0 0).toNat 0 (by omega) μ hR (zKm.refl μ) (fun μ' a b => h μ' a b))
/-- the model: is v among its neighbours -/
theorem mo_val115 {l : List Int} {v1 v2 v3 v4 v5 : Int} {v : Nat} {ν : zMu} (hl : l.length ≤ 8) (hlm : ∀ x, x ∈ l → zR x) (hvr : zR (v : Int)) (h28 : ν 203 28 = (l.length : Int)) (h221 : ∀ k, k < l.length → ν 221 k = l.getD k 0)
    (h : at_X11_values_37 g φ v1 (v2 + if decide ((v : Int) ∈ l) then 1 else 0) v3 v4 v5 ((v : Int) + 1) ν) : at_X11_values_115 g φ v1 v2 v3 v4 v5 (v : Int) 0 0 ν := by
  obtain ⟨o1, o2, o3, o4⟩ := zor_x
  have loop : ∀ m t : Nat, t + m = l.length → ∀ x : Int, ((x = 1 ∧ ∃ j, j < t ∧ l.getD j 0 = (v : Int)) ∨ (x = 0 ∧ ∀ j, j < t → l.getD j 0 ≠ (v : Int))) → at_X11_values_115 g φ v1 v2 v3 v4 v5 (v : Int) x (t : Int) ν := by
    intro m
    induction m with
    | zero =>
      intro t ht x hx
      refine sg_X11_values_115 ⟨by omega, by omega, fun _ => ⟨by omega, fun q => ?_, fun q => ?_⟩, fun hc => absurd hc (by omega)⟩
      · rw [if_neg (by
          simp only [decide_eq_true_eq]
          rw [zmem_getD]
          rintro ⟨j, hj, e⟩
          rcases hx with ⟨hx, _⟩ | ⟨_, hx⟩
          · omega
          · exact hx j (by omega) e)] at h
        exact h
      · rw [if_pos (by
          simp only [decide_eq_true_eq]
          rw [zmem_getD]
          rcases hx with ⟨_, j, hj, e⟩ | ⟨hx, _⟩
          · exact ⟨j, by omega, e⟩
          · exact absurd hx q)] at h
        exact h
    | succ m ih =>
      intro t ht x hx
      have hm : l.getD t 0 ∈ l := zmem_getD.2 ⟨t, by omega, rfl⟩
      refine sg_X11_values_115 ⟨by omega, by omega, fun hc => absurd hc (by omega), fun _ => ⟨by omega, ?_⟩⟩
      rw [Int.toNat_natCast, h221 t (by omega)]
      refine ⟨hlm _ hm, hvr, fun q => ?_, fun q => ?_⟩
      · have := ih (t + 1) (by omega) (zor x 0) (by
          rcases hx with ⟨rfl, j, hj, e⟩ | ⟨rfl, hx⟩
          · exact Or.inl ⟨o3, j, by omega, e⟩
          · refine Or.inr ⟨o1, fun j hj => ?_⟩
            by_cases e : j = t
            · rw [e]; exact q
            · exact hx j (by omega))
        rw [Int.natCast_add] at this
        exact this
      · have := ih (t + 1) (by omega) (zor x 1) (Or.inl ⟨by rcases hx with ⟨rfl, _⟩ | ⟨rfl, _⟩ <;> assumption, t, by omega, q⟩)
        rw [Int.natCast_add] at this
        exact this
  exact loop l.length 0 (by omega) 0 (Or.inr ⟨rfl, fun j hj => absurd hj (by omega)⟩)
theorem lp_mvalues {w : Int} (hw : zWF A) (h0 : A 3 0 ≠ 0) (hv : 0 ≤ w ∧ w ≤ 3) (h : ∀ μ', zRM A μ' → zKc μ μ' → φ (if w = 0 then zct (zown A) (A 0 0).toNat else if w = 1 then zct (zdeg A) (A 0 0).toNat else if w = 2 then zct (zlon A) (A 0 0).toNat else zmx A (A 0 0).toNat) μ') : ∀ m n : Nat, n + m = (A 0 0).toNat → ∀ ν, zRM A ν → zKc μ ν → at_X11_values_37 g φ w (zct (zown A) n) (zct (zdeg A) n) (zct (zlon A) n) (zmx A n) (n : Int) ν := by
  have hp := zWF_p hw
  intro m
  induction m with
  | zero =>
    intro n hn ν hR hK
    have e0 := zRM_p0 hR
    have e : n = (A 0 0).toNat := by omega
    have hh := h ν hR hK
    rw [← e] at hh
    refine sg_X11_values_37 ⟨by omega, by omega, fun _ => ⟨by omega, fun q0 => ⟨fun q1 => ⟨fun q2 => ?_, fun q2 => ?_⟩, fun q1 => ?_⟩, fun q0 => ?_⟩, fun hc => absurd hc (by omega)⟩
    · rw [if_neg q0, if_neg q1, if_neg q2] at hh; exact hh
    · rw [if_neg q0, if_neg q1, if_pos q2] at hh; exact hh
    · rw [if_neg q0, if_pos q1] at hh; exact hh
    · rw [if_pos q0] at hh; exact hh
  | succ m ih =>
    intro n hn ν hR hK
    have e0 := zRM_p0 hR
    have b1 := zmx_bd hw n
    refine sg_X11_values_37 ⟨by omega, by omega, fun hc => absurd hc (by omega), fun _ => ok_X11_tellsNeighbours hw hR h0 (by omega) (fun x ν2 hR2 hK2 _ _ g3 => ?_)⟩
    have k := ih (n + 1) (by omega) ν2 hR2 (hK.trans hK2)
    rw [Int.natCast_add, zct, zct, zct, zmx] at k
    cases hz : znbs (A 0 0) (A 3 0).toNat (A 4) (n : Int) with
    | none =>
      have w1 : zown A n = false := by unfold zown zvn; rw [hz]
      have w2 : zdeg A n = true := by unfold zdeg zvn; rw [hz]
      have w3 : zlon A n = false := by unfold zlon zvn; rw [hz]
      have w4 : zsz A n = 0 := by unfold zsz zvn; rw [hz]
      rw [w1, w2, w3, w4, if_neg (by simp), if_pos rfl, show max (zmx A n) 0 = zmx A n by omega] at k
      rw [hz] at g3
      dsimp only at g3
      obtain ⟨rfl, g28⟩ := g3
      have fin : at_X11_values_115 g φ w (zct (zown A) n) (zct (zdeg A) n + 1) (zct (zlon A) n + 0) (zmx A n) (n : Int) 0 0 ν2 := by
        refine mo_val115 (l := []) (by decide) (fun x hx => absurd hx (List.not_mem_nil)) (by omega) g28 (fun k hk => absurd hk (Nat.not_lt_zero k)) ?_
        rw [if_neg (by simp)]
        exact k
      rw [g28]
      refine ⟨by omega, fun _ => ⟨fun _ => ⟨by omega, by omega, fun _ => fin, fun hc => absurd hc (by omega)⟩, fun hc => absurd rfl hc⟩, fun hc => absurd rfl hc⟩
    | some l =>
      have w1 : zown A n = decide ((n : Int) ∈ l) := by unfold zown zvn; rw [hz]
      have w2 : zdeg A n = false := by unfold zdeg zvn; rw [hz]
      have w3 : zlon A n = decide (l.length = 0) := by unfold zlon zvn; rw [hz]
      have w4 : zsz A n = (l.length : Int) := by unfold zsz zvn; rw [hz]
      rw [w1, w2, w3, w4] at k
      rw [hz] at g3
      dsimp only at g3
      have hl := znbs_len hz
      have hd := zWF_d hw
      obtain ⟨rfl, g28, g221⟩ := g3
      have fin : ∀ e5 e6 : Int, e6 = (if decide (l.length = 0) then 1 else 0) → e5 = max (zmx A n) (l.length : Int) → at_X11_values_115 g φ w (zct (zown A) n) (zct (zdeg A) n + 0) (zct (zlon A) n + e6) e5 (n : Int) 0 0 ν2 := by
        rintro e5 e6 rfl rfl
        refine mo_val115 (l := l) (by omega) (fun x hx => ?_) (by omega) g28 g221 ?_
        · have := znbs_mem hz hx
          omega
        · rw [if_neg (show ¬ (false = true) by simp)] at k
          exact k
      rw [g28]
      refine ⟨by omega, fun hc => absurd hc (by omega), fun _ => ⟨fun hc => absurd hc (by omega), fun _ => ⟨by omega, fun q => ⟨by omega, fun q2 => fin _ _ (by rw [if_neg (by simp only [decide_eq_true_eq]; omega)]) (by omega), fun q2 => fin _ _ (by rw [if_neg (by simp only [decide_eq_true_eq]; omega)]) (by omega)⟩, fun q => ⟨by omega, fun q2 => fin _ _ (by rw [if_pos (by simp only [decide_eq_true_eq]; omega)]) (by omega), fun q2 => fin _ _ (by rw [if_pos (by simp only [decide_eq_true_eq]; omega)]) (by omega)⟩⟩⟩⟩
theorem mx_values {w : Int} (hw : zWF A) (hR : zRM A μ) (hv : zR w) (h : zHm φ μ (rd_values A w, A)) : zOi g zm_X11_values [.ref 203, .int (zJ w)] μ φ := by
  have hp := zWF_p hw
  have hd := zWF_d hw
  have t1 := zRM_d hR
  unfold rd_values at h
  refine sg_X11_values ⟨hv, ok_X11_in (by omega) (by omega) (by omega) (fun q => ⟨by omega, fun _ => ?_, fun hc => absurd hc (by omega)⟩) (fun q => ⟨by omega, fun hc => absurd rfl hc, fun _ => h.rd (if_pos (by omega)) hR (zKc.refl μ)⟩)⟩
  rw [if_neg (by omega)] at h
  refine ⟨by omega, fun m => ?_, fun m => h.rd (if_pos (by omega)) hR (zKc.refl μ)⟩
  rw [if_neg (by omega)] at h
  exact lp_mvalues hw (by omega) q (fun μ' a b => h μ' a b) (A 0 0).toNat 0 (by omega) μ hR (zKc.refl μ)
end VAC
