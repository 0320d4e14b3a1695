/-! WHAT IS ONLY ASKED: of, coefficient, term, count, whole, judge; and lay -/
section READS
variable {g : zG} {φ : Int → zMu → Prop} {μ A : zMu}
theorem zHc.rd {μ' : zMu} {x r : Int} (h : zHc φ μ (x, A)) (e : x = r) (hR : zRC A μ') (hk : zKm μ μ') : φ r μ' := by
  subst e
  exact h μ' hR hk
theorem zHm.rd {μ' : zMu} {x r : Int} (h : zHm φ μ (x, A)) (e : x = r) (hR : zRM A μ') (hk : zKc μ μ') : φ r μ' := by
  subst e
  exact h μ' hR hk
/-- the first that isn't 0 -/
def zfn (L : Nat → Int) (n : Int) : Nat → Nat → Int
  | 0, _ => -1
  | f + 1, i => if n ≤ i then -1 else if L i = 0 then zfn L n f (i + 1) else i
theorem zfn_bd {L : Nat → Int} {n : Int} : ∀ f i, -1 ≤ zfn L n f i ∧ (zfn L n f i < n ∨ zfn L n f i = -1)
  | 0, _ => ⟨Int.le_refl _, Or.inr rfl⟩
  | f + 1, i => by
    rw [zfn]
    by_cases h1 : n ≤ i
    · rw [if_pos h1]; omega
    · rw [if_neg h1]
      by_cases h2 : L i = 0
      · rw [if_pos h2]; exact zfn_bd f (i + 1)
      · rw [if_neg h2]; omega
def rd_of (A : zMu) (s w : Int) : Int := if ¬ (0 ≤ s ∧ s < 6) then -1 else if w < 0 ∨ 2 < w then -1 else if A 2 s.toNat = 0 then -11 else if w = 0 then A 1 s.toNat + 1000 else if w = 1 then A 2 s.toNat else if zfn (A (10 + s.toNat)) (A 2 s.toNat) 81 0 < 0 then -5 else A 1 s.toNat + zfn (A (10 + s.toNat)) (A 2 s.toNat) 81 0 + 1000
theorem ok_X6_firstNonzero {c : Nat} {n : Int} {L : Nat → Int} (hc : zS c 6 3) (hn : μ c 2 = n) (hn80 : 0 ≤ n ∧ n ≤ 80) (hL : ∀ (k : Nat), (k : Int) < n → μ (c + 1) k = L k) (hLr : ∀ (k : Nat), (k : Int) < n → zR (L k)) (h : φ (zfn L n 81 0) μ) : zOi g zm_X6_firstNonzero [.ref c] μ φ := by
  refine sg_X6_firstNonzero hc ?_
  have loop : ∀ f t : Nat, f + t = 81 → φ (zfn L n f t) μ → at_X6_firstNonzero_2 g φ c (t : Int) μ := by
    intro f
    induction f with
    | zero =>
      intro t ht hh
      exact sg_X6_firstNonzero_2 hc ⟨by omega, by omega, fun _ => hh, fun hc => absurd hc (by omega)⟩
    | succ f ih =>
      intro t ht hh
      rw [zfn] at hh
      refine sg_X6_firstNonzero_2 hc ⟨by omega, by omega, fun hq => ?_, fun hq => ?_⟩
      · rw [if_pos (by omega)] at hh; exact hh
      · rw [if_neg (by omega)] at hh
        rw [Int.toNat_natCast, hL t (by omega)]
        refine ⟨by omega, hLr t (by omega), fun hq2 => ?_, fun hq2 => ?_⟩
        · rw [if_pos hq2] at hh
          have := ih (t + 1) (by omega) hh
          rw [Int.natCast_add] at this
          exact this
        · rw [if_neg hq2] at hh; exact hh
  exact loop 81 0 (by omega) h
theorem cx_of {s w : Int} (hw : zWF A) (hR : zRC A μ) (hs : zR s) (hv : zR w) (h : zHc φ μ (rd_of A s w, A)) : zOi g zm_X10_of [.ref 0, .int (zJ s), .int (zJ w)] μ φ := by
  refine sg_X10_of (ok_X10_isSeries hs (fun h1 => ?_) (fun h1 => ⟨by omega, fun _ => h.rd (if_pos h1) hR (zKm.refl μ), fun hc => absurd rfl hc⟩))
  obtain ⟨t1, t2, t3⟩ := zRC_sr hR (s := s.toNat) (by omega)
  obtain ⟨b1, b2, b3⟩ := zWF_s hw (s := s.toNat) (by omega)
  have hp := zWF_p hw
  refine ⟨by omega, fun hc => absurd hc (by omega), fun _ => ⟨hv, fun _ => h.rd ((if_neg (by omega)).trans (if_pos (by omega))) hR (zKm.refl μ), fun _ => ⟨fun _ => ⟨h1, ok_X6_isMissing (zsr _ (by omega)).1 (by omega) (fun h2 => ⟨by omega, fun _ => ?_, fun hc => absurd rfl hc⟩) (fun h2 => ⟨by omega, fun hc => absurd hc (by omega), fun _ => h.rd ((if_neg (by omega)).trans ((if_neg (by omega)).trans (if_pos (by omega)))) hR (zKm.refl μ)⟩)⟩, fun _ => h.rd ((if_neg (by omega)).trans (if_pos (by omega))) hR (zKm.refl μ)⟩⟩⟩
  have e : ∀ r, rd_of A s w = r ↔ (if w = 0 then A 1 s.toNat + 1000 else if w = 1 then A 2 s.toNat else if zfn (A (10 + s.toNat)) (A 2 s.toNat) 81 0 < 0 then -5 else A 1 s.toNat + zfn (A (10 + s.toNat)) (A 2 s.toNat) 81 0 + 1000) = r := fun r => by
    unfold rd_of
    rw [if_neg (by omega), if_neg (by omega), if_neg (by omega)]
  have hz := zfn_bd (L := A (10 + s.toNat)) (n := A 2 s.toNat) 81 0
  refine ⟨fun q0 => ⟨fun q1 => ok_X6_firstNonzero (zsr _ (by omega)).1 t2 b2 (L := A (10 + s.toNat)) (fun k hk => ?_) (fun k hk => ?_) ⟨by omega, fun q2 => h.rd ((e _).2 ((if_neg q0).trans ((if_neg q1).trans ((if_neg (by omega)).trans (by rw [t1]))))) hR (zKm.refl μ), fun q2 => h.rd ((e _).2 ((if_neg q0).trans ((if_neg q1).trans (if_pos (by omega))))) hR (zKm.refl μ)⟩, fun q1 => h.rd ((e _).2 ((if_neg q0).trans ((if_pos q1).trans t2.symm))) hR (zKm.refl μ)⟩, fun q0 => h.rd ((e _).2 ((if_pos q0).trans (by rw [t1]))) hR (zKm.refl μ)⟩
  · rw [show 7 + 2 * s.toNat + 1 = 8 + 2 * s.toNat by omega]; exact t3 k hk
  · have := b3 k (by omega); omega
theorem mo_of63 {s : Nat} {n : Int} {L : Nat → Int} {a : Int} (hs : s < 6) (hn : μ 205 s = n) (ha : μ 204 s = a) (hn80 : 0 ≤ n ∧ n ≤ 80) (hL : ∀ (k : Nat), (k : Int) < n → μ 206 (80 * s + k) = L k) (hLr : ∀ (k : Nat), (k : Int) < n → zR (L k))
    (h : φ (if zfn L n 81 0 < 0 then -5 else a + zfn L n 81 0 + 1000) μ) : at_X11_of_63 g φ (s : Int) 0 μ := by
  have loop : ∀ f t : Nat, f + t = 81 → φ (if zfn L n f t < 0 then -5 else a + zfn L n f t + 1000) μ → at_X11_of_63 g φ (s : Int) (t : Int) μ := by
    intro f
    induction f with
    | zero =>
      intro t ht hh
      exact sg_X11_of_63 ⟨by omega, by omega, by rw [Int.toNat_natCast]; omega, fun _ => hh, fun hc => absurd hc (by rw [Int.toNat_natCast]; omega)⟩
    | succ f ih =>
      intro t ht hh
      rw [zfn] at hh
      refine sg_X11_of_63 ⟨by omega, by omega, by rw [Int.toNat_natCast]; omega, fun hq => ?_, fun hq => ?_⟩
      · rw [Int.toNat_natCast] at hq
        rw [if_pos (show n ≤ (t : Int) by omega), if_pos (by omega)] at hh; exact hh
      · rw [Int.toNat_natCast] at hq
        rw [if_neg (show ¬ n ≤ (t : Int) by omega)] at hh
        rw [show Int.toNat (80 * (s : Int) + (t : Int)) = 80 * s + t by omega, hL t (by omega)]
        refine ⟨by omega, hLr t (by omega), fun hq2 => ?_, fun hq2 => ?_⟩
        · rw [if_pos hq2] at hh
          have := ih (t + 1) (by omega) hh
          rw [Int.natCast_add] at this
          exact this
        · rw [if_neg hq2, if_neg (by omega)] at hh
          rw [Int.toNat_natCast, ha]; exact hh
  exact loop 81 0 (by omega) h
theorem mx_of {s w : Int} (hw : zWF A) (hR : zRM A μ) (hs : zR s) (hv : zR w) (h : zHm φ μ (rd_of A s w, A)) : zOi g zm_X11_of [.ref 203, .int (zJ s), .int (zJ w)] μ φ := by
  refine sg_X11_of (ok_X11_isSeries hs (fun h1 => ?_) (fun h1 => ⟨by omega, fun _ => h.rd (if_pos h1) hR (zKc.refl μ), fun hc => absurd rfl hc⟩))
  obtain ⟨s, rfl⟩ : ∃ q : Nat, s = q := ⟨s.toNat, by omega⟩
  obtain ⟨t1, t2, t3⟩ := zRM_sr hR (s := s) (by omega)
  obtain ⟨b1, b2, b3⟩ := zWF_s hw (s := s) (by omega)
  have hp := zWF_p hw
  unfold rd_of at h
  rw [if_neg (by omega), Int.toNat_natCast] at h
  refine ⟨by omega, fun hc => absurd hc (by omega), fun _ => ⟨hv, ok_X11_in (by omega) (by omega) (by omega) (fun h2 => ⟨by omega, fun _ => ok_X11_isThere (by omega) (by omega) (fun h3 => ⟨by omega, fun _ => ?_, fun hc => absurd hc (by omega)⟩) (fun h3 => ⟨by omega, fun hc => absurd rfl hc, fun _ => h.rd ((if_neg (by omega)).trans (if_pos (by omega))) hR (zKc.refl μ)⟩), fun hc => absurd hc (by omega)⟩) (fun h2 => ⟨by omega, fun hc => absurd rfl hc, fun _ => h.rd (if_pos (by omega)) hR (zKc.refl μ)⟩)⟩⟩
  rw [if_neg (by omega), if_neg (by omega)] at h
  refine ⟨fun q => mo_of63 (L := A (10 + s)) (by omega) t2 t1 b2 t3 (fun k hk => ?_) (h.rd ((if_neg (by omega)).trans (if_neg (by omega))) hR (zKc.refl μ)), fun q => ⟨fun q0 => ⟨h1, h.rd ((if_neg q0).trans ((if_pos (by omega)).trans (by rw [Int.toNat_natCast]; exact t2.symm))) hR (zKc.refl μ)⟩, fun q0 => ⟨h1, h.rd ((if_pos q0).trans (by rw [Int.toNat_natCast, t1])) hR (zKc.refl μ)⟩⟩⟩
  have := b3 k (by omega); omega
def rd_co (A : zMu) (s e : Int) : Int := if ¬ (0 ≤ s ∧ s < 6) then -1 else if A 2 s.toNat = 0 then -11 else if A 1 s.toNat + A 2 s.toNat - 1 < e then -5 else if e < A 1 s.toNat then 0 else A (10 + s.toNat) (e - A 1 s.toNat).toNat
/-- a series' number at an exponent up to the last -/
def zat (A : zMu) (s : Nat) (e : Int) : Int := if e < A 1 s then 0 else A (10 + s) (e - A 1 s).toNat
theorem ok_X6_valueOf {s : Nat} {e : Int} (hw : zWF A) (hR : zRC A μ) (hs : s < 6) (he : zR e) (hl : e ≤ A 1 s + A 2 s - 1) (h : φ (zat A s e) μ) : zOi g zm_X6_valueOf [.ref (7 + 2 * s), .int (zJ e)] μ φ := by
  obtain ⟨t1, t2, t3⟩ := zRC_sr hR hs
  obtain ⟨b1, b2, b3⟩ := zWF_s hw hs
  unfold zat at h
  refine sg_X6_valueOf (zsr s hs).1 ⟨he, by omega, fun q => ⟨by omega, ?_⟩, fun q => ?_⟩
  · rw [if_neg (by omega)] at h
    rw [show 7 + 2 * s + 1 = 8 + 2 * s by omega, t1, t3 _ (by omega)]
    exact h
  · rw [if_pos (by omega)] at h; exact h
theorem cx_coefficient {s e : Int} (hw : zWF A) (hR : zRC A μ) (hs : zR s) (he : zR e) (h : zHc φ μ (rd_co A s e, A)) : zOi g zm_X10_coefficient [.ref 0, .int (zJ s), .int (zJ e)] μ φ := by
  refine sg_X10_coefficient (ok_X10_isSeries hs (fun h1 => ?_) (fun h1 => ⟨by omega, fun hc => absurd rfl hc, fun _ => h.rd (if_pos h1) hR (zKm.refl μ)⟩))
  obtain ⟨t1, t2, t3⟩ := zRC_sr hR (s := s.toNat) (by omega)
  obtain ⟨b1, b2, b3⟩ := zWF_s hw (s := s.toNat) (by omega)
  refine ⟨by omega, fun _ => ⟨h1, ok_X6_isMissing (zsr _ (by omega)).1 (by omega) (fun h2 => ⟨by omega, fun _ => sg_X6_last (zsr _ (by omega)).1 ⟨he, by omega, fun q => ok_X6_valueOf hw hR (by omega) he (by omega) (h.rd ((if_neg (by omega)).trans ((if_neg (by omega)).trans (if_neg (by omega)))) hR (zKm.refl μ)), fun q => h.rd ((if_neg (by omega)).trans ((if_neg (by omega)).trans (if_pos (by omega)))) hR (zKm.refl μ)⟩, fun hc => absurd rfl hc⟩) (fun h2 => ⟨by omega, fun hc => absurd hc (by omega), fun _ => h.rd ((if_neg (by omega)).trans (if_pos (by omega))) hR (zKm.refl μ)⟩)⟩, fun hc => absurd hc (by omega)⟩
theorem ok_X11_numberOf {s : Nat} {e : Int} (hw : zWF A) (hR : zRM A μ) (hs : s < 6) (he : zR (e - A 1 s)) (hl : e ≤ A 1 s + A 2 s - 1) (h : φ (zat A s e) μ) : zOi g zm_X11_numberOf [.ref 203, .int (zJ (s : Int)), .int (zJ e)] μ φ := by
  obtain ⟨t1, t2, t3⟩ := zRM_sr hR hs
  obtain ⟨b1, b2, b3⟩ := zWF_s hw hs
  unfold zat at h
  refine sg_X11_numberOf ?_
  rw [Int.toNat_natCast, t1, t2]
  refine ⟨by omega, he, by omega, ok_X11_in (by omega) (by omega) (by omega) (fun q => ⟨by omega, fun hc => absurd hc (by omega), fun _ => ?_⟩) (fun q => ⟨by omega, fun _ => ?_, fun hc => absurd rfl hc⟩)⟩
  · rw [if_neg (by omega)] at h
    rw [t1, show Int.toNat (80 * (s : Int) + e - A 1 s) = 80 * s + (e - A 1 s).toNat by omega, t3 _ (by omega)]
    exact ⟨by omega, h⟩
  · rw [if_pos (by omega)] at h; exact h
theorem mx_coefficient {s e : Int} (hw : zWF A) (hR : zRM A μ) (hs : zR s) (he : zR e) (h : zHm φ μ (rd_co A s e, A)) : zOi g zm_X11_coefficient [.ref 203, .int (zJ s), .int (zJ e)] μ φ := by
  refine sg_X11_coefficient (ok_X11_isSeries hs (fun h1 => ?_) (fun h1 => ⟨by omega, fun hc => absurd rfl hc, fun _ => h.rd (if_pos h1) hR (zKc.refl μ)⟩))
  obtain ⟨s, rfl⟩ : ∃ q : Nat, s = q := ⟨s.toNat, by omega⟩
  obtain ⟨t1, t2, t3⟩ := zRM_sr hR (s := s) (by omega)
  obtain ⟨b1, b2, b3⟩ := zWF_s hw (s := s) (by omega)
  unfold rd_co at h
  rw [if_neg (by omega), Int.toNat_natCast] at h
  refine ⟨by omega, fun _ => ok_X11_isThere (by omega) (by omega) (fun h3 => ⟨by omega, fun _ => ?_, fun hc => absurd hc (by omega)⟩) (fun h3 => ⟨by omega, fun hc => absurd rfl hc, fun _ => h.rd (if_pos (by omega)) hR (zKc.refl μ)⟩), fun hc => absurd hc (by omega)⟩
  rw [if_neg (by omega)] at h
  rw [Int.toNat_natCast, t1, t2]
  have hz := zcmp_3 (e - A 1 s) (A 2 s)
  refine ⟨h1, he, by omega, fun q => ⟨by omega, by omega, by omega, by omega, fun q2 => h.rd (if_pos (by omega)) hR (zKc.refl μ), fun q2 => ok_X11_numberOf hw hR (by omega) (by omega) (by omega) (h.rd (if_neg (by omega)) hR (zKc.refl μ))⟩, fun q => h.rd ((if_neg (by omega)).trans (if_pos (by omega))) hR (zKc.refl μ)⟩
def rd_term (A : zMu) (i k : Int) : Int := if i < 0 ∨ 8 < i ∨ k < 0 ∨ 8 < k then -1 else if A 3 0 = 0 then -11 else if A 3 0 < i ∨ A 3 0 < k then -1 else A 4 (9 * i.toNat + k.toNat)
theorem cx_term {i k : Int} (hw : zWF A) (hR : zRC A μ) (hi : zR i) (hk : zR k) (h : zHc φ μ (rd_term A i k, A)) : zOi g zm_X10_term [.ref 0, .int (zJ i), .int (zJ k)] μ φ := by
  have hd := zWF_d hw
  obtain ⟨t1, t2⟩ := zRC_eq hR
  refine sg_X10_term ⟨hi, fun _ => h.rd (if_pos (by omega)) hR (zKm.refl μ), fun _ => ⟨fun _ => h.rd (if_pos (by omega)) hR (zKm.refl μ), fun _ => ⟨hk, fun _ => h.rd (if_pos (by omega)) hR (zKm.refl μ), fun _ => ⟨fun _ => ?_, fun _ => h.rd (if_pos (by omega)) hR (zKm.refl μ)⟩⟩⟩⟩
  refine ok_X3_isMissing zc_3 (by omega) (fun h2 => ⟨by omega, fun _ => sg_X3_has zc_3 ⟨hi, by omega, fun _ => ⟨by omega, fun _ => h.rd ((if_neg (by omega)).trans ((if_neg (by omega)).trans (if_pos (by omega)))) hR (zKm.refl μ), fun hc => absurd rfl hc⟩, fun _ => ⟨hk, fun _ => ⟨by omega, fun _ => h.rd ((if_neg (by omega)).trans ((if_neg (by omega)).trans (if_pos (by omega)))) hR (zKm.refl μ), fun hc => absurd rfl hc⟩, fun _ => ⟨by omega, fun hc => absurd hc (by omega), fun _ => ⟨by omega, ?_⟩⟩⟩⟩, fun hc => absurd rfl hc⟩) (fun h2 => ⟨by omega, fun hc => absurd hc (by omega), fun _ => h.rd ((if_neg (by omega)).trans (if_pos (by omega))) hR (zKm.refl μ)⟩)
  rw [show Int.toNat (9 * i + k) = 9 * i.toNat + k.toNat by omega, t2 (by omega) _ (by omega)]
  exact h.rd ((if_neg (by omega)).trans ((if_neg (by omega)).trans (if_neg (by omega)))) hR (zKm.refl μ)
theorem ok_X11_termAt {i k : Nat} (hw : zWF A) (hR : zRM A μ) (h0 : A 3 0 ≠ 0) (hi : (i : Int) ≤ A 3 0) (hk : (k : Int) ≤ A 3 0) (h : φ (A 4 (9 * i + k)) μ) : zOi g zm_X11_termAt [.ref 203, .int (zJ (i : Int)), .int (zJ (k : Int))] μ φ := by
  have hd := zWF_d hw
  refine sg_X11_termAt (sg_X11_place ?_)
  rw [zRM_d hR]
  have e := zRM_e hR h0 i k hi hk
  obtain ⟨d, hdd⟩ : ∃ d : Nat, A 3 0 = d := ⟨(A 3 0).toNat, by omega⟩
  rw [hdd] at hi hk hd e ⊢
  rw [Int.toNat_natCast] at e
  have hb : (d + 1) * i ≤ 9 * d ∧ (d + 1) * i ≤ 72 := by
    have h1 : (d + 1) * i ≤ (d + 1) * d := Nat.mul_le_mul_left _ (by omega)
    have h2 : (d + 1) * d ≤ 9 * d := Nat.mul_le_mul_right _ (by omega)
    omega
  have e2 : ((d : Int) + 1) * i + k = (((d + 1) * i + k : Nat) : Int) := by
    rw [Int.natCast_add, Int.natCast_mul, Int.natCast_add]; rfl
  rw [e2, Int.toNat_natCast, e]
  exact ⟨by omega, h⟩
theorem mx_term {i k : Int} (hw : zWF A) (hR : zRM A μ) (hi : zR i) (hk : zR k) (h : zHm φ μ (rd_term A i k, A)) : zOi g zm_X11_term [.ref 203, .int (zJ i), .int (zJ k)] μ φ := by
  have hd := zWF_d hw
  have e := zRM_d hR
  refine sg_X11_term ⟨hi, ok_X11_in (by omega) (by omega) (by omega) (fun h1 => ⟨by omega, fun hc => absurd hc (by omega), fun _ => ⟨hk, ok_X11_in (by omega) (by omega) (by omega) (fun h2 => ⟨by omega, fun _ => ⟨by omega, fun h3 => ⟨fun _ => h.rd ((if_neg (by omega)).trans ((if_neg (by omega)).trans (if_pos (by omega)))) hR (zKc.refl μ), fun _ => ⟨fun _ => h.rd ((if_neg (by omega)).trans ((if_neg (by omega)).trans (if_pos (by omega)))) hR (zKc.refl μ), fun _ => ?_⟩⟩, fun _ => h.rd ((if_neg (by omega)).trans (if_pos (by omega))) hR (zKc.refl μ)⟩, fun hc => absurd hc (by omega)⟩) (fun h2 => ⟨by omega, fun hc => absurd rfl hc, fun _ => h.rd (if_pos (by omega)) hR (zKc.refl μ)⟩)⟩⟩) (fun h1 => ⟨by omega, fun _ => h.rd (if_pos (by omega)) hR (zKc.refl μ), fun hc => absurd rfl hc⟩)⟩
  obtain ⟨i, rfl⟩ : ∃ q : Nat, i = q := ⟨i.toNat, by omega⟩
  obtain ⟨k, rfl⟩ : ∃ q : Nat, k = q := ⟨k.toNat, by omega⟩
  refine ok_X11_termAt hw hR (by omega) (by omega) (by omega) (h.rd ((if_neg (by omega)).trans ((if_neg (by omega)).trans (if_neg (by omega)))) hR (zKc.refl μ))
/-- how many series there are, how many kept -/
def zsc (A : zMu) : Int := zct (fun s => decide (A 2 s ≠ 0)) 6
def zkc (A : zMu) : Int := zct (fun q => decide (A 5 q ≠ 0)) 8
theorem ok_X0_seriesCount (hw : zWF A) (hR : zRC A μ) (h : φ (zsc A) μ) : zOi g zm_X0_seriesCount [.ref 1] μ φ := by
  refine sg_X0_seriesCount zc_1 ?_
  have loop : ∀ m t : Nat, t + m = 6 → at_X0_seriesCount_4 g φ 1 (zct (fun s => decide (A 2 s ≠ 0)) t) (t : Int) μ := by
    intro m
    induction m with
    | zero =>
      intro t ht
      have e : t = 6 := by omega
      subst e
      exact sg_X0_seriesCount_4 zc_1 ⟨by omega, fun _ => h, fun hc => absurd hc (by omega)⟩
    | succ m ih =>
      intro t ht
      have k2 := ih (t + 1) (by omega)
      rw [Int.natCast_add, zct] at k2
      obtain ⟨t1, t2, t3⟩ := zRC_sr hR (s := t) (by omega)
      have hb := (zWF_s hw (s := t) (by omega)).2.1
      refine sg_X0_seriesCount_4 zc_1 ⟨by omega, fun hc => absurd hc (by omega), fun _ => ⟨by omega, ?_⟩⟩
      rw [Int.toNat_natCast, show 1 + 6 + 2 * t = 7 + 2 * t by omega]
      refine ok_X6_isMissing (zsr t (by omega)).1 (by omega) (fun q => ⟨by omega, fun hc => absurd rfl hc, fun _ => ?_⟩) (fun q => ⟨by omega, fun _ => ?_, fun hc => absurd hc (by omega)⟩)
      · rw [if_pos (decide_eq_true (by omega))] at k2; exact k2
      · rw [if_neg (by rw [decide_eq_true_eq]; omega), Int.add_zero] at k2; exact k2
  exact loop 6 0 (by omega)
theorem ok_X0_keptCount (hw : zWF A) (hR : zRC A μ) (h : φ (zkc A) μ) : zOi g zm_X0_keptCount [.ref 1] μ φ := by
  refine sg_X0_keptCount zc_1 ?_
  have loop : ∀ m t : Nat, t + m = 8 → at_X0_keptCount_4 g φ 1 (zct (fun q => decide (A 5 q ≠ 0)) t) (t : Int) μ := by
    intro m
    induction m with
    | zero =>
      intro t ht
      have e : t = 8 := by omega
      subst e
      exact sg_X0_keptCount_4 zc_1 ⟨by omega, fun _ => h, fun hc => absurd hc (by omega)⟩
    | succ m ih =>
      intro t ht
      have k2 := ih (t + 1) (by omega)
      rw [Int.natCast_add, zct] at k2
      have t1 := zRC_k hR (q := t) (by omega)
      have hb := zWF_k hw (q := t) (by omega)
      refine sg_X0_keptCount_4 zc_1 ⟨by omega, fun hc => absurd hc (by omega), fun _ => ⟨by omega, ?_⟩⟩
      rw [Int.toNat_natCast, show 1 + 18 + 2 * t = 19 + 2 * t by omega]
      have e : zR (μ (19 + 2 * t) 1) ∧ (μ (19 + 2 * t) 1 = 0 ↔ A 5 t = 0) := by
        rcases t1 with q | q
        · exact ⟨by omega, by omega⟩
        · rcases hb with b | b
          · exact absurd b q.1
          · have := b.2.1; have := q.2.1
            exact ⟨by omega, by constructor <;> intro <;> omega⟩
      refine ok_X3_isMissing (zsk t (by omega)).1 e.1 (fun q => ⟨by omega, fun hc => absurd rfl hc, fun _ => ?_⟩) (fun q => ⟨by omega, fun _ => ?_, fun hc => absurd hc (by omega)⟩)
      · rw [if_pos (decide_eq_true (show A 5 t ≠ 0 from fun hq => q (e.2.2 hq)))] at k2; exact k2
      · rw [if_neg (by rw [decide_eq_true_eq]; exact fun hq => hq (e.2.1 q)), Int.add_zero] at k2; exact k2
  exact loop 8 0 (by omega)
theorem ok_X11_seriesMany (hw : zWF A) (hR : zRM A μ) (h : φ (zsc A) μ) : zOi g zm_X11_seriesMany [.ref 203] μ φ := by
  refine sg_X11_seriesMany ?_
  have loop : ∀ m t : Nat, t + m = 6 → at_X11_seriesMany_4 g φ (zct (fun s => decide (A 2 s ≠ 0)) t) (t : Int) μ := by
    intro m
    induction m with
    | zero =>
      intro t ht
      have e : t = 6 := by omega
      subst e
      exact sg_X11_seriesMany_4 ⟨by omega, fun _ => h, fun hc => absurd hc (by omega)⟩
    | succ m ih =>
      intro t ht
      have k2 := ih (t + 1) (by omega)
      rw [Int.natCast_add, zct] at k2
      obtain ⟨t1, t2, t3⟩ := zRM_sr hR (s := t) (by omega)
      have hb := (zWF_s hw (s := t) (by omega)).2.1
      refine sg_X11_seriesMany_4 ⟨by omega, fun hc => absurd hc (by omega), fun _ => ?_⟩
      refine ok_X11_isThere (by omega) (by omega) (fun q => ⟨by omega, fun hc => absurd hc (by omega), fun _ => ?_⟩) (fun q => ⟨by omega, fun _ => ?_, fun hc => absurd rfl hc⟩)
      · rw [if_pos (decide_eq_true (by omega))] at k2; exact k2
      · rw [if_neg (by rw [decide_eq_true_eq]; omega)] at k2; exact k2
  exact loop 6 0 (by omega)
theorem zWF_k0 (hw : zWF A) {q : Nat} (hq : q < 8) : 0 ≤ A 5 q ∧ A 5 q ≤ 199 := by
  rcases zWF_k hw hq with h | h
  · omega
  · have := zP_bd h.1; omega
theorem ok_X11_keptPrime {q : Nat} (hR : zRM A μ) (hq : q < 8) (h : φ (A 5 q) μ) : zOi g zm_X11_keptPrime [.ref 203, .int (zJ (q : Int))] μ φ := by
  refine sg_X11_keptPrime ⟨by omega, ?_⟩
  rw [show Int.toNat (83 * (q : Int)) = 83 * q by omega, (zRM_k hR hq).1]
  exact h
theorem ok_X11_keptMany (hw : zWF A) (hR : zRM A μ) (h : φ (zkc A) μ) : zOi g zm_X11_keptMany [.ref 203] μ φ := by
  refine sg_X11_keptMany ?_
  have loop : ∀ m t : Nat, t + m = 8 → at_X11_keptMany_4 g φ (zct (fun q => decide (A 5 q ≠ 0)) t) (t : Int) μ := by
    intro m
    induction m with
    | zero =>
      intro t ht
      have e : t = 8 := by omega
      subst e
      exact sg_X11_keptMany_4 ⟨by omega, fun _ => h, fun hc => absurd hc (by omega)⟩
    | succ m ih =>
      intro t ht
      have k2 := ih (t + 1) (by omega)
      rw [Int.natCast_add, zct] at k2
      have hb := zWF_k0 hw (q := t) (by omega)
      refine sg_X11_keptMany_4 ⟨by omega, fun hc => absurd hc (by omega), fun _ => ok_X11_keptPrime hR (by omega) ⟨by omega, fun q => ?_, fun q => ?_⟩⟩
      · rw [if_neg (by rw [decide_eq_true_eq]; omega)] at k2; exact k2
      · rw [if_pos (decide_eq_true (by omega))] at k2; exact k2
  exact loop 8 0 (by omega)
def rd_count (A : zMu) (w : Int) : Int := if w = 0 then A 0 0 else if w = 1 then zsc A else if w = 2 then zkc A else if w = 3 then A 40 0 else if w = 4 then A 42 0 else -2
theorem cx_count {w : Int} (hw : zWF A) (hR : zRC A μ) (hv : zR w) (h : zHc φ μ (rd_count A w, A)) : zOi g zm_X10_count [.ref 0, .int (zJ w)] μ φ := by
  unfold rd_count at h
  refine sg_X10_count ⟨hv, fun q => h.rd ((if_neg (by omega)).trans ((if_neg (by omega)).trans ((if_neg (by omega)).trans ((if_neg (by omega)).trans (if_neg (by omega)))))) hR (zKm.refl μ), fun q => h.rd ((if_pos q).trans (zRC_p0 hR).symm) hR (zKm.refl μ), fun q => ok_X0_seriesCount hw hR (h.rd ((if_neg (by omega)).trans (if_pos q)) hR (zKm.refl μ)), fun q => ok_X0_keptCount hw hR (h.rd ((if_neg (by omega)).trans ((if_neg (by omega)).trans (if_pos q))) hR (zKm.refl μ)), fun q => h.rd ((if_neg (by omega)).trans ((if_neg (by omega)).trans ((if_neg (by omega)).trans ((if_pos q).trans hR.2.2.2.1.1.symm)))) hR (zKm.refl μ), fun q => h.rd ((if_neg (by omega)).trans ((if_neg (by omega)).trans ((if_neg (by omega)).trans ((if_neg (by omega)).trans ((if_pos q).trans hR.2.2.2.2.1.1.symm))))) hR (zKm.refl μ)⟩
theorem mx_count {w : Int} (hw : zWF A) (hR : zRM A μ) (hv : zR w) (h : zHm φ μ (rd_count A w, A)) : zOi g zm_X11_count [.ref 203, .int (zJ w)] μ φ := by
  unfold rd_count at h
  refine sg_X11_count ⟨hv, fun q => h.rd ((if_neg (by omega)).trans ((if_neg (by omega)).trans ((if_neg (by omega)).trans ((if_neg (by omega)).trans (if_neg (by omega)))))) hR (zKc.refl μ), fun q => h.rd ((if_pos q).trans (zRM_p0 hR).symm) hR (zKc.refl μ), fun q => ok_X11_seriesMany hw hR (h.rd ((if_neg (by omega)).trans (if_pos q)) hR (zKc.refl μ)), fun q => ok_X11_keptMany hw hR (h.rd ((if_neg (by omega)).trans ((if_neg (by omega)).trans (if_pos q))) hR (zKc.refl μ)), fun q => h.rd ((if_neg (by omega)).trans ((if_neg (by omega)).trans ((if_neg (by omega)).trans ((if_pos q).trans hR.2.2.1.1.symm)))) hR (zKc.refl μ), fun q => h.rd ((if_neg (by omega)).trans ((if_neg (by omega)).trans ((if_neg (by omega)).trans ((if_neg (by omega)).trans ((if_pos q).trans hR.2.2.2.1.1.symm))))) hR (zKc.refl μ)⟩
/-- the kept moduli's product -/
def zkp (A : zMu) : Nat → Int
  | 0 => 1
  | n + 1 => zkp A n * if A 5 n = 0 then 1 else A 5 n
def rd_whole (A : zMu) : Int := if zkc A = 0 then -9223372036854775808 else zkp A 8
theorem cx_whole (hw : zWF A) (hR : zRC A μ) (h : zHc φ μ (rd_whole A, A)) : zOl g zm_X10_whole [.ref 0] μ φ := by
  have hz := zct_bd (P := fun q => decide (A 5 q ≠ 0)) (n := 8)
  refine sg_X10_whole (ok_X0_keptCount hw hR ⟨by unfold zkc; omega, fun h1 => sg_X0_keptProduct zc_1 ?_, fun h1 => h.rd (if_pos h1) hR (zKm.refl μ)⟩)
  have loop : ∀ m t : Nat, t + m = 8 → at_X0_keptProduct_4 g φ 1 (zkp A t) (t : Int) μ := by
    intro m
    induction m with
    | zero =>
      intro t ht
      have e : t = 8 := by omega
      subst e
      exact sg_X0_keptProduct_4 zc_1 ⟨by omega, fun _ => h.rd (if_neg h1) hR (zKm.refl μ), fun hc => absurd hc (by omega)⟩
    | succ m ih =>
      intro t ht
      have k2 := ih (t + 1) (by omega)
      rw [Int.natCast_add, zkp] at k2
      have t1 := zRC_k hR (q := t) (by omega)
      have hb := zWF_k hw (q := t) (by omega)
      have hb0 := zWF_k0 hw (q := t) (by omega)
      refine sg_X0_keptProduct_4 zc_1 ⟨by omega, fun hc => absurd hc (by omega), fun _ => ⟨by omega, ?_⟩⟩
      rw [Int.toNat_natCast, show 1 + 18 + 2 * t = 19 + 2 * t by omega]
      rcases t1 with q | q
      · rw [if_pos q.1, Int.mul_one] at k2
        exact ok_X3_isMissing (zsk t (by omega)).1 (by omega) (fun q2 => absurd q.2 q2) (fun _ => ⟨by omega, fun _ => k2, fun hc => absurd hc (by omega)⟩)
      · rw [if_neg q.1] at k2
        have b := (hb.resolve_left q.1).2.1
        refine ok_X3_isMissing (zsk t (by omega)).1 (by omega) (fun _ => ⟨by omega, fun hc => absurd rfl hc, fun _ => ?_⟩) (fun q2 => by omega)
        rw [show 1 + 5 = 6 from rfl, q.2.2.1]
        exact ⟨by omega, k2⟩
  exact loop 8 0 (by omega)
theorem mx_whole (hw : zWF A) (hR : zRM A μ) (h : zHm φ μ (rd_whole A, A)) : zOl g zm_X11_whole_ [.ref 203] μ φ := by
  have hz := zct_bd (P := fun q => decide (A 5 q ≠ 0)) (n := 8)
  refine sg_X11_whole_ ?_
  have loop : ∀ m t : Nat, t + m = 8 → at_X11_whole__4 g φ (zkp A t) (t : Int) μ := by
    intro m
    induction m with
    | zero =>
      intro t ht
      have e : t = 8 := by omega
      subst e
      exact sg_X11_whole__4 ⟨by omega, fun _ => ok_X11_keptMany hw hR ⟨by unfold zkc; omega, fun h1 => h.rd (if_neg h1) hR (zKc.refl μ), fun h1 => h.rd (if_pos h1) hR (zKc.refl μ)⟩, fun hc => absurd hc (by omega)⟩
    | succ m ih =>
      intro t ht
      have k2 := ih (t + 1) (by omega)
      rw [Int.natCast_add, zkp] at k2
      have hb0 := zWF_k0 hw (q := t) (by omega)
      refine sg_X11_whole__4 ⟨by omega, fun hc => absurd hc (by omega), fun _ => ok_X11_keptPrime hR (by omega) ⟨by omega, fun q => ?_, fun q => ok_X11_keptPrime hR (by omega) ⟨by omega, ?_⟩⟩⟩
      · rw [if_pos (by omega)] at k2; exact k2
      · rw [if_neg (by omega)] at k2; exact k2
  exact loop 8 0 (by omega)
end READS
