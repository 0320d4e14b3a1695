/-! NEIGHBOUR: the class -/
section NBO
variable {g : zG} {μ A : zMu}
/-- what the graph says of v, when it has explored it -/
def zkn (A : zMu) (μ : zMu) (v : Nat) : Prop := match znbs (A 0 0) (A 3 0).toNat (A 4) (v : Int) with
  | none => μ 183 v = -1
  | some l => μ 183 v = (l.length : Int) ∧ ∀ k, k < l.length → μ 184 (8 * v + k) = l.getD k 0
theorem znbs_len {p v : Int} {d : Nat} {e : Nat → Int} {l : List Int} (h : znbs p d e v = some l) : l.length ≤ d := by
  unfold znbs at h
  have hb := ztp_bd (L := zln p d e v) (d + 1)
  by_cases hn : ztp (zln p d e v) (d + 1) < 0
  · rw [if_pos hn] at h; exact absurd h (by simp)
  · rw [if_neg hn] at h
    have := zNb_len (p := p) (f := 210) (top := (ztp (zln p d e v) (d + 1)).toNat) (L := zln p d e v) (w := 0)
    rw [← Option.some.inj h]; omega
theorem znbs_mem {p v : Int} {d : Nat} {e : Nat → Int} {l : List Int} (h : znbs p d e v = some l) {x : Int} (hx : x ∈ l) : 0 ≤ x ∧ x < p := by
  unfold znbs at h
  by_cases hn : ztp (zln p d e v) (d + 1) < 0
  · rw [if_pos hn] at h; exact absurd h (by simp)
  · rw [if_neg hn] at h
    rw [← Option.some.inj h] at hx
    exact zNb_bd (by omega) x hx
theorem ok_X2_explore {φ : zMu → Prop} {v : Nat} (hw : zWF A) (hR : zRC A μ) (h0 : A 3 0 ≠ 0) (hv : (v : Int) < A 0 0) (h : ∀ μ', zRC A μ' → (∀ (i : Nat), i ≠ 183 → i ≠ 184 → i ≠ 185 → μ' i = μ i) → zkn A μ' v → zR (μ' 183 v) → φ μ') : zOv g zm_X2_explore [.ref 182, .ref 1, .int (zJ (v : Int))] μ φ := by
  have hp := zWF_p hw
  have hd := zWF_d hw
  obtain ⟨t1, t2⟩ := zRC_eq hR
  have hg := hR.2.2.1 v (by omega)
  have hr : ∀ ν, zkn A ν v → zR (ν 183 v) := fun ν hk => by
    unfold zkn at hk
    cases hz : znbs (A 0 0) (A 3 0).toNat (A 4) (v : Int) with
    | none => rw [hz] at hk; dsimp only at hk; omega
    | some l =>
      rw [hz] at hk
      dsimp only at hk
      have := znbs_len hz
      omega
  refine sg_X2_explore zc_1 ⟨by omega, ?_⟩
  rw [Int.toNat_natCast]
  have hcase : μ 183 v = -2 ∨ (μ 183 v ≠ -2 ∧ zkn A μ v) := by
    by_cases e : μ 183 v = -2
    · exact Or.inl e
    · rcases hg with q | q
      · exact absurd q e
      · exact Or.inr ⟨e, q.2⟩
  rcases hcase with e | ⟨e, hk⟩
  · refine ⟨by omega, fun hc => absurd e hc, fun _ => ?_⟩
    rw [zRC_p0 hR, show 1 + 2 = 3 from rfl]
    refine ok_X2_listNeighbours (d := (A 3 0).toNat) (e := A 4) (by omega) (by omega) (by omega) hv (t2 h0) (zWF_e hw h0).1 (fun ν x g1 g2 g3 => ?_)
    have hk : zkn A (zup ν 183 v x) v := by
      unfold zkn
      cases hz : znbs (A 0 0) (A 3 0).toNat (A 4) (v : Int) with
      | none =>
        rw [hz] at g3
        dsimp only at g3 ⊢
        rw [zup_eq]; exact g3
      | some l =>
        rw [hz] at g3
        dsimp only at g3 ⊢
        rw [zup_eq]
        exact ⟨g3.1, fun k hk => by rw [zup_ne (Or.inl (by omega))]; exact g3.2 k hk⟩
    have fo : ∀ (i : Nat), i ≠ 183 → i ≠ 184 → i ≠ 185 → zup ν 183 v x i = μ i := fun i h1 h2 h3 => (zup_nc h1).trans (g1 i h2 h3)
    refine h _ (zRC_n hR (fun _ _ => rfl) (fun i hi => fo i (by omega) (by omega) (by omega)) (zCc_keep (fun _ _ _ => rfl) (fun i h1 h2 => fo i (by omega) (by omega) (by omega)) hR.1) (fun u hu => ?_)) fo hk (hr _ hk)
    by_cases huv : u = v
    · subst huv
      exact Or.inr ⟨h0, hk⟩
    · have hgu := hR.2.2.1 u hu
      unfold zCg at hgu ⊢
      rw [zup_ne (Or.inr huv), g1 183 (by omega) (by omega)]
      refine hgu.imp id (fun q => ⟨q.1, ?_⟩)
      have q2 := q.2
      cases hz : znbs (A 0 0) (A 3 0).toNat (A 4) (u : Int) with
      | none => rw [hz] at q2; exact q2
      | some l =>
        rw [hz] at q2
        dsimp only at q2 ⊢
        have hl := znbs_len hz
        refine ⟨q2.1, fun k hk => ?_⟩
        rw [zup_ne (Or.inl (by omega)), g2 _ (by omega)]
        exact q2.2 k hk
  · exact ⟨hr μ hk, fun _ => h μ hR (fun _ _ _ _ => rfl) hk (hr μ hk), fun hc => absurd hc e⟩
def rd_nb (A : zMu) (v k : Int) : Int := if ¬ (0 ≤ v ∧ v < A 0 0) ∨ k < -1 then -2 else if A 3 0 = 0 then -11 else match znbs (A 0 0) (A 3 0).toNat (A 4) v with
  | none => -3
  | some l => if k = -1 then (l.length : Int) else if k < l.length then l.getD k.toNat 0 else -5
theorem cx_neighbour {φ : Int → zMu → Prop} {v k : Int} (hw : zWF A) (hR : zRC A μ) (hv : zR v) (hk : zR k) (h : zHc φ μ (rd_nb A v k, A)) : zOi g zm_X10_neighbour [.ref 0, .int (zJ v), .int (zJ k)] μ φ := by
  have hp := zWF_p hw
  have hd := zWF_d hw
  have e0 := zRC_p0 hR
  obtain ⟨t1, t2⟩ := zRC_eq hR
  have h1 : ¬ (0 ≤ v ∧ v < A 0 0) ∨ k < -1 → φ (-2) μ := fun q => h.rd (if_pos q) hR (zKm.refl μ)
  refine sg_X10_neighbour (ok_X10_isValue hv (by omega) (fun qv => ⟨by omega, fun hc => absurd hc (by omega), fun _ => ⟨hk, fun _ => ?_, fun _ => h1 (by omega)⟩⟩) (fun q => ⟨by omega, fun _ => h1 (by omega), fun hc => absurd rfl hc⟩))
  unfold rd_nb at h
  rw [if_neg (by omega)] at h
  refine ok_X3_isMissing zc_3 (by omega) (fun m => ⟨by omega, fun _ => ?_, fun hc => absurd rfl hc⟩) (fun m => ⟨by omega, fun hc => absurd hc (by omega), fun _ => h.rd (if_pos (by omega)) hR (zKm.refl μ)⟩)
  have h0 : A 3 0 ≠ 0 := by omega
  rw [if_neg h0] at h
  obtain ⟨v, rfl⟩ : ∃ q : Nat, v = q := ⟨v.toNat, by omega⟩
  refine sg_X2_isDegenerate zc_1 (ok_X2_explore hw hR h0 (by omega) (fun ν hR1 f1 k1 r1 => ?_))
  have hK1 : zKm μ ν := fun i hi => f1 i (by omega) (by omega) (by omega)
  rw [Int.toNat_natCast]
  unfold zkn at k1
  cases hz : znbs (A 0 0) (A 3 0).toNat (A 4) (v : Int) with
  | none =>
    rw [hz] at k1 h
    dsimp only at k1 h
    exact ⟨by omega, r1, fun hc => absurd k1 hc, fun _ => ⟨by omega, fun hc => absurd hc (by omega), fun _ => h.rd rfl hR1 hK1⟩⟩
  | some l =>
    rw [hz] at k1 h
    dsimp only at k1 h
    have hl := znbs_len hz
    refine ⟨by omega, r1, fun _ => ⟨by omega, fun _ => ?_, fun hc => absurd rfl hc⟩, fun hc => by omega⟩
    refine sg_X2_sizeOf zc_1 (ok_X2_explore hw hR1 h0 (by omega) (fun ν2 hR2 f2 k2 r2 => ?_))
    have hK2 : zKm μ ν2 := hK1.trans (fun i hi => f2 i (by omega) (by omega) (by omega))
    unfold zkn at k2
    rw [hz] at k2
    dsimp only at k2
    rw [Int.toNat_natCast, k2.1, show max (l.length : Int) 0 = l.length by omega]
    refine ⟨by omega, by omega, fun hk1 => ⟨by omega, fun hkl => h.rd ((if_neg (by omega)).trans (if_neg (by omega))) hR2 hK2, fun hkl => sg_X2_neighbourOf ⟨by omega, ?_⟩⟩, fun hk1 => h.rd (if_pos hk1) hR2 hK2⟩
    rw [show Int.toNat (8 * (v : Int) + k) = 8 * v + k.toNat by omega, k2.2 _ (by omega)]
    exact h.rd ((if_neg hk1).trans (if_pos hkl)) hR2 hK2
end NBO
