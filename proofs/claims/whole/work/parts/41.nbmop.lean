/-! NEIGHBOUR: the model -/
section NMO
variable {g : zG} {μ A : zMu}
theorem ok_X11_tellsNeighbours {φ : Int → zMu → Prop} {v : Int} (hw : zWF A) (hR : zRM A μ) (h0 : A 3 0 ≠ 0) (hv : 0 ≤ v ∧ v < A 0 0)
    (h : ∀ (x : Int) (ν : zMu), zRM A ν → zKc μ ν → (∀ (i : Nat), i ≠ 203 → i ≠ 220 → i ≠ 221 → ν i = μ i) → (∀ (j : Nat), j ≠ 28 → ν 203 j = μ 203 j) → (match znbs (A 0 0) (A 3 0).toNat (A 4) v with
      | none => x = 0 ∧ ν 203 28 = 0
      | some l => x = 1 ∧ ν 203 28 = (l.length : Int) ∧ ∀ k, k < l.length → ν 221 k = l.getD k 0) → φ x ν) : zOi g zm_X11_tellsNeighbours [.ref 203, .int (zJ v)] μ φ := by
  have hp := zWF_p hw
  have hd8 := zWF_d hw
  obtain ⟨d, hdd⟩ : ∃ d : Nat, A 3 0 = d := ⟨(A 3 0).toNat, by omega⟩
  obtain ⟨P, hP⟩ : ∃ P : Nat, A 0 0 = P := ⟨(A 0 0).toNat, by omega⟩
  have hR0 : zRM A (zup μ 203 28 0) := zRM_slt (by omega) hR
  refine sg_X11_tellsNeighbours (ok_X11_puts hw hR0 hdd (by omega) hv (fun x f hf hx => ?_))
  have hR1 : zRM A (zua (zup μ 203 28 0) 220 f) := zRM_scr (by omega) hR0
  have fo : ∀ (i : Nat), i ≠ 203 → i ≠ 220 → i ≠ 221 → zua (zup μ 203 28 0) 220 f i = μ i := fun i h1 h2 h3 => (zua_nc h2).trans (zup_nc h1)
  have fs : ∀ (j : Nat), j ≠ 28 → zua (zup μ 203 28 0) 220 f 203 j = μ 203 j := fun j hj => (zua_ne (by omega)).trans (zup_ne (Or.inr hj))
  have f28 : zua (zup μ 203 28 0) 220 f 203 28 = 0 := (zua_ne (by omega)).trans zup_eq
  have hK1 : zKc μ (zua (zup μ 203 28 0) 220 f) := zKc_slt.trans (zKc_scr (by omega))
  have hb := ztp_bd (L := zln (A 0 0) d (A 4) v) (d + 1)
  rw [hdd, Int.toNat_natCast] at h
  unfold znbs at h
  by_cases hneg : ztp (zln (A 0 0) d (A 4) v) (d + 1) < 0
  · have hz := ztp_zero _ hneg
    rw [if_pos hneg] at h
    rcases hx with ⟨_, k, hk, hne⟩ | ⟨rfl, _⟩
    · exact absurd (hz k (by omega)) hne
    · exact ⟨by omega, fun hc => absurd rfl hc, fun _ => h 0 _ hR1 hK1 fo fs ⟨rfl, f28⟩⟩
  · obtain ⟨top, htop⟩ : ∃ top : Nat, ztp (zln (A 0 0) d (A 4) v) (d + 1) = top := ⟨(ztp (zln (A 0 0) d (A 4) v) (d + 1)).toNat, by omega⟩
    obtain ⟨t1, t2⟩ := ztp_top _ htop
    rw [if_neg hneg, htop, Int.toNat_natCast] at h
    rw [htop] at hb
    rcases hx with ⟨rfl, _⟩ | ⟨rfl, hz⟩
    · refine ⟨by omega, fun _ => ?_, fun hc => absurd hc (by omega)⟩
      have k0 := mo_tell17 (g := g) (φ := φ) (P := P) (d := d) (by omega) (by omega) P 0 (by omega) top 210 0 (zln (A 0 0) d (A 4) v) (zua (zup μ 203 28 0) 220 f) ((zRM_p0 hR1).trans hP) ((zRM_d hR1).trans hdd) f28 (by omega) (by omega) (fun k hk => by
        rw [zua_eq, hf k hk]
        by_cases hkt : k ≤ top
        · rw [if_pos hkt]
        · rw [if_neg hkt]; exact t2 k (by omega) (by omega)) (fun k hk => by rw [← hP]; exact zval_bd (by omega)) t1 (by omega) (fun ν' g1 g2 g3 g4 g5 => by
        rw [← hP] at g3 g5
        refine h 1 ν' (zRM_s hR (fun j hj => (g2 j (by unfold zhS at hj; omega)).trans (fs j (by unfold zhS at hj; omega))) (fun i hi => (g1 i (by unfold zhM at hi; omega) (by unfold zhM at hi; omega) (by unfold zhM at hi; omega)).trans (fo i (by unfold zhM at hi; omega) (by unfold zhM at hi; omega) (by unfold zhM at hi; omega)))) (fun i hi => (g1 i (by omega) (by omega) (by omega)).trans (fo i (by omega) (by omega) (by omega))) (fun i h1 h2 h3 => (g1 i h1 h2 h3).trans (fo i h1 h2 h3)) (fun j hj => (g2 j hj).trans (fs j hj)) ⟨rfl, ?_, fun k hk => ?_⟩
        · rw [g3, Nat.zero_add]; rfl
        · have := g5 k hk
          rw [Nat.zero_add] at this
          exact this)
      exact k0
    · exact absurd (hz top (by omega)) t1
theorem mx_neighbour {φ : Int → zMu → Prop} {v k : Int} (hw : zWF A) (hR : zRM A μ) (hv : zR v) (hk : zR k) (h : zHm φ μ (rd_nb A v k, A)) : zOi g zm_X11_neighbour [.ref 203, .int (zJ v), .int (zJ k)] μ φ := by
  have hp := zWF_p hw
  have hd := zWF_d hw
  have e0 := zRM_p0 hR
  have t1 := zRM_d hR
  have h1 : ¬ (0 ≤ v ∧ v < A 0 0) ∨ k < -1 → φ (-2) μ := fun q => h.rd (if_pos q) hR (zKc.refl μ)
  refine sg_X11_neighbour (ok_X11_isValue hv (by omega) (fun qv => ⟨by omega, fun hc => absurd hc (by omega), fun _ => ⟨hk, fun _ => ⟨by omega, fun m => ?_, fun m => h.rd ((if_neg (by omega)).trans (if_pos (by omega))) hR (zKc.refl μ)⟩, fun _ => h1 (by omega)⟩⟩) (fun q => ⟨by omega, fun _ => h1 (by omega), fun hc => absurd rfl hc⟩))
  unfold rd_nb at h
  rw [if_neg (by omega), if_neg (by omega)] at h
  refine ok_X11_tellsNeighbours hw hR (by omega) (by omega) (fun x ν hR1 hK1 g1 g2 g3 => ?_)
  cases hz : znbs (A 0 0) (A 3 0).toNat (A 4) v with
  | none =>
    rw [hz] at g3 h
    dsimp only at g3 h
    exact ⟨by omega, fun hc => absurd g3.1 hc, fun _ => h.rd rfl hR1 hK1⟩
  | some l =>
    rw [hz] at g3 h
    dsimp only at g3 h
    have hl := znbs_len hz
    refine ⟨by omega, fun _ => ⟨fun k1 => ⟨by omega, fun k2 => h.rd ((if_neg k1).trans (if_neg (by omega))) hR1 hK1, fun k2 => ⟨by omega, ?_⟩⟩, fun k1 => by rw [g3.2.1]; exact h.rd (if_pos k1) hR1 hK1⟩, fun hc => by omega⟩
    rw [g3.2.2 _ (by omega)]
    exact h.rd ((if_neg k1).trans (if_pos (by omega))) hR1 hK1
end NMO
