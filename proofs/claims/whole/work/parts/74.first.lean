/-! THE FIRST WORLD, behind the constructors -/
def zLfin : List (Nat × Nat × Nat) := zlA_X11 203 (zlA_X10 0 [])
def zM0 : zMu := ziA_X11 203 (ziA_X10 0 (fun _ _ => 0))
set_option maxRecDepth 100000 in
theorem zsh_fin : (((([] : List (Nat × Nat)) ++ [(10, 12)]) ++ zsA_X10) ++ [(11, 50)]) ++ zsA_X11 = zsh := by decide +kernel
theorem zrl_mem {L : List (Nat × Nat × Nat)} {i j r : Nat} (h : zrl L i j = some r) : (i, j, r) ∈ L := by
  induction L with
  | nil => cases h
  | cons q L ih =>
    have h' : (if i = q.1 ∧ j = q.2.1 then some q.2.2 else zrl L i j) = some r := h
    by_cases hc : i = q.1 ∧ j = q.2.1
    · rw [if_pos hc] at h'
      have e : (i, j, r) = q := Prod.ext hc.1 (Prod.ext hc.2 (Option.some.inj h').symm)
      rw [e]
      exact List.mem_cons_self
    · rw [if_neg hc] at h'
      exact List.mem_cons_of_mem _ (ih h')
def zbd (i : Nat) : Nat := match zsh[i]? with
  | none => 0
  | some (k, n) => if k = 12 then 0 else if k < 12 then 50 else n
theorem zrf_finA : ∀ q ∈ zLfin, zrf q.1 q.2.1 = some q.2.2 := by
  have h : zLfin.all (fun q => decide (zrf q.1 q.2.1 = some q.2.2)) = true := by decide +kernel
  intro q hq
  exact of_decide_eq_true (List.all_eq_true.mp h q hq)
theorem zrf_finB : ∀ i, i < 236 → ∀ j, j < zbd i → (zrf i j).isSome = true → (zrl zLfin i j).isSome = true := by
  have h : (List.range 236).all (fun i => (List.range (zbd i)).all (fun j => !(zrf i j).isSome || (zrl zLfin i j).isSome)) = true := by decide +kernel
  intro i hi j hj hs
  have h1 := List.all_eq_true.mp (List.all_eq_true.mp h i (List.mem_range.mpr hi)) j (List.mem_range.mpr hj)
  rw [hs] at h1
  exact h1
theorem zOffs_len : ∀ k, (zOffs.getD k []).length ≤ 50 := by
  intro k
  by_cases hk : k < 12
  · have h : (List.range 12).all (fun k => decide ((zOffs.getD k []).length ≤ 50)) = true := by decide +kernel
    exact of_decide_eq_true (List.all_eq_true.mp h k (List.mem_range.mpr hk))
  · rw [List.getD_eq_getElem?_getD, List.getElem?_eq_none (by show 12 ≤ k; omega)]
    exact Nat.zero_le _
theorem zrf_finC {i j : Nat} (h : (zrf i j).isSome = true) : i < 236 ∧ j < zbd i := by
  unfold zrf at h
  unfold zbd
  cases hz : zsh[i]? with
  | none => rw [hz] at h; cases h
  | some p =>
    obtain ⟨k, n⟩ := p
    rw [hz] at h
    refine ⟨(List.getElem?_eq_some_iff.mp hz).1, ?_⟩
    dsimp only at h ⊢
    by_cases h1 : k < 12
    · rw [if_pos h1] at h
      rw [if_neg (by omega), if_pos h1]
      by_cases hj : j < 50
      · exact hj
      · exfalso
        have : zOff k j = none := by
          unfold zOff
          have hl := zOffs_len k
          rw [show (zOffs.getD k []).getD j 0 = 0 by rw [List.getD_eq_getElem?_getD, List.getElem?_eq_none (by omega)]; rfl]
        rw [this] at h
        cases h
    · rw [if_neg h1] at h
      by_cases h2 : k = 12
      · rw [if_pos h2] at h; cases h
      · rw [if_neg h2] at h
        rw [if_neg h2, if_neg h1]
        by_cases hj : j < n
        · exact hj
        · rw [if_neg hj] at h; cases h
theorem zrf_fin : zrl zLfin = zrf := by
  funext i j
  cases hr : zrl zLfin i j with
  | some r => exact (zrf_finA _ (zrl_mem hr)).symm
  | none =>
    cases hq : zrf i j with
    | none => rfl
    | some r =>
      have hs : (zrf i j).isSome = true := by rw [hq]; rfl
      obtain ⟨h1, h2⟩ := zrf_finC hs
      have := zrf_finB i h1 j h2 hs
      rw [hr] at this
      cases this
/-- the first state: the modulus 101, no lists -/
def zA0 : zMu := fun i j => if i = 0 ∧ j = 0 then 101 else if i = 44 ∧ j < 4 then -1 else 0
theorem zA0_0 : zA0 0 0 = 101 := rfl
theorem zA0_44 {l : Nat} (hl : l < 4) : zA0 44 l = -1 := by
  unfold zA0
  rw [if_neg (by omega), if_pos ⟨rfl, hl⟩]
theorem zA0_z {i : Nat} (h0 : i ≠ 0) (h1 : i ≠ 44) (j : Nat) : zA0 i j = 0 := by
  unfold zA0
  rw [if_neg (fun q => h0 q.1), if_neg (fun q => h1 q.1)]
theorem zwf_first : zWF zA0 := by
  refine ⟨⟨⟨101, by decide +kernel, rfl⟩, fun s hs => ?_, ?_, fun h => absurd (zA0_z (by decide) (by decide) 0) h, fun q hq => Or.inl (zA0_z (by decide) (by decide) q), fun q r hq hr h => absurd (zA0_z (by decide) (by decide) q) h⟩, Or.inl (zA0_z (by decide) (by decide) 0), ⟨?_, fun k hk => ?_⟩, ⟨?_, fun k hk => ?_⟩, fun l hl => ⟨?_, fun k hk => ?_⟩⟩
  · rw [zA0_z (i := 0 + 1) (by decide) (by decide), zA0_z (i := 0 + 2) (by decide) (by decide)]
    exact ⟨by decide, by decide, fun k hk => absurd hk (by simp)⟩
  · rw [zA0_z (i := 0 + 3) (by decide) (by decide)]; decide
  · rw [zA0_z (by decide) (by decide)]; decide
  · rw [zA0_z (i := 40) (by decide) (by decide)] at hk; omega
  · rw [zA0_z (by decide) (by decide)]; decide
  · rw [zA0_z (i := 42) (by decide) (by decide)] at hk; omega
  · rw [zA0_44 hl]; decide
  · rw [zA0_z (by omega) (by omega)]; exact ⟨by decide, by decide⟩
theorem zM0_s : ∀ s, s < 6 → zM0 (1 + 6 + 2 * s) 1 = 0 ∧ zM0 (1 + 6 + 2 * s) 2 = 0 ∧ zM0 204 s = 0 ∧ zM0 205 s = 0 := by decide +kernel
theorem zM0_q : ∀ q, q < 8 → zM0 (1 + 18 + 2 * q) 1 = 0 ∧ zM0 208 (83 * q) = 0 := by decide +kernel
theorem zM0_v : ∀ v, v < 199 → zM0 183 v = -2 := by decide +kernel
theorem zM0_l : ∀ l, l < 4 → zM0 202 l = -1 ∧ zM0 229 l = -1 ∧ ∀ k, k < 80 → zM0 (198 + l) k = 0 ∧ zM0 230 (80 * l + k) = 0 := by decide +kernel
theorem zM0_w : ∀ k, k < 47 → zM0 224 k = zwords.getD k 0 := by decide +kernel
theorem zM0_a : ∀ k, k < 9 → zM0 225 k = zasks.getD k 0 := by decide +kernel
theorem zRC_first : zRC zA0 zM0 := by
  refine ⟨⟨by decide +kernel, fun s hs => ?_, ?_, fun q hq => ?_⟩, ⟨?_, fun h => ?_⟩, fun v hv => Or.inl (zM0_v v hv), ⟨?_, fun k hk => ?_⟩, ⟨?_, fun k hk => ?_⟩, fun l hl => ⟨?_, fun k hk => ?_⟩⟩
  · unfold zCs
    rw [zA0_z (i := 0 + 1) (by decide) (by decide), zA0_z (i := 0 + 2) (by decide) (by decide)]
    exact ⟨(zM0_s s hs).1, (zM0_s s hs).2.1, fun k hk => by omega⟩
  · unfold zCe
    rw [zA0_z (i := 0 + 3) (by decide) (by decide)]
    exact ⟨by decide +kernel, fun h => absurd rfl h⟩
  · exact Or.inl ⟨zA0_z (by decide) (by decide) q, (zM0_q q hq).1⟩
  · rw [zA0_z (by decide) (by decide)]; decide +kernel
  · rw [zA0_z (by decide) (by decide)] at h; omega
  · rw [zA0_z (by decide) (by decide)]; decide +kernel
  · rw [zA0_z (i := 40) (by decide) (by decide)] at hk; omega
  · rw [zA0_z (by decide) (by decide)]; decide +kernel
  · rw [zA0_z (i := 42) (by decide) (by decide)] at hk; omega
  · rw [zA0_44 hl]; exact (zM0_l l hl).1
  · rw [zA0_z (by omega) (by omega)]; exact ((zM0_l l hl).2.2 k hk).1
theorem zRM_first : zRM zA0 zM0 := by
  refine ⟨⟨by decide +kernel, fun s hs => ?_, ?_, fun h => absurd (zA0_z (by decide) (by decide) 0) h, fun q hq => ?_⟩, ⟨?_, fun h => ?_⟩, ⟨?_, fun k hk => ?_⟩, ⟨?_, fun k hk => ?_⟩, fun l hl => ⟨?_, fun k hk => ?_⟩, zM0_w, zM0_a⟩
  · rw [zA0_z (i := 0 + 1) (by decide) (by decide), zA0_z (i := 0 + 2) (by decide) (by decide)]
    exact ⟨(zM0_s s hs).2.2.1, (zM0_s s hs).2.2.2, fun k hk => by omega⟩
  · rw [zA0_z (by decide) (by decide)]; decide +kernel
  · rw [zA0_z (i := 0 + 5) (by decide) (by decide)]
    exact ⟨(zM0_q q hq).2, fun h => absurd rfl h⟩
  · rw [zA0_z (by decide) (by decide)]; decide +kernel
  · rw [zA0_z (by decide) (by decide)] at h; omega
  · rw [zA0_z (by decide) (by decide)]; decide +kernel
  · rw [zA0_z (i := 40) (by decide) (by decide)] at hk; omega
  · rw [zA0_z (by decide) (by decide)]; decide +kernel
  · rw [zA0_z (i := 42) (by decide) (by decide)] at hk; omega
  · rw [zA0_44 hl]; exact (zM0_l l hl).2.1
  · rw [zA0_z (by omega) (by omega)]; exact ((zM0_l l hl).2.2 k hk).2
