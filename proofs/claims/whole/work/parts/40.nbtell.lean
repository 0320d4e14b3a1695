/-! NEIGHBOURS: the model's list of them -/
theorem ztp_zero {L : Nat → Int} : ∀ n, ztp L n < 0 → ∀ k, k < n → L k = 0
  | 0, _, _, hk => absurd hk (by omega)
  | n + 1, h, k, hk => by
    rw [ztp] at h
    by_cases z : L n = 0
    · rw [if_pos z] at h
      by_cases e : k = n
      · rw [e]; exact z
      · exact ztp_zero n h k (by omega)
    · rw [if_neg z] at h; omega
theorem ztp_top {L : Nat → Int} {t : Nat} : ∀ n, ztp L n = t → L t ≠ 0 ∧ ∀ k, t < k → k < n → L k = 0
  | 0, h => by
    have h : (-1 : Int) = t := h
    omega
  | n + 1, h => by
    rw [ztp] at h
    by_cases z : L n = 0
    · rw [if_pos z] at h
      obtain ⟨q1, q2⟩ := ztp_top n h
      exact ⟨q1, fun k h1 h2 => by
        by_cases e : k = n
        · rw [e]; exact z
        · exact q2 k h1 (by omega)⟩
    · rw [if_neg z] at h
      have e : n = t := by omega
      exact ⟨e ▸ z, fun k h1 h2 => by omega⟩
theorem zrep_lo {w : Int} {l : List Int} : ∀ {m j : Nat}, j < m → (List.replicate m w ++ l).getD j 0 = w
  | 0, _, h => absurd h (by omega)
  | m + 1, 0, _ => rfl
  | m + 1, j + 1, h => by
    rw [List.replicate_succ, List.cons_append]
    exact zrep_lo (m := m) (j := j) (by omega)
theorem zrep_hi {w : Int} {l : List Int} {i : Nat} : ∀ {m : Nat}, (List.replicate m w ++ l).getD (m + i) 0 = l.getD i 0
  | 0 => by rw [Nat.zero_add]; rfl
  | m + 1 => by
    rw [List.replicate_succ, List.cons_append, show m + 1 + i = (m + i) + 1 by omega]
    exact zrep_hi (m := m)
section NBT
variable {g : zG} {φ : Int → zMu → Prop}
theorem mo_tell34 {w : Int} {m c : Nat} {ν : zMu} (hcm : c + m ≤ 8) (hc : ν 203 28 = c) (h : ∀ ν', (∀ (i : Nat), i ≠ 203 → i ≠ 221 → ν' i = ν i) → (∀ (j : Nat), j ≠ 28 → ν' 203 j = ν 203 j) → ν' 203 28 = ((c + m : Nat) : Int) → (∀ j, ν' 221 j = if c ≤ j ∧ j < c + m then w else ν 221 j) → at_X11_tellsNeighbours_17 g φ (w + 1) ν') : at_X11_tellsNeighbours_34 g φ w (m : Int) 0 ν := by
  have loop : ∀ f t : Nat, t + f = m → ∀ ω, (∀ (i : Nat), i ≠ 203 → i ≠ 221 → ω i = ν i) → (∀ (j : Nat), j ≠ 28 → ω 203 j = ν 203 j) → ω 203 28 = ((c + t : Nat) : Int) → (∀ j, ω 221 j = if c ≤ j ∧ j < c + t then w else ν 221 j) → at_X11_tellsNeighbours_34 g φ w (m : Int) (t : Int) ω := by
    intro f
    induction f with
    | zero =>
      intro t ht ω f1 f2 f3 f4
      have e : t = m := by omega
      subst e
      exact sg_X11_tellsNeighbours_34 ⟨by omega, by omega, fun _ => h ω f1 f2 f3 f4, fun hc => absurd hc (by omega)⟩
    | succ f ih =>
      intro t ht ω f1 f2 f3 f4
      refine sg_X11_tellsNeighbours_34 ⟨by omega, by omega, fun hc => absurd hc (by omega), fun _ => ⟨by omega, ?_⟩⟩
      have e : Int.toNat (ω 203 28) = c + t := by omega
      rw [e, zup_ne (μ := ω) (i := 221) (a := 203) (Or.inl (by omega)), f3]
      have := ih (t + 1) (by omega) (zup (zup ω 221 (c + t) w) 203 28 (((c + t : Nat) : Int) + 1)) (fun i h1 h2 => (zup_nc h1).trans ((zup_nc h2).trans (f1 i h1 h2))) (fun j hj => (zup_ne (Or.inr hj)).trans ((zup_ne (Or.inl (by omega))).trans (f2 j hj))) (by rw [zup_eq]; omega) (fun j => by
        rw [zup_ne (Or.inl (by omega))]
        by_cases hj : j = c + t
        · rw [hj, zup_eq, if_pos (by omega)]
        · rw [zup_ne (Or.inr hj), f4 j]
          by_cases hb : c ≤ j ∧ j < c + t
          · rw [if_pos hb, if_pos (by omega)]
          · rw [if_neg hb, if_neg (by omega)])
      rw [Int.natCast_add t 1] at this
      exact this
  exact loop m 0 (by omega) ν (fun _ _ _ => rfl) (fun _ _ => rfl) (by rw [hc]; rfl) (fun j => by rw [if_neg (by omega)])
theorem mo_tell17 {P d : Nat} (hp : 0 < P ∧ P ≤ 199) (hd : d ≤ 8) : ∀ m w : Nat, w + m = P → ∀ (top f c : Nat) (L : Nat → Int) (ν : zMu), ν 203 0 = (P : Int) → ν 203 4 = d → ν 203 28 = c → c + top ≤ 8 → top ≤ d → zrow d top L (ν 220) → (∀ k, k ≤ top → 0 ≤ L k ∧ L k < (P : Int)) → L top ≠ 0 → (P : Int) - w + top < f →
    (∀ ν', (∀ (i : Nat), i ≠ 203 → i ≠ 220 → i ≠ 221 → ν' i = ν i) → (∀ (j : Nat), j ≠ 28 → ν' 203 j = ν 203 j) → ν' 203 28 = ((c + (zNb P f top L w).length : Nat) : Int) → (∀ j, j < c → ν' 221 j = ν 221 j) → (∀ j, j < (zNb P f top L w).length → ν' 221 (c + j) = (zNb P f top L w).getD j 0) → φ 1 ν') → at_X11_tellsNeighbours_17 g φ (w : Int) ν := by
  intro m
  induction m with
  | zero =>
    intro w hw top f c L ν e0 e4 e28 hct htd hr hL hne hf h
    have e : zNb P f top L w = [] := by
      obtain ⟨f1, rfl⟩ : ∃ f1, f = f1 + 1 := ⟨f - 1, by omega⟩
      rw [zNb, if_pos (Or.inr (by omega))]
    rw [e] at h
    exact sg_X11_tellsNeighbours_17 ⟨by omega, by omega, fun _ => h ν (fun _ _ _ _ => rfl) (fun _ _ => rfl) e28 (fun _ _ => rfl) (fun j hj => absurd hj (Nat.not_lt_zero j)), fun hc => absurd hc (by omega)⟩
  | succ m ih =>
    intro w hw top f c L ν e0 e4 e28 hct htd hr hL hne hf h
    refine sg_X11_tellsNeighbours_17 ⟨by omega, by omega, fun hc => absurd hc (by omega), fun _ => ?_⟩
    refine sg_X11_oftenOf (ok_X11_oftenOf (p := (P : Int)) (by omega) hd (by omega) top htd L f 0 ν e0 e4 hr hL hne hf (fun m2 top' f' L' R q1 q0 q2 q3 q4 q5 q6 => ?_))
    have hlen := zNb_len (p := (P : Int)) (f := f) (top := top) (L := L) (w := (w : Int))
    rw [Nat.zero_add]
    refine mo_tell34 (c := c) (by omega) (by rw [zua_ne (by omega)]; exact e28) (fun ν' g1 g2 g3 g4 => ?_)
    have := ih (w + 1) (by omega) top' f' (c + m2) L' ν' (by rw [g2 0 (by omega), zua_ne (by omega)]; exact e0) (by rw [g2 4 (by omega), zua_ne (by omega)]; exact e4) g3 (by omega) q2 (by rw [g1 220 (by omega) (by omega), zua_row]; exact q3) q4 q5 (by omega) (fun ω k1 k2 k3 k4 k5 => by
      rw [show ((w + 1 : Nat) : Int) = (w : Int) + 1 from rfl] at k3 k5
      refine h ω (fun i h1 h2 h3 => (k1 i h1 h2 h3).trans ((g1 i h1 h3).trans (zua_nc h2))) (fun j hj => (k2 j hj).trans ((g2 j hj).trans (zua_ne (by omega)))) ?_ (fun j hj => by rw [k4 j (by omega), g4 j, if_neg (by omega), zua_ne (by omega)]) (fun j hj => ?_)
      · rw [k3, q1, List.length_append, List.length_replicate]; omega
      · rw [q1, List.length_append, List.length_replicate] at hj
        rw [q1]
        by_cases hjm : j < m2
        · rw [zrep_lo hjm, k4 _ (by omega), g4, if_pos (by omega)]
        · obtain ⟨i, rfl⟩ : ∃ i, j = m2 + i := ⟨j - m2, by omega⟩
          rw [zrep_hi, show c + (m2 + i) = c + m2 + i by omega, k5 i (by omega)])
    rw [Int.natCast_add] at this
    exact this
end NBT
