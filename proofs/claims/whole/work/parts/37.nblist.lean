/-! NEIGHBOURS: the class's list of them -/
theorem zNb_len {p : Int} : ∀ {f top : Nat} {L : Nat → Int} {w : Int}, (zNb p f top L w).length ≤ top
  | 0, _, _, _ => Nat.zero_le _
  | f + 1, top, L, w => by
    rw [zNb]
    split
    · exact Nat.zero_le _
    · split
      · have := zNb_len (p := p) (f := f) (top := top - 1) (L := zdl p w L top) (w := w)
        rw [List.length_cons]; omega
      · exact zNb_len
theorem zNb_bd {p : Int} : ∀ {f top : Nat} {L : Nat → Int} {w : Int}, 0 ≤ w → ∀ x, x ∈ zNb p f top L w → 0 ≤ x ∧ x < p
  | 0, _, _, _, _, _, h => absurd h (List.not_mem_nil)
  | f + 1, top, L, w, hw, x, h => by
    rw [zNb] at h
    by_cases c : top = 0 ∨ p ≤ w
    · rw [if_pos c] at h; exact absurd h (List.not_mem_nil)
    · rw [if_neg c] at h
      by_cases z : zval p w L top = 0
      · rw [if_pos z] at h
        rcases List.mem_cons.1 h with e | e
        · rw [e]; omega
        · exact zNb_bd hw x e
      · rw [if_neg z] at h
        exact zNb_bd (by omega) x h
section NBL
variable {g : zG} {μ A : zMu} {p : Int} {φ : Int → zMu → Prop}
/-- what is owed behind the list l from found on -/
def zNbh (φ : Int → zMu → Prop) (v : Nat) (found : Nat) (l : List Int) (ν : zMu) : Prop := ∀ ν' : zMu, (∀ (i : Nat), i ≠ 184 → i ≠ 185 → ν' i = ν i) → (∀ (j : Nat), (j < 8 * v + found ∨ 8 * v + found + l.length ≤ j) → ν' 184 j = ν 184 j) → (∀ (j : Nat), j < l.length → ν' 184 (8 * v + found + j) = l.getD j 0) → φ ((found : Int) + l.length) ν'
theorem zNbh_nil {v found : Nat} {ν : zMu} (h : zNbh φ v found [] ν) : φ (found : Int) ν := by
  have := h ν (fun _ _ _ => rfl) (fun _ _ => rfl) (fun j hj => absurd hj (Nat.not_lt_zero j))
  rwa [show ((found : Int) + (([] : List Int).length : Nat)) = found from Int.add_zero _] at this
theorem nb33 (hp : 0 < p ∧ p ≤ 199) {v : Nat} (hv : v < 199) : ∀ f top found : Nat, ∀ (L : Nat → Int) (w : Int) (ν : zMu), 0 ≤ w → w < p → top + found ≤ 8 → p - w + top < f → (∀ k, k ≤ top → ν 185 k = L k ∧ 0 ≤ L k ∧ L k < p) → zNbh φ v found (zNb p f top L w) ν → at_X2_listNeighbours_33 g φ (v : Int) p (top : Int) (found : Int) w ν := by
  intro f
  induction f with
  | zero => intro top found L w ν h1 h2 h3 h4; omega
  | succ f ih =>
    intro top found L w ν h1 h2 h3 h4 hL h
    rw [zNb] at h
    by_cases t0 : top = 0
    · rw [if_pos (Or.inl t0)] at h
      have hn := zNbh_nil h
      exact sg_X2_listNeighbours_33 ⟨by omega, fun _ => sg_X2_listNeighbours_22 ⟨by omega, by omega, fun _ => hn, fun _ => ⟨by omega, fun _ => hn, fun hc => absurd hc (by omega)⟩⟩, fun hc => absurd hc (by omega)⟩
    · rw [if_neg (by omega)] at h
      refine sg_X2_listNeighbours_33 ⟨by omega, fun hc => absurd hc (by omega), fun _ => ok_X2_lineAt hp (by omega) (by omega) hL ?_⟩
      have b := zval_bd (p := p) (w := w) (L := L) (top := top) hp.1
      refine ⟨by omega, fun z => ?_, fun z => ?_⟩
      · rw [if_neg z] at h
        refine sg_X2_listNeighbours_22 ⟨by omega, by omega, fun hc => ?_, fun hc => ⟨by omega, fun hc => absurd hc (by omega), fun _ => ih top found L (w + 1) ν (by omega) (by omega) h3 (by omega) hL h⟩⟩
        have e : zNb p f top L (w + 1) = [] := by
          cases f with
          | zero => rfl
          | succ f => rw [zNb, if_pos (Or.inr hc)]
        rw [e] at h
        exact zNbh_nil h
      · rw [if_pos z] at h
        refine ok_X2_divideLine hp (by omega) (by omega) hL (fun F hF => ⟨by omega, ?_⟩)
        rw [show Int.toNat (8 * (v : Int) + (found : Int)) = 8 * v + found by omega]
        have k := ih (top - 1) (found + 1) (zdl p w L top) w (zup (zua ν 185 F) 184 (8 * v + found) w) h1 h2 (by omega) (by omega) (fun k hk => by
          rw [zup_ne (Or.inl (by omega)), zua_eq, hF k (by omega)]
          have hb := zhr_bd (p := p) (w := w) (L := L) (top := top) hp.1 (top - k)
          unfold zdl
          rw [if_pos (by omega)]
          exact ⟨rfl, hb⟩) (fun ν' g1 g2 g3 => by
          have := h ν' (fun i hi1 hi2 => (g1 i hi1 hi2).trans ((zup_nc hi1).trans (zua_nc hi2))) (fun j hj => by
            rw [List.length_cons] at hj
            rw [g2 j (by omega), zup_ne (Or.inr (by omega)), zua_ne (by omega)]) (fun j hj => by
            rw [List.length_cons] at hj
            by_cases j0 : j = 0
            · rw [j0, g2 _ (by omega), Nat.add_zero, zup_eq]; rfl
            · obtain ⟨i, rfl⟩ : ∃ i, j = i + 1 := ⟨j - 1, by omega⟩
              rw [show 8 * v + found + (i + 1) = 8 * v + (found + 1) + i by omega, g3 i (by omega)]; rfl)
          rw [List.length_cons] at this
          rw [show ((found + 1 : Nat) : Int) + ((zNb p f (top - 1) (zdl p w L top) w).length : Nat) = (found : Int) + (((zNb p f (top - 1) (zdl p w L top) w).length + 1 : Nat) : Int) by omega]
          exact this)
        rw [show ((top - 1 : Nat) : Int) = (top : Int) + -1 by omega, show ((found + 1 : Nat) : Int) = (found : Int) + 1 by omega] at k
        exact k
theorem ztp_bd {L : Nat → Int} : ∀ n, -1 ≤ ztp L n ∧ ztp L n < n
  | 0 => ⟨Int.le_refl _, by show (-1 : Int) < 0; omega⟩
  | n + 1 => by
    have := ztp_bd (L := L) n
    rw [ztp]
    split <;> omega
theorem ok_X2_listNeighbours {v d : Nat} {e : Nat → Int} (hp : 2 ≤ p ∧ p ≤ 199) (hd : d ≤ 8) (hμ : μ 3 1 = d) (hv : (v : Int) < p) (he : ∀ t, t < 81 → μ 4 t = e t) (hm : zmodp p 81 e)
    (h : ∀ ν x, (∀ (i : Nat), i ≠ 184 → i ≠ 185 → ν i = μ i) → (∀ (j : Nat), (j < 8 * v ∨ 8 * v + 8 ≤ j) → ν 184 j = μ 184 j) → (match znbs p d e v with
      | none => x = -1
      | some l => x = (l.length : Int) ∧ ∀ k, k < l.length → ν 184 (8 * v + k) = l.getD k 0) → φ x ν) : zOi g zm_X2_listNeighbours [.ref 182, .ref 3, .int (zJ (v : Int)), .int (zJ p)] μ φ := by
  refine sg_X2_listNeighbours zc_3 (ok_X2_fillLine (e := e) (by omega) hd hμ (by omega) he hm (fun f hf => ?_))
  have hb := ztp_bd (L := zln p d e v) (d + 1)
  unfold znbs at h
  by_cases hneg : ztp (zln p d e v) (d + 1) < 0
  · rw [if_pos hneg] at h
    exact ⟨by omega, fun hc => absurd hc (by omega), fun _ => h _ _ (fun i h1 h2 => zua_nc h2) (fun j _ => zua_ne (by omega)) rfl⟩
  · rw [if_neg hneg] at h
    refine ⟨by omega, fun _ => ?_, fun hc => absurd hc hneg⟩
    obtain ⟨top, htop⟩ : ∃ top : Nat, ztp (zln p d e v) (d + 1) = top := ⟨(ztp (zln p d e v) (d + 1)).toNat, by omega⟩
    rw [htop, Int.toNat_natCast] at h
    rw [htop] at hb ⊢
    have hlen := zNb_len (p := p) (f := 210) (top := top) (L := zln p d e v) (w := 0)
    have hh : zNbh φ v 0 (zNb p 210 top (zln p d e v) 0) (zua μ 185 f) := fun ν' g1 g2 g3 => by
      have := h ν' (((zNb p 210 top (zln p d e v) 0).length : Nat) : Int) (fun i h1 h2 => (g1 i h1 h2).trans (zua_nc h2)) (fun j hj => (g2 j (by omega)).trans (zua_ne (by omega))) ⟨rfl, fun k hk => g3 k hk⟩
      rw [show ((0 : Nat) : Int) + ((zNb p 210 top (zln p d e v) 0).length : Nat) = ((zNb p 210 top (zln p d e v) 0).length : Nat) from Int.zero_add _]
      exact this
    have hLf : ∀ k, k ≤ top → zua μ 185 f 185 k = zln p d e v k ∧ 0 ≤ zln p d e v k ∧ zln p d e v k < p := fun k hk => ⟨by rw [zua_eq, hf k (by omega)], zval_bd (by omega)⟩
    refine sg_X2_listNeighbours_22 ⟨by omega, by omega, fun hc => absurd hc (by omega), fun _ => ⟨by omega, fun t0 => ?_, fun _ => ?_⟩⟩
    · have e0 : zNb p 210 top (zln p d e v) 0 = [] := by rw [zNb, if_pos (Or.inl (by omega))]
      rw [e0] at hh
      exact zNbh_nil hh
    · exact nb33 (by omega) (by omega) 210 top 0 _ 0 _ (by omega) (by omega) (by omega) (by omega) hLf hh
end NBL
