/-! NEIGHBOURS: the model: how often a value is a root -/
/-- the row of degree d holds the line of degree top -/
def zrow (d top : Nat) (L R : Nat → Int) : Prop := ∀ k, k ≤ d → R k = if k ≤ top then L k else 0
theorem zhr_lo {p w : Int} {d top : Nat} {L R : Nat → Int} (hr : zrow d top L R) (htd : top ≤ d) : ∀ m, m ≤ d - top → zhr p w R d m = 0
  | 0, _ => rfl
  | m + 1, h => by
    rw [zhr, zhr_lo hr htd m (by omega), hr (d - m) (by omega), if_neg (by omega), Int.zero_mul, Int.add_zero, Int.zero_emod]
theorem zhr_hi {p w : Int} {d top : Nat} {L R : Nat → Int} (hr : zrow d top L R) (htd : top ≤ d) : ∀ m, m ≤ top + 1 → zhr p w R d (d - top + m) = zhr p w L top m
  | 0, _ => zhr_lo hr htd _ (by omega)
  | m + 1, h => by
    rw [show d - top + (m + 1) = d - top + m + 1 by omega, zhr, zhr, zhr_hi hr htd m (by omega), hr _ (by omega), if_pos (by omega), show d - (d - top + m) = top - m by omega]
theorem zval_row {p w : Int} {d top : Nat} {L R : Nat → Int} (hr : zrow d top L R) (htd : top ≤ d) : zval p w R d = zval p w L top := by
  unfold zval
  rw [← zhr_hi hr htd (top + 1) (by omega), show d - top + (top + 1) = d + 1 by omega]
theorem zrow_div {p w : Int} {d top : Nat} {L R R' : Nat → Int} (hr : zrow d top L R) (htd : top ≤ d) (h0 : 1 ≤ top) (hR' : ∀ k, k ≤ d → R' k = zhr p w R d (d - k)) : zrow d (top - 1) (zdl p w L top) R' := fun k hk => by
  rw [hR' k hk]
  by_cases h : k ≤ top - 1
  · rw [if_pos h, zdl, if_pos (by omega), ← zhr_hi hr htd (top - k) (by omega), show d - top + (top - k) = d - k by omega]
  · rw [if_neg h, zhr_lo hr htd _ (by omega)]
section NBM
variable {g : zG} {p : Int} {φ : Int → zMu → Prop}
theorem mo_often21 {w n : Int} {d : Nat} {μ : zMu} (hp : 0 < p ∧ p ≤ 199) (hd : d ≤ 8) (hm : μ 203 0 = p) (hw : 0 ≤ w ∧ w < p) (hb : ∀ k, k ≤ d → 0 ≤ μ 220 k ∧ μ 220 k < p) (h : ∀ F, (∀ k, k ≤ d → F k = zhr p w (μ 220) d (d - k)) → at_X11_oftenOf_2 g φ w n (zua μ 220 F)) : at_X11_oftenOf_21 g φ w n 0 (d : Int) μ := by
  have loop : ∀ f m : Nat, m + f = d + 1 → at_X11_oftenOf_21 g φ w n (zhr p w (μ 220) d m) ((d : Int) - m) (zua μ 220 (fun k => if d < k + m ∧ k ≤ d then zhr p w (μ 220) d (d - k) else μ 220 k)) := by
    intro f
    induction f with
    | zero =>
      intro m hm2
      have em : m = d + 1 := by omega
      subst em
      exact sg_X11_oftenOf_21 ⟨by omega, fun _ => h _ (fun k hk => if_pos (by omega)), fun hc => absurd hc (by omega)⟩
    | succ f ih =>
      intro m hm2
      have k2 := ih (m + 1) (by omega)
      rw [zhr] at k2
      have b2 := zhr_bd (p := p) (w := w) (L := μ 220) (top := d) hp.1 m
      have b3 := zhorner_bd b2 hw (hb (d - m) (by omega)) hp.2
      refine sg_X11_oftenOf_21 ⟨by omega, fun hc => absurd hc (by omega), fun _ => ⟨by omega, ?_⟩⟩
      rw [show Int.toNat ((d : Int) - m) = d - m by omega, zua_eq, if_neg (by omega), zup_ne (Or.inl (by omega)), zua_ne (by omega), hm, ztm b3.1, show (d : Int) - (m : Int) + -1 = (d : Int) - ((m + 1 : Nat) : Int) by omega, zup_zua]
      rw [zua_congr (h := fun k => if d < k + (m + 1) ∧ k ≤ d then zhr p w (μ 220) d (d - k) else μ 220 k) (fun b => by
        by_cases hb : b = d - m
        · rw [if_pos hb, if_pos (by omega), hb, show d - (d - m) = m by omega]
        · rw [if_neg hb]
          by_cases hc : d < b + m ∧ b ≤ d
          · rw [if_pos hc, if_pos (by omega)]
          · rw [if_neg hc, if_neg (by omega)])]
      exact ⟨by omega, by omega, by omega, k2⟩
  have k0 := loop (d + 1) 0 (by omega)
  rw [zua_self (fun b => if_neg (by omega)), show (d : Int) - ((0 : Nat) : Int) = d by omega] at k0
  exact k0
/-- w is a root m times; behind it stands another line -/
theorem ok_X11_oftenOf {w : Int} {d : Nat} (hp : 0 < p ∧ p ≤ 199) (hd : d ≤ 8) (hw : 0 ≤ w ∧ w < p) : ∀ top : Nat, top ≤ d → ∀ (L : Nat → Int) (f n : Nat) (ν : zMu), ν 203 0 = p → ν 203 4 = d → zrow d top L (ν 220) → (∀ k, k ≤ top → 0 ≤ L k ∧ L k < p) → L top ≠ 0 → p - w + top < f →
    (∀ (m top' f' : Nat) (L' R : Nat → Int), zNb p f top L w = List.replicate m w ++ zNb p f' top' L' (w + 1) → top' + m = top → top' ≤ d → zrow d top' L' R → (∀ k, k ≤ top' → 0 ≤ L' k ∧ L' k < p) → L' top' ≠ 0 → p - (w + 1) + top' < f' → φ ((n + m : Nat) : Int) (zua ν 220 R)) → at_X11_oftenOf_2 g φ w (n : Int) ν := by
  intro top
  induction top with
  | zero =>
    intro _ L f n ν e0 e4 hr hL hne hf h
    have hbd : ∀ k, k ≤ d → ν 220 k = ν 220 k ∧ 0 ≤ ν 220 k ∧ ν 220 k < p := fun k hk => ⟨rfl, by
      rw [hr k hk]; split
      · exact hL k (by omega)
      · omega⟩
    refine sg_X11_oftenOf_2 (ok_X11_worth hp hd e4 e0 hw hbd ?_)
    have b := zval_bd (p := p) (w := w) (L := ν 220) (top := d) hp.1
    have hv : zval p w (ν 220) d ≠ 0 := by
      rw [zval_row hr (by omega)]
      show (0 * w + L 0) % p ≠ 0
      have := hL 0 (by omega)
      rw [Int.zero_mul, Int.zero_add, Int.emod_eq_of_lt this.1 this.2]; exact hne
    refine ⟨by omega, fun _ => ?_, fun hc => absurd hc hv⟩
    have := h 0 0 f L (ν 220) (by
      obtain ⟨f1, rfl⟩ : ∃ f1, f = f1 + 1 := ⟨f - 1, by omega⟩
      rw [zNb, zNb, if_pos (Or.inl rfl), if_pos (Or.inl rfl)]; rfl) rfl (by omega) hr hL hne (by omega)
    rw [zua_self (fun b => rfl)] at this
    exact this
  | succ top ih =>
    intro htd L f n ν e0 e4 hr hL hne hf h
    have hbd : ∀ k, k ≤ d → ν 220 k = ν 220 k ∧ 0 ≤ ν 220 k ∧ ν 220 k < p := fun k hk => ⟨rfl, by
      rw [hr k hk]; split
      · exact hL k (by omega)
      · omega⟩
    refine sg_X11_oftenOf_2 (ok_X11_worth hp hd e4 e0 hw hbd ?_)
    have b := zval_bd (p := p) (w := w) (L := ν 220) (top := d) hp.1
    have ev := zval_row (p := p) (w := w) hr htd
    obtain ⟨f1, rfl⟩ : ∃ f1, f = f1 + 1 := ⟨f - 1, by omega⟩
    refine ⟨by omega, fun z => ?_, fun z => ?_⟩
    · have := h 0 (top + 1) f1 L (ν 220) (by rw [zNb, if_neg (by omega), if_neg (by rw [← ev]; exact z)]; rfl) rfl htd hr hL hne (by omega)
      rw [zua_self (fun b => rfl)] at this
      exact this
    · rw [e4]
      refine mo_often21 hp hd e0 hw (fun k hk => (hbd k hk).2) (fun F hF => ?_)
      have hr2 := zrow_div (p := p) (w := w) (R' := F) hr htd (by omega) hF
      have := ih (by omega) (zdl p w L (top + 1)) f1 (n + 1) (zua ν 220 F) (by rw [zua_ne (by omega)]; exact e0) (by rw [zua_ne (by omega)]; exact e4) (by rw [zua_row]; exact hr2) (fun k hk => by
        unfold zdl
        rw [if_pos (by omega)]
        exact zhr_bd hp.1 _) (by
        unfold zdl
        rw [if_pos (by omega), show top + 1 - top = 0 + 1 by omega, zhr]
        have := hL (top + 1) (by omega)
        show (0 * w + L (top + 1 - 0)) % p ≠ 0
        rw [Int.zero_mul, Int.zero_add, Nat.sub_zero, Int.emod_eq_of_lt this.1 this.2]; exact hne) (by omega) (fun m top' f' L' R q1 q0 q2 q3 q4 q5 q6 => by
        have := h (m + 1) top' f' L' R (by
          rw [zNb, if_neg (by omega), if_pos (by rw [← ev]; exact z), show top + 1 - 1 = top by omega, q1, List.replicate_succ, List.cons_append]) (by omega) q2 q3 q4 q5 q6
        rw [zua_zua, show n + 1 + m = n + (m + 1) by omega]
        exact this)
      rw [Int.natCast_add] at this
      exact this
end NBM
