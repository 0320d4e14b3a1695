/-! NEIGHBOURS: the class's graph -/
section NBC
variable {g : zG} {μ A : zMu} {p : Int}
theorem ok_X2_lineAt {φ : Int → zMu → Prop} {w : Int} {top : Nat} {L : Nat → Int} (hp : 0 < p ∧ p ≤ 199) (ht : top ≤ 8) (hw : 0 ≤ w ∧ w < p) (hL : ∀ k, k ≤ top → μ 185 k = L k ∧ 0 ≤ L k ∧ L k < p) (h : φ (zval p w L top) μ) : zOi g zm_X2_lineAt [.ref 182, .int (zJ w), .int (zJ (top : Int)), .int (zJ p)] μ φ := by
  refine sg_X2_lineAt ?_
  have loop : ∀ f n : Nat, n + f = top + 1 → at_X2_lineAt_6 g φ w p (zhr p w L top n) ((top : Int) - n) μ := by
    intro f
    induction f with
    | zero =>
      intro n hn
      have en : n = top + 1 := by omega
      subst en
      exact sg_X2_lineAt_6 ⟨by omega, fun _ => h, fun hc => absurd hc (by omega)⟩
    | succ f ih2 =>
      intro n hn
      have k2 := ih2 (n + 1) (by omega)
      rw [zhr] at k2
      have b2 := zhr_bd (p := p) (w := w) (L := L) (top := top) hp.1 n
      obtain ⟨q1, q2⟩ := hL (top - n) (by omega)
      have b3 := zhorner_bd b2 hw q2 hp.2
      refine sg_X2_lineAt_6 ⟨by omega, fun hc => absurd hc (by omega), fun _ => ⟨by omega, ?_⟩⟩
      rw [show Int.toNat ((top : Int) - n) = top - n by omega, q1, ztm b3.1, show (top : Int) - (n : Int) + -1 = (top : Int) - ((n + 1 : Nat) : Int) by omega]
      exact ⟨by omega, by omega, by omega, k2⟩
  have k0 := loop (top + 1) 0 (by omega)
  rw [show (top : Int) - ((0 : Nat) : Int) = top by omega] at k0
  exact k0
theorem ok_X2_divideLine {φ : zMu → Prop} {w : Int} {top : Nat} {L : Nat → Int} (hp : 0 < p ∧ p ≤ 199) (ht : top ≤ 8) (hw : 0 ≤ w ∧ w < p) (hL : ∀ k, k ≤ top → μ 185 k = L k ∧ 0 ≤ L k ∧ L k < p) (h : ∀ f, (∀ k, k ≤ top → f k = zhr p w L top (top - k)) → φ (zua μ 185 f)) : zOv g zm_X2_divideLine [.ref 182, .int (zJ w), .int (zJ (top : Int)), .int (zJ p)] μ φ := by
  refine sg_X2_divideLine ?_
  have loop : ∀ f n : Nat, n + f = top → at_X2_divideLine_6 g φ w p (zhr p w L top n) ((top : Int) - n) (zua μ 185 (fun k => if top < k + n ∧ k ≤ top then zhr p w L top (top - k) else μ 185 k)) := by
    intro f
    induction f with
    | zero =>
      intro n hn
      have en : n = top := by omega
      subst en
      refine sg_X2_divideLine_6 ⟨by omega, fun _ => ?_, fun hc => absurd hc (by omega)⟩
      rw [zup_zua]
      refine h _ (fun k hk => ?_)
      by_cases k0 : k = 0
      · rw [if_pos k0, k0]; rfl
      · rw [if_neg k0, if_pos (by omega)]
    | succ f ih2 =>
      intro n hn
      have k2 := ih2 (n + 1) (by omega)
      rw [zhr] at k2
      have b2 := zhr_bd (p := p) (w := w) (L := L) (top := top) hp.1 n
      obtain ⟨q1, q2⟩ := hL (top - n) (by omega)
      have b3 := zhorner_bd b2 hw q2 hp.2
      refine sg_X2_divideLine_6 ⟨by omega, fun hc => absurd hc (by omega), fun _ => ⟨by omega, ?_⟩⟩
      rw [show Int.toNat ((top : Int) - n) = top - n by omega, zua_eq, if_neg (by omega), q1, show L (top - n) + w * zhr p w L top n = zhr p w L top n * w + L (top - n) by rw [Int.mul_comm]; omega, ztm b3.1, show (top : Int) - (n : Int) + -1 = (top : Int) - ((n + 1 : Nat) : Int) by omega, zup_zua]
      rw [zua_congr (h := fun k => if top < k + (n + 1) ∧ k ≤ top then zhr p w L top (top - k) else μ 185 k) (fun b => by
        by_cases hb : b = top - n
        · rw [if_pos hb, if_pos (by omega), hb, show top - (top - n) = n by omega]
        · rw [if_neg hb]
          by_cases hc : top < b + n ∧ b ≤ top
          · rw [if_pos hc, if_pos (by omega)]
          · rw [if_neg hc, if_neg (by omega)])]
      exact ⟨by omega, by omega, by omega, k2⟩
  have k0 := loop top 0 (by omega)
  rw [zua_self (fun b => if_neg (by omega)), show (top : Int) - ((0 : Nat) : Int) = top by omega] at k0
  exact k0
theorem ok_X3_lineCoefficient {φ : Int → zMu → Prop} {v : Int} {k d : Nat} {e : Nat → Int} (hp : 0 < p ∧ p ≤ 199) (hd : d ≤ 8) (hk : k ≤ 8) (hμ : μ 3 1 = d) (hv : 0 ≤ v ∧ v < p) (he : ∀ t, t < 81 → μ 4 t = e t) (hm : zmodp p 81 e) (h : φ (zln p d e v k) μ) : zOi g zm_X3_lineCoefficient [.ref 3, .int (zJ v), .int (zJ (k : Int)), .int (zJ p)] μ φ := by
  refine sg_X3_lineCoefficient zc_3 ?_
  rw [hμ]
  have loop : ∀ f n : Nat, n + f = d + 1 → at_X3_lineCoefficient_9 g φ 3 v (k : Int) p (zhr p v (fun i => e (9 * i + k)) d n) ((d : Int) - n) μ := by
    intro f
    induction f with
    | zero =>
      intro n hn
      have en : n = d + 1 := by omega
      subst en
      exact sg_X3_lineCoefficient_9 zc_3 ⟨by omega, fun _ => h, fun hc => absurd hc (by omega)⟩
    | succ f ih2 =>
      intro n hn
      have k2 := ih2 (n + 1) (by omega)
      rw [zhr] at k2
      have b2 := zhr_bd (p := p) (w := v) (L := fun i => e (9 * i + k)) (top := d) hp.1 n
      have b3 := zhorner_bd b2 hv (hm (9 * (d - n) + k) (by omega)) hp.2
      refine sg_X3_lineCoefficient_9 zc_3 ⟨by omega, fun hc => absurd hc (by omega), fun _ => ⟨by omega, ?_⟩⟩
      rw [show Int.toNat (9 * ((d : Int) - n) + (k : Int)) = 9 * (d - n) + k by omega, show 3 + 1 = 4 from rfl, he _ (by omega), ztm b3.1, show (d : Int) - (n : Int) + -1 = (d : Int) - ((n + 1 : Nat) : Int) by omega]
      exact ⟨by omega, by omega, by omega, k2⟩
  have k0 := loop (d + 1) 0 (by omega)
  rw [show (d : Int) - ((0 : Nat) : Int) = d by omega] at k0
  exact k0
theorem ok_X2_fillLine {φ : Int → zMu → Prop} {v : Int} {d : Nat} {e : Nat → Int} (hp : 0 < p ∧ p ≤ 199) (hd : d ≤ 8) (hμ : μ 3 1 = d) (hv : 0 ≤ v ∧ v < p) (he : ∀ t, t < 81 → μ 4 t = e t) (hm : zmodp p 81 e) (h : ∀ f, (∀ k, k ≤ d → f k = zln p d e v k) → φ (ztp (zln p d e v) (d + 1)) (zua μ 185 f)) : zOi g zm_X2_fillLine [.ref 182, .ref 3, .int (zJ v), .int (zJ p)] μ φ := by
  refine sg_X2_fillLine zc_3 ?_
  have loop : ∀ m t : Nat, t + m = d + 1 → at_X2_fillLine_6 g φ 3 v p (ztp (zln p d e v) t) (t : Int) (zua μ 185 (fun k => if k < t then zln p d e v k else μ 185 k)) := by
    intro m
    induction m with
    | zero =>
      intro t ht
      have et : t = d + 1 := by omega
      subst et
      refine sg_X2_fillLine_6 zc_3 ⟨by omega, by rw [zua_ne (by omega)]; omega, fun _ => h _ (fun k hk => if_pos (by omega)), fun hc => absurd hc (by rw [zua_ne (by omega)]; omega)⟩
    | succ m ih =>
      intro t ht
      have k2 := ih (t + 1) (by omega)
      rw [Int.natCast_add, ztp] at k2
      have b := zval_bd (p := p) (w := v) (L := fun i => e (9 * i + t)) (top := d) hp.1
      have ez : zval p v (fun i => e (9 * i + t)) d = zln p d e v t := rfl
      rw [ez] at b
      refine sg_X2_fillLine_6 zc_3 ⟨by omega, by rw [zua_ne (by omega)]; omega, fun hc => absurd hc (by rw [zua_ne (by omega)]; omega), fun _ => ok_X3_lineCoefficient hp hd (by omega) (by rw [zua_ne (by omega)]; exact hμ) hv (fun t ht => by rw [zua_ne (by omega)]; exact he t ht) hm ?_⟩
      rw [Int.toNat_natCast, zup_eq, zup_zua, zua_congr (h := fun k => if k < t + 1 then zln p d e v k else μ 185 k) (fun b => by
        by_cases hb : b = t
        · rw [if_pos hb, if_pos (by omega), hb]
        · rw [if_neg hb]
          by_cases hc : b < t
          · rw [if_pos hc, if_pos (by omega)]
          · rw [if_neg hc, if_neg (by omega)])]
      refine ⟨by omega, by omega, fun q => ?_, fun q => ?_⟩
      · rw [if_pos q] at k2; exact k2
      · rw [if_neg q] at k2; exact k2
  have k0 := loop (d + 1) 0 (by omega)
  rw [zua_self (fun b => if_neg (by omega))] at k0
  exact k0
end NBC
