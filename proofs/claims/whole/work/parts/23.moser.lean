/-! THE MODEL'S OWN: lays, multiplies, divides -/
section MOS
variable {g : zG} {φ : zMu → Prop} {μ : zMu} {a b n0 n1 N : Nat} {p : Int}
theorem zmm {x y p : Int} : (x % p * y) % p = (x * y) % p := by rw [Int.mul_emod, Int.emod_emod, ← Int.mul_emod]
theorem zmm2 {x y p : Int} : (y * (x % p)) % p = (y * x) % p := by rw [Int.mul_emod, Int.emod_emod, ← Int.mul_emod]
theorem zcv_congr {f f' h h' : Nat → Int} {k : Nat} (e1 : ∀ i, i ≤ k → f i = f' i) (e2 : ∀ i, i ≤ k → h i = h' i) : zcv f h k = zcv f' h' k := by
  unfold zcv
  refine zsm_congr (fun i hi => ?_)
  rw [e1 i (by omega), e2 (k - i) (by omega)]
theorem ok_X11_lays {x : Int} {s : Nat} (hx : x = (s : Int)) (ha : zS a 12 n0) (hb : zS b 12 n1) (hs : s + 80 ≤ n0) (h80 : 80 ≤ n1) (hab : a ≠ b) (h : φ (zua μ b (fun k => if k < 80 then μ a (s + k) else μ b k))) : zOv g zm_X11_lays [.ref a, .int (zJ x), .ref b] μ φ := by
  subst hx
  refine sg_X11_lays ?_
  have loop : ∀ m t : Nat, t + m = 80 → at_X11_lays_2 g φ a (s : Int) b (t : Int) (zua μ b (fun k => if k < t then μ a (s + k) else μ b k)) := by
    intro m
    induction m with
    | zero =>
      intro t ht
      have e : t = 80 := by omega
      subst e
      exact sg_X11_lays_2 ⟨by omega, fun _ => h, fun hc => absurd hc (by omega)⟩
    | succ m ih =>
      intro t ht
      have k2 := ih (t + 1) (by omega)
      rw [Int.natCast_add] at k2
      refine sg_X11_lays_2 ⟨by omega, fun hc => absurd hc (by omega), fun _ => ⟨zIx_of ha (by omega) (by omega), zIx_of hb (by omega) (by omega), ?_⟩⟩
      rw [Int.toNat_natCast, show Int.toNat ((s : Int) + (t : Int)) = s + t by omega, zua_ne hab, zup_zua, zua_congr (h := fun k => if k < t + 1 then μ a (s + k) else μ b k) (fun q => by
        by_cases hb : q = t
        · rw [if_pos hb, if_pos (by omega), hb]
        · rw [if_neg hb]
          by_cases hc : q < t
          · rw [if_pos hc, if_pos (by omega)]
          · rw [if_neg hc, if_neg (by omega)])]
      exact k2
  have k0 := loop 80 0 (by omega)
  rw [zua_self (fun b => if_neg (by omega))] at k0
  exact k0
theorem ok_X11_multiplies {x : Int} (hx : x = (N : Int)) (ha : zS a 12 n0) (hb : zS b 12 n1) (ha2 : a ≠ 209 ∧ a ≠ 203) (hb2 : b ≠ 209 ∧ b ≠ 203) (hn0 : N ≤ n0) (hn1 : N ≤ n1) (hn80 : N ≤ 80) (hm : μ 203 0 = p) (hp : 0 < p ∧ p ≤ 199) (hva : zmodp p N (μ a)) (hvb : zmodp p N (μ b))
    (h : φ (zua μ 209 (fun k => if k < N then zcv (μ a) (μ b) k % p else μ 209 k))) : zOv g zm_X11_multiplies [.ref 203, .ref a, .ref b, .int (zJ x)] μ φ := by
  subst hx
  refine sg_X11_multiplies ?_
  have outer : ∀ m t : Nat, t + m = N → at_X11_multiplies_3 g φ a b (N : Int) (t : Int) (zua μ 209 (fun k => if k < t then zcv (μ a) (μ b) k % p else μ 209 k)) := by
    intro m
    induction m with
    | zero =>
      intro t ht
      have e : t = N := by omega
      subst e
      exact sg_X11_multiplies_3 ⟨by omega, by omega, fun _ => h, fun hc => absurd hc (by omega)⟩
    | succ m ih =>
      intro t ht
      have k2 := ih (t + 1) (by omega)
      rw [Int.natCast_add] at k2
      refine sg_X11_multiplies_3 ⟨by omega, by omega, fun hc => absurd hc (by omega), fun _ => ?_⟩
      have inner : ∀ m s : Nat, s + m = t + 1 → at_X11_multiplies_15 g φ a b (N : Int) (t : Int) (zsm (fun i => μ a i * μ b (t - i)) s % p) (s : Int) (zua μ 209 (fun k => if k < t then zcv (μ a) (μ b) k % p else μ 209 k)) := by
        intro m
        induction m with
        | zero =>
          intro s hs
          have e : s = t + 1 := by omega
          subst e
          refine sg_X11_multiplies_15 ⟨by omega, by omega, fun _ => ⟨by omega, ?_⟩, fun hc => absurd hc (by omega)⟩
          rw [Int.toNat_natCast, zup_zua, zua_congr (h := fun k => if k < t + 1 then zcv (μ a) (μ b) k % p else μ 209 k) (fun q => by
            by_cases hb : q = t
            · rw [if_pos hb, if_pos (by omega), hb]; rfl
            · rw [if_neg hb]
              by_cases hc : q < t
              · rw [if_pos hc, if_pos (by omega)]
              · rw [if_neg hc, if_neg (by omega)])]
          exact k2
        | succ m ih2 =>
          intro s hs
          have k3 := ih2 (s + 1) (by omega)
          rw [Int.natCast_add, zsm] at k3
          have hl := zemod_lt (x := zsm (fun i => μ a i * μ b (t - i)) s) (p := p) (by omega)
          have hpr := zmul_bd (hva s (by omega)) (hvb (t - s) (by omega)) hp.2
          refine sg_X11_multiplies_15 ⟨by omega, by omega, fun hc => absurd hc (by omega), fun _ => ⟨zIx_of ha (by omega) (by omega), zIx_of hb (by omega) (by omega), ?_⟩⟩
          rw [Int.toNat_natCast, show Int.toNat ((t : Int) - (s : Int)) = t - s by omega, zua_ne ha2.1, zua_ne hb2.1, zua_ne (by omega), hm]
          refine ⟨by omega, by omega, by omega, ?_⟩
          rw [ztm (by omega), Int.emod_add_emod]
          exact k3
      have k0 := inner (t + 1) 0 (by omega)
      rw [zsm, Int.zero_emod] at k0
      exact k0
  have k0 := outer N 0 (by omega)
  rw [zua_self (fun b => if_neg (by omega))] at k0
  exact k0
theorem zdstep {x b y p : Int} : (x % p + (p - b) * y) % p = (x - b * y) % p := by
  rw [Int.emod_add_emod, show x + (p - b) * y = x - b * y + p * y by rw [Int.sub_mul]; omega, Int.add_mul_emod_self_left]
theorem ok_X11_divides {x : Int} (hx : x = (N : Int)) (hN : 1 ≤ N) (ha : zS a 12 n0) (hb : zS b 12 n1) (ha2 : a ≠ 209 ∧ a ≠ 203) (hb2 : b ≠ 209 ∧ b ≠ 203) (hn0 : N ≤ n0) (hn1 : N ≤ n1) (hn80 : N ≤ 80) (hm : μ 203 0 = p) (hp : zP p) (hva : zmodp p N (μ a)) (hvb : zmodp p N (μ b)) (hf : 0 < μ b 0)
    (h : φ (zua μ 209 (fun k => if k < N then zdv p (μ a) (μ b) k else μ 209 k))) : zOv g zm_X11_divides [.ref 203, .ref a, .ref b, .int (zJ x)] μ φ := by
  subst hx
  have hpb := zP_bd hp
  have hb0 := (hvb 0 (by omega)).2
  have hI := zI_ok hp hf hb0
  have hX := zdv_modp (p := p) (N := μ a) (D := μ b) (by omega) N
  refine sg_X11_divides ⟨zIx_of hb (by omega) (by omega), ok_X11_inverse (by rw [hm]; exact hp) hf (by rw [hm]; exact hb0) ?_⟩
  rw [hm]
  have outer : ∀ m t : Nat, t + m = N → at_X11_divides_12 g φ a b (N : Int) (zI p (μ b 0)) (t : Int) (zua μ 209 (fun k => if k < t then zdv p (μ a) (μ b) k else μ 209 k)) := by
    intro m
    induction m with
    | zero =>
      intro t ht
      have e : t = N := by omega
      subst e
      exact sg_X11_divides_12 ⟨by omega, by omega, fun _ => h, fun hc => absurd hc (by omega)⟩
    | succ m ih =>
      intro t ht
      have k2 := ih (t + 1) (by omega)
      rw [Int.natCast_add] at k2
      refine sg_X11_divides_12 ⟨by omega, by omega, fun hc => absurd hc (by omega), fun _ => ⟨zIx_of ha (by omega) (by omega), ?_⟩⟩
      rw [Int.toNat_natCast, zua_ne ha2.1]
      have inner : ∀ m s : Nat, s + m = t → at_X11_divides_27 g φ a b (N : Int) (zI p (μ b 0)) (t : Int) ((μ a t - zsm (fun j => μ b (j + 1) * zdv p (μ a) (μ b) (t - 1 - j)) s) % p) ((s : Int) + 1) (zua μ 209 (fun k => if k < t then zdv p (μ a) (μ b) k else μ 209 k)) := by
        intro m
        induction m with
        | zero =>
          intro s hs
          have e : s = t := by omega
          subst e
          have hl := zemod_lt (x := μ a s - zsm (fun j => μ b (j + 1) * zdv p (μ a) (μ b) (s - 1 - j)) s) (p := p) (by omega)
          refine sg_X11_divides_27 ⟨by omega, by omega, fun _ => ?_, fun hc => absurd hc (by omega)⟩
          rw [zua_ne (by omega), hm, ztm hl.1, Int.emod_emod]
          have hmm := zmul_bd hl ⟨hI.1, hI.2.1⟩ hpb.2
          refine ⟨by omega, by omega, by omega, by omega, by omega, ?_⟩
          rw [ztm hmm.1, Int.toNat_natCast, zup_zua, zua_congr (h := fun k => if k < s + 1 then zdv p (μ a) (μ b) k else μ 209 k) (fun q => by
            by_cases hb : q = s
            · rw [if_pos hb, if_pos (by omega), hb, zdv_eq, zmm]
            · rw [if_neg hb]
              by_cases hc : q < s
              · rw [if_pos hc, if_pos (by omega)]
              · rw [if_neg hc, if_neg (by omega)])]
          exact k2
        | succ m ih2 =>
          intro s hs
          have k3 := ih2 (s + 1) (by omega)
          rw [Int.natCast_add, zsm] at k3
          have hl := zemod_lt (x := μ a t - zsm (fun j => μ b (j + 1) * zdv p (μ a) (μ b) (t - 1 - j)) s) (p := p) (by omega)
          have hbb := hvb (s + 1) (by omega)
          have hpr : 0 ≤ (p - μ b (s + 1)) * zdv p (μ a) (μ b) (t - 1 - s) ∧ (p - μ b (s + 1)) * zdv p (μ a) (μ b) (t - 1 - s) ≤ 199 * 199 := by
            have hy := hX (t - 1 - s) (by omega)
            exact ⟨Int.mul_nonneg (by omega) hy.1, Int.le_trans (Int.mul_le_mul_of_nonneg_right (c := zdv p (μ a) (μ b) (t - 1 - s)) (show _ ≤ (199 : Int) by omega) hy.1) (by omega)⟩
          refine sg_X11_divides_27 ⟨by omega, by omega, fun hc => absurd hc (by omega), fun _ => ⟨zIx_of hb (by omega) (by omega), by omega, ?_⟩⟩
          rw [show Int.toNat ((s : Int) + 1) = s + 1 by omega, show Int.toNat ((t : Int) - ((s : Int) + 1)) = t - 1 - s by omega, zua_ne hb2.1, zua_eq, if_pos (by omega), zua_ne (by omega), hm]
          refine ⟨by omega, by omega, by omega, ?_⟩
          rw [ztm (by omega), zdstep, Int.sub_sub]
          exact k3
      have k0 := inner t 0 (by omega)
      have hat := hva t (by omega)
      rw [zsm, Int.sub_zero, Int.emod_eq_of_lt hat.1 hat.2] at k0
      exact k0
  have k0 := outer N 0 (by omega)
  rw [zua_self (fun b => if_neg (by omega))] at k0
  exact k0
end MOS
