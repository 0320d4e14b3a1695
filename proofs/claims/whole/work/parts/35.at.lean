/-! AT: values by Horner -/
theorem zhr_bd {p w : Int} {L : Nat → Int} {top : Nat} (hp : 0 < p) : ∀ m, 0 ≤ zhr p w L top m ∧ zhr p w L top m < p
  | 0 => ⟨Int.le_refl _, hp⟩
  | m + 1 => zemod_lt hp
theorem zval_bd {p w : Int} {L : Nat → Int} {top : Nat} (hp : 0 < p) : 0 ≤ zval p w L top ∧ zval p w L top < p := zhr_bd hp _
theorem zhr_sum {p w : Int} {L : Nat → Int} {top : Nat} : ∀ m, m ≤ top + 1 → zhr p w L top m % p = zsm (fun k => L (top + 1 - m + k) * w ^ k) m % p
  | 0, _ => rfl
  | m + 1, h => by
    have ih := zhr_sum (p := p) (w := w) (L := L) (top := top) m (by omega)
    show ((zhr p w L top m * w + L (top - m)) % p) % p = _
    rw [Int.emod_emod, zsm_front, zsm_congr (G := fun k => w * (L (top + 1 - m + k) * w ^ k)) (fun i hi => by
      show L (top + 1 - (m + 1) + (i + 1)) * w ^ (i + 1) = _
      rw [show top + 1 - (m + 1) + (i + 1) = top + 1 - m + i by omega, Int.pow_succ, Int.mul_comm w (L (top + 1 - m + i) * w ^ i), Int.mul_assoc]), zsm_mul]
    rw [show L (top + 1 - (m + 1) + 0) * w ^ 0 = L (top - m) by rw [Int.pow_zero, Int.mul_one, show top + 1 - (m + 1) + 0 = top - m by omega]]
    rw [Int.add_emod, Int.mul_emod, ih, ← Int.mul_emod, ← Int.add_emod, Int.mul_comm w, Int.add_comm]
theorem zval_sum {p w : Int} {L : Nat → Int} {top : Nat} : zval p w L top % p = zsm (fun k => L k * w ^ k) (top + 1) % p := by
  unfold zval
  rw [zhr_sum (top + 1) (by omega), zsm_congr (G := fun k => L k * w ^ k) (fun i _ => by rw [show top + 1 - (top + 1) + i = i by omega])]
theorem zval_congr {p w : Int} {L L' : Nat → Int} {top : Nat} (e : ∀ k, k ≤ top → L k = L' k) : zval p w L top = zval p w L' top := by
  have : ∀ m, m ≤ top + 1 → zhr p w L top m = zhr p w L' top m := by
    intro m
    induction m with
    | zero => exact fun _ => rfl
    | succ m ih =>
      intro h
      rw [zhr, zhr, ih (by omega), e _ (by omega)]
  exact this _ (by omega)
/-- x first or y first -/
theorem zval_swap {p v w : Int} {d : Nat} {e : Nat → Int} (hp : 0 < p) : zval p v (fun i => zval p w (fun k => e (9 * i + k)) d) d = zval p w (zln p d e v) d := by
  have h1 := zval_bd (p := p) (w := v) (L := fun i => zval p w (fun k => e (9 * i + k)) d) (top := d) hp
  have h2 := zval_bd (p := p) (w := w) (L := zln p d e v) (top := d) hp
  rw [← Int.emod_eq_of_lt h1.1 h1.2, ← Int.emod_eq_of_lt h2.1 h2.2, zval_sum, zval_sum]
  rw [zsm_mod (G := fun i => zsm (fun k => e (9 * i + k) * w ^ k * v ^ i) (d + 1)) (fun i _ => by
    show (zval p w (fun k => e (9 * i + k)) d * v ^ i) % p = _
    rw [Int.mul_emod, zval_sum, ← Int.mul_emod, Int.mul_comm, ← zsm_mul]
    rw [zsm_congr (G := fun k => e (9 * i + k) * w ^ k * v ^ i) (fun k _ => Int.mul_comm _ _)])]
  rw [zsm_mod (F := fun k => zln p d e v k * w ^ k) (G := fun k => zsm (fun i => e (9 * i + k) * w ^ k * v ^ i) (d + 1)) (fun k _ => by
    show (zval p v (fun i => e (9 * i + k)) d * w ^ k) % p = _
    rw [Int.mul_emod, zval_sum, ← Int.mul_emod, Int.mul_comm, ← zsm_mul]
    rw [zsm_congr (G := fun i => e (9 * i + k) * w ^ k * v ^ i) (fun i _ => by
      rw [Int.mul_comm (w ^ k), Int.mul_assoc, Int.mul_comm (v ^ i), ← Int.mul_assoc])])]
  rw [zsm_swap (fun i k => e (9 * i + k) * w ^ k * v ^ i)]
section ATT
variable {g : zG} {φ : Int → zMu → Prop} {μ A : zMu}
theorem zhorner_bd {x w l p : Int} (hx : 0 ≤ x ∧ x < p) (hw : 0 ≤ w ∧ w < p) (hl : 0 ≤ l ∧ l < p) (hp : p ≤ 199) : 0 ≤ x * w + l ∧ x * w + l ≤ 40000 := by
  have := zmul_bd hx hw hp
  omega
theorem ok_X3_valueOf {v w p : Int} {d : Nat} {e : Nat → Int} (hp : 0 < p ∧ p ≤ 199) (hd : d ≤ 8) (hμ : μ 3 1 = d) (hv : 0 ≤ v ∧ v < p) (hw : 0 ≤ w ∧ w < p) (he : ∀ t, t < 81 → μ 4 t = e t) (hm : zmodp p 81 e) (h : φ (zval p w (zln p d e v) d) μ) : zOi g zm_X3_valueOf [.ref 3, .int (zJ v), .int (zJ w), .int (zJ p)] μ φ := by
  rw [← zval_swap hp.1] at h
  refine sg_X3_valueOf zc_3 ?_
  rw [hμ]
  have outer : ∀ f m : Nat, m + f = d + 1 → at_X3_valueOf_9 g φ 3 v w p (zhr p v (fun i => zval p w (fun k => e (9 * i + k)) d) d m) ((d : Int) - m) μ := by
    intro f
    induction f with
    | zero =>
      intro m hm2
      have em : m = d + 1 := by omega
      subst em
      exact sg_X3_valueOf_9 zc_3 ⟨by omega, fun _ => h, fun hc => absurd hc (by omega)⟩
    | succ f ih =>
      intro m hm2
      have k1 := ih (m + 1) (by omega)
      rw [zhr] at k1
      have b1 := zhr_bd (p := p) (w := v) (L := fun i => zval p w (fun k => e (9 * i + k)) d) (top := d) hp.1 m
      refine sg_X3_valueOf_9 zc_3 ⟨by omega, fun hc => absurd hc (by omega), fun _ => ?_⟩
      rw [hμ]
      have inner : ∀ f n : Nat, n + f = d + 1 → at_X3_valueOf_23 g φ 3 v w p (zhr p v (fun i => zval p w (fun k => e (9 * i + k)) d) d m) ((d : Int) - m) (zhr p w (fun k => e (9 * (d - m) + k)) d n) ((d : Int) - n) μ := by
        intro f
        induction f with
        | zero =>
          intro n hn
          have en : n = d + 1 := by omega
          subst en
          have b2 := zhr_bd (p := p) (w := w) (L := fun k => e (9 * (d - m) + k)) (top := d) hp.1 (d + 1)
          have b3 := zhorner_bd b1 hv b2 hp.2
          refine sg_X3_valueOf_23 zc_3 ⟨by omega, fun _ => ⟨by omega, by omega, by omega, ?_⟩, fun hc => absurd hc (by omega)⟩
          rw [ztm b3.1, show (d : Int) - (m : Int) + -1 = (d : Int) - ((m + 1 : Nat) : Int) by omega]
          exact k1
        | succ f ih2 =>
          intro n hn
          have k2 := ih2 (n + 1) (by omega)
          rw [zhr] at k2
          have b2 := zhr_bd (p := p) (w := w) (L := fun k => e (9 * (d - m) + k)) (top := d) hp.1 n
          have b3 := zhorner_bd b2 hw (hm (9 * (d - m) + (d - n)) (by omega)) hp.2
          refine sg_X3_valueOf_23 zc_3 ⟨by omega, fun hc => absurd hc (by omega), fun _ => ⟨by omega, ?_⟩⟩
          rw [show Int.toNat (9 * ((d : Int) - m) + ((d : Int) - n)) = 9 * (d - m) + (d - n) by omega, show 3 + 1 = 4 from rfl, he _ (by omega), ztm b3.1, show (d : Int) - (n : Int) + -1 = (d : Int) - ((n + 1 : Nat) : Int) by omega]
          exact ⟨by omega, by omega, by omega, k2⟩
      have k0 := inner (d + 1) 0 (by omega)
      rw [show (d : Int) - ((0 : Nat) : Int) = d by omega] at k0
      exact k0
  have k0 := outer (d + 1) 0 (by omega)
  rw [show (d : Int) - ((0 : Nat) : Int) = d by omega] at k0
  exact k0
def rd_at (A : zMu) (v w : Int) : Int := if ¬ (0 ≤ v ∧ v < A 0 0) ∨ ¬ (0 ≤ w ∧ w < A 0 0) then -2 else if A 3 0 = 0 then -11 else zval (A 0 0) w (zln (A 0 0) (A 3 0).toNat (A 4) v) (A 3 0).toNat
theorem cx_at {v w : Int} (hw : zWF A) (hR : zRC A μ) (hv : zR v) (hw2 : zR w) (h : zHc φ μ (rd_at A v w, A)) : zOi g zm_X10_at [.ref 0, .int (zJ v), .int (zJ w)] μ φ := by
  have hp := zWF_p hw
  have hd := zWF_d hw
  have e0 := zRC_p0 hR
  obtain ⟨t1, t2⟩ := zRC_eq hR
  have h1 : ¬ (0 ≤ v ∧ v < A 0 0) ∨ ¬ (0 ≤ w ∧ w < A 0 0) → φ (-2) μ := fun q => h.rd (if_pos q) hR (zKm.refl μ)
  refine sg_X10_at (ok_X10_isValue hv (by omega) (fun qv => ⟨by omega, fun hc => absurd hc (by omega), fun _ => ok_X10_isValue hw2 (by omega) (fun qw => ⟨by omega, fun _ => ?_, fun hc => absurd hc (by omega)⟩) (fun q => ⟨by omega, fun hc => absurd rfl hc, fun _ => h1 (by omega)⟩)⟩) (fun q => ⟨by omega, fun _ => h1 (by omega), fun hc => absurd rfl hc⟩))
  unfold rd_at at h
  rw [if_neg (by omega)] at h
  refine ok_X3_isMissing zc_3 (by omega) (fun m => ⟨by omega, fun _ => ?_, fun hc => absurd rfl hc⟩) (fun m => ⟨by omega, fun hc => absurd hc (by omega), fun _ => h.rd (if_pos (by omega)) hR (zKm.refl μ)⟩)
  rw [if_neg (by omega)] at h
  rw [e0]
  exact ok_X3_valueOf (by omega) (by omega) (by omega) (by omega) (by omega) (t2 (by omega)) (zWF_e hw (by omega)).1 (h.rd rfl hR (zKm.refl μ))
/-- the line of v, row 220; 1 says that it isn't all 0 -/
theorem zor_x : zor 0 0 = 0 ∧ zor 0 1 = 1 ∧ zor 1 0 = 1 ∧ zor 1 1 = 1 := by decide +kernel
theorem ok_X11_puts {v : Int} {d : Nat} (hw : zWF A) (hR : zRM A μ) (hd : A 3 0 = d) (hd0 : d ≠ 0) (hv : 0 ≤ v ∧ v < A 0 0) (h : ∀ x : Int, ∀ f : Nat → Int, (∀ k, k ≤ d → f k = zln (A 0 0) d (A 4) v k) → ((x = 1 ∧ ∃ k, k ≤ d ∧ zln (A 0 0) d (A 4) v k ≠ 0) ∨ (x = 0 ∧ ∀ k, k ≤ d → zln (A 0 0) d (A 4) v k = 0)) → φ x (zua μ 220 f)) : zOi g zm_X11_puts [.ref 203, .int (zJ v)] μ φ := by
  have hp := zWF_p hw
  have hd8 := zWF_d hw
  have he := zWF_e hw (by omega)
  obtain ⟨o1, o2, o3, o4⟩ := zor_x
  refine sg_X11_puts ?_
  have outer : ∀ m t : Nat, t + m = d + 1 → ∀ x : Int, ((x = 1 ∧ ∃ k, k < t ∧ zln (A 0 0) d (A 4) v k ≠ 0) ∨ (x = 0 ∧ ∀ k, k < t → zln (A 0 0) d (A 4) v k = 0)) → at_X11_puts_4 g φ v x (t : Int) (zua μ 220 (fun k => if k < t then zln (A 0 0) d (A 4) v k else μ 220 k)) := by
    intro m
    induction m with
    | zero =>
      intro t ht x hx
      have e : t = d + 1 := by omega
      subst e
      have hd3 := zRM_d (zRM_scr (f := fun k => if k < d + 1 then zln (A 0 0) d (A 4) v k else μ 220 k) (i := 220) (by omega) hR)
      refine sg_X11_puts_4 ⟨by omega, by omega, fun _ => ⟨by omega, h x _ (fun k hk => if_pos (by omega)) ?_⟩, fun hc => absurd hc (by omega)⟩
      exact hx.imp (fun z => ⟨z.1, z.2.imp (fun k q => ⟨by omega, q.2⟩)⟩) (fun z => ⟨z.1, fun k hk => z.2 k (by omega)⟩)
    | succ m ih =>
      intro t ht x hx
      have hRt := zRM_scr (f := fun k => if k < t then zln (A 0 0) d (A 4) v k else μ 220 k) (i := 220) (by omega) hR
      have hd3 := zRM_d hRt
      refine sg_X11_puts_4 ⟨by omega, by omega, fun hc => absurd hc (by omega), fun _ => ?_⟩
      rw [hd3, hd]
      have next : ∀ y : Int, ((y = 1 ∧ ∃ k, k < t + 1 ∧ zln (A 0 0) d (A 4) v k ≠ 0) ∨ (y = 0 ∧ ∀ k, k < t + 1 → zln (A 0 0) d (A 4) v k = 0)) → at_X11_puts_4 g φ v y ((t : Int) + 1) (zup (zua μ 220 (fun k => if k < t then zln (A 0 0) d (A 4) v k else μ 220 k)) 220 (t : Int).toNat (zln (A 0 0) d (A 4) v t)) := fun y hy => by
        have := ih (t + 1) (by omega) y hy
        rw [Int.natCast_add] at this
        rw [Int.toNat_natCast, zup_zua, zua_congr (h := fun k => if k < t + 1 then zln (A 0 0) d (A 4) v k else μ 220 k) (fun b => by
          by_cases hb : b = t
          · rw [if_pos hb, if_pos (by omega), hb]
          · rw [if_neg hb]
            by_cases hc : b < t
            · rw [if_pos hc, if_pos (by omega)]
            · rw [if_neg hc, if_neg (by omega)])]
        exact this
      have inner : ∀ f n : Nat, n + f = d + 1 → at_X11_puts_21 g φ v x (t : Int) (zhr (A 0 0) v (fun i => A 4 (9 * i + t)) d n) ((d : Int) - n) (zua μ 220 (fun k => if k < t then zln (A 0 0) d (A 4) v k else μ 220 k)) := by
        intro f
        induction f with
        | zero =>
          intro n hn
          have en : n = d + 1 := by omega
          subst en
          have b2 := zhr_bd (p := A 0 0) (w := v) (L := fun i => A 4 (9 * i + t)) (top := d) (by omega) (d + 1)
          have ez : zhr (A 0 0) v (fun i => A 4 (9 * i + t)) d (d + 1) = zln (A 0 0) d (A 4) v t := rfl
          rw [ez] at b2 ⊢
          refine sg_X11_puts_21 ⟨by omega, fun _ => ⟨by omega, by omega, fun z => next _ ?_, fun z => next _ ?_⟩, fun hc => absurd hc (by omega)⟩
          · rcases hx with ⟨rfl, k, hk, hz⟩ | ⟨rfl, hz⟩
            · exact Or.inl ⟨o3, k, by omega, hz⟩
            · refine Or.inr ⟨o1, fun k hk => ?_⟩
              by_cases e : k = t
              · rw [e]; exact z
              · exact hz k (by omega)
          · refine Or.inl ⟨?_, t, by omega, z⟩
            rcases hx with ⟨rfl, _⟩ | ⟨rfl, _⟩ <;> assumption
        | succ f ih2 =>
          intro n hn
          have k2 := ih2 (n + 1) (by omega)
          rw [zhr] at k2
          have b2 := zhr_bd (p := A 0 0) (w := v) (L := fun i => A 4 (9 * i + t)) (top := d) (by omega) n
          have b3 := zhorner_bd b2 hv (he.1 (9 * (d - n) + t) (by omega)) hp.2.2
          refine sg_X11_puts_21 ⟨by omega, fun hc => absurd hc (by omega), fun _ => ?_⟩
          rw [show (d : Int) - (n : Int) = ((d - n : Nat) : Int) by omega]
          refine ok_X11_termAt hw hRt (by omega) (by omega) (by omega) ?_
          rw [zRM_p0 hRt, ztm b3.1, show ((d - n : Nat) : Int) + -1 = (d : Int) - ((n + 1 : Nat) : Int) by omega]
          exact ⟨by omega, by omega, by omega, k2⟩
      have k0 := inner (d + 1) 0 (by omega)
      rw [show (d : Int) - ((0 : Nat) : Int) = d by omega] at k0
      exact k0
  have k0 := outer (d + 1) 0 (by omega) 0 (Or.inr ⟨rfl, fun k hk => absurd hk (by omega)⟩)
  rw [zua_self (fun b => if_neg (by omega))] at k0
  exact k0
theorem ok_X11_worth {w p : Int} {d : Nat} {L : Nat → Int} (hp : 0 < p ∧ p ≤ 199) (hd : d ≤ 8) (hμ : μ 203 4 = d) (hm : μ 203 0 = p) (hw : 0 ≤ w ∧ w < p) (hL : ∀ k, k ≤ d → μ 220 k = L k ∧ 0 ≤ L k ∧ L k < p) (h : φ (zval p w L d) μ) : zOi g zm_X11_worth [.ref 203, .int (zJ w)] μ φ := by
  refine sg_X11_worth ?_
  rw [hμ]
  have loop : ∀ f n : Nat, n + f = d + 1 → at_X11_worth_7 g φ w (zhr p w L d n) ((d : Int) - n) μ := by
    intro f
    induction f with
    | zero =>
      intro n hn
      have en : n = d + 1 := by omega
      subst en
      exact sg_X11_worth_7 ⟨by omega, fun _ => h, fun hc => absurd hc (by omega)⟩
    | succ f ih2 =>
      intro n hn
      have k2 := ih2 (n + 1) (by omega)
      rw [zhr] at k2
      have b2 := zhr_bd (p := p) (w := w) (L := L) (top := d) hp.1 n
      obtain ⟨q1, q2⟩ := hL (d - n) (by omega)
      have b3 := zhorner_bd b2 hw q2 hp.2
      refine sg_X11_worth_7 ⟨by omega, fun hc => absurd hc (by omega), fun _ => ⟨by omega, ?_⟩⟩
      rw [show Int.toNat ((d : Int) - n) = d - n by omega, q1, hm, ztm b3.1, show (d : Int) - (n : Int) + -1 = (d : Int) - ((n + 1 : Nat) : Int) by omega]
      exact ⟨by omega, by omega, by omega, k2⟩
  have k0 := loop (d + 1) 0 (by omega)
  rw [show (d : Int) - ((0 : Nat) : Int) = d by omega] at k0
  exact k0
theorem mx_at {v w : Int} (hw : zWF A) (hR : zRM A μ) (hv : zR v) (hw2 : zR w) (h : zHm φ μ (rd_at A v w, A)) : zOi g zm_X11_at [.ref 203, .int (zJ v), .int (zJ w)] μ φ := by
  have hp := zWF_p hw
  have hd8 := zWF_d hw
  have e0 := zRM_p0 hR
  have t1 := zRM_d hR
  have h1 : ¬ (0 ≤ v ∧ v < A 0 0) ∨ ¬ (0 ≤ w ∧ w < A 0 0) → φ (-2) μ := fun q => h.rd (if_pos q) hR (zKc.refl μ)
  refine sg_X11_at (ok_X11_isValue hv (by omega) (fun qv => ⟨by omega, fun hc => absurd hc (by omega), fun _ => ok_X11_isValue hw2 (by omega) (fun qw => ⟨by omega, fun _ => ⟨by omega, fun m => ?_, fun m => h.rd ((if_neg (by omega)).trans (if_pos (by omega))) hR (zKc.refl μ)⟩, fun hc => absurd hc (by omega)⟩) (fun q => ⟨by omega, fun hc => absurd rfl hc, fun _ => h1 (by omega)⟩)⟩) (fun q => ⟨by omega, fun _ => h1 (by omega), fun hc => absurd rfl hc⟩))
  unfold rd_at at h
  rw [if_neg (by omega), if_neg (by omega)] at h
  obtain ⟨d, hdd⟩ : ∃ d : Nat, A 3 0 = d := ⟨(A 3 0).toNat, by omega⟩
  rw [hdd, Int.toNat_natCast] at h
  refine ok_X11_puts hw hR hdd (by omega) (by omega) (fun x f hf _ => ?_)
  have hR1 : zRM A (zua μ 220 f) := zRM_scr (by omega) hR
  exact ok_X11_worth (p := A 0 0) (d := d) (L := zln (A 0 0) d (A 4) v) (by omega) (by omega) ((zRM_d hR1).trans hdd) (zRM_p0 hR1) (by omega) (fun k hk => ⟨by rw [zua_eq, hf k hk], zval_bd (by omega)⟩) (h.rd rfl hR1 (zKc_scr (by omega)))
end ATT
