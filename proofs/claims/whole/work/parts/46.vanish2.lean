/-! VANISHES: class and model -/
/-- the sum so far -/
def zvS (A : zMu) (a b d i k t : Nat) : Int := zsm (fun x => zsm (fun y => A 4 (9 * x + y) * zqc A a b d x y t) (d + 1)) i + zsm (fun y => A 4 (9 * i + y) * zqc A a b d i y t) k
theorem zvS_row {A : zMu} {a b d i t : Nat} : zvS A a b d i (d + 1) t = zvS A a b d (i + 1) 0 t := by
  unfold zvS
  show _ = zsm (fun x => zsm (fun y => A 4 (9 * x + y) * zqc A a b d x y t) (d + 1)) i + zsm (fun y => A 4 (9 * i + y) * zqc A a b d i y t) (d + 1) + 0
  omega
theorem zvS_step {A : zMu} {a b d i k t : Nat} : (zvS A a b d i k t % A 0 0 + A 4 (9 * i + k) * zqc A a b d i k t) % A 0 0 = zvS A a b d i (k + 1) t % A 0 0 := by
  rw [Int.emod_add_emod]
  congr 1
  unfold zvS
  show _ = _ + (zsm (fun y => A 4 (9 * i + y) * zqc A a b d i y t) k + A 4 (9 * i + k) * zqc A a b d i k t)
  omega
def zvn0 (A : zMu) (a b : Nat) : Prop := ∀ t : Nat, t < zkw A a b → zvS A a b (A 3 0).toNat ((A 3 0).toNat + 1) 0 t % A 0 0 = 0
noncomputable def rd_van (A : zMu) (a b : Int) : Int := if ¬ (0 ≤ a ∧ a < 6) ∨ ¬ (0 ≤ b ∧ b < 6) then -1 else if A 3 0 = 0 ∨ A 2 a.toNat = 0 ∨ A 2 b.toNat = 0 then -11 else @ite Int (zvn0 A a.toNat b.toNat) (Classical.propDecidable _) 1 0
section VN2
variable {g : zG} {μ A : zMu}
theorem ok_X9_addTerm {φ : zMu → Prop} {a b d i k : Nat} {c : Int} {R : Nat → Int} (hw : zWF A) (ha : a < 6) (hb : b < 6) (h1 : A 2 a ≠ 0) (h2 : A 2 b ≠ 0) (hd : d ≤ 8) (hi : i ≤ d) (hk : k ≤ d) (hP : zPC A a b d μ) (hc : 0 ≤ c ∧ c < A 0 0) (hR : ∀ t : Nat, t < zkw A a b → μ 96 t = R t ∧ 0 ≤ R t ∧ R t < A 0 0)
    (h : ∀ ν, (∀ (x : Nat), x ≠ 95 → x ≠ 96 → ν x = μ x) → (∀ t : Nat, t < zkw A a b → ν 96 t = (R t + c * zqc A a b d i k t) % A 0 0) → φ ν) : zOv g zm_X9_addTerm [.ref 74, .int (zJ (i : Int)), .int (zJ (k : Int)), .int (zJ c)] μ φ := by
  have hp := zWF_p hw
  obtain ⟨k1, k2, k3, k4, k5⟩ := zkw_bd hw ha hb h1 h2
  have ho := zof_bd (A := A) (a := a) (b := b) (zWF_s hw ha).1 (zWF_s hw hb).1 hd hi hk
  refine sg_X9_addTerm ⟨by omega, fun hc0 => ?_, fun hc0 => h μ (fun _ _ _ => rfl) (fun t ht => by rw [hc0, Int.zero_mul, Int.add_zero, (hR t ht).1, Int.emod_eq_of_lt (hR t ht).2.1 (hR t ht).2.2])⟩
  refine ok_X9_multiplyTerm hw ha hb h1 h2 hd hi hk hP (fun F hF => ?_)
  have e7 : ∀ f, zua (zua μ 95 F) 96 f 74 7 = zkw A a b := fun f => (zua_ne (by omega)).trans ((zua_ne (by omega)).trans hP.2.2.2.1)
  have e8 : ∀ f, zua (zua μ 95 F) 96 f 74 8 = A 0 0 := fun f => (zua_ne (by omega)).trans ((zua_ne (by omega)).trans hP.2.2.2.2.1)
  obtain ⟨o, hoe⟩ : ∃ o : Nat, zof A a b d i k = o := ⟨(zof A a b d i k).toNat, by omega⟩
  rw [hoe] at hF ho ⊢
  have loop : ∀ m t : Nat, (t + m = zkw A a b ∨ (m = 0 ∧ zkw A a b ≤ t)) → o ≤ t → t ≤ 3168 → at_X9_addTerm_17 g φ c (o : Int) (t : Int) (zua (zua μ 95 F) 96 (fun x => if x < zkw A a b then (if x < t then (R x + c * zqc A a b d i k x) % A 0 0 else R x) else μ 96 x)) := by
    intro m
    induction m with
    | zero =>
      intro t ht hot ht2
      refine sg_X9_addTerm_17 ⟨by omega, by rw [e7]; omega, fun _ => ?_, fun hc => absurd hc (by rw [e7]; omega)⟩
      refine h _ (fun x q1 q2 => (zua_nc q2).trans (zua_nc q1)) (fun x hx => ?_)
      rw [zua_eq, if_pos hx, if_pos (by omega)]
    | succ m ih =>
      intro t ht hot ht2
      have htn : t < zkw A a b := by omega
      have hFt := hF (t - o) (by omega)
      have hz : zqc A a b d i k t = zpx A a b i k (t - o) := by
        unfold zqc
        rw [hoe, if_pos (by omega), show ((t : Int) - (o : Int)).toNat = t - o by omega]
      have hpx : 0 ≤ zpx A a b i k (t - o) ∧ zpx A a b i k (t - o) < A 0 0 := zemod_lt (by omega)
      have hm := zmul_bd hc hpx (by omega)
      have hRt := (hR t htn).2
      refine sg_X9_addTerm_17 ⟨by omega, by rw [e7]; omega, fun hc => absurd hc (by rw [e7]; omega), fun _ => ⟨by omega, by omega, ?_⟩⟩
      rw [e8, Int.toNat_natCast, show Int.toNat ((t : Int) - (o : Int)) = t - o by omega, zua_eq, if_pos htn, if_neg (by omega), zua_ne (by omega), zua_eq, hFt]
      refine ⟨by omega, by omega, by omega, ?_⟩
      rw [ztm (by omega), zup_zua, zua_congr (h := fun x => if x < zkw A a b then (if x < t + 1 then (R x + c * zqc A a b d i k x) % A 0 0 else R x) else μ 96 x) (fun x => by
        by_cases e : x = t
        · rw [if_pos e, e, if_pos htn, if_pos (show t < t + 1 by omega), hz]
        · rw [if_neg e]
          by_cases hx : x < zkw A a b
          · rw [if_pos hx, if_pos hx]
            by_cases hxt : x < t
            · rw [if_pos hxt, if_pos (show x < t + 1 by omega)]
            · rw [if_neg hxt, if_neg (show ¬ x < t + 1 by omega)]
          · rw [if_neg hx, if_neg hx])]
      have := ih (t + 1) (by omega) (by omega) (by omega)
      rw [Int.natCast_add] at this
      exact this
  have k0 := loop (zkw A a b - o) o (by omega) (by omega) (by omega)
  have es : zua (zua μ 95 F) 96 (fun x => if x < zkw A a b then (if x < o then (R x + c * zqc A a b d i k x) % A 0 0 else R x) else μ 96 x) = zua μ 95 F := zua_self (fun x => by
    rw [zua_ne (by omega)]
    by_cases hx : x < zkw A a b
    · rw [if_pos hx, (hR x hx).1]
      by_cases hxo : x < o
      · rw [if_pos hxo]
        unfold zqc
        rw [hoe, if_neg (by omega), Int.mul_zero, Int.add_zero, Int.emod_eq_of_lt (hR x hx).2.1 (hR x hx).2.2]
      · rw [if_neg hxo]
    · rw [if_neg hx])
  rw [es] at k0
  exact k0
theorem ok_X9_isZeroFor {φ : Int → zMu → Prop} {a b d : Nat} (hw : zWF A) (hR : zRC A μ) (ha : a < 6) (hb : b < 6) (h1 : A 2 a ≠ 0) (h2 : A 2 b ≠ 0) (hd : A 3 0 = d) (hd0 : d ≠ 0) (hP : zPC A a b d μ) (h : ∀ x ν, zRC A ν → zKm μ ν → ((x = 1 ∧ zvn0 A a b) ∨ (x = 0 ∧ ¬ zvn0 A a b)) → φ x ν) : zOi g zm_X9_isZeroFor [.ref 74, .ref 3] μ φ := by
  have hp := zWF_p hw
  have hd8 := zWF_d hw
  have he := zWF_e hw (by omega)
  obtain ⟨k1, k2, k3, k4, k5⟩ := zkw_bd hw ha hb h1 h2
  -- the frame: rows 95, 96 alone
  have fr : ∀ ν, (∀ (x : Nat), x ≠ 95 → x ≠ 96 → ν x = μ x) → zRC A ν ∧ zKm μ ν ∧ zPC A a b d ν := fun ν f => ⟨zRC_s hR (fun i hi j _ => by rw [f i (by omega) (by omega)]), fun i hi => f i (by omega) (by omega), zPC_keep (by omega) hP (fun i q1 q2 => f i (by omega) (by omega))⟩
  have scan : ∀ ν, (∀ (x : Nat), x ≠ 95 → x ≠ 96 → ν x = μ x) → (∀ t : Nat, t < zkw A a b → ν 96 t = zvS A a b d (d + 1) 0 t % A 0 0) → at_X9_isZeroFor_59 g φ 0 ν := fun ν f e => by
    obtain ⟨q1, q2, q3⟩ := fr ν f
    have e7 := q3.2.2.2.1
    have loop : ∀ m t : Nat, t + m = zkw A a b → (∀ s, s < t → zvS A a b d (d + 1) 0 s % A 0 0 = 0) → at_X9_isZeroFor_59 g φ (t : Int) ν := by
      intro m
      induction m with
      | zero =>
        intro t ht hz
        refine sg_X9_isZeroFor_59 ⟨by omega, by omega, fun _ => h 1 ν q1 q2 (Or.inl ⟨rfl, fun s hs => ?_⟩), fun hc => absurd hc (by omega)⟩
        rw [hd, Int.toNat_natCast]
        exact hz s (by omega)
      | succ m ih =>
        intro t ht hz
        have eb := zemod_lt (x := zvS A a b d (d + 1) 0 t) (p := A 0 0) (by omega)
        refine sg_X9_isZeroFor_59 ⟨by omega, by omega, fun hc => absurd hc (by omega), fun _ => ⟨by omega, ?_⟩⟩
        rw [Int.toNat_natCast, e t (by omega)]
        refine ⟨by omega, fun z => ?_, fun z => h 0 ν q1 q2 (Or.inr ⟨rfl, fun hv => z ?_⟩)⟩
        · have := ih (t + 1) (by omega) (fun s hs => by
            by_cases es : s = t
            · rw [es]; exact z
            · exact hz s (by omega))
          rw [Int.natCast_add] at this
          exact this
        · have := hv t (by omega)
          rw [hd, Int.toNat_natCast] at this
          exact this
    exact loop (zkw A a b) 0 (by omega) (fun s hs => absurd hs (by omega))
  have outer : ∀ m i : Nat, i + m = d + 1 → ∀ ν, (∀ (x : Nat), x ≠ 95 → x ≠ 96 → ν x = μ x) → (∀ t : Nat, t < zkw A a b → ν 96 t = zvS A a b d i 0 t % A 0 0) → at_X9_isZeroFor_10 g φ 3 (i : Int) ν := by
    intro m
    induction m with
    | zero =>
      intro i hi ν f e
      have t1 := (zRC_eq (fr ν f).1).1
      have ei : i = d + 1 := by omega
      subst ei
      exact sg_X9_isZeroFor_10 zc_3 ⟨by omega, by omega, fun _ => scan ν f e, fun hc => absurd hc (by omega)⟩
    | succ m ih =>
      intro i hi ν f e
      have t1 := (zRC_eq (fr ν f).1).1
      refine sg_X9_isZeroFor_10 zc_3 ⟨by omega, by omega, fun hc => absurd hc (by omega), fun _ => ?_⟩
      have inner : ∀ m2 k : Nat, k + m2 = d + 1 → ∀ ν, (∀ (x : Nat), x ≠ 95 → x ≠ 96 → ν x = μ x) → (∀ t : Nat, t < zkw A a b → ν 96 t = zvS A a b d i k t % A 0 0) → at_X9_isZeroFor_20 g φ 3 (i : Int) (k : Int) ν := by
        intro m2
        induction m2 with
        | zero =>
          intro k hk ν f e
          have t1 := (zRC_eq (fr ν f).1).1
          have ek : k = d + 1 := by omega
          subst ek
          have := ih (i + 1) (by omega) ν f (fun t ht => by rw [e t ht, zvS_row])
          rw [Int.natCast_add] at this
          exact sg_X9_isZeroFor_20 zc_3 ⟨by omega, by omega, fun _ => this, fun hc => absurd hc (by omega)⟩
        | succ m2 ih2 =>
          intro k hk ν f e
          obtain ⟨r1, r2, r3⟩ := fr ν f
          obtain ⟨t1, t2⟩ := zRC_eq r1
          refine sg_X9_isZeroFor_20 zc_3 ⟨by omega, by omega, fun hc => absurd hc (by omega), fun _ => ⟨by omega, ?_⟩⟩
          rw [show Int.toNat (9 * (i : Int) + (k : Int)) = 9 * i + k by omega, show 3 + 1 = 4 from rfl, t2 (by omega) _ (by omega)]
          refine ok_X9_addTerm (R := fun t => zvS A a b d i k t % A 0 0) hw ha hb h1 h2 (by omega) (by omega) (by omega) r3 (he.1 _ (by omega)) (fun t ht => ⟨e t ht, zemod_lt (by omega)⟩) (fun ν2 f2 e2 => ?_)
          have := ih2 (k + 1) (by omega) ν2 (fun x q1 q2 => (f2 x q1 q2).trans (f x q1 q2)) (fun t ht => by rw [e2 t ht]; exact zvS_step)
          rw [Int.natCast_add] at this
          exact this
      exact inner (d + 1) 0 (by omega) ν f e
  refine sg_X9_isZeroFor zc_3 (sg_J7_fill zc_96 ?_)
  refine outer (d + 1) 0 (by omega) _ (fun x q1 q2 => zua_nc q2) (fun t ht => ?_)
  rw [zua_eq, if_pos (by omega)]
  unfold zvS
  show (0 : Int) = (0 + 0) % A 0 0
  rw [Int.add_zero, Int.zero_emod]
theorem cx_vanishes {φ : Int → zMu → Prop} {a b : Int} (hw : zWF A) (hR : zRC A μ) (ha : zR a) (hb : zR b) (h : zHc φ μ (rd_van A a b, A)) : zOi g zm_X10_vanishes [.ref 0, .int (zJ a), .int (zJ b)] μ φ := by
  have hp := zWF_p hw
  have hd := zWF_d hw
  obtain ⟨t1, t2⟩ := zRC_eq hR
  have h1 : ¬ (0 ≤ a ∧ a < 6) ∨ ¬ (0 ≤ b ∧ b < 6) → φ (-1) μ := fun q => h.rd (if_pos q) hR (zKm.refl μ)
  refine sg_X10_vanishes (ok_X10_isSeries ha (fun qa => ⟨by omega, fun hc => absurd hc (by omega), fun _ => ok_X10_isSeries hb (fun qb => ⟨by omega, fun _ => ?_, fun hc => absurd hc (by omega)⟩) (fun q => ⟨by omega, fun hc => absurd rfl hc, fun _ => h1 (by omega)⟩)⟩) (fun q => ⟨by omega, fun _ => h1 (by omega), fun hc => absurd rfl hc⟩))
  obtain ⟨a, rfl⟩ : ∃ q : Nat, a = q := ⟨a.toNat, by omega⟩
  obtain ⟨b, rfl⟩ : ∃ q : Nat, b = q := ⟨b.toNat, by omega⟩
  unfold rd_van at h
  rw [if_neg (by omega)] at h
  simp only [Int.toNat_natCast] at h ⊢
  obtain ⟨s1, s2, s3⟩ := zRC_sr hR (s := a) (by omega)
  obtain ⟨u1, u2, u3⟩ := zRC_sr hR (s := b) (by omega)
  obtain ⟨_, b2, _⟩ := zWF_s hw (s := a) (by omega)
  obtain ⟨_, c2, _⟩ := zWF_s hw (s := b) (by omega)
  have hmiss : A 3 0 = 0 ∨ A 2 a = 0 ∨ A 2 b = 0 → φ (-11) μ := fun q => h.rd (if_pos q) hR (zKm.refl μ)
  refine ok_X3_isMissing zc_3 (by omega) (fun m => ⟨by omega, fun hc => absurd rfl hc, fun _ => ⟨by omega, ?_⟩⟩) (fun m => ⟨by omega, fun _ => hmiss (by omega), fun hc => absurd hc (by omega)⟩)
  refine ok_X6_isMissing (zsr a (by omega)).1 (by omega) (fun m1 => ⟨by omega, fun hc => absurd rfl hc, fun _ => ⟨by omega, ?_⟩⟩) (fun m1 => ⟨by omega, fun _ => hmiss (by omega), fun hc => absurd hc (by omega)⟩)
  refine ok_X6_isMissing (zsr b (by omega)).1 (by omega) (fun m2 => ⟨by omega, fun _ => ?_, fun hc => absurd rfl hc⟩) (fun m2 => ⟨by omega, fun hc => absurd hc (by omega), fun _ => hmiss (by omega)⟩)
  rw [if_neg (by omega)] at h
  obtain ⟨d, hdd⟩ : ∃ d : Nat, A 3 0 = d := ⟨(A 3 0).toNat, by omega⟩
  refine ok_X9_prepare (d := d) hw hR (by omega) (by omega) (by omega) (by omega) (by omega) (by omega) (zRC_p0 hR) (fun ν r1 r2 r3 => ?_)
  refine ok_X9_isZeroFor hw r1 (by omega) (by omega) (by omega) (by omega) hdd (by omega) r3 (fun x ν2 q1 q2 q3 => ?_)
  rcases q3 with ⟨rfl, q3⟩ | ⟨rfl, q3⟩
  · exact ⟨by omega, fun hc => absurd hc (by omega), fun _ => h.rd (if_pos q3) q1 (r2.trans q2)⟩
  · exact ⟨by omega, fun _ => h.rd (if_neg q3) q1 (r2.trans q2), fun hc => absurd rfl hc⟩
end VN2
