/-! J: the class -/
section JC
variable {g : zG} {μ A : zMu} {n : Nat} {p : Int}
theorem zsb {x y p : Int} (hx : 0 ≤ x) (hy : y < p) : (x + p - y).tmod p = (x - y) % p := by
  rw [ztm (by omega), show x + p - y = x - y + p by omega, Int.add_emod_right]
theorem zcube {d : Nat} (hd : d < 80) : 0 ≤ 240 * (d : Int) * d * d ∧ 240 * (d : Int) * d * d ≤ 122880000 := by
  have h1 : 240 * (d : Int) * d ≤ 19200 * 80 := Int.mul_le_mul (by omega) (by omega) (by omega) (by omega)
  have h0 : 0 ≤ 240 * (d : Int) * d := Int.mul_nonneg (by omega) (by omega)
  have h2 : 240 * (d : Int) * d * d ≤ 1536000 * 80 := Int.mul_le_mul (by omega) (by omega) (by omega) (by omega)
  exact ⟨Int.mul_nonneg h0 (by omega), by omega⟩
/-- the row behind D divisors -/
def zer (n : Nat) (p : Int) (D k : Nat) : Int := if 1 ≤ k ∧ k < n then (240 * zsm (zdc k) D) % p else 0
theorem zer_bd (hp : 0 < p) (D k : Nat) : 0 ≤ zer n p D k ∧ zer n p D k < p := by
  unfold zer
  split
  · exact zemod_lt hp
  · omega
theorem zer_same {D k : Nat} (h : k % (D + 1) ≠ 0) : zer n p (D + 1) k = zer n p D k := by
  unfold zer
  rw [zsm, show zdc k D = 0 from if_neg h, Int.add_zero]
theorem zer_step {D k : Nat} (h : k % (D + 1) = 0) (h1 : 1 ≤ k) (h2 : k < n) : (zer n p D k + (240 * ((D + 1 : Nat) : Int) * ((D + 1 : Nat) : Int) * ((D + 1 : Nat) : Int)) % p) % p = zer n p (D + 1) k := by
  unfold zer
  rw [if_pos ⟨h1, h2⟩, if_pos ⟨h1, h2⟩, zsm, show zdc k D = ((D : Int) + 1) * (D + 1) * (D + 1) from if_pos h, ← Int.add_emod, Int.mul_add]
  rw [Int.natCast_add, show ((1 : Nat) : Int) = 1 from rfl, Int.mul_assoc 240, Int.mul_assoc 240]
theorem ok_X7_fillEisenstein {φ : zMu → Prop} (hn : 1 ≤ n ∧ n ≤ 80) (hp : 2 ≤ p ∧ p ≤ 199) (h : ∀ μ', (∀ (i : Nat), i ≠ 70 → μ' i = μ i) → zmodp p n (μ' 70) → zeq p n (μ' 70) zei → φ μ') : zOv g zm_X7_fillEisenstein [.ref 69, .int (zJ (n : Int)), .int (zJ p)] μ φ := by
  refine sg_X7_fillEisenstein (sg_J7_fill zc_70 ?_)
  have outer : ∀ m D : Nat, D + m = n - 1 → at_X7_fillEisenstein_10 g φ (n : Int) p ((D + 1 : Nat) : Int) (zua μ 70 (fun k => if k < 80 then zer n p D k else μ 70 k)) := by
    intro m
    induction m with
    | zero =>
      intro D hD
      refine sg_X7_fillEisenstein_10 ⟨by omega, by omega, fun _ => h _ (fun i hi => (zup_nc hi).trans (zua_nc hi)) (fun k hk => ?_) (fun k hk => ?_), fun hc => absurd hc (by omega)⟩
      · by_cases h0 : k = 0
        · rw [h0, zup_eq]; omega
        · rw [zup_ne (Or.inr h0), zua_eq, if_pos (by omega)]; exact zer_bd (by omega) D k
      · by_cases h0 : k = 0
        · rw [h0, zup_eq]; rfl
        · rw [zup_ne (Or.inr h0), zua_eq, if_pos (by omega), zer, if_pos (by omega), Int.emod_emod, zei, if_neg h0]
          rw [zsm_ext (F := zdc k) (m := k) D (by omega) (fun i h1 h2 => if_neg (by rw [Nat.mod_eq_of_lt (by omega)]; exact h0))]
    | succ m ih =>
      intro D hD
      have k2 := ih (D + 1) (by omega)
      have hc := zcube (d := D + 1) (by omega)
      have hcm := zemod_lt (x := 240 * ((D + 1 : Nat) : Int) * ((D + 1 : Nat) : Int) * ((D + 1 : Nat) : Int)) (p := p) (by omega)
      refine sg_X7_fillEisenstein_10 ⟨by omega, by omega, fun hc => absurd hc (by omega), fun _ => ⟨by omega, by omega, by omega, ?_⟩⟩
      rw [ztm hc.1]
      have inner : ∀ f v : Nat, n ≤ v + f → D + 1 ≤ v → v ≤ n + D → v % (D + 1) = 0 → at_X7_fillEisenstein_31 g φ (n : Int) p ((D + 1 : Nat) : Int) ((240 * ((D + 1 : Nat) : Int) * ((D + 1 : Nat) : Int) * ((D + 1 : Nat) : Int)) % p) (v : Int) (zua μ 70 (fun k => if k < 80 then (if k < v then zer n p (D + 1) k else zer n p D k) else μ 70 k)) := by
        intro f
        induction f with
        | zero =>
          intro v h1 h2 h3 h4
          refine sg_X7_fillEisenstein_31 ⟨by omega, by omega, fun _ => ?_, fun hc => absurd hc (by omega)⟩
          rw [zua_congr (h := fun k => if k < 80 then zer n p (D + 1) k else μ 70 k) (fun b => by
            by_cases h80 : b < 80
            · rw [if_pos h80, if_pos h80]
              by_cases hb : b < v
              · rw [if_pos hb]
              · rw [if_neg hb, zer, zer, if_neg (by omega), if_neg (by omega)]
            · rw [if_neg h80, if_neg h80])]
          exact k2
        | succ f ih2 =>
          intro v h1 h2 h3 h4
          refine sg_X7_fillEisenstein_31 ⟨by omega, by omega, fun hc => ?_, fun hc => ⟨by omega, ?_⟩⟩
          · rw [zua_congr (h := fun k => if k < 80 then zer n p (D + 1) k else μ 70 k) (fun b => by
              by_cases h80 : b < 80
              · rw [if_pos h80, if_pos h80]
                by_cases hb : b < v
                · rw [if_pos hb]
                · rw [if_neg hb, zer, zer, if_neg (by omega), if_neg (by omega)]
              · rw [if_neg h80, if_neg h80])]
            exact k2
          · have k3 := ih2 (v + (D + 1)) (by omega) (by omega) (by omega) (by rw [Nat.add_mod_right]; exact h4)
            have hz := zer_bd (n := n) (p := p) (by omega) D v
            rw [Int.toNat_natCast, zua_eq, if_pos (by omega), if_neg (by omega)]
            refine ⟨by omega, by omega, by omega, ?_⟩
            rw [ztm (by omega), zer_step h4 (by omega) (by omega), zup_zua, zua_congr (h := fun k => if k < 80 then (if k < v + (D + 1) then zer n p (D + 1) k else zer n p D k) else μ 70 k) (fun b => by
              by_cases hb : b = v
              · rw [if_pos hb, if_pos (by omega), if_pos (by omega), hb]
              · rw [if_neg hb]
                by_cases h80 : b < 80
                · rw [if_pos h80, if_pos h80]
                  by_cases hb2 : b < v
                  · rw [if_pos hb2, if_pos (by omega)]
                  · rw [if_neg hb2]
                    by_cases hb3 : b < v + (D + 1)
                    · rw [if_pos hb3, zer_same]
                      intro hq
                      obtain ⟨r, rfl⟩ : ∃ r, b = v + r := ⟨b - v, by omega⟩
                      rw [Nat.add_mod, h4, Nat.zero_add, Nat.mod_mod, Nat.mod_eq_of_lt (by omega)] at hq
                      omega
                    · rw [if_neg hb3]
                · rw [if_neg h80, if_neg h80])]
            rw [Int.natCast_add] at k3
            exact k3
      have k0 := inner 80 (D + 1) (by omega) (by omega) (by omega) (Nat.mod_self _)
      rw [zua_congr (h := fun k => if k < 80 then zer n p D k else μ 70 k) (fun b => by
        by_cases h80 : b < 80
        · rw [if_pos h80, if_pos h80]
          by_cases hb : b < D + 1
          · rw [if_pos hb]
            by_cases h0 : b = 0
            · rw [zer, zer, if_neg (by omega), if_neg (by omega)]
            · rw [zer_same (by rw [Nat.mod_eq_of_lt hb]; exact h0)]
          · rw [if_neg hb]
        · rw [if_neg h80, if_neg h80])] at k0
      exact k0
  have k0 := outer (n - 1) 0 (by omega)
  rw [zua_congr (h := fun b => if b < 80 then 0 else μ 70 b) (fun b => by
    by_cases h80 : b < 80
    · rw [if_pos h80, if_pos h80, zer]
      split
      · rw [zsm, Int.mul_zero, Int.zero_emod]
      · rfl
    · rw [if_neg h80, if_neg h80])] at k0
  exact k0
theorem ok_X7_fillEulerProduct {φ : zMu → Prop} (hn : 1 ≤ n ∧ n ≤ 80) (hp : 2 ≤ p ∧ p ≤ 199) (h : ∀ μ', (∀ (i : Nat), i ≠ 70 → μ' i = μ i) → zmodp p n (μ' 70) → zeq p n (μ' 70) (zep (n - 1)) → φ μ') : zOv g zm_X7_fillEulerProduct [.ref 69, .int (zJ (n : Int)), .int (zJ p)] μ φ := by
  refine sg_X7_fillEulerProduct (sg_J7_fill zc_70 ?_)
  have outer : ∀ m K : Nat, K + m = n - 1 → ∀ ν, (∀ (i : Nat), i ≠ 70 → ν i = μ i) → zmodp p n (ν 70) → zeq p n (ν 70) (zep K) → at_X7_fillEulerProduct_17 g φ (n : Int) p ((K + 1 : Nat) : Int) ν := by
    intro m
    induction m with
    | zero =>
      intro K hK ν fν rν eν
      have e : K = n - 1 := by omega
      subst e
      exact sg_X7_fillEulerProduct_17 ⟨by omega, by omega, fun _ => h ν fν rν eν, fun hc => absurd hc (by omega)⟩
    | succ m ih =>
      intro K hK ν fν rν eν
      refine sg_X7_fillEulerProduct_17 ⟨by omega, by omega, fun hc => absurd hc (by omega), fun _ => ?_⟩
      have k2 := ih (K + 1) (by omega) (zua ν 70 (fun t => if K + 1 ≤ t ∧ t < n then (ν 70 t - ν 70 (t - (K + 1))) % p else ν 70 t)) (fun i hi => (zua_nc hi).trans (fν i hi)) (fun t ht => by
        rw [zua_eq]
        by_cases hh : K + 1 ≤ t ∧ t < n
        · rw [if_pos hh]; exact zemod_lt (by omega)
        · rw [if_neg hh]; exact rν t ht) (fun t ht => by
        show _ = zcv (zep K) (zfa (K + 1)) t % p
        rw [zua_eq, zcv_fa (by omega)]
        by_cases hh : K + 1 ≤ t
        · rw [if_pos ⟨hh, ht⟩, if_pos hh, Int.emod_emod, Int.sub_emod, eν t ht, eν (t - (K + 1)) (by omega), ← Int.sub_emod]
        · rw [if_neg (fun z => hh z.1), if_neg hh, Int.sub_zero]; exact eν t ht)
      have inner : ∀ s : Nat, K + s ≤ n - 1 → at_X7_fillEulerProduct_27 g φ (n : Int) p ((K + 1 : Nat) : Int) ((K : Int) + s) (zua ν 70 (fun t => if K + 1 + s ≤ t ∧ t < n then (ν 70 t - ν 70 (t - (K + 1))) % p else ν 70 t)) := by
        intro s
        induction s with
        | zero =>
          intro hs
          refine sg_X7_fillEulerProduct_27 ⟨by omega, by omega, fun _ => ?_, fun hc => absurd hc (by omega)⟩
          rw [Int.natCast_add] at k2
          exact k2
        | succ s ih2 =>
          intro hs
          have k3 := ih2 (by omega)
          have r1 := rν (K + (s + 1)) (by omega)
          have r2 := rν s (by omega)
          refine sg_X7_fillEulerProduct_27 ⟨by omega, by omega, fun hc => absurd hc (by omega), fun _ => ⟨by omega, by omega, ?_⟩⟩
          rw [show Int.toNat ((K : Int) + ((s + 1 : Nat) : Int)) = K + (s + 1) by omega, show Int.toNat ((K : Int) + ((s + 1 : Nat) : Int) - ((K + 1 : Nat) : Int)) = s by omega, zua_eq, zua_eq, if_neg (by omega), if_neg (by omega)]
          refine ⟨by omega, by omega, by omega, ?_⟩
          rw [zsb r1.1 r2.2, zup_zua, zua_congr (h := fun t => if K + 1 + s ≤ t ∧ t < n then (ν 70 t - ν 70 (t - (K + 1))) % p else ν 70 t) (fun b => by
            by_cases hb : b = K + (s + 1)
            · rw [if_pos hb, if_pos (by omega), hb, show K + (s + 1) - (K + 1) = s by omega]
            · rw [if_neg hb]
              by_cases hc : K + 1 + (s + 1) ≤ b ∧ b < n
              · rw [if_pos hc, if_pos (by omega)]
              · rw [if_neg hc, if_neg (by omega)]), show (K : Int) + ((s + 1 : Nat) : Int) + -1 = (K : Int) + s by omega]
          exact k3
      have k0 := inner (n - 1 - K) (by omega)
      rw [zua_self (fun b => if_neg (by omega)), show (K : Int) + ((n - 1 - K : Nat) : Int) = (n : Int) - 1 by omega] at k0
      exact k0
  refine outer (n - 1) 0 (by omega) _ (fun i hi => (zup_nc hi).trans (zua_nc hi)) (fun t ht => ?_) (fun t ht => ?_)
  · by_cases h0 : t = 0
    · rw [h0, zup_eq]; omega
    · rw [zup_ne (Or.inr h0), zua_eq, if_pos (by omega)]; omega
  · show _ = zone t % p
    unfold zone
    by_cases h0 : t = 0
    · rw [h0, zup_eq]; rfl
    · rw [zup_ne (Or.inr h0), zua_eq, if_pos (by omega), if_neg h0]
/-- a product of rows that stand for series -/
theorem ok_mul {φ : zMu → Prop} {a b c : Nat} {F H : Nat → Int} (ha : zS a 12 80) (hb : zS b 12 80) (hc : zS c 12 80) (hac : a ≠ c) (hbc : b ≠ c) (hn : n ≤ 80) (hp : 2 ≤ p ∧ p ≤ 199) (ra : zmodp p n (μ a)) (rb : zmodp p n (μ b)) (ea : zeq p n (μ a) F) (eb : zeq p n (μ b) H)
    (h : ∀ μ', (∀ (i : Nat), i ≠ c → μ' i = μ i) → zmodp p n (μ' c) → zeq p n (μ' c) (zcv F H) → φ μ') : zOv g zm_X10_multiply [.ref a, .ref b, .ref c, .int (zJ (n : Int)), .int (zJ p)] μ φ := by
  refine ok_X10_multiply ha hb hc hac hbc (by omega) (by omega) (by omega) (by omega) (by omega) (by omega) (by rw [Int.toNat_natCast]; exact ra) (by rw [Int.toNat_natCast]; exact rb) (h _ (fun i hi => zua_nc hi) ?_ ?_)
  · rw [zua_row, Int.toNat_natCast]; exact zmr_modp (by omega)
  · rw [zua_row, Int.toNat_natCast]; exact zmr_zeq.trans (zcv_mod ea eb)
def st_j (A : zMu) (s n : Int) : Int × zMu := if ¬ (0 ≤ s ∧ s < 6) then (-1, A) else if ¬ (1 ≤ n ∧ n ≤ 80) then (-2, A) else (n, st_set A s.toNat (-1) n (zdv (A 0 0) zjn zjd))
theorem wf_j (hw : zWF A) (s n : Int) : zWF (st_j A s n).2 := by
  unfold st_j
  have hp := zWF_p hw
  by_cases h1 : ¬ (0 ≤ s ∧ s < 6)
  · rw [if_pos h1]; exact hw
  · rw [if_neg h1]
    by_cases h2 : ¬ (1 ≤ n ∧ n ≤ 80)
    · rw [if_pos h2]; exact hw
    · rw [if_neg h2]
      exact zWF_set hw (by omega) (by omega) (by omega) (zdv_modp (by omega) _)
theorem zmod1 {p : Int} (hp : 2 ≤ p) : (1 : Int) % p = 1 := Int.emod_eq_of_lt (by omega) (by omega)
theorem cx_j {φ : Int → zMu → Prop} {s n : Int} (hw : zWF A) (hR : zRC A μ) (hs : zR s) (hn : zR n) (h : zHc φ μ (st_j A s n)) : zOi g zm_X10_j [.ref 0, .int (zJ s), .int (zJ n)] μ φ := by
  have hp := zWF_p hw
  refine sg_X10_j (ok_X10_isSeries hs (fun qs => ⟨by omega, fun _ => ⟨hn, fun _ => h.at ((if_neg (by omega)).trans (if_pos (by omega))) rfl hR (zKm.refl μ), fun _ => ⟨fun _ => ⟨qs, ?_⟩, fun _ => h.at ((if_neg (by omega)).trans (if_pos (by omega))) rfl hR (zKm.refl μ)⟩⟩, fun hc => absurd hc (by omega)⟩) (fun q => ⟨by omega, fun hc => absurd rfl hc, fun _ => h.at (if_pos q) rfl hR (zKm.refl μ)⟩))
  obtain ⟨s, rfl⟩ : ∃ q : Nat, s = q := ⟨s.toNat, by omega⟩
  obtain ⟨n, rfl⟩ : ∃ q : Nat, n = q := ⟨n.toNat, by omega⟩
  unfold st_j at h
  rw [if_neg (by omega), if_neg (by omega)] at h
  simp only [Int.toNat_natCast] at h ⊢
  rw [zRC_p0 hR]
  generalize A 0 0 = p at hp h
  refine sg_X7_makeInvariant (zsr s (by omega)).1 ?_
  refine ok_X7_fillEisenstein (by omega) (by omega) (fun ν1 f1 r1 e1 => ?_)
  refine ok_mul zc_70 zc_70 zc_71 (by omega) (by omega) (by omega) (by omega) r1 r1 e1 e1 (fun ν2 f2 r2 e2 => ?_)
  refine ok_mul zc_71 zc_70 zc_72 (by omega) (by omega) (by omega) (by omega) r2 (by rw [f2 70 (by omega)]; exact r1) e2 (by rw [f2 70 (by omega)]; exact e1) (fun ν3 f3 r3 e3 => ?_)
  refine ok_X7_fillEulerProduct (by omega) (by omega) (fun ν4 f4 r4 e4 => ?_)
  refine ok_mul zc_70 zc_70 zc_71 (by omega) (by omega) (by omega) (by omega) r4 r4 e4 e4 (fun ν5 f5 r5 e5 => ?_)
  refine ok_mul zc_71 zc_70 zc_73 (by omega) (by omega) (by omega) (by omega) r5 (by rw [f5 70 (by omega)]; exact r4) e5 (by rw [f5 70 (by omega)]; exact e4) (fun ν6 f6 r6 e6 => ?_)
  refine ok_mul zc_73 zc_73 zc_70 (by omega) (by omega) (by omega) (by omega) r6 r6 e6 e6 (fun ν7 f7 r7 e7 => ?_)
  refine ok_mul zc_70 zc_70 zc_71 (by omega) (by omega) (by omega) (by omega) r7 r7 e7 e7 (fun ν8 f8 r8 e8 => ?_)
  refine ok_mul zc_71 zc_71 zc_73 (by omega) (by omega) (by omega) (by omega) r8 r8 e8 e8 (fun ν9 f9 r9 e9 => ?_)
  have hden : zeq p n (ν9 73) zjd := by
    refine e9.trans (fun k hk => ?_)
    have q1 : zep (n - 1) = zpo (zep (n - 1)) 1 := (zcv_1 _).symm
    have q : zcv (zcv (zcv (zcv (zcv (zep (n - 1)) (zep (n - 1))) (zep (n - 1))) (zcv (zcv (zep (n - 1)) (zep (n - 1))) (zep (n - 1)))) (zcv (zcv (zcv (zep (n - 1)) (zep (n - 1))) (zep (n - 1))) (zcv (zcv (zep (n - 1)) (zep (n - 1))) (zep (n - 1))))) (zcv (zcv (zcv (zcv (zep (n - 1)) (zep (n - 1))) (zep (n - 1))) (zcv (zcv (zep (n - 1)) (zep (n - 1))) (zep (n - 1)))) (zcv (zcv (zcv (zep (n - 1)) (zep (n - 1))) (zep (n - 1))) (zcv (zcv (zep (n - 1)) (zep (n - 1))) (zep (n - 1))))) = zpo (zep (n - 1)) 24 := by
      rw [q1]
      generalize zep (n - 1) = f
      show _ = zpo (zpo f 1) 24
      rw [show zpo f 1 = f from zcv_1 f]
      have p2 : zcv f f = zpo f 2 := by rw [show f = zpo f 1 from (zcv_1 f).symm, zpo_add, show zpo f 1 = f from zcv_1 f]
      have p3 : zcv (zcv f f) f = zpo f 3 := by rw [p2]; rfl
      rw [p3, zpo_add, zpo_add, zpo_add]
    rw [q]
    unfold zjd
    rw [zed_eq]
    rw [zpo_congr (n := n) (f' := zep 79) (fun i hi => (zep_trunc hi 79 (by omega)).symm) 24 k hk]
  have hd0 : ν9 73 0 = 1 := by
    have a1 := hden 0 (by omega)
    have a2 := r9 0 (by omega)
    rw [zjd_0, zmod1 (by omega), Int.emod_eq_of_lt a2.1 a2.2] at a1
    exact a1
  refine ok_X7_invert zc_73 zc_71 (by omega) (by omega) (by omega) (by omega) (by omega) hp.1 r9 (by omega) ?_
  have g72 : ∀ f, zua ν9 71 f 72 = ν3 72 := fun f => by rw [zua_nc (by omega), f9 72 (by omega), f8 72 (by omega), f7 72 (by omega), f6 72 (by omega), f5 72 (by omega), f4 72 (by omega)]
  refine ok_mul (F := zjn) (H := zdv p zone (ν9 73)) zc_72 zc_71 zc_70 (by omega) (by omega) (by omega) (by omega) (by rw [g72]; exact r3) (fun k hk => by rw [zua_eq, if_pos hk]; exact zdv_modp (by omega) n k hk) (by rw [g72]; exact e3) (fun k hk => by rw [zua_eq, if_pos hk]) (fun ν11 f11 r11 e11 => ?_)
  have hfr : ∀ (i : Nat), i ≠ 70 → i ≠ 71 → i ≠ 72 → i ≠ 73 → ν11 i = μ i := fun i h0 h1 h2 h3 => by
    rw [f11 i h0, zua_nc h1, f9 i h3, f8 i h1, f7 i h0, f6 i h3, f5 i h1, f4 i h0, f3 i h2, f2 i h1, f1 i h0]
  have hX : ∀ k, k < n → ν11 70 k = zdv p zjn zjd k := by
    refine zdv_unique hp.1 (by rw [zjd_0]; omega) (by rw [zjd_0]; omega) r11 ?_
    have c1 : zeq p n (zcv zjd (ν11 70)) (zcv (ν9 73) (zcv zjn (zdv p zone (ν9 73)))) := zcv_mod hden.symm e11
    rw [← zcv_a, zcv_c (ν9 73) zjn, zcv_a] at c1
    have c2 := zdv_cv (N := zone) (D := ν9 73) hp.1 (by omega) (by omega) n
    have c3 : zeq p n (zcv zjn (zcv (ν9 73) (zdv p zone (ν9 73)))) (zcv zjn zone) := zcv_mod (zeq.refl _) c2
    rw [zcv_c zjn zone, zcv_1] at c3
    exact c1.trans c3
  refine ok_become (F := zdv p zjn zjd) (zRC_s hR (fun i hi k _ => by rw [hfr i (by omega) (by omega) (by omega) (by omega)])) (by omega) (by omega) (fun k hk => hX k (by omega)) (fun μ' hR' hk' => h.at rfl rfl hR' (zKm.trans (fun i hi => hfr i (by omega) (by omega) (by omega) (by omega)) hk'))
end JC
