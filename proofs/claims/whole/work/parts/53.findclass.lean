/-! FIND: the class hands over -/
section FHO
variable {g : zG} {μ A : zMu}
theorem ok_X1_solve {φ : zMu → Prop} {n m r F : Nat} {p : Int} {C : Nat → Nat → Int} (hp : 2 ≤ p ∧ p ≤ 199) (hn : n ≤ 80) (hm : m ≤ 81) (h9 : μ 97 9 = p) (h8 : μ 97 8 = (F : Int)) (hE : zElM p n m C (zMtx μ) m r F) (hF : F < m)
    (h : ∀ (ν : zMu) (s : Nat → Int), (∀ (i : Nat), i ≠ 181 → ν i = μ i) → zSol p n C F s → (∀ j, j ≤ F → ν 181 j = s j) → φ ν) : zOv g zm_X1_solve [.ref 97] μ φ := by
  have hFr : F ≤ r ∧ r ≤ n := by
    have h1 := hE.2.1
    rcases hE.2.2.2.2.2.2 with ⟨q, _⟩ | ⟨_, q, _⟩ <;> omega
  have hbd := hE.1
  have loop : ∀ r0 : Nat, r0 ≤ F → ∀ ν : zMu, (∀ (i : Nat), i ≠ 181 → ν i = μ i) → ν 181 F = 1 → (∀ j, r0 ≤ j → j ≤ F → 0 ≤ ν 181 j ∧ ν 181 j < p) → (∀ t, r0 ≤ t → t < F → (zsm (fun x => zMtx μ t (t + 1 + x) * ν 181 (t + 1 + x)) (F - t) + ν 181 t) % p = 0) → at_X1_solve_17 g φ ((r0 : Int) - 1) ν := by
    intro r0
    induction r0 with
    | zero =>
      intro hr ν f1 f2 f3 f4
      refine sg_X1_solve_17 ⟨by omega, fun _ => ?_, fun hc => absurd hc (by omega)⟩
      refine h ν (fun j => if j ≤ F then ν 181 j else 0) f1 (zEl_sol (by omega) hE hF (by rw [if_pos (Nat.le_refl _)]; exact f2) (fun j => ?_) (fun j hj => if_neg (by omega)) (fun t ht => ?_)) (fun j hj => (if_pos hj).symm)
      · by_cases e : j ≤ F
        · rw [if_pos e]; exact f3 j (by omega) e
        · rw [if_neg e]; omega
      · rw [if_pos (by omega), zsm_congr (G := fun x => zMtx μ t (t + 1 + x) * ν 181 (t + 1 + x)) (fun x hx => by rw [if_pos (by omega)])]
        exact f4 t (by omega) ht
    | succ r0 ih =>
      intro hr ν f1 f2 f3 f4
      rw [show ((r0 + 1 : Nat) : Int) - 1 = (r0 : Int) by omega]
      refine sg_X1_solve_17 ⟨by omega, fun hc => absurd hc (by omega), fun _ => ?_⟩
      have e8 : ν 97 8 = (F : Int) := by rw [f1 97 (by omega)]; exact h8
      have e9 : ν 97 9 = p := by rw [f1 97 (by omega)]; exact h9
      have inner : ∀ f x : Nat, x + f = F - r0 → at_X1_solve_27 g φ (r0 : Int) (zsm (fun x => zMtx μ r0 (r0 + 1 + x) * ν 181 (r0 + 1 + x)) x) ((r0 : Int) + 1 + x) ν := by
        intro f
        induction f with
        | zero =>
          intro x hx
          have ex : x = F - r0 := by omega
          subst ex
          have hs := zsm_bound (F := fun x => zMtx μ r0 (r0 + 1 + x) * ν 181 (r0 + 1 + x)) (B := 39204) (n := F - r0) (fun x hx => zmul_bd (hbd r0 (by omega) _ (by omega)) (f3 _ (by omega) (by omega)) hp.2)
          have hs2 : ((F - r0 : Nat) : Int) * 39204 ≤ 81 * 39204 := Int.mul_le_mul_of_nonneg_right (by omega) (by omega)
          generalize hv : zsm (fun x => zMtx μ r0 (r0 + 1 + x) * ν 181 (r0 + 1 + x)) (F - r0) = v at hs ⊢
          have hvm := zemod_lt (x := v) (p := p) (by omega)
          refine sg_X1_solve_27 ⟨by omega, by omega, fun _ => ?_, fun hc => absurd hc (by omega)⟩
          rw [e9, ztm hs.1, Int.toNat_natCast]
          refine ⟨by omega, by omega, by omega, by omega, by omega, ?_⟩
          rw [ztm (by omega)]
          have hnew := zemod_lt (x := p - v % p) (p := p) (by omega)
          have := ih (by omega) (zup ν 181 r0 ((p - v % p) % p)) (fun i hi => (zup_nc hi).trans (f1 i hi)) (by rw [zup_ne (Or.inr (by omega))]; exact f2) (fun j h1 h2 => by
            by_cases e : j = r0
            · rw [e, zup_eq]; exact hnew
            · rw [zup_ne (Or.inr e)]; exact f3 j (by omega) h2) (fun t h1 h2 => by
            rw [zsm_congr (G := fun x => zMtx μ t (t + 1 + x) * ν 181 (t + 1 + x)) (fun x hx => by rw [zup_ne (Or.inr (by omega))])]
            by_cases e : t = r0
            · rw [e, zup_eq, hv]
              obtain ⟨u, hu⟩ := zme_q p (p - v % p)
              obtain ⟨y, hy⟩ := zme_q p v
              rw [hu, hy]
              exact (zme_i (y := 0) ⟨1 + u - y, by grind⟩).trans (Int.zero_emod p)
            · rw [zup_ne (Or.inr e)]
              exact f4 t (by omega) h2)
          rw [show (r0 : Int) + -1 = (r0 : Int) - 1 by omega]
          exact this
        | succ f ih2 =>
          intro x hx
          refine sg_X1_solve_27 ⟨by omega, by omega, fun hc => absurd hc (by omega), fun _ => ⟨by omega, by omega, ?_⟩⟩
          rw [Int.toNat_natCast, show Int.toNat ((r0 : Int) + 1 + (x : Int)) = r0 + 1 + x by omega, f1 (99 + r0) (by omega)]
          have := ih2 (x + 1) (by omega)
          rw [Int.natCast_add] at this
          rw [show (r0 : Int) + 1 + (x : Int) + 1 = (r0 : Int) + 1 + ((x : Int) + ((1 : Nat) : Int)) by omega]
          exact this
      have k0 := inner (F - r0) 0 (by omega)
      rw [show (r0 : Int) + 1 + ((0 : Nat) : Int) = (r0 : Int) + 1 by omega] at k0
      exact k0
  refine sg_X1_solve ⟨by omega, ?_⟩
  rw [h8, Int.toNat_natCast, zup_ne (Or.inl (by omega)), h8]
  exact loop F (Nat.le_refl _) _ (fun i hi => zup_nc hi) zup_eq (fun j h1 h2 => by rw [show j = F by omega, zup_eq]; omega) (fun t h1 h2 => by omega)
theorem ok_X1_handOver {φ : zMu → Prop} {n r F w d : Nat} {p : Int} {C : Nat → Nat → Int} (hp : 2 ≤ p ∧ p ≤ 199) (hn : n ≤ 80) (hw2 : w < 2) (hd : d ≤ 8) (hT : zFt w d n p μ) (h8 : μ 97 8 = (F : Int)) (hE : zElM p n (zmT w d) C (zMtx μ) (zmT w d) r F) (hF : F < zmT w d)
    (h : ∀ (ν : zMu) (s : Nat → Int), (∀ (i : Nat), i ≠ 181 → i ≠ 3 → i ≠ 4 → ν i = μ i) → zSol p n C F s → ν 3 1 = (d : Int) → (∀ t, t < 81 → ν 4 t = zEq w d s t) → φ ν) : zOv g zm_X1_handOver [.ref 97, .ref 3] μ φ := by
  obtain ⟨m1, m2, m3⟩ := zT_m hw2 (d := d) (by omega)
  refine sg_X1_handOver zc_3 (ok_X1_solve hp hn m1 hT.2.2.2.2.1 h8 hE hF (fun ν1 s f1 hs e181 => ?_))
  rw [f1 97 (by omega), hT.1]
  refine sg_X3_clear zc_3 (sg_J7_fill zc_4 ?_)
  have loop : ∀ f c : Nat, c + f = F + 1 → ∀ ν : zMu, (∀ (i : Nat), i ≠ 181 → i ≠ 3 → i ≠ 4 → ν i = μ i) → ν 181 = ν1 181 → ν 3 1 = (d : Int) → (∀ t, t < 81 → ν 4 t = if t / 9 ≤ d ∧ t % 9 ≤ d ∧ zxT w d (t / 9) (t % 9) < c then s (zxT w d (t / 9) (t % 9)) else 0) → at_X1_handOver_14 g φ 3 (c : Int) ν := by
    intro f
    induction f with
    | zero =>
      intro c hc ν g1 g2 g3 g4
      have e8 : ν 97 8 = (F : Int) := by rw [g1 97 (by omega) (by omega) (by omega)]; exact h8
      refine sg_X1_handOver_14 zc_3 ⟨by omega, by omega, fun _ => h ν s g1 hs g3 (fun t ht => ?_), fun hc => absurd hc (by omega)⟩
      rw [g4 t ht]
      unfold zEq
      by_cases q : t / 9 ≤ d ∧ t % 9 ≤ d
      · rw [if_pos q]
        by_cases q2 : zxT w d (t / 9) (t % 9) < c
        · rw [if_pos ⟨q.1, q.2, q2⟩]
        · rw [if_neg (fun z => q2 z.2.2), hs.2.2.2.1 _ (by omega)]
      · rw [if_neg q, if_neg (fun z => q ⟨z.1, z.2.1⟩)]
    | succ f ih =>
      intro c hc ν g1 g2 g3 g4
      have e8 : ν 97 8 = (F : Int) := by rw [g1 97 (by omega) (by omega) (by omega)]; exact h8
      have e5 : ν 97 5 = (w : Int) := by rw [g1 97 (by omega) (by omega) (by omega)]; exact hT.2.1
      obtain ⟨q1, q2⟩ := hT.2.2.2.2.2 c (by omega)
      obtain ⟨c1, c2, c3, c4⟩ := zT_c hw2 (d := d) (c := c) (by omega) (by omega)
      have e179 : ν 179 c = (((zpT w d c).1 : Nat) : Int) := by rw [g1 179 (by omega) (by omega) (by omega)]; exact q1
      have e180 : ν 180 c = (((zpT w d c).2 : Nat) : Int) := by rw [g1 180 (by omega) (by omega) (by omega)]; exact q2
      have es : ν 181 c = s c := by rw [g2]; exact e181 c (by omega)
      refine sg_X1_handOver_14 zc_3 ⟨by omega, by omega, fun hc => absurd hc (by omega), fun _ => ?_⟩
      rw [Int.toNat_natCast, e179, e180, es, show 3 + 1 = 4 from rfl, show Int.toNat (9 * (((zpT w d c).1 : Nat) : Int) + (((zpT w d c).2 : Nat) : Int)) = 9 * (zpT w d c).1 + (zpT w d c).2 by omega]
      rw [zup_ne (i := 4) (a := 97) (Or.inl (by omega)), e5, zup_ne (i := 4) (a := 180) (Or.inl (by omega)), e180, zup_ne (i := 4) (a := 179) (Or.inl (by omega)), e179, zup_ne (i := 4) (a := 181) (Or.inl (by omega)), es, show Int.toNat (9 * (((zpT w d c).2 : Nat) : Int) + (((zpT w d c).1 : Nat) : Int)) = 9 * (zpT w d c).2 + (zpT w d c).1 by omega]
      generalize hi : (zpT w d c).1 = i at c1 c2 c3 c4 ⊢
      generalize hk : (zpT w d c).2 = k at c1 c2 c3 c4 ⊢
      -- what t is when its term has the number c
      have key : ∀ t, t < 81 → t / 9 ≤ d → t % 9 ≤ d → zxT w d (t / 9) (t % 9) = c → t = 9 * i + k ∨ (w = 1 ∧ t = 9 * k + i) := fun t ht h1 h2 e => by
        have := (zT_x hw2 (d := d) (i := t / 9) (k := t % 9) (by omega) h1 h2).2
        rw [e, hi, hk] at this
        omega
      have step : ∀ ν2 : zMu, (∀ (x : Nat), x ≠ 4 → ν2 x = ν x) → (∀ t, t < 81 → ν2 4 t = if t = 9 * i + k ∨ (w = 1 ∧ t = 9 * k + i) then s c else ν 4 t) → at_X1_handOver_14 g φ 3 ((c : Int) + 1) ν2 := fun ν2 u1 u2 => by
        have := ih (c + 1) (by omega) ν2 (fun x x1 x2 x3 => (u1 x x3).trans (g1 x x1 x2 x3)) ((u1 181 (by omega)).trans g2) (by rw [u1 3 (by omega)]; exact g3) (fun t ht => by
          rw [u2 t ht]
          by_cases q : t = 9 * i + k ∨ (w = 1 ∧ t = 9 * k + i)
          · rw [if_pos q]
            have e : t / 9 ≤ d ∧ t % 9 ≤ d ∧ zxT w d (t / 9) (t % 9) = c := by
              rcases q with q | ⟨q0, q⟩
              · have a1 : t / 9 = i := by omega
                have a2 : t % 9 = k := by omega
                rw [a1, a2]
                exact ⟨c1, c2, c3⟩
              · have a1 : t / 9 = k := by omega
                have a2 : t % 9 = i := by omega
                rw [a1, a2]
                exact ⟨c2, c1, c4 q0⟩
            rw [if_pos ⟨e.1, e.2.1, by omega⟩, e.2.2]
          · rw [if_neg q, g4 t ht]
            by_cases q2 : t / 9 ≤ d ∧ t % 9 ≤ d ∧ zxT w d (t / 9) (t % 9) < c
            · rw [if_pos q2, if_pos ⟨q2.1, q2.2.1, by omega⟩]
            · rw [if_neg q2, if_neg (fun z => by
                have : zxT w d (t / 9) (t % 9) = c := by
                  have hz := z.2.2
                  by_cases e : zxT w d (t / 9) (t % 9) < c
                  · exact absurd ⟨z.1, z.2.1, e⟩ q2
                  · omega
                exact q (key t ht z.1 z.2.1 this))])
        rw [Int.natCast_add] at this
        exact this
      refine ⟨by omega, by omega, by omega, fun w0 => step _ (fun x hx => zup_nc hx) (fun t ht => ?_), fun w0 => ⟨by omega, step _ (fun x hx => (zup_nc hx).trans (zup_nc hx)) (fun t ht => ?_)⟩⟩
      · by_cases e : t = 9 * i + k
        · rw [e, zup_eq, if_pos (Or.inl rfl)]
        · rw [zup_ne (Or.inr e), if_neg (by omega)]
      · by_cases e2 : t = 9 * k + i
        · rw [e2, zup_eq, if_pos (Or.inr ⟨by omega, rfl⟩)]
        · rw [zup_ne (Or.inr e2)]
          by_cases e : t = 9 * i + k
          · rw [e, zup_eq, if_pos (Or.inl rfl)]
          · rw [zup_ne (Or.inr e), if_neg (by omega)]
  exact loop (F + 1) 0 (by omega) _ (fun i h1 h2 h3 => (zua_nc h3).trans ((zup_nc h2).trans (f1 i h1))) ((zua_nc (by omega)).trans (zup_nc (by omega))) ((zua_ne (by omega)).trans zup_eq) (fun t ht => by
    rw [zua_eq, if_pos ht, if_neg (fun z => absurd z.2.2 (Nat.not_lt_zero _))])
theorem zct_pos {P : Nat → Bool} {i : Nat} : ∀ {n : Nat}, i < n → P i = true → 1 ≤ zct P n
  | 0, h, _ => absurd h (Nat.not_lt_zero _)
  | n + 1, h, hp => by
    rw [zct]
    have hb := zct_bd (P := P) (n := n)
    by_cases e : i = n
    · subst e
      rw [hp, if_pos rfl]; omega
    · have := zct_pos (n := n) (by omega) hp
      split <;> omega
/-- search, and what it hands over -/
theorem ok_find {φ : Int → zMu → Prop} {a b d w : Nat} (hw : zWF A) (hR : zRC A μ) (ha : a < 6) (hb : b < 6) (h1 : A 2 a ≠ 0) (h2 : A 2 b ≠ 0) (hd1 : 1 ≤ d) (hd : d ≤ 8) (hw2 : w < 2) (hP : zPC A a b d μ)
    (h : zHc φ μ (@ite (Int × zMu) (∃ s : Nat → Int, ∃ F, zSl A a b d w F s) (Classical.propDecidable _) (zfc A a b d w (zmT w d), zup (zua A 4 (zEq w d (zslv A a b d w))) 3 0 (d : Int)) (-5, A))) : zOi g zm_X1_search [.ref 97, .ref 74, .int (zJ (d : Int)), .int (zJ (w : Int))] μ (fun x μ1 => (zR x) ∧ ((¬ x = 0 → zOv g zm_X1_handOver [.ref 97, .ref 3] μ1 (fun μ2 => zOv g zm_X2_forget [.ref 182] μ2 (fun μ3 => φ x μ3))) ∧ (x = 0 → φ (-5) μ1))) := by
  have hp := zWF_p hw
  obtain ⟨k1, k2, k3, k4, k5⟩ := zkw_bd hw ha hb h1 h2
  obtain ⟨m1, m2, m3⟩ := zT_m hw2 (d := d) (by omega)
  refine ok_X1_search hw ha hb h1 h2 hd hw2 hP (fun ν g1 g2 g3 => ?_)
  refine ok_X1_eliminate (C := zC A a b d w) hp.1 k2 m1 g2 (fun t ht j hj => g3 t ht j hj) (fun j t => zC_bd (by omega)) (fun ν2 r F q1 q2 q3 q4 => ?_)
  have f2 : zFr μ ν2 := g1.tr q1
  have hcount : ((zmT w d : Nat) : Int) - r = zfc A a b d w (zmT w d) := q4.2.2.2.2.2.1
  have hbd := zct_bd (P := fun c => zdec (zfC A a b d w c)) (n := zmT w d)
  have hbd2 : 0 ≤ zfc A a b d w (zmT w d) ∧ zfc A a b d w (zmT w d) ≤ ((zmT w d : Nat) : Int) := hbd
  rw [g2.2.2.1, hcount]
  refine ⟨by omega, fun hne => ?_, fun h0 => ?_⟩
  · have hF : F < zmT w d := by
      rcases q4.2.2.2.2.2.2 with ⟨_, z, _⟩ | ⟨z, _⟩ <;> omega
    refine ok_X1_handOver (by omega) k2 hw2 hd q2 q3 q4 hF (fun ν3 s u1 u2 u3 u4 => sg_X2_forget (sg_J7_fill zc_183 ?_))
    have hsl : zSl A a b d w F s := ⟨hF, u2⟩
    rw [if_pos ⟨s, F, hsl⟩, zslv_eq hp.1 hsl] at h
    have h : ∀ μ', zRC (zup (zua A 4 (zEq w d s)) 3 0 (d : Int)) μ' → zKm μ μ' → φ (zfc A a b d w (zmT w d)) μ' := h
    have e3 : ∀ E, zup (zua A 4 E) 3 0 (d : Int) 3 0 = d := fun E => zup_eq
    have eo : ∀ E (i : Nat), i ≠ 3 → i ≠ 4 → zup (zua A 4 E) 3 0 (d : Int) i = A i := fun E i q1 q2 => (zup_nc q1).trans (zua_nc q2)
    have e4 : ∀ E, zup (zua A 4 E) 3 0 (d : Int) 4 = E := fun E => (zup_nc (by omega)).trans zua_row
    have fo : ∀ (i : Nat), (i ≤ 2 ∨ (5 ≤ i ∧ i < 95) ∨ 184 ≤ i) → zua ν3 183 (fun b => if b < 199 then -2 else ν3 183 b) i = μ i := fun i hi => (zua_nc (by omega)).trans ((u1 i (by omega) (by omega) (by omega)).trans (f2 i (by omega)))
    obtain ⟨r1, r2, r3, r4⟩ := hR.1
    refine h _ (zRC_n hR (fun i hi => eo _ i (by omega) (by omega)) (fun i hi => fo i (by omega)) ⟨?_, fun s' hs' => ?_, ?_, fun q hq => ?_⟩ (fun v hv => Or.inl ?_)) (fun i hi => fo i (by omega))
    · rw [eo _ 0 (by omega) (by omega), fo 1 (by omega)]; exact r1
    · have := r2 s' hs'
      unfold zCs at this ⊢
      simp only [Nat.zero_add] at this ⊢
      rw [eo _ 1 (by omega) (by omega), eo _ 2 (by omega) (by omega), eo _ (10 + s') (by omega) (by omega), fo _ (by omega), fo (1 + 7 + 2 * s') (by omega)]; exact this
    · unfold zCe
      simp only [Nat.zero_add]
      rw [e3, e4, zua_nc (i := 183) (a := 1 + 2) (by omega), zua_nc (i := 183) (a := 1 + 3) (by omega)]
      exact ⟨u3, fun _ t ht => u4 t ht⟩
    · have := r4 q hq
      unfold zCk at this ⊢
      simp only [Nat.zero_add] at this ⊢
      rw [eo _ 5 (by omega) (by omega), eo _ 6 (by omega) (by omega), eo _ (20 + q) (by omega) (by omega), fo _ (by omega), fo (1 + 5) (by omega), fo (1 + 19 + 2 * q) (by omega)]; exact this
    · rw [zua_eq, if_pos hv]
  · rw [if_neg (fun ⟨s, F, z1, z2⟩ => by
      have : 1 ≤ zfc A a b d w (zmT w d) := zct_pos (i := F) z1 (zdec_iff.2 (zSol_fr z2))
      omega)] at h
    exact h _ (f2.RC hR) f2.K
theorem cx_find {φ : Int → zMu → Prop} {a b d w : Int} (hw : zWF A) (hR : zRC A μ) (ha : zR a) (hb : zR b) (hd : zR d) (hww : zR w) (h : zHc φ μ (st_find A a b d w)) : zOi g zm_X10_find [.ref 0, .int (zJ a), .int (zJ b), .int (zJ d), .int (zJ w)] μ φ := by
  have hp := zWF_p hw
  have h1 : ¬ (0 ≤ a ∧ a < 6) ∨ ¬ (0 ≤ b ∧ b < 6) → φ (-1) μ := fun q => h.at (if_pos q) rfl hR (zKm.refl μ)
  have h2 : (0 ≤ a ∧ a < 6) ∧ (0 ≤ b ∧ b < 6) → (¬ (1 ≤ d ∧ d ≤ 8) ∨ ¬ (0 ≤ w ∧ w ≤ 1)) → φ (-2) μ := fun q q2 => h.at ((if_neg (by omega)).trans (if_pos q2)) rfl hR (zKm.refl μ)
  refine sg_X10_find (ok_X10_isSeries ha (fun qa => ⟨by omega, fun hc => absurd hc (by omega), fun _ => ok_X10_isSeries hb (fun qb => ⟨by omega, fun _ => ⟨hd, fun q => h2 ⟨qa, qb⟩ (by omega), fun qd => ⟨fun q => h2 ⟨qa, qb⟩ (by omega), fun qd2 => ⟨hww, fun q => h2 ⟨qa, qb⟩ (by omega), fun qw => ⟨fun qw2 => ⟨qa, ?_⟩, fun q => h2 ⟨qa, qb⟩ (by omega)⟩⟩⟩⟩, fun hc => absurd hc (by omega)⟩) (fun q => ⟨by omega, fun hc => absurd rfl hc, fun _ => h1 (by omega)⟩)⟩) (fun q => ⟨by omega, fun _ => h1 (by omega), fun hc => absurd rfl hc⟩))
  obtain ⟨a, rfl⟩ : ∃ q : Nat, a = q := ⟨a.toNat, by omega⟩
  obtain ⟨b, rfl⟩ : ∃ q : Nat, b = q := ⟨b.toNat, by omega⟩
  obtain ⟨d, rfl⟩ : ∃ q : Nat, d = q := ⟨d.toNat, by omega⟩
  obtain ⟨w, rfl⟩ : ∃ q : Nat, w = q := ⟨w.toNat, by omega⟩
  unfold st_find at h
  rw [if_neg (by omega), if_neg (by omega)] at h
  simp only [Int.toNat_natCast] at h ⊢
  obtain ⟨s1, s2, s3⟩ := zRC_sr hR (s := a) (by omega)
  obtain ⟨u1, u2, u3⟩ := zRC_sr hR (s := b) (by omega)
  obtain ⟨_, b2, _⟩ := zWF_s hw (s := a) (by omega)
  obtain ⟨_, c2, _⟩ := zWF_s hw (s := b) (by omega)
  have hmiss : A 2 a = 0 ∨ A 2 b = 0 → φ (-11) μ := fun q => h.at (if_pos q) rfl hR (zKm.refl μ)
  refine ok_X6_isMissing (zsr a (by omega)).1 (by omega) (fun m1 => ⟨by omega, fun hc => absurd rfl hc, fun _ => ⟨qb, ?_⟩⟩) (fun m1 => ⟨by omega, fun _ => hmiss (by omega), fun hc => absurd hc (by omega)⟩)
  refine ok_X6_isMissing (zsr b (by omega)).1 (by omega) (fun m2 => ⟨by omega, fun _ => ?_, fun hc => absurd rfl hc⟩) (fun m2 => ⟨by omega, fun hc => absurd hc (by omega), fun _ => hmiss (by omega)⟩)
  rw [if_neg (by omega)] at h
  refine ok_X9_prepare (d := d) hw hR (by omega) (by omega) (by omega) (by omega) (by omega) rfl (zRC_p0 hR) (fun ν r1 r2 r3 => ?_)
  have hν : zHc φ ν (@ite (Int × zMu) (∃ s : Nat → Int, ∃ F, zSl A a b d w F s) (Classical.propDecidable _) (zfc A a b d w (zmT w d), zup (zua A 4 (zEq w d (zslv A a b d w))) 3 0 (d : Int)) (-5, A)) := fun μ' q1 q2 => h μ' q1 (r2.trans q2)
  refine ⟨fun qw3 => ?_, fun qw3 => ?_⟩
  · have ew : w = 0 := by omega
    subst ew
    exact ok_find hw r1 (by omega) (by omega) (by omega) (by omega) (by omega) (by omega) (by decide) r3 hν
  · have ew : w = 1 := by omega
    subst ew
    exact ok_find hw r1 (by omega) (by omega) (by omega) (by omega) (by omega) (by omega) (by decide) r3 hν
end FHO
