/-! FIND: the class's matrix -/
/-- the class's scratch rows of find -/
def zFr (μ ν : zMu) : Prop := ∀ (i : Nat), ¬ (95 ≤ i ∧ i ≤ 181) → ν i = μ i
theorem zFr.rfl' (μ : zMu) : zFr μ μ := fun _ _ => rfl
theorem zFr.tr {μ ν ω : zMu} (h : zFr μ ν) (h2 : zFr ν ω) : zFr μ ω := fun i hi => (h2 i hi).trans (h i hi)
theorem zFr.RC {A μ ν : zMu} (h : zFr μ ν) (hR : zRC A μ) : zRC A ν := zRC_s hR (fun i hi j _ => by rw [h i (by omega)])
theorem zFr.K {μ ν : zMu} (h : zFr μ ν) : zKm μ ν := fun i hi => h i (by omega)
theorem zFr.PC {A μ ν : zMu} {a b d : Nat} (h : zFr μ ν) (hd : d ≤ 8) (hP : zPC A a b d μ) : zPC A a b d ν := zPC_keep hd hP (fun i h1 h2 => h i (by omega))
/-- the terms are listed -/
def zFt (w d n : Nat) (p : Int) (ν : zMu) : Prop := ν 97 4 = (d : Int) ∧ ν 97 5 = (w : Int) ∧ ν 97 6 = ((zmT w d : Nat) : Int) ∧ ν 97 7 = (n : Int) ∧ ν 97 9 = p ∧ ∀ (c : Nat), c < zmT w d → ν 179 c = (((zpT w d c).1 : Nat) : Int) ∧ ν 180 c = (((zpT w d c).2 : Nat) : Int)
theorem zFt_keep {w d n : Nat} {p : Int} {ν ν' : zMu} (h : zFt w d n p ν) (e : ∀ (j : Nat), j ≠ 8 → ν' 97 j = ν 97 j) (e2 : ν' 179 = ν 179) (e3 : ν' 180 = ν 180) : zFt w d n p ν' := by
  obtain ⟨h1, h2, h3, h4, h5, h6⟩ := h
  exact ⟨by rw [e 4 (by omega)]; exact h1, by rw [e 5 (by omega)]; exact h2, by rw [e 6 (by omega)]; exact h3, by rw [e 7 (by omega)]; exact h4, by rw [e 9 (by omega)]; exact h5, by rw [e2, e3]; exact h6⟩
theorem zcm {j : Nat} (hj : j < 80) : zS (99 + j) 12 81 := by
  have h : zS (98 + 1 + 1 * j) 12 81 := zqr_98 hj
  rw [show 98 + 1 + 1 * j = 99 + j by omega] at h
  exact h
section FCO
variable {g : zG} {μ A : zMu}
theorem ok_X1_listTerms {φ : zMu → Prop} {w d n : Nat} {p : Int} (hw2 : w < 2) (hd : d < 9) (h4 : μ 97 4 = d) (h5 : μ 97 5 = w) (h7 : μ 97 7 = n) (h9 : μ 97 9 = p)
    (h : ∀ ν : zMu, (∀ (i : Nat), i ≠ 97 → i ≠ 179 → i ≠ 180 → ν i = μ i) → zFt w d n p ν → φ ν) : zOv g zm_X1_listTerms [.ref 97] μ φ := by
  obtain ⟨m1, m2, m3⟩ := zT_m hw2 hd
  have outer : ∀ f i : Nat, i + f = d + 1 → ∀ ν : zMu, (∀ (x : Nat), x ≠ 97 → x ≠ 179 → x ≠ 180 → ν x = μ x) → (∀ (j : Nat), j ≠ 6 → ν 97 j = μ 97 j) → ν 97 6 = ((zbT w d i : Nat) : Int) → (∀ (c : Nat), c < zbT w d i → ν 179 c = (((zpT w d c).1 : Nat) : Int) ∧ ν 180 c = (((zpT w d c).2 : Nat) : Int)) → at_X1_listTerms_7 g φ (i : Int) ν := by
    intro f
    induction f with
    | zero =>
      intro i hi ν f1 f2 e6 er
      have ei : i = d + 1 := by omega
      subst ei
      refine sg_X1_listTerms_7 ⟨by omega, by rw [f2 4 (by omega)]; omega, fun _ => h ν f1 ⟨by rw [f2 4 (by omega)]; exact h4, by rw [f2 5 (by omega)]; exact h5, e6, by rw [f2 7 (by omega)]; exact h7, by rw [f2 9 (by omega)]; exact h9, er⟩, fun hc => absurd hc (by rw [f2 4 (by omega)]; omega)⟩
    | succ f ih =>
      intro i hi ν f1 f2 e6 er
      have hn := zT_next hw2 hd (i := i) (by omega)
      have hm := m3 i (by omega)
      have inner : ∀ f2 k : Nat, k + f2 = zgT w d i + 1 → ∀ ν : zMu, (∀ (x : Nat), x ≠ 97 → x ≠ 179 → x ≠ 180 → ν x = μ x) → (∀ (j : Nat), j ≠ 6 → ν 97 j = μ 97 j) → ν 97 6 = ((zbT w d i + k : Nat) : Int) → (∀ (c : Nat), c < zbT w d i + k → ν 179 c = (((zpT w d c).1 : Nat) : Int) ∧ ν 180 c = (((zpT w d c).2 : Nat) : Int)) → at_X1_listTerms_33 g φ (i : Int) (zgT w d i : Int) (k : Int) ν := by
        intro f2
        induction f2 with
        | zero =>
          intro k hk ν f1 f2 e6 er
          have := ih (i + 1) (by omega) ν f1 f2 (by rw [e6, hn]; omega) (fun c hc => er c (by omega))
          rw [Int.natCast_add] at this
          exact sg_X1_listTerms_33 ⟨by omega, by omega, fun _ => this, fun hc => absurd hc (by omega)⟩
        | succ f2 ih2 =>
          intro k hk ν f1 f2 e6 er
          refine sg_X1_listTerms_33 ⟨by omega, by omega, fun hc => absurd hc (by omega), fun _ => ?_⟩
          rw [e6, Int.toNat_natCast]
          have e6b : zup ν 179 (zbT w d i + k) (i : Int) 97 6 = ((zbT w d i + k : Nat) : Int) := (zup_ne (Or.inl (by omega))).trans e6
          rw [e6b, Int.toNat_natCast]
          have e6c : zup (zup ν 179 (zbT w d i + k) (i : Int)) 180 (zbT w d i + k) (k : Int) 97 6 = ((zbT w d i + k : Nat) : Int) := (zup_ne (Or.inl (by omega))).trans e6b
          rw [e6c]
          refine ⟨by omega, by omega, ?_⟩
          obtain ⟨q1, q2⟩ := zT_p hw2 hd (i := i) (k := k) (by omega) (by omega)
          have := ih2 (k + 1) (by omega) (zup (zup (zup ν 179 (zbT w d i + k) (i : Int)) 180 (zbT w d i + k) (k : Int)) 97 6 (((zbT w d i + k : Nat) : Int) + 1)) (fun x x1 x2 x3 => (zup_nc x1).trans ((zup_nc x3).trans ((zup_nc x2).trans (f1 x x1 x2 x3)))) (fun j hj => (zup_ne (Or.inr hj)).trans ((zup_ne (Or.inl (by omega))).trans ((zup_ne (Or.inl (by omega))).trans (f2 j hj)))) (by rw [zup_eq]; omega) (fun c hc => by
            rw [zup_ne (Or.inl (by omega)), zup_ne (i := 97) (a := 180) (Or.inl (by omega)), zup_ne (i := 180) (a := 179) (Or.inl (by omega))]
            by_cases ec : c = zbT w d i + k
            · rw [ec, zup_eq, zup_eq, q1, q2]; exact ⟨rfl, rfl⟩
            · rw [zup_ne (Or.inr ec), zup_ne (Or.inr ec), zup_ne (Or.inl (by omega))]
              exact er c (by omega))
          rw [Int.natCast_add] at this
          exact this
      have k0 := inner (zgT w d i + 1) 0 (by omega) ν f1 f2 e6 (fun c hc => er c hc)
      refine sg_X1_listTerms_7 ⟨by omega, by rw [f2 4 (by omega)]; omega, fun hc => absurd hc (by rw [f2 4 (by omega)]; omega), fun _ => ?_⟩
      rw [f2 5 (by omega), f2 4 (by omega), h5, h4]
      unfold zgT at k0
      refine ⟨by omega, fun q => ?_, fun q => ?_⟩
      · rw [if_neg (by omega)] at k0; exact k0
      · rw [if_pos (by omega)] at k0; exact k0
  refine sg_X1_listTerms (outer (d + 1) 0 (by omega) _ (fun x x1 x2 x3 => zup_nc x1) (fun j hj => zup_ne (Or.inr hj)) (by rw [zup_eq, m2]; rfl) (fun c hc => absurd hc (by omega)))
theorem ok_X1_clearMatrix {φ : zMu → Prop} {n : Nat} (hn : n ≤ 80) (h7 : μ 97 7 = n) (h : ∀ ν : zMu, (∀ (i : Nat), ¬ (99 ≤ i ∧ i ≤ 178) → ν i = μ i) → (∀ t, t < n → ∀ j, j < 81 → ν (99 + t) j = 0) → φ ν) : zOv g zm_X1_clearMatrix [.ref 97] μ φ := by
  have loop : ∀ f s : Nat, s + f = n → ∀ ν : zMu, (∀ (i : Nat), ¬ (99 ≤ i ∧ i ≤ 178) → ν i = μ i) → (∀ t, t < s → ∀ j, j < 81 → ν (99 + t) j = 0) → at_X1_clearMatrix_2 g φ (s : Int) ν := by
    intro f
    induction f with
    | zero =>
      intro s hs ν f1 f2
      exact sg_X1_clearMatrix_2 ⟨by omega, by rw [f1 97 (by omega)]; omega, fun _ => h ν f1 (fun t ht => f2 t (by omega)), fun hc => absurd hc (by rw [f1 97 (by omega)]; omega)⟩
    | succ f ih =>
      intro s hs ν f1 f2
      refine sg_X1_clearMatrix_2 ⟨by omega, by rw [f1 97 (by omega)]; omega, fun hc => absurd hc (by rw [f1 97 (by omega)]; omega), fun _ => ⟨by omega, ?_⟩⟩
      rw [Int.toNat_natCast]
      refine sg_J7_fill (zcm (by omega)) ?_
      have := ih (s + 1) (by omega) (zua ν (99 + s) (fun b => if b < 81 then 0 else ν (99 + s) b)) (fun i hi => (zua_nc (by omega)).trans (f1 i hi)) (fun t ht j hj => by
        by_cases e : t = s
        · rw [e, zua_eq, if_pos hj]
        · rw [zua_ne (by omega)]; exact f2 t (by omega) j hj)
      rw [Int.natCast_add] at this
      exact this
  exact sg_X1_clearMatrix (loop n 0 (by omega) μ (fun _ _ => rfl) (fun t ht => absurd ht (by omega)))
theorem ok_X1_addProduct {φ : zMu → Prop} {a b d i k c : Nat} (hw : zWF A) (ha : a < 6) (hb : b < 6) (h1 : A 2 a ≠ 0) (h2 : A 2 b ≠ 0) (hd : d ≤ 8) (hi : i ≤ d) (hk : k ≤ d) (hc : c < 81) (hP : zPC A a b d μ) (h7 : μ 97 7 = zkw A a b) (h9 : μ 97 9 = A 0 0) (hM : ∀ t, t < zkw A a b → 0 ≤ μ (99 + t) c ∧ μ (99 + t) c < A 0 0)
    (h : ∀ ν : zMu, (∀ (x : Nat), ¬ (95 ≤ x ∧ x ≤ 178 ∧ x ≠ 96 ∧ x ≠ 97 ∧ x ≠ 98) → ν x = μ x) → (∀ t, t < zkw A a b → ∀ j, ν (99 + t) j = if j = c then (μ (99 + t) c + zqc A a b d i k t) % A 0 0 else μ (99 + t) j) → φ ν) : zOv g zm_X1_addProduct [.ref 97, .ref 74, .int (zJ (i : Int)), .int (zJ (k : Int)), .int (zJ (c : Int))] μ φ := by
  have hp := zWF_p hw
  obtain ⟨k1, k2, k3, k4, k5⟩ := zkw_bd hw ha hb h1 h2
  have ho := zof_bd (A := A) (a := a) (b := b) (zWF_s hw ha).1 (zWF_s hw hb).1 hd hi hk
  refine sg_X1_addProduct (ok_X9_multiplyTerm hw ha hb h1 h2 hd hi hk hP (fun F hF => ?_))
  obtain ⟨o, hoe⟩ : ∃ o : Nat, zof A a b d i k = o := ⟨(zof A a b d i k).toNat, by omega⟩
  rw [hoe] at hF ho ⊢
  have loop : ∀ m t : Nat, (t + m = zkw A a b ∨ (m = 0 ∧ zkw A a b ≤ t)) → o ≤ t → t ≤ 3168 → ∀ ν : zMu, (∀ (x : Nat), ¬ (99 ≤ x ∧ x ≤ 178) → ν x = zua μ 95 F x) → (∀ s, s < zkw A a b → ∀ j, ν (99 + s) j = if j = c ∧ s < t then (μ (99 + s) c + zqc A a b d i k s) % A 0 0 else μ (99 + s) j) → at_X1_addProduct_12 g φ (c : Int) (o : Int) (t : Int) ν := by
    intro m
    induction m with
    | zero =>
      intro t ht hot ht2 ν f1 f2
      have e7 : ν 97 7 = zkw A a b := by rw [f1 97 (by omega), zua_ne (by omega)]; exact h7
      refine sg_X1_addProduct_12 ⟨by omega, by omega, fun _ => h ν (fun x hx => ?_) (fun s hs j => ?_), fun hc => absurd hc (by omega)⟩
      · rw [f1 x (by omega), zua_nc (by omega)]
      · rw [f2 s hs j]
        by_cases e : j = c
        · rw [if_pos ⟨e, by omega⟩, if_pos e]
        · rw [if_neg (fun q => e q.1), if_neg e]
    | succ m ih =>
      intro t ht hot ht2 ν f1 f2
      have e7 : ν 97 7 = zkw A a b := by rw [f1 97 (by omega), zua_ne (by omega)]; exact h7
      have e9 : ν 97 9 = A 0 0 := by rw [f1 97 (by omega), zua_ne (by omega)]; exact h9
      have htn : t < zkw A a b := by omega
      have hz : zqc A a b d i k t = zpx A a b i k (t - o) := by
        unfold zqc
        rw [hoe, if_pos (by omega), show ((t : Int) - (o : Int)).toNat = t - o by omega]
      have hFt := hF (t - o) (by omega)
      have hpx : 0 ≤ zpx A a b i k (t - o) ∧ zpx A a b i k (t - o) < A 0 0 := zemod_lt (by omega)
      have hMt := hM t htn
      refine sg_X1_addProduct_12 ⟨by omega, by omega, fun hc => absurd hc (by omega), fun _ => ⟨by omega, by omega, by omega, ?_⟩⟩
      rw [Int.toNat_natCast, Int.toNat_natCast, show Int.toNat ((t : Int) - (o : Int)) = t - o by omega, f2 t htn c, if_neg (by omega), f1 95 (by omega), zua_eq, hFt, e9]
      refine ⟨by omega, by omega, by omega, ?_⟩
      rw [ztm (by omega)]
      have := ih (t + 1) (by omega) (by omega) (by omega) (zup ν (99 + t) c ((μ (99 + t) c + zpx A a b i k (t - o)) % A 0 0)) (fun x hx => (zup_nc (by omega)).trans (f1 x hx)) (fun s hs j => by
        by_cases e : s = t ∧ j = c
        · rw [e.1, e.2, zup_eq, if_pos (by omega), hz]
        · rw [zup_ne (by omega), f2 s hs j]
          by_cases e2 : j = c ∧ s < t
          · rw [if_pos e2, if_pos (by omega)]
          · rw [if_neg e2, if_neg (by omega)])
      rw [Int.natCast_add] at this
      exact this
  refine loop (zkw A a b - o) o (by omega) (by omega) (by omega) _ (fun x hx => rfl) (fun s hs j => ?_)
  rw [zua_ne (by omega)]
  by_cases e : j = c ∧ s < o
  · rw [if_pos e, e.1]
    unfold zqc
    rw [hoe, if_neg (by omega), Int.add_zero, Int.emod_eq_of_lt (hM s hs).1 (hM s hs).2]
  · rw [if_neg e]
/-- the matrix holds all columns -/
def zMxC (A : zMu) (a b d w : Nat) (ν : zMu) : Prop := ∀ t, t < zkw A a b → ∀ j, j < zmT w d → ν (99 + t) j = zC A a b d w j t
theorem lp_search {φ : Int → zMu → Prop} {a b d w : Nat} (hw : zWF A) (ha : a < 6) (hb : b < 6) (h1 : A 2 a ≠ 0) (h2 : A 2 b ≠ 0) (hd : d ≤ 8) (hw2 : w < 2) (hP : zPC A a b d μ)
    (h : ∀ ν, zFr μ ν → zFt w d (zkw A a b) (A 0 0) ν → zMxC A a b d w ν → zOi g zm_X1_eliminate [.ref 97] ν (fun x4 μ3 => φ ((ν 97 6) - x4) μ3)) : ∀ m c : Nat, c + m = zmT w d → ∀ ν, zFr μ ν → zFt w d (zkw A a b) (A 0 0) ν → (∀ t, t < zkw A a b → ∀ j, j < zmT w d → ν (99 + t) j = if j < c then zC A a b d w j t else 0) → at_X1_search_37 g φ (c : Int) ν := by
  have hp := zWF_p hw
  obtain ⟨k1, k2, k3, k4, k5⟩ := zkw_bd hw ha hb h1 h2
  obtain ⟨m1, m2, m3⟩ := zT_m hw2 (d := d) (by omega)
  intro m
  induction m with
  | zero =>
    intro c hc ν f hT hM
    have e6 := hT.2.2.1
    exact sg_X1_search_37 ⟨by omega, by omega, fun _ => h ν f hT (fun t ht j hj => by rw [hM t ht j hj, if_pos (by omega)]), fun hc => absurd hc (by omega)⟩
  | succ m ih =>
    intro c hc ν f hT hM
    have e6 := hT.2.2.1
    obtain ⟨q1, q2⟩ := hT.2.2.2.2.2 c (by omega)
    obtain ⟨c1, c2, c3, c4⟩ := zT_c hw2 (d := d) (c := c) (by omega) (by omega)
    refine sg_X1_search_37 ⟨by omega, by omega, fun hc => absurd hc (by omega), fun _ => ⟨by omega, ?_⟩⟩
    rw [Int.toNat_natCast, q1, q2]
    refine ok_X1_addProduct hw ha hb h1 h2 hd c1 c2 (by omega) (f.PC hd hP) hT.2.2.2.1 hT.2.2.2.2.1 (fun t ht => by rw [hM t ht c (by omega), if_neg (by omega)]; omega) (fun ν2 g1 g2 => ?_)
    have f2 : zFr μ ν2 := f.tr (fun i hi => g1 i (by omega))
    have hT2 : zFt w d (zkw A a b) (A 0 0) ν2 := zFt_keep hT (fun j _ => by rw [g1 97 (by omega)]) (g1 179 (by omega)) (g1 180 (by omega))
    have e5 := hT2.2.1
    obtain ⟨r1, r2⟩ := hT2.2.2.2.2.2 c (by omega)
    rw [r1, r2, e5]
    have hb1 : ∀ t, 0 ≤ zqc A a b d (zpT w d c).1 (zpT w d c).2 t ∧ zqc A a b d (zpT w d c).1 (zpT w d c).2 t < A 0 0 := fun t => zqc_bd (by omega)
    have hM2 : ∀ t, t < zkw A a b → ∀ j, j < zmT w d → ν2 (99 + t) j = if j < c then zC A a b d w j t else if j = c then zqc A a b d (zpT w d c).1 (zpT w d c).2 t else 0 := fun t ht j hj => by
      rw [g2 t ht j]
      by_cases e : j = c
      · rw [if_pos e, if_neg (by omega), if_pos e, hM t ht c (by omega), if_neg (by omega), Int.zero_add, Int.emod_eq_of_lt (hb1 t).1 (hb1 t).2]
      · rw [if_neg e, hM t ht j hj]
        by_cases e2 : j < c
        · rw [if_pos e2, if_pos e2]
        · rw [if_neg e2, if_neg e2, if_neg e]
    have fin : ¬ (w = 1 ∧ (zpT w d c).1 ≠ (zpT w d c).2) → at_X1_search_37 g φ ((c : Int) + 1) ν2 := fun hn => by
      have := ih (c + 1) (by omega) ν2 f2 hT2 (fun t ht j hj => by
        rw [hM2 t ht j hj]
        by_cases e2 : j < c
        · rw [if_pos e2, if_pos (by omega)]
        · rw [if_neg e2]
          by_cases e : j = c
          · rw [if_pos e, if_pos (by omega), e]
            unfold zC
            rw [if_neg hn]
          · rw [if_neg e, if_neg (by omega)])
      rw [Int.natCast_add] at this
      exact this
    refine ⟨by omega, fun q => fin (by omega), fun q => ⟨by omega, by omega, fun q3 => fin (by omega), fun q3 => ?_⟩⟩
    refine ok_X1_addProduct hw ha hb h1 h2 hd c2 c1 (by omega) (f2.PC hd hP) hT2.2.2.2.1 hT2.2.2.2.2.1 (fun t ht => by rw [hM2 t ht c (by omega), if_neg (by omega), if_pos rfl]; exact hb1 t) (fun ν3 g3 g4 => ?_)
    have f3 : zFr μ ν3 := f2.tr (fun i hi => g3 i (by omega))
    have hT3 : zFt w d (zkw A a b) (A 0 0) ν3 := zFt_keep hT2 (fun j _ => by rw [g3 97 (by omega)]) (g3 179 (by omega)) (g3 180 (by omega))
    have := ih (c + 1) (by omega) ν3 f3 hT3 (fun t ht j hj => by
      rw [g4 t ht j]
      by_cases e : j = c
      · rw [if_pos e, if_pos (by omega), hM2 t ht c (by omega), if_neg (by omega), if_pos rfl, e]
        unfold zC
        rw [if_pos ⟨by omega, by omega⟩]
      · rw [if_neg e, hM2 t ht j hj]
        by_cases e2 : j < c
        · rw [if_pos e2, if_pos (by omega)]
        · rw [if_neg e2, if_neg e, if_neg (by omega)])
    rw [Int.natCast_add] at this
    exact this
theorem ok_X1_search {φ : Int → zMu → Prop} {a b d w : Nat} (hw : zWF A) (ha : a < 6) (hb : b < 6) (h1 : A 2 a ≠ 0) (h2 : A 2 b ≠ 0) (hd : d ≤ 8) (hw2 : w < 2) (hP : zPC A a b d μ)
    (h : ∀ ν, zFr μ ν → zFt w d (zkw A a b) (A 0 0) ν → zMxC A a b d w ν → zOi g zm_X1_eliminate [.ref 97] ν (fun x4 μ3 => φ ((ν 97 6) - x4) μ3)) : zOi g zm_X1_search [.ref 97, .ref 74, .int (zJ (d : Int)), .int (zJ (w : Int))] μ φ := by
  have hp := zWF_p hw
  obtain ⟨k1, k2, k3, k4, k5⟩ := zkw_bd hw ha hb h1 h2
  obtain ⟨m1, m2, m3⟩ := zT_m hw2 (d := d) (by omega)
  refine sg_X1_search ⟨by omega, ?_⟩
  have e1 : zup (zup μ 97 4 (d : Int)) 97 5 (w : Int) 74 7 = zkw A a b := by rw [zup_ne (Or.inl (by omega)), zup_ne (Or.inl (by omega))]; exact hP.2.2.2.1
  rw [e1]
  have e2 : zup (zup (zup μ 97 4 (d : Int)) 97 5 (w : Int)) 97 7 (zkw A a b : Int) 74 8 = A 0 0 := by rw [zup_ne (Or.inl (by omega)), zup_ne (Or.inl (by omega)), zup_ne (Or.inl (by omega))]; exact hP.2.2.2.2.1
  rw [e2]
  refine ok_X1_listTerms (w := w) (d := d) (n := zkw A a b) (p := A 0 0) hw2 (by omega) ?_ ?_ ?_ zup_eq (fun ν1 g1 g2 => ?_)
  · rw [zup_ne (Or.inr (by omega)), zup_ne (Or.inr (by omega)), zup_ne (Or.inr (by omega)), zup_eq]
  · rw [zup_ne (Or.inr (by omega)), zup_ne (Or.inr (by omega)), zup_eq]
  · rw [zup_ne (Or.inr (by omega)), zup_eq]
  · refine ok_X1_clearMatrix (n := zkw A a b) k2 g2.2.2.2.1 (fun ν2 q1 q2 => ?_)
    have hf : zFr μ ν2 := fun i hi => (q1 i (by omega)).trans ((g1 i (by omega) (by omega) (by omega)).trans ((zup_nc (by omega)).trans ((zup_nc (by omega)).trans ((zup_nc (by omega)).trans (zup_nc (by omega))))))
    refine lp_search hw ha hb h1 h2 hd hw2 hP h (zmT w d) 0 (by omega) ν2 hf (zFt_keep g2 (fun j _ => by rw [q1 97 (by omega)]) (q1 179 (by omega)) (q1 180 (by omega))) (fun t ht j hj => by rw [if_neg (by omega)]; exact q2 t ht j (by omega))
end FCO
