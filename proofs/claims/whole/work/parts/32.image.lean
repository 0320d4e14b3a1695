/-! IMAGE AND BACK -/
section IMG
variable {g : zG} {μ A A' : zMu}
theorem zWFc_shift {o o' : Nat} (hA : ∀ (i : Nat), i < 28 → A' (o' + i) = A (o + i)) (h : zWFc A o) : zWFc A' o' := by
  obtain ⟨h1, h2, h3, h4, h5, h6⟩ := h
  have h0 : A' o' = A o := hA 0 (by omega)
  have r1 : ∀ s, s < 6 → A' (o' + 10 + s) = A (o + 10 + s) := fun s hs => by rw [show o' + 10 + s = o' + (10 + s) by omega, hA (10 + s) (by omega), show o + (10 + s) = o + 10 + s by omega]
  have r2 : ∀ q, q < 8 → A' (o' + 20 + q) = A (o + 20 + q) := fun s hs => by rw [show o' + 20 + s = o' + (20 + s) by omega, hA (20 + s) (by omega), show o + (20 + s) = o + 20 + s by omega]
  refine ⟨by rw [h0]; exact h1, fun s hs => ?_, by rw [hA 3 (by omega)]; exact h3, by rw [hA 3 (by omega), hA 4 (by omega), h0]; exact h4, fun q hq => ?_, by rw [hA 5 (by omega)]; exact h6⟩
  · rw [hA 1 (by omega), hA 2 (by omega), h0, r1 s hs]; exact h2 s hs
  · rw [hA 5 (by omega), hA 6 (by omega), r2 q hq]; exact h5 q hq
theorem zCc_shift {o o' b : Nat} (hA : ∀ (i : Nat), i < 28 → A' (o' + i) = A (o + i)) (h : zCc A o μ b) : zCc A' o' μ b := by
  obtain ⟨q1, q2, q3, q4⟩ := h
  have h0 : A' o' = A o := hA 0 (by omega)
  have r1 : ∀ s, s < 6 → A' (o' + 10 + s) = A (o + 10 + s) := fun s hs => by rw [show o' + 10 + s = o' + (10 + s) by omega, hA (10 + s) (by omega), show o + (10 + s) = o + 10 + s by omega]
  have r2 : ∀ q, q < 8 → A' (o' + 20 + q) = A (o + 20 + q) := fun s hs => by rw [show o' + 20 + s = o' + (20 + s) by omega, hA (20 + s) (by omega), show o + (20 + s) = o + 20 + s by omega]
  refine ⟨by rw [h0]; exact q1, fun s hs => ?_, ?_, fun q hq => ?_⟩
  · have := q2 s hs
    unfold zCs at this ⊢
    rw [hA 1 (by omega), hA 2 (by omega), r1 s hs]; exact this
  · unfold zCe at q3 ⊢
    rw [hA 3 (by omega), hA 4 (by omega)]; exact q3
  · have := q4 q hq
    unfold zCk at this ⊢
    rw [hA 5 (by omega), hA 6 (by omega), r2 q hq]; exact this
/-- the model's rows, copied so far as they hold something -/
theorem zMc_copy {o o' : Nat} {p d : Int} {ss ls rs es ks ss' ls' rs' es' ks' : Nat → Int} (hA : ∀ (i : Nat), i < 28 → A' (o' + i) = A (o + i)) (hw : zWFc A o) (h3 : ∀ (k : Nat), k < 6 → ss' k = ss k) (h4 : ∀ (k : Nat), k < 6 → ls' k = ls k) (h5 : ∀ (k : Nat), k < 480 → rs' k = rs k) (h6 : ∀ (k : Nat), k < 81 → es' k = es k) (h7 : ∀ (k : Nat), k < 664 → ks' k = ks k) (h : zMc A o p d ss ls rs es ks) : zMc A' o' p d ss' ls' rs' es' ks' := by
  obtain ⟨q1, q2, q3, q4, q5⟩ := h
  obtain ⟨w1, w2, w3, w4, w5, w6⟩ := hw
  have h0 : A' o' = A o := hA 0 (by omega)
  have r1 : ∀ s, s < 6 → A' (o' + 10 + s) = A (o + 10 + s) := fun s hs => by rw [show o' + 10 + s = o' + (10 + s) by omega, hA (10 + s) (by omega), show o + (10 + s) = o + 10 + s by omega]
  have r2 : ∀ q, q < 8 → A' (o' + 20 + q) = A (o + 20 + q) := fun s hs => by rw [show o' + 20 + s = o' + (20 + s) by omega, hA (20 + s) (by omega), show o + (20 + s) = o + 20 + s by omega]
  have hb : ∀ (x : Int) (i k : Nat), x ≤ 8 → (i : Int) ≤ x → (k : Int) ≤ x → (x.toNat + 1) * i + k ≤ 80 := fun x i k hx hi hk => by
    obtain ⟨d, hdd⟩ : ∃ d : Nat, x = d := ⟨x.toNat, by omega⟩
    subst hdd
    rw [Int.toNat_natCast]
    have h1 : (d + 1) * i ≤ (d + 1) * d := Nat.mul_le_mul_left _ (by omega)
    have h2 : (d + 1) * d ≤ 9 * d := Nat.mul_le_mul_right _ (by omega)
    omega
  refine ⟨by rw [h0]; exact q1, fun s hs => ?_, by rw [hA 3 (by omega)]; exact q3, ?_, fun q hq => ?_⟩
  · rw [hA 1 (by omega), hA 2 (by omega), r1 s hs, h3 s hs, h4 s hs]
    obtain ⟨u1, u2, u3⟩ := q2 s hs
    refine ⟨u1, u2, fun k hk => ?_⟩
    have := (w2 s hs).2.1
    rw [h5 _ (by omega)]
    exact u3 k hk
  · rw [hA 3 (by omega), hA 4 (by omega)]
    intro hd i k hi hk
    have := hb (A (o + 3) 0) i k w3.2 hi hk
    rw [h6 _ (by omega)]
    exact q4 hd i k hi hk
  · rw [hA 5 (by omega), hA 6 (by omega), r2 q hq, h7 _ (by omega)]
    obtain ⟨u1, u2⟩ := q5 q hq
    refine ⟨u1, fun hz => ?_⟩
    obtain ⟨u3, u4⟩ := u2 hz
    have h6b := ((w5 q hq).resolve_left hz).2.1
    refine ⟨by rw [h7 _ (by omega)]; exact u3, fun i k hi hk => ?_⟩
    have := hb (A (o + 6) q) i k h6b.2 hi hk
    rw [h7 _ (by omega)]
    exact u4 i k hi hk
theorem zsb_c {c : Nat} (hc : c = 1 ∨ c = 35) : zS c 0 5 ∧ zS (c + 2) 3 2 ∧ (∀ s, s < 6 → zS (c + 6 + 2 * s) 6 3 ∧ zS (c + 7 + 2 * s) 12 80) ∧ (∀ q, q < 8 → zS (c + 18 + 2 * q) 3 2) := by
  rcases hc with h | h <;> subst h
  · refine ⟨zc_1, zc_3, fun s hs => ?_, fun q hq => ?_⟩
    · rw [show 1 + 6 + 2 * s = 7 + 2 * s by omega, show 1 + 7 + 2 * s = 8 + 2 * s by omega]; exact zsr s hs
    · rw [show 1 + 18 + 2 * q = 19 + 2 * q by omega]; exact (zsk q hq).1
  · refine ⟨zc_35, zc_37, fun s hs => ?_, fun q hq => ?_⟩
    · have : s = 0 ∨ s = 1 ∨ s = 2 ∨ s = 3 ∨ s = 4 ∨ s = 5 := by omega
      rcases this with h | h | h | h | h | h <;> subst h
      · exact ⟨zc_41, zc_42⟩
      · exact ⟨zc_43, zc_44⟩
      · exact ⟨zc_45, zc_46⟩
      · exact ⟨zc_47, zc_48⟩
      · exact ⟨zc_49, zc_50⟩
      · exact ⟨zc_51, zc_52⟩
    · have : q = 0 ∨ q = 1 ∨ q = 2 ∨ q = 3 ∨ q = 4 ∨ q = 5 ∨ q = 6 ∨ q = 7 := by omega
      rcases this with h | h | h | h | h | h | h | h <;> subst h
      · exact zc_53
      · exact zc_55
      · exact zc_57
      · exact zc_59
      · exact zc_61
      · exact zc_63
      · exact zc_65
      · exact zc_67
theorem ok_X0_copyFrom {φ : zMu → Prop} {c d o : Nat} (hcd : (c = 1 ∧ d = 35) ∨ (c = 35 ∧ d = 1)) (hw : zWFc A o) (hC : zCc A o μ d) (h : ∀ μ', (∀ (i : Nat), (i < c ∨ c + 34 ≤ i) → μ' i = μ i) → zCc A o μ' c → φ μ') : zOv g zm_X0_copyFrom [.ref c, .ref d] μ φ := by
  obtain ⟨k1, k2, k3, k4⟩ := zsb_c (c := c) (by omega)
  obtain ⟨l1, l2, l3, l4⟩ := zsb_c (c := d) (by omega)
  obtain ⟨q1, q2, q3, q4⟩ := hC
  obtain ⟨w1, w2, w3, w4, w5, w6⟩ := hw
  refine sg_X0_copyFrom k1 l1 (ok_X3_copyFrom k2 l2 ?_)
  have two : ∀ m t : Nat, t + m = 8 → ∀ ν, (∀ (i : Nat), (i < c ∨ c + 34 ≤ i) → ν i = μ i) → ν c 0 = A o 0 → zCe A o ν c → (∀ s, s < 6 → zCs A o ν c s) → (∀ q, q < t → zCk A o ν c q) → at_X0_copyFrom_50 g φ c d (t : Int) ν := by
    intro m
    induction m with
    | zero =>
      intro t ht ν fν e0 e1 e2 e3
      have e : t = 8 := by omega
      subst e
      exact sg_X0_copyFrom_50 k1 l1 ⟨by omega, fun _ => h ν fν ⟨e0, e2, e1, e3⟩, fun hc => absurd hc (by omega)⟩
    | succ m ih =>
      intro t ht ν fν e0 e1 e2 e3
      refine sg_X0_copyFrom_50 k1 l1 ⟨by omega, fun hc => absurd hc (by omega), fun _ => ⟨by omega, ?_⟩⟩
      rw [Int.toNat_natCast]
      refine ok_X3_copyFrom (k4 t (by omega)) (l4 t (by omega)) ?_
      rw [fν (d + 18 + 2 * t) (by omega), zua_ne (i := c + 18 + 2 * t + 1) (a := d + 5) (by omega), zup_ne (i := c + 18 + 2 * t) (a := d + 5) (Or.inl (by omega)), fν (d + 5) (by omega)]
      have fo : ∀ (i : Nat), i ≠ c + 5 → i ≠ c + 18 + 2 * t → i ≠ c + 18 + 2 * t + 1 → ∀ f, zup (zua (zup ν (c + 18 + 2 * t) 1 (μ (d + 18 + 2 * t) 1)) (c + 18 + 2 * t + 1) f) (c + 5) t (μ (d + 5) t) i = ν i := fun i h1 h2 h3 f => by rw [zup_nc h1, zua_nc h3, zup_nc h2]
      have := ih (t + 1) (by omega) (zup (zua (zup ν (c + 18 + 2 * t) 1 (μ (d + 18 + 2 * t) 1)) (c + 18 + 2 * t + 1) (fun k => if k < 81 then zup ν (c + 18 + 2 * t) 1 (μ (d + 18 + 2 * t) 1) (d + 18 + 2 * t + 1) k else zup ν (c + 18 + 2 * t) 1 (μ (d + 18 + 2 * t) 1) (c + 18 + 2 * t + 1) k)) (c + 5) t (μ (d + 5) t)) (fun i hi => (fo i (by omega) (by omega) (by omega) _).trans (fν i hi)) (by rw [fo c (by omega) (by omega) (by omega)]; exact e0) (by
        unfold zCe at e1 ⊢
        rw [fo _ (by omega) (by omega) (by omega), fo (c + 3) (by omega) (by omega) (by omega)]; exact e1) (fun s hs => by
        have := e2 s hs
        unfold zCs at this ⊢
        rw [fo (c + 6 + 2 * s) (by omega) (by omega) (by omega), fo (c + 7 + 2 * s) (by omega) (by omega) (by omega)]; exact this) (fun q hq => by
        unfold zCk
        by_cases hqt : q = t
        · subst hqt
          rw [zup_ne (i := c + 5) (a := c + 18 + 2 * q) (Or.inl (by omega)), zua_ne (by omega), zup_eq, zup_eq]
          have := q4 q (by omega)
          unfold zCk at this
          refine this.imp id (fun z => ⟨z.1, z.2.1, z.2.2.1, fun j hj => ?_⟩)
          rw [zup_ne (i := c + 5) (Or.inl (by omega)), show c + 19 + 2 * q = c + 18 + 2 * q + 1 by omega, zua_eq, if_pos hj, zup_ne (Or.inl (by omega)), fν _ (by omega), show d + 18 + 2 * q + 1 = d + 19 + 2 * q by omega]
          exact z.2.2.2 j hj
        · have := e3 q (by omega)
          unfold zCk at this
          rw [fo (c + 18 + 2 * q) (by omega) (by omega) (by omega), fo (c + 19 + 2 * q) (by omega) (by omega) (by omega), zup_ne (Or.inr hqt), zua_ne (by omega), zup_ne (Or.inl (by omega))]
          exact this)
      rw [Int.natCast_add] at this
      exact this
  have one : ∀ m t : Nat, t + m = 6 → ∀ ν, (∀ (i : Nat), (i < c ∨ c + 34 ≤ i) → ν i = μ i) → ν c 0 = A o 0 → zCe A o ν c → (∀ s, s < t → zCs A o ν c s) → at_X0_copyFrom_21 g φ c d (t : Int) ν := by
    intro m
    induction m with
    | zero =>
      intro t ht ν fν e0 e1 e2
      have e : t = 6 := by omega
      subst e
      exact sg_X0_copyFrom_21 k1 l1 ⟨by omega, fun _ => two 8 0 (by omega) ν fν e0 e1 e2 (fun q hq => absurd hq (by omega)), fun hc => absurd hc (by omega)⟩
    | succ m ih =>
      intro t ht ν fν e0 e1 e2
      refine sg_X0_copyFrom_21 k1 l1 ⟨by omega, fun hc => absurd hc (by omega), fun _ => ⟨by omega, ?_⟩⟩
      rw [Int.toNat_natCast]
      refine sg_X6_copyFrom (k3 t (by omega)).1 (l3 t (by omega)).1 ?_
      rw [fν (d + 6 + 2 * t) (by omega), show d + 6 + 2 * t + 1 = d + 7 + 2 * t by omega]
      obtain ⟨u1, u2, u3⟩ := q2 t (by omega)
      have hb := (w2 t (by omega)).2.1
      refine sg_X6_become (k3 t (by omega)).1 ⟨⟨80, 80, (l3 t (by omega)).2, by rw [show c + 6 + 2 * t + 1 = c + 7 + 2 * t by omega]; exact (k3 t (by omega)).2, by omega, by omega, by omega, by omega, by omega⟩, ?_⟩
      rw [show c + 6 + 2 * t + 1 = c + 7 + 2 * t by omega]
      unfold zcp
      have fo : ∀ (i : Nat), i ≠ c + 6 + 2 * t → i ≠ c + 7 + 2 * t → ∀ f, zua (zup (zup ν (c + 6 + 2 * t) 1 (μ (d + 6 + 2 * t) 1)) (c + 6 + 2 * t) 2 (μ (d + 6 + 2 * t) 2)) (c + 7 + 2 * t) f i = ν i := fun i h1 h2 f => by rw [zua_nc h2, zup_nc h1, zup_nc h1]
      have := ih (t + 1) (by omega) (zua (zup (zup ν (c + 6 + 2 * t) 1 (μ (d + 6 + 2 * t) 1)) (c + 6 + 2 * t) 2 (μ (d + 6 + 2 * t) 2)) (c + 7 + 2 * t) (fun k => if 0 ≤ k ∧ k < 0 + (μ (d + 6 + 2 * t) 2).toNat then zup (zup ν (c + 6 + 2 * t) 1 (μ (d + 6 + 2 * t) 1)) (c + 6 + 2 * t) 2 (μ (d + 6 + 2 * t) 2) (d + 7 + 2 * t) (0 + (k - 0)) else zup (zup ν (c + 6 + 2 * t) 1 (μ (d + 6 + 2 * t) 1)) (c + 6 + 2 * t) 2 (μ (d + 6 + 2 * t) 2) (c + 7 + 2 * t) k)) (fun i hi => (fo i (by omega) (by omega) _).trans (fν i hi)) (by rw [fo c (by omega) (by omega)]; exact e0) (by
        unfold zCe at e1 ⊢
        rw [fo _ (by omega) (by omega), fo (c + 3) (by omega) (by omega)]; exact e1) (fun s hs => by
        unfold zCs
        by_cases hst : s = t
        · subst hst
          rw [zua_ne (by omega), zup_ne (Or.inr (by omega)), zup_eq, zua_ne (by omega), zup_eq]
          refine ⟨u1, u2, fun k hk => ?_⟩
          rw [zua_eq, if_pos (by omega), zup_ne (Or.inl (by omega)), zup_ne (Or.inl (by omega)), fν _ (by omega), Nat.zero_add, Nat.sub_zero]
          exact u3 k hk
        · have := e2 s (by omega)
          unfold zCs at this
          rw [fo (c + 6 + 2 * s) (by omega) (by omega), fo (c + 7 + 2 * s) (by omega) (by omega)]; exact this)
      rw [Int.natCast_add] at this
      exact this
  refine one 6 0 (by omega) _ (fun i hi => (zua_nc (by omega)).trans ((zup_nc (by omega)).trans (zup_nc (by omega)))) ?_ ?_ (fun s hs => absurd hs (by omega))
  · rw [zua_ne (by omega), zup_ne (Or.inl (by omega)), zup_eq]; exact q1
  · unfold zCe at q3 ⊢
    rw [zua_ne (i := c + 2 + 1) (a := c + 2) (by omega), zup_eq, zup_ne (Or.inl (by omega))]
    refine ⟨q3.1, fun h0 t ht => ?_⟩
    rw [show c + 2 + 1 = c + 3 by omega, zua_eq, if_pos ht, zup_ne (Or.inl (by omega)), zup_ne (Or.inl (by omega)), show d + 2 + 1 = d + 3 by omega]
    exact q3.2 h0 t ht
def zim (A : zMu) : zMu := fun i j => if 100 ≤ i ∧ i < 128 then A (i - 100) j else if i = 60 ∧ j = 0 then 1 else A i j
def zbk (A : zMu) : zMu := fun i j => if i < 28 then A (100 + i) j else A i j
theorem zim_c {i : Nat} (h : i < 28) : zim A (100 + i) = A i := funext fun j => by
  unfold zim
  rw [if_pos (by omega), show 100 + i - 100 = i by omega]
theorem zim_o {i : Nat} (h : i < 60) : zim A i = A i := funext fun j => by
  unfold zim
  rw [if_neg (by omega), if_neg (by omega)]
theorem zim_60 : zim A 60 0 = 1 := by
  unfold zim
  rw [if_neg (by omega), if_pos ⟨rfl, rfl⟩]
theorem zbk_c {i : Nat} (h : i < 28) : zbk A i = A (100 + i) := funext fun j => if_pos h
theorem zbk_o {i : Nat} (h : 28 ≤ i) : zbk A i = A i := funext fun j => if_neg (by omega)
def st_image (A : zMu) : Int × zMu := (zsc A, zim A)
def st_back (A : zMu) : Int × zMu := if A 60 0 = 0 then (-3, A) else (zsc (zbk A), zbk A)
theorem wf_image (hw : zWF A) : zWF (st_image A).2 := zWF_i (A' := zim A) hw (fun i hi => zim_o hi) (Or.inr ⟨zim_60, zWFc_shift (A := A) (A' := zim A) (o := 0) (fun i hi => by rw [zim_c hi, Nat.zero_add]) hw.1⟩)
theorem wf_zbk (hw : zWF A) (h : A 60 0 ≠ 0) : zWF (zbk A) := zWF_n hw (fun i hi => zbk_o hi) (zWFc_shift (o := 100) (fun i hi => by rw [Nat.zero_add, zbk_c hi]) (hw.2.1.resolve_left h).2)
theorem wf_back (hw : zWF A) : zWF (st_back A).2 := by
  unfold st_back
  by_cases h : A 60 0 = 0
  · rw [if_pos h]; exact hw
  · rw [if_neg h]; exact wf_zbk hw h
theorem zsc_im : zsc (zim A) = zsc A := by
  unfold zsc
  rw [zim_o (by omega)]
theorem cx_image {φ : Int → zMu → Prop} (hw : zWF A) (hR : zRC A μ) (h : zHc φ μ (st_image A)) : zOi g zm_X10_image [.ref 0] μ φ := by
  refine sg_X10_image (ok_X0_copyFrom (A := A) (o := 0) (by omega) hw.1 hR.1 (fun ν f c => ?_))
  have fo : ∀ (i : Nat), i ≠ 0 → (i < 35 ∨ 69 ≤ i) → zup ν 0 2 1 i = μ i := fun i h0 hi => (zup_nc h0).trans (f i (by omega))
  have hR2 : zRC (zim A) (zup ν 0 2 1) := by
    refine zRC_i hR (fun i hi => zim_o hi) (fun i hi => fo i (by omega) (by omega)) ⟨by rw [zup_eq, zim_60], fun _ => zCc_keep (A := zim A) (μ := ν) (fun i _ _ => rfl) (fun i h1 h2 => zup_nc (by omega)) (zCc_shift (A := A) (o := 0) (fun i hi => by rw [zim_c hi, Nat.zero_add]) c)⟩
  have hwi : zWF (zim A) := wf_image hw
  exact ok_X0_seriesCount hwi hR2 (h.at rfl zsc_im hR2 (fun i hi => fo i (by omega) (by omega)))
theorem cx_back {φ : Int → zMu → Prop} (hw : zWF A) (hR : zRC A μ) (h : zHc φ μ (st_back A)) : zOi g zm_X10_back [.ref 0] μ φ := by
  obtain ⟨i1, i2⟩ := hR.2.1
  have hi := hw.2.1
  unfold st_back at h
  refine sg_X10_back ⟨by omega, fun h0 => ?_, fun h0 => h.at (if_pos (by omega)) rfl hR (zKm.refl μ)⟩
  have h60 : A 60 0 ≠ 0 := by omega
  rw [if_neg h60] at h
  obtain ⟨h1, hwc⟩ := hi.resolve_left h60
  refine ok_X0_copyFrom (A := A) (o := 100) (by omega) hwc (i2 h1) (fun ν f c => sg_X2_forget (sg_J7_fill zc_183 ?_))
  have fo : ∀ (i : Nat), (i < 1 ∨ 35 ≤ i) → i ≠ 183 → ∀ F, zua ν 183 F i = μ i := fun i h0 hi F => (zua_nc hi).trans (f i (by omega))
  have hR2 : zRC (zbk A) (zua ν 183 (fun b => if b < 199 then -2 else ν 183 b)) := by
    refine zRC_n hR (fun i hi => zbk_o hi) (fun i hi => fo i (by omega) (by omega) _) (zCc_keep (A := zbk A) (μ := ν) (fun i _ _ => rfl) (fun i h1 h2 => zua_nc (by omega)) (zCc_shift (A := A) (o := 100) (fun i hi => by rw [Nat.zero_add, zbk_c hi]) c)) (fun v hv => Or.inl (by rw [zua_eq, if_pos hv]))
  exact ok_X0_seriesCount (wf_zbk hw h60) hR2 (h.at rfl rfl hR2 (fun i hi => fo i (by omega) (by omega) _))
theorem ok_X11_copies {φ : zMu → Prop} {a b n0 n1 : Nat} (ha : zS a 12 n0) (hb : zS b 12 n1) (hn : n0 ≤ n1) (h31 : n0 < 2147483648) (hab : a ≠ b) (h : φ (zua μ b (fun k => if k < n0 then μ a k else μ b k))) : zOv g zm_X11_copies [.ref a, .ref b] μ φ := by
  refine sg_X11_copies ha hb ?_
  have loop : ∀ m t : Nat, t + m = n0 → at_X11_copies_2 g φ a b (t : Int) (zua μ b (fun k => if k < t then μ a k else μ b k)) := by
    intro m
    induction m with
    | zero =>
      intro t ht
      have e : t = n0 := by omega
      subst e
      exact sg_X11_copies_2 ha hb ⟨by omega, by omega, fun _ => h, fun hc => absurd hc (by omega)⟩
    | succ m ih =>
      intro t ht
      have k2 := ih (t + 1) (by omega)
      rw [Int.natCast_add] at k2
      refine sg_X11_copies_2 ha hb ⟨by omega, by omega, fun hc => absurd hc (by omega), fun _ => ⟨by omega, by omega, ?_⟩⟩
      rw [Int.toNat_natCast, zua_ne hab, zup_zua, zua_congr (h := fun k => if k < t + 1 then μ a k else μ b k) (fun q => by
        by_cases hb : q = t
        · rw [if_pos hb, if_pos (by omega), hb]
        · rw [if_neg hb]
          by_cases hc : q < t
          · rw [if_pos hc, if_pos (by omega)]
          · rw [if_neg hc, if_neg (by omega)])]
      exact k2
  have k0 := loop n0 0 (by omega)
  rw [zua_self (fun b => if_neg (by omega))] at k0
  exact k0
theorem mx_image {φ : Int → zMu → Prop} (hw : zWF A) (hR : zRM A μ) (h : zHm φ μ (st_image A)) : zOi g zm_X11_image [.ref 203] μ φ := by
  refine sg_X11_image ?_
  have e0 : (zup μ 203 42 1) 203 0 = A 0 0 := by rw [zup_ne (Or.inr (by omega))]; exact zRM_p0 hR
  rw [e0]
  have e4 : (zup (zup μ 203 42 1) 203 43 (A 0 0)) 203 4 = A 3 0 := by rw [zup_ne (Or.inr (by omega)), zup_ne (Or.inr (by omega))]; exact zRM_d hR
  rw [e4]
  have s42 : zup (zup (zup μ 203 42 1) 203 43 (A 0 0)) 203 44 (A 3 0) 203 42 = 1 := by rw [zup_ne (Or.inr (by omega)), zup_ne (Or.inr (by omega)), zup_eq]
  have s43 : zup (zup (zup μ 203 42 1) 203 43 (A 0 0)) 203 44 (A 3 0) 203 43 = A 0 0 := by rw [zup_ne (Or.inr (by omega)), zup_eq]
  have s44 : zup (zup (zup μ 203 42 1) 203 43 (A 0 0)) 203 44 (A 3 0) 203 44 = A 3 0 := by rw [zup_eq]
  have so : ∀ (j : Nat), j < 42 → zup (zup (zup μ 203 42 1) 203 43 (A 0 0)) 203 44 (A 3 0) 203 j = μ 203 j := fun j hj => by rw [zup_ne (Or.inr (by omega)), zup_ne (Or.inr (by omega)), zup_ne (Or.inr (by omega))]
  have sf : ∀ (i : Nat), i ≠ 203 → zup (zup (zup μ 203 42 1) 203 43 (A 0 0)) 203 44 (A 3 0) i = μ i := fun i hi => by rw [zup_nc hi, zup_nc hi, zup_nc hi]
  generalize zup (zup (zup μ 203 42 1) 203 43 (A 0 0)) 203 44 (A 3 0) = ν at s42 s43 s44 so sf ⊢
  refine ok_X11_copies zc_204 zc_231 (by omega) (by omega) (by omega) (ok_X11_copies zc_205 zc_232 (by omega) (by omega) (by omega) (ok_X11_copies zc_206 zc_233 (by omega) (by omega) (by omega) (ok_X11_copies zc_207 zc_234 (by omega) (by omega) (by omega) (ok_X11_copies zc_208 zc_235 (by omega) (by omega) (by omega) ?_))))
  simp only [zua_ne (show (205 : Nat) ≠ 231 by omega), zua_ne (show (206 : Nat) ≠ 231 by omega), zua_ne (show (206 : Nat) ≠ 232 by omega), zua_ne (show (207 : Nat) ≠ 231 by omega), zua_ne (show (207 : Nat) ≠ 232 by omega), zua_ne (show (207 : Nat) ≠ 233 by omega), zua_ne (show (208 : Nat) ≠ 231 by omega), zua_ne (show (208 : Nat) ≠ 232 by omega), zua_ne (show (208 : Nat) ≠ 233 by omega), zua_ne (show (208 : Nat) ≠ 234 by omega), zua_ne (show (232 : Nat) ≠ 231 by omega), zua_ne (show (233 : Nat) ≠ 231 by omega), zua_ne (show (233 : Nat) ≠ 232 by omega), zua_ne (show (234 : Nat) ≠ 231 by omega), zua_ne (show (234 : Nat) ≠ 232 by omega), zua_ne (show (234 : Nat) ≠ 233 by omega), zua_ne (show (235 : Nat) ≠ 231 by omega), zua_ne (show (235 : Nat) ≠ 232 by omega), zua_ne (show (235 : Nat) ≠ 233 by omega), zua_ne (show (235 : Nat) ≠ 234 by omega)]
  generalize hω : zua (zua (zua (zua (zua ν 231 _) 232 _) 233 _) 234 _) 235 _ = ω
  have fo : ∀ (i : Nat), (i < 231 ∨ 235 < i) → ω i = ν i := fun i hi => by rw [← hω, zua_nc (by omega), zua_nc (by omega), zua_nc (by omega), zua_nc (by omega), zua_nc (by omega)]
  have r1 : ∀ (k : Nat), k < 6 → ω 231 k = μ 204 k := fun k hk => by rw [← hω, zua_ne (by omega), zua_ne (by omega), zua_ne (by omega), zua_ne (by omega), zua_eq, if_pos hk, sf 204 (by omega)]
  have r2 : ∀ (k : Nat), k < 6 → ω 232 k = μ 205 k := fun k hk => by rw [← hω, zua_ne (by omega), zua_ne (by omega), zua_ne (by omega), zua_eq, if_pos hk, sf 205 (by omega)]
  have r3 : ∀ (k : Nat), k < 480 → ω 233 k = μ 206 k := fun k hk => by rw [← hω, zua_ne (by omega), zua_ne (by omega), zua_eq, if_pos hk, sf 206 (by omega)]
  have r4 : ∀ (k : Nat), k < 81 → ω 234 k = μ 207 k := fun k hk => by rw [← hω, zua_ne (by omega), zua_eq, if_pos hk, sf 207 (by omega)]
  have r5 : ∀ (k : Nat), k < 664 → ω 235 k = μ 208 k := fun k hk => by rw [← hω, zua_eq, if_pos hk, sf 208 (by omega)]
  have hn := hR.1
  unfold zMn at hn
  rw [zRM_p0 hR, zRM_d hR] at hn
  have hR2 : zRM (zim A) ω := by
    refine zRM_i hR (fun i hi => zim_o hi) (fun j _ hj => by rw [fo 203 (by omega)]; exact so j hj) (fun i hi hi2 => (fo i (by omega)).trans (sf i (by unfold zhM at hi; omega))) ⟨by rw [fo 203 (by omega), s42, zim_60], fun _ => ?_⟩
    rw [fo 203 (by omega), s43, s44]
    exact zMc_copy (A := A) (o := 0) (fun i hi => by rw [zim_c hi, Nat.zero_add]) hw.1 r1 r2 r3 r4 r5 hn
  exact ok_X11_seriesMany (wf_image hw) hR2 (h.at rfl zsc_im hR2 (fun i hi => (fo i (by omega)).trans (sf i (by omega))))
theorem mx_back {φ : Int → zMu → Prop} (hw : zWF A) (hR : zRM A μ) (h : zHm φ μ (st_back A)) : zOi g zm_X11_back [.ref 203] μ φ := by
  obtain ⟨i1, i2⟩ := hR.2.1
  have hi := hw.2.1
  unfold st_back at h
  refine sg_X11_back ⟨by omega, fun h0 => ?_, fun h0 => h.at (if_pos (by omega)) rfl hR (zKc.refl μ)⟩
  have h60 : A 60 0 ≠ 0 := by omega
  rw [if_neg h60] at h
  obtain ⟨h1, hwc⟩ := hi.resolve_left h60
  have hn := i2 h1
  have e44 : (zup μ 203 0 (μ 203 43)) 203 44 = μ 203 44 := by rw [zup_ne (Or.inr (by omega))]
  rw [e44]
  have s0 : zup (zup μ 203 0 (μ 203 43)) 203 4 (μ 203 44) 203 0 = μ 203 43 := by rw [zup_ne (Or.inr (by omega)), zup_eq]
  have s4 : zup (zup μ 203 0 (μ 203 43)) 203 4 (μ 203 44) 203 4 = μ 203 44 := by rw [zup_eq]
  have so : ∀ (j : Nat), j ≠ 0 → j ≠ 4 → zup (zup μ 203 0 (μ 203 43)) 203 4 (μ 203 44) 203 j = μ 203 j := fun j h0 h4 => by rw [zup_ne (Or.inr h4), zup_ne (Or.inr h0)]
  have sf : ∀ (i : Nat), i ≠ 203 → zup (zup μ 203 0 (μ 203 43)) 203 4 (μ 203 44) i = μ i := fun i hi => by rw [zup_nc hi, zup_nc hi]
  generalize zup (zup μ 203 0 (μ 203 43)) 203 4 (μ 203 44) = ν at s0 s4 so sf ⊢
  refine ok_X11_copies zc_231 zc_204 (by omega) (by omega) (by omega) (ok_X11_copies zc_232 zc_205 (by omega) (by omega) (by omega) (ok_X11_copies zc_233 zc_206 (by omega) (by omega) (by omega) (ok_X11_copies zc_234 zc_207 (by omega) (by omega) (by omega) (ok_X11_copies zc_235 zc_208 (by omega) (by omega) (by omega) ?_))))
  generalize hω : zua _ 208 _ = ω
  have fo : ∀ (i : Nat), (i < 204 ∨ 208 < i) → ω i = ν i := fun i hi => by rw [← hω, zua_nc (by omega), zua_nc (by omega), zua_nc (by omega), zua_nc (by omega), zua_nc (by omega)]
  have r1 : ∀ (k : Nat), k < 6 → ω 204 k = μ 231 k := fun k hk => by rw [← hω, zua_ne (by omega), zua_ne (by omega), zua_ne (by omega), zua_ne (by omega), zua_eq, if_pos hk, sf 231 (by omega)]
  have r2 : ∀ (k : Nat), k < 6 → ω 205 k = μ 232 k := fun k hk => by rw [← hω, zua_ne (by omega), zua_ne (by omega), zua_ne (by omega), zua_eq, if_pos hk, zua_ne (by omega), sf 232 (by omega)]
  have r3 : ∀ (k : Nat), k < 480 → ω 206 k = μ 233 k := fun k hk => by rw [← hω, zua_ne (by omega), zua_ne (by omega), zua_eq, if_pos hk, zua_ne (by omega), zua_ne (by omega), sf 233 (by omega)]
  have r4 : ∀ (k : Nat), k < 81 → ω 207 k = μ 234 k := fun k hk => by rw [← hω, zua_ne (by omega), zua_eq, if_pos hk, zua_ne (by omega), zua_ne (by omega), zua_ne (by omega), sf 234 (by omega)]
  have r5 : ∀ (k : Nat), k < 664 → ω 208 k = μ 235 k := fun k hk => by rw [← hω, zua_eq, if_pos hk, zua_ne (by omega), zua_ne (by omega), zua_ne (by omega), zua_ne (by omega), sf 235 (by omega)]
  have hR2 : zRM (zbk A) ω := by
    refine zRM_n hR (fun i hi => zbk_o hi) (fun j _ h0 h4 => by rw [fo 203 (by omega)]; exact so j h0 h4) (fun i hi hi2 => (fo i (by omega)).trans (sf i (by omega))) ?_
    unfold zMn
    rw [fo 203 (by omega), s0, s4]
    exact zMc_copy (A := A) (o := 100) (fun i hi => by rw [Nat.zero_add, zbk_c hi]) hwc r1 r2 r3 r4 r5 hn
  exact ok_X11_seriesMany (wf_zbk hw h60) hR2 (h.at rfl rfl hR2 (fun i hi => (fo i (by omega)).trans (sf i (by omega))))
end IMG
