/-! DEEDS: the commands are carried out -/
theorem zpg_len {A : zMu} (hL : A 40 0 ≤ 100) : ∀ (f p : Nat) (acc : List (Nat × List Int)), (p : Int) ≤ A 40 0 → 2 * acc.length ≤ p → zOkc acc → (zpg (zch A) f p acc).2.2.length ≤ 51 ∧ zOkc (zpg (zch A) f p acc).2.2
  | 0, p, acc, hp, h2, hO => by
    rw [zpg]
    exact ⟨by dsimp only; omega, hO⟩
  | f + 1, p, acc, hp, h2, hO => by
    rw [zpg]
    cases hc : zcd (zch A) p with
    | mk o q =>
      cases o with
      | none => exact ⟨by dsimp only; omega, hO⟩
      | some c =>
        obtain ⟨k, l⟩ := c
        dsimp only
        have hz := zcd_ok hp hc
        have hO2 := zOkc_app hO hz.1 hz.2.1 hz.2.2.1
        have hlen : (acc ++ [(k, l)]).length = acc.length + 1 := by rw [List.length_append]; rfl
        split
        · rename_i he
          have hlt := zch_lt (A := A) (p := q) (by omega)
          exact zpg_len hL f (q + 1) _ (by omega) (by omega) hO2
        · exact ⟨by dsimp only; omega, hO2⟩
theorem zpm_ok {A : zMu} (hw : zWF A) : (zpm A).2.2.length ≤ 51 ∧ zOkc (zpm A).2.2 := by
  have hL := zWF_tp hw
  exact zpg_len (by omega) 101 0 [] (by omega) (by simp) (fun c hc => absurd hc (List.not_mem_nil))
theorem zR_do {A : zMu} (hw : zWF A) {k : Nat} {l : List Int} : zR (st_do A (k, l)).1 := by
  have hp := zWF_p hw
  have sm : ∀ s : Nat, s < 6 → 0 ≤ A 2 s ∧ A 2 s ≤ 80 := fun s hs => (zWF_s hw hs).2.1
  unfold st_do
  dsimp only
  split
  · unfold st_prime
    split
    · show zR (A 0 0); omega
    · show zR (-2); omega
  · unfold st_j
    split
    · show zR (-1); omega
    · split
      · show zR (-2); omega
      · dsimp only at *; omega
  · unfold st_sum
    split
    · show zR (-1); omega
    · split
      · show zR (-11); omega
      · rename_i h1 h2
        have := zsn_bd hw (a := (l.getD 0 0).toNat) (b := (l.getD 1 0).toNat) (by omega) (by omega) (by omega) (by omega)
        dsimp only at *; omega
  · unfold st_times
    split
    · show zR (-1); omega
    · split
      · show zR (-11); omega
      · split
        · show zR (-3); omega
        · rename_i h1 h2 h3
          have := sm (l.getD 0 0).toNat (by omega)
          have := sm (l.getD 1 0).toNat (by omega)
          dsimp only at *; omega
  · unfold st_stretch
    split
    · show zR (-1); omega
    · split
      · show zR (-2); omega
      · split
        · show zR (-11); omega
        · split
          · show zR (-3); omega
          · rename_i h1 h2 h3 h4
            have h5 := sm (l.getD 0 0).toNat (by omega)
            have : 0 ≤ A 2 (l.getD 0 0).toNat * l.getD 1 0 := Int.mul_nonneg h5.1 (by omega)
            dsimp only at *; omega
  · unfold st_over
    split
    · show zR (-1); omega
    · split
      · show zR (-11); omega
      · split
        · show zR (-3); omega
        · rename_i h1 h2 h3
          have := sm (l.getD 0 0).toNat (by omega)
          dsimp only at *; omega
  · unfold st_power
    split
    · show zR (-1); omega
    · split
      · show zR (-2); omega
      · split
        · show zR (-11); omega
        · split
          · show zR (-3); omega
          · rename_i h1 h2 h3 h4
            have := sm (l.getD 0 0).toNat (by omega)
            dsimp only at *; omega
  · unfold st_find
    split
    · show zR (-1); omega
    · split
      · show zR (-2); omega
      · split
        · show zR (-11); omega
        · split
          · rename_i h1 h2 h3 h4
            have hm := (zT_m (w := (l.getD 3 0).toNat) (d := (l.getD 2 0).toNat) (by omega) (by omega)).1
            have hb : ∀ a b d w m, 0 ≤ zfc A a b d w m ∧ zfc A a b d w m ≤ m := fun a b d w m => zct_bd
            have := hb (l.getD 0 0).toNat (l.getD 1 0).toNat (l.getD 2 0).toNat (l.getD 3 0).toNat (zmT (l.getD 3 0).toNat (l.getD 2 0).toNat)
            dsimp only at *; omega
          · show zR (-5); omega
  · unfold st_keep
    split
    · show zR (-1); omega
    · split
      · show zR (-11); omega
      · split
        · show zR (-3); omega
        · have hb : ∀ B : zMu, 0 ≤ zkc B ∧ zkc B ≤ ((8 : Nat) : Int) := fun B => zct_bd
          have := hb (zkeep A (l.getD 0 0).toNat)
          dsimp only at *; omega
/-- what is owed behind any call: only the other side is surely kept -/
def zHd (φ : Int → zMu → Prop) (μ : zMu) (s : Int × zMu) : Prop := ∀ μ', zRC s.2 μ' → (∀ (i : Nat), 203 ≤ i → μ' i = μ i) → φ s.1 μ'
def zHn (φ : Int → zMu → Prop) (μ : zMu) (s : Int × zMu) : Prop := ∀ μ', zRM s.2 μ' → (∀ (i : Nat), i < 203 → μ' i = μ i) → φ s.1 μ'
theorem zHd.c {φ : Int → zMu → Prop} {μ : zMu} {s : Int × zMu} (h : zHd φ μ s) : zHc φ μ s := fun μ' a b => h μ' a (fun i hi => b i (Or.inl hi))
theorem zHn.m {φ : Int → zMu → Prop} {μ : zMu} {s : Int × zMu} (h : zHn φ μ s) : zHm φ μ s := fun μ' a b => h μ' a (fun i hi => b i (Or.inl hi))
section DRN
variable {g : zG} {μ ν A : zMu} {φ : Int → zMu → Prop}
theorem ok_X10_carryOut {acc : List (Nat × List Int)} {i : Nat} (hw : zWF A) (hR : zRC A ν) (hC : zCm ν acc) (hO : zOkc acc) (hl : acc.length ≤ 51) (hi : i < acc.length) (h : zHc φ ν (st_do A (acc.getD i (0, [])))) : zOi g zm_X10_carryOut [.ref 0, .int (zJ (i : Int))] ν φ := by
  obtain ⟨c1, c2⟩ := hC.2 i hi
  have hm : acc.getD i (0, []) ∈ acc := by
    rw [List.getD_eq_getElem?_getD, List.getElem?_eq_getElem hi]
    exact List.getElem_mem _
  obtain ⟨o1, o2, o3⟩ := hO _ hm
  generalize acc.getD i (0, []) = c at h c1 c2 o1 o2 o3
  obtain ⟨k, l⟩ := c
  dsimp only at c1 c2 o1 o2 o3
  have nums : ∀ k, k < 9 → zna k = if k = 0 ∨ k = 8 then 1 else if k = 1 ∨ k = 5 then 2 else if k = 7 then 4 else 3 := by decide +kernel
  have hn := nums k o1
  have r := fun j => zOkl_get o2 j
  refine sg_X10_carryOut (sg_X5_numberOf ⟨by omega, sg_X5_numberOf ⟨by omega, sg_X5_numberOf ⟨by omega, ?_⟩⟩⟩)
  rw [Int.toNat_natCast, c1, show Int.toNat (4 * (i : Int) + 0) = 4 * i + 0 by omega, show Int.toNat (4 * (i : Int) + 1) = 4 * i + 1 by omega, show Int.toNat (4 * (i : Int) + 2) = 4 * i + 2 by omega]
  refine ⟨by omega, by omega, fun q => ?_, fun q => ?_, fun q => ?_, fun q => ?_, fun q => ?_, fun q => ?_, fun q => ?_, fun q => ?_, fun q => ?_⟩
  · have ek : k = 8 := by omega
    subst ek
    have hn : zna 8 = 1 := hn
    rw [c2 0 (by omega)]
    exact cx_keep hw hR (r 0) h
  · have ek : k = 0 := by omega
    subst ek
    have hn : zna 0 = 1 := hn
    rw [c2 0 (by omega)]
    exact cx_prime hw hR (r 0) h
  · have ek : k = 1 := by omega
    subst ek
    have hn : zna 1 = 2 := hn
    rw [c2 0 (by omega), c2 1 (by omega)]
    exact cx_j hw hR (r 0) (r 1) h
  · have ek : k = 2 := by omega
    subst ek
    have hn : zna 2 = 3 := hn
    rw [c2 0 (by omega), c2 1 (by omega), c2 2 (by omega)]
    exact cx_sum hw hR (r 0) (r 1) (r 2) h
  · have ek : k = 3 := by omega
    subst ek
    have hn : zna 3 = 3 := hn
    rw [c2 0 (by omega), c2 1 (by omega), c2 2 (by omega)]
    exact cx_times hw hR (r 0) (r 1) (r 2) h
  · have ek : k = 4 := by omega
    subst ek
    have hn : zna 4 = 3 := hn
    rw [c2 0 (by omega), c2 1 (by omega), c2 2 (by omega)]
    exact cx_stretch hw hR (r 0) (r 1) (r 2) h
  · have ek : k = 5 := by omega
    subst ek
    have hn : zna 5 = 2 := hn
    rw [c2 0 (by omega), c2 1 (by omega)]
    exact cx_over hw hR (r 0) (r 1) h
  · have ek : k = 6 := by omega
    subst ek
    have hn : zna 6 = 3 := hn
    rw [c2 0 (by omega), c2 1 (by omega), c2 2 (by omega)]
    exact cx_power hw hR (r 0) (r 1) (r 2) h
  · have ek : k = 7 := by omega
    subst ek
    have hn : zna 7 = 4 := hn
    refine sg_X5_numberOf ⟨by omega, ?_⟩
    rw [show Int.toNat (4 * (i : Int) + 3) = 4 * i + 3 by omega, c2 0 (by omega), c2 1 (by omega), c2 2 (by omega), c2 3 (by omega)]
    exact cx_find hw hR (r 0) (r 1) (r 2) (r 3) h
theorem zdrop {acc : List (Nat × List Int)} {i : Nat} (h : i < acc.length) : acc.drop i = acc.getD i (0, []) :: acc.drop (i + 1) := by
  rw [List.drop_eq_getElem_cons h, List.getD_eq_getElem?_getD, List.getElem?_eq_getElem h]; rfl
theorem cx_deeds (hw : zWF A) (hR : zRC A μ) (h : zHd φ μ (st_deeds A)) : zOi g zm_X10_deeds [.ref 0] μ φ := by
  have hp := zWF_p hw
  obtain ⟨hl, hO⟩ := zpm_ok hw
  refine sg_X10_deeds (ok_X5_parse hw hR (fun x ν β T fβ hx => sg_X8_clear ?_))
  have fν : ∀ (i : Nat), i ≠ 188 → ¬ (190 ≤ i ∧ i ≤ 192) → ν i = μ i := fun i i0 i1 => (T.1 i i0).trans (fβ i i0 i1)
  have hR1 : zRC A ν := zRC_s hR (fun i hi j hj => by
    by_cases e : i = 188
    · rw [e, hj e, T.2.1, hR.2.2.2.1.1]
    · rw [fν i e (by omega)])
  have hR2 : zRC (zt0 A) (zup ν 188 1 0) := zRC_t hR1 (fun i i0 i1 => zup_nc i0) (fun i i0 i1 => zup_nc i0) ⟨by unfold zt0; rw [zup_eq, zup_eq], fun k hk => by unfold zt0 at hk; rw [zup_eq] at hk; omega⟩
  have hK2 : ∀ (i : Nat), 203 ≤ i → zup ν 188 1 0 i = μ i := fun i hi => (zup_nc (by omega)).trans (fν i (by omega) (by omega))
  unfold st_deeds at h
  rcases hx with ⟨rfl, hx, hC, _⟩ | ⟨rfl, hx⟩
  · rw [if_pos hx] at h
    refine ⟨by omega, fun _ => ?_, fun hc => absurd hc (by omega)⟩
    generalize (zpm A).2.2 = acc at h hC hl hO
    have hC0 : zCm (zup ν 188 1 0) acc := by
      unfold zCm at hC ⊢
      rw [zup_nc (by omega), zup_nc (by omega), zup_nc (by omega), T.1 190 (by omega), T.1 191 (by omega), T.1 192 (by omega)]
      exact hC
    have loop : ∀ f i : Nat, i + f = acc.length → ∀ (n : Int) (B ω : zMu), zWF B → zRC B ω → zCm ω acc → (∀ (x : Nat), 203 ≤ x → ω x = μ x) → zrn (acc.drop i) n B = zrn acc 0 (zt0 A) → at_X10_deeds_41 g φ n (i : Int) ω := by
      intro f
      induction f with
      | zero =>
        intro i hi n B ω hwB hRB hCB hK e
        have e2 := hCB.1
        rw [List.drop_of_length_le (by omega)] at e
        refine sg_X10_deeds_41 ⟨by omega, by omega, fun _ => ?_, fun hc => absurd hc (by omega)⟩
        rw [← e] at h
        exact h ω hRB hK
      | succ f ih =>
        intro i hi n B ω hwB hRB hCB hK e
        have e2 := hCB.1
        rw [zdrop (by omega)] at e
        refine sg_X10_deeds_41 ⟨by omega, by omega, fun hc => absurd hc (by omega), fun _ => ok_X10_carryOut hwB hRB hCB hO hl (by omega) (fun ω2 hR2 hK2 => ?_)⟩
        have hz : zR (st_do B (acc.getD i (0, []))).1 := zR_do hwB
        have hC2 : zCm ω2 acc := by
          unfold zCm at hCB ⊢
          rw [hK2 190 (by omega), hK2 191 (by omega), hK2 192 (by omega)]
          exact hCB
        have k := ih (i + 1) (by omega) _ _ ω2 (wf_do hwB _) hR2 hC2 (fun x hx => (hK2 x (by omega)).trans (hK x hx)) e
        rw [Int.natCast_add] at k
        refine ⟨hz, fun q => ?_, fun q => ?_⟩
        · rw [if_neg (by omega), Int.add_zero] at k; exact k
        · rw [if_pos q] at k; exact k
    exact loop acc.length 0 (by omega) 0 (zt0 A) _ (wf_t0 hw) hR2 hC0 hK2 rfl
  · rw [if_neg hx] at h
    refine ⟨by omega, fun hc => absurd rfl hc, fun _ => ?_⟩
    rw [T.2.2.1]
    exact h _ hR2 hK2
/-- the model -/
theorem ok_X11_does {acc : List (Nat × List Int)} {i : Nat} (hw : zWF A) (hR : zRM A ν) (hC : zDm ν acc) (hO : zOkc acc) (hl : acc.length ≤ 51) (hi : i < acc.length) (h : zHm φ ν (st_do A (acc.getD i (0, [])))) : zOi g zm_X11_does [.ref 203, .int (zJ (5 * (i : Int)))] ν φ := by
  obtain ⟨c1, c2⟩ := hC i hi
  have hm : acc.getD i (0, []) ∈ acc := by
    rw [List.getD_eq_getElem?_getD, List.getElem?_eq_getElem hi]
    exact List.getElem_mem _
  obtain ⟨o1, o2, o3⟩ := hO _ hm
  generalize acc.getD i (0, []) = c at h c1 c2 o1 o2 o3
  obtain ⟨k, l⟩ := c
  dsimp only at c1 c2 o1 o2 o3
  have nums : ∀ k, k < 9 → zna k = if k = 0 ∨ k = 8 then 1 else if k = 1 ∨ k = 5 then 2 else if k = 7 then 4 else 3 := by decide +kernel
  have hn := nums k o1
  have r := fun j => zOkl_get o2 j
  refine sg_X11_does ?_
  rw [show Int.toNat (5 * (i : Int)) = 5 * i by omega, c1, show Int.toNat (5 * (i : Int) + 1) = 5 * i + 1 + 0 by omega, show Int.toNat (5 * (i : Int) + 2) = 5 * i + 1 + 1 by omega, show Int.toNat (5 * (i : Int) + 3) = 5 * i + 1 + 2 by omega, show Int.toNat (5 * (i : Int) + 4) = 5 * i + 1 + 3 by omega]
  refine ⟨by omega, by omega, by omega, by omega, by omega, fun q => ?_, fun q => ?_, fun q => ?_, fun q => ?_, fun q => ?_, fun q => ?_, fun q => ?_, fun q => ?_, fun q => ?_⟩
  · have ek : k = 8 := by omega
    subst ek
    have hn : zna 8 = 1 := hn
    rw [c2 0 (by omega)]
    exact mx_keep hw hR (r 0) h
  · have ek : k = 0 := by omega
    subst ek
    have hn : zna 0 = 1 := hn
    rw [c2 0 (by omega)]
    exact mx_prime hw hR (r 0) h
  · have ek : k = 1 := by omega
    subst ek
    have hn : zna 1 = 2 := hn
    rw [c2 0 (by omega), c2 1 (by omega)]
    exact mx_j hw hR (r 0) (r 1) h
  · have ek : k = 2 := by omega
    subst ek
    have hn : zna 2 = 3 := hn
    rw [c2 0 (by omega), c2 1 (by omega), c2 2 (by omega)]
    exact mx_sum hw hR (r 0) (r 1) (r 2) h
  · have ek : k = 3 := by omega
    subst ek
    have hn : zna 3 = 3 := hn
    rw [c2 0 (by omega), c2 1 (by omega), c2 2 (by omega)]
    exact mx_times hw hR (r 0) (r 1) (r 2) h
  · have ek : k = 4 := by omega
    subst ek
    have hn : zna 4 = 3 := hn
    rw [c2 0 (by omega), c2 1 (by omega), c2 2 (by omega)]
    exact mx_stretch hw hR (r 0) (r 1) (r 2) h
  · have ek : k = 5 := by omega
    subst ek
    have hn : zna 5 = 2 := hn
    rw [c2 0 (by omega), c2 1 (by omega)]
    exact mx_over hw hR (r 0) (r 1) h
  · have ek : k = 6 := by omega
    subst ek
    have hn : zna 6 = 3 := hn
    rw [c2 0 (by omega), c2 1 (by omega), c2 2 (by omega)]
    exact mx_power hw hR (r 0) (r 1) (r 2) h
  · have ek : k = 7 := by omega
    subst ek
    have hn : zna 7 = 4 := hn
    refine ⟨by omega, ?_⟩
    rw [c2 0 (by omega), c2 1 (by omega), c2 2 (by omega), c2 3 (by omega)]
    exact mx_find hw hR (r 0) (r 1) (r 2) (r 3) h
theorem mx_deeds (hw : zWF A) (hR : zRM A μ) (h : zHn φ μ (st_deeds A)) : zOi g zm_X11_deeds [.ref 203] μ φ := by
  have hp := zWF_p hw
  have hL := zWF_tp hw
  obtain ⟨t1, t2⟩ := hR.2.2.1
  obtain ⟨hl, hO⟩ := zpm_ok hw
  obtain ⟨a00, a01, a10, a11⟩ := zand_x
  unfold st_deeds at h
  have keep0 : ∀ (β ν : zMu) (p : Nat), zTq A β ν p → zDf μ β → zRM (zt0 A) (zup ν 203 31 0) ∧ ∀ (i : Nat), i < 203 → zup ν 203 31 0 i = μ i := fun β ν p T f => by
    have hRν : zRM A ν := zRM_s hR (fun j hj => (T.2.1 j (by unfold zhS at hj; omega)).trans (f.2 j (by unfold zhS at hj; omega))) (fun i hi => (T.1 i (by unfold zhM at hi; omega)).trans (f.1 i (by unfold zhM at hi; omega) (by unfold zhM at hi; omega)))
    exact ⟨zRM_t hRν (fun i i0 i1 => zup_nc i0) (fun j j1 j2 => zup_ne (Or.inr j2)) (fun i i1 i2 => zup_nc (by unfold zhM at i1; omega)) ⟨by unfold zt0; rw [zup_eq, zup_eq], fun k hk => by unfold zt0 at hk; rw [zup_eq] at hk; omega⟩, fun i hi => (zup_nc (by omega)).trans ((T.1 i (by omega)).trans (f.1 i (by omega) (by omega)))⟩
  have bad : ∀ (β ν : zMu) (p : Nat), zTq A β ν p → zDf μ β → p = (zpm A).2.1 → ¬ ((zpm A).1 = true ∧ ((zpm A).2.1 : Int) = A 40 0) → φ (-100 - (zup ν 203 31 0 203 32)) (zup ν 203 31 0) := fun β ν p T f e hn => by
    rw [if_neg hn] at h
    rw [zup_ne (Or.inr (by omega)), T.2.2.1, e]
    exact h _ (keep0 β ν p T f).1 (keep0 β ν p T f).2
  have good : ∀ (β ν : zMu) (p : Nat) (acc : List (Nat × List Int)) (V : Int), zTq A β ν p → zDf μ β → zDm β acc → zpm A = (true, p, acc) → (p : Int) = A 40 0 → V + 1 = acc.length → at_X11_deeds_91 g φ V 0 0 (zup ν 203 31 0) := fun β ν p acc V T f hC e he hV => by
    have hy : (zpm A).1 = true ∧ ((zpm A).2.1 : Int) = A 40 0 := by
      rw [e]
      exact ⟨rfl, he⟩
    rw [if_pos hy] at h
    rw [e] at h hl hO
    dsimp only at h hl hO
    have hC0 : zDm (zup ν 203 31 0) acc := by
      unfold zDm at hC ⊢
      rw [zup_nc (by omega), T.1 226 (by omega)]
      exact hC
    have loop : ∀ f i : Nat, i + f = acc.length → ∀ (n : Int) (B ω : zMu), zWF B → zRM B ω → zDm ω acc → (∀ (x : Nat), x < 203 → ω x = μ x) → zrn (acc.drop i) n B = zrn acc 0 (zt0 A) → at_X11_deeds_91 g φ V n (i : Int) ω := by
      intro f
      induction f with
      | zero =>
        intro i hi n B ω hwB hRB hCB hK e
        rw [List.drop_of_length_le (by omega)] at e
        refine sg_X11_deeds_91 ⟨by omega, by omega, fun _ => ?_, fun hc => absurd hc (by omega)⟩
        rw [← e] at h
        exact h ω hRB hK
      | succ f ih =>
        intro i hi n B ω hwB hRB hCB hK e
        rw [zdrop (by omega)] at e
        refine sg_X11_deeds_91 ⟨by omega, by omega, fun hc => absurd hc (by omega), fun _ => ok_X11_does hwB hRB hCB hO hl (by omega) (fun ω2 hR2 hK2 => ?_)⟩
        have hz : zR (st_do B (acc.getD i (0, []))).1 := zR_do hwB
        have hC2 : zDm ω2 acc := by
          unfold zDm at hCB ⊢
          rw [hK2 226 (by omega)]
          exact hCB
        have k := ih (i + 1) (by omega) _ _ ω2 (wf_do hwB _) hR2 hC2 (fun x hx => (hK2 x (by omega)).trans (hK x hx)) e
        rw [Int.natCast_add] at k
        refine ⟨hz, fun q => ?_, fun q => ?_⟩
        · rw [if_neg (by omega)] at k; exact k
        · rw [if_pos q] at k; exact k
    exact loop acc.length 0 (by omega) 0 (zt0 A) _ (wf_t0 hw) (keep0 β ν p T f).1 hC0 (keep0 β ν p T f).2 rfl
  -- behind a command
  have loop : ∀ f : Nat, ∀ (p : Nat) (acc : List (Nat × List Int)) (β ν : zMu) (V : Int), acc.length + f = 101 → V = acc.length → zTq A β ν p → zDf μ β → zDm β acc → zOkc acc → 2 * acc.length ≤ p → zpg (zch A) f p acc = zpm A → zOi g zm_X11_readsDeed [.ref 203, .int (zJ (5 * V))] ν (fun x14 μ13 => at_X11_deeds_13 g φ V x14 μ13) := by
    intro f
    induction f with
    | zero =>
      intro p acc β ν V hn hV T _ _ _ h2
      have := T.2.2.2.2.2
      omega
    | succ f ih =>
      intro p acc β ν V hn hV T cf hC hO' h2 e
      have hle := T.2.2.2.2.2
      rw [zpg] at e
      refine ok_X11_readsDeed hw (cf.RM hR) T (by rw [hV]) hC (by omega) hO' (fun k l q ez β2 ν2 T2 cf2 hC2 => ?_) (fun q ez β2 ν2 T2 cf2 => ?_)
      · have hz := zcd_ok hle ez
        have hO2 := zOkc_app hO' hz.1 hz.2.1 hz.2.2.1
        have cf3 : zDf μ β2 := ⟨fun i i1 i2 => (cf2.1 i i1 i2).trans (cf.1 i i1 i2), fun j hj => (cf2.2 j hj).trans (cf.2 j hj)⟩
        have hlen : (acc ++ [(k, l)]).length = acc.length + 1 := by rw [List.length_append]; rfl
        rw [ez] at e
        dsimp only at e
        have hb := zch_bd hw q
        have e32 := T2.2.2.1
        have e31 : ν2 203 31 = A 40 0 := (T2.2.1 31 (by omega)).trans T2.2.2.2.1
        have hle2 := T2.2.2.2.2.2
        refine sg_X11_deeds_13 ⟨by omega, fun hc => absurd hc (by omega), fun _ => ok_X11_here hw T2 ⟨by omega, fun hx => ?_, fun hx => ?_⟩⟩
        · rw [if_neg hx] at e
          rw [a10, a11]
          refine ⟨by omega, by omega, fun z => ⟨by omega, fun hc => absurd rfl hc, fun _ => bad β2 ν2 q T2 cf3 (by rw [← e]) (fun z2 => ?_)⟩, fun z => ⟨by omega, fun _ => good β2 ν2 q _ V T2 cf3 hC2 e.symm (by omega) (by omega), fun hc => absurd hc (by omega)⟩⟩
          rw [← e] at z2
          have := z2.2
          dsimp only at this
          omega
        · rw [if_pos hx] at e
          have hlt := zch_lt (A := A) (p := q) (by omega)
          rw [T2.2.2.1]
          exact ih (q + 1) _ β2 _ (V + 1) (by omega) (by omega) (zTq_to (q := q + 1) T2 (by omega)) cf3 hC2 hO2 (by omega) e
      · have cf3 : zDf μ β2 := ⟨fun i i1 i2 => (cf2.1 i i1 i2).trans (cf.1 i i1 i2), fun j hj => (cf2.2 j hj).trans (cf.2 j hj)⟩
        rw [ez] at e
        dsimp only at e
        have e32 := T2.2.2.1
        have e31 : ν2 203 31 = A 40 0 := (T2.2.1 31 (by omega)).trans T2.2.2.2.1
        have hle2 := T2.2.2.2.2.2
        have hn : ¬ ((zpm A).1 = true ∧ ((zpm A).2.1 : Int) = A 40 0) := fun z2 => by
          rw [← e] at z2
          exact absurd z2.1 (by simp)
        refine sg_X11_deeds_13 ⟨by omega, fun _ => ?_, fun hc => absurd rfl hc⟩
        rw [a00, a01]
        exact ⟨by omega, by omega, fun z => ⟨by omega, fun hc => absurd rfl hc, fun _ => bad β2 ν2 q T2 cf3 (by rw [← e]) hn⟩, fun z => ⟨by omega, fun hc => absurd rfl hc, fun _ => bad β2 ν2 q T2 cf3 (by rw [← e]) hn⟩⟩
  refine sg_X11_deeds ?_
  have := loop 101 0 [] μ (zup μ 203 32 0) 0 rfl rfl ⟨fun i hi => zup_nc hi, fun j hj => zup_ne (Or.inr hj), zup_eq, t1, t2, by omega⟩ ⟨fun _ _ _ => rfl, fun _ _ => rfl⟩ (fun c hc => absurd hc (Nat.not_lt_zero _)) (fun c hc => absurd hc (List.not_mem_nil)) (by simp) rfl
  exact this
end DRN
