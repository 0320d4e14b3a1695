/-! DISTANCES -/
def zegd (A : zMu) (u w : Nat) : Prop := ∃ l, zvn A u = some l ∧ (w : Int) ∈ l
/-- w can be reached from v in at most so many steps -/
def zrb (A : zMu) (v : Nat) : Nat → Nat → Prop
  | 0, w => w = v
  | n + 1, w => zrb A v n w ∨ ∃ u : Nat, (u : Int) < A 0 0 ∧ zrb A v n u ∧ zegd A u w
theorem zrb_mono {A : zMu} {v w n : Nat} (h : zrb A v n w) : ∀ k, zrb A v (n + k) w
  | 0 => h
  | k + 1 => Or.inl (zrb_mono h k)
theorem zrb_le {A : zMu} {v w n m : Nat} (h : zrb A v n w) (hm : n ≤ m) : zrb A v m w := by
  obtain ⟨k, rfl⟩ : ∃ k, m = n + k := ⟨m - n, by omega⟩
  exact zrb_mono h k
noncomputable def zds (A : zMu) (v w : Nat) : Int := @dite Int (∃ n : Nat, zrb A v n w ∧ ∀ m, m < n → ¬ zrb A v m w) (Classical.propDecidable _) (fun h => ((@Classical.choose Nat _ h : Nat) : Int)) (fun _ => -5)
theorem zds_eq {A : zMu} {v w n : Nat} (h : zrb A v n w) (h2 : ∀ m, m < n → ¬ zrb A v m w) : zds A v w = n := by
  have hx : ∃ n : Nat, zrb A v n w ∧ ∀ m, m < n → ¬ zrb A v m w := ⟨n, h, h2⟩
  unfold zds
  rw [dif_pos hx]
  have hc := Classical.choose_spec hx
  generalize Classical.choose hx = c at hc
  rcases Nat.lt_trichotomy c n with q | q | q
  · exact absurd hc.1 (h2 c q)
  · rw [q]
  · exact absurd h (hc.2 n q)
theorem zds_no {A : zMu} {v w : Nat} (h : ∀ n, ¬ zrb A v n w) : zds A v w = -5 := by
  unfold zds
  rw [dif_neg (fun ⟨n, q, _⟩ => h n q)]
noncomputable def rd_far (A : zMu) (v w : Int) : Int := if ¬ (0 ≤ v ∧ v < A 0 0) ∨ ¬ (0 ≤ w ∧ w < A 0 0) then -2 else if A 3 0 = 0 then -11 else zds A v.toNat w.toNat
noncomputable def rd_reach (A : zMu) (v : Int) : Int := if ¬ (0 ≤ v ∧ v < A 0 0) then -2 else if A 3 0 = 0 then -11 else zct (fun w => decide (zds A v.toNat w ≠ -5)) (A 0 0).toNat
theorem zct_flip {P Q : Nat → Bool} {w : Nat} (hw : P w = false) (hQ : ∀ i, Q i = if i = w then true else P i) : ∀ n, zct Q n = zct P n + if w < n then 1 else 0
  | 0 => by rw [if_neg (by omega)]; rfl
  | n + 1 => by
    rw [zct, zct, zct_flip hw hQ n, hQ n]
    by_cases h : n = w
    · subst h
      simp [hw]
    · rw [if_neg h]
      generalize (if P n = true then (1 : Int) else 0) = c
      by_cases h2 : w < n
      · rw [if_pos h2, if_pos (by omega)]; omega
      · rw [if_neg h2, if_neg (by omega)]; omega
theorem zct_mono {P Q : Nat → Bool} : ∀ {n : Nat}, (∀ i, i < n → P i = true → Q i = true) → zct P n ≤ zct Q n
  | 0, _ => Int.le_refl _
  | n + 1, h => by
    have := zct_mono (n := n) (fun i hi => h i (by omega))
    have h2 := h n (by omega)
    rw [zct, zct]
    cases hp : P n with
    | false => rw [if_neg (by simp)]; split <;> omega
    | true => rw [if_pos rfl, if_pos (h2 hp)]; omega
theorem zct_lt {P Q : Nat → Bool} {w : Nat} : ∀ {n : Nat}, w < n → P w = false → Q w = true → (∀ i, i < n → P i = true → Q i = true) → zct P n + 1 ≤ zct Q n
  | 0, h, _, _, _ => by omega
  | n + 1, h, h1, h2, h3 => by
    rw [zct, zct]
    by_cases e : w = n
    · subst e
      have := zct_mono (n := w) (P := P) (Q := Q) (fun i hi => h3 i (by omega))
      rw [h1, h2, if_neg (by simp), if_pos rfl]; omega
    · have := zct_lt (n := n) (by omega) h1 h2 (fun i hi => h3 i (by omega))
      have h4 := h3 n (by omega)
      cases hp : P n with
      | false => rw [if_neg (by simp)]; split <;> omega
      | true => rw [if_pos rfl, if_pos (h4 hp)]; omega
/-- the walk: i values are through, c are known; D the distances, Q the queue -/
def zWk (A : zMu) (v i c : Nat) (D : Nat → Int) (Q : Nat → Nat) : Prop :=
  i ≤ c ∧ (c : Int) = zct (fun w => decide (0 ≤ D w)) (A 0 0).toNat ∧
  (∀ (w : Nat), (w : Int) < A 0 0 → D w = -1 ∨ (0 ≤ D w ∧ D w < c ∧ zrb A v (D w).toNat w)) ∧
  (∀ j, j < c → (Q j : Int) < A 0 0 ∧ 0 ≤ D (Q j)) ∧ (∀ (w : Nat), (w : Int) < A 0 0 → 0 ≤ D w → ∃ j, j < c ∧ Q j = w) ∧
  (∀ j k, j ≤ k → k < c → D (Q j) ≤ D (Q k)) ∧ (i < c → ∀ j, j < c → D (Q j) ≤ D (Q i) + 1) ∧
  (∀ j, j < i → ∀ (w : Nat), zegd A (Q j) w → 0 ≤ D w ∧ D w ≤ D (Q j) + 1) ∧ D v = 0
theorem zegd_lt {A : zMu} {u w : Nat} (h : zegd A u w) : (w : Int) < A 0 0 := by
  obtain ⟨l, h1, h2⟩ := h
  exact (znbs_mem h1 h2).2
theorem zWk_c {A : zMu} {v i c : Nat} {D : Nat → Int} {Q : Nat → Nat} (h : zWk A v i c D Q) : c ≤ (A 0 0).toNat := by
  have := (zct_bd (P := fun w => decide (0 ≤ D w)) (n := (A 0 0).toNat)).2
  have := h.2.1
  omega
theorem zWk_new {A : zMu} {v i c u w : Nat} {D D' : Nat → Int} {Q Q' : Nat → Nat} (h : zWk A v i c D Q) (hi : i < c) (hu : Q i = u) (he : zegd A u w) (hneg : D w < 0) (hD : ∀ x, D' x = if x = w then D u + 1 else D x) (hQ : ∀ x, Q' x = if x = c then w else Q x) : zWk A v i (c + 1) D' Q' ∧ c + 1 ≤ (A 0 0).toNat ∧ Q' i = u ∧ D' u = D u := by
  obtain ⟨a1, a2, a3, a4, a5, a6, a7, a8, a9⟩ := h
  have hwP := zegd_lt he
  have hqw : ∀ j, j < c → Q j ≠ w := fun j hj e => by
    have := (a4 j hj).2
    rw [e] at this; omega
  have hDq : ∀ j, j < c → D' (Q j) = D (Q j) := fun j hj => by rw [hD, if_neg (hqw j hj)]
  have hQo : ∀ j, j < c → Q' j = Q j := fun j hj => by rw [hQ, if_neg (by omega)]
  have hQc : Q' c = w := by rw [hQ, if_pos rfl]
  have hDw : D' w = D u + 1 := by rw [hD, if_pos rfl]
  have hDu : D' u = D u := by rw [← hu]; exact hDq i hi
  have hu0 := a4 i hi
  rw [hu] at hu0
  have hfl := zct_flip (P := fun x => decide (0 ≤ D x)) (Q := fun x => decide (0 ≤ D' x)) (w := w) (by simp; omega) (fun x => by
    rw [hD]
    by_cases e : x = w
    · rw [if_pos e, if_pos e, decide_eq_true_eq]; omega
    · rw [if_neg e, if_neg e]) (A 0 0).toNat
  rw [if_pos (by omega), ← a2] at hfl
  have hwk : zWk A v i (c + 1) D' Q' := by
    refine ⟨by omega, by rw [hfl]; omega, fun x hx => ?_, fun j hj => ?_, fun x hx h0 => ?_, fun j k hjk hk => ?_, fun _ j hj => ?_, fun j hj x hx => ?_, ?_⟩
    · by_cases e : x = w
      · rw [e, hDw]
        have hb := a3 u hu0.1
        refine Or.inr ⟨by omega, by omega, ?_⟩
        rw [show (D u + 1).toNat = (D u).toNat + 1 by omega]
        rcases hb with hb | hb
        · omega
        · exact Or.inr ⟨u, hu0.1, hb.2.2, he⟩
      · rw [hD, if_neg e]
        have := a3 x hx
        exact this.imp id (fun q => ⟨q.1, by omega, q.2.2⟩)
    · by_cases e : j = c
      · rw [e, hQc, hDw]; exact ⟨hwP, by omega⟩
      · rw [hQo j (by omega), hDq j (by omega)]; exact a4 j (by omega)
    · by_cases e : x = w
      · exact ⟨c, by omega, by rw [hQc, e]⟩
      · rw [hD, if_neg e] at h0
        obtain ⟨j, hj, hq⟩ := a5 x hx h0
        exact ⟨j, by omega, by rw [hQo j hj, hq]⟩
    · by_cases e : k = c
      · subst e
        by_cases e2 : j = k
        · rw [e2]; exact Int.le_refl _
        · rw [hQc, hDw, hQo j (by omega), hDq j (by omega)]
          have := a7 hi j (by omega)
          rw [hu] at this; exact this
      · rw [hQo j (by omega), hDq j (by omega), hQo k (by omega), hDq k (by omega)]; exact a6 j k hjk (by omega)
    · rw [hQo i hi, hDq i hi]
      by_cases e : j = c
      · rw [e, hQc, hDw, hu]; exact Int.le_refl _
      · rw [hQo j (by omega), hDq j (by omega)]; exact a7 hi j (by omega)
    · rw [hQo j (by omega), hDq j (by omega)]
      rw [hQo j (by omega)] at hx
      have := a8 j hj x hx
      rw [hD, if_neg (fun e => by rw [e] at this; omega)]
      exact this
    · rw [hD, if_neg (fun e => by rw [e] at a9; omega)]; exact a9
  exact ⟨hwk, zWk_c hwk, by rw [hQo i hi, hu], hDu⟩
theorem zWk_next {A : zMu} {v i c : Nat} {D : Nat → Int} {Q : Nat → Nat} (h : zWk A v i c D Q) (hi : i < c) (he : ∀ (w : Nat), zegd A (Q i) w → 0 ≤ D w ∧ D w ≤ D (Q i) + 1) : zWk A v (i + 1) c D Q := by
  obtain ⟨a1, a2, a3, a4, a5, a6, a7, a8, a9⟩ := h
  refine ⟨by omega, a2, a3, a4, a5, a6, fun h1 j hj => ?_, fun j hj => ?_, a9⟩
  · have := a7 hi j hj
    have := a6 i (i + 1) (by omega) h1
    omega
  · by_cases e : j = i
    · rw [e]; exact he
    · exact a8 j (by omega)
theorem zWk_end {A : zMu} {v i c : Nat} {D : Nat → Int} {Q : Nat → Nat} (h : zWk A v i c D Q) (hi : c ≤ i) {w : Nat} (hw : (w : Int) < A 0 0) : (0 ≤ D w ∧ D w < c ∧ zds A v w = D w) ∨ (D w = -1 ∧ zds A v w = -5) := by
  obtain ⟨a1, a2, a3, a4, a5, a6, a7, a8, a9⟩ := h
  have key : ∀ n, ∀ x : Nat, (x : Int) < A 0 0 → zrb A v n x → 0 ≤ D x ∧ D x ≤ n := by
    intro n
    induction n with
    | zero =>
      intro x _ hx
      have e : x = v := hx
      rw [e, a9]
      exact ⟨Int.le_refl _, Int.le_refl _⟩
    | succ n ih =>
      intro x hx h
      rcases h with h | ⟨u, hu, h1, h2⟩
      · have := ih x hx h
        omega
      · have hu2 := ih u hu h1
        obtain ⟨j, hj, hq⟩ := a5 u hu hu2.1
        have := a8 j (by omega) x (by rw [hq]; exact h2)
        rw [hq] at this
        omega
  rcases a3 w hw with e | ⟨e1, e2, e3⟩
  · refine Or.inr ⟨e, zds_no (fun n hn => ?_)⟩
    have := key n w hw hn
    omega
  · refine Or.inl ⟨e1, e2, ?_⟩
    rw [zds_eq e3 (fun m hm hr => by
      have := key m w hw hr
      omega)]
    omega
section WKC
variable {g : zG} {μ A : zMu} {φ : Int → zMu → Prop}
theorem wk63 {v i u : Nat} {l : List Int} (hw : zWF A) (hu : zvn A u = some l) (huP : (u : Int) < A 0 0) (K : ∀ (ν : zMu) (c : Nat) (Q : Nat → Nat), zRC A ν → zKm μ ν → zWk A v (i + 1) c (ν 186) Q → (∀ j, j < c → ν 187 j = (Q j : Int)) → at_X2_walkFrom_27 g φ 1 (c : Int) ((i : Int) + 1) ν) : ∀ m t : Nat, t + m = l.length → ∀ (c : Nat) (Q : Nat → Nat) (ν : zMu), zRC A ν → zKm μ ν → (∀ k, k < l.length → ν 184 (8 * u + k) = l.getD k 0) → i < c → Q i = u → zWk A v i c (ν 186) Q → (∀ j, j < c → ν 187 j = (Q j : Int)) → (∀ j, j < t → 0 ≤ ν 186 (l.getD j 0).toNat ∧ ν 186 (l.getD j 0).toNat ≤ ν 186 u + 1) → at_X2_walkFrom_63 g φ 1 (c : Int) (i : Int) (u : Int) (l.length : Int) (t : Int) ν := by
  have hp := zWF_p hw
  have hd := zWF_d hw
  have hl := znbs_len hu
  intro m
  induction m with
  | zero =>
    intro t ht c Q ν hR hK h184 hi hQi hWk hQ hdone
    refine sg_X2_walkFrom_63 zc_1 ⟨by omega, by omega, fun _ => ?_, fun hc => absurd hc (by omega)⟩
    refine K ν c Q hR hK (zWk_next hWk hi (fun w he => ?_)) hQ
    obtain ⟨l2, h1, h2⟩ := he
    rw [hQi, hu] at h1
    rw [← Option.some.inj h1] at h2
    obtain ⟨j, hj, e⟩ := zmem_getD.1 h2
    have := hdone j (by omega)
    rw [e, Int.toNat_natCast] at this
    rw [hQi]; exact this
  | succ m ih =>
    intro t ht c Q ν hR hK h184 hi hQi hWk hQ hdone
    refine sg_X2_walkFrom_63 zc_1 ⟨by omega, by omega, fun hc => absurd hc (by omega), fun _ => sg_X2_neighbourOf ⟨by omega, ?_⟩⟩
    rw [show Int.toNat (8 * (u : Int) + (t : Int)) = 8 * u + t by omega, h184 t (by omega)]
    have hm : l.getD t 0 ∈ l := zmem_getD.2 ⟨t, by omega, rfl⟩
    have hmb := znbs_mem hu hm
    obtain ⟨w, hwe⟩ : ∃ w : Nat, l.getD t 0 = w := ⟨(l.getD t 0).toNat, by omega⟩
    rw [hwe] at hmb hm ⊢
    rw [Int.toNat_natCast]
    have hcP := zWk_c hWk
    have hed : zegd A u w := ⟨l, hu, hm⟩
    have h3 := hWk.2.2.1 w hmb.2
    refine ⟨by omega, by omega, fun q => ?_, fun q => ⟨by omega, ?_⟩⟩
    · have := ih (t + 1) (by omega) c Q ν hR hK h184 hi hQi hWk hQ (fun j hj => by
        by_cases e : j = t
        · rw [e, hwe, Int.toNat_natCast]
          obtain ⟨k, hk, ek⟩ := hWk.2.2.2.2.1 w hmb.2 q
          have := hWk.2.2.2.2.2.2.1 hi k hk
          rw [ek, hQi] at this
          exact ⟨q, this⟩
        · exact hdone j (by omega))
      rw [Int.natCast_add] at this
      exact this
    · obtain ⟨n1, n2, n3, n4⟩ := zWk_new (w := w) (D' := zup (zup ν 186 w (ν 186 u + 1)) 187 c (w : Int) 186) (Q' := fun x => if x = c then w else Q x) hWk hi hQi hed q (fun x => by
        rw [zup_ne (Or.inl (by omega))]
        by_cases e : x = w
        · rw [e, zup_eq, if_pos rfl]
        · rw [zup_ne (Or.inr e), if_neg e]) (fun x => rfl)
      refine ⟨by omega, ?_⟩
      rw [Int.toNat_natCast, Int.toNat_natCast]
      have fo : ∀ (x : Nat), x ≠ 186 → x ≠ 187 → zup (zup ν 186 w (ν 186 u + 1)) 187 c (w : Int) x = ν x := fun x h1 h2 => (zup_nc h2).trans (zup_nc h1)
      have := ih (t + 1) (by omega) (c + 1) (fun x => if x = c then w else Q x) (zup (zup ν 186 w (ν 186 u + 1)) 187 c (w : Int)) (zRC_s hR (fun x hx j _ => by rw [fo x (by omega) (by omega)])) (hK.trans (fun x hx => fo x (by omega) (by omega))) (fun k hk => by rw [fo 184 (by omega) (by omega)]; exact h184 k hk) (by omega) n3 n1 (fun j hj => by
        by_cases e : j = c
        · rw [e, zup_eq, if_pos rfl]
        · rw [zup_ne (Or.inr e), zup_ne (Or.inl (by omega)), if_neg e]
          exact hQ j (by omega)) (fun j hj => by
        rw [n4]
        by_cases e : j = t
        · rw [e, hwe, Int.toNat_natCast, zup_ne (Or.inl (by omega)), zup_eq]
          have := (hWk.2.2.2.1 i hi).2
          rw [hQi] at this
          exact ⟨by omega, Int.le_refl _⟩
        · have := hdone j (by omega)
          have hne : (l.getD j 0).toNat ≠ w := fun e2 => by rw [e2] at this; omega
          rw [zup_ne (Or.inl (by omega)), zup_ne (Or.inr hne)]
          exact this)
      rw [Int.natCast_add, Int.natCast_add] at this
      exact this
theorem wk27 {v : Nat} (hw : zWF A) (h0 : A 3 0 ≠ 0) (h : ∀ μ', zRC A μ' → zKm μ μ' → (∀ (w : Nat), (w : Int) < A 0 0 → (0 ≤ μ' 186 w ∧ μ' 186 w < 200 ∧ zds A v w = μ' 186 w) ∨ (μ' 186 w = -1 ∧ zds A v w = -5)) → φ (zct (fun w => decide (zds A v w ≠ -5)) (A 0 0).toNat) μ') : ∀ m i : Nat, i + m = (A 0 0).toNat → ∀ (ν : zMu) (c : Nat) (Q : Nat → Nat), zRC A ν → zKm μ ν → zWk A v i c (ν 186) Q → (∀ j, j < c → ν 187 j = (Q j : Int)) → at_X2_walkFrom_27 g φ 1 (c : Int) (i : Int) ν := by
  have hp := zWF_p hw
  have hd := zWF_d hw
  have fin : ∀ (ν : zMu) (i c : Nat) (Q : Nat → Nat), c ≤ i → zRC A ν → zKm μ ν → zWk A v i c (ν 186) Q → φ (c : Int) ν := fun ν i c Q hci hR hK hWk => by
    have hcP := zWk_c hWk
    have := h ν hR hK (fun w hw => by
      rcases zWk_end hWk hci hw with q | q
      · exact Or.inl ⟨q.1, by omega, q.2.2⟩
      · exact Or.inr q)
    rw [hWk.2.1, zct_congr (Q := fun w => decide (zds A v w ≠ -5)) (fun w hw => by
      rcases zWk_end hWk hci (w := w) (by omega) with q | q
      · rw [decide_eq_decide.2]
        omega
      · rw [decide_eq_decide.2]
        omega)]
    exact this
  intro m
  induction m with
  | zero =>
    intro i hi ν c Q hR hK hWk hQ
    have e0 := zRC_p0 hR
    have hcP := zWk_c hWk
    have hic := hWk.1
    refine sg_X2_walkFrom_27 zc_1 ⟨by omega, by omega, fun _ => fin ν i c Q (by omega) hR hK hWk, fun q => ⟨by omega, fun _ => fin ν i c Q (by omega) hR hK hWk, fun hc => absurd hc (by omega)⟩⟩
  | succ m ih =>
    intro i hi ν c Q hR hK hWk hQ
    have e0 := zRC_p0 hR
    have hcP := zWk_c hWk
    refine sg_X2_walkFrom_27 zc_1 ⟨by omega, by omega, fun _ => fin ν i c Q (by omega) hR hK hWk, fun q => ⟨by omega, fun hc => absurd hc (by omega), fun _ => ⟨by omega, ?_⟩⟩⟩
    rw [Int.toNat_natCast, hQ i (by omega)]
    have hq := hWk.2.2.2.1 i (by omega)
    refine ok_X2_sizeOf hw hR h0 hq.1 (fun ν2 hR2 f2 k2 => ?_)
    have e186 : ν2 186 = ν 186 := f2 186 (by omega) (by omega) (by omega)
    have hK2 : zKm μ ν2 := hK.trans (fun x hx => f2 x (by omega) (by omega) (by omega))
    have hWk2 : zWk A v i c (ν2 186) Q := by rw [e186]; exact hWk
    have hQ2 : ∀ j, j < c → ν2 187 j = (Q j : Int) := fun j hj => by rw [f2 187 (by omega) (by omega) (by omega)]; exact hQ j hj
    have K : ∀ (ν : zMu) (c : Nat) (Q : Nat → Nat), zRC A ν → zKm μ ν → zWk A v (i + 1) c (ν 186) Q → (∀ j, j < c → ν 187 j = (Q j : Int)) → at_X2_walkFrom_27 g φ 1 (c : Int) ((i : Int) + 1) ν := fun ν c Q a1 a2 a3 a4 => by
      have := ih (i + 1) (by omega) ν c Q a1 a2 a3 a4
      rw [Int.natCast_add] at this
      exact this
    unfold zkn at k2
    unfold zsz zvn
    cases hz : znbs (A 0 0) (A 3 0).toNat (A 4) (Q i : Int) with
    | none =>
      dsimp only
      refine sg_X2_walkFrom_63 zc_1 ⟨by omega, by omega, fun _ => ?_, fun hc => absurd hc (by omega)⟩
      refine K ν2 c Q hR2 hK2 (zWk_next hWk2 (by omega) (fun w he => ?_)) hQ2
      obtain ⟨l2, h1, _⟩ := he
      unfold zvn at h1
      rw [hz] at h1
      exact absurd h1 (by simp)
    | some l =>
      rw [hz] at k2
      dsimp only at k2 ⊢
      exact wk63 hw hz hq.1 K l.length 0 (by omega) c Q ν2 hR2 hK2 k2.2 (by omega) rfl hWk2 hQ2 (fun j hj => absurd hj (by omega))
theorem ok_X2_walkFrom {v : Nat} (hw : zWF A) (hR : zRC A μ) (h0 : A 3 0 ≠ 0) (hv : (v : Int) < A 0 0) (h : ∀ μ', zRC A μ' → zKm μ μ' → (∀ (w : Nat), (w : Int) < A 0 0 → (0 ≤ μ' 186 w ∧ μ' 186 w < 200 ∧ zds A v w = μ' 186 w) ∨ (μ' 186 w = -1 ∧ zds A v w = -5)) → φ (zct (fun w => decide (zds A v w ≠ -5)) (A 0 0).toNat) μ') : zOi g zm_X2_walkFrom [.ref 182, .ref 1, .int (zJ (v : Int))] μ φ := by
  have hp := zWF_p hw
  refine sg_X2_walkFrom zc_1 (sg_J7_fill zc_186 ⟨by omega, ?_⟩)
  rw [Int.toNat_natCast]
  have fo : ∀ (x : Nat), x ≠ 186 → x ≠ 187 → zup (zup (zua μ 186 (fun b => if b < 199 then -1 else μ 186 b)) 186 v 0) 187 0 (v : Int) x = μ x := fun x h1 h2 => (zup_nc h2).trans ((zup_nc h1).trans (zua_nc h1))
  have hD : ∀ x : Nat, x < 199 → zup (zup (zua μ 186 (fun b => if b < 199 then -1 else μ 186 b)) 186 v 0) 187 0 (v : Int) 186 x = if x = v then 0 else -1 := fun x hx => by
    rw [zup_ne (Or.inl (by omega))]
    by_cases e : x = v
    · rw [e, zup_eq, if_pos rfl]
    · rw [zup_ne (Or.inr e), zua_eq, if_pos hx, if_neg e]
  have hct := zct_flip (P := fun _ => false) (Q := fun x => decide (x = v)) (w := v) rfl (fun x => by
    by_cases e : x = v
    · rw [if_pos e]; exact decide_eq_true e
    · rw [if_neg e]; exact decide_eq_false e) (A 0 0).toNat
  have hz0 : ∀ n, zct (fun _ => false) n = 0 := by
    intro n
    induction n with
    | zero => rfl
    | succ n ih => rw [zct, ih]; rfl
  rw [if_pos (by omega), hz0] at hct
  refine wk27 hw h0 h (A 0 0).toNat 0 (by omega) _ 1 (fun _ => v) (zRC_s hR (fun x hx j _ => by rw [fo x (by omega) (by omega)])) (fun x hx => fo x (by omega) (by omega)) ⟨by omega, ?_, fun w hw2 => ?_, fun j hj => ?_, fun w hw2 h2 => ⟨0, by omega, ?_⟩, fun _ _ _ _ => Int.le_refl _, fun _ _ _ => Int.le_add_one (Int.le_refl _), fun j hj => absurd hj (by omega), ?_⟩ (fun j hj => ?_)
  · rw [zct_congr (Q := fun x => decide (x = v)) (fun x hx => by
      rw [hD x (by omega)]
      by_cases e : x = v
      · rw [if_pos e, decide_eq_true e]; rfl
      · rw [if_neg e, decide_eq_false e]; rfl), hct]
    rfl
  · rw [hD w (by omega)]
    by_cases e : w = v
    · rw [if_pos e]
      exact Or.inr ⟨by omega, by omega, e⟩
    · rw [if_neg e]; exact Or.inl rfl
  · refine ⟨hv, ?_⟩
    rw [hD v (by omega), if_pos rfl]; omega
  · rw [hD w (by omega)] at h2
    by_cases e : w = v
    · exact e.symm
    · rw [if_neg e] at h2; omega
  · rw [hD v (by omega), if_pos rfl]
  · rw [show j = 0 by omega, zup_eq]
theorem cx_far {v w : Int} (hw : zWF A) (hR : zRC A μ) (hv : zR v) (hw2 : zR w) (h : zHc φ μ (rd_far A v w, A)) : zOi g zm_X10_far [.ref 0, .int (zJ v), .int (zJ w)] μ φ := by
  have hp := zWF_p hw
  have hd := zWF_d hw
  have e0 := zRC_p0 hR
  obtain ⟨t1, t2⟩ := zRC_eq hR
  have h1 : ¬ (0 ≤ v ∧ v < A 0 0) ∨ ¬ (0 ≤ w ∧ w < A 0 0) → φ (-2) μ := fun q => h.rd (if_pos q) hR (zKm.refl μ)
  refine sg_X10_far (ok_X10_isValue hv (by omega) (fun qv => ⟨by omega, fun hc => absurd hc (by omega), fun _ => ok_X10_isValue hw2 (by omega) (fun qw => ⟨by omega, fun _ => ?_, fun hc => absurd hc (by omega)⟩) (fun q => ⟨by omega, fun hc => absurd rfl hc, fun _ => h1 (by omega)⟩)⟩) (fun q => ⟨by omega, fun _ => h1 (by omega), fun hc => absurd rfl hc⟩))
  unfold rd_far at h
  rw [if_neg (by omega)] at h
  refine ok_X3_isMissing zc_3 (by omega) (fun m => ⟨by omega, fun _ => ?_, fun hc => absurd rfl hc⟩) (fun m => ⟨by omega, fun hc => absurd hc (by omega), fun _ => h.rd (if_pos (by omega)) hR (zKm.refl μ)⟩)
  rw [if_neg (by omega)] at h
  obtain ⟨v, rfl⟩ : ∃ q : Nat, v = q := ⟨v.toNat, by omega⟩
  obtain ⟨w, rfl⟩ : ∃ q : Nat, w = q := ⟨w.toNat, by omega⟩
  rw [Int.toNat_natCast, Int.toNat_natCast] at h
  refine ok_X2_walkFrom hw hR (by omega) (by omega) (fun μ' hR1 hK1 hz => sg_X2_distanceTo ⟨by omega, ?_⟩)
  rw [Int.toNat_natCast]
  rcases hz w (by omega) with ⟨z1, z2, z3⟩ | ⟨z1, z2⟩
  · exact ⟨by omega, fun _ => h.rd z3 hR1 hK1, fun hc => absurd hc (by omega)⟩
  · exact ⟨by omega, fun hc => absurd hc (by omega), fun _ => h.rd z2 hR1 hK1⟩
theorem cx_reach {v : Int} (hw : zWF A) (hR : zRC A μ) (hv : zR v) (h : zHc φ μ (rd_reach A v, A)) : zOi g zm_X10_reach [.ref 0, .int (zJ v)] μ φ := by
  have hp := zWF_p hw
  have hd := zWF_d hw
  have e0 := zRC_p0 hR
  obtain ⟨t1, t2⟩ := zRC_eq hR
  refine sg_X10_reach (ok_X10_isValue hv (by omega) (fun qv => ⟨by omega, fun _ => ?_, fun hc => absurd hc (by omega)⟩) (fun q => ⟨by omega, fun hc => absurd rfl hc, fun _ => h.rd (if_pos (by omega)) hR (zKm.refl μ)⟩))
  unfold rd_reach at h
  rw [if_neg (by omega)] at h
  refine ok_X3_isMissing zc_3 (by omega) (fun m => ⟨by omega, fun _ => ?_, fun hc => absurd rfl hc⟩) (fun m => ⟨by omega, fun hc => absurd hc (by omega), fun _ => h.rd (if_pos (by omega)) hR (zKm.refl μ)⟩)
  rw [if_neg (by omega)] at h
  obtain ⟨v, rfl⟩ : ∃ q : Nat, v = q := ⟨v.toNat, by omega⟩
  rw [Int.toNat_natCast] at h
  exact ok_X2_walkFrom hw hR (by omega) (by omega) (fun μ' hR1 hK1 hz => h.rd rfl hR1 hK1)
end WKC
