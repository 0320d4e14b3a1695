/-! TAPE, PAPER AND LISTS: feed, paper, list, put, get, on both sides -/
section BACKS
variable {φ : Int → zMu → Prop} {μ μ' A A' : zMu} {s : Int × zMu} {r r' : Int}
theorem zHc.at (h : zHc φ μ s) (e : s = (r, A')) (hr : r' = r) (hR : zRC A' μ') (hk : zKm μ μ') : φ r' μ' := by
  subst e hr
  exact h μ' hR hk
theorem zHm.at (h : zHm φ μ s) (e : s = (r, A')) (hr : r' = r) (hR : zRM A' μ') (hk : zKc μ μ') : φ r' μ' := by
  subst e hr
  exact h μ' hR hk
theorem zWF_t (h : zWF A) (hA : ∀ (i : Nat), i ≠ 40 → i ≠ 41 → A' i = A i) (ht : (0 ≤ A' 40 0 ∧ A' 40 0 ≤ 100) ∧ ∀ (k : Nat), (k : Int) < A' 40 0 → 1 ≤ A' 41 k ∧ A' 41 k ≤ 127) : zWF A' := by
  obtain ⟨h1, h2, h3, h4, h5⟩ := h
  refine ⟨zWFc_keep (fun i _ _ => hA i (by omega) (by omega)) h1, ?_, ht, by rw [hA 42 (by omega) (by omega), hA 43 (by omega) (by omega)]; exact h4, fun l hl => by rw [hA 44 (by omega) (by omega), hA (45 + l) (by omega) (by omega)]; exact h5 l hl⟩
  rw [hA 60 (by omega) (by omega)]
  exact h2.imp id (fun q => ⟨q.1, zWFc_keep (fun i _ _ => hA i (by omega) (by omega)) q.2⟩)
theorem zWF_pp (h : zWF A) (hA : ∀ (i : Nat), i ≠ 42 → i ≠ 43 → A' i = A i) (ht : (0 ≤ A' 42 0 ∧ A' 42 0 ≤ 648) ∧ ∀ (k : Nat), (k : Int) < A' 42 0 → zR (A' 43 k)) : zWF A' := by
  obtain ⟨h1, h2, h3, h4, h5⟩ := h
  refine ⟨zWFc_keep (fun i _ _ => hA i (by omega) (by omega)) h1, ?_, by rw [hA 40 (by omega) (by omega), hA 41 (by omega) (by omega)]; exact h3, ht, fun l hl => by rw [hA 44 (by omega) (by omega), hA (45 + l) (by omega) (by omega)]; exact h5 l hl⟩
  rw [hA 60 (by omega) (by omega)]
  exact h2.imp id (fun q => ⟨q.1, zWFc_keep (fun i _ _ => hA i (by omega) (by omega)) q.2⟩)
theorem zWF_l (h : zWF A) (hA : ∀ (i : Nat), (i < 44 ∨ 49 ≤ i) → A' i = A i) (ht : ∀ (l : Nat), l < 4 → (-1 ≤ A' 44 l ∧ A' 44 l ≤ 80) ∧ ∀ (k : Nat), k < 80 → zR (A' (45 + l) k)) : zWF A' := by
  obtain ⟨h1, h2, h3, h4, h5⟩ := h
  refine ⟨zWFc_keep (fun i _ _ => hA i (by omega)) h1, ?_, by rw [hA 40 (by omega), hA 41 (by omega)]; exact h3, by rw [hA 42 (by omega), hA 43 (by omega)]; exact h4, ht⟩
  rw [hA 60 (by omega)]
  exact h2.imp id (fun q => ⟨q.1, zWFc_keep (fun i _ _ => hA i (by omega)) q.2⟩)
theorem zWF_n (h : zWF A) (hA : ∀ (i : Nat), 28 ≤ i → A' i = A i) (hn : zWFc A' 0) : zWF A' := by
  obtain ⟨h1, h2, h3, h4, h5⟩ := h
  refine ⟨hn, ?_, by rw [hA 40 (by omega), hA 41 (by omega)]; exact h3, by rw [hA 42 (by omega), hA 43 (by omega)]; exact h4, fun l hl => by rw [hA 44 (by omega), hA (45 + l) (by omega)]; exact h5 l hl⟩
  rw [hA 60 (by omega)]
  exact h2.imp id (fun q => ⟨q.1, zWFc_keep (fun i _ _ => hA i (by omega)) q.2⟩)
theorem zWF_i (h : zWF A) (hA : ∀ (i : Nat), i < 60 → A' i = A i) (hi : A' 60 0 = 0 ∨ (A' 60 0 = 1 ∧ zWFc A' 100)) : zWF A' := by
  obtain ⟨h1, h2, h3, h4, h5⟩ := h
  exact ⟨zWFc_keep (fun i _ _ => hA i (by omega)) h1, hi, by rw [hA 40 (by omega), hA 41 (by omega)]; exact h3, by rw [hA 42 (by omega), hA 43 (by omega)]; exact h4, fun l hl => by rw [hA 44 (by omega), hA (45 + l) (by omega)]; exact h5 l hl⟩
end BACKS
section LISTS
variable {g : zG} {φ : Int → zMu → Prop} {μ A : zMu}
def st_feed (A : zMu) (v : Int) : Int × zMu := if v < 1 ∨ 127 < v then (-2, A) else if 100 ≤ A 40 0 then (-3, A) else (A 40 0 + 1, zup (zup A 41 (A 40 0).toNat v) 40 0 (A 40 0 + 1))
theorem wf_feed (hw : zWF A) (v : Int) : zWF (st_feed A v).2 := by
  unfold st_feed
  have ht := hw.2.2.1
  by_cases h1 : v < 1 ∨ 127 < v
  · rw [if_pos h1]; exact hw
  · rw [if_neg h1]
    by_cases h2 : 100 ≤ A 40 0
    · rw [if_pos h2]; exact hw
    · rw [if_neg h2]
      dsimp only
      refine zWF_t hw (fun i a b => (zup_nc a).trans (zup_nc b)) ?_
      rw [zup_eq, zup_nc (by omega)]
      refine ⟨by omega, fun k hk => ?_⟩
      by_cases hq : k = (A 40 0).toNat
      · rw [hq, zup_eq]; omega
      · rw [zup_ne (Or.inr hq)]; exact ht.2 k (by omega)
theorem cx_feed {v : Int} (hw : zWF A) (hR : zRC A μ) (hv : zR v) (h : zHc φ μ (st_feed A v)) : zOi g zm_X10_feed [.ref 0, .int (zJ v)] μ φ := by
  have ht := hR.2.2.2.1
  unfold zRt at ht
  have hb := hw.2.2.1.1
  refine sg_X10_feed ⟨hv, fun _ => h.at (if_pos (by omega)) rfl hR (zKm.refl μ), fun _ => ⟨fun _ => ⟨by omega, fun _ => sg_X8_append ⟨by omega, ?_⟩, fun _ => h.at ((if_neg (by omega)).trans (if_pos (by omega))) rfl hR (zKm.refl μ)⟩, fun _ => h.at (if_pos (by omega)) rfl hR (zKm.refl μ)⟩⟩
  refine h.at ((if_neg (by omega)).trans (if_neg (by omega))) (by rw [zup_eq, zup_ne (Or.inl (by omega)), ht.1]) (zRC_t hR (fun i a b => (zup_nc a).trans (zup_nc b)) (fun i a b => (zup_nc a).trans (zup_nc b)) ?_) (fun i hi => (zup_nc (by omega)).trans (zup_nc (by omega)))
  unfold zRt
  rw [zup_eq, zup_eq, zup_ne (Or.inl (by omega)), ht.1]
  refine ⟨rfl, fun k hk => ?_⟩
  rw [zup_ne (Or.inl (by omega)), zup_ne (μ := zup A _ _ _) (Or.inl (by omega))]
  by_cases hq : k = (A 40 0).toNat
  · rw [hq, zup_eq, zup_eq]
  · rw [zup_ne (Or.inr hq), zup_ne (Or.inr hq)]; exact ht.2 k (by omega)
theorem mx_feed {v : Int} (hw : zWF A) (hR : zRM A μ) (hv : zR v) (h : zHm φ μ (st_feed A v)) : zOi g zm_X11_feed [.ref 203, .int (zJ v)] μ φ := by
  have ht := hR.2.2.1
  unfold zMt at ht
  have hb := hw.2.2.1.1
  refine sg_X11_feed ⟨hv, ok_X11_in (by omega) (by omega) (by omega) (fun _ => ⟨by omega, fun _ => ⟨by omega, fun _ => ⟨by omega, ?_⟩, fun _ => h.at ((if_neg (by omega)).trans (if_pos (by omega))) rfl hR (zKc.refl μ)⟩, fun hc => absurd hc (by omega)⟩) (fun _ => ⟨by omega, fun hc => absurd rfl hc, fun _ => h.at (if_pos (by omega)) rfl hR (zKc.refl μ)⟩)⟩
  refine h.at ((if_neg (by omega)).trans (if_neg (by omega))) (by rw [zup_eq, zup_ne (Or.inl (by omega)), ht.1]) (zRM_t hR (fun i a b => (zup_nc a).trans (zup_nc b)) (fun j a b => (zup_ne (Or.inr b)).trans (zup_ne (Or.inl (by omega)))) (fun i a b => (zup_nc (by unfold zhM at a; omega)).trans (zup_nc b)) ?_) (fun i hi => (zup_nc (by omega)).trans (zup_nc (by omega)))
  unfold zMt
  rw [zup_eq, zup_eq, zup_ne (Or.inl (by omega)), ht.1]
  refine ⟨rfl, fun k hk => ?_⟩
  rw [zup_ne (Or.inl (by omega)), zup_ne (μ := zup A _ _ _) (Or.inl (by omega))]
  by_cases hq : k = (A 40 0).toNat
  · rw [hq, zup_eq, zup_eq]
  · rw [zup_ne (Or.inr hq), zup_ne (Or.inr hq)]; exact ht.2 k (by omega)
def st_paper (A : zMu) (v : Int) : Int × zMu := if v < 0 ∨ A 42 0 ≤ v then (-1, A) else (A 43 v.toNat, A)
theorem cx_paper {v : Int} (hw : zWF A) (hR : zRC A μ) (hv : zR v) (h : zHc φ μ (st_paper A v)) : zOi g zm_X10_paper [.ref 0, .int (zJ v)] μ φ := by
  have ht := hR.2.2.2.2.1
  unfold zRp at ht
  have hb := hw.2.2.2.1.1
  refine sg_X10_paper ⟨hv, fun _ => h.at (if_pos (by omega)) rfl hR (zKm.refl μ), fun _ => ⟨by omega, fun _ => ⟨by omega, h.at (if_neg (by omega)) (ht.2 _ (by omega)) hR (zKm.refl μ)⟩, fun _ => h.at (if_pos (by omega)) rfl hR (zKm.refl μ)⟩⟩
theorem mx_paper {v : Int} (hw : zWF A) (hR : zRM A μ) (hv : zR v) (h : zHm φ μ (st_paper A v)) : zOi g zm_X11_paper [.ref 203, .int (zJ v)] μ φ := by
  have ht := hR.2.2.2.1
  unfold zMp at ht
  have hb := hw.2.2.2.1.1
  refine sg_X11_paper ⟨hv, by omega, ok_X11_in (by omega) (by omega) (by omega) (fun _ => ⟨by omega, fun hc => absurd hc (by omega), fun _ => ⟨by omega, h.at (if_neg (by omega)) (ht.2 _ (by omega)) hR (zKc.refl μ)⟩⟩) (fun _ => ⟨by omega, fun _ => h.at (if_pos (by omega)) rfl hR (zKc.refl μ), fun hc => absurd rfl hc⟩)⟩
theorem wf_paper (hw : zWF A) (v : Int) : zWF (st_paper A v).2 := by
  unfold st_paper
  split <;> exact hw
def st_list (A : zMu) (l n : Int) : Int × zMu := if ¬ (0 ≤ l ∧ l < 4) then (-1, A) else if 80 < n then (-2, A) else if n < 0 then (-14, A) else (1, zup (zua A (45 + l.toNat) (fun _ => 0)) 44 l.toNat n)
theorem wf_list (hw : zWF A) (l n : Int) : zWF (st_list A l n).2 := by
  unfold st_list
  have ht := hw.2.2.2.2
  by_cases h1 : ¬ (0 ≤ l ∧ l < 4)
  · rw [if_pos h1]; exact hw
  · rw [if_neg h1]
    by_cases h2 : 80 < n
    · rw [if_pos h2]; exact hw
    · rw [if_neg h2]
      by_cases h3 : n < 0
      · rw [if_pos h3]; exact hw
      · rw [if_neg h3]
        dsimp only
        refine zWF_l hw (fun i a => (zup_nc (by omega)).trans (zua_nc (by omega))) (fun q hq => ?_)
        rw [zup_nc (a := 45 + q) (by omega)]
        refine ⟨?_, fun k hk => ?_⟩
        · by_cases hl : q = l.toNat
          · rw [hl, zup_eq]; omega
          · rw [zup_ne (Or.inr hl), zua_ne (by omega)]; exact (ht q hq).1
        · by_cases hl : 45 + q = 45 + l.toNat
          · rw [hl, zua_eq]; omega
          · rw [zua_ne hl]; exact (ht q hq).2 k hk
theorem cx_list {l n : Int} (hR : zRC A μ) (hl : zR l) (hn : zR n) (h : zHc φ μ (st_list A l n)) : zOi g zm_X10_list [.ref 0, .int (zJ l), .int (zJ n)] μ φ := by
  have ht := hR.2.2.2.2.2
  refine sg_X10_list (ok_X10_isList hl (fun h1 => ⟨by omega, fun _ => ⟨hn, fun _ => ⟨fun _ => ⟨by omega, sg_J7_fill (zsl l.toNat (by omega)) ?_⟩, fun _ => h.at ((if_neg (by omega)).trans ((if_neg (by omega)).trans (if_pos (by omega)))) rfl hR (zKm.refl μ)⟩, fun _ => h.at ((if_neg (by omega)).trans (if_pos (by omega))) rfl hR (zKm.refl μ)⟩, fun hc => absurd hc (by omega)⟩) (fun h1 => ⟨by omega, fun hc => absurd rfl hc, fun _ => h.at (if_pos h1) rfl hR (zKm.refl μ)⟩))
  refine h.at ((if_neg (by omega)).trans ((if_neg (by omega)).trans (if_neg (by omega)))) rfl (zRC_l hR (fun i a => (zup_nc (by omega)).trans (zua_nc (by omega))) (fun i a => (zup_nc (by omega)).trans (zua_nc (by omega))) (fun q hq => ?_)) (fun i hi => (zup_nc (by omega)).trans (zua_nc (by omega)))
  obtain ⟨t1, t2⟩ := ht q hq
  refine ⟨?_, fun k hk => ?_⟩
  · by_cases hl : q = l.toNat
    · rw [hl, zup_eq, zup_eq]
    · rw [zup_ne (Or.inr hl), zup_ne (Or.inr hl), zua_ne (by omega), zua_ne (by omega)]; exact t1
  · rw [zup_ne (Or.inl (by omega)), zup_ne (Or.inl (by omega))]
    by_cases hl : q = l.toNat
    · rw [hl, zua_eq, zua_eq, if_pos hk]
    · rw [zua_ne (by omega), zua_ne (by omega)]; exact t2 k hk
theorem mo_list34 {l : Nat} (hl : l < 4) (h : ∀ μ', (∀ (i : Nat), i ≠ 230 → μ' i = μ i) → (∀ (k : Nat), μ' 230 k = if 80 * l ≤ k ∧ k < 80 * l + 80 then 0 else μ 230 k) → φ 1 μ') : at_X11_list_34 g φ (l : Int) 0 μ := by
  have loop : ∀ m t : Nat, t + m = 80 → at_X11_list_34 g φ (l : Int) (t : Int) (zua μ 230 (fun k => if 80 * l ≤ k ∧ k < 80 * l + t then 0 else μ 230 k)) := by
    intro m
    induction m with
    | zero =>
      intro t ht
      have e : t = 80 := by omega
      subst e
      exact sg_X11_list_34 ⟨by omega, fun _ => h _ (fun i hi => zua_nc hi) (fun k => zua_eq), fun hc => absurd hc (by omega)⟩
    | succ m ih =>
      intro t ht
      have k2 := ih (t + 1) (by omega)
      rw [Int.natCast_add] at k2
      refine sg_X11_list_34 ⟨by omega, fun hc => absurd hc (by omega), fun _ => ⟨by omega, ?_⟩⟩
      rw [show Int.toNat (80 * (l : Int) + (t : Int)) = 80 * l + t by omega, zup_zua]
      rw [zua_congr (h := fun k => if 80 * l ≤ k ∧ k < 80 * l + (t + 1) then 0 else μ 230 k) (fun b => by
        by_cases hb : b = 80 * l + t
        · rw [if_pos hb, if_pos (by omega)]
        · rw [if_neg hb]
          by_cases hc : 80 * l ≤ b ∧ b < 80 * l + t
          · rw [if_pos hc, if_pos (by omega)]
          · rw [if_neg hc, if_neg (by omega)])]
      exact k2
  have k0 := loop 80 0 (by omega)
  rw [zua_self (fun b => if_neg (by omega))] at k0
  exact k0
theorem mx_list {l n : Int} (hR : zRM A μ) (hl : zR l) (hn : zR n) (h : zHm φ μ (st_list A l n)) : zOi g zm_X11_list [.ref 203, .int (zJ l), .int (zJ n)] μ φ := by
  have ht := hR.2.2.2.2.1
  refine sg_X11_list (ok_X11_isList hl (fun h1 => ⟨by omega, fun _ => ⟨hn, fun _ => ⟨fun _ => ⟨by omega, ?_⟩, fun _ => h.at ((if_neg (by omega)).trans ((if_neg (by omega)).trans (if_pos (by omega)))) rfl hR (zKc.refl μ)⟩, fun _ => h.at ((if_neg (by omega)).trans (if_pos (by omega))) rfl hR (zKc.refl μ)⟩, fun hc => absurd hc (by omega)⟩) (fun h1 => ⟨by omega, fun hc => absurd rfl hc, fun _ => h.at (if_pos h1) rfl hR (zKc.refl μ)⟩))
  have e : l = ((l.toNat : Nat) : Int) := by omega
  have key : at_X11_list_34 g φ ((l.toNat : Nat) : Int) 0 (zup μ 229 l.toNat n) := by
    refine mo_list34 (by omega) (fun μ' e1 e2 => ?_)
    refine h.at ((if_neg (by omega)).trans ((if_neg (by omega)).trans (if_neg (by omega)))) rfl (zRM_l hR (fun i a => (zup_nc (by omega)).trans (zua_nc (by omega))) (fun j a => by rw [e1 203 (by omega), zup_ne (Or.inl (by omega))]) (fun i a b c => (e1 i c).trans (zup_nc b)) (fun q hq => ?_)) (fun i hi => (e1 i (by omega)).trans (zup_nc (by omega)))
    obtain ⟨t1, t2⟩ := ht q hq
    refine ⟨?_, fun k hk => ?_⟩
    · rw [e1 229 (by omega)]
      by_cases hl : q = l.toNat
      · rw [hl, zup_eq, zup_eq]
      · rw [zup_ne (Or.inr hl), zup_ne (Or.inr hl), zua_ne (by omega)]; exact t1
    · rw [e2, zup_ne (μ := zua A _ _) (Or.inl (by omega))]
      by_cases hl : q = l.toNat
      · rw [hl, zua_eq, if_pos (by omega)]
      · rw [zua_ne (by omega), if_neg (by omega), zup_ne (Or.inl (by omega))]; exact t2 k hk
  rw [← e] at key
  exact key
def st_put (A : zMu) (l i v : Int) : Int × zMu := if ¬ (0 ≤ l ∧ l < 4) then (-1, A) else if A 44 l.toNat < 0 then (-11, A) else if i < 0 ∨ A 44 l.toNat ≤ i then (-13, A) else (1, zup A (45 + l.toNat) i.toNat v)
theorem wf_put (hw : zWF A) {l i v : Int} (hv : zR v) : zWF (st_put A l i v).2 := by
  unfold st_put
  have ht := hw.2.2.2.2
  by_cases h1 : ¬ (0 ≤ l ∧ l < 4)
  · rw [if_pos h1]; exact hw
  · rw [if_neg h1]
    by_cases h2 : A 44 l.toNat < 0
    · rw [if_pos h2]; exact hw
    · rw [if_neg h2]
      by_cases h3 : i < 0 ∨ A 44 l.toNat ≤ i
      · rw [if_pos h3]; exact hw
      · rw [if_neg h3]
        dsimp only
        refine zWF_l hw (fun j a => zup_nc (by omega)) (fun q hq => ⟨by rw [zup_nc (by omega)]; exact (ht q hq).1, fun k hk => ?_⟩)
        by_cases hl : 45 + q = 45 + l.toNat ∧ k = i.toNat
        · rw [hl.1, hl.2, zup_eq]; exact hv
        · rw [zup_ne (by omega)]; exact (ht q hq).2 k hk
theorem cx_put {l i v : Int} (hw : zWF A) (hR : zRC A μ) (hl : zR l) (hi : zR i) (h : zHc φ μ (st_put A l i v)) : zOi g zm_X10_put [.ref 0, .int (zJ l), .int (zJ i), .int (zJ v)] μ φ := by
  have ht := hR.2.2.2.2.2
  refine sg_X10_put (ok_X10_isList hl (fun h1 => ?_) (fun h1 => ⟨by omega, fun hc => absurd rfl hc, fun _ => h.at (if_pos h1) rfl hR (zKm.refl μ)⟩))
  obtain ⟨t1, t2⟩ := ht l.toNat (by omega)
  have hb := (hw.2.2.2.2 l.toNat (by omega)).1
  refine ⟨by omega, fun _ => ⟨h1, by omega, fun _ => ⟨hi, fun _ => h.at ((if_neg (by omega)).trans ((if_neg (by omega)).trans (if_pos (by omega)))) rfl hR (zKm.refl μ), fun _ => ⟨fun _ => ⟨by omega, ?_⟩, fun _ => h.at ((if_neg (by omega)).trans ((if_neg (by omega)).trans (if_pos (by omega)))) rfl hR (zKm.refl μ)⟩⟩, fun _ => h.at ((if_neg (by omega)).trans (if_pos (by omega))) rfl hR (zKm.refl μ)⟩, fun hc => absurd hc (by omega)⟩
  refine h.at ((if_neg (by omega)).trans ((if_neg (by omega)).trans (if_neg (by omega)))) rfl (zRC_l hR (fun i a => zup_nc (by omega)) (fun i a => zup_nc (by omega)) (fun q hq => ?_)) (fun i hi => zup_nc (by omega))
  obtain ⟨t1, t2⟩ := ht q hq
  refine ⟨by rw [zup_ne (Or.inl (by omega)), zup_ne (Or.inl (by omega))]; exact t1, fun k hk => ?_⟩
  by_cases hq2 : q = l.toNat ∧ k = i.toNat
  · rw [hq2.1, hq2.2, zup_eq, zup_eq]
  · rw [zup_ne (by omega), zup_ne (by omega)]; exact t2 k hk
theorem mx_put {l i v : Int} (hw : zWF A) (hR : zRM A μ) (hl : zR l) (hi : zR i) (h : zHm φ μ (st_put A l i v)) : zOi g zm_X11_put [.ref 203, .int (zJ l), .int (zJ i), .int (zJ v)] μ φ := by
  have ht := hR.2.2.2.2.1
  refine sg_X11_put (ok_X11_isList hl (fun h1 => ?_) (fun h1 => ⟨by omega, fun hc => absurd rfl hc, fun _ => h.at (if_pos h1) rfl hR (zKc.refl μ)⟩))
  obtain ⟨t1, t2⟩ := ht l.toNat (by omega)
  have hb := (hw.2.2.2.2 l.toNat (by omega)).1
  refine ⟨by omega, fun _ => ⟨h1, by omega, fun _ => ⟨hi, by omega, ok_X11_in (by omega) (by omega) (by omega) (fun h2 => ⟨by omega, fun _ => ⟨by omega, ?_⟩, fun hc => absurd hc (by omega)⟩) (fun h2 => ⟨by omega, fun hc => absurd rfl hc, fun _ => h.at ((if_neg (by omega)).trans ((if_neg (by omega)).trans (if_pos (by omega)))) rfl hR (zKc.refl μ)⟩)⟩, fun _ => h.at ((if_neg (by omega)).trans (if_pos (by omega))) rfl hR (zKc.refl μ)⟩, fun hc => absurd hc (by omega)⟩
  refine h.at ((if_neg (by omega)).trans ((if_neg (by omega)).trans (if_neg (by omega)))) rfl (zRM_l hR (fun i a => zup_nc (by omega)) (fun j a => zup_ne (Or.inl (by omega))) (fun i a b c => zup_nc c) (fun q hq => ?_)) (fun i hi => zup_nc (by omega))
  obtain ⟨t1, t2⟩ := ht q hq
  refine ⟨by rw [zup_ne (Or.inl (by omega)), zup_ne (Or.inl (by omega))]; exact t1, fun k hk => ?_⟩
  by_cases hq2 : q = l.toNat ∧ k = i.toNat
  · rw [hq2.1, hq2.2, show Int.toNat (80 * l + i) = 80 * l.toNat + i.toNat by omega, zup_eq, zup_eq]
  · rw [zup_ne (by omega), zup_ne (by omega)]; exact t2 k hk
def st_get (A : zMu) (l i : Int) : Int × zMu := if ¬ (0 ≤ l ∧ l < 4) then (-9223372036854775808, A) else if i < 0 ∨ A 44 l.toNat ≤ i then (-9223372036854775808, A) else (A (45 + l.toNat) i.toNat, A)
theorem cx_get {l i : Int} (hw : zWF A) (hR : zRC A μ) (hl : zR l) (hi : zR i) (h : zHc φ μ (st_get A l i)) : zOl g zm_X10_get [.ref 0, .int (zJ l), .int (zJ i)] μ φ := by
  have ht := hR.2.2.2.2.2
  refine sg_X10_get (ok_X10_isList hl (fun h1 => ?_) (fun h1 => ⟨by omega, fun _ => h.at (if_pos h1) rfl hR (zKm.refl μ), fun hc => absurd rfl hc⟩))
  obtain ⟨t1, t2⟩ := ht l.toNat (by omega)
  obtain ⟨hb, hb2⟩ := hw.2.2.2.2 l.toNat (by omega)
  refine ⟨by omega, fun hc => absurd hc (by omega), fun _ => ⟨hi, fun _ => h.at ((if_neg (by omega)).trans (if_pos (by omega))) rfl hR (zKm.refl μ), fun _ => ⟨h1, by omega, fun _ => ⟨by omega, by rw [t2 _ (by omega)]; exact hb2 _ (by omega), h.at ((if_neg (by omega)).trans (if_neg (by omega))) (t2 _ (by omega)) hR (zKm.refl μ)⟩, fun _ => h.at ((if_neg (by omega)).trans (if_pos (by omega))) rfl hR (zKm.refl μ)⟩⟩⟩
theorem mx_get {l i : Int} (hw : zWF A) (hR : zRM A μ) (hl : zR l) (hi : zR i) (h : zHm φ μ (st_get A l i)) : zOl g zm_X11_get [.ref 203, .int (zJ l), .int (zJ i)] μ φ := by
  have ht := hR.2.2.2.2.1
  refine sg_X11_get (ok_X11_isList hl (fun h1 => ?_) (fun h1 => ⟨by omega, fun _ => h.at (if_pos h1) rfl hR (zKc.refl μ), fun hc => absurd rfl hc⟩))
  obtain ⟨t1, t2⟩ := ht l.toNat (by omega)
  obtain ⟨hb, hb2⟩ := hw.2.2.2.2 l.toNat (by omega)
  refine ⟨by omega, fun hc => absurd hc (by omega), fun _ => ⟨hi, h1, by omega, ok_X11_in (by omega) (by omega) (by omega) (fun h2 => ⟨by omega, fun hc => absurd hc (by omega), fun _ => ?_⟩) (fun h2 => ⟨by omega, fun _ => h.at ((if_neg (by omega)).trans (if_pos (by omega))) rfl hR (zKc.refl μ), fun hc => absurd rfl hc⟩)⟩⟩
  have e : Int.toNat (80 * l + i) = 80 * l.toNat + i.toNat := by omega
  rw [e, t2 _ (by omega)]
  exact ⟨by omega, hb2 _ (by omega), h.at ((if_neg (by omega)).trans (if_neg (by omega))) rfl hR (zKc.refl μ)⟩
theorem wf_get (hw : zWF A) (l i : Int) : zWF (st_get A l i).2 := by
  unfold st_get
  split
  · exact hw
  · split <;> exact hw
end LISTS
