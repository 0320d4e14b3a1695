/-! J: the model -/
section JM
variable {g : zG} {φ : Int → zMu → Prop} {μ A : zMu} {p : Int}
theorem ok_X11_wholeL {v : Int} (hm : μ 203 0 = p) (hp : 0 < p ∧ p ≤ 199) (hv : zR64 v) (h : φ (v % p) μ) : zOi g zm_X11_whole [.ref 203, .long (zL v)] μ φ := by
  refine sg_X11_whole ?_
  rw [hm, zwh (by omega)]
  have hb : -199 < v.tmod p ∧ v.tmod p < 199 := by
    by_cases hc : v < 0
    · have := ztm_neg (x := v) (p := p) (by omega) hc; omega
    · have := zemod_lt (x := v) (p := p) (by omega)
      rw [ztm (by omega)]; omega
  exact ⟨by omega, hv, by omega, by omega, by omega, h⟩
theorem zei_bd (hp : 0 < p) (n : Nat) : zmodp p n (fun k => zei k % p) := fun k _ => zemod_lt hp
theorem mo_j38 {v1 v2 : Int} {ν : zMu} (hm : ν 203 0 = p) (hp : 2 ≤ p ∧ p ≤ 199) {k : Nat} (hk : k < 80) (h : ∀ μ', (∀ (i : Nat), i ≠ 210 → i ≠ 211 → μ' i = ν i) → (∀ (j : Nat), μ' 210 j = if j = k then zei k % p else ν 210 j) → (∀ (j : Nat), μ' 211 j = if j = k then zei k % p else ν 211 j) → at_X11_j_26 g φ v1 v2 ((k : Int) + 1) μ') : at_X11_j_38 g φ v1 v2 (k : Int) 0 1 ν := by
  have fin : ∀ v, v = zei k % p → ∀ w, w = v → at_X11_j_26 g φ v1 v2 ((k : Int) + 1) (zup (zup ν 210 (k : Int).toNat v) 211 (k : Int).toNat w) := fun v hv w hw => by
    rw [Int.toNat_natCast]
    refine h _ (fun i h1 h2 => (zup_nc h2).trans (zup_nc h1)) (fun j => ?_) (fun j => ?_)
    · rw [zup_ne (Or.inl (by omega))]
      by_cases hj : j = k
      · rw [if_pos hj, hj, zup_eq, hv]
      · rw [if_neg hj, zup_ne (Or.inr hj)]
    · by_cases hj : j = k
      · rw [if_pos hj, hj, zup_eq, hw, hv]
      · rw [if_neg hj, zup_ne (Or.inr hj), zup_ne (Or.inl (by omega))]
  have loop : ∀ f d : Nat, d + f = k → at_X11_j_38 g φ v1 v2 (k : Int) (zsm (zdc k) d) ((d : Int) + 1) ν := by
    intro f
    induction f with
    | zero =>
      intro d hd
      have e : d = k := by omega
      subst e
      have hb := zsm_bound (F := zdc d) (B := 512000) (n := d) (fun i hi => zdc_bd (by omega))
      refine sg_X11_j_38 ⟨by omega, by omega, fun _ => ⟨fun h0 => ok_X11_wholeL hm (by omega) (by omega) ?_, fun h0 => ⟨by omega, ?_⟩⟩, fun hc => absurd hc (by omega)⟩
      · have hl := zemod_lt (x := zsm (zdc d) d) (p := p) (by omega)
        refine ⟨by omega, ok_X11_wholeL hm (by omega) (by omega) ⟨by omega, fin _ ?_ _ ?_⟩⟩
        · rw [zmm2, zei, if_neg (by omega)]
        · rw [Int.toNat_natCast, zup_eq]
      · refine fin _ ?_ _ ?_
        · rw [zei, if_pos (by omega), zmod1 hp.1]
        · rw [Int.toNat_natCast, zup_eq]
    | succ f ih =>
      intro d hd
      have k2 := ih (d + 1) (by omega)
      rw [Int.natCast_add, zsm] at k2
      have em : (k : Int).tmod ((d : Int) + 1) = ((k % (d + 1) : Nat) : Int) := by rw [ztm (by omega), Int.natCast_emod, Int.natCast_add]; rfl
      have hz : (k % (d + 1) = 0 → zdc k d = ((d : Int) + 1) * (d + 1) * (d + 1)) ∧ (k % (d + 1) ≠ 0 → zdc k d = 0) := ⟨fun z => if_pos z, fun z => if_neg z⟩
      have hl := Nat.mod_lt k (show 0 < d + 1 by omega)
      refine sg_X11_j_38 ⟨by omega, by omega, fun hc => absurd hc (by omega), fun _ => ?_⟩
      rw [em]
      generalize k % (d + 1) = r at hz hl
      refine ⟨by omega, by omega, fun hc => ?_, fun hc => ?_⟩
      · rw [hz.2 (by omega)] at k2; exact k2
      · rw [hz.1 (by omega)] at k2; exact k2
  exact loop k 0 (by omega)
theorem mo_j26 {v1 v2 : Int} (hm : μ 203 0 = p) (hp : 2 ≤ p ∧ p ≤ 199) (h : ∀ μ', (∀ (i : Nat), i ≠ 210 → i ≠ 211 → μ' i = μ i) → (∀ (k : Nat), k < 80 → μ' 210 k = zei k % p ∧ μ' 211 k = zei k % p) → at_X11_j_126 g φ v1 v2 0 μ') : at_X11_j_26 g φ v1 v2 0 μ := by
  have loop : ∀ m t : Nat, t + m = 80 → ∀ ν, (∀ (i : Nat), i ≠ 210 → i ≠ 211 → ν i = μ i) → (∀ (k : Nat), k < t → ν 210 k = zei k % p ∧ ν 211 k = zei k % p) → at_X11_j_26 g φ v1 v2 (t : Int) ν := by
    intro m
    induction m with
    | zero =>
      intro t ht ν fν eν
      have e : t = 80 := by omega
      subst e
      exact sg_X11_j_26 ⟨by omega, fun _ => h ν fν eν, fun hc => absurd hc (by omega)⟩
    | succ m ih =>
      intro t ht ν fν eν
      refine sg_X11_j_26 ⟨by omega, fun hc => absurd hc (by omega), fun _ => mo_j38 (p := p) (by rw [fν 203 (by omega) (by omega)]; exact hm) hp (by omega) (fun μ' f1 f2 f3 => ?_)⟩
      have := ih (t + 1) (by omega) μ' (fun i h1 h2 => (f1 i h1 h2).trans (fν i h1 h2)) (fun k hk => by
        rw [f2 k, f3 k]
        by_cases hkt : k = t
        · rw [if_pos hkt, if_pos hkt, hkt]; exact ⟨rfl, rfl⟩
        · rw [if_neg hkt, if_neg hkt]; exact eν k (by omega))
      rw [Int.natCast_add] at this
      exact this
  exact loop 80 0 (by omega) μ (fun i _ _ => rfl) (fun k hk => absurd hk (by omega))
theorem mo_j214 {v1 v2 v4 : Int} {K : Nat} (hK : K < 79) (hm : μ 203 0 = p) (hp : 2 ≤ p ∧ p ≤ 199) {F : Nat → Int} (rμ : zmodp p 80 (μ 211)) (eμ : zeq p 80 (μ 211) F) (h : ∀ μ', (∀ (i : Nat), i ≠ 211 → μ' i = μ i) → zmodp p 80 (μ' 211) → zeq p 80 (μ' 211) (zcv F (zfa (K + 1))) → at_X11_j_203 g φ v1 v2 ((K + 1 : Nat) : Int) (v4 + 1) μ') : at_X11_j_214 g φ v1 v2 ((K + 1 : Nat) : Int) v4 79 μ := by
  have k2 := h (zua μ 211 (fun t => if K + 1 ≤ t ∧ t < 80 then (μ 211 t - μ 211 (t - (K + 1))) % p else μ 211 t)) (fun i hi => zua_nc hi) (fun t ht => by
    rw [zua_eq]
    by_cases hh : K + 1 ≤ t ∧ t < 80
    · rw [if_pos hh]; exact zemod_lt (by omega)
    · rw [if_neg hh]; exact rμ t ht) (fun t ht => by
    rw [zua_eq, zcv_fa (by omega)]
    by_cases hh : K + 1 ≤ t
    · rw [if_pos ⟨hh, ht⟩, if_pos hh, Int.emod_emod, Int.sub_emod, eμ t ht, eμ (t - (K + 1)) (by omega), ← Int.sub_emod]
    · rw [if_neg (fun z => hh z.1), if_neg hh, Int.sub_zero]; exact eμ t ht)
  have inner : ∀ s : Nat, K + s ≤ 79 → at_X11_j_214 g φ v1 v2 ((K + 1 : Nat) : Int) v4 ((K : Int) + s) (zua μ 211 (fun t => if K + 1 + s ≤ t ∧ t < 80 then (μ 211 t - μ 211 (t - (K + 1))) % p else μ 211 t)) := by
    intro s
    induction s with
    | zero =>
      intro hs
      exact sg_X11_j_214 ⟨by omega, by omega, fun _ => k2, fun hc => absurd hc (by omega)⟩
    | succ s ih2 =>
      intro hs
      have k3 := ih2 (by omega)
      have r1 := rμ (K + (s + 1)) (by omega)
      have r2 := rμ s (by omega)
      refine sg_X11_j_214 ⟨by omega, by omega, fun hc => absurd hc (by omega), fun _ => ⟨by omega, by omega, ?_⟩⟩
      rw [show Int.toNat ((K : Int) + ((s + 1 : Nat) : Int)) = K + (s + 1) by omega, show Int.toNat ((K : Int) + ((s + 1 : Nat) : Int) - ((K + 1 : Nat) : Int)) = s by omega, zua_eq, zua_eq, if_neg (by omega), if_neg (by omega), zua_ne (by omega), hm]
      refine ⟨by omega, by omega, by omega, ?_⟩
      rw [zsb r1.1 r2.2, zup_zua, zua_congr (h := fun t => if K + 1 + s ≤ t ∧ t < 80 then (μ 211 t - μ 211 (t - (K + 1))) % p else μ 211 t) (fun b => by
        by_cases hb : b = K + (s + 1)
        · rw [if_pos hb, if_pos (by omega), hb, show K + (s + 1) - (K + 1) = s by omega]
        · rw [if_neg hb]
          by_cases hc : K + 1 + (s + 1) ≤ b ∧ b < 80
          · rw [if_pos hc, if_pos (by omega)]
          · rw [if_neg hc, if_neg (by omega)]), show (K : Int) + ((s + 1 : Nat) : Int) + -1 = (K : Int) + s by omega]
      exact k3
  have k0 := inner (79 - K) (by omega)
  rw [zua_self (fun b => if_neg (by omega)), show (K : Int) + ((79 - K : Nat) : Int) = 79 by omega] at k0
  exact k0
theorem mx_j {s n : Int} (hw : zWF A) (hR : zRM A μ) (hs : zR s) (hn : zR n) (h : zHm φ μ (st_j A s n)) : zOi g zm_X11_j [.ref 203, .int (zJ s), .int (zJ n)] μ φ := by
  have hp := zWF_p hw
  refine sg_X11_j (ok_X11_isSeries hs (fun qs => ⟨by omega, fun _ => ⟨hn, ok_X11_in (by omega) (by omega) (by omega) (fun qn => ⟨by omega, fun _ => ?_, fun hc => absurd hc (by omega)⟩) (fun qn => ⟨by omega, fun hc => absurd rfl hc, fun _ => h.at ((if_neg (by omega)).trans (if_pos (by omega))) rfl hR (zKc.refl μ)⟩)⟩, fun hc => absurd hc (by omega)⟩) (fun q => ⟨by omega, fun hc => absurd rfl hc, fun _ => h.at (if_pos q) rfl hR (zKc.refl μ)⟩))
  obtain ⟨s, rfl⟩ : ∃ q : Nat, s = q := ⟨s.toNat, by omega⟩
  obtain ⟨n, rfl⟩ : ∃ q : Nat, n = q := ⟨n.toNat, by omega⟩
  unfold st_j at h
  rw [if_neg (by omega), if_neg (by omega)] at h
  simp only [Int.toNat_natCast] at h
  have hm := zRM_p0 hR
  have hfin : ∀ ν, (∀ (i : Nat), i ≠ 209 → i ≠ 210 → i ≠ 211 → ν i = μ i) → zmodp (A 0 0) 80 (ν 210) → zeq (A 0 0) 80 (ν 210) zjn → zmodp (A 0 0) 80 (ν 211) → zeq (A 0 0) 80 (ν 211) zjd → at_X11_j_194 g φ (s : Int) (n : Int) 80 ν := by
    intro ν fν r1 e1 r2 e2
    have hd0 : ν 211 0 = 1 := by
      have a1 := e2 0 (by omega)
      have a2 := r2 0 (by omega)
      rw [zjd_0, zmod1 (by omega), Int.emod_eq_of_lt a2.1 a2.2] at a1
      exact a1
    refine sg_X11_j_194 ⟨by omega, fun _ => ok_X11_divides (N := 80) rfl (by omega) zc_210 zc_211 (by omega) (by omega) (by omega) (by omega) (by omega) (by rw [fν 203 (by omega) (by omega) (by omega)]; exact hm) hp.1 r1 r2 (by omega) ?_, fun hc => absurd hc (by omega)⟩
    have hR1 : zRM A (zua ν 209 (fun k => if k < 80 then zdv (A 0 0) (ν 210) (ν 211) k else ν 209 k)) := zRM_scr (by omega) (zRM_s hR (fun j _ => by rw [fν 203 (by omega) (by omega) (by omega)]) (fun i hi => fν i (by unfold zhM at hi; omega) (by unfold zhM at hi; omega) (by unfold zhM at hi; omega)))
    have hK1 : zKc μ (zua ν 209 (fun k => if k < 80 then zdv (A 0 0) (ν 210) (ν 211) k else ν 209 k)) := fun i hi => (zua_nc (by omega)).trans (fν i (by omega) (by omega) (by omega))
    refine ok_X11_becomes (F := zdv (A 0 0) zjn zjd) hw (zRM_slt (by omega) (zRM_slt (by omega) hR1)) (by omega) (by rw [zup_ne (Or.inr (by omega)), zup_eq]) (by rw [zup_eq]) (by omega) (fun k hk => ?_) (fun μ' hR' hk' => h.at rfl rfl hR' (hK1.trans (zKc_slt.trans (zKc_slt.trans hk'))))
    rw [zup_ne (Or.inl (by omega)), zup_ne (Or.inl (by omega)), zua_eq, if_pos (by omega)]
    exact zdv_congr (n := 80) hp.1 (by omega) (by omega) (by rw [zjd_0]; omega) (by rw [zjd_0]; omega) e1 e2 k (by omega)
  refine mo_j26 hm (by omega) (fun ν1 f1 e1 => ?_)
  have m1 : ν1 203 0 = A 0 0 := by rw [f1 203 (by omega) (by omega)]; exact hm
  have r210 : zmodp (A 0 0) 80 (ν1 210) := fun k hk => by rw [(e1 k hk).1]; exact zemod_lt (by omega)
  have r211 : zmodp (A 0 0) 80 (ν1 211) := fun k hk => by rw [(e1 k hk).2]; exact zemod_lt (by omega)
  have q210 : zeq (A 0 0) 80 (ν1 210) zei := fun k hk => by rw [(e1 k hk).1, Int.emod_emod]
  have q211 : zeq (A 0 0) 80 (ν1 211) zei := fun k hk => by rw [(e1 k hk).2, Int.emod_emod]
  -- the two products
  have step : ∀ (t : Int), 0 ≤ t → t < 2 → ∀ ν F, (∀ (i : Nat), i ≠ 209 → i ≠ 210 → ν i = ν1 i) → zmodp (A 0 0) 80 (ν 210) → zeq (A 0 0) 80 (ν 210) F → (∀ ν', (∀ (i : Nat), i ≠ 209 → i ≠ 210 → ν' i = ν1 i) → zmodp (A 0 0) 80 (ν' 210) → zeq (A 0 0) 80 (ν' 210) (zcv F zei) → at_X11_j_126 g φ (s : Int) (n : Int) (t + 1) ν') → at_X11_j_126 g φ (s : Int) (n : Int) t ν := by
    intro t ht0 ht ν F fν rν eν k
    refine sg_X11_j_126 ⟨by omega, fun hc => absurd hc (by omega), fun _ => ok_X11_multiplies (N := 80) (p := A 0 0) rfl zc_210 zc_211 (by omega) (by omega) (by omega) (by omega) (by omega) (by rw [fν 203 (by omega) (by omega)]; exact m1) (by omega) rν (by rw [fν 211 (by omega) (by omega)]; exact r211) (ok_X11_lays (s := 0) (by omega) zc_209 zc_210 (by omega) (by omega) (by omega) (k _ (fun i h1 h2 => (zua_nc h2).trans ((zua_nc h1).trans (fν i h1 h2))) (fun j hj => ?_) (fun j hj => ?_)))⟩
    · rw [zua_eq, if_pos hj, zua_eq, if_pos (by omega)]; exact zemod_lt (by omega)
    · rw [zua_eq, if_pos hj, zua_eq, if_pos (by omega), Nat.zero_add, Int.emod_emod]
      exact zcv_mod eν (by rw [fν 211 (by omega) (by omega)]; exact q211) j hj
  refine step 0 (by omega) (by omega) ν1 zei (fun i _ _ => rfl) r210 q210 (fun ν2 f2 r2 e2 => ?_)
  refine step (0 + 1) (by omega) (by omega) ν2 _ f2 r2 e2 (fun ν3 f3 r3 e3 => ?_)
  refine sg_X11_j_126 ⟨by omega, fun _ => ?_, fun hc => absurd hc (by omega)⟩
  have frame3 : ∀ (i : Nat), i ≠ 209 → i ≠ 210 → i ≠ 211 → ν3 i = μ i := fun i h1 h2 h3 => (f3 i h1 h2).trans (f1 i h2 h3)
  -- the factors
  have facs : ∀ m K : Nat, K + m = 79 → ∀ ν, (∀ (i : Nat), i ≠ 211 → ν i = ν3 i) → zmodp (A 0 0) 80 (ν 211) → zeq (A 0 0) 80 (ν 211) (zed K) → at_X11_j_194 g φ (s : Int) (n : Int) ((K + 1 : Nat) : Int) ν := by
    intro m
    induction m with
    | zero =>
      intro K hK ν fν rν eν
      have e : K = 79 := by omega
      subst e
      exact hfin ν (fun i h1 h2 h3 => (fν i h3).trans (frame3 i h1 h2 h3)) (by rw [fν 210 (by omega)]; exact r3) (by rw [fν 210 (by omega)]; exact e3) rν eν
    | succ m ih =>
      intro K hK ν fν rν eν
      refine sg_X11_j_194 ⟨by omega, fun hc => absurd hc (by omega), fun _ => ?_⟩
      have inner : ∀ m c : Nat, c + m = 24 → ∀ ν, (∀ (i : Nat), i ≠ 211 → ν i = ν3 i) → zmodp (A 0 0) 80 (ν 211) → zeq (A 0 0) 80 (ν 211) (zcv (zed K) (zpo (zfa (K + 1)) c)) → at_X11_j_203 g φ (s : Int) (n : Int) ((K + 1 : Nat) : Int) (c : Int) ν := by
        intro m
        induction m with
        | zero =>
          intro c hc ν fν rν eν
          have e : c = 24 := by omega
          subst e
          have := ih (K + 1) (by omega) ν fν rν eν
          rw [Int.natCast_add] at this
          exact sg_X11_j_203 ⟨by omega, fun _ => this, fun hc => absurd hc (by omega)⟩
        | succ m ih2 =>
          intro c hc ν fν rν eν
          refine sg_X11_j_203 ⟨by omega, fun hc => absurd hc (by omega), fun _ => mo_j214 (p := A 0 0) (by omega) (by rw [fν 203 (by omega), frame3 203 (by omega) (by omega) (by omega)]; exact hm) (by omega) rν eν (fun μ' f r e => ?_)⟩
          have := ih2 (c + 1) (by omega) μ' (fun i hi => (f i hi).trans (fν i hi)) r (by rw [zcv_a] at e; exact e)
          rw [Int.natCast_add c 1] at this
          exact this
      exact inner 24 0 (by omega) ν fν rν (by
        show zeq _ _ _ (zcv (zed K) zone)
        rw [zcv_c, zcv_1]; exact eν)
  -- the row that begins them
  have l1 : ∀ m t : Nat, t + m = 80 → at_X11_j_165 g φ (s : Int) (n : Int) (t : Int) (zua ν3 211 (fun k => if k < t then zone k else ν3 211 k)) := by
    intro m
    induction m with
    | zero =>
      intro t ht
      have e : t = 80 := by omega
      subst e
      refine sg_X11_j_165 ⟨by omega, fun _ => facs 79 0 (by omega) _ (fun i hi => zua_nc hi) (fun k hk => ?_) (fun k hk => ?_), fun hc => absurd hc (by omega)⟩
      · rw [zua_eq, if_pos hk]; unfold zone; split <;> omega
      · rw [zua_eq, if_pos hk]; rfl
    | succ m ih =>
      intro t ht
      have k2 := ih (t + 1) (by omega)
      rw [Int.natCast_add] at k2
      have key : ∀ v, v = zone t → at_X11_j_165 g φ (s : Int) (n : Int) ((t : Int) + 1) (zup (zua ν3 211 (fun k => if k < t then zone k else ν3 211 k)) 211 (t : Int).toNat v) := fun v hv => by
        rw [Int.toNat_natCast, zup_zua, zua_congr (h := fun k => if k < t + 1 then zone k else ν3 211 k) (fun q => by
          by_cases hb : q = t
          · rw [if_pos hb, if_pos (by omega), hb, hv]
          · rw [if_neg hb]
            by_cases hc : q < t
            · rw [if_pos hc, if_pos (by omega)]
            · rw [if_neg hc, if_neg (by omega)])]
        exact k2
      exact sg_X11_j_165 ⟨by omega, fun hc => absurd hc (by omega), fun _ => ⟨fun hc => ⟨by omega, key 0 (by unfold zone; rw [if_neg (by omega)])⟩, fun hc => ⟨by omega, key 1 (by unfold zone; rw [if_pos (by omega)])⟩⟩⟩
  have k0 := l1 80 0 (by omega)
  rw [zua_self (fun b => if_neg (by omega))] at k0
  exact k0
end JM
