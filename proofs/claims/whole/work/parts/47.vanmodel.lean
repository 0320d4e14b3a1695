/-! VANISHES: the model -/
/-- what the model has prepared -/
def zPM (A : zMu) (a b d : Nat) (ν : zMu) : Prop := ν 203 14 = zkw A a b ∧ ν 203 15 = zlo A a b d ∧ ν 203 16 = A 1 a ∧ ν 203 17 = A 1 b ∧ ∀ (i : Nat), i ≤ d → ∀ (t : Nat), t < zkw A a b → ν 212 (80 * i + t) = zpw (A 0 0) (A (10 + a)) i t ∧ ν 213 (80 * i + t) = zpw (A 0 0) (A (10 + b)) i t
theorem zPM_keep {A ν ν' : zMu} {a b d : Nat} (h : zPM A a b d ν) (e : ∀ (j : Nat), 14 ≤ j → j ≤ 17 → ν' 203 j = ν 203 j) (e2 : ν' 212 = ν 212) (e3 : ν' 213 = ν 213) : zPM A a b d ν' := by
  obtain ⟨h1, h2, h3, h4, h5⟩ := h
  exact ⟨by rw [e 14 (by omega) (by omega)]; exact h1, by rw [e 15 (by omega) (by omega)]; exact h2, by rw [e 16 (by omega) (by omega)]; exact h3, by rw [e 17 (by omega) (by omega)]; exact h4, by rw [e2, e3]; exact h5⟩
/-- the model's scratch rows -/
def zMs (μ ν : zMu) : Prop := (∀ (i : Nat), i ≠ 203 → ¬ (209 ≤ i ∧ i ≤ 219) → ν i = μ i) ∧ ∀ (j : Nat), ¬ (14 ≤ j ∧ j ≤ 27) → ν 203 j = μ 203 j
theorem zMs.rfl' (μ : zMu) : zMs μ μ := ⟨fun _ _ _ => rfl, fun _ _ => rfl⟩
theorem zMs.tr {μ ν ω : zMu} (h : zMs μ ν) (h2 : zMs ν ω) : zMs μ ω := ⟨fun i q1 q2 => (h2.1 i q1 q2).trans (h.1 i q1 q2), fun j q => (h2.2 j q).trans (h.2 j q)⟩
theorem zMs.RM {A μ ν : zMu} (h : zMs μ ν) (hR : zRM A μ) : zRM A ν := zRM_s hR (fun j hj => h.2 j (by unfold zhS at hj; omega)) (fun i hi => h.1 i (by unfold zhM at hi; omega) (by unfold zhM at hi; omega))
theorem zMs.K {μ ν : zMu} (h : zMs μ ν) : zKc μ ν := fun i hi => h.1 i (by omega) (by omega)
theorem zMs.row {μ ν : zMu} (h : ∀ (i : Nat), ¬ (209 ≤ i ∧ i ≤ 219) → ν i = μ i) : zMs μ ν := ⟨fun i _ q => h i q, fun j _ => by rw [h 203 (by omega)]⟩
theorem zMs.slot {μ : zMu} {j : Nat} {x : Int} (h : 14 ≤ j ∧ j ≤ 27) : zMs μ (zup μ 203 j x) := ⟨fun i q _ => zup_nc q, fun k q => zup_ne (Or.inr (by omega))⟩
section VNM
variable {g : zG} {μ A : zMu}
theorem ok_X11_tellsPowers {φ : zMu → Prop} {a b d : Nat} {D : Int} (hw : zWF A) (hR : zRM A μ) (ha : a < 6) (hb : b < 6) (h1 : A 2 a ≠ 0) (h2 : A 2 b ≠ 0) (hd : d ≤ 8) (hD : D = d)
    (h : ∀ ν, zMs μ ν → zPM A a b d ν → φ ν) : zOv g zm_X11_tellsPowers [.ref 203, .int (zJ (a : Int)), .int (zJ (b : Int)), .int (zJ D)] μ φ := by
  subst hD
  have hp := zWF_p hw
  obtain ⟨s1, s2, s3⟩ := zRM_sr hR ha
  obtain ⟨u1, u2, u3⟩ := zRM_sr hR hb
  obtain ⟨b1, b2, b3⟩ := zWF_s hw ha
  obtain ⟨c1, c2, c3⟩ := zWF_s hw hb
  obtain ⟨k1, k2, k3, k4, k5⟩ := zkw_bd hw ha hb h1 h2
  refine sg_X11_tellsPowers ?_
  rw [Int.toNat_natCast, Int.toNat_natCast, s2, u2, k5]
  rw [zup_nc (μ := μ) (i := 203) (j := 14) (a := 204) (by omega), s1, zup_nc (μ := zup μ 203 14 (zkw A a b : Int)) (i := 203) (j := 16) (a := 204) (by omega), zup_nc (μ := μ) (i := 203) (j := 14) (a := 204) (by omega), u1]
  have e2 : zup (zup (zup μ 203 14 (zkw A a b : Int)) 203 16 (A 1 a)) 203 17 (A 1 b) 203 16 = A 1 a := (zup_ne (Or.inr (by decide))).trans zup_eq
  have e3 : zup (zup (zup μ 203 14 (zkw A a b : Int)) 203 16 (A 1 a)) 203 17 (A 1 b) 203 17 = A 1 b := zup_eq
  rw [e2, e3, ← zlo_eq (a := a) (b := b) hd]
  have hb9 : ∀ x : Int, -99 ≤ x ∧ x ≤ 99 → zR ((d : Int) * x) := fun x hx => by
    have : d = 0 ∨ d = 1 ∨ d = 2 ∨ d = 3 ∨ d = 4 ∨ d = 5 ∨ d = 6 ∨ d = 7 ∨ d = 8 := by omega
    rcases this with q | q | q | q | q | q | q | q | q <;> subst q <;> omega
  refine ⟨by omega, by omega, by omega, by omega, hb9 _ b1, hb9 _ c1, ?_⟩
  have w14 : zup (zup (zup (zup μ 203 14 (zkw A a b : Int)) 203 16 (A 1 a)) 203 17 (A 1 b)) 203 15 (zlo A a b d) 203 14 = zkw A a b := (zup_ne (Or.inr (by decide))).trans ((zup_ne (Or.inr (by decide))).trans ((zup_ne (Or.inr (by decide))).trans zup_eq))
  have w15 : zup (zup (zup (zup μ 203 14 (zkw A a b : Int)) 203 16 (A 1 a)) 203 17 (A 1 b)) 203 15 (zlo A a b d) 203 15 = zlo A a b d := zup_eq
  have w16 : zup (zup (zup (zup μ 203 14 (zkw A a b : Int)) 203 16 (A 1 a)) 203 17 (A 1 b)) 203 15 (zlo A a b d) 203 16 = A 1 a := (zup_ne (Or.inr (by decide))).trans e2
  have w17 : zup (zup (zup (zup μ 203 14 (zkw A a b : Int)) 203 16 (A 1 a)) 203 17 (A 1 b)) 203 15 (zlo A a b d) 203 17 = A 1 b := (zup_ne (Or.inr (by decide))).trans e3
  have wf : zMs μ (zup (zup (zup (zup μ 203 14 (zkw A a b : Int)) 203 16 (A 1 a)) 203 17 (A 1 b)) 203 15 (zlo A a b d)) := (((zMs.slot (by omega)).tr (zMs.slot (by omega))).tr (zMs.slot (by omega))).tr (zMs.slot (by omega))
  generalize zup (zup (zup (zup μ 203 14 (zkw A a b : Int)) 203 16 (A 1 a)) 203 17 (A 1 b)) 203 15 (zlo A a b d) = ω at w14 w15 w16 w17 wf ⊢
  have loop : ∀ m s : Nat, s + m = d + 1 → ∀ ν, zMs μ ν → ν 203 = ω 203 → (∀ (i : Nat), i < s → ∀ (t : Nat), t < zkw A a b → ν 212 (80 * i + t) = zpw (A 0 0) (A (10 + a)) i t ∧ ν 213 (80 * i + t) = zpw (A 0 0) (A (10 + b)) i t) → at_X11_tellsPowers_67 g φ (a : Int) (b : Int) (d : Int) (s : Int) ν := by
    intro m
    induction m with
    | zero =>
      intro s hs ν hf e hr
      refine sg_X11_tellsPowers_67 ⟨by omega, by omega, fun _ => h ν hf ⟨by rw [e]; exact w14, by rw [e]; exact w15, by rw [e]; exact w16, by rw [e]; exact w17, fun i hi t ht => hr i (by omega) t ht⟩, fun hc => absurd hc (by omega)⟩
    | succ m ih =>
      intro s hs ν hf e hr
      refine sg_X11_tellsPowers_67 ⟨by omega, by omega, fun hc => absurd hc (by omega), fun _ => ?_⟩
      rw [e, w14]
      refine ok_X11_powers rfl hw (hf.RM hR) ha k3 (by omega) (fun ν1 g1 g2 => ?_)
      have hf1 : zMs μ ν1 := hf.tr (zMs.row (fun i hi => g1 i (by omega) (by omega) (by omega)))
      -- the second copy
      have copy2 : ∀ ν, zMs μ ν → ν 203 = ω 203 → (∀ (i : Nat), i < s → ∀ (t : Nat), t < zkw A a b → ν 212 (80 * i + t) = zpw (A 0 0) (A (10 + a)) i t ∧ ν 213 (80 * i + t) = zpw (A 0 0) (A (10 + b)) i t) → (∀ (t : Nat), t < zkw A a b → ν 212 (80 * s + t) = zpw (A 0 0) (A (10 + a)) s t) → (∀ (t : Nat), t < zkw A a b → ν 209 t = zpw (A 0 0) (A (10 + b)) s t) → at_X11_tellsPowers_136 g φ (a : Int) (b : Int) (d : Int) (s : Int) 0 ν := fun ν hf e hr hr2 h9 => by
        have lp : ∀ m2 t : Nat, t + m2 = zkw A a b → at_X11_tellsPowers_136 g φ (a : Int) (b : Int) (d : Int) (s : Int) (t : Int) (zua ν 213 (fun x => if 80 * s ≤ x ∧ x < 80 * s + t then ν 209 (x - 80 * s) else ν 213 x)) := by
          intro m2
          induction m2 with
          | zero =>
            intro t ht
            refine sg_X11_tellsPowers_136 ⟨by omega, by rw [zua_ne (by omega), e, w14]; omega, fun _ => ?_, fun hc => absurd hc (by rw [zua_ne (by omega), e, w14]; omega)⟩
            have := ih (s + 1) (by omega) (zua ν 213 (fun x => if 80 * s ≤ x ∧ x < 80 * s + t then ν 209 (x - 80 * s) else ν 213 x)) (hf.tr (zMs.row (fun i hi => zua_nc (by omega)))) ((zua_nc (by omega)).trans e) (fun i hi t2 ht2 => by
              rw [zua_ne (by omega), zua_eq]
              by_cases es : i = s
              · subst es
                refine ⟨hr2 t2 ht2, ?_⟩
                rw [if_pos (by omega), show 80 * i + t2 - 80 * i = t2 by omega]
                exact h9 t2 ht2
              · rw [if_neg (by omega)]
                exact hr i (by omega) t2 ht2)
            rw [Int.natCast_add] at this
            exact this
          | succ m2 ih2 =>
            intro t ht
            refine sg_X11_tellsPowers_136 ⟨by omega, by rw [zua_ne (by omega), e, w14]; omega, fun hc => absurd hc (by rw [zua_ne (by omega), e, w14]; omega), fun _ => ⟨by omega, by omega, ?_⟩⟩
            rw [show Int.toNat (80 * (s : Int) + (t : Int)) = 80 * s + t by omega, Int.toNat_natCast, zua_ne (a := 209) (by omega), zup_zua, zua_congr (h := fun x => if 80 * s ≤ x ∧ x < 80 * s + (t + 1) then ν 209 (x - 80 * s) else ν 213 x) (fun x => by
              by_cases ex : x = 80 * s + t
              · rw [if_pos ex, ex, if_pos (by omega), show 80 * s + t - 80 * s = t by omega]
              · rw [if_neg ex]
                by_cases hx : 80 * s ≤ x ∧ x < 80 * s + t
                · rw [if_pos hx, if_pos (by omega)]
                · rw [if_neg hx, if_neg (by omega)])]
            have := ih2 (t + 1) (by omega)
            rw [Int.natCast_add] at this
            exact this
        have k0 := lp (zkw A a b) 0 (by omega)
        rw [zua_self (fun x => if_neg (by omega))] at k0
        exact k0
      have lp : ∀ m2 t : Nat, t + m2 = zkw A a b → at_X11_tellsPowers_87 g φ (a : Int) (b : Int) (d : Int) (s : Int) (t : Int) (zua ν1 212 (fun x => if 80 * s ≤ x ∧ x < 80 * s + t then ν1 209 (x - 80 * s) else ν1 212 x)) := by
        have e1 : ν1 203 = ω 203 := (g1 203 (by omega) (by omega) (by omega)).trans e
        intro m2
        induction m2 with
        | zero =>
          intro t ht
          have hf2 : zMs μ (zua ν1 212 (fun x => if 80 * s ≤ x ∧ x < 80 * s + t then ν1 209 (x - 80 * s) else ν1 212 x)) := hf1.tr (zMs.row (fun i hi => zua_nc (by omega)))
          refine sg_X11_tellsPowers_87 ⟨by omega, by rw [zua_ne (by omega), e1, w14]; omega, fun _ => ?_, fun hc => absurd hc (by rw [zua_ne (by omega), e1, w14]; omega)⟩
          rw [zua_ne (i := 212) (a := 203) (by omega), e1, w14]
          refine ok_X11_powers rfl hw (hf2.RM hR) hb k4 (by omega) (fun ν2 q1 q2 => ?_)
          refine copy2 ν2 (hf2.tr (zMs.row (fun i hi => q1 i (by omega) (by omega) (by omega)))) ((q1 203 (by omega) (by omega) (by omega)).trans ((zua_nc (by omega)).trans e1)) (fun i hi t2 ht2 => ?_) (fun t2 ht2 => ?_) q2
          · rw [q1 212 (by omega) (by omega) (by omega), q1 213 (by omega) (by omega) (by omega), zua_eq, if_neg (by omega), zua_ne (by omega), g1 212 (by omega) (by omega) (by omega), g1 213 (by omega) (by omega) (by omega)]
            exact hr i hi t2 ht2
          · rw [q1 212 (by omega) (by omega) (by omega), zua_eq, if_pos (by omega), show 80 * s + t2 - 80 * s = t2 by omega]
            exact g2 t2 ht2
        | succ m2 ih2 =>
          intro t ht
          refine sg_X11_tellsPowers_87 ⟨by omega, by rw [zua_ne (by omega), e1, w14]; omega, fun hc => absurd hc (by rw [zua_ne (by omega), e1, w14]; omega), fun _ => ⟨by omega, by omega, ?_⟩⟩
          rw [show Int.toNat (80 * (s : Int) + (t : Int)) = 80 * s + t by omega, Int.toNat_natCast, zua_ne (a := 209) (by omega), zup_zua, zua_congr (h := fun x => if 80 * s ≤ x ∧ x < 80 * s + (t + 1) then ν1 209 (x - 80 * s) else ν1 212 x) (fun x => by
            by_cases ex : x = 80 * s + t
            · rw [if_pos ex, ex, if_pos (by omega), show 80 * s + t - 80 * s = t by omega]
            · rw [if_neg ex]
              by_cases hx : 80 * s ≤ x ∧ x < 80 * s + t
              · rw [if_pos hx, if_pos (by omega)]
              · rw [if_neg hx, if_neg (by omega)])]
          have := ih2 (t + 1) (by omega)
          rw [Int.natCast_add] at this
          exact this
      have k0 := lp (zkw A a b) 0 (by omega)
      rw [zua_self (fun x => if_neg (by omega))] at k0
      exact k0
  exact loop (d + 1) 0 (by omega) ω wf rfl (fun i hi => absurd hi (by omega))
theorem ok_X11_emptiesColumn {φ : zMu → Prop} (h : φ (zua μ 214 (fun t => if t < 80 then 0 else μ 214 t))) : zOv g zm_X11_emptiesColumn [.ref 203] μ φ := by
  have loop : ∀ m t : Nat, t + m = 80 → at_X11_emptiesColumn_2 g φ (t : Int) (zua μ 214 (fun x => if x < t then 0 else μ 214 x)) := by
    intro m
    induction m with
    | zero =>
      intro t ht
      have e : t = 80 := by omega
      subst e
      exact sg_X11_emptiesColumn_2 ⟨by omega, fun _ => h, fun hc => absurd hc (by omega)⟩
    | succ m ih =>
      intro t ht
      refine sg_X11_emptiesColumn_2 ⟨by omega, fun hc => absurd hc (by omega), fun _ => ⟨by omega, ?_⟩⟩
      rw [Int.toNat_natCast, zup_zua, zua_congr (h := fun x => if x < t + 1 then 0 else μ 214 x) (fun x => by
        by_cases ex : x = t
        · rw [if_pos ex, if_pos (by omega)]
        · rw [if_neg ex]
          by_cases hx : x < t
          · rw [if_pos hx, if_pos (by omega)]
          · rw [if_neg hx, if_neg (by omega)])]
      have := ih (t + 1) (by omega)
      rw [Int.natCast_add] at this
      exact this
  have k0 := loop 80 0 (by omega)
  rw [zua_self (fun x => if_neg (by omega))] at k0
  exact sg_X11_emptiesColumn k0
theorem ok_X11_firstOther {φ : Int → zMu → Prop} {n : Nat} (hn : n ≤ 80) (h14 : μ 203 14 = n) (hr : ∀ t : Nat, t < n → zR (μ 214 t)) (h : ∀ x : Int, ((x = -1 ∧ ∀ t, t < n → μ 214 t = 0) ∨ (∃ t : Nat, x = t ∧ t < n ∧ μ 214 t ≠ 0 ∧ ∀ s, s < t → μ 214 s = 0)) → φ x μ) : zOi g zm_X11_firstOther [.ref 203] μ φ := by
  have loop : ∀ m t : Nat, t + m = n → (∀ s, s < t → μ 214 s = 0) → at_X11_firstOther_2 g φ (t : Int) μ := by
    intro m
    induction m with
    | zero =>
      intro t ht hz
      exact sg_X11_firstOther_2 ⟨by omega, by omega, fun _ => h (-1) (Or.inl ⟨rfl, fun s hs => hz s (by omega)⟩), fun hc => absurd hc (by omega)⟩
    | succ m ih =>
      intro t ht hz
      refine sg_X11_firstOther_2 ⟨by omega, by omega, fun hc => absurd hc (by omega), fun _ => ⟨by omega, ?_⟩⟩
      rw [Int.toNat_natCast]
      refine ⟨hr t (by omega), fun z => ?_, fun z => h t (Or.inr ⟨t, rfl, by omega, z, hz⟩)⟩
      have := ih (t + 1) (by omega) (fun s hs => by
        by_cases es : s = t
        · rw [es]; exact z
        · exact hz s (by omega))
      rw [Int.natCast_add] at this
      exact this
  exact sg_X11_firstOther (loop n 0 (by omega) (fun s hs => absurd hs (by omega)))
theorem ok_X11_adds {φ : zMu → Prop} {a b d i k : Nat} {c : Int} {R : Nat → Int} (hw : zWF A) (hM : μ 203 0 = A 0 0) (ha : a < 6) (hb : b < 6) (h1 : A 2 a ≠ 0) (h2 : A 2 b ≠ 0) (hd : d ≤ 8) (hi : i ≤ d) (hk : k ≤ d) (hP : zPM A a b d μ) (hc : 0 ≤ c ∧ c < A 0 0) (hR : ∀ t : Nat, t < zkw A a b → μ 214 t = R t ∧ 0 ≤ R t ∧ R t < A 0 0)
    (h : ∀ F : Nat → Int, (∀ t : Nat, t < zkw A a b → F t = (R t + c * zqc A a b d i k t) % A 0 0) → (∀ t : Nat, zkw A a b ≤ t → F t = μ 214 t) → φ (zua μ 214 F)) : zOv g zm_X11_adds [.ref 203, .int (zJ (i : Int)), .int (zJ (k : Int)), .int (zJ c)] μ φ := by
  have hp := zWF_p hw
  obtain ⟨k1, k2, k3, k4, k5⟩ := zkw_bd hw ha hb h1 h2
  have ho := zof_bd (A := A) (a := a) (b := b) (zWF_s hw ha).1 (zWF_s hw hb).1 hd hi hk
  obtain ⟨p14, p15, p16, p17, p18⟩ := hP
  refine sg_X11_adds ?_
  rw [p15, p16, p17]
  have e : (i : Int) * A 1 a + (k : Int) * A 1 b - zlo A a b d = zof A a b d i k := rfl
  rw [e]
  obtain ⟨o, hoe⟩ : ∃ o : Nat, zof A a b d i k = o := ⟨(zof A a b d i k).toNat, by omega⟩
  rw [hoe] at ho ⊢
  have loop : ∀ m t : Nat, (t + m = zkw A a b ∨ (m = 0 ∧ zkw A a b ≤ t)) → o ≤ t → t ≤ 3168 → at_X11_adds_24 g φ (i : Int) (k : Int) c (o : Int) (t : Int) (zua μ 214 (fun x => if x < zkw A a b then (if x < t then (R x + c * zqc A a b d i k x) % A 0 0 else R x) else μ 214 x)) := by
    intro m
    induction m with
    | zero =>
      intro t ht hot ht2
      refine sg_X11_adds_24 ⟨by omega, by rw [zua_ne (by omega)]; omega, fun _ => ?_, fun hc => absurd hc (by rw [zua_ne (by omega)]; omega)⟩
      refine h _ (fun x hx => ?_) (fun x hx => if_neg (by omega))
      rw [if_pos hx, if_pos (by omega)]
    | succ m ih =>
      intro t ht hot ht2
      have htn : t < zkw A a b := by omega
      have hz : zqc A a b d i k t = zpx A a b i k (t - o) := by
        unfold zqc
        rw [hoe, if_pos (by omega), show ((t : Int) - (o : Int)).toNat = t - o by omega]
      have hRt := (hR t htn).2
      refine sg_X11_adds_24 ⟨by omega, by rw [zua_ne (by omega)]; omega, fun hc => absurd hc (by rw [zua_ne (by omega)]; omega), fun _ => ?_⟩
      generalize hν : zua μ 214 (fun x => if x < zkw A a b then (if x < t then (R x + c * zqc A a b d i k x) % A 0 0 else R x) else μ 214 x) = ν
      have n0 : ν 203 0 = A 0 0 := by rw [← hν, zua_ne (by omega)]; exact hM
      have n212 : ν 212 = μ 212 := by rw [← hν]; exact zua_nc (by omega)
      have n213 : ν 213 = μ 213 := by rw [← hν]; exact zua_nc (by omega)
      have n214 : ν 214 t = R t := by rw [← hν, zua_eq, if_pos htn, if_neg (by omega)]
      have inner : ∀ m2 j : Nat, j + m2 = t - o + 1 → at_X11_adds_39 g φ (i : Int) (k : Int) c (o : Int) (t : Int) (zsm (fun x => zpw (A 0 0) (A (10 + a)) i x * zpw (A 0 0) (A (10 + b)) k (t - o - x)) j % A 0 0) (j : Int) ν := by
        intro m2
        induction m2 with
        | zero =>
          intro j hj
          have ej : j = t - o + 1 := by omega
          subst ej
          have e4 : zsm (fun x => zpw (A 0 0) (A (10 + a)) i x * zpw (A 0 0) (A (10 + b)) k (t - o - x)) (t - o + 1) % A 0 0 = zpx A a b i k (t - o) := rfl
          rw [e4]
          have hpx : 0 ≤ zpx A a b i k (t - o) ∧ zpx A a b i k (t - o) < A 0 0 := zemod_lt (by omega)
          have hm := zmul_bd hc hpx (by omega)
          refine sg_X11_adds_39 ⟨by omega, by omega, fun _ => ⟨by omega, ?_⟩, fun hc => absurd hc (by omega)⟩
          rw [Int.toNat_natCast, n214, n0]
          refine ⟨by omega, by omega, by omega, ?_⟩
          rw [ztm (by omega), ← hν, zup_zua, zua_congr (h := fun x => if x < zkw A a b then (if x < t + 1 then (R x + c * zqc A a b d i k x) % A 0 0 else R x) else μ 214 x) (fun x => by
            by_cases e : x = t
            · rw [if_pos e, e, if_pos htn, if_pos (show t < t + 1 by omega), hz]
            · rw [if_neg e]
              by_cases hx : x < zkw A a b
              · rw [if_pos hx, if_pos hx]
                by_cases hxt : x < t
                · rw [if_pos hxt, if_pos (show x < t + 1 by omega)]
                · rw [if_neg hxt, if_neg (show ¬ x < t + 1 by omega)]
              · rw [if_neg hx, if_neg hx])]
          have := ih (t + 1) (by omega) (by omega) (by omega)
          rw [Int.natCast_add] at this
          exact this
        | succ m2 ih2 =>
          intro j hj
          refine sg_X11_adds_39 ⟨by omega, by omega, fun hc => absurd hc (by omega), fun _ => ⟨by omega, by omega, ?_⟩⟩
          rw [show Int.toNat (80 * (i : Int) + (j : Int)) = 80 * i + j by omega, show Int.toNat (80 * (k : Int) + (t : Int) - (o : Int) - (j : Int)) = 80 * k + (t - o - j) by omega, n212, n213, (p18 i hi j (by omega)).1, (p18 k hk (t - o - j) (by omega)).2, n0]
          have x1 := zpw_modp (p := A 0 0) (f := A (10 + a)) (by omega) 80 i j (by omega)
          have x2 := zpw_modp (p := A 0 0) (f := A (10 + b)) (by omega) 80 k (t - o - j) (by omega)
          have hm := zmul_bd x1 x2 (by omega)
          have hs := zemod_lt (x := zsm (fun x => zpw (A 0 0) (A (10 + a)) i x * zpw (A 0 0) (A (10 + b)) k (t - o - x)) j) (p := A 0 0) (by omega)
          refine ⟨by omega, by omega, by omega, ?_⟩
          rw [ztm (by omega), Int.emod_add_emod]
          have := ih2 (j + 1) (by omega)
          rw [Int.natCast_add] at this
          exact this
      have k0 := inner (t - o + 1) 0 (by omega)
      have ez : zsm (fun x => zpw (A 0 0) (A (10 + a)) i x * zpw (A 0 0) (A (10 + b)) k (t - o - x)) 0 % A 0 0 = 0 := Int.zero_emod _
      rw [ez] at k0
      exact k0
  have k0 := loop (zkw A a b - o) o (by omega) (by omega) (by omega)
  have es : zua μ 214 (fun x => if x < zkw A a b then (if x < o then (R x + c * zqc A a b d i k x) % A 0 0 else R x) else μ 214 x) = μ := zua_self (fun x => by
    by_cases hx : x < zkw A a b
    · rw [if_pos hx, (hR x hx).1]
      by_cases hxo : x < o
      · rw [if_pos hxo]
        unfold zqc
        rw [hoe, if_neg (by omega), Int.mul_zero, Int.add_zero, Int.emod_eq_of_lt (hR x hx).2.1 (hR x hx).2.2]
      · rw [if_neg hxo]
    · rw [if_neg hx])
  rw [es] at k0
  exact k0
theorem mx_vanishes {φ : Int → zMu → Prop} {a b : Int} (hw : zWF A) (hR : zRM A μ) (ha : zR a) (hb : zR b) (h : zHm φ μ (rd_van A a b, A)) : zOi g zm_X11_vanishes [.ref 203, .int (zJ a), .int (zJ b)] μ φ := by
  have hp := zWF_p hw
  have hd := zWF_d hw
  have t1 := zRM_d hR
  have h1 : ¬ (0 ≤ a ∧ a < 6) ∨ ¬ (0 ≤ b ∧ b < 6) → φ (-1) μ := fun q => h.rd (if_pos q) hR (zKc.refl μ)
  refine sg_X11_vanishes (ok_X11_isSeries ha (fun qa => ⟨by omega, fun hc => absurd hc (by omega), fun _ => ok_X11_isSeries hb (fun qb => ⟨by omega, fun _ => ?_, fun hc => absurd hc (by omega)⟩) (fun q => ⟨by omega, fun hc => absurd rfl hc, fun _ => h1 (by omega)⟩)⟩) (fun q => ⟨by omega, fun _ => h1 (by omega), fun hc => absurd rfl hc⟩))
  obtain ⟨a, rfl⟩ : ∃ q : Nat, a = q := ⟨a.toNat, by omega⟩
  obtain ⟨b, rfl⟩ : ∃ q : Nat, b = q := ⟨b.toNat, by omega⟩
  unfold rd_van at h
  rw [if_neg (by omega)] at h
  simp only [Int.toNat_natCast] at h
  obtain ⟨s1, s2, s3⟩ := zRM_sr hR (s := a) (by omega)
  obtain ⟨u1, u2, u3⟩ := zRM_sr hR (s := b) (by omega)
  obtain ⟨_, b2, _⟩ := zWF_s hw (s := a) (by omega)
  obtain ⟨_, c2, _⟩ := zWF_s hw (s := b) (by omega)
  have hmiss : A 3 0 = 0 ∨ A 2 a = 0 ∨ A 2 b = 0 → φ (-11) μ := fun q => h.rd (if_pos q) hR (zKc.refl μ)
  refine ⟨by omega, fun m => hmiss (by omega), fun m => ?_⟩
  refine ok_X11_isThere (by omega) (by omega) (fun m1 => ⟨by omega, fun hc => absurd hc (by omega), fun _ => ?_⟩) (fun m1 => ⟨by omega, fun _ => hmiss (by omega), fun hc => absurd rfl hc⟩)
  refine ok_X11_isThere (by omega) (by omega) (fun m2 => ⟨by omega, fun _ => ?_, fun hc => absurd hc (by omega)⟩) (fun m2 => ⟨by omega, fun hc => absurd rfl hc, fun _ => hmiss (by omega)⟩)
  rw [if_neg (by omega)] at h
  obtain ⟨d, hdd⟩ : ∃ d : Nat, A 3 0 = d := ⟨(A 3 0).toNat, by omega⟩
  obtain ⟨k1, k2, k3, k4, k5⟩ := zkw_bd hw (a := a) (b := b) (by omega) (by omega) (by omega) (by omega)
  have he := zWF_e hw (by omega)
  refine ok_X11_tellsPowers (d := d) hw hR (by omega) (by omega) (by omega) (by omega) (by omega) (by omega) (fun ν r1 r2 => ok_X11_emptiesColumn ?_)
  -- the columns: only row 214 changes from here on
  have fr : ∀ F, zMs μ (zua ν 214 F) ∧ zPM A a b d (zua ν 214 F) := fun F => ⟨r1.tr (zMs.row (fun i hi => zua_nc (by omega))), zPM_keep r2 (fun j _ _ => zua_ne (by omega)) (zua_nc (by omega)) (zua_nc (by omega))⟩
  have outer : ∀ m i : Nat, i + m = d + 1 → ∀ F : Nat → Int, (∀ t : Nat, t < zkw A a b → F t = zvS A a b d i 0 t % A 0 0) → at_X11_vanishes_58 g φ (i : Int) (zua ν 214 F) := by
    intro m
    induction m with
    | zero =>
      intro i hi F e
      obtain ⟨q1, q2⟩ := fr F
      have w1 := zRM_d (q1.RM hR)
      have ei : i = d + 1 := by omega
      subst ei
      refine sg_X11_vanishes_58 ⟨by omega, by omega, fun _ => ?_, fun hc => absurd hc (by omega)⟩
      refine ok_X11_firstOther k2 q2.1 (fun t ht => ?_) (fun x hx => ?_)
      · rw [zua_eq, e t ht]
        have := zemod_lt (x := zvS A a b d (d + 1) 0 t) (p := A 0 0) (by omega)
        omega
      · rcases hx with ⟨rfl, z⟩ | ⟨t, rfl, z1, z2, z3⟩
        · refine ⟨by omega, fun hc => absurd rfl hc, fun _ => h.rd (if_pos (fun t ht => ?_)) (q1.RM hR) q1.K⟩
          have := z t ht
          rw [zua_eq, e t ht] at this
          rw [hdd, Int.toNat_natCast]
          exact this
        · refine ⟨by omega, fun _ => h.rd (if_neg (fun hv => z2 ?_)) (q1.RM hR) q1.K, fun hc => absurd hc (by omega)⟩
          have := hv t z1
          rw [hdd, Int.toNat_natCast] at this
          rw [zua_eq, e t z1]
          exact this
    | succ m ih =>
      intro i hi F e
      have w1 := zRM_d ((fr F).1.RM hR)
      refine sg_X11_vanishes_58 ⟨by omega, by omega, fun hc => absurd hc (by omega), fun _ => ?_⟩
      have inner : ∀ m2 k : Nat, k + m2 = d + 1 → ∀ F : Nat → Int, (∀ t : Nat, t < zkw A a b → F t = zvS A a b d i k t % A 0 0) → at_X11_vanishes_69 g φ (i : Int) (k : Int) (zua ν 214 F) := by
        intro m2
        induction m2 with
        | zero =>
          intro k hk F e
          have w1 := zRM_d ((fr F).1.RM hR)
          have ek : k = d + 1 := by omega
          subst ek
          have := ih (i + 1) (by omega) F (fun t ht => by rw [e t ht, zvS_row])
          rw [Int.natCast_add] at this
          exact sg_X11_vanishes_69 ⟨by omega, by omega, fun _ => this, fun hc => absurd hc (by omega)⟩
        | succ m2 ih2 =>
          intro k hk F e
          obtain ⟨q1, q2⟩ := fr F
          have w1 := zRM_d (q1.RM hR)
          refine sg_X11_vanishes_69 ⟨by omega, by omega, fun hc => absurd hc (by omega), fun _ => ?_⟩
          refine ok_X11_termAt hw (q1.RM hR) (by omega) (by omega) (by omega) ?_
          refine ok_X11_adds (R := fun t => zvS A a b d i k t % A 0 0) hw (zRM_p0 (q1.RM hR)) (by omega) (by omega) (by omega) (by omega) (by omega) (by omega) (by omega) q2 (he.1 _ (by omega)) (fun t ht => ⟨by rw [zua_eq]; exact e t ht, zemod_lt (by omega)⟩) (fun F2 e2 _ => ?_)
          rw [zua_zua]
          have := ih2 (k + 1) (by omega) F2 (fun t ht => by rw [e2 t ht]; exact zvS_step)
          rw [Int.natCast_add] at this
          exact this
      exact inner (d + 1) 0 (by omega) F e
  refine outer (d + 1) 0 (by omega) _ (fun t ht => ?_)
  rw [if_pos (by omega)]
  unfold zvS
  show (0 : Int) = (0 + 0) % A 0 0
  rw [Int.add_zero, Int.zero_emod]
end VNM
