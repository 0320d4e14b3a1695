/-! FIND: the model's end -/
/-- columns up to c are tried -/
def zFm (A : zMu) (a b d w : Nat) (μ ν : zMu) (c : Nat) : Prop := zMs μ ν ∧ zPM A a b d ν ∧ ν 203 24 = zfc A a b d w c ∧ (∃ (B : Nat) (P : Nat → Nat) (S : Nat → Nat → Int), ν 203 22 = (B : Int) ∧ zBa (A 0 0) (zkw A a b) w d (zC A a b d w) c B P S (ν 215) (ν 216) (ν 217)) ∧
  ((∀ k, k < c → ¬ zfC A a b d w k) ∨ ∃ (F : Nat) (s : Nat → Int), F < c ∧ zSol (A 0 0) (zkw A a b) (zC A a b d w) F s ∧ ∀ t, t < 81 → ν 219 t = s (zIdx w d t))
theorem zct_none {P : Nat → Bool} : ∀ {n : Nat}, (∀ i, i < n → P i = false) → zct P n = 0
  | 0, _ => rfl
  | n + 1, h => by rw [zct, zct_none (fun i hi => h i (by omega)), h n (by omega)]; rfl
section FEN
variable {g : zG} {μ A : zMu}
theorem mo_tries96 {φ : zMu → Prop} (hr : zR (μ 203 24)) (h1 : μ 203 24 = 1 → ∀ F : Nat → Int, (∀ t, t < 81 → F t = μ 218 t) → φ (zua μ 219 F)) (h2 : μ 203 24 ≠ 1 → φ μ) : at_X11_tries_96 g φ 0 μ := by
  by_cases e : μ 203 24 = 1
  · have loop : ∀ m t : Nat, t + m = 81 → at_X11_tries_96 g φ (t : Int) (zua μ 219 (fun x => if x < t then μ 218 x else μ 219 x)) := by
      intro m
      induction m with
      | zero =>
        intro t ht
        exact sg_X11_tries_96 ⟨by omega, fun _ => h1 e _ (fun x hx => if_pos (by omega)), fun hc => absurd hc (by omega)⟩
      | succ m ih =>
        intro t ht
        refine sg_X11_tries_96 ⟨by omega, fun hc => absurd hc (by omega), fun _ => ⟨by rw [zua_ne (by omega)]; exact hr, fun hc => absurd (by rw [zua_ne (by omega)]; exact e) hc, fun _ => ⟨by omega, ?_⟩⟩⟩
        rw [Int.toNat_natCast, zua_ne (a := 218) (by omega), zup_zua, zua_congr (h := fun x => if x < t + 1 then μ 218 x else μ 219 x) (fun x => by
          by_cases q : x = t
          · rw [if_pos q, q, if_pos (by omega)]
          · rw [if_neg q]
            by_cases q2 : x < t
            · rw [if_pos q2, if_pos (by omega)]
            · rw [if_neg q2, if_neg (by omega)])]
        have := ih (t + 1) (by omega)
        rw [Int.natCast_add] at this
        exact this
    have k0 := loop 81 0 (by omega)
    rw [zua_self (fun x => if_neg (by omega))] at k0
    exact k0
  · exact sg_X11_tries_96 ⟨by omega, fun hc => absurd hc (by omega), fun _ => ⟨hr, fun _ => h2 e, fun hc => absurd hc e⟩⟩
/-- the column and its terms stand: it comes or is free -/
theorem mo_tried {φ : zMu → Prop} {a b d w c : Nat} {ν : zMu} (hw : zWF A) (hR0 : zRM A μ) (ha : a < 6) (hb : b < 6) (h1 : A 2 a ≠ 0) (h2 : A 2 b ≠ 0) (hd : d ≤ 8) (hw2 : w < 2) (hc : c < zmT w d) (hF : zFm A a b d w μ ν c) (hcol : ∀ t, t < zkw A a b → ν 214 t = zC A a b d w c t) (hcz : ∀ t, zkw A a b ≤ t → t < 80 → ν 214 t = 0) (hT : ∀ t, t < 81 → ν 218 t = if zIdx w d t = c then 1 else 0)
    (h : ∀ ν2, zFm A a b d w μ ν2 (c + 1) → φ ν2) : zOi g zm_X11_comes [.ref 203] ν (fun x8 μ7 => (zR x8) ∧ ((¬ x8 = 0 → φ μ7) ∧ (x8 = 0 → at_X11_tries_96 g φ 0 (zup μ7 203 24 ((μ7 203 24) + 1))))) := by
  have hp := zWF_p hw
  obtain ⟨k1, k2, k3, k4, k5⟩ := zkw_bd hw ha hb h1 h2
  obtain ⟨f1, f2, f3, ⟨B, P, S, f4, f5⟩, f6⟩ := hF
  have hCb : ∀ t, 0 ≤ zC A a b d w c t ∧ zC A a b d w c t < A 0 0 := fun t => zC_bd (by omega)
  have hm81 := (zT_m hw2 (d := d) (by omega)).1
  have hbd : ∀ m, 0 ≤ zfc A a b d w m ∧ zfc A a b d w m ≤ m := fun m => zct_bd
  refine ok_X11_comes (n := zkw A a b) (w := w) (d := d) (c := c) (B := B) (s := fun j => if j = c then 1 else 0) (R := zC A a b d w c) hp.1 k2 (zRM_p0 (f1.RM hR0)) f2.1 f4 f5 ⟨if_pos rfl, fun j => by dsimp only; split <;> omega, fun j hj => if_neg (by omega), fun t ht => ⟨(hCb t).1, (hCb t).2, ?_⟩⟩ hcol hcz hT (fun ν2 s g1 g2 g3 g4 g5 g6 => ?_) (fun ν2 P' S' g1 g2 g3 g4 g5 => ?_)
  · rw [zsm_zero (fun j hj => by dsimp only; rw [if_neg (by omega), Int.zero_mul]), Int.zero_add]
  · have hfr : zfC A a b d w c := ⟨s, g5⟩
    have e24 : ν2 203 24 = zfc A a b d w c := by rw [g1 203 (by omega) (by omega)]; exact f3
    have hz : zfc A a b d w (c + 1) = zfc A a b d w c + 1 := by
      unfold zfc
      rw [zct, zdec_iff.2 hfr, if_pos rfl]
    have hbc := hbd c
    refine ⟨by omega, fun hc => absurd rfl hc, fun _ => ?_⟩
    rw [e24]
    have fr2 : zMs μ ν2 := f1.tr (zMs.row (fun i hi => g1 i (by omega) (by omega)))
    have fr3 : zMs μ (zup ν2 203 24 (zfc A a b d w c + 1)) := fr2.tr (zMs.slot (by omega))
    have base : ∀ ω : zMu, zMs μ ω → (∀ (j : Nat), j ≠ 24 → ω 203 j = ν2 203 j) → ω 203 24 = zfc A a b d w c + 1 → (∀ (i : Nat), i ≠ 203 → i ≠ 219 → ω i = ν2 i) → ((∀ k, k < c + 1 → ¬ zfC A a b d w k) ∨ ∃ (F : Nat) (s : Nat → Int), F < c + 1 ∧ zSol (A 0 0) (zkw A a b) (zC A a b d w) F s ∧ ∀ t, t < 81 → ω 219 t = s (zIdx w d t)) → φ ω := fun ω o1 o2 o3 o4 o5 => by
      refine h ω ⟨o1, zPM_keep f2 (fun j j1 j2 => ?_) ?_ ?_, by rw [o3, hz], ⟨B, P, S, ?_, ?_⟩, o5⟩
      · rw [o2 j (by omega), g1 203 (by omega) (by omega)]
      · rw [o4 212 (by omega) (by omega), g1 212 (by omega) (by omega)]
      · rw [o4 213 (by omega) (by omega), g1 213 (by omega) (by omega)]
      · rw [o2 22 (by omega), g1 203 (by omega) (by omega)]; exact f4
      · rw [o4 215 (by omega) (by omega), o4 216 (by omega) (by omega), o4 217 (by omega) (by omega), g1 215 (by omega) (by omega), g1 216 (by omega) (by omega), g1 217 (by omega) (by omega)]
        exact zBa_free f5 hfr
    refine mo_tries96 (by rw [zup_eq]; omega) (fun e F hF => ?_) (fun e => ?_)
    · rw [zup_eq] at e
      have none : ∀ k, k < c → ¬ zfC A a b d w k := fun k hk hf => by
        have : 1 ≤ zfc A a b d w c := zct_pos (i := k) hk (zdec_iff.2 hf)
        omega
      refine base _ (fr3.tr (zMs.row (fun i hi => zua_nc (by omega)))) (fun j hj => (zua_ne (by omega)).trans (zup_ne (Or.inr hj))) ((zua_ne (by omega)).trans zup_eq) (fun i i1 i2 => (zua_nc i2).trans (zup_nc i1)) (Or.inr ⟨c, s, by omega, ⟨none, g2, g3, g4, fun t ht => ?_⟩, fun t ht => ?_⟩)
      · show (zsm (fun j => s j * zC A a b d w j t) c + s c * zC A a b d w c t) % A 0 0 = 0
        rw [g2, Int.one_mul]; exact g5 t ht
      · rw [zua_eq, hF t ht, zup_ne (Or.inl (by omega))]
        exact g6 t ht
    · rw [zup_eq] at e
      refine base _ fr3 (fun j hj => zup_ne (Or.inr hj)) zup_eq (fun i i1 i2 => zup_nc i1) ?_
      rcases f6 with f6 | ⟨F, s', q1, q2, q3⟩
      · exfalso
        have : zfc A a b d w c = 0 := zct_none (fun i hi => zdec_f (f6 i hi))
        omega
      · exact Or.inr ⟨F, s', by omega, q2, fun t ht => by rw [zup_ne (Or.inl (by omega)), g1 219 (by omega) (by omega)]; exact q3 t ht⟩
  · refine ⟨by omega, fun _ => ?_, fun hc => absurd hc (by omega)⟩
    have e24 : ν2 203 24 = zfc A a b d w c := by rw [g2 24 (by omega)]; exact f3
    refine h ν2 ⟨f1.tr ⟨fun i i1 i2 => g1 i i1 (by omega), fun j hj => g2 j (by omega)⟩, zPM_keep f2 (fun j j1 j2 => g2 j (by omega)) (g1 212 (by omega) (by omega)) (g1 213 (by omega) (by omega)), ?_, ⟨B + 1, P', S', g3, g4⟩, ?_⟩
    · rw [e24]
      unfold zfc
      rw [zct, zdec_f (show ¬ zfC A a b d w c from g5), if_neg (by simp), Int.add_zero]
    · rcases f6 with f6 | ⟨F, s', q1, q2, q3⟩
      · refine Or.inl (fun k hk => ?_)
        by_cases e : k = c
        · rw [e]; exact g5
        · exact f6 k (by omega)
      · exact Or.inr ⟨F, s', by omega, q2, fun t ht => by rw [g1 219 (by omega) (by omega)]; exact q3 t ht⟩
theorem ok_X11_tries {φ : zMu → Prop} {a b d w c i k : Nat} {ν : zMu} (hw : zWF A) (hR0 : zRM A μ) (ha : a < 6) (hb : b < 6) (h1 : A 2 a ≠ 0) (h2 : A 2 b ≠ 0) (hd : d ≤ 8) (hw2 : w < 2) (hc : c < zmT w d) (hi : (zpT w d c).1 = i) (hk : (zpT w d c).2 = k) (hF : zFm A a b d w μ ν c)
    (h : ∀ ν2, zFm A a b d w μ ν2 (c + 1) → φ ν2) : zOv g zm_X11_tries [.ref 203, .int (zJ (d : Int)), .int (zJ (i : Int)), .int (zJ (k : Int)), .int (zJ (w : Int))] ν φ := by
  have hp := zWF_p hw
  obtain ⟨k1, k2, k3, k4, k5⟩ := zkw_bd hw ha hb h1 h2
  obtain ⟨c1, c2, c3, c4⟩ := zT_c hw2 (d := d) (c := c) (by omega) hc
  rw [hi] at c1
  rw [hk] at c2
  obtain ⟨f1, f2, f3, f4, f6⟩ := hF
  -- frames: only rows 214, 218 change until the column stands
  have keep : ∀ ω : zMu, (∀ (x : Nat), x ≠ 214 → x ≠ 218 → ω x = ν x) → zFm A a b d w μ ω c := fun ω o => ⟨f1.tr (zMs.row (fun x hx => o x (by omega) (by omega))), zPM_keep f2 (fun j _ _ => by rw [o 203 (by omega) (by omega)]) (o 212 (by omega) (by omega)) (o 213 (by omega) (by omega)), by rw [o 203 (by omega) (by omega)]; exact f3, by
    obtain ⟨B, P, S, f4, f5⟩ := f4
    exact ⟨B, P, S, by rw [o 203 (by omega) (by omega)]; exact f4, by rw [o 215 (by omega) (by omega), o 216 (by omega) (by omega), o 217 (by omega) (by omega)]; exact f5⟩, by rw [o 219 (by omega) (by omega)]; exact f6⟩
  have hplace : ∀ x y : Nat, x ≤ d → y ≤ d → ((d : Int) + 1) * (x : Int) + (y : Int) = (((d + 1) * x + y : Nat) : Int) := fun x y _ _ => by
    rw [Int.natCast_add, Int.natCast_mul, Int.natCast_add]; rfl
  have hi81 := (zIdx_p hw2 (d := d) (by omega) c1 c2).2
  have hk81 := (zIdx_p hw2 (d := d) (by omega) c2 c1).2
  have hidx : ∀ t, t < 81 → (zIdx w d t = c ↔ (t = (d + 1) * i + k ∨ (w = 1 ∧ t = (d + 1) * k + i))) := fun t ht => by
    have := zIdx_c hw2 (d := d) (c := c) (t := t) (by omega) hc ht
    rw [hi, hk] at this
    exact this
  have hzb : ∀ x y t, 0 ≤ zqc A a b d x y t ∧ zqc A a b d x y t < A 0 0 := fun x y t => zqc_bd (by omega)
  refine sg_X11_tries (ok_X11_emptiesColumn ?_)
  generalize hν1 : zua ν 214 (fun t => if t < 80 then 0 else ν 214 t) = ν1
  have g214 : ∀ t, t < 80 → ν1 214 t = 0 := fun t ht => by rw [← hν1, zua_eq, if_pos ht]
  have go : ∀ (x : Nat), x ≠ 214 → ν1 x = ν x := fun x hx => by rw [← hν1]; exact zua_nc hx
  -- the terms are emptied, then the column is made
  have made : at_X11_tries_7 g φ (d : Int) (i : Int) (k : Int) (w : Int) 81 (zua ν1 218 (fun x => if x < 81 then 0 else ν1 218 x)) := by
    have u0 : ∀ (x : Nat), x ≠ 214 → x ≠ 218 → zua ν1 218 (fun x => if x < 81 then 0 else ν1 218 x) x = ν x := fun x x1 x2 => (zua_nc x2).trans (go x x1)
    have K0 := keep _ u0
    refine sg_X11_tries_7 ⟨by omega, fun _ => ?_, fun hc => absurd hc (by omega)⟩
    refine ok_X11_adds (g := g) (a := a) (b := b) (d := d) (i := i) (k := k) (c := 1) (R := fun _ => 0) (μ := zua ν1 218 (fun x => if x < 81 then 0 else ν1 218 x)) hw (zRM_p0 (K0.1.RM hR0)) ha hb h1 h2 hd c1 c2 K0.2.1 (by omega) (fun t ht => ⟨by rw [zua_ne (by omega)]; exact g214 t (by omega), by omega⟩) (fun F hF hFz => sg_X11_place ?_)
    rw [hplace i k c1 c2]
    refine ⟨by omega, by omega, ?_⟩
    rw [Int.toNat_natCast]
    generalize hν2 : zup (zua (zua ν1 218 (fun x => if x < 81 then 0 else ν1 218 x)) 214 F) 218 ((d + 1) * i + k) 1 = ν2
    have v0 : ∀ (x : Nat), x ≠ 214 → x ≠ 218 → ν2 x = ν x := fun x x1 x2 => by rw [← hν2]; exact (zup_nc x2).trans ((zua_nc x1).trans (u0 x x1 x2))
    have v214 : ∀ t, ν2 214 t = F t := fun t => by rw [← hν2, zup_ne (Or.inl (by omega)), zua_eq]
    have v218 : ∀ t, t < 81 → ν2 218 t = if t = (d + 1) * i + k then 1 else 0 := fun t ht => by
      rw [← hν2]
      by_cases e : t = (d + 1) * i + k
      · rw [e, zup_eq, if_pos rfl]
      · rw [zup_ne (Or.inr e), zua_ne (by omega), zua_eq, if_pos ht, if_neg e]
    have vz : ∀ t, zkw A a b ≤ t → t < 80 → ν2 214 t = 0 := fun t t1 t2 => by rw [v214, hFz t t1, zua_ne (by omega)]; exact g214 t t2
    have vF : ∀ t, t < zkw A a b → ν2 214 t = zqc A a b d i k t := fun t ht => by
      rw [v214, hF t ht, Int.zero_add, Int.one_mul, Int.emod_eq_of_lt (hzb i k t).1 (hzb i k t).2]
    have single : ¬ (w = 1 ∧ i ≠ k) → zOi g zm_X11_comes [.ref 203] ν2 (fun x8 μ7 => (zR x8) ∧ ((¬ x8 = 0 → φ μ7) ∧ (x8 = 0 → at_X11_tries_96 g φ 0 (zup μ7 203 24 ((μ7 203 24) + 1))))) := fun hn => by
      refine mo_tried (μ := μ) hw hR0 ha hb h1 h2 hd hw2 hc (keep ν2 v0) (fun t ht => ?_) vz (fun t ht => ?_) h
      · rw [vF t ht]
        unfold zC
        rw [hi, hk, if_neg hn]
      · rw [v218 t ht]
        have := hidx t ht
        by_cases e : zIdx w d t = c
        · rw [if_pos e]
          rcases this.1 e with q | ⟨q0, q⟩
          · rw [if_pos q]
          · have : i = k := by
              by_cases z : i = k
              · exact z
              · exact absurd ⟨q0, z⟩ hn
            subst this
            rw [if_pos q]
        · rw [if_neg e, if_neg (fun q => e (this.2 (Or.inl q)))]
    refine ⟨fun q => single (by omega), fun q => ⟨by omega, by omega, fun q3 => single (by omega), fun q3 => ?_⟩⟩
    have K2 := keep ν2 v0
    refine ok_X11_adds (g := g) (a := a) (b := b) (d := d) (i := k) (k := i) (c := 1) (R := fun t => zqc A a b d i k t) (μ := ν2) hw (zRM_p0 (K2.1.RM hR0)) ha hb h1 h2 hd c2 c1 K2.2.1 (by omega) (fun t ht => ⟨vF t ht, hzb i k t⟩) (fun F2 hF2 hF2z => sg_X11_place ?_)
    rw [hplace k i c2 c1]
    refine ⟨by omega, ?_⟩
    rw [Int.toNat_natCast]
    have hw1 : w = 1 := by omega
    have hik : i ≠ k := by omega
    refine mo_tried (μ := μ) hw hR0 ha hb h1 h2 hd hw2 hc (keep _ (fun x x1 x2 => (zup_nc x2).trans ((zua_nc x1).trans (v0 x x1 x2)))) (fun t ht => ?_) (fun t t1 t2 => ?_) (fun t ht => ?_) h
    · rw [zup_ne (Or.inl (by omega)), zua_eq, hF2 t ht, Int.one_mul]
      unfold zC
      rw [hi, hk, if_pos ⟨hw1, hik⟩]
    · rw [zup_ne (Or.inl (by omega)), zua_eq, hF2z t t1]; exact vz t t1 t2
    · have := hidx t ht
      by_cases e2 : t = (d + 1) * k + i
      · rw [e2, zup_eq, if_pos (by rw [← e2]; exact this.2 (Or.inr ⟨hw1, e2⟩))]
      · rw [zup_ne (Or.inr e2), zua_ne (by omega), v218 t ht]
        by_cases e : t = (d + 1) * i + k
        · rw [if_pos e, if_pos (this.2 (Or.inl e))]
        · rw [if_neg e, if_neg (fun q => by
            rcases this.1 q with z | ⟨_, z⟩
            · exact e z
            · exact e2 z)]
  have loop : ∀ m t : Nat, t + m = 81 → at_X11_tries_7 g φ (d : Int) (i : Int) (k : Int) (w : Int) (t : Int) (zua ν1 218 (fun x => if x < t then 0 else ν1 218 x)) := by
    intro m
    induction m with
    | zero =>
      intro t ht
      have e : t = 81 := by omega
      subst e
      exact made
    | succ m ih =>
      intro t ht
      refine sg_X11_tries_7 ⟨by omega, fun hc => absurd hc (by omega), fun _ => ⟨by omega, ?_⟩⟩
      rw [Int.toNat_natCast, zup_zua, zua_congr (h := fun x => if x < t + 1 then 0 else ν1 218 x) (fun x => by
        by_cases q : x = t
        · rw [if_pos q, if_pos (by omega)]
        · rw [if_neg q]
          by_cases q2 : x < t
          · rw [if_pos q2, if_pos (by omega)]
          · rw [if_neg q2, if_neg (by omega)])]
      have := ih (t + 1) (by omega)
      rw [Int.natCast_add] at this
      exact this
  have k0 := loop 81 0 (by omega)
  rw [zua_self (fun x => if_neg (by omega))] at k0
  exact k0
theorem mx_find {φ : Int → zMu → Prop} {a b d w : Int} (hw : zWF A) (hR : zRM A μ) (ha : zR a) (hb : zR b) (hd : zR d) (hww : zR w) (h : zHm φ μ (st_find A a b d w)) : zOi g zm_X11_find [.ref 203, .int (zJ a), .int (zJ b), .int (zJ d), .int (zJ w)] μ φ := by
  have hp := zWF_p hw
  have h1 : ¬ (0 ≤ a ∧ a < 6) ∨ ¬ (0 ≤ b ∧ b < 6) → φ (-1) μ := fun q => h.at (if_pos q) rfl hR (zKc.refl μ)
  have h2 : (0 ≤ a ∧ a < 6) ∧ (0 ≤ b ∧ b < 6) → (¬ (1 ≤ d ∧ d ≤ 8) ∨ ¬ (0 ≤ w ∧ w ≤ 1)) → φ (-2) μ := fun q q2 => h.at ((if_neg (by omega)).trans (if_pos q2)) rfl hR (zKc.refl μ)
  refine sg_X11_find (ok_X11_isSeries ha (fun qa => ⟨by omega, fun hc => absurd hc (by omega), fun _ => ok_X11_isSeries hb (fun qb => ⟨by omega, fun _ => ⟨hd, ok_X11_in (by omega) (by omega) (by omega) (fun qd => ⟨by omega, fun hc => absurd hc (by omega), fun _ => ⟨hww, ok_X11_in (by omega) (by omega) (by omega) (fun qw => ⟨by omega, fun _ => ?_, fun hc => absurd hc (by omega)⟩) (fun q => ⟨by omega, fun hc => absurd rfl hc, fun _ => h2 ⟨qa, qb⟩ (by omega)⟩)⟩⟩) (fun q => ⟨by omega, fun _ => h2 ⟨qa, qb⟩ (by omega), fun hc => absurd rfl hc⟩)⟩, fun hc => absurd hc (by omega)⟩) (fun q => ⟨by omega, fun hc => absurd rfl hc, fun _ => h1 (by omega)⟩)⟩) (fun q => ⟨by omega, fun _ => h1 (by omega), fun hc => absurd rfl hc⟩))
  obtain ⟨a, rfl⟩ : ∃ q : Nat, a = q := ⟨a.toNat, by omega⟩
  obtain ⟨b, rfl⟩ : ∃ q : Nat, b = q := ⟨b.toNat, by omega⟩
  obtain ⟨d, rfl⟩ : ∃ q : Nat, d = q := ⟨d.toNat, by omega⟩
  obtain ⟨w, rfl⟩ : ∃ q : Nat, w = q := ⟨w.toNat, by omega⟩
  unfold st_find at h
  rw [if_neg (by omega), if_neg (by omega)] at h
  simp only [Int.toNat_natCast] at h
  obtain ⟨s1, s2, s3⟩ := zRM_sr hR (s := a) (by omega)
  obtain ⟨u1, u2, u3⟩ := zRM_sr hR (s := b) (by omega)
  obtain ⟨_, b2, _⟩ := zWF_s hw (s := a) (by omega)
  obtain ⟨_, c2, _⟩ := zWF_s hw (s := b) (by omega)
  have hmiss : A 2 a = 0 ∨ A 2 b = 0 → φ (-11) μ := fun q => h.at (if_pos q) rfl hR (zKc.refl μ)
  refine ok_X11_isThere (by omega) (by omega) (fun m1 => ⟨by omega, fun hc => absurd hc (by omega), fun _ => ?_⟩) (fun m1 => ⟨by omega, fun _ => hmiss (by omega), fun hc => absurd rfl hc⟩)
  refine ok_X11_isThere (by omega) (by omega) (fun m2 => ⟨by omega, fun _ => ?_, fun hc => absurd hc (by omega)⟩) (fun m2 => ⟨by omega, fun hc => absurd rfl hc, fun _ => hmiss (by omega)⟩)
  rw [if_neg (by omega)] at h
  have hw2 : w < 2 := by omega
  have hd9 : d < 9 := by omega
  obtain ⟨m1, m2, m3⟩ := zT_m hw2 hd9
  have hbd : ∀ m, 0 ≤ zfc A a b d w m ∧ zfc A a b d w m ≤ m := fun m => zct_bd
  refine ok_X11_tellsPowers (d := d) hw hR (by omega) (by omega) (by omega) (by omega) (by omega) rfl (fun ν r1 r2 => ?_)
  -- the end: the columns are through
  have fin : ∀ ω, zFm A a b d w μ ω (zmT w d) → at_X11_find_81 g φ (d : Int) (w : Int) ((d : Int) + 1) ω := fun ω hF => by
    obtain ⟨f1, f2, f3, f4, f6⟩ := hF
    have hR1 := f1.RM hR
    have hb24 := hbd (zmT w d)
    refine sg_X11_find_81 ⟨by omega, by omega, fun _ => ⟨by omega, fun hne => ?_, fun h0 => ?_⟩, fun hc => absurd hc (by omega)⟩
    · rcases f6 with f6 | ⟨F, s, q1, q2, q3⟩
      · exfalso
        have : zfc A a b d w (zmT w d) = 0 := zct_none (fun i hi => zdec_f (f6 i hi))
        omega
      · have hsl : zSl A a b d w F s := ⟨q1, q2⟩
        rw [if_pos ⟨s, F, hsl⟩, zslv_eq hp.1 hsl] at h
        have h : ∀ μ', zRM (zup (zua A 4 (zEq w d s)) 3 0 (d : Int)) μ' → zKc μ μ' → φ (zfc A a b d w (zmT w d)) μ' := h
        have copy : ∀ m t : Nat, t + m = 81 → at_X11_find_157 g φ (t : Int) (zua (zup ω 203 4 (d : Int)) 207 (fun x => if x < t then ω 219 x else ω 207 x)) := by
          intro m
          induction m with
          | zero =>
            intro t ht
            have e : t = 81 := by omega
            subst e
            refine sg_X11_find_157 ⟨by omega, fun _ => ?_, fun hc => absurd hc (by omega)⟩
            have e24 : zua (zup ω 203 4 (d : Int)) 207 (fun x => if x < 81 then ω 219 x else ω 207 x) 203 24 = zfc A a b d w (zmT w d) := by rw [zua_ne (by omega), zup_ne (Or.inr (by omega))]; exact f3
            rw [e24]
            have e3 : ∀ E, zup (zua A 4 E) 3 0 (d : Int) 3 0 = d := fun E => zup_eq
            have eo : ∀ E (i : Nat), i ≠ 3 → i ≠ 4 → zup (zua A 4 E) 3 0 (d : Int) i = A i := fun E i q1 q2 => (zup_nc q1).trans (zua_nc q2)
            have e4 : ∀ E, zup (zua A 4 E) 3 0 (d : Int) 4 = E := fun E => (zup_nc (by omega)).trans zua_row
            have fs : ∀ (j : Nat), j ≠ 4 → zua (zup ω 203 4 (d : Int)) 207 (fun x => if x < 81 then ω 219 x else ω 207 x) 203 j = ω 203 j := fun j hj => (zua_ne (by omega)).trans (zup_ne (Or.inr hj))
            have fo : ∀ (i : Nat), i ≠ 203 → i ≠ 207 → zua (zup ω 203 4 (d : Int)) 207 (fun x => if x < 81 then ω 219 x else ω 207 x) i = ω i := fun i i1 i2 => (zua_nc i2).trans (zup_nc i1)
            obtain ⟨n1, n2, n3, n4, n5⟩ := hR1.1
            simp only [Nat.zero_add] at n1 n2 n3 n4 n5
            refine h _ (zRM_n hR1 (fun i hi => eo _ i (by omega) (by omega)) (fun j _ _ j4 => fs j j4) (fun i hi h8 => fo i (by omega) (by omega)) ⟨?_, fun s' hs' => ?_, ?_, fun _ i k hi hk => ?_, fun q hq => ?_⟩) (fun i hi => (fo i (by omega) (by omega)).trans (f1.K i hi))
            · rw [eo _ 0 (by omega) (by omega), fs 0 (by omega)]; exact n1
            · simp only [Nat.zero_add]
              rw [eo _ 1 (by omega) (by omega), eo _ 2 (by omega) (by omega), eo _ (10 + s') (by omega) (by omega), fo 204 (by omega) (by omega), fo 205 (by omega) (by omega), fo 206 (by omega) (by omega)]; exact n2 s' hs'
            · simp only [Nat.zero_add]
              rw [e3, zua_ne (by omega), zup_eq]
            · simp only [Nat.zero_add] at hi hk ⊢
              rw [e3] at hi hk
              rw [e3, e4, Int.toNat_natCast, zua_eq]
              obtain ⟨w1, w2⟩ := zIdx_p hw2 hd9 (i := i) (k := k) (by omega) (by omega)
              rw [if_pos w2, q3 _ w2, w1]
              unfold zEq
              rw [show (9 * i + k) / 9 = i by omega, show (9 * i + k) % 9 = k by omega, if_pos (by omega)]
            · simp only [Nat.zero_add]
              rw [eo _ 5 (by omega) (by omega), eo _ 6 (by omega) (by omega), eo _ (20 + q) (by omega) (by omega), fo 208 (by omega) (by omega)]; exact n5 q hq
          | succ m ih =>
            intro t ht
            refine sg_X11_find_157 ⟨by omega, fun hc => absurd hc (by omega), fun _ => ⟨by omega, ?_⟩⟩
            rw [Int.toNat_natCast, zua_ne (a := 219) (by omega), zup_ne (μ := ω) (a := 219) (Or.inl (by omega)), zup_zua, zua_congr (h := fun x => if x < t + 1 then ω 219 x else ω 207 x) (fun x => by
              by_cases q : x = t
              · rw [if_pos q, q, if_pos (by omega)]
              · rw [if_neg q]
                by_cases q2 : x < t
                · rw [if_pos q2, if_pos (by omega)]
                · rw [if_neg q2, if_neg (by omega)])]
            have := ih (t + 1) (by omega)
            rw [Int.natCast_add] at this
            exact this
        have k0 := copy 81 0 (by omega)
        rw [zua_self (fun x => by rw [if_neg (by omega), zup_ne (Or.inl (by omega))])] at k0
        exact k0
    · rw [if_neg (fun ⟨s, F, z1, z2⟩ => by
        have : 1 ≤ zfc A a b d w (zmT w d) := zct_pos (i := F) z1 (zdec_iff.2 (zSol_fr z2))
        omega)] at h
      exact h _ hR1 f1.K
  -- the loops
  have outer : ∀ m i : Nat, i + m = d + 1 → ∀ ω, zFm A a b d w μ ω (zbT w d i) → at_X11_find_81 g φ (d : Int) (w : Int) (i : Int) ω := by
    intro m
    induction m with
    | zero =>
      intro i hi ω hF
      have ei : i = d + 1 := by omega
      subst ei
      rw [Int.natCast_add]
      exact fin ω hF
    | succ m ih =>
      intro i hi ω hF
      have hn := zT_next hw2 hd9 (i := i) (by omega)
      have hm := m3 i (by omega)
      have hg8 : zgT w d i ≤ 8 := by
        unfold zgT
        split <;> omega
      have inner : ∀ f2 k : Nat, k + f2 = zgT w d i + 1 → ∀ ω, zFm A a b d w μ ω (zbT w d i + k) → at_X11_find_90 g φ (d : Int) (w : Int) (i : Int) (k : Int) ω := by
        intro f2
        induction f2 with
        | zero =>
          intro k hk ω hF
          have k0 := ih (i + 1) (by omega) ω (by rw [hn, show zbT w d i + zgT w d i + 1 = zbT w d i + k by omega]; exact hF)
          rw [Int.natCast_add] at k0
          have hk9 : k ≤ 9 := by omega
          unfold zgT at hk
          refine sg_X11_find_90 ⟨by omega, fun q => ⟨by omega, by omega, fun _ => k0, fun hc => ?_⟩, fun q => ⟨by omega, by omega, fun _ => k0, fun hc => ?_⟩⟩
          · rw [if_neg (by omega)] at hk; omega
          · rw [if_pos (by omega)] at hk; omega
        | succ f2 ih2 =>
          intro k hk ω hF
          obtain ⟨q1, q2⟩ := zT_p hw2 hd9 (i := i) (k := k) (by omega) (by omega)
          have step : zOv g zm_X11_tries [.ref 203, .int (zJ (d : Int)), .int (zJ (i : Int)), .int (zJ (k : Int)), .int (zJ (w : Int))] ω (fun μ4 => at_X11_find_90 g φ (d : Int) (w : Int) (i : Int) ((k : Int) + 1) μ4) := by
            refine ok_X11_tries (μ := μ) hw hR (by omega) (by omega) (by omega) (by omega) (by omega) hw2 (by omega) q1 q2 hF (fun ν2 hF2 => ?_)
            have := ih2 (k + 1) (by omega) ν2 hF2
            rw [Int.natCast_add] at this
            exact this
          have hk9 : k ≤ 9 := by omega
          unfold zgT at hk
          refine sg_X11_find_90 ⟨by omega, fun q => ⟨by omega, by omega, fun hc => ?_, fun _ => ⟨fun _ => ?_, fun hc => absurd hc q⟩⟩, fun q => ⟨by omega, by omega, fun hc => ?_, fun _ => ⟨fun hc => absurd q hc, fun _ => ?_⟩⟩⟩
          · rw [if_neg (by omega)] at hk; omega
          · have ew : w = 0 := by omega
            rw [ew] at step ⊢
            exact step
          · rw [if_pos (by omega)] at hk; omega
          · have ew : w = 1 := by omega
            rw [ew] at step ⊢
            exact step
      exact sg_X11_find_81 ⟨by omega, by omega, fun hc => absurd hc (by omega), fun _ => inner (zgT w d i + 1) 0 (by omega) ω hF⟩
  have k0 := outer (d + 1) 0 (by omega) (zup (zup ν 203 22 0) 203 24 0) (by
    rw [m2]
    refine ⟨r1.tr ((zMs.slot (by omega)).tr (zMs.slot (by omega))), zPM_keep r2 (fun j _ _ => (zup_ne (Or.inr (by omega))).trans (zup_ne (Or.inr (by omega)))) ((zup_nc (by omega)).trans (zup_nc (by omega))) ((zup_nc (by omega)).trans (zup_nc (by omega))), ?_, ⟨0, fun _ => 0, fun _ _ => 0, ?_, ⟨fun b hb => absurd hb (by omega), fun _ b _ hb => absurd hb (by omega), fun j hj => absurd hj (by omega), ?_⟩⟩, Or.inl (fun k hk => absurd hk (by omega))⟩
    · rw [zup_eq]; rfl
    · rw [zup_ne (Or.inr (by omega)), zup_eq]; rfl
    · rw [zct_none (fun e _ => zdec_f (fun ⟨b, hb, _⟩ => absurd hb (by omega)))]; rfl)
  exact k0
end FEN
