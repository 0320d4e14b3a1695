/-! DISTANCES: the model's layers -/
theorem zup_self {μ : zMu} {i j : Nat} : zup μ i j (μ i j) = μ := by
  funext a b
  by_cases h : a = i ∧ b = j
  · rw [h.1, h.2, zup_eq]
  · exact if_neg h
/-- what is known behind n layers -/
def zLy (A : zMu) (v n : Nat) (F : Nat → Int) : Prop := ∀ (w : Nat), (w : Int) < A 0 0 → (∃ k : Nat, k ≤ n ∧ F w = k ∧ zrb A v k w ∧ ∀ m, m < k → ¬ zrb A v m w) ∨ (F w = -5 ∧ ∀ m, m ≤ n → ¬ zrb A v m w)
/-- a layer under way: S says which values were told of -/
def zGr (P : Int) (F : Nat → Int) (n : Nat) (S : Nat → Prop) (G : Nat → Int) (fl : Int) : Prop :=
  (∀ (x : Nat), (x : Int) < P → (F x ≠ -5 → G x = F x) ∧ (F x = -5 → (G x = (n : Int) + 1 ∧ S x) ∨ (G x = -5 ∧ ¬ S x))) ∧ ((fl = 1 ∧ ∃ x : Nat, (x : Int) < P ∧ F x = -5 ∧ S x) ∨ (fl = 0 ∧ ∀ (x : Nat), (x : Int) < P → F x = -5 → ¬ S x))
theorem zGr_iff {P : Int} {F G : Nat → Int} {n : Nat} {S T : Nat → Prop} {fl : Int} (h : zGr P F n S G fl) (e : ∀ (x : Nat), (x : Int) < P → (S x ↔ T x)) : zGr P F n T G fl := by
  refine ⟨fun x hx => ⟨(h.1 x hx).1, fun q => ((h.1 x hx).2 q).imp (fun z => ⟨z.1, (e x hx).1 z.2⟩) (fun z => ⟨z.1, fun y => z.2 ((e x hx).2 y)⟩)⟩, h.2.imp (fun z => ⟨z.1, ?_⟩) (fun z => ⟨z.1, fun x hx q y => z.2 x hx q ((e x hx).2 y)⟩)⟩
  obtain ⟨x, h1, h2, h3⟩ := z.2
  exact ⟨x, h1, h2, (e x h1).1 h3⟩
theorem zGr_new {P : Int} {F G G' : Nat → Int} {n y : Nat} {S : Nat → Prop} {fl : Int} (h : zGr P F n S G fl) (hy : (y : Int) < P) (hn : G y = -5) (hG : ∀ x, G' x = if x = y then (n : Int) + 1 else G x) : zGr P F n (fun x => S x ∨ x = y) G' (zor fl 1) := by
  obtain ⟨o1, o2, o3, o4⟩ := zor_x
  have hF : F y = -5 := by
    by_cases e : F y = -5
    · exact e
    · rw [← (h.1 y hy).1 e]; exact hn
  refine ⟨fun x hx => ?_, Or.inl ⟨by rcases h.2 with ⟨e, _⟩ | ⟨e, _⟩ <;> rw [e] <;> assumption, y, hy, hF, Or.inr rfl⟩⟩
  by_cases e : x = y
  · subst e
    rw [hG, if_pos rfl]
    exact ⟨fun q => absurd hF q, fun _ => Or.inl ⟨rfl, Or.inr rfl⟩⟩
  · rw [hG, if_neg e]
    refine ⟨(h.1 x hx).1, fun q => ((h.1 x hx).2 q).imp (fun z => ⟨z.1, Or.inl z.2⟩) (fun z => ⟨z.1, fun t => ?_⟩)⟩
    rcases t with t | t
    · exact z.2 t
    · exact e t
theorem zGr_old {P : Int} {F G : Nat → Int} {n y : Nat} {S : Nat → Prop} {fl : Int} (h : zGr P F n S G fl) (hy : (y : Int) < P) (hn : G y ≠ -5) : zGr P F n (fun x => S x ∨ x = y) G (zor fl 0) := by
  obtain ⟨o1, o2, o3, o4⟩ := zor_x
  have hS : F y = -5 → S y := fun q => by
    rcases (h.1 y hy).2 q with z | z
    · exact z.2
    · exact absurd z.1 hn
  refine ⟨fun x hx => ⟨(h.1 x hx).1, fun q => ((h.1 x hx).2 q).imp (fun z => ⟨z.1, Or.inl z.2⟩) (fun z => ⟨z.1, fun t => ?_⟩)⟩, ?_⟩
  · rcases t with t | t
    · exact z.2 t
    · subst t; exact z.2 (hS q)
  · rcases h.2 with ⟨e, x, h1, h2, h3⟩ | ⟨e, z⟩
    · exact Or.inl ⟨by rw [e]; assumption, x, h1, h2, Or.inl h3⟩
    · refine Or.inr ⟨by rw [e]; assumption, fun x hx q t => ?_⟩
      rcases t with t | t
      · exact z x hx q t
      · subst t; exact z x hx q (hS q)
/-- behind the layer -/
theorem zLy_next {A : zMu} {v n : Nat} {F G : Nat → Int} {fl : Int} (h : zLy A v n F) (hg : zGr (A 0 0) F n (fun x => ∃ u : Nat, (u : Int) < A 0 0 ∧ F u = n ∧ zegd A u x) G fl) : zLy A v (n + 1) G := by
  intro w hw
  have hgw := hg.1 w hw
  rcases h w hw with ⟨k, h1, h2, h3, h4⟩ | ⟨h1, h2⟩
  · refine Or.inl ⟨k, by omega, ?_, h3, h4⟩
    rw [hgw.1 (by omega), h2]
  · rcases hgw.2 h1 with ⟨z1, u, hu, z2, z3⟩ | ⟨z1, z2⟩
    · refine Or.inl ⟨n + 1, by omega, by rw [z1]; rfl, ?_, fun m hm => h2 m (by omega)⟩
      rcases h u hu with ⟨k, q1, q2, q3, _⟩ | ⟨q1, _⟩
      · have e : k = n := by omega
        subst e
        exact Or.inr ⟨u, hu, q3, z3⟩
      · omega
    · refine Or.inr ⟨z1, fun m hm hr => ?_⟩
      by_cases e : m = n + 1
      · subst e
        rcases hr with hr | ⟨u, hu, r1, r2⟩
        · exact h2 n (by omega) hr
        · rcases h u hu with ⟨k, q1, q2, q3, _⟩ | ⟨_, q2⟩
          · by_cases e2 : k = n
            · subst e2
              exact z2 ⟨u, hu, q2, r2⟩
            · exact h2 (k + 1) (by omega) (Or.inr ⟨u, hu, q3, r2⟩)
          · exact q2 n (by omega) r1
      · exact h2 m (by omega) hr
/-- nothing new: that is all -/
theorem zLy_end {A : zMu} {v n : Nat} {F G : Nat → Int} (h : zLy A v n F) (hg : zGr (A 0 0) F n (fun x => ∃ u : Nat, (u : Int) < A 0 0 ∧ F u = n ∧ zegd A u x) G 0) {w : Nat} (hw : (w : Int) < A 0 0) : G w = zds A v w := by
  have hS : ∀ (x : Nat), (x : Int) < A 0 0 → F x = -5 → ¬ ∃ u : Nat, (u : Int) < A 0 0 ∧ F u = n ∧ zegd A u x := by
    rcases hg.2 with ⟨e, _⟩ | ⟨_, e⟩
    · exact absurd e (by omega)
    · exact e
  have h1 := zLy_next h hg
  have key : ∀ m (x : Nat), (x : Int) < A 0 0 → zrb A v (n + m) x → zrb A v n x := by
    intro m
    induction m with
    | zero => exact fun x _ hx => hx
    | succ m ih =>
      intro x hx hr
      rcases hr with hr | ⟨u, hu, r1, r2⟩
      · exact ih x hx hr
      · have r3 : zrb A v (n + 1) x := Or.inr ⟨u, hu, ih u hu r1, r2⟩
        rcases h1 x hx with ⟨k, k1, k2, k3, k4⟩ | ⟨_, q2⟩
        · by_cases e : k = n + 1
          · subst e
            rcases (hg.1 x hx) with ⟨g1, g2⟩
            by_cases ef : F x = -5
            · rcases g2 ef with ⟨_, z⟩ | ⟨z, _⟩
              · exact absurd z (hS x hx ef)
              · omega
            · rcases h x hx with ⟨k', q1, q2, q3, _⟩ | ⟨q1, _⟩
              · exact zrb_le q3 q1
              · exact absurd q1 ef
          · exact zrb_le k3 (by omega)
        · exact absurd r3 (q2 (n + 1) (by omega))
  rcases h1 w hw with ⟨k, k1, k2, k3, k4⟩ | ⟨q1, q2⟩
  · rw [zds_eq k3 k4, k2]
  · rw [q1, zds_no (fun m hm => ?_)]
    by_cases e : m ≤ n + 1
    · exact q2 m e hm
    · obtain ⟨t, rfl⟩ : ∃ t, m = n + t := ⟨m - n, by omega⟩
      exact q2 n (by omega) (key t w hw hm)
section AWM
variable {g : zG} {μ A : zMu}
/-- what a layer leaves -/
def zMf (μ ν : zMu) : Prop := (∀ (i : Nat), i ≠ 203 → i ≠ 220 → i ≠ 221 → i ≠ 222 → ν i = μ i) ∧ ∀ (j : Nat), j ≠ 28 → ν 203 j = μ 203 j
theorem zMf.RM {ν : zMu} (h : zMf μ ν) (hR : zRM A μ) : zRM A ν := zRM_s hR (fun j hj => h.2 j (by unfold zhS at hj; omega)) (fun i hi => h.1 i (by unfold zhM at hi; omega) (by unfold zhM at hi; omega) (by unfold zhM at hi; omega) (by unfold zhM at hi; omega))
theorem zMf.K {ν : zMu} (h : zMf μ ν) : zKc μ ν := fun i hi => h.1 i (by omega) (by omega) (by omega) (by omega)
theorem zMf.up {ν : zMu} {j : Nat} {x : Int} (h : zMf μ ν) : zMf μ (zup ν 222 j x) := ⟨fun i h1 h2 h3 h4 => (zup_nc h4).trans (h.1 i h1 h2 h3 h4), fun j hj => (zup_ne (Or.inl (by omega))).trans (h.2 j hj)⟩
theorem mo_away77 {φ : zMu → Prop} {F : Nat → Int} {n u : Nat} {l : List Int} {S : Nat → Prop} (hw : zWF A) (hl : zvn A u = some l) (hR0 : zRM A μ) (hn : n ≤ 199) (hF : ∀ (x : Nat), (x : Int) < A 0 0 → zR (F x))
    (K : ∀ (fl : Int) (ν : zMu), zMf μ ν → zGr (A 0 0) F n (fun x => S x ∨ zegd A u x) (ν 222) fl → at_X11_tellsAway_45 g φ fl (n : Int) ((u : Int) + 1) ν) : ∀ m t : Nat, t + m = l.length → ∀ (fl : Int) (ν : zMu), zMf μ ν → ν 203 28 = (l.length : Int) → (∀ k, k < l.length → ν 221 k = l.getD k 0) → zGr (A 0 0) F n (fun x => S x ∨ ∃ j, j < t ∧ l.getD j 0 = (x : Int)) (ν 222) fl → at_X11_tellsAway_77 g φ fl (n : Int) (u : Int) (t : Int) ν := by
  have hp := zWF_p hw
  have hd := zWF_d hw
  have hlen := znbs_len hl
  intro m
  induction m with
  | zero =>
    intro t ht fl ν hf h28 h221 hg
    refine sg_X11_tellsAway_77 ⟨by omega, by omega, fun _ => K fl ν hf (zGr_iff hg (fun x hx => ?_)), fun hc => absurd hc (by omega)⟩
    refine or_congr Iff.rfl ⟨fun ⟨j, hj, e⟩ => ⟨l, hl, zmem_getD.2 ⟨j, by omega, e⟩⟩, fun ⟨l2, h1, h2⟩ => ?_⟩
    rw [hl] at h1
    rw [← Option.some.inj h1] at h2
    obtain ⟨j, hj, e⟩ := zmem_getD.1 h2
    exact ⟨j, by omega, e⟩
  | succ m ih =>
    intro t ht fl ν hf h28 h221 hg
    refine sg_X11_tellsAway_77 ⟨by omega, by omega, fun hc => absurd hc (by omega), fun _ => ⟨by omega, ?_⟩⟩
    rw [Int.toNat_natCast, h221 t (by omega)]
    have hm : l.getD t 0 ∈ l := zmem_getD.2 ⟨t, by omega, rfl⟩
    have hmb := znbs_mem hl hm
    obtain ⟨w, hwe⟩ : ∃ w : Nat, l.getD t 0 = w := ⟨(l.getD t 0).toNat, by omega⟩
    rw [hwe] at hmb ⊢
    rw [Int.toNat_natCast]
    have hS : ∀ x : Nat, (x : Int) < A 0 0 → (((S x ∨ ∃ j, j < t ∧ l.getD j 0 = (x : Int)) ∨ x = w) ↔ (S x ∨ ∃ j, j < t + 1 ∧ l.getD j 0 = (x : Int))) := fun x hx => by
      constructor
      · rintro ((q | ⟨j, hj, e⟩) | rfl)
        · exact Or.inl q
        · exact Or.inr ⟨j, by omega, e⟩
        · exact Or.inr ⟨t, by omega, hwe⟩
      · rintro (q | ⟨j, hj, e⟩)
        · exact Or.inl (Or.inl q)
        · by_cases ej : j = t
          · subst ej
            rw [hwe] at e
            exact Or.inr (by omega)
          · exact Or.inl (Or.inr ⟨j, by omega, e⟩)
    have hgw := hg.1 w hmb.2
    have hrw : zR (ν 222 w) := by
      by_cases e : F w = -5
      · rcases hgw.2 e with ⟨z, _⟩ | ⟨z, _⟩ <;> omega
      · rw [hgw.1 e]; exact hF w hmb.2
    refine ⟨by omega, hrw, fun q => ⟨fun _ => ?_, fun hc => absurd hc q⟩, fun q => ⟨fun hc => absurd q hc, fun _ => ?_⟩⟩
    · rw [zup_self]
      have := ih (t + 1) (by omega) (zor fl 0) ν hf h28 h221 (zGr_iff (zGr_old hg hmb.2 q) hS)
      rw [Int.natCast_add] at this
      exact this
    · have := ih (t + 1) (by omega) (zor fl 1) (zup ν 222 w ((n : Int) + 1)) hf.up (by rw [zup_ne (Or.inl (by omega))]; exact h28) (fun k hk => by rw [zup_ne (Or.inl (by omega))]; exact h221 k hk) (zGr_iff (zGr_new hg hmb.2 q (fun x => by
        by_cases e : x = w
        · rw [e, zup_eq, if_pos rfl]
        · rw [zup_ne (Or.inr e), if_neg e])) hS)
      rw [Int.natCast_add] at this
      exact this
theorem mo_away45 {φ : zMu → Prop} {F : Nat → Int} {n v : Nat} (hw : zWF A) (h0 : A 3 0 ≠ 0) (hR0 : zRM A μ) (hn : n ≤ 199) (hL : zLy A v n F)
    (K : ∀ (fl : Int) (ν : zMu), zMf μ ν → zGr (A 0 0) F n (fun x => ∃ u : Nat, (u : Int) < A 0 0 ∧ F u = n ∧ zegd A u x) (ν 222) fl → at_X11_tellsAway_36 g φ fl ((n : Int) + 1) ν) : ∀ m t : Nat, t + m = (A 0 0).toNat → ∀ (fl : Int) (ν : zMu), zMf μ ν → zGr (A 0 0) F n (fun x => ∃ u : Nat, u < t ∧ F u = n ∧ zegd A u x) (ν 222) fl → at_X11_tellsAway_45 g φ fl (n : Int) (t : Int) ν := by
  have hp := zWF_p hw
  have hd := zWF_d hw
  have hF : ∀ (x : Nat), (x : Int) < A 0 0 → zR (F x) := fun x hx => by
    rcases hL x hx with ⟨k, h1, h2, _⟩ | ⟨h1, _⟩ <;> omega
  intro m
  induction m with
  | zero =>
    intro t ht fl ν hf hg
    have e0 := zRM_p0 (hf.RM hR0)
    refine sg_X11_tellsAway_45 ⟨by omega, by omega, fun _ => K fl ν hf (zGr_iff hg (fun x hx => ⟨fun ⟨u, q1, q2⟩ => ⟨u, by omega, q2⟩, fun ⟨u, q1, q2⟩ => ⟨u, by omega, q2⟩⟩)), fun hc => absurd hc (by omega)⟩
  | succ m ih =>
    intro t ht fl ν hf hg
    have hRt := hf.RM hR0
    have e0 := zRM_p0 hRt
    have htp : (t : Int) < A 0 0 := by omega
    have hgt : (F t ≠ -5 → ν 222 t = F t) ∧ (F t = -5 → ν 222 t = (n : Int) + 1 ∨ ν 222 t = -5) := ⟨(hg.1 t htp).1, fun q => ((hg.1 t htp).2 q).imp And.left And.left⟩
    have hr : zR (ν 222 t) := by
      by_cases e : F t = -5
      · rcases hgt.2 e with z | z <;> omega
      · rw [hgt.1 e]; exact hF t htp
    have hFt : ν 222 t = n ↔ F t = n := by
      by_cases e : F t = -5
      · rcases hgt.2 e with z | z <;> omega
      · rw [hgt.1 e]
    refine sg_X11_tellsAway_45 ⟨by omega, by omega, fun hc => absurd hc (by omega), fun _ => ⟨by omega, ?_⟩⟩
    rw [Int.toNat_natCast]
    refine ⟨hr, by omega, fun q => ?_, fun q => ?_⟩
    · have := ih (t + 1) (by omega) fl ν hf (zGr_iff hg (fun x hx => ⟨fun ⟨u, q1, q2⟩ => ⟨u, by omega, q2⟩, fun ⟨u, q1, q2⟩ => ⟨u, by
        by_cases e : u = t
        · subst e; exact absurd (hFt.2 q2.1) q
        · omega, q2⟩⟩))
      rw [Int.natCast_add] at this
      exact this
    · have q' := hFt.1 q
      have next : ∀ (fl : Int) (ν2 : zMu), zMf μ ν2 → zGr (A 0 0) F n (fun x => (∃ u : Nat, u < t ∧ F u = n ∧ zegd A u x) ∨ zegd A t x) (ν2 222) fl → at_X11_tellsAway_45 g φ fl (n : Int) ((t : Int) + 1) ν2 := fun fl ν2 hf2 hg2 => by
        have := ih (t + 1) (by omega) fl ν2 hf2 (zGr_iff hg2 (fun x hx => ⟨fun z => ?_, fun ⟨u, q1, q2⟩ => ?_⟩))
        · rw [Int.natCast_add] at this
          exact this
        · rcases z with ⟨u, q1, q2⟩ | z
          · exact ⟨u, by omega, q2⟩
          · exact ⟨t, by omega, q', z⟩
        · by_cases e : u = t
          · subst e; exact Or.inr q2.2
          · exact Or.inl ⟨u, by omega, q2⟩
      refine ok_X11_tellsNeighbours hw hRt h0 (by omega) (fun x ν2 hR2 hK2 g1 g2 g3 => ?_)
      have hf2 : zMf μ ν2 := ⟨fun i h1 h2 h3 h4 => (g1 i h1 h2 h3).trans (hf.1 i h1 h2 h3 h4), fun j hj => (g2 j hj).trans (hf.2 j hj)⟩
      have e222 : ν2 222 = ν 222 := g1 222 (by omega) (by omega) (by omega)
      have hg2 : zGr (A 0 0) F n (fun x => ∃ u : Nat, u < t ∧ F u = n ∧ zegd A u x) (ν2 222) fl := by rw [e222]; exact hg
      cases hz : znbs (A 0 0) (A 3 0).toNat (A 4) (t : Int) with
      | none =>
        rw [hz] at g3
        dsimp only at g3
        refine ⟨by omega, fun _ => next fl ν2 hf2 (zGr_iff hg2 (fun x hx => ⟨Or.inl, fun z => ?_⟩)), fun hc => absurd g3.1 hc⟩
        rcases z with z | ⟨l2, z1, _⟩
        · exact z
        · unfold zvn at z1
          rw [hz] at z1
          exact absurd z1 (by simp)
      | some l =>
        rw [hz] at g3
        dsimp only at g3
        refine ⟨by omega, fun hc => by omega, fun _ => mo_away77 (μ := μ) hw hz hR0 hn hF next l.length 0 (by omega) fl ν2 hf2 g3.2.1 g3.2.2 (zGr_iff hg2 (fun x hx => ⟨Or.inl, fun z => ?_⟩))⟩
        rcases z with z | ⟨j, hj, _⟩
        · exact z
        · exact absurd hj (by omega)
theorem mo_away36 {φ : zMu → Prop} {v : Nat} (hw : zWF A) (h0 : A 3 0 ≠ 0) (hR0 : zRM A μ) (h : ∀ ν, zMf μ ν → (∀ (w : Nat), (w : Int) < A 0 0 → ν 222 w = zds A v w ∧ zR (ν 222 w)) → φ ν) : ∀ m n : Nat, n + m = (A 0 0).toNat → ∀ ν : zMu, zMf μ ν → zLy A v n (ν 222) → (n : Int) + 1 ≤ zct (fun w => decide (ν 222 w ≠ -5)) (A 0 0).toNat → at_X11_tellsAway_36 g φ 1 (n : Int) ν := by
  have hp := zWF_p hw
  have hd := zWF_d hw
  intro m
  induction m with
  | zero =>
    intro n hn ν hf hL hc
    have := (zct_bd (P := fun w => decide (ν 222 w ≠ -5)) (n := (A 0 0).toNat)).2
    omega
  | succ m ih =>
    intro n hn ν hf hL hc
    refine sg_X11_tellsAway_36 ⟨by omega, fun q => absurd q (by omega), fun _ => ?_⟩
    have k0 := mo_away45 (g := g) (φ := φ) (μ := μ) (F := ν 222) (n := n) (v := v) hw h0 hR0 (by omega) hL (fun fl ν2 hf2 hg2 => by
      rcases hg2.2 with ⟨rfl, x, hx1, hx2, hx3⟩ | ⟨rfl, hx⟩
      · have hL2 := zLy_next hL hg2
        have := ih (n + 1) (by omega) ν2 hf2 hL2 (by
          have := zct_lt (P := fun w => decide (ν 222 w ≠ -5)) (Q := fun w => decide (ν2 222 w ≠ -5)) (w := x) (n := (A 0 0).toNat) (by omega) (by rw [hx2]; rfl) (by
            rw [decide_eq_true_eq]
            rcases (hg2.1 x hx1).2 hx2 with ⟨z, _⟩ | ⟨_, z⟩
            · omega
            · exact absurd hx3 z) (fun i hi q => by
            rw [decide_eq_true_eq] at q ⊢
            rw [(hg2.1 i (by omega)).1 q]; exact q)
          omega)
        rw [Int.natCast_add] at this
        exact this
      · exact sg_X11_tellsAway_36 ⟨by omega, fun _ => h ν2 hf2 (fun w hw => ⟨zLy_end hL hg2 hw, by
          rcases zLy_next hL hg2 w hw with ⟨k, q1, q2, _⟩ | ⟨q1, _⟩ <;> omega⟩), fun q => absurd rfl q⟩) (A 0 0).toNat 0 (by omega) 0 ν hf ⟨fun x hx => ⟨fun _ => rfl, fun q => Or.inr ⟨q, fun ⟨u, hu, _⟩ => absurd hu (by omega)⟩⟩, Or.inr ⟨rfl, fun x _ _ ⟨u, hu, _⟩ => absurd hu (by omega)⟩⟩
    exact k0
theorem ok_X11_tellsAway {φ : zMu → Prop} {v : Nat} (hw : zWF A) (hR : zRM A μ) (h0 : A 3 0 ≠ 0) (hv : (v : Int) < A 0 0) (h : ∀ ν, zMf μ ν → (∀ (w : Nat), (w : Int) < A 0 0 → ν 222 w = zds A v w ∧ zR (ν 222 w)) → φ ν) : zOv g zm_X11_tellsAway [.ref 203, .int (zJ (v : Int))] μ φ := by
  have hp := zWF_p hw
  have loop : ∀ m t : Nat, t + m = 200 → at_X11_tellsAway_2 g φ (v : Int) (t : Int) (zua μ 222 (fun x => if x < t then (if x = v then 0 else -5) else μ 222 x)) := by
    intro m
    induction m with
    | zero =>
      intro t ht
      have et : t = 200 := by omega
      subst et
      refine sg_X11_tellsAway_2 ⟨by omega, fun _ => ?_, fun hc => absurd hc (by omega)⟩
      have hct := zct_flip (P := fun _ => false) (Q := fun x => decide (x = v)) (w := v) rfl (fun x => by
        by_cases e : x = v
        · rw [if_pos e]; exact decide_eq_true e
        · rw [if_neg e]; exact decide_eq_false e) (A 0 0).toNat
      have hz0 : ∀ n, zct (fun _ => false) n = 0 := by
        intro n
        induction n with
        | zero => rfl
        | succ n ih => rw [zct, ih]; rfl
      rw [if_pos (by omega), hz0] at hct
      refine mo_away36 hw h0 hR h (A 0 0).toNat 0 (by omega) _ ⟨fun i _ _ _ h4 => zua_nc h4, fun j _ => zua_ne (by omega)⟩ (fun w hw2 => ?_) ?_
      · rw [zua_eq, if_pos (by omega)]
        by_cases e : w = v
        · rw [if_pos e]
          exact Or.inl ⟨0, by omega, rfl, e, fun m hm => absurd hm (by omega)⟩
        · rw [if_neg e]
          refine Or.inr ⟨rfl, fun m hm hr => ?_⟩
          have em : m = 0 := by omega
          subst em
          exact e hr
      · rw [zct_congr (Q := fun x => decide (x = v)) (fun x hx => by
          rw [zua_eq, if_pos (by omega)]
          by_cases e : x = v
          · rw [if_pos e, decide_eq_true e]; rfl
          · rw [if_neg e, decide_eq_false e]; rfl), hct]
        omega
    | succ m ih =>
      intro t ht
      have k := ih (t + 1) (by omega)
      rw [Int.natCast_add] at k
      refine sg_X11_tellsAway_2 ⟨by omega, fun hc => absurd hc (by omega), fun _ => ⟨by omega, fun q => ⟨by omega, ?_⟩, fun q => ⟨by omega, ?_⟩⟩⟩
      · rw [Int.toNat_natCast, zup_zua, zua_congr (h := fun x => if x < t + 1 then (if x = v then 0 else -5) else μ 222 x) (fun b => by
          by_cases hb : b = t
          · rw [if_pos hb, if_pos (show b < t + 1 by omega), if_neg (show ¬ b = v by omega)]
          · rw [if_neg hb]
            by_cases hc : b < t
            · rw [if_pos hc, if_pos (show b < t + 1 by omega)]
            · rw [if_neg hc, if_neg (show ¬ b < t + 1 by omega)])]
        exact k
      · rw [Int.toNat_natCast, zup_zua, zua_congr (h := fun x => if x < t + 1 then (if x = v then 0 else -5) else μ 222 x) (fun b => by
          by_cases hb : b = t
          · rw [if_pos hb, if_pos (show b < t + 1 by omega), if_pos (show b = v by omega)]
          · rw [if_neg hb]
            by_cases hc : b < t
            · rw [if_pos hc, if_pos (show b < t + 1 by omega)]
            · rw [if_neg hc, if_neg (show ¬ b < t + 1 by omega)])]
        exact k
  have k0 := loop 200 0 (by omega)
  rw [zua_self (fun b => if_neg (by omega))] at k0
  exact sg_X11_tellsAway k0
theorem mx_far {φ : Int → zMu → Prop} {v w : Int} (hw : zWF A) (hR : zRM A μ) (hv : zR v) (hw2 : zR w) (h : zHm φ μ (rd_far A v w, A)) : zOi g zm_X11_far [.ref 203, .int (zJ v), .int (zJ w)] μ φ := by
  have hp := zWF_p hw
  have hd8 := zWF_d hw
  have e0 := zRM_p0 hR
  have t1 := zRM_d hR
  have h1 : ¬ (0 ≤ v ∧ v < A 0 0) ∨ ¬ (0 ≤ w ∧ w < A 0 0) → φ (-2) μ := fun q => h.rd (if_pos q) hR (zKc.refl μ)
  refine sg_X11_far (ok_X11_isValue hv (by omega) (fun qv => ⟨by omega, fun hc => absurd hc (by omega), fun _ => ok_X11_isValue hw2 (by omega) (fun qw => ⟨by omega, fun _ => ⟨by omega, fun m => ?_, fun m => h.rd ((if_neg (by omega)).trans (if_pos (by omega))) hR (zKc.refl μ)⟩, fun hc => absurd hc (by omega)⟩) (fun q => ⟨by omega, fun hc => absurd rfl hc, fun _ => h1 (by omega)⟩)⟩) (fun q => ⟨by omega, fun _ => h1 (by omega), fun hc => absurd rfl hc⟩))
  unfold rd_far at h
  rw [if_neg (by omega), if_neg (by omega)] at h
  obtain ⟨v, rfl⟩ : ∃ q : Nat, v = q := ⟨v.toNat, by omega⟩
  obtain ⟨w, rfl⟩ : ∃ q : Nat, w = q := ⟨w.toNat, by omega⟩
  rw [Int.toNat_natCast, Int.toNat_natCast] at h
  refine ok_X11_tellsAway hw hR (by omega) (by omega) (fun ν hf hz => ⟨by omega, ?_⟩)
  rw [Int.toNat_natCast, (hz w (by omega)).1]
  exact h.rd rfl (hf.RM hR) hf.K
theorem mx_reach {φ : Int → zMu → Prop} {v : Int} (hw : zWF A) (hR : zRM A μ) (hv : zR v) (h : zHm φ μ (rd_reach A v, A)) : zOi g zm_X11_reach [.ref 203, .int (zJ v)] μ φ := by
  have hp := zWF_p hw
  have hd8 := zWF_d hw
  have e0 := zRM_p0 hR
  have t1 := zRM_d hR
  refine sg_X11_reach (ok_X11_isValue hv (by omega) (fun qv => ⟨by omega, fun _ => ⟨by omega, fun m => ?_, fun m => h.rd ((if_neg (by omega)).trans (if_pos (by omega))) hR (zKc.refl μ)⟩, fun hc => absurd hc (by omega)⟩) (fun q => ⟨by omega, fun hc => absurd rfl hc, fun _ => h.rd (if_pos (by omega)) hR (zKc.refl μ)⟩))
  unfold rd_reach at h
  rw [if_neg (by omega), if_neg (by omega)] at h
  obtain ⟨v, rfl⟩ : ∃ q : Nat, v = q := ⟨v.toNat, by omega⟩
  rw [Int.toNat_natCast] at h
  refine ok_X11_tellsAway hw hR (by omega) (by omega) (fun ν hf hz => ?_)
  have hR1 := hf.RM hR
  have e1 := zRM_p0 hR1
  have loop : ∀ m t : Nat, t + m = (A 0 0).toNat → at_X11_reach_30 g φ (zct (fun w => decide (zds A v w ≠ -5)) t) (t : Int) ν := by
    intro m
    induction m with
    | zero =>
      intro t ht
      refine sg_X11_reach_30 ⟨by omega, by omega, fun _ => ?_, fun hc => absurd hc (by omega)⟩
      rw [show t = (A 0 0).toNat by omega]
      exact h.rd rfl hR1 hf.K
    | succ m ih =>
      intro t ht
      have k := ih (t + 1) (by omega)
      rw [Int.natCast_add, zct] at k
      refine sg_X11_reach_30 ⟨by omega, by omega, fun hc => absurd hc (by omega), fun _ => ⟨by omega, ?_⟩⟩
      have r := (hz t (by omega)).2
      rw [Int.toNat_natCast]
      rw [(hz t (by omega)).1] at r ⊢
      refine ⟨r, fun q => ?_, fun q => ?_⟩
      · rw [if_neg (by simp only [decide_eq_true_eq]; omega)] at k
        exact k
      · rw [if_pos (by simp only [decide_eq_true_eq]; exact q)] at k
        exact k
  exact loop (A 0 0).toNat 0 (by omega)
end AWM
