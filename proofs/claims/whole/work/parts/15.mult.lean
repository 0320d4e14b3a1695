/-! PRODUCTS AND RECIPROCALS of rows, class and model -/
/-- what multiply leaves in a row of n2 places: N products modulo p, then zeros -/
def zmr (f h : Nat → Int) (p : Int) (N n2 : Nat) (old : Nat → Int) (k : Nat) : Int := if k < N then zcv f h k % p else if k < n2 then 0 else old k
/-- numbers modulo p on the first places of a row -/
def zmodp (p : Int) (n : Nat) (f : Nat → Int) : Prop := ∀ k, k < n → 0 ≤ f k ∧ f k < p
theorem zmr_modp {f h : Nat → Int} {p : Int} {N n2 : Nat} {old : Nat → Int} (hp : 0 < p) : zmodp p N (zmr f h p N n2 old) := fun k hk => by rw [zmr, if_pos hk]; exact zemod_lt hp
theorem zmr_zeq {f h : Nat → Int} {p : Int} {N n2 : Nat} {old : Nat → Int} : zeq p N (zmr f h p N n2 old) (zcv f h) := fun k hk => by rw [zmr, if_pos hk, Int.emod_emod]
/-- partial sums of a product -/
def zps (f h : Nat → Int) (s k : Nat) : Int := zsm (fun i => f i * h (k - i)) (min s (k + 1))
theorem zps_bd {f h : Nat → Int} {p : Int} {n s k : Nat} (hp : p ≤ 199) (hf : zmodp p n f) (hh : zmodp p n h) (hk : k < n) (hn : n ≤ 80) : 0 ≤ zps f h s k ∧ zps f h s k ≤ 3136320 := by
  obtain ⟨h1, h2⟩ := zsm_bound (F := fun i => f i * h (k - i)) (B := 39204) (n := min s (k + 1)) (fun i hi => zmul_bd (hf i (by omega)) (hh (k - i) (by omega)) hp)
  refine ⟨h1, Int.le_trans h2 ?_⟩
  omega
theorem zps_step {f h : Nat → Int} {s k : Nat} (hk : s ≤ k) : zps f h (s + 1) k = zps f h s k + f s * h (k - s) := by
  unfold zps
  rw [show min (s + 1) (k + 1) = s + 1 by omega, show min s (k + 1) = s by omega]
  rfl
theorem zps_past {f h : Nat → Int} {s k : Nat} (hk : k < s) : zps f h (s + 1) k = zps f h s k := by
  unfold zps
  rw [show min (s + 1) (k + 1) = min s (k + 1) by omega]
theorem zps_all {f h : Nat → Int} {s k : Nat} (hk : k < s) : zps f h s k = zcv f h k := by
  unfold zps zcv
  rw [show min s (k + 1) = k + 1 by omega]
section MULT
variable {g : zG} {φ : zMu → Prop} {μ : zMu} {a b c n0 n1 n2 N : Nat} {n p : Int}
theorem zIx_of {a n : Nat} {x : Int} (h : zS a 12 n) (h0 : 0 ≤ x) (hx : x < n) : zIx a x := ⟨n, h, h0, hx⟩
theorem mult67 {F : Nat → Int} (hto : zS c 12 n2) (hn2 : N ≤ n2) (hn80 : N ≤ 80) (hp : 0 < p ∧ p ≤ 199) (hF : ∀ k, k < N → 0 ≤ F k ∧ F k ≤ 3136320) (h : φ (zua μ c (fun k => if k < N then F k % p else F k))) :
    ∀ m t : Nat, t + m = N → at_X10_multiply_67 g φ c (N : Int) p (t : Int) (zua μ c (fun k => if k < t then F k % p else F k)) := by
  intro m
  induction m with
  | zero =>
    intro t ht
    have e : t = N := by omega
    subst e
    exact sg_X10_multiply_67 ⟨by omega, by omega, fun _ => h, fun hc => absurd hc (by omega)⟩
  | succ m ih =>
    intro t ht
    have hb := hF t (by omega)
    refine sg_X10_multiply_67 ⟨by omega, by omega, fun hc => absurd hc (by omega), fun _ => ⟨zIx_of hto (by omega) (by omega), ?_, by omega, by omega, ?_⟩⟩
    · rw [Int.toNat_natCast, zua_eq, if_neg (by omega)]; omega
    · rw [Int.toNat_natCast, zua_eq, if_neg (by omega), zup_zua, ztm hb.1]
      have k2 := ih (t + 1) (by omega)
      rw [Int.natCast_add] at k2
      rw [zua_congr (h := fun k => if k < t + 1 then F k % p else F k) (fun k => by
        by_cases hk : k = t
        · subst hk; simp
        · by_cases hk2 : k < t
          · rw [if_neg hk, if_pos hk2, if_pos (by omega)]
          · rw [if_neg hk, if_neg hk2, if_neg (by omega)])]
      exact k2
theorem mult8 (ha : zS a 12 n0) (hb : zS b 12 n1) (hto : zS c 12 n2) (hac : a ≠ c) (hbc : b ≠ c) (hn0 : N ≤ n0) (hn1 : N ≤ n1) (hn2 : N ≤ n2) (hn80 : N ≤ 80) (hp : 0 < p ∧ p ≤ 199) (hva : zmodp p N (μ a)) (hvb : zmodp p N (μ b)) {rest : Nat → Int}
    (h : φ (zua μ c (fun k => if k < N then zcv (μ a) (μ b) k % p else rest k))) :
    ∀ m s : Nat, s + m = N → at_X10_multiply_8 g φ a b c (N : Int) p (s : Int) (zua μ c (fun k => if k < N then zps (μ a) (μ b) s k else rest k)) := by
  intro m
  induction m with
  | zero =>
    intro s hs
    have e : s = N := by omega
    subst e
    refine sg_X10_multiply_8 ⟨by omega, by omega, fun _ => ?_, fun hc => absurd hc (by omega)⟩
    have k0 := mult67 (g := g) (φ := φ) (μ := μ) (c := c) (n2 := n2) (N := s) (p := p) (F := fun k => if k < s then zps (μ a) (μ b) s k else rest k) hto hn2 hn80 hp (fun k hk => by
      show 0 ≤ (if k < s then _ else _) ∧ (if k < s then _ else _) ≤ _
      rw [if_pos hk]; exact zps_bd hp.2 hva hvb hk hn80) (by
      rw [zua_congr (h := fun k => if k < s then zcv (μ a) (μ b) k % p else rest k) (fun k => by
        by_cases hk : k < s
        · simp only [if_pos hk, zps_all hk]
        · simp only [if_neg hk])]
      exact h) s 0 (by omega)
    exact k0
  | succ m ih =>
    intro s hs
    have hval := hva s (by omega)
    have ih1 := ih (s + 1) (by omega)
    rw [Int.natCast_add] at ih1
    have hrd : ∀ F : Nat → Int, zua μ c F a s = μ a s := fun F => zua_ne hac
    refine sg_X10_multiply_8 ⟨by omega, by omega, fun hc => absurd hc (by omega), fun _ => ⟨zIx_of ha (by omega) (by omega), ?_, fun h0 => ?_, fun h0 => ?_⟩⟩
    · rw [Int.toNat_natCast, hrd]; omega
    · rw [Int.toNat_natCast, hrd] at h0
      rw [zua_congr (h := fun k => if k < N then zps (μ a) (μ b) (s + 1) k else rest k) (fun k => by
        by_cases hk : k < N
        · rw [if_pos hk, if_pos hk]
          by_cases hks : s ≤ k
          · rw [zps_step hks, h0, Int.zero_mul, Int.add_zero]
          · rw [zps_past (by omega)]
        · rw [if_neg hk, if_neg hk])]
      exact ih1
    · rw [Int.toNat_natCast, hrd]
      have inner : ∀ m2 t : Nat, t + m2 = N → s ≤ t → at_X10_multiply_29 g φ a b c (N : Int) p (s : Int) (μ a s) (t : Int) (zua μ c (fun k => if k < N then (if k < t then zps (μ a) (μ b) (s + 1) k else zps (μ a) (μ b) s k) else rest k)) := by
        intro m2
        induction m2 with
        | zero =>
          intro t ht hst
          have e : t = N := by omega
          subst e
          refine sg_X10_multiply_29 ⟨by omega, by omega, fun _ => ?_, fun hc => absurd hc (by omega)⟩
          rw [zua_congr (h := fun k => if k < t then zps (μ a) (μ b) (s + 1) k else rest k) (fun k => by
            by_cases hk : k < t
            · rw [if_pos hk, if_pos hk, if_pos hk]
            · rw [if_neg hk, if_neg hk])]
          exact ih1
        | succ m2 ih2 =>
          intro t ht hst
          have k2 := ih2 (t + 1) (by omega) (by omega)
          rw [Int.natCast_add] at k2
          refine sg_X10_multiply_29 ⟨by omega, by omega, fun hc => absurd hc (by omega), fun _ => ⟨zIx_of hto (by omega) (by omega), zIx_of hb (by omega) (by omega), ?_⟩⟩
          rw [Int.toNat_natCast, zua_eq, if_pos (by omega), if_neg (by omega), zua_ne hbc, show Int.toNat ((t : Int) - (s : Int)) = t - s by omega, ← zps_step hst, zup_zua]
          rw [zua_congr (h := fun k => if k < N then (if k < t + 1 then zps (μ a) (μ b) (s + 1) k else zps (μ a) (μ b) s k) else rest k) (fun k => by
            by_cases hk : k = t
            · subst hk; rw [if_pos rfl, if_pos (by omega), if_pos (by omega)]
            · rw [if_neg hk]
              by_cases hk1 : k < N
              · rw [if_pos hk1, if_pos hk1]
                by_cases hk2 : k < t
                · rw [if_pos hk2, if_pos (by omega)]
                · rw [if_neg hk2, if_neg (by omega)]
              · rw [if_neg hk1, if_neg hk1])]
          exact k2
      have k3 := inner (N - s) s (by omega) (by omega)
      rw [zua_congr (h := fun k => if k < N then (if k < s then zps (μ a) (μ b) (s + 1) k else zps (μ a) (μ b) s k) else rest k) (fun k => by
        by_cases hk : k < N
        · rw [if_pos hk, if_pos hk]
          by_cases hks : k < s
          · rw [if_pos hks, zps_past hks]
          · rw [if_neg hks]
        · rw [if_neg hk, if_neg hk])]
      exact k3
theorem ok_X10_multiply (ha : zS a 12 n0) (hb : zS b 12 n1) (hto : zS c 12 n2) (hac : a ≠ c) (hbc : b ≠ c) (hn : n ≤ 80) (hnr : zR n) (hn0 : n ≤ n0) (hn1 : n ≤ n1) (hn2 : n ≤ n2) (hp : 0 < p ∧ p ≤ 199) (hva : zmodp p n.toNat (μ a)) (hvb : zmodp p n.toNat (μ b))
    (h : φ (zua μ c (zmr (μ a) (μ b) p n.toNat n2 (μ c)))) : zOv g zm_X10_multiply [.ref a, .ref b, .ref c, .int (zJ n), .int (zJ p)] μ φ := by
  refine sg_X10_multiply (sg_J7_fill hto ?_)
  have ea : zua μ c (fun b => if b < n2 then 0 else μ c b) a = μ a := zua_nc hac
  have eb : zua μ c (fun b => if b < n2 then 0 else μ c b) b = μ b := zua_nc hbc
  by_cases hneg : n ≤ 0
  · have e0 : n.toNat = 0 := by omega
    refine sg_X10_multiply_8 ⟨by omega, by omega, fun _ => ?_, fun hc => absurd hc (by omega)⟩
    refine sg_X10_multiply_67 ⟨by omega, by omega, fun _ => ?_, fun hc => absurd hc (by omega)⟩
    rw [zua_congr (h := zmr (μ a) (μ b) p n.toNat n2 (μ c)) (fun k => by
      show _ = if k < n.toNat then _ else _
      rw [if_neg (show ¬ k < n.toNat by omega)])]
    exact h
  · have eN : n = ((n.toNat : Nat) : Int) := by omega
    have k0 := mult8 (g := g) (φ := φ) (μ := μ) (rest := fun k => if k < n2 then 0 else μ c k) (N := n.toNat) ha hb hto hac hbc (by omega) (by omega) (by omega) (by omega) hp hva hvb h n.toNat 0 (by omega)
    rw [← eN] at k0
    rw [zua_congr (h := fun k => if k < n.toNat then zps (μ a) (μ b) 0 k else if k < n2 then 0 else μ c k) (fun k => by
      by_cases hk : k < n.toNat
      · rw [if_pos hk, if_pos (by omega)]
        unfold zps
        rw [show min 0 (k + 1) = 0 by omega]
        rfl
      · rw [if_neg hk])]
    exact k0
end MULT
