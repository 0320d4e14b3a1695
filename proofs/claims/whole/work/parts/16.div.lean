/-! QUOTIENTS of series modulo p -/
theorem zsubp (p S : Int) : (p - S % p) % p = (0 - S) % p := by
  have e : p - S % p = (0 - S) + p * (S / p + 1) := by
    rw [Int.emod_def, Int.mul_add, Int.mul_one]; omega
  rw [e, Int.add_mul_emod_self_left]
def zdvT (p : Int) (N D : Nat → Int) : Nat → Nat → Int
  | 0 => fun _ => 0
  | t + 1 => fun k => if k = t then ((N t - zsm (fun j => D (j + 1) * zdvT p N D t (t - 1 - j)) t) * zI p (D 0)) % p else zdvT p N D t k
def zdv (p : Int) (N D : Nat → Int) (k : Nat) : Int := zdvT p N D (k + 1) k
theorem zdvT_stab {p : Int} {N D : Nat → Int} {k : Nat} : ∀ {n : Nat}, k < n → zdvT p N D n k = zdv p N D k
  | n + 1, h => by
    by_cases e : k = n
    · subst e; rfl
    · show (if k = n then _ else _) = _
      rw [if_neg e]
      exact zdvT_stab (by omega)
theorem zdv_eq {p : Int} {N D : Nat → Int} {k : Nat} : zdv p N D k = ((N k - zsm (fun j => D (j + 1) * zdv p N D (k - 1 - j)) k) * zI p (D 0)) % p := by
  show (if k = k then _ else _) = _
  rw [if_pos rfl]
  rw [zsm_congr (F := fun j => D (j + 1) * zdvT p N D k (k - 1 - j)) (G := fun j => D (j + 1) * zdv p N D (k - 1 - j)) (fun i hi => by rw [zdvT_stab (by omega)])]
theorem zdv_modp {p : Int} {N D : Nat → Int} (hp : 0 < p) (n : Nat) : zmodp p n (zdv p N D) := fun k _ => by rw [zdv_eq]; exact zemod_lt hp
theorem zcv_front (f h : Nat → Int) (k : Nat) : zcv f h k = f 0 * h k + zsm (fun j => f (j + 1) * h (k - 1 - j)) k := by
  unfold zcv
  rw [zsm_front, Nat.sub_zero]
  congr 1
  exact zsm_congr (fun i hi => by rw [show k - (i + 1) = k - 1 - i by omega])
/-- what is divided comes back -/
theorem zdv_cv {p : Int} {N D : Nat → Int} (hp : zP p) (h0 : 0 < D 0) (h1 : D 0 < p) (n : Nat) : zeq p n (zcv D (zdv p N D)) N := fun k _ => by
  have hI := (zI_ok hp h0 h1).2.2
  rw [zcv_front]
  generalize hS : zsm (fun j => D (j + 1) * zdv p N D (k - 1 - j)) k = S
  have e : (D 0 * zdv p N D k) % p = (N k - S) % p := by
    rw [zdv_eq, hS, Int.mul_emod, Int.emod_emod, ← Int.mul_emod, Int.mul_comm (N k - S), ← Int.mul_assoc, Int.mul_emod, hI, Int.one_mul, Int.emod_emod]
  rw [Int.add_emod, e, ← Int.add_emod]
  congr 1
  omega
/-- a quotient is what it is by its product -/
theorem zdv_unique {p : Int} {N D X : Nat → Int} {n : Nat} (hp : zP p) (h0 : 0 < D 0) (h1 : D 0 < p) (hX : zmodp p n X) (e : zeq p n (zcv D X) N) : ∀ k, k < n → X k = zdv p N D k := by
  have key : ∀ m k, k < m → k < n → X k = zdv p N D k := by
    intro m
    induction m with
    | zero => intro k hk; omega
    | succ m ih =>
      intro k hk hkn
      have e1 := e k hkn
      have hb := zP_bd hp
      rw [zcv_front] at e1
      rw [zsm_congr (F := fun j => D (j + 1) * X (k - 1 - j)) (G := fun j => D (j + 1) * zdv p N D (k - 1 - j)) (fun i hi => by rw [ih (k - 1 - i) (by omega) (by omega)])] at e1
      have hI := (zI_ok hp h0 h1).2.2
      rw [zdv_eq]
      generalize zsm (fun j => D (j + 1) * zdv p N D (k - 1 - j)) k = S at e1 ⊢
      have e2 : (D 0 * X k) % p = (N k - S) % p := by
        have : (D 0 * X k + S - S) % p = (N k - S) % p := by rw [Int.sub_emod, e1, ← Int.sub_emod]
        rw [← this]; congr 1; omega
      have e3 : X k = (zI p (D 0) * (D 0 * X k)) % p := by
        rw [← Int.mul_assoc, Int.mul_comm (zI p (D 0)), Int.mul_emod, hI, Int.one_mul, Int.emod_emod, Int.emod_eq_of_lt (hX k hkn).1 (hX k hkn).2]
      rw [e3, Int.mul_emod, e2, ← Int.mul_emod, Int.mul_comm]
  exact fun k hk => key (k + 1) k (by omega) hk
theorem zdv_congr {p : Int} {N N' D D' : Nat → Int} {n : Nat} (hp : zP p) (h0 : 0 < D 0) (h1 : D 0 < p) (h0' : 0 < D' 0) (h1' : D' 0 < p) (eN : zeq p n N N') (eD : zeq p n D D') : ∀ k, k < n → zdv p N D k = zdv p N' D' k :=
  zdv_unique hp h0' h1' (zdv_modp (by have := zP_bd hp; omega) n) ((zcv_mod eD.symm (zeq.refl _)).trans ((zdv_cv hp h0 h1 n).trans eN))
section INV
variable {g : zG} {φ : zMu → Prop} {μ : zMu} {a b n0 n1 N : Nat} {p : Int}
theorem inv29 (ha : zS a 12 n0) (hb : zS b 12 n1) (hab : a ≠ b) (hn0 : N ≤ n0) (hn1 : N ≤ n1) (hn80 : N ≤ 80) (hp : zP p) (hva : zmodp p N (μ a)) (hf : 0 < μ a 0) {old : Nat → Int} {t : Nat} (ht : t < N) (ht1 : 1 ≤ t)
    (k : at_X7_invert_17 g φ a b (N : Int) p (zI p (μ a 0)) ((t : Int) + 1) (zua μ b (fun k => if k < t + 1 then zdv p zone (μ a) k else old k))) :
    ∀ m s : Nat, s + m = t → at_X7_invert_29 g φ a b (N : Int) p (zI p (μ a 0)) (t : Int) (zsm (fun j => μ a (j + 1) * zdv p zone (μ a) (t - 1 - j)) s) ((s : Int) + 1) (zua μ b (fun k => if k < t then zdv p zone (μ a) k else old k)) := by
  have hpb := zP_bd hp
  have hx := zdv_modp (p := p) (N := zone) (D := μ a) (by omega) N
  have hbd : ∀ s, s ≤ t → 0 ≤ zsm (fun j => μ a (j + 1) * zdv p zone (μ a) (t - 1 - j)) s ∧ zsm (fun j => μ a (j + 1) * zdv p zone (μ a) (t - 1 - j)) s ≤ 3136320 := fun s hs => by
    obtain ⟨h1, h2⟩ := zsm_bound (F := fun j => μ a (j + 1) * zdv p zone (μ a) (t - 1 - j)) (B := 39204) (n := s) (fun i hi => zmul_bd (hva (i + 1) (by omega)) (hx (t - 1 - i) (by omega)) hpb.2)
    exact ⟨h1, Int.le_trans h2 (by omega)⟩
  intro m
  induction m with
  | zero =>
    intro s hs
    have e : s = t := by omega
    subst e
    obtain ⟨b1, b2⟩ := hbd s (Nat.le_refl _)
    have hI := zI_ok hp hf (hva 0 (by omega)).2
    have hl := zemod_lt (x := zsm (fun j => μ a (j + 1) * zdv p zone (μ a) (s - 1 - j)) s) (p := p) (by omega)
    refine sg_X7_invert_29 ⟨by omega, by omega, fun _ => ⟨by omega, by omega, by omega, ?_, zIx_of hb (by omega) (by omega), ?_⟩, fun hc => absurd hc (by omega)⟩
    · rw [ztm b1]
      have hm : 0 ≤ (p - zsm (fun j => μ a (j + 1) * zdv p zone (μ a) (s - 1 - j)) s % p) * zI p (μ a 0) ∧ (p - zsm (fun j => μ a (j + 1) * zdv p zone (μ a) (s - 1 - j)) s % p) * zI p (μ a 0) ≤ 199 * 199 := by
        refine ⟨Int.mul_nonneg (by omega) hI.1, Int.le_trans (Int.mul_le_mul_of_nonneg_right (c := zI p (μ a 0)) (show _ ≤ (199 : Int) by omega) hI.1) (by omega)⟩
      omega
    · rw [ztm b1, Int.toNat_natCast, zup_zua, ztm (Int.mul_nonneg (by omega) hI.1)]
      rw [zua_congr (h := fun k => if k < s + 1 then zdv p zone (μ a) k else old k) (fun q => by
        by_cases hk : q = s
        · rw [hk, if_pos rfl, if_pos (by omega), zdv_eq, show zone s = 0 from if_neg (by omega), Int.mul_emod, Int.mul_emod (0 - _)]
          rw [zsubp]
        · rw [if_neg hk]
          by_cases hk2 : q < s
          · rw [if_pos hk2, if_pos (by omega)]
          · rw [if_neg hk2, if_neg (by omega)])]
      exact k
  | succ m ih =>
    intro s hs
    have k2 := ih (s + 1) (by omega)
    refine sg_X7_invert_29 ⟨by omega, by omega, fun hc => absurd hc (by omega), fun _ => ⟨zIx_of ha (by omega) (by omega), zIx_of hb (by omega) (by omega), ?_⟩⟩
    rw [show Int.toNat ((s : Int) + 1) = s + 1 by omega, zua_ne hab, show Int.toNat ((t : Int) - ((s : Int) + 1)) = t - 1 - s by omega, zua_eq, if_pos (by omega)]
    exact k2
theorem ok_X7_invert (ha : zS a 12 n0) (hb : zS b 12 n1) (hab : a ≠ b) (hN : 1 ≤ N) (hn0 : N ≤ n0) (hn1 : N ≤ n1) (hn80 : N ≤ 80) (hp : zP p) (hva : zmodp p N (μ a)) (hf : 0 < μ a 0)
    (h : φ (zua μ b (fun k => if k < N then zdv p zone (μ a) k else μ b k))) : zOv g zm_X7_invert [.ref a, .ref b, .int (zJ (N : Int)), .int (zJ p)] μ φ := by
  have hpb := zP_bd hp
  have hI := zI_ok hp hf (hva 0 (by omega)).2
  refine sg_X7_invert ⟨zIx_of ha (by omega) (by omega), ok_X10_inverse hp hf (hva 0 (by omega)).2 ⟨zIx_of hb (by omega) (by omega), ?_⟩⟩
  have outer : ∀ m t : Nat, t + m = N → 1 ≤ t → at_X7_invert_17 g φ a b (N : Int) p (zI p (μ a 0)) (t : Int) (zua μ b (fun k => if k < t then zdv p zone (μ a) k else μ b k)) := by
    intro m
    induction m with
    | zero =>
      intro t ht _
      have e : t = N := by omega
      subst e
      exact sg_X7_invert_17 ⟨by omega, by omega, fun _ => h, fun hc => absurd hc (by omega)⟩
    | succ m ih =>
      intro t ht ht1
      have k2 := ih (t + 1) (by omega) (by omega)
      rw [Int.natCast_add] at k2
      exact sg_X7_invert_17 ⟨by omega, by omega, fun hc => absurd hc (by omega), fun _ => inv29 ha hb hab hn0 hn1 hn80 hp hva hf (by omega) ht1 k2 t 0 (by omega)⟩
  have k0 := outer (N - 1) 1 (by omega) (by omega)
  rw [zup_as]
  rw [zua_congr (h := fun k => if k < 1 then zdv p zone (μ a) k else μ b k) (fun k => by
    by_cases hk : k = 0
    · subst hk
      rw [if_pos rfl, if_pos (by omega), zdv_eq]
      show _ = ((zone 0 - 0) * zI p (μ a 0)) % p
      rw [show zone 0 = 1 from rfl, Int.sub_zero, Int.one_mul, Int.emod_eq_of_lt hI.1 hI.2.1]
    · rw [if_neg hk, if_neg (by omega)])]
  exact k0
end INV
