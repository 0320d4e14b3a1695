/-! PURE ROWS: the moving numbers, sums, products of series modulo p -/
theorem zup_eq {μ : zMu} {i j : Nat} {v : Int} : zup μ i j v i j = v := if_pos ⟨rfl, rfl⟩
theorem zup_ne {μ : zMu} {i j a b : Nat} {v : Int} (h : a ≠ i ∨ b ≠ j) : zup μ i j v a b = μ a b := if_neg (fun q => h.elim (fun h => h q.1) (fun h => h q.2))
theorem zup_nc {μ : zMu} {i j a : Nat} {v : Int} (h : a ≠ i) : zup μ i j v a = μ a := funext fun b => zup_ne (Or.inl h)
theorem zua_eq {μ : zMu} {i b : Nat} {f : Nat → Int} : zua μ i f i b = f b := if_pos rfl
theorem zua_nc {μ : zMu} {i a : Nat} {f : Nat → Int} (h : a ≠ i) : zua μ i f a = μ a := funext fun b => if_neg h
theorem zua_ne {μ : zMu} {i a b : Nat} {f : Nat → Int} (h : a ≠ i) : zua μ i f a b = μ a b := if_neg h
theorem zua_row {μ : zMu} {i : Nat} {f : Nat → Int} : zua μ i f i = f := funext fun b => zua_eq
theorem zup_zua {μ : zMu} {i j : Nat} {f : Nat → Int} {v : Int} : zup (zua μ i f) i j v = zua μ i (fun b => if b = j then v else f b) := by
  funext a b
  by_cases ha : a = i
  · subst ha
    by_cases hb : b = j
    · subst hb; simp [zup, zua]
    · simp [zup, zua, hb]
  · simp [zup, zua, ha]
theorem zup_as {μ : zMu} {i j : Nat} {v : Int} : zup μ i j v = zua μ i (fun b => if b = j then v else μ i b) := by
  funext a b
  by_cases ha : a = i
  · subst ha
    by_cases hb : b = j
    · subst hb; simp [zup, zua]
    · simp [zup, zua, hb]
  · simp [zup, zua, ha]
theorem zua_zua {μ : zMu} {i : Nat} {f h : Nat → Int} : zua (zua μ i f) i h = zua μ i h := by
  funext a b
  by_cases ha : a = i <;> simp [zua, ha]
theorem zua_self {μ : zMu} {i : Nat} {f : Nat → Int} (h : ∀ b, f b = μ i b) : zua μ i f = μ := by
  funext a b
  by_cases ha : a = i
  · subst ha; simp [zua, h]
  · simp [zua, ha]
theorem zua_congr {μ : zMu} {i : Nat} {f h : Nat → Int} (e : ∀ b, f b = h b) : zua μ i f = zua μ i h := by rw [show f = h from funext e]
theorem zua_comm {μ : zMu} {i j : Nat} {f h : Nat → Int} (hij : i ≠ j) : zua (zua μ i f) j h = zua (zua μ j h) i f := by
  funext a b
  by_cases ha : a = i
  · subst ha; simp [zua, hij]
  · simp [zua, ha]
/-- sums -/
def zsm (F : Nat → Int) : Nat → Int
  | 0 => 0
  | n + 1 => zsm F n + F n
theorem zsm_congr {F G : Nat → Int} : ∀ {n : Nat}, (∀ i, i < n → F i = G i) → zsm F n = zsm G n
  | 0, _ => rfl
  | n + 1, h => by
    show zsm F n + F n = zsm G n + G n
    rw [zsm_congr (fun i hi => h i (by omega)), h n (by omega)]
theorem zsm_bound {F : Nat → Int} {B : Int} : ∀ {n : Nat}, (∀ i, i < n → 0 ≤ F i ∧ F i ≤ B) → 0 ≤ zsm F n ∧ zsm F n ≤ n * B
  | 0, _ => by simp [zsm]
  | n + 1, h => by
    obtain ⟨h1, h2⟩ := zsm_bound (n := n) (fun i hi => h i (by omega))
    obtain ⟨h3, h4⟩ := h n (by omega)
    show 0 ≤ zsm F n + F n ∧ zsm F n + F n ≤ ((n + 1 : Nat) : Int) * B
    rw [Int.natCast_add, Int.add_mul]
    omega
theorem zsm_zero {F : Nat → Int} : ∀ {n : Nat}, (∀ i, i < n → F i = 0) → zsm F n = 0
  | 0, _ => rfl
  | n + 1, h => by
    show zsm F n + F n = 0
    rw [zsm_zero (fun i hi => h i (by omega)), h n (by omega)]; rfl
theorem zsm_add (F G : Nat → Int) : ∀ n, zsm (fun i => F i + G i) n = zsm F n + zsm G n
  | 0 => rfl
  | n + 1 => by
    show zsm (fun i => F i + G i) n + (F n + G n) = (zsm F n + F n) + (zsm G n + G n)
    rw [zsm_add F G n]; omega
theorem zsm_mul (c : Int) (F : Nat → Int) : ∀ n, zsm (fun i => c * F i) n = c * zsm F n
  | 0 => by simp [zsm]
  | n + 1 => by
    show zsm (fun i => c * F i) n + c * F n = c * (zsm F n + F n)
    rw [zsm_mul c F n, Int.mul_add]
theorem zsm_front (F : Nat → Int) : ∀ n, zsm F (n + 1) = F 0 + zsm (fun i => F (i + 1)) n
  | 0 => by simp [zsm]
  | n + 1 => by
    show zsm F (n + 1) + F (n + 1) = F 0 + (zsm (fun i => F (i + 1)) n + F (n + 1))
    rw [zsm_front F n]; omega
theorem zsm_rev (F : Nat → Int) : ∀ n, zsm F n = zsm (fun i => F (n - 1 - i)) n
  | 0 => rfl
  | n + 1 => by
    rw [zsm_front]
    show F 0 + zsm (fun i => F (i + 1)) n = zsm (fun i => F (n + 1 - 1 - i)) n + F (n + 1 - 1 - n)
    rw [zsm_rev (fun i => F (i + 1)) n, show n + 1 - 1 - n = 0 by omega]
    have : zsm (fun i => F (n - 1 - i + 1)) n = zsm (fun i => F (n + 1 - 1 - i)) n := zsm_congr (fun i hi => by rw [show n - 1 - i + 1 = n + 1 - 1 - i by omega])
    rw [this]; omega
theorem zsm_swap (F : Nat → Nat → Int) (m : Nat) : ∀ n, zsm (fun i => zsm (F i) m) n = zsm (fun j => zsm (fun i => F i j) n) m
  | 0 => by
    exact (zsm_zero (fun i _ => rfl)).symm
  | n + 1 => by
    show zsm (fun i => zsm (F i) m) n + zsm (F n) m = zsm (fun j => zsm (fun i => F i j) n + F n j) m
    rw [zsm_add, zsm_swap F m n]
theorem zsm_tri (F : Nat → Nat → Int) : ∀ n, zsm (fun i => zsm (fun j => F i j) (n - i)) n = zsm (fun k => zsm (fun i => F i (k - i)) (k + 1)) n
  | 0 => rfl
  | n + 1 => by
    show zsm (fun i => zsm (fun j => F i j) (n + 1 - i)) n + zsm (fun j => F n j) (n + 1 - n) = zsm (fun k => zsm (fun i => F i (k - i)) (k + 1)) n + zsm (fun i => F i (n - i)) (n + 1)
    rw [← zsm_tri F n, show n + 1 - n = 1 by omega]
    have e : zsm (fun i => zsm (fun j => F i j) (n + 1 - i)) n = zsm (fun i => zsm (fun j => F i j) (n - i) + F i (n - i)) n := zsm_congr (fun i hi => by rw [show n + 1 - i = (n - i) + 1 by omega]; rfl)
    rw [e, zsm_add]
    show _ + _ + (0 + F n 0) = _ + (zsm (fun i => F i (n - i)) n + F n (n - n))
    rw [Nat.sub_self]
    omega
/-- the product of two series -/
def zcv (f h : Nat → Int) (k : Nat) : Int := zsm (fun i => f i * h (k - i)) (k + 1)
theorem zcv_comm (f h : Nat → Int) (k : Nat) : zcv f h k = zcv h f k := by
  unfold zcv
  rw [zsm_rev]
  exact zsm_congr (fun i hi => by rw [show k + 1 - 1 - i = k - i by omega, show k - (k - i) = i by omega, Int.mul_comm])
theorem zcv_assoc (f h t : Nat → Int) (k : Nat) : zcv (zcv f h) t k = zcv f (zcv h t) k := by
  unfold zcv
  have e1 : zsm (fun i => zsm (fun j => f j * h (i - j)) (i + 1) * t (k - i)) (k + 1) = zsm (fun i => zsm (fun j => f j * h (i - j) * t (k - j - (i - j))) (i + 1)) (k + 1) := zsm_congr (fun i hi => by
    rw [Int.mul_comm, ← zsm_mul]
    exact zsm_congr (fun j hj => by rw [Int.mul_comm, show k - j - (i - j) = k - i by omega]))
  have e2 : zsm (fun i => f i * zsm (fun j => h j * t (k - i - j)) (k - i + 1)) (k + 1) = zsm (fun i => zsm (fun j => f i * h j * t (k - i - j)) (k + 1 - i)) (k + 1) := zsm_congr (fun i hi => by
    rw [← zsm_mul, show k - i + 1 = k + 1 - i by omega]
    exact zsm_congr (fun j hj => by rw [Int.mul_assoc]))
  rw [e1, e2, zsm_tri (fun i j => f i * h j * t (k - i - j)) (k + 1)]
/-- equal modulo p up to a place -/
def zeq (p : Int) (n : Nat) (f h : Nat → Int) : Prop := ∀ k, k < n → f k % p = h k % p
theorem zeq.refl {p : Int} {n : Nat} (f : Nat → Int) : zeq p n f f := fun _ _ => rfl
theorem zeq.symm {p : Int} {n : Nat} {f h : Nat → Int} (e : zeq p n f h) : zeq p n h f := fun k hk => (e k hk).symm
theorem zeq.trans {p : Int} {n : Nat} {f h t : Nat → Int} (e : zeq p n f h) (e2 : zeq p n h t) : zeq p n f t := fun k hk => (e k hk).trans (e2 k hk)
theorem zeq.mono {p : Int} {n m : Nat} {f h : Nat → Int} (e : zeq p n f h) (hm : m ≤ n) : zeq p m f h := fun k hk => e k (by omega)
theorem zsm_mod {p : Int} {F G : Nat → Int} : ∀ {n : Nat}, (∀ i, i < n → F i % p = G i % p) → zsm F n % p = zsm G n % p
  | 0, _ => rfl
  | n + 1, h => by
    show (zsm F n + F n) % p = (zsm G n + G n) % p
    rw [Int.add_emod, zsm_mod (fun i hi => h i (by omega)), h n (by omega), ← Int.add_emod]
theorem zcv_mod {p : Int} {n : Nat} {f f' h h' : Nat → Int} (e1 : zeq p n f f') (e2 : zeq p n h h') : zeq p n (zcv f h) (zcv f' h') := fun k hk => by
  unfold zcv
  exact zsm_mod (fun i hi => by rw [Int.mul_emod, e1 i (by omega), e2 (k - i) (by omega), ← Int.mul_emod])
theorem zmod_mod {p : Int} {n : Nat} (f : Nat → Int) : zeq p n (fun k => f k % p) f := fun k _ => Int.emod_emod _ _
def zone (k : Nat) : Int := if k = 0 then 1 else 0
theorem zcv_one (f : Nat → Int) (k : Nat) : zcv zone f k = f k := by
  unfold zcv
  rw [zsm_front, zsm_zero (fun i _ => by show zone (i + 1) * _ = 0; simp [zone])]
  simp [zone]
theorem ztm {x p : Int} (h : 0 ≤ x) : x.tmod p = x % p := Int.tmod_eq_emod_of_nonneg h
theorem zemod_lt {x p : Int} (hp : 0 < p) : 0 ≤ x % p ∧ x % p < p := ⟨Int.emod_nonneg x (by omega), Int.emod_lt_of_pos x hp⟩
theorem zmul_bd {a b p : Int} (ha : 0 ≤ a ∧ a < p) (hb : 0 ≤ b ∧ b < p) (hp : p ≤ 199) : 0 ≤ a * b ∧ a * b ≤ 39204 := by
  refine ⟨Int.mul_nonneg ha.1 hb.1, ?_⟩
  have h1 : a * b ≤ 198 * b := Int.mul_le_mul_of_nonneg_right (by omega) hb.1
  omega
