/-! J: the series on paper -/
theorem zcv_c (f h : Nat → Int) : zcv f h = zcv h f := funext (zcv_comm f h)
theorem zcv_a (f h t : Nat → Int) : zcv (zcv f h) t = zcv f (zcv h t) := funext (zcv_assoc f h t)
theorem zcv_1 (f : Nat → Int) : zcv zone f = f := funext (zcv_one f)
theorem zsm_only {v : Int} {c : Nat} : ∀ n, zsm (fun j => if j = c then v else 0) n = if c < n then v else 0
  | 0 => by rw [zsm, if_neg (by omega)]
  | n + 1 => by
    rw [zsm, zsm_only n]
    by_cases h : c < n
    · rw [if_pos h, if_neg (by omega), if_pos (by omega)]; omega
    · rw [if_neg h]
      by_cases h2 : n = c
      · rw [if_pos h2, if_pos (by omega)]; omega
      · rw [if_neg h2, if_neg (by omega)]; omega
def zfa (k i : Nat) : Int := if i = 0 then 1 else if i = k then -1 else 0
theorem zcv_fa {f : Nat → Int} {k t : Nat} (hk : 1 ≤ k) : zcv f (zfa k) t = f t - if k ≤ t then f (t - k) else 0 := by
  rw [zcv_comm, zcv_front, zsm_congr (G := fun j => if j = k - 1 then -f (t - k) else 0) (fun j hj => by
    unfold zfa
    rw [if_neg (by omega)]
    by_cases h : j + 1 = k
    · rw [if_pos h, if_pos (by omega), show t - 1 - j = t - k by omega]; omega
    · rw [if_neg h, if_neg (by omega), Int.zero_mul]), zsm_only]
  rw [show zfa k 0 = 1 from rfl, Int.one_mul]
  by_cases h : k ≤ t
  · rw [if_pos (by omega), if_pos h]; omega
  · rw [if_neg (by omega), if_neg h]; omega
def zpo (f : Nat → Int) : Nat → Nat → Int
  | 0 => zone
  | m + 1 => zcv (zpo f m) f
theorem zpo_add {f : Nat → Int} {a : Nat} : ∀ b, zcv (zpo f a) (zpo f b) = zpo f (a + b)
  | 0 => by
    show zcv (zpo f a) zone = _
    rw [zcv_c, zcv_1]; rfl
  | b + 1 => by
    show zcv (zpo f a) (zcv (zpo f b) f) = zcv (zpo f (a + b)) f
    rw [← zcv_a, zpo_add b]
theorem zpo_mul {f h : Nat → Int} : ∀ m, zpo (zcv f h) m = zcv (zpo f m) (zpo h m)
  | 0 => by
    show zone = zcv zone zone
    rw [zcv_1]
  | m + 1 => by
    show zcv (zpo (zcv f h) m) (zcv f h) = zcv (zcv (zpo f m) f) (zcv (zpo h m) h)
    rw [zpo_mul m, zcv_a, zcv_a]
    congr 1
    rw [← zcv_a, ← zcv_a, zcv_c (zpo h m) f]
theorem zpo_one : ∀ m, zpo zone m = zone
  | 0 => rfl
  | m + 1 => by
    show zcv (zpo zone m) zone = zone
    rw [zpo_one m, zcv_1]
theorem zpo_congr {f f' : Nat → Int} {n : Nat} (e : ∀ i, i < n → f i = f' i) : ∀ m i, i < n → zpo f m i = zpo f' m i
  | 0, _, _ => rfl
  | m + 1, i, hi => zcv_congr (fun j hj => zpo_congr e m j (by omega)) (fun j hj => e j (by omega))
theorem zcv_0 (f h : Nat → Int) : zcv f h 0 = f 0 * h 0 := by
  unfold zcv zsm zsm
  rw [Int.zero_add]
def zep : Nat → Nat → Int
  | 0 => zone
  | K + 1 => zcv (zep K) (zfa (K + 1))
def zed : Nat → Nat → Int
  | 0 => zone
  | K + 1 => zcv (zed K) (zpo (zfa (K + 1)) 24)
theorem zed_eq : ∀ K, zed K = zpo (zep K) 24
  | 0 => (zpo_one 24).symm
  | K + 1 => by
    show zcv (zed K) (zpo (zfa (K + 1)) 24) = zpo (zcv (zep K) (zfa (K + 1))) 24
    rw [zed_eq K, zpo_mul]
theorem zep_0 : ∀ K, zep K 0 = 1
  | 0 => rfl
  | K + 1 => by
    show zcv (zep K) (zfa (K + 1)) 0 = 1
    rw [zcv_0, zep_0 K]; rfl
theorem zpo_0 {f : Nat → Int} (h : f 0 = 1) : ∀ m, zpo f m 0 = 1
  | 0 => rfl
  | m + 1 => by
    show zcv (zpo f m) f 0 = 1
    rw [zcv_0, zpo_0 h m, h]; rfl
theorem zep_trunc {n t : Nat} (ht : t < n) : ∀ K, n - 1 ≤ K → zep K t = zep (n - 1) t
  | 0, h => by rw [show n - 1 = 0 by omega]
  | K + 1, h => by
    by_cases h2 : n - 1 = K + 1
    · rw [h2]
    · show zcv (zep K) (zfa (K + 1)) t = _
      rw [zcv_fa (by omega), if_neg (by omega), Int.sub_zero]
      exact zep_trunc ht K (by omega)
/-- the divisors' cubes -/
def zdc (k d : Nat) : Int := if k % (d + 1) = 0 then ((d : Int) + 1) * (d + 1) * (d + 1) else 0
def zei (k : Nat) : Int := if k = 0 then 1 else 240 * zsm (zdc k) k
def zjn : Nat → Int := zcv (zcv zei zei) zei
def zjd : Nat → Int := zed 79
theorem zjd_0 : zjd 0 = 1 := by
  unfold zjd
  rw [zed_eq]
  exact zpo_0 (zep_0 79) 24
theorem zsm_ext {F : Nat → Int} {m : Nat} : ∀ n, m ≤ n → (∀ i, m ≤ i → i < n → F i = 0) → zsm F n = zsm F m
  | 0, h, _ => by rw [show m = 0 by omega]
  | n + 1, h, e => by
    by_cases h2 : m = n + 1
    · rw [h2]
    · rw [zsm, e n (by omega) (by omega), Int.add_zero]
      exact zsm_ext n (by omega) (fun i h1 h2 => e i h1 (by omega))
theorem zdc_bd {k d : Nat} (hd : d < 80) : 0 ≤ zdc k d ∧ zdc k d ≤ 512000 := by
  unfold zdc
  by_cases h : k % (d + 1) = 0
  · rw [if_pos h]
    have h1 : ((d : Int) + 1) * (d + 1) ≤ 80 * 80 := Int.mul_le_mul (by omega) (by omega) (by omega) (by omega)
    have h0 : 0 ≤ ((d : Int) + 1) * (d + 1) := Int.mul_nonneg (by omega) (by omega)
    have h2 : ((d : Int) + 1) * (d + 1) * (d + 1) ≤ 6400 * 80 := Int.mul_le_mul (by omega) (by omega) (by omega) (by omega)
    exact ⟨Int.mul_nonneg h0 (by omega), by omega⟩
  · rw [if_neg h]; omega
