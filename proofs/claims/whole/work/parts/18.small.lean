/-! THE SMALL METHODS: the tests of arguments and what is asked of one cell -/
section SMALL
variable {g : zG} {φ : Int → zMu → Prop} {μ A : zMu}
theorem ok_X10_isSeries {v : Int} (hv : zR v) (h1 : 0 ≤ v ∧ v < 6 → φ 1 μ) (h0 : ¬ (0 ≤ v ∧ v < 6) → φ 0 μ) : zOi g zm_X10_isSeries [.int (zJ v)] μ φ :=
  sg_X10_isSeries ⟨hv, fun _ => h0 (by omega), fun _ => ⟨fun _ => h0 (by omega), fun _ => h1 (by omega)⟩⟩
theorem ok_X10_isList {v : Int} (hv : zR v) (h1 : 0 ≤ v ∧ v < 4 → φ 1 μ) (h0 : ¬ (0 ≤ v ∧ v < 4) → φ 0 μ) : zOi g zm_X10_isList [.int (zJ v)] μ φ :=
  sg_X10_isList ⟨hv, fun _ => h0 (by omega), fun _ => ⟨fun _ => h0 (by omega), fun _ => h1 (by omega)⟩⟩
theorem ok_X10_isPlace {v : Int} (hv : zR v) (h1 : 0 ≤ v ∧ v < 8 → φ 1 μ) (h0 : ¬ (0 ≤ v ∧ v < 8) → φ 0 μ) : zOi g zm_X10_isPlace [.int (zJ v)] μ φ :=
  sg_X10_isPlace ⟨hv, fun _ => h0 (by omega), fun _ => ⟨fun _ => h0 (by omega), fun _ => h1 (by omega)⟩⟩
theorem ok_X10_isTooFar {v : Int} (hv : zR v) (h0 : -99 ≤ v ∧ v ≤ 99 → φ 0 μ) (h1 : ¬ (-99 ≤ v ∧ v ≤ 99) → φ 1 μ) : zOi g zm_X10_isTooFar [.int (zJ v)] μ φ :=
  sg_X10_isTooFar ⟨hv, fun _ => h1 (by omega), fun _ => ⟨fun _ => h0 (by omega), fun _ => h1 (by omega)⟩⟩
theorem ok_X10_isValue {v : Int} (hv : zR v) (hp : zR (μ 1 0)) (h1 : 0 ≤ v ∧ v < μ 1 0 → φ 1 μ) (h0 : ¬ (0 ≤ v ∧ v < μ 1 0) → φ 0 μ) : zOi g zm_X10_isValue [.ref 0, .int (zJ v)] μ φ :=
  sg_X10_isValue ⟨hv, fun _ => h0 (by omega), fun _ => ⟨hp, fun _ => h0 (by omega), fun _ => h1 (by omega)⟩⟩
theorem ok_X6_isMissing {c : Nat} (hc : zS c 6 3) (hr : zR (μ c 2)) (h0 : μ c 2 ≠ 0 → φ 0 μ) (h1 : μ c 2 = 0 → φ 1 μ) : zOi g zm_X6_isMissing [.ref c] μ φ :=
  sg_X6_isMissing hc ⟨hr, h0, h1⟩
theorem ok_X3_isMissing {c : Nat} (hc : zS c 3 2) (hr : zR (μ c 1)) (h0 : μ c 1 ≠ 0 → φ 0 μ) (h1 : μ c 1 = 0 → φ 1 μ) : zOi g zm_X3_isMissing [.ref c] μ φ :=
  sg_X3_isMissing hc ⟨hr, h0, h1⟩
theorem zcmp_3 (x y : Int) : (x < y ∧ zcmp x y = -1) ∨ (x = y ∧ zcmp x y = 0) ∨ (y < x ∧ zcmp x y = 1) := by
  unfold zcmp
  by_cases h : y < x
  · rw [if_pos h]; omega
  · rw [if_neg h]
    by_cases h2 : x = y
    · rw [if_pos h2]; omega
    · rw [if_neg h2]; omega
theorem ok_X11_in {v a b : Int} (hv : zR64 v) (ha : zR64 a) (hb : zR64 b) (h1 : a ≤ v ∧ v ≤ b → φ 1 μ) (h0 : ¬ (a ≤ v ∧ v ≤ b) → φ 0 μ) : zOi g zm_X11_in [.long (zL v), .long (zL a), .long (zL b)] μ φ := by
  have e3 := zcmp_3 v a
  have e4 := zcmp_3 v b
  exact sg_X11_in ⟨hv, ha, by omega, fun _ => h0 (by omega), fun _ => ⟨hb, by omega, fun _ => h0 (by omega), fun _ => h1 (by omega)⟩⟩
theorem ok_X11_isSeries {v : Int} (hv : zR v) (h1 : 0 ≤ v ∧ v < 6 → φ 1 μ) (h0 : ¬ (0 ≤ v ∧ v < 6) → φ 0 μ) : zOi g zm_X11_isSeries [.int (zJ v)] μ φ :=
  sg_X11_isSeries ⟨hv, ok_X11_in (by omega) (by omega) (by omega) (fun _ => ⟨by omega, h1 (by omega)⟩) (fun _ => ⟨by omega, h0 (by omega)⟩)⟩
theorem ok_X11_isList {v : Int} (hv : zR v) (h1 : 0 ≤ v ∧ v < 4 → φ 1 μ) (h0 : ¬ (0 ≤ v ∧ v < 4) → φ 0 μ) : zOi g zm_X11_isList [.int (zJ v)] μ φ :=
  sg_X11_isList ⟨hv, ok_X11_in (by omega) (by omega) (by omega) (fun _ => ⟨by omega, h1 (by omega)⟩) (fun _ => ⟨by omega, h0 (by omega)⟩)⟩
theorem ok_X11_isKept {v : Int} (hv : zR v) (h1 : 0 ≤ v ∧ v < 8 → φ 1 μ) (h0 : ¬ (0 ≤ v ∧ v < 8) → φ 0 μ) : zOi g zm_X11_isKept [.int (zJ v)] μ φ :=
  sg_X11_isKept ⟨hv, ok_X11_in (by omega) (by omega) (by omega) (fun _ => ⟨by omega, h1 (by omega)⟩) (fun _ => ⟨by omega, h0 (by omega)⟩)⟩
theorem ok_X11_isStart {v : Int} (hv : zR v) (h1 : -99 ≤ v ∧ v ≤ 99 → φ 1 μ) (h0 : ¬ (-99 ≤ v ∧ v ≤ 99) → φ 0 μ) : zOi g zm_X11_isStart [.int (zJ v)] μ φ :=
  sg_X11_isStart ⟨hv, ok_X11_in (by omega) (by omega) (by omega) (fun _ => ⟨by omega, h1 (by omega)⟩) (fun _ => ⟨by omega, h0 (by omega)⟩)⟩
theorem ok_X11_isValue {v : Int} (hv : zR v) (hp : 0 ≤ μ 203 0 ∧ μ 203 0 ≤ 199) (h1 : 0 ≤ v ∧ v < μ 203 0 → φ 1 μ) (h0 : ¬ (0 ≤ v ∧ v < μ 203 0) → φ 0 μ) : zOi g zm_X11_isValue [.ref 203, .int (zJ v)] μ φ :=
  sg_X11_isValue ⟨hv, by omega, ok_X11_in (by omega) (by omega) (by omega) (fun _ => ⟨by omega, h1 (by omega)⟩) (fun _ => ⟨by omega, h0 (by omega)⟩)⟩
theorem ok_X11_isThere {s : Nat} (hs : s < 6) (hr : zR (μ 205 s)) (h1 : 0 < μ 205 s → φ 1 μ) (h0 : μ 205 s ≤ 0 → φ 0 μ) : zOi g zm_X11_isThere [.ref 203, .int (zJ (s : Int))] μ φ :=
  sg_X11_isThere ⟨by omega, by rw [Int.toNat_natCast]; exact hr, by rw [Int.toNat_natCast]; exact h0, by rw [Int.toNat_natCast]; exact h1⟩
/-- what an A that can be holds -/
theorem zWF_p (h : zWF A) : zP (A 0 0) ∧ 5 ≤ A 0 0 ∧ A 0 0 ≤ 199 := ⟨h.1.1, (zP_bd h.1.1).1, (zP_bd h.1.1).2⟩
theorem zWF_s (h : zWF A) {s : Nat} (hs : s < 6) : (-99 ≤ A 1 s ∧ A 1 s ≤ 99) ∧ (0 ≤ A 2 s ∧ A 2 s ≤ 80) ∧ zmodp (A 0 0) (A 2 s).toNat (A (10 + s)) := by
  have := h.1.2.1 s hs
  rw [Nat.zero_add, Nat.zero_add, Nat.zero_add] at this
  exact this
theorem zWF_d (h : zWF A) : 0 ≤ A 3 0 ∧ A 3 0 ≤ 8 := h.1.2.2.1
theorem zWF_e (h : zWF A) (hd : A 3 0 ≠ 0) : zmodp (A 0 0) 81 (A 4) ∧ ∀ (i k : Nat), i < 9 → k < 9 → (A 3 0 < i ∨ A 3 0 < k) → A 4 (9 * i + k) = 0 := h.1.2.2.2.1 hd
theorem zWF_k (h : zWF A) {q : Nat} (hq : q < 8) : A 5 q = 0 ∨ (zP (A 5 q) ∧ (1 ≤ A 6 q ∧ A 6 q ≤ 8) ∧ zmodp (A 5 q) 81 (A (20 + q)) ∧ ∀ (i k : Nat), i < 9 → k < 9 → (A 6 q < i ∨ A 6 q < k) → A (20 + q) (9 * i + k) = 0) := by
  have := h.1.2.2.2.2.1 q hq
  rw [Nat.zero_add, Nat.zero_add, Nat.zero_add] at this
  exact this
theorem zRC_p0 (h : zRC A μ) : μ 1 0 = A 0 0 := h.1.1
theorem zRC_sr (h : zRC A μ) {s : Nat} (hs : s < 6) : μ (7 + 2 * s) 1 = A 1 s ∧ μ (7 + 2 * s) 2 = A 2 s ∧ ∀ (k : Nat), (k : Int) < A 2 s → μ (8 + 2 * s) k = A (10 + s) k := by
  have := h.1.2.1 s hs
  unfold zCs at this
  rw [Nat.zero_add, Nat.zero_add, Nat.zero_add, show 1 + 6 + 2 * s = 7 + 2 * s by omega, show 1 + 7 + 2 * s = 8 + 2 * s by omega] at this
  exact this
theorem zRC_eq (h : zRC A μ) : μ 3 1 = A 3 0 ∧ (A 3 0 ≠ 0 → ∀ (t : Nat), t < 81 → μ 4 t = A 4 t) := h.1.2.2.1
theorem zRC_k (h : zRC A μ) {q : Nat} (hq : q < 8) : (A 5 q = 0 ∧ μ (19 + 2 * q) 1 = 0) ∨ (A 5 q ≠ 0 ∧ μ (19 + 2 * q) 1 = A 6 q ∧ μ 6 q = A 5 q ∧ ∀ (t : Nat), t < 81 → μ (20 + 2 * q) t = A (20 + q) t) := by
  have := h.1.2.2.2 q hq
  unfold zCk at this
  rw [Nat.zero_add, Nat.zero_add, Nat.zero_add, show 1 + 18 + 2 * q = 19 + 2 * q by omega, show 1 + 19 + 2 * q = 20 + 2 * q by omega] at this
  exact this
theorem zRM_p0 (h : zRM A μ) : μ 203 0 = A 0 0 := h.1.1
theorem zRM_sr (h : zRM A μ) {s : Nat} (hs : s < 6) : μ 204 s = A 1 s ∧ μ 205 s = A 2 s ∧ ∀ (k : Nat), (k : Int) < A 2 s → μ 206 (80 * s + k) = A (10 + s) k := by
  have := h.1.2.1 s hs
  rw [Nat.zero_add, Nat.zero_add, Nat.zero_add] at this
  exact this
theorem zRM_d (h : zRM A μ) : μ 203 4 = A 3 0 := h.1.2.2.1
theorem zRM_e (h : zRM A μ) (hd : A 3 0 ≠ 0) : ∀ (i k : Nat), (i : Int) ≤ A 3 0 → (k : Int) ≤ A 3 0 → μ 207 (((A 3 0).toNat + 1) * i + k) = A 4 (9 * i + k) := h.1.2.2.2.1 hd
theorem zRM_k (h : zRM A μ) {q : Nat} (hq : q < 8) : μ 208 (83 * q) = A 5 q ∧ (A 5 q ≠ 0 → μ 208 (83 * q + 1) = A 6 q ∧ ∀ (i k : Nat), (i : Int) ≤ A 6 q → (k : Int) ≤ A 6 q → μ 208 (83 * q + 2 + (((A 6 q).toNat + 1) * i + k)) = A (20 + q) (9 * i + k)) := by
  have := h.1.2.2.2.2 q hq
  rw [Nat.zero_add, Nat.zero_add, Nat.zero_add] at this
  exact this
/-- the same cells, for many s -/
theorem zsr (s : Nat) (hs : s < 6) : zS (7 + 2 * s) 6 3 ∧ zS (8 + 2 * s) 12 80 := by
  have : s = 0 ∨ s = 1 ∨ s = 2 ∨ s = 3 ∨ s = 4 ∨ s = 5 := by omega
  rcases this with h | h | h | h | h | h <;> subst h
  · exact ⟨zc_7, zc_8⟩
  · exact ⟨zc_9, zc_10⟩
  · exact ⟨zc_11, zc_12⟩
  · exact ⟨zc_13, zc_14⟩
  · exact ⟨zc_15, zc_16⟩
  · exact ⟨zc_17, zc_18⟩
theorem zsk (q : Nat) (hq : q < 8) : zS (19 + 2 * q) 3 2 ∧ zS (20 + 2 * q) 12 81 := by
  have : q = 0 ∨ q = 1 ∨ q = 2 ∨ q = 3 ∨ q = 4 ∨ q = 5 ∨ q = 6 ∨ q = 7 := by omega
  rcases this with h | h | h | h | h | h | h | h <;> subst h
  · exact ⟨zc_19, zc_20⟩
  · exact ⟨zc_21, zc_22⟩
  · exact ⟨zc_23, zc_24⟩
  · exact ⟨zc_25, zc_26⟩
  · exact ⟨zc_27, zc_28⟩
  · exact ⟨zc_29, zc_30⟩
  · exact ⟨zc_31, zc_32⟩
  · exact ⟨zc_33, zc_34⟩
theorem zsl (l : Nat) (hl : l < 4) : zS (198 + l) 12 80 := by
  have : l = 0 ∨ l = 1 ∨ l = 2 ∨ l = 3 := by omega
  rcases this with h | h | h | h <;> subst h
  · exact zc_198
  · exact zc_199
  · exact zc_200
  · exact zc_201
/-- a count: how many of the first n -/
def zct (P : Nat → Bool) : Nat → Int
  | 0 => 0
  | n + 1 => zct P n + if P n then 1 else 0
theorem zct_congr {P Q : Nat → Bool} : ∀ {n : Nat}, (∀ i, i < n → P i = Q i) → zct P n = zct Q n
  | 0, _ => rfl
  | n + 1, h => by rw [zct, zct, zct_congr (fun i hi => h i (by omega)), h n (by omega)]
theorem zct_bd {P : Nat → Bool} : ∀ {n : Nat}, 0 ≤ zct P n ∧ zct P n ≤ n
  | 0 => ⟨Int.le_refl _, Int.le_refl _⟩
  | n + 1 => by
    have := zct_bd (P := P) (n := n)
    rw [zct]
    split <;> omega
end SMALL
