/-! THE COMMON STATE A (rows: 0 the modulus; 1 starts; 2 lengths; 3 the degree; 4 the equation, x^i y^k at 9 i + k; 5 kept moduli, 0 missing; 6 kept degrees; 10 + s a series; 20 + q a kept polynomial; the same rows + 100 are the image; 40 the tape's length, 41 the tape, 42 the paper's length, 43 the paper, 44 the lists' lengths, 45 + l a list, 60 whether there is an image), what holds of it always, and how class and model hold it -/
/-- contents that can be -/
def zWFc (A : zMu) (o : Nat) : Prop :=
  zP (A o 0) ∧
  (∀ (s : Nat), s < 6 → (-99 ≤ A (o + 1) s ∧ A (o + 1) s ≤ 99) ∧ (0 ≤ A (o + 2) s ∧ A (o + 2) s ≤ 80) ∧ zmodp (A o 0) (A (o + 2) s).toNat (A (o + 10 + s))) ∧
  (0 ≤ A (o + 3) 0 ∧ A (o + 3) 0 ≤ 8) ∧ (A (o + 3) 0 ≠ 0 → zmodp (A o 0) 81 (A (o + 4)) ∧ ∀ (i k : Nat), i < 9 → k < 9 → (A (o + 3) 0 < i ∨ A (o + 3) 0 < k) → A (o + 4) (9 * i + k) = 0) ∧
  (∀ (q : Nat), q < 8 → A (o + 5) q = 0 ∨ (zP (A (o + 5) q) ∧ (1 ≤ A (o + 6) q ∧ A (o + 6) q ≤ 8) ∧ zmodp (A (o + 5) q) 81 (A (o + 20 + q)) ∧ ∀ (i k : Nat), i < 9 → k < 9 → (A (o + 6) q < i ∨ A (o + 6) q < k) → A (o + 20 + q) (9 * i + k) = 0)) ∧
  (∀ (q r : Nat), q < 8 → r < 8 → A (o + 5) q ≠ 0 → A (o + 5) q = A (o + 5) r → q = r)
def zWF (A : zMu) : Prop :=
  zWFc A 0 ∧ (A 60 0 = 0 ∨ (A 60 0 = 1 ∧ zWFc A 100)) ∧ ((0 ≤ A 40 0 ∧ A 40 0 ≤ 100) ∧ ∀ (k : Nat), (k : Int) < A 40 0 → 1 ≤ A 41 k ∧ A 41 k ≤ 127) ∧
  ((0 ≤ A 42 0 ∧ A 42 0 ≤ 648) ∧ ∀ (k : Nat), (k : Int) < A 42 0 → zR (A 43 k)) ∧ (∀ (l : Nat), l < 4 → (-1 ≤ A 44 l ∧ A 44 l ≤ 80) ∧ ∀ (k : Nat), k < 80 → zR (A (45 + l) k))
/-- how the class holds contents: the object Contents at the cell b -/
def zCs (A : zMu) (o : Nat) (μ : zMu) (b s : Nat) : Prop := μ (b + 6 + 2 * s) 1 = A (o + 1) s ∧ μ (b + 6 + 2 * s) 2 = A (o + 2) s ∧ ∀ (k : Nat), (k : Int) < A (o + 2) s → μ (b + 7 + 2 * s) k = A (o + 10 + s) k
def zCe (A : zMu) (o : Nat) (μ : zMu) (b : Nat) : Prop := μ (b + 2) 1 = A (o + 3) 0 ∧ (A (o + 3) 0 ≠ 0 → ∀ (t : Nat), t < 81 → μ (b + 3) t = A (o + 4) t)
def zCk (A : zMu) (o : Nat) (μ : zMu) (b q : Nat) : Prop := (A (o + 5) q = 0 ∧ μ (b + 18 + 2 * q) 1 = 0) ∨ (A (o + 5) q ≠ 0 ∧ μ (b + 18 + 2 * q) 1 = A (o + 6) q ∧ μ (b + 5) q = A (o + 5) q ∧ ∀ (t : Nat), t < 81 → μ (b + 19 + 2 * q) t = A (o + 20 + q) t)
def zCc (A : zMu) (o : Nat) (μ : zMu) (b : Nat) : Prop := μ b 0 = A o 0 ∧ (∀ (s : Nat), s < 6 → zCs A o μ b s) ∧ zCe A o μ b ∧ ∀ (q : Nat), q < 8 → zCk A o μ b q
/-- a polynomial of degree top at w, by its highest coefficients first: the first m steps -/
def zhr (p w : Int) (L : Nat → Int) (top : Nat) : Nat → Int
  | 0 => 0
  | m + 1 => (zhr p w L top m * w + L (top - m)) % p
def zval (p w : Int) (L : Nat → Int) (top : Nat) : Int := zhr p w L top (top + 1)
/-- the coefficients that y has when v is put in for x -/
def zln (p : Int) (d : Nat) (e : Nat → Int) (v : Int) (k : Nat) : Int := zval p v (fun i => e (9 * i + k)) d
/-- the greatest place of n with a number that isn't 0; -1: none -/
def ztp (L : Nat → Int) : Nat → Int
  | 0 => -1
  | n + 1 => if L n = 0 then ztp L n else (n : Int)
/-- divided by y - w -/
def zdl (p w : Int) (L : Nat → Int) (top : Nat) (k : Nat) : Int := if k < top then zhr p w L top (top - k) else 0
/-- the neighbours from w on, as often as they are -/
def zNb (p : Int) : Nat → Nat → (Nat → Int) → Int → List Int
  | 0, _, _, _ => []
  | f + 1, top, L, w => if top = 0 ∨ p ≤ w then [] else if zval p w L top = 0 then w :: zNb p f (top - 1) (zdl p w L top) w else zNb p f top L (w + 1)
/-- all neighbours of v; none: it is degenerate -/
def znbs (p : Int) (d : Nat) (e : Nat → Int) (v : Int) : Option (List Int) := if ztp (zln p d e v) (d + 1) < 0 then none else some (zNb p 210 (ztp (zln p d e v) (d + 1)).toNat (zln p d e v) 0)
/-- what the class's graph knows of a value -/
def zCg (A μ : zMu) (v : Nat) : Prop := μ 183 v = -2 ∨ (A 3 0 ≠ 0 ∧ match znbs (A 0 0) (A 3 0).toNat (A 4) (v : Int) with
  | none => μ 183 v = -1
  | some l => μ 183 v = (l.length : Int) ∧ ∀ (k : Nat), k < l.length → μ 184 (8 * v + k) = l.getD k 0)
def zRi (A μ : zMu) : Prop := μ 0 2 = A 60 0 ∧ (A 60 0 = 1 → zCc A 100 μ 35)
def zRg (A μ : zMu) : Prop := ∀ (v : Nat), v < 199 → zCg A μ v
def zRt (A μ : zMu) : Prop := μ 188 1 = A 40 0 ∧ ∀ (k : Nat), (k : Int) < A 40 0 → μ 189 k = A 41 k
def zRp (A μ : zMu) : Prop := μ 193 2 = A 42 0 ∧ ∀ (k : Nat), (k : Int) < A 42 0 → μ 196 k = A 43 k
def zRl (A μ : zMu) : Prop := ∀ (l : Nat), l < 4 → μ 202 l = A 44 l ∧ ∀ (k : Nat), k < 80 → μ (198 + l) k = A (45 + l) k
/-- the class holds A -/
def zRC (A μ : zMu) : Prop := zCc A 0 μ 1 ∧ zRi A μ ∧ zRg A μ ∧ zRt A μ ∧ zRp A μ ∧ zRl A μ
/-- the model holds contents: modulus, starts, lengths, rows, degree, equation, kept -/
def zMc (A : zMu) (o : Nat) (p d : Int) (ss ls rs es ks : Nat → Int) : Prop :=
  p = A o 0 ∧ (∀ (s : Nat), s < 6 → ss s = A (o + 1) s ∧ ls s = A (o + 2) s ∧ ∀ (k : Nat), (k : Int) < A (o + 2) s → rs (80 * s + k) = A (o + 10 + s) k) ∧
  d = A (o + 3) 0 ∧ (A (o + 3) 0 ≠ 0 → ∀ (i k : Nat), (i : Int) ≤ A (o + 3) 0 → (k : Int) ≤ A (o + 3) 0 → es (((A (o + 3) 0).toNat + 1) * i + k) = A (o + 4) (9 * i + k)) ∧
  (∀ (q : Nat), q < 8 → ks (83 * q) = A (o + 5) q ∧ (A (o + 5) q ≠ 0 → ks (83 * q + 1) = A (o + 6) q ∧ ∀ (i k : Nat), (i : Int) ≤ A (o + 6) q → (k : Int) ≤ A (o + 6) q → ks (83 * q + 2 + (((A (o + 6) q).toNat + 1) * i + k)) = A (o + 20 + q) (9 * i + k)))
def zwords : List Int := [112, 114, 105, 109, 101, 32, 106, 32, 115, 117, 109, 32, 116, 105, 109, 101, 115, 32, 115, 116, 114, 101, 116, 99, 104, 32, 111, 118, 101, 114, 32, 112, 111, 119, 101, 114, 32, 102, 105, 110, 100, 32, 107, 101, 101, 112, 32]
def zasks : List Int := [1, 2, 3, 3, 3, 2, 3, 4, 1]
def zMn (A μ : zMu) : Prop := zMc A 0 (μ 203 0) (μ 203 4) (μ 204) (μ 205) (μ 206) (μ 207) (μ 208)
def zMi (A μ : zMu) : Prop := μ 203 42 = A 60 0 ∧ (A 60 0 = 1 → zMc A 100 (μ 203 43) (μ 203 44) (μ 231) (μ 232) (μ 233) (μ 234) (μ 235))
def zMt (A μ : zMu) : Prop := μ 203 31 = A 40 0 ∧ ∀ (k : Nat), (k : Int) < A 40 0 → μ 223 k = A 41 k
def zMp (A μ : zMu) : Prop := μ 203 39 = A 42 0 ∧ ∀ (k : Nat), (k : Int) < A 42 0 → μ 228 k = A 43 k
def zMl (A μ : zMu) : Prop := ∀ (l : Nat), l < 4 → μ 229 l = A 44 l ∧ ∀ (k : Nat), k < 80 → μ 230 (80 * l + k) = A (45 + l) k
def zMw (μ : zMu) : Prop := (∀ (k : Nat), k < 47 → μ 224 k = zwords.getD k 0) ∧ (∀ (k : Nat), k < 9 → μ 225 k = zasks.getD k 0)
/-- the model holds A -/
def zRM (A μ : zMu) : Prop := zMn A μ ∧ zMi A μ ∧ zMt A μ ∧ zMp A μ ∧ zMl A μ ∧ zMw μ
/-- what a class's method leaves of the model, a model's of the class -/
def zKm (μ μ' : zMu) : Prop := ∀ (i : Nat), (203 ≤ i ∨ (190 ≤ i ∧ i ≤ 192)) → μ' i = μ i
def zKc (μ μ' : zMu) : Prop := ∀ (i : Nat), (i < 203 ∨ i = 226) → μ' i = μ i
theorem zKm.refl (μ : zMu) : zKm μ μ := fun _ _ => rfl
theorem zKc.refl (μ : zMu) : zKc μ μ := fun _ _ => rfl
theorem zKm.trans {μ μ1 μ2 : zMu} (h : zKm μ μ1) (h2 : zKm μ1 μ2) : zKm μ μ2 := fun i hi => (h2 i hi).trans (h i hi)
theorem zKc.trans {μ μ1 μ2 : zMu} (h : zKc μ μ1) (h2 : zKc μ1 μ2) : zKc μ μ2 := fun i hi => (h2 i hi).trans (h i hi)
section KEEP
variable {A A' μ μ' : zMu}
theorem zWFc_keep {o : Nat} (hA : ∀ (i : Nat), o ≤ i → i < o + 28 → A' i = A i) (h : zWFc A o) : zWFc A' o := by
  obtain ⟨h1, h2, h3, h4, h5, h6⟩ := h
  refine ⟨by rw [hA o (by omega) (by omega)]; exact h1, fun s hs => ?_, by rw [hA (o + 3) (by omega) (by omega)]; exact h3, by rw [hA (o + 3) (by omega) (by omega), hA (o + 4) (by omega) (by omega), hA o (by omega) (by omega)]; exact h4, fun q hq => ?_, by rw [hA (o + 5) (by omega) (by omega)]; exact h6⟩
  · rw [hA (o + 1) (by omega) (by omega), hA (o + 2) (by omega) (by omega), hA o (by omega) (by omega), hA (o + 10 + s) (by omega) (by omega)]; exact h2 s hs
  · rw [hA (o + 5) (by omega) (by omega), hA (o + 6) (by omega) (by omega), hA (o + 20 + q) (by omega) (by omega)]; exact h5 q hq
theorem zCc_keep {o b : Nat} (hA : ∀ (i : Nat), o ≤ i → i < o + 28 → A' i = A i) (hm : ∀ (i : Nat), b ≤ i → i < b + 34 → μ' i = μ i) (h : zCc A o μ b) : zCc A' o μ' b := by
  obtain ⟨q1, q2, q3, q4⟩ := h
  refine ⟨by rw [hA o (by omega) (by omega), hm b (by omega) (by omega)]; exact q1, fun s hs => ?_, ?_, fun q hq => ?_⟩
  · have := q2 s hs
    unfold zCs at this ⊢
    rw [hA (o + 1) (by omega) (by omega), hA (o + 2) (by omega) (by omega), hA (o + 10 + s) (by omega) (by omega), hm _ (by omega) (by omega), hm (b + 7 + 2 * s) (by omega) (by omega)]; exact this
  · unfold zCe at q3 ⊢
    rw [hA (o + 3) (by omega) (by omega), hA (o + 4) (by omega) (by omega), hm (b + 2) (by omega) (by omega), hm (b + 3) (by omega) (by omega)]; exact q3
  · have := q4 q hq
    unfold zCk at this ⊢
    rw [hA (o + 5) (by omega) (by omega), hA (o + 6) (by omega) (by omega), hA (o + 20 + q) (by omega) (by omega), hm (b + 18 + 2 * q) (by omega) (by omega), hm (b + 5) (by omega) (by omega), hm (b + 19 + 2 * q) (by omega) (by omega)]; exact this
theorem zRi_keep (h0 : A' 60 = A 60) (hA : ∀ (i : Nat), 100 ≤ i → i < 128 → A' i = A i) (h1 : μ' 0 2 = μ 0 2) (hm : ∀ (i : Nat), 35 ≤ i → i < 69 → μ' i = μ i) (h : zRi A μ) : zRi A' μ' := by
  unfold zRi at h ⊢
  rw [h0, h1]
  exact ⟨h.1, fun q => zCc_keep hA hm (h.2 q)⟩
theorem zRg_keep (h0 : A' 0 = A 0) (h3 : A' 3 = A 3) (h4 : A' 4 = A 4) (h1 : μ' 183 = μ 183) (h2 : μ' 184 = μ 184) (h : zRg A μ) : zRg A' μ' := fun v hv => by
  have := h v hv
  unfold zCg at this ⊢
  rw [h0, h3, h4, h1, h2]; exact this
theorem zRt_keep (h0 : A' 40 = A 40) (h1 : A' 41 = A 41) (h2 : μ' 188 1 = μ 188 1) (h3 : μ' 189 = μ 189) (h : zRt A μ) : zRt A' μ' := by
  unfold zRt at h ⊢
  rw [h0, h1, h2, h3]; exact h
theorem zRp_keep (h0 : A' 42 = A 42) (h1 : A' 43 = A 43) (h2 : μ' 193 2 = μ 193 2) (h3 : μ' 196 = μ 196) (h : zRp A μ) : zRp A' μ' := by
  unfold zRp at h ⊢
  rw [h0, h1, h2, h3]; exact h
theorem zRl_keep (hA : ∀ (i : Nat), 44 ≤ i → i < 49 → A' i = A i) (hm : ∀ (i : Nat), 198 ≤ i → i < 203 → μ' i = μ i) (h : zRl A μ) : zRl A' μ' := fun l hl => by
  have := h l hl
  rw [hA 44 (by omega) (by omega), hA (45 + l) (by omega) (by omega), hm 202 (by omega) (by omega), hm (198 + l) (by omega) (by omega)]; exact this
theorem zRC_keep (h : zRC A μ) (e : zKc μ μ') : zRC A μ' := by
  obtain ⟨h1, h2, h3, h4, h5, h6⟩ := h
  exact ⟨zCc_keep (fun _ _ _ => rfl) (fun i _ _ => e i (by omega)) h1, zRi_keep rfl (fun _ _ _ => rfl) (by rw [e 0 (by omega)]) (fun i _ _ => e i (by omega)) h2, zRg_keep rfl rfl rfl (e _ (by omega)) (e _ (by omega)) h3,
    zRt_keep rfl rfl (by rw [e 188 (by omega)]) (e _ (by omega)) h4, zRp_keep rfl rfl (by rw [e 193 (by omega)]) (e _ (by omega)) h5, zRl_keep (fun _ _ _ => rfl) (fun i _ _ => e i (by omega)) h6⟩
/-- the class: only the tape; the paper; the lists; what is now; the image -/
theorem zRC_t (h : zRC A μ) (hA : ∀ (i : Nat), i ≠ 40 → i ≠ 41 → A' i = A i) (e : ∀ (i : Nat), i ≠ 188 → i ≠ 189 → μ' i = μ i) (ht : zRt A' μ') : zRC A' μ' := by
  obtain ⟨h1, h2, h3, h4, h5, h6⟩ := h
  exact ⟨zCc_keep (fun i _ _ => hA i (by omega) (by omega)) (fun i _ _ => e i (by omega) (by omega)) h1, zRi_keep (hA _ (by omega) (by omega)) (fun i _ _ => hA i (by omega) (by omega)) (by rw [e 0 (by omega) (by omega)]) (fun i _ _ => e i (by omega) (by omega)) h2, zRg_keep (hA _ (by omega) (by omega)) (hA _ (by omega) (by omega)) (hA _ (by omega) (by omega)) (e _ (by omega) (by omega)) (e _ (by omega) (by omega)) h3,
    ht, zRp_keep (hA _ (by omega) (by omega)) (hA _ (by omega) (by omega)) (by rw [e 193 (by omega) (by omega)]) (e _ (by omega) (by omega)) h5, zRl_keep (fun i _ _ => hA i (by omega) (by omega)) (fun i _ _ => e i (by omega) (by omega)) h6⟩
theorem zRC_p (h : zRC A μ) (hA : ∀ (i : Nat), i ≠ 42 → i ≠ 43 → A' i = A i) (e : ∀ (i : Nat), i ≠ 193 → i ≠ 196 → μ' i = μ i) (ht : zRp A' μ') : zRC A' μ' := by
  obtain ⟨h1, h2, h3, h4, h5, h6⟩ := h
  exact ⟨zCc_keep (fun i _ _ => hA i (by omega) (by omega)) (fun i _ _ => e i (by omega) (by omega)) h1, zRi_keep (hA _ (by omega) (by omega)) (fun i _ _ => hA i (by omega) (by omega)) (by rw [e 0 (by omega) (by omega)]) (fun i _ _ => e i (by omega) (by omega)) h2, zRg_keep (hA _ (by omega) (by omega)) (hA _ (by omega) (by omega)) (hA _ (by omega) (by omega)) (e _ (by omega) (by omega)) (e _ (by omega) (by omega)) h3,
    zRt_keep (hA _ (by omega) (by omega)) (hA _ (by omega) (by omega)) (by rw [e 188 (by omega) (by omega)]) (e _ (by omega) (by omega)) h4, ht, zRl_keep (fun i _ _ => hA i (by omega) (by omega)) (fun i _ _ => e i (by omega) (by omega)) h6⟩
theorem zRC_l (h : zRC A μ) (hA : ∀ (i : Nat), (i < 44 ∨ 49 ≤ i) → A' i = A i) (e : ∀ (i : Nat), (i < 198 ∨ 203 ≤ i) → μ' i = μ i) (ht : zRl A' μ') : zRC A' μ' := by
  obtain ⟨h1, h2, h3, h4, h5, h6⟩ := h
  exact ⟨zCc_keep (fun i _ _ => hA i (by omega)) (fun i _ _ => e i (by omega)) h1, zRi_keep (hA _ (by omega)) (fun i _ _ => hA i (by omega)) (by rw [e 0 (by omega)]) (fun i _ _ => e i (by omega)) h2, zRg_keep (hA _ (by omega)) (hA _ (by omega)) (hA _ (by omega)) (e _ (by omega)) (e _ (by omega)) h3,
    zRt_keep (hA _ (by omega)) (hA _ (by omega)) (by rw [e 188 (by omega)]) (e _ (by omega)) h4, zRp_keep (hA _ (by omega)) (hA _ (by omega)) (by rw [e 193 (by omega)]) (e _ (by omega)) h5, ht⟩
theorem zRC_n (h : zRC A μ) (hA : ∀ (i : Nat), 28 ≤ i → A' i = A i) (e : ∀ (i : Nat), (i = 0 ∨ (35 ≤ i ∧ i < 69) ∨ 188 ≤ i) → μ' i = μ i) (hc : zCc A' 0 μ' 1) (hg : zRg A' μ') : zRC A' μ' := by
  obtain ⟨h1, h2, h3, h4, h5, h6⟩ := h
  exact ⟨hc, zRi_keep (hA _ (by omega)) (fun i _ _ => hA i (by omega)) (by rw [e 0 (by omega)]) (fun i _ _ => e i (by omega)) h2, hg,
    zRt_keep (hA _ (by omega)) (hA _ (by omega)) (by rw [e 188 (by omega)]) (e _ (by omega)) h4, zRp_keep (hA _ (by omega)) (hA _ (by omega)) (by rw [e 193 (by omega)]) (e _ (by omega)) h5, zRl_keep (fun i _ _ => hA i (by omega)) (fun i _ _ => e i (by omega)) h6⟩
theorem zRC_i (h : zRC A μ) (hA : ∀ (i : Nat), i < 60 → A' i = A i) (e : ∀ (i : Nat), ((1 ≤ i ∧ i < 35) ∨ 182 ≤ i) → μ' i = μ i) (hi : zRi A' μ') : zRC A' μ' := by
  obtain ⟨h1, h2, h3, h4, h5, h6⟩ := h
  exact ⟨zCc_keep (fun i _ _ => hA i (by omega)) (fun i _ _ => e i (by omega)) h1, hi, zRg_keep (hA _ (by omega)) (hA _ (by omega)) (hA _ (by omega)) (e _ (by omega)) (e _ (by omega)) h3,
    zRt_keep (hA _ (by omega)) (hA _ (by omega)) (by rw [e 188 (by omega)]) (e _ (by omega)) h4, zRp_keep (hA _ (by omega)) (hA _ (by omega)) (by rw [e 193 (by omega)]) (e _ (by omega)) h5, zRl_keep (fun i _ _ => hA i (by omega)) (fun i _ _ => e i (by omega)) h6⟩
/-- the class: nothing but rows that hold nothing -/
theorem zRC_s (h : zRC A μ) (e : ∀ (i : Nat), (i < 69 ∨ i = 183 ∨ i = 184 ∨ (188 ≤ i ∧ i < 190) ∨ (193 ≤ i ∧ i < 203 ∧ i ≠ 194 ∧ i ≠ 195)) → (∀ (j : Nat), (i = 188 → j = 1) → μ' i j = μ i j)) : zRC A μ' := by
  have f : ∀ (i : Nat), (i < 69 ∨ i = 183 ∨ i = 184 ∨ i = 189 ∨ (193 ≤ i ∧ i < 203 ∧ i ≠ 194 ∧ i ≠ 195)) → μ' i = μ i := fun i hi => funext fun j => e i (by omega) j (fun q => by omega)
  obtain ⟨h1, h2, h3, h4, h5, h6⟩ := h
  exact ⟨zCc_keep (fun _ _ _ => rfl) (fun i _ _ => f i (by omega)) h1, zRi_keep rfl (fun _ _ _ => rfl) (by rw [f 0 (by omega)]) (fun i _ _ => f i (by omega)) h2, zRg_keep rfl rfl rfl (f _ (by omega)) (f _ (by omega)) h3,
    zRt_keep rfl rfl (e 188 (by omega) 1 (fun _ => rfl)) (f _ (by omega)) h4, zRp_keep rfl rfl (by rw [f 193 (by omega)]) (f _ (by omega)) h5, zRl_keep (fun _ _ _ => rfl) (fun i _ _ => f i (by omega)) h6⟩
/-- the model's cells and places that hold -/
def zhM (i : Nat) : Prop := (204 ≤ i ∧ i ≤ 208) ∨ (223 ≤ i ∧ i ≤ 225) ∨ (228 ≤ i ∧ i ≤ 235)
def zhS (j : Nat) : Prop := j = 0 ∨ j = 4 ∨ j = 31 ∨ j = 39 ∨ j = 42 ∨ j = 43 ∨ j = 44
theorem zMc_keep {o : Nat} {p d p' d' : Int} {ss ls rs es ks ss' ls' rs' es' ks' : Nat → Int} (hA : ∀ (i : Nat), o ≤ i → i < o + 28 → A' i = A i) (h1 : p' = p) (h2 : d' = d) (h3 : ss' = ss) (h4 : ls' = ls) (h5 : rs' = rs) (h6 : es' = es) (h7 : ks' = ks) (h : zMc A o p d ss ls rs es ks) : zMc A' o p' d' ss' ls' rs' es' ks' := by
  subst h1 h2 h3 h4 h5 h6 h7
  obtain ⟨q1, q2, q3, q4, q5⟩ := h
  refine ⟨by rw [hA o (by omega) (by omega)]; exact q1, fun s hs => ?_, by rw [hA (o + 3) (by omega) (by omega)]; exact q3, by rw [hA (o + 3) (by omega) (by omega), hA (o + 4) (by omega) (by omega)]; exact q4, fun q hq => ?_⟩
  · rw [hA (o + 1) (by omega) (by omega), hA (o + 2) (by omega) (by omega), hA (o + 10 + s) (by omega) (by omega)]; exact q2 s hs
  · rw [hA (o + 5) (by omega) (by omega), hA (o + 6) (by omega) (by omega), hA (o + 20 + q) (by omega) (by omega)]; exact q5 q hq
theorem zMn_keep (hA : ∀ (i : Nat), i < 28 → A' i = A i) (hs : ∀ (j : Nat), j = 0 ∨ j = 4 → μ' 203 j = μ 203 j) (hm : ∀ (i : Nat), 204 ≤ i → i ≤ 208 → μ' i = μ i) (h : zMn A μ) : zMn A' μ' :=
  zMc_keep (fun i _ _ => hA i (by omega)) (hs 0 (by omega)) (hs 4 (by omega)) (hm _ (by omega) (by omega)) (hm _ (by omega) (by omega)) (hm _ (by omega) (by omega)) (hm _ (by omega) (by omega)) (hm _ (by omega) (by omega)) h
theorem zMi_keep (h0 : A' 60 = A 60) (hA : ∀ (i : Nat), 100 ≤ i → i < 128 → A' i = A i) (hs : ∀ (j : Nat), 42 ≤ j → j ≤ 44 → μ' 203 j = μ 203 j) (hm : ∀ (i : Nat), 231 ≤ i → i ≤ 235 → μ' i = μ i) (h : zMi A μ) : zMi A' μ' := by
  unfold zMi at h ⊢
  rw [h0, hs 42 (by omega) (by omega)]
  exact ⟨h.1, fun q => zMc_keep (fun i _ _ => hA i (by omega) (by omega)) (hs 43 (by omega) (by omega)) (hs 44 (by omega) (by omega)) (hm _ (by omega) (by omega)) (hm _ (by omega) (by omega)) (hm _ (by omega) (by omega)) (hm _ (by omega) (by omega)) (hm _ (by omega) (by omega)) (h.2 q)⟩
theorem zMt_keep (h0 : A' 40 = A 40) (h1 : A' 41 = A 41) (h2 : μ' 203 31 = μ 203 31) (h3 : μ' 223 = μ 223) (h : zMt A μ) : zMt A' μ' := by
  unfold zMt at h ⊢
  rw [h0, h1, h2, h3]; exact h
theorem zMp_keep (h0 : A' 42 = A 42) (h1 : A' 43 = A 43) (h2 : μ' 203 39 = μ 203 39) (h3 : μ' 228 = μ 228) (h : zMp A μ) : zMp A' μ' := by
  unfold zMp at h ⊢
  rw [h0, h1, h2, h3]; exact h
theorem zMl_keep (hA : ∀ (i : Nat), 44 ≤ i → i < 49 → A' i = A i) (h1 : μ' 229 = μ 229) (h2 : μ' 230 = μ 230) (h : zMl A μ) : zMl A' μ' := fun l hl => by
  have := h l hl
  rw [hA 44 (by omega) (by omega), hA (45 + l) (by omega) (by omega), h1, h2]; exact this
theorem zMw_keep (h1 : μ' 224 = μ 224) (h2 : μ' 225 = μ 225) (h : zMw μ) : zMw μ' := by
  unfold zMw at h ⊢
  rw [h1, h2]; exact h
/-- the model: nothing but what holds nothing -/
theorem zRM_s (h : zRM A μ) (hs : ∀ (j : Nat), zhS j → μ' 203 j = μ 203 j) (hm : ∀ (i : Nat), zhM i → μ' i = μ i) : zRM A μ' := by
  obtain ⟨h1, h2, h3, h4, h5, h6⟩ := h
  unfold zhS at hs
  unfold zhM at hm
  exact ⟨zMn_keep (fun _ _ => rfl) (fun j _ => hs j (by omega)) (fun i _ _ => hm i (by omega)) h1, zMi_keep rfl (fun _ _ _ => rfl) (fun j _ _ => hs j (by omega)) (fun i _ _ => hm i (by omega)) h2, zMt_keep rfl rfl (hs _ (by omega)) (hm _ (by omega)) h3,
    zMp_keep rfl rfl (hs _ (by omega)) (hm _ (by omega)) h4, zMl_keep (fun _ _ _ => rfl) (hm _ (by omega)) (hm _ (by omega)) h5, zMw_keep (hm _ (by omega)) (hm _ (by omega)) h6⟩
theorem zRM_keep (h : zRM A μ) (hk : zKm μ μ') : zRM A μ' := zRM_s h (fun j _ => by rw [hk 203 (by omega)]) (fun i hi => hk i (by unfold zhM at hi; omega))
theorem zRM_t (h : zRM A μ) (hA : ∀ (i : Nat), i ≠ 40 → i ≠ 41 → A' i = A i) (hs : ∀ (j : Nat), zhS j → j ≠ 31 → μ' 203 j = μ 203 j) (hm : ∀ (i : Nat), zhM i → i ≠ 223 → μ' i = μ i) (ht : zMt A' μ') : zRM A' μ' := by
  obtain ⟨h1, h2, h3, h4, h5, h6⟩ := h
  unfold zhS at hs
  unfold zhM at hm
  exact ⟨zMn_keep (fun i _ => hA i (by omega) (by omega)) (fun j _ => hs j (by omega) (by omega)) (fun i _ _ => hm i (by omega) (by omega)) h1, zMi_keep (hA _ (by omega) (by omega)) (fun i _ _ => hA i (by omega) (by omega)) (fun j _ _ => hs j (by omega) (by omega)) (fun i _ _ => hm i (by omega) (by omega)) h2, ht,
    zMp_keep (hA _ (by omega) (by omega)) (hA _ (by omega) (by omega)) (hs _ (by omega) (by omega)) (hm _ (by omega) (by omega)) h4, zMl_keep (fun i _ _ => hA i (by omega) (by omega)) (hm _ (by omega) (by omega)) (hm _ (by omega) (by omega)) h5, zMw_keep (hm _ (by omega) (by omega)) (hm _ (by omega) (by omega)) h6⟩
theorem zRM_p (h : zRM A μ) (hA : ∀ (i : Nat), i ≠ 42 → i ≠ 43 → A' i = A i) (hs : ∀ (j : Nat), zhS j → j ≠ 39 → μ' 203 j = μ 203 j) (hm : ∀ (i : Nat), zhM i → i ≠ 228 → μ' i = μ i) (ht : zMp A' μ') : zRM A' μ' := by
  obtain ⟨h1, h2, h3, h4, h5, h6⟩ := h
  unfold zhS at hs
  unfold zhM at hm
  exact ⟨zMn_keep (fun i _ => hA i (by omega) (by omega)) (fun j _ => hs j (by omega) (by omega)) (fun i _ _ => hm i (by omega) (by omega)) h1, zMi_keep (hA _ (by omega) (by omega)) (fun i _ _ => hA i (by omega) (by omega)) (fun j _ _ => hs j (by omega) (by omega)) (fun i _ _ => hm i (by omega) (by omega)) h2, zMt_keep (hA _ (by omega) (by omega)) (hA _ (by omega) (by omega)) (hs _ (by omega) (by omega)) (hm _ (by omega) (by omega)) h3,
    ht, zMl_keep (fun i _ _ => hA i (by omega) (by omega)) (hm _ (by omega) (by omega)) (hm _ (by omega) (by omega)) h5, zMw_keep (hm _ (by omega) (by omega)) (hm _ (by omega) (by omega)) h6⟩
theorem zRM_l (h : zRM A μ) (hA : ∀ (i : Nat), (i < 44 ∨ 49 ≤ i) → A' i = A i) (hs : ∀ (j : Nat), zhS j → μ' 203 j = μ 203 j) (hm : ∀ (i : Nat), zhM i → i ≠ 229 → i ≠ 230 → μ' i = μ i) (ht : zMl A' μ') : zRM A' μ' := by
  obtain ⟨h1, h2, h3, h4, h5, h6⟩ := h
  unfold zhS at hs
  unfold zhM at hm
  exact ⟨zMn_keep (fun i _ => hA i (by omega)) (fun j _ => hs j (by omega)) (fun i _ _ => hm i (by omega) (by omega) (by omega)) h1, zMi_keep (hA _ (by omega)) (fun i _ _ => hA i (by omega)) (fun j _ _ => hs j (by omega)) (fun i _ _ => hm i (by omega) (by omega) (by omega)) h2, zMt_keep (hA _ (by omega)) (hA _ (by omega)) (hs _ (by omega)) (hm _ (by omega) (by omega) (by omega)) h3,
    zMp_keep (hA _ (by omega)) (hA _ (by omega)) (hs _ (by omega)) (hm _ (by omega) (by omega) (by omega)) h4, ht, zMw_keep (hm _ (by omega) (by omega) (by omega)) (hm _ (by omega) (by omega) (by omega)) h6⟩
theorem zRM_n (h : zRM A μ) (hA : ∀ (i : Nat), 28 ≤ i → A' i = A i) (hs : ∀ (j : Nat), zhS j → j ≠ 0 → j ≠ 4 → μ' 203 j = μ 203 j) (hm : ∀ (i : Nat), zhM i → 208 < i → μ' i = μ i) (hn : zMn A' μ') : zRM A' μ' := by
  obtain ⟨h1, h2, h3, h4, h5, h6⟩ := h
  unfold zhS at hs
  unfold zhM at hm
  exact ⟨hn, zMi_keep (hA _ (by omega)) (fun i _ _ => hA i (by omega)) (fun j _ _ => hs j (by omega) (by omega) (by omega)) (fun i _ _ => hm i (by omega) (by omega)) h2, zMt_keep (hA _ (by omega)) (hA _ (by omega)) (hs _ (by omega) (by omega) (by omega)) (hm _ (by omega) (by omega)) h3,
    zMp_keep (hA _ (by omega)) (hA _ (by omega)) (hs _ (by omega) (by omega) (by omega)) (hm _ (by omega) (by omega)) h4, zMl_keep (fun i _ _ => hA i (by omega)) (hm _ (by omega) (by omega)) (hm _ (by omega) (by omega)) h5, zMw_keep (hm _ (by omega) (by omega)) (hm _ (by omega) (by omega)) h6⟩
theorem zRM_i (h : zRM A μ) (hA : ∀ (i : Nat), i < 60 → A' i = A i) (hs : ∀ (j : Nat), zhS j → j < 42 → μ' 203 j = μ 203 j) (hm : ∀ (i : Nat), zhM i → i < 231 → μ' i = μ i) (hi : zMi A' μ') : zRM A' μ' := by
  obtain ⟨h1, h2, h3, h4, h5, h6⟩ := h
  unfold zhS at hs
  unfold zhM at hm
  exact ⟨zMn_keep (fun i _ => hA i (by omega)) (fun j _ => hs j (by omega) (by omega)) (fun i _ _ => hm i (by omega) (by omega)) h1, hi, zMt_keep (hA _ (by omega)) (hA _ (by omega)) (hs _ (by omega) (by omega)) (hm _ (by omega) (by omega)) h3,
    zMp_keep (hA _ (by omega)) (hA _ (by omega)) (hs _ (by omega) (by omega)) (hm _ (by omega) (by omega)) h4, zMl_keep (fun i _ _ => hA i (by omega)) (hm _ (by omega) (by omega)) (hm _ (by omega) (by omega)) h5, zMw_keep (hm _ (by omega) (by omega)) (hm _ (by omega) (by omega)) h6⟩
end KEEP
/-- what is owed behind a call of the class, of the model: an answer and a state -/
def zHc (φ : Int → zMu → Prop) (μ : zMu) (s : Int × zMu) : Prop := ∀ μ', zRC s.2 μ' → zKm μ μ' → φ s.1 μ'
def zHm (φ : Int → zMu → Prop) (μ : zMu) (s : Int × zMu) : Prop := ∀ μ', zRM s.2 μ' → zKc μ μ' → φ s.1 μ'
