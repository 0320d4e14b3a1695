/-! THE COMMON STATE A (rows: 0 the modulus; 1 starts; 2 lengths; 3 the degree; 4 the equation, x^i y^k at 9 i + k; 5 kept moduli, 0 missing; 6 kept degrees; 10 + s a series; 20 + q a kept polynomial; the same rows + 100 are the image; 40 the tape's length, 41 the tape, 42 the paper's length, 43 the paper, 44 the lists' lengths, 45 + l a list, 60 whether there is an image), what holds of it always, and how class and model hold it -/
/-- contents that can be -/
def zWFc (A : zMu) (o : Nat) : Prop :=
  zP (A o 0) ∧
  (∀ (s : Nat), s < 6 → (-99 ≤ A (o + 1) s ∧ A (o + 1) s ≤ 99) ∧ (0 ≤ A (o + 2) s ∧ A (o + 2) s ≤ 80) ∧ zmodp (A o 0) (A (o + 2) s).toNat (A (o + 10 + s))) ∧
  (0 ≤ A (o + 3) 0 ∧ A (o + 3) 0 ≤ 8) ∧ (A (o + 3) 0 ≠ 0 → zmodp (A o 0) 81 (A (o + 4)) ∧ ∀ (i k : Nat), i < 9 → k < 9 → (A (o + 3) 0 < i ∨ A (o + 3) 0 < k) → A (o + 4) (9 * i + k) = 0) ∧
  (∀ (q : Nat), q < 8 → A (o + 5) q = 0 ∨ (zP (A (o + 5) q) ∧ (1 ≤ A (o + 6) q ∧ A (o + 6) q ≤ 8) ∧ zmodp (A (o + 5) q) 81 (A (o + 20 + q)) ∧ ∀ (i k : Nat), i < 9 → k < 9 → (A (o + 6) q < i ∨ A (o + 6) q < k) → A (o + 20 + q) (9 * i + k) = 0)) ∧
  (∀ (q r : Nat), q < 8 → r < 8 → A (o + 5) q ≠ 0 → A (o + 5) q = A (o + 5) r → q = r)
def zWF (A : zMu) : Prop :=
  zWFc A 0 ∧ (A 60 0 = 0 ∨ (A 60 0 = 1 ∧ zWFc A 100)) ∧ ((0 ≤ A 40 0 ∧ A 40 0 ≤ 100) ∧ ∀ (k : Nat), (k : Int) < A 40 0 → 1 ≤ A 41 k ∧ A 41 k ≤ 127) ∧
  ((0 ≤ A 42 0 ∧ A 42 0 ≤ 648) ∧ ∀ (k : Nat), (k : Int) < A 42 0 → zR (A 43 k)) ∧ (∀ (l : Nat), l < 4 → (-1 ≤ A 44 l ∧ A 44 l ≤ 80) ∧ ∀ (k : Nat), k < 80 → zR (A (45 + l) k))
/-- how the class holds contents: the object Contents at the cell b -/
def zCs (A : zMu) (o : Nat) (μ : zMu) (b s : Nat) : Prop := μ (b + 6 + 2 * s) 1 = A (o + 1) s ∧ μ (b + 6 + 2 * s) 2 = A (o + 2) s ∧ ∀ (k : Nat), (k : Int) < A (o + 2) s → μ (b + 7 + 2 * s) k = A (o + 10 + s) k
def zCe (A : zMu) (o : Nat) (μ : zMu) (b : Nat) : Prop := μ (b + 2) 1 = A (o + 3) 0 ∧ (A (o + 3) 0 ≠ 0 → ∀ (t : Nat), t < 81 → μ (b + 3) t = A (o + 4) t)
def zCk (A : zMu) (o : Nat) (μ : zMu) (b q : Nat) : Prop := (A (o + 5) q = 0 ∧ μ (b + 18 + 2 * q) 1 = 0) ∨ (A (o + 5) q ≠ 0 ∧ μ (b + 18 + 2 * q) 1 = A (o + 6) q ∧ μ (b + 5) q = A (o + 5) q ∧ ∀ (t : Nat), t < 81 → μ (b + 19 + 2 * q) t = A (o + 20 + q) t)
def zCc (A : zMu) (o : Nat) (μ : zMu) (b : Nat) : Prop := μ b 0 = A o 0 ∧ (∀ (s : Nat), s < 6 → zCs A o μ b s) ∧ zCe A o μ b ∧ ∀ (q : Nat), q < 8 → zCk A o μ b q
/-- a polynomial of degree top at w, by its highest coefficients first: the first m steps -/
def zhr (p w : Int) (L : Nat → Int) (top : Nat) : Nat → Int
  | 0 => 0
  | m + 1 => (zhr p w L top m * w + L (top - m)) % p
def zval (p w : Int) (L : Nat → Int) (top : Nat) : Int := zhr p w L top (top + 1)
/-- the coefficients that y has when v is put in for x -/
def zln (p : Int) (d : Nat) (e : Nat → Int) (v : Int) (k : Nat) : Int := zval p v (fun i => e (9 * i + k)) d
/-- the greatest place of n with a number that isn't 0; -1: none -/
def ztp (L : Nat → Int) : Nat → Int
  | 0 => -1
  | n + 1 => if L n = 0 then ztp L n else (n : Int)
/-- divided by y - w -/
def zdl (p w : Int) (L : Nat → Int) (top : Nat) (k : Nat) : Int := if k < top then zhr p w L top (top - k) else 0
/-- the neighbours from w on, as often as they are -/
def zNb (p : Int) : Nat → Nat → (Nat → Int) → Int → List Int
  | 0, _, _, _ => []
  | f + 1, top, L, w => if top = 0 ∨ p ≤ w then [] else if zval p w L top = 0 then w :: zNb p f (top - 1) (zdl p w L top) w else zNb p f top L (w + 1)
/-- all neighbours of v; none: it is degenerate -/
def znbs (p : Int) (d : Nat) (e : Nat → Int) (v : Int) : Option (List Int) := if ztp (zln p d e v) (d + 1) < 0 then none else some (zNb p 210 (ztp (zln p d e v) (d + 1)).toNat (zln p d e v) 0)
/-- what the class's graph knows of a value -/
def zCg (A μ : zMu) (v : Nat) : Prop := μ 183 v = -2 ∨ (A 3 0 ≠ 0 ∧ match znbs (A 0 0) (A 3 0).toNat (A 4) (v : Int) with
  | none => μ 183 v = -1
  | some l => μ 183 v = (l.length : Int) ∧ ∀ (k : Nat), k < l.length → μ 184 (8 * v + k) = l.getD k 0)
/-- the class holds A -/
def zRC (A μ : zMu) : Prop :=
  zCc A 0 μ 1 ∧ μ 0 2 = A 60 0 ∧ (A 60 0 = 1 → zCc A 100 μ 35) ∧ (∀ (v : Nat), v < 199 → zCg A μ v) ∧
  (μ 188 1 = A 40 0 ∧ ∀ (k : Nat), (k : Int) < A 40 0 → μ 189 k = A 41 k) ∧ (μ 193 2 = A 42 0 ∧ ∀ (k : Nat), (k : Int) < A 42 0 → μ 196 k = A 43 k) ∧
  (∀ (l : Nat), l < 4 → μ 202 l = A 44 l ∧ ∀ (k : Nat), k < 80 → μ (198 + l) k = A (45 + l) k)
/-- the model holds contents: modulus, starts, lengths, rows, degree, equation, kept -/
def zMc (A : zMu) (o : Nat) (p d : Int) (ss ls rs es ks : Nat → Int) : Prop :=
  p = A o 0 ∧ (∀ (s : Nat), s < 6 → ss s = A (o + 1) s ∧ ls s = A (o + 2) s ∧ ∀ (k : Nat), (k : Int) < A (o + 2) s → rs (80 * s + k) = A (o + 10 + s) k) ∧
  d = A (o + 3) 0 ∧ (A (o + 3) 0 ≠ 0 → ∀ (i k : Nat), (i : Int) ≤ A (o + 3) 0 → (k : Int) ≤ A (o + 3) 0 → es (((A (o + 3) 0).toNat + 1) * i + k) = A (o + 4) (9 * i + k)) ∧
  (∀ (q : Nat), q < 8 → ks (83 * q) = A (o + 5) q ∧ (A (o + 5) q ≠ 0 → ks (83 * q + 1) = A (o + 6) q ∧ ∀ (i k : Nat), (i : Int) ≤ A (o + 6) q → (k : Int) ≤ A (o + 6) q → ks (83 * q + 2 + (((A (o + 6) q).toNat + 1) * i + k)) = A (o + 20 + q) (9 * i + k)))
def zwords : List Int := [112, 114, 105, 109, 101, 32, 106, 32, 115, 117, 109, 32, 116, 105, 109, 101, 115, 32, 115, 116, 114, 101, 116, 99, 104, 32, 111, 118, 101, 114, 32, 112, 111, 119, 101, 114, 32, 102, 105, 110, 100, 32, 107, 101, 101, 112, 32]
def zasks : List Int := [1, 2, 3, 3, 3, 2, 3, 4, 1]
/-- the model holds A -/
def zRM (A μ : zMu) : Prop :=
  zMc A 0 (μ 203 0) (μ 203 4) (μ 204) (μ 205) (μ 206) (μ 207) (μ 208) ∧ μ 203 42 = A 60 0 ∧ (A 60 0 = 1 → zMc A 100 (μ 203 43) (μ 203 44) (μ 231) (μ 232) (μ 233) (μ 234) (μ 235)) ∧
  (μ 203 31 = A 40 0 ∧ ∀ (k : Nat), (k : Int) < A 40 0 → μ 223 k = A 41 k) ∧ (μ 203 39 = A 42 0 ∧ ∀ (k : Nat), (k : Int) < A 42 0 → μ 228 k = A 43 k) ∧
  (∀ (l : Nat), l < 4 → μ 229 l = A 44 l ∧ ∀ (k : Nat), k < 80 → μ 230 (80 * l + k) = A (45 + l) k) ∧
  (∀ (k : Nat), k < 47 → μ 224 k = zwords.getD k 0) ∧ (∀ (k : Nat), k < 9 → μ 225 k = zasks.getD k 0)
/-- what a class's method leaves of the model, a model's of the class -/
def zKm (μ μ' : zMu) : Prop := ∀ (i : Nat), 203 ≤ i → μ' i = μ i
def zKc (μ μ' : zMu) : Prop := ∀ (i : Nat), i < 203 → μ' i = μ i
theorem zRC_keep {A μ μ' : zMu} (h : zRC A μ) (hk : zKc μ μ') : zRC A μ' := by
  have e : ∀ (i : Nat), i < 203 → μ' i = μ i := hk
  obtain ⟨h1, h2, h3, h4, h5, h6, h7⟩ := h
  have hc : ∀ o b, b ≤ 35 → zCc A o μ b → zCc A o μ' b := fun o b hb ⟨q1, q2, q3, q4⟩ => by
    refine ⟨by rw [e b (by omega)]; exact q1, fun s hs => ?_, ?_, fun q hq => ?_⟩
    · have := q2 s hs
      unfold zCs at this ⊢
      rw [e _ (by omega), e _ (by omega)]; exact this
    · unfold zCe at q3 ⊢
      rw [e _ (by omega), e _ (by omega)]; exact q3
    · have := q4 q hq
      unfold zCk at this ⊢
      rw [e _ (by omega), e _ (by omega), e _ (by omega)]; exact this
  refine ⟨hc 0 1 (by omega) h1, by rw [e 0 (by omega)]; exact h2, fun q => hc 100 35 (by omega) (h3 q), fun v hv => ?_, by rw [e 188 (by omega), e 189 (by omega)]; exact h5, by rw [e 193 (by omega), e 196 (by omega)]; exact h6, fun l hl => by rw [e 202 (by omega), e (198 + l) (by omega)]; exact h7 l hl⟩
  have := h4 v hv
  unfold zCg at this ⊢
  rw [e 183 (by omega), e 184 (by omega)]; exact this
theorem zRM_keep {A μ μ' : zMu} (h : zRM A μ) (hk : zKm μ μ') : zRM A μ' := by
  unfold zRM at h ⊢
  rw [hk 203 (by omega), hk 204 (by omega), hk 205 (by omega), hk 206 (by omega), hk 207 (by omega), hk 208 (by omega), hk 231 (by omega), hk 232 (by omega), hk 233 (by omega), hk 234 (by omega), hk 235 (by omega), hk 223 (by omega), hk 228 (by omega), hk 229 (by omega), hk 230 (by omega), hk 224 (by omega), hk 225 (by omega)]
  exact h
