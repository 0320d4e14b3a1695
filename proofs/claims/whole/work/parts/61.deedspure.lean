/-! DEEDS: programs on paper -/
/-- where a run of letters ends -/
def zwe (ch : Nat → Int) : Nat → Nat → Nat
  | 0, p => p
  | f + 1, p => if 97 ≤ ch p ∧ ch p ≤ 122 then zwe ch f (p + 1) else p
/-- a word stands there -/
def zmtc (ch : Nat → Int) (p e k : Nat) : Prop := e = p + zTl.getD k 0 ∧ ∀ t, t < zTl.getD k 0 → ch (p + t) = zTc k t
noncomputable def zcf (ch : Nat → Int) (p e : Nat) : Nat → Nat → Option Nat
  | 0, _ => none
  | f + 1, k => if zdec (zmtc ch p e k) = true then some k else zcf ch p e f (k + 1)
def zna (k : Nat) : Nat := (zasks.getD k 0).toNat
def zsg (ch : Nat → Int) (p : Nat) : Option Int × Nat :=
  if ch p = 32 then
    (if ch (p + 1) = 45 then (if 48 ≤ ch (p + 2) ∧ ch (p + 2) ≤ 57 then (some (-(znu ch 3 0 (p + 2)).1), (znu ch 3 0 (p + 2)).2) else (none, p + 2))
     else (if 48 ≤ ch (p + 1) ∧ ch (p + 1) ≤ 57 then (some (znu ch 3 0 (p + 1)).1, (znu ch 3 0 (p + 1)).2) else (none, p + 1)))
  else (none, p)
def zag (ch : Nat → Int) : Nat → Nat → List Int → Option (List Int) × Nat
  | 0, p, l => (some l, p)
  | n + 1, p, l => match zsg ch p with
    | (none, q) => (none, q)
    | (some v, q) => zag ch n q (l ++ [v])
noncomputable def zcd (ch : Nat → Int) (p : Nat) : Option (Nat × List Int) × Nat := match zcf ch p (zwe ch 101 p) 9 0 with
  | none => (none, p)
  | some k => match zag ch (zna k) (zwe ch 101 p) [] with
    | (none, q) => (none, q)
    | (some l, q) => (some (k, l), q)
noncomputable def zpg (ch : Nat → Int) : Nat → Nat → List (Nat × List Int) → Bool × Nat × List (Nat × List Int)
  | 0, p, acc => (true, p, acc)
  | f + 1, p, acc => match zcd ch p with
    | (none, q) => (false, q, acc)
    | (some c, q) => if ch q = 59 then zpg ch f (q + 1) (acc ++ [c]) else (true, q, acc ++ [c])
noncomputable def zpm (A : zMu) : Bool × Nat × List (Nat × List Int) := zpg (zch A) 101 0 []
noncomputable def st_do (A : zMu) (c : Nat × List Int) : Int × zMu := match c.1 with
  | 0 => st_prime A (c.2.getD 0 0)
  | 1 => st_j A (c.2.getD 0 0) (c.2.getD 1 0)
  | 2 => st_sum A (c.2.getD 0 0) (c.2.getD 1 0) (c.2.getD 2 0)
  | 3 => st_times A (c.2.getD 0 0) (c.2.getD 1 0) (c.2.getD 2 0)
  | 4 => st_stretch A (c.2.getD 0 0) (c.2.getD 1 0) (c.2.getD 2 0)
  | 5 => st_over A (c.2.getD 0 0) (c.2.getD 1 0)
  | 6 => st_power A (c.2.getD 0 0) (c.2.getD 1 0) (c.2.getD 2 0)
  | 7 => st_find A (c.2.getD 0 0) (c.2.getD 1 0) (c.2.getD 2 0) (c.2.getD 3 0)
  | _ => st_keep A (c.2.getD 0 0)
noncomputable def zrn : List (Nat × List Int) → Int → zMu → Int × zMu
  | [], n, A => (n, A)
  | c :: cs, n, A => zrn cs (n + if 0 ≤ (st_do A c).1 then 1 else 0) (st_do A c).2
noncomputable def st_deeds (A : zMu) : Int × zMu := if (zpm A).1 = true ∧ ((zpm A).2.1 : Int) = A 40 0 then zrn (zpm A).2.2 0 (zt0 A) else (-100 - ((zpm A).2.1 : Int), zt0 A)
theorem zwe_le {A : zMu} : ∀ (f p : Nat), (p : Int) ≤ A 40 0 → p ≤ zwe (zch A) f p ∧ (zwe (zch A) f p : Int) ≤ A 40 0
  | 0, p, h => ⟨Nat.le_refl _, h⟩
  | f + 1, p, h => by
    rw [zwe]
    split
    · rename_i hc
      have hl := zch_lt (A := A) (p := p) (by omega)
      have := zwe_le (A := A) f (p + 1) (by omega)
      omega
    · exact ⟨Nat.le_refl _, h⟩
theorem zcf_some {ch : Nat → Int} {p e k : Nat} : ∀ f k0, zcf ch p e f k0 = some k → k0 ≤ k ∧ k < k0 + f ∧ zmtc ch p e k
  | 0, _, h => absurd h (by simp [zcf])
  | f + 1, k0, h => by
    rw [zcf] at h
    by_cases c : zdec (zmtc ch p e k0) = true
    · rw [if_pos c] at h
      have e2 := Option.some.inj h
      subst e2
      exact ⟨Nat.le_refl _, by omega, zdec_iff.1 c⟩
    · rw [if_neg c] at h
      have := zcf_some f (k0 + 1) h
      exact ⟨by omega, by omega, this.2.2⟩
theorem zTl_pos : ∀ k, k < 9 → 1 ≤ zTl.getD k 0 := by decide +kernel
theorem zna_bd : ∀ k, k < 9 → zna k ≤ 4 ∧ zasks.getD k 0 = (zna k : Int) := by decide +kernel
def zOkl (l : List Int) : Prop := ∀ x, x ∈ l → -999 ≤ x ∧ x ≤ 999
theorem zsg_ok {ch : Nat → Int} {p q : Nat} {v : Int} (h : zsg ch p = (some v, q)) : -999 ≤ v ∧ v ≤ 999 ∧ p ≤ q := by
  have h1 := znu_3 (ch := ch) (p := p + 2)
  have h2 := znu_3 (ch := ch) (p := p + 1)
  unfold zsg at h
  split at h
  · split at h
    · split at h
      · have := Prod.mk.inj h
        have e := Option.some.inj this.1
        omega
      · exact absurd (Prod.mk.inj h).1 (by simp)
    · split at h
      · have := Prod.mk.inj h
        have e := Option.some.inj this.1
        omega
      · exact absurd (Prod.mk.inj h).1 (by simp)
  · exact absurd (Prod.mk.inj h).1 (by simp)
theorem zag_ok {ch : Nat → Int} {q : Nat} {r : List Int} : ∀ n p l, zOkl l → zag ch n p l = (some r, q) → zOkl r ∧ r.length = l.length + n ∧ p ≤ q
  | 0, p, l, hl, h => by
    rw [zag] at h
    have := Prod.mk.inj h
    have e := Option.some.inj this.1
    subst e
    exact ⟨hl, rfl, by omega⟩
  | n + 1, p, l, hl, h => by
    rw [zag] at h
    cases hs : zsg ch p with
    | mk o q2 =>
      rw [hs] at h
      cases o with
      | none => exact absurd (Prod.mk.inj h).1 (by simp)
      | some v =>
        dsimp only at h
        have h1 := zsg_ok hs
        have := zag_ok n q2 (l ++ [v]) (fun x hx => by
          rcases List.mem_append.1 hx with z | z
          · exact hl x z
          · rw [List.mem_singleton.1 z]; omega) h
        rw [List.length_append] at this
        refine ⟨this.1, ?_, by omega⟩
        have h3 := this.2.1
        simp at h3
        omega
theorem zcd_ok {A : zMu} {p q k : Nat} {l : List Int} (hp : (p : Int) ≤ A 40 0) (h : zcd (zch A) p = (some (k, l), q)) : k < 9 ∧ zOkl l ∧ l.length = zna k ∧ p + 1 ≤ q := by
  unfold zcd at h
  have hwe := zwe_le (A := A) 101 p hp
  cases hk : zcf (zch A) p (zwe (zch A) 101 p) 9 0 with
  | none =>
    rw [hk] at h
    exact absurd (Prod.mk.inj h).1 (by simp)
  | some k2 =>
    rw [hk] at h
    dsimp only at h
    have h1 := zcf_some 9 0 hk
    cases ha : zag (zch A) (zna k2) (zwe (zch A) 101 p) [] with
    | mk o q2 =>
      rw [ha] at h
      cases o with
      | none => exact absurd (Prod.mk.inj h).1 (by simp)
      | some l2 =>
        dsimp only at h
        have h2 := zag_ok _ _ _ (fun x hx => absurd hx (List.not_mem_nil)) ha
        have h3 := Prod.mk.inj h
        have h4 := Prod.mk.inj (Option.some.inj h3.1)
        have hpos := zTl_pos k2 (by omega)
        have hm := h1.2.2.1
        rw [← h4.1, ← h4.2, ← h3.2]
        refine ⟨by omega, h2.1, by rw [h2.2.1]; simp, by omega⟩
/-- commands that can be carried out -/
def zOkc (acc : List (Nat × List Int)) : Prop := ∀ c, c ∈ acc → c.1 < 9 ∧ zOkl c.2 ∧ c.2.length = zna c.1
theorem zOkc_app {acc : List (Nat × List Int)} {k : Nat} {l : List Int} (h : zOkc acc) (h1 : k < 9) (h2 : zOkl l) (h3 : l.length = zna k) : zOkc (acc ++ [(k, l)]) := fun c hc => by
  rcases List.mem_append.1 hc with z | z
  · exact h c z
  · rw [List.mem_singleton.1 z]; exact ⟨h1, h2, h3⟩
theorem zOkl_get {l : List Int} (h : zOkl l) (i : Nat) : zR (l.getD i 0) := by
  by_cases q : i < l.length
  · have := h _ (zmem_getD.2 ⟨i, q, rfl⟩)
    omega
  · rw [List.getD_eq_getElem?_getD, List.getElem?_eq_none (by omega)]
    show -2147483648 ≤ (0 : Int) ∧ (0 : Int) ≤ 2147483647
    omega
theorem wf_do {A : zMu} (hw : zWF A) (c : Nat × List Int) : zWF (st_do A c).2 := by
  unfold st_do
  split
  · exact wf_prime hw _
  · exact wf_j hw _ _
  · exact wf_sum hw _ _ _
  · exact wf_times hw _ _ _
  · exact wf_stretch hw _ _ _
  · exact wf_over hw _ _
  · exact wf_power hw _ _ _
  · exact wf_find hw _ _ _ _
  · exact wf_keep hw _
theorem wf_rn : ∀ (cs : List (Nat × List Int)) (n : Int) (A : zMu), zWF A → zWF (zrn cs n A).2
  | [], _, _, h => h
  | c :: cs, n, A, h => wf_rn cs _ _ (wf_do h c)
theorem wf_deeds {A : zMu} (hw : zWF A) : zWF (st_deeds A).2 := by
  unfold st_deeds
  split
  · exact wf_rn _ _ _ (wf_t0 hw)
  · exact wf_t0 hw
