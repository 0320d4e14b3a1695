/-! DEEDS: the class parses -/
section DDC
variable {g : zG} {μ ν A : zMu} {φ : Int → zMu → Prop}
theorem zTpe_ch {p q : Nat} (h : zTpe A μ ν p) (hq : (q : Int) < A 40 0) : ν 189 q = zch A q := by
  unfold zch
  rw [if_pos hq, h.1 189 (by omega)]
  exact h.2.2.2.1 q hq
theorem ok_X8_wordEnd {p : Nat} (hw : zWF A) (hT : zTpe A μ ν p) (h : φ ((zwe (zch A) 101 p : Nat) : Int) ν) : zOi g zm_X8_wordEnd [.ref 188] ν φ := by
  have hL := zWF_tp hw
  have e1 := hT.2.1
  have loop : ∀ f q : Nat, 101 ≤ q + f → (q : Int) ≤ A 40 0 → zwe (zch A) f q = zwe (zch A) 101 p → at_X8_wordEnd_5 g φ (q : Int) ν := by
    intro f
    induction f with
    | zero => intro q hq hl; omega
    | succ f ih =>
      intro q hq hl e
      have hb := zch_bd hw q
      rw [zwe] at e
      have fin : ¬ (97 ≤ zch A q ∧ zch A q ≤ 122) → φ (q : Int) ν := fun c => by
        rw [if_neg c] at e
        rw [e]; exact h
      refine sg_X8_wordEnd_5 ⟨by omega, by omega, fun z => fin (fun c => ?_), fun z => ⟨by omega, ?_⟩⟩
      · have := zch_lt (A := A) (p := q) (by omega)
        omega
      · rw [Int.toNat_natCast, zTpe_ch hT (by omega)]
        refine ⟨by omega, fun c => fin (by omega), fun c => ⟨fun c2 => fin (by omega), fun c2 => ?_⟩⟩
        rw [if_pos ⟨c, c2⟩] at e
        have := ih (q + 1) (by omega) (by omega) e
        rw [Int.natCast_add] at this
        exact this
  refine sg_X8_wordEnd ?_
  rw [hT.2.2.1]
  exact loop 101 p (by omega) hT.2.2.2.2 rfl
theorem zTl_bd : ∀ k, k < 9 → zTl.getD k 0 ≤ 7 ∧ ∀ t, t < zTl.getD k 0 → 97 ≤ zTc k t ∧ zTc k t ≤ 122 := by decide +kernel
theorem ok_X8_hasWord {p e k : Nat} (hw : zWF A) (hk : k < 9) (hT : zTpe A μ ν p) (he : p ≤ e ∧ (e : Int) ≤ A 40 0) (k1 : zmtc (zch A) p e k → φ 1 ν) (k0 : ¬ zmtc (zch A) p e k → φ 0 ν) : zOi g zm_X8_hasWord [.ref 188, .ref (90001 + k), .int (zJ (e : Int))] ν φ := by
  have hL := zWF_tp hw
  have e2 := hT.2.2.1
  obtain ⟨l1, l2⟩ := zTl_bd k hk
  refine sg_X8_hasWord ⟨⟨k, hk, rfl⟩, sg_J0_length hk ⟨by omega, by omega, fun z => ?_, fun z => k0 (fun m => z (by have := m.1; omega))⟩⟩
  have loop : ∀ f t : Nat, t + f = zTl.getD k 0 → (∀ s, s < t → zch A (p + s) = zTc k s) → at_X8_hasWord_17 g φ (90001 + k) (t : Int) ν := by
    intro f
    induction f with
    | zero =>
      intro t ht hm
      exact sg_X8_hasWord_17 ⟨⟨k, hk, rfl⟩, sg_J0_length hk ⟨by omega, by omega, fun _ => k1 ⟨by omega, fun s hs => hm s (by omega)⟩, fun hc => absurd hc (by omega)⟩⟩
    | succ f ih =>
      intro t ht hm
      refine sg_X8_hasWord_17 ⟨⟨k, hk, rfl⟩, sg_J0_length hk ⟨by omega, by omega, fun hc => absurd hc (by omega), fun _ => ⟨by omega, ⟨k, hk, rfl⟩, sg_J0_charAt hk (by omega) (by omega) ?_⟩⟩⟩
      have hb := l2 t (by omega)
      have hcb := zch_bd hw (p + t)
      rw [e2, show Int.toNat ((p : Int) + (t : Int)) = p + t by omega, Int.toNat_natCast, zTpe_ch hT (by omega)]
      refine ⟨by omega, by omega, fun q => ?_, fun q => k0 (fun m => q (m.2 t (by omega)))⟩
      have := ih (t + 1) (by omega) (fun s hs => by
        by_cases es : s = t
        · rw [es]; exact q
        · exact hm s (by omega))
      rw [Int.natCast_add] at this
      exact this
  exact loop (zTl.getD k 0) 0 (by omega) (fun s hs => absurd hs (by omega))
theorem ok_X5_commandAt {p e : Nat} (hw : zWF A) (hT : zTpe A μ ν p) (he : p ≤ e ∧ (e : Int) ≤ A 40 0) (k1 : ∀ k, zcf (zch A) p e 9 0 = some k → φ (k : Int) ν) (k0 : zcf (zch A) p e 9 0 = none → φ (-1) ν) : zOi g zm_X5_commandAt [.ref 188, .int (zJ (e : Int))] ν φ := by
  have loop : ∀ f k : Nat, k + f = 9 → zcf (zch A) p e f k = zcf (zch A) p e 9 0 → at_X5_commandAt_2 g φ (e : Int) (k : Int) ν := by
    intro f
    induction f with
    | zero =>
      intro k hk ec
      rw [zcf] at ec
      exact sg_X5_commandAt_2 ⟨by omega, fun _ => k0 ec.symm, fun hc => absurd hc (by omega)⟩
    | succ f ih =>
      intro k hk ec
      rw [zcf] at ec
      have go : zOi g zm_X8_hasWord [.ref 188, .ref (90001 + k), .int (zJ (e : Int))] ν (fun x5 μ4 => (zR x5) ∧ ((x5 = 0 → at_X5_commandAt_2 g φ (e : Int) ((k : Int) + 1) μ4) ∧ (¬ x5 = 0 → φ (k : Int) μ4))) := by
        refine ok_X8_hasWord hw (by omega) hT he (fun m => ⟨by omega, fun hc => absurd hc (by omega), fun _ => ?_⟩) (fun m => ⟨by omega, fun _ => ?_, fun hc => absurd rfl hc⟩)
        · rw [if_pos (zdec_iff.2 m)] at ec
          exact k1 k ec.symm
        · rw [if_neg (by rw [zdec_f m]; simp)] at ec
          have := ih (k + 1) (by omega) ec
          rw [Int.natCast_add] at this
          exact this
      refine sg_X5_commandAt_2 ⟨by omega, fun hc => absurd hc (by omega), fun _ => sg_X5_wordOf ⟨by omega, fun q => ?_, fun q => ?_, fun q => ?_, fun q => ?_, fun q => ?_, fun q => ?_, fun q => ?_, fun q => ?_, fun q => ?_⟩⟩
      · have ek : k = 8 := by omega
        subst ek; exact go
      · have ek : k = 0 := by omega
        subst ek; exact go
      · have ek : k = 1 := by omega
        subst ek; exact go
      · have ek : k = 2 := by omega
        subst ek; exact go
      · have ek : k = 3 := by omega
        subst ek; exact go
      · have ek : k = 4 := by omega
        subst ek; exact go
      · have ek : k = 5 := by omega
        subst ek; exact go
      · have ek : k = 6 := by omega
        subst ek; exact go
      · have ek : k = 7 := by omega
        subst ek; exact go
  exact sg_X5_commandAt (loop 9 0 rfl rfl)
/-- a signed number behind a space -/
theorem ok_X8_signed {p : Nat} {ψ : Int → zMu → Prop} (hw : zWF A) (hT : zTpe A μ ν p) (hs : zch A p = 32) (k1 : ∀ v q, zsg (zch A) p = (some v, q) → ∀ ν', zTpe A μ ν' q → ν' 188 3 = v → ψ 1 ν') (k0 : ∀ q, zsg (zch A) p = (none, q) → ∀ ν', zTpe A μ ν' q → ψ 0 ν') : ∀ ν1, zTpe A μ ν1 (p + 1) → zOi g zm_X8_acceptSignedNumber [.ref 188] ν1 ψ := fun ν1 T1 => by
  refine sg_X8_acceptSignedNumber (ok_X8_accept hw (by omega) T1 (fun hm ν2 T2 s2 => ?_) (fun hm => ?_))
  · refine ok_X8_acceptNumber hw T2 (fun hd ν3 T3 n3 => ⟨by omega, fun hc => absurd hc (by omega), fun _ => ⟨Or.inr rfl, ?_⟩⟩) (fun hd ν3 T3 => ⟨by omega, fun hc => absurd hc (by omega), fun _ => ⟨Or.inl rfl, ?_⟩⟩)
    · rw [n3]
      refine k1 _ _ (by unfold zsg; rw [if_pos hs, if_pos hm, if_pos hd]) _ (zTpe_to T3 (fun i hi => zup_nc hi) (zup_ne (Or.inr (by omega))) ((zup_ne (Or.inr (by omega))).trans T3.2.2.1) T3.2.2.2.2) zup_eq
    · exact k0 _ (by unfold zsg; rw [if_pos hs, if_pos hm, if_neg hd]) _ (zTpe_to T3 (fun i hi => zup_nc hi) (zup_ne (Or.inr (by omega))) ((zup_ne (Or.inr (by omega))).trans T3.2.2.1) T3.2.2.2.2)
  · refine ok_X8_acceptNumber hw T1 (fun hd ν3 T3 n3 => ⟨by omega, fun _ => ⟨Or.inr rfl, ?_⟩, fun hc => absurd rfl hc⟩) (fun hd ν3 T3 => ⟨by omega, fun _ => ⟨Or.inl rfl, ?_⟩, fun hc => absurd rfl hc⟩)
    · exact k1 _ _ (by unfold zsg; rw [if_pos hs, if_neg hm, if_pos hd]) _ T3 n3
    · exact k0 _ (by unfold zsg; rw [if_pos hs, if_neg hm, if_neg hd]) _ T3
/-- the commands that a state holds -/
def zCm (ν : zMu) (acc : List (Nat × List Int)) : Prop := ν 190 2 = (acc.length : Int) ∧ ∀ c, c < acc.length → ν 191 c = (((acc.getD c (0, [])).1 : Nat) : Int) ∧ ∀ i, i < (acc.getD c (0, [])).2.length → ν 192 (4 * c + i) = (acc.getD c (0, [])).2.getD i 0
/-- only commands and their numbers changed -/
def zCf (μ β : zMu) : Prop := ∀ (i : Nat), i ≠ 188 → ¬ (190 ≤ i ∧ i ≤ 192) → β i = μ i
theorem zgetD_app1 {α : Type} {l : List α} {x d : α} {i : Nat} (h : i < l.length) : (l ++ [x]).getD i d = l.getD i d := by
  rw [List.getD_eq_getElem?_getD, List.getD_eq_getElem?_getD, List.getElem?_append_left h]
theorem zgetD_app2 {α : Type} {l : List α} {x d : α} : (l ++ [x]).getD l.length d = x := by
  rw [List.getD_eq_getElem?_getD, List.getElem?_append_right (Nat.le_refl _), Nat.sub_self]; rfl
theorem ok_X5_parseCommand {p : Nat} {acc : List (Nat × List Int)} (hw : zWF A) (hT : zTpe A μ ν p) (hC : zCm μ acc) (hl : acc.length < 100) (ha : zOkc acc)
    (k1 : ∀ k l q, zcd (zch A) p = (some (k, l), q) → ∀ β ν', zTpe A β ν' q → zCf μ β → zCm (zup β 190 2 ((acc.length : Int) + 1)) (acc ++ [(k, l)]) → β 190 2 = (acc.length : Int) → φ 1 ν')
    (k0 : ∀ q, zcd (zch A) p = (none, q) → ∀ β ν', zTpe A β ν' q → zCf μ β → φ 0 ν') : zOi g zm_X5_parseCommand [.ref 190, .ref 188] ν φ := by
  have hwe := zwe_le (A := A) 101 p hT.2.2.2.2
  have hL := zWF_tp hw
  refine sg_X5_parseCommand (ok_X8_wordEnd hw hT (ok_X5_commandAt hw hT hwe (fun k hk => ⟨by have := zcf_some 9 0 hk; omega, fun _ => ?_, fun hc => absurd hc (by omega)⟩) (fun hk => ⟨by omega, fun hc => absurd hc (by omega), fun _ => k0 p (by unfold zcd; rw [hk]) μ ν hT (fun _ _ _ => rfl)⟩)))
  have hk9 := zcf_some 9 0 hk
  obtain ⟨na1, na2⟩ := zna_bd k (by omega)
  have e190 : zup ν 188 2 ((zwe (zch A) 101 p : Nat) : Int) 190 2 = (acc.length : Int) := by rw [zup_ne (Or.inl (by omega)), hT.1 190 (by omega)]; exact hC.1
  rw [e190, Int.toNat_natCast]
  refine ⟨by omega, ?_⟩
  generalize he : zwe (zch A) 101 p = e at hk hwe e190 ⊢
  -- the numbers
  have loop : ∀ f n : Nat, n + f = zna k → ∀ (q : Nat) (l : List Int) (β ω : zMu), zTpe A β ω q → zCf μ β → β 190 2 = (acc.length : Int) → (∀ c, c ≠ acc.length → β 191 c = μ 191 c) → β 191 acc.length = (k : Int) → (∀ j, ¬ (4 * acc.length ≤ j ∧ j < 4 * acc.length + 4) → β 192 j = μ 192 j) → l.length = n → (∀ i, i < n → β 192 (4 * acc.length + i) = l.getD i 0) → zag (zch A) f q l = zag (zch A) (zna k) e [] → at_X5_parseCommand_41 g φ (zna k : Int) (n : Int) ω := by
    intro f
    induction f with
    | zero =>
      intro n hn q l β ω T cf b1 b2 b3 b4 b5 b6 ez
      rw [zag] at ez
      have ezc : zcd (zch A) p = (some (k, l), q) := by
        unfold zcd
        rw [he, hk]
        dsimp only
        rw [← ez]
      refine sg_X5_parseCommand_41 ⟨by omega, by omega, fun _ => k1 k l q ezc β ω T cf ⟨by rw [zup_eq, List.length_append]; rfl, fun c hc => ?_⟩ b1, fun hc => absurd hc (by omega)⟩
      rw [List.length_append] at hc
      have hc : c < acc.length + 1 := hc
      rw [zup_ne (Or.inl (by omega)), zup_nc (a := 192) (by omega)]
      by_cases ec : c = acc.length
      · subst ec
        rw [zgetD_app2]
        refine ⟨b3, fun i hi => ?_⟩
        have hi : i < l.length := hi
        exact b6 i (by omega)
      · rw [zgetD_app1 (by omega), b2 c ec]
        have h2 := hC.2 c (by omega)
        refine ⟨h2.1, fun i hi => ?_⟩
        have hlen : (acc.getD c (0, [])).2.length ≤ 4 := by
          have hm : acc.getD c (0, []) ∈ acc := by
            rw [List.getD_eq_getElem?_getD, List.getElem?_eq_getElem (by omega)]
            exact List.getElem_mem _
          have h3 := ha _ hm
          have := (zna_bd _ h3.1).1
          omega
        rw [b4 _ (by omega)]
        exact h2.2 i hi
    | succ f ih =>
      intro n hn q l β ω T cf b1 b2 b3 b4 b5 b6 ez
      rw [zag] at ez
      refine sg_X5_parseCommand_41 ⟨by omega, by omega, fun hc => absurd hc (by omega), fun _ => ok_X8_accept hw (by omega) T (fun hs ν2 T2 s2 => ⟨by omega, fun hc => absurd hc (by omega), fun _ => ?_⟩) (fun hs => ⟨by omega, fun _ => ?_, fun hc => absurd rfl hc⟩)⟩
      · refine ok_X8_signed (ν := ω) hw T hs (fun v r ev ν3 T3 n3 => ⟨by omega, fun _ => ?_, fun hc => absurd hc (by omega)⟩) (fun r ev ν3 T3 => ⟨by omega, fun hc => absurd rfl hc, fun _ => ?_⟩) ν2 T2
        · have g1 : ν3 190 2 = (acc.length : Int) := by rw [T3.1 190 (by omega)]; exact b1
          rw [ev] at ez
          dsimp only at ez
          rw [g1, n3, show Int.toNat (4 * (acc.length : Int) + (n : Int)) = 4 * acc.length + n by omega]
          refine ⟨by omega, ?_⟩
          have := ih (n + 1) (by omega) r (l ++ [v]) (zup β 192 (4 * acc.length + n) v) (zup ν3 192 (4 * acc.length + n) v) ⟨fun i hi => zup_cong (T3.1 i hi), (zup_ne (Or.inl (by omega))).trans T3.2.1, (zup_ne (Or.inl (by omega))).trans T3.2.2.1, fun j hj => (zup_ne (Or.inl (by omega))).trans (T3.2.2.2.1 j hj), T3.2.2.2.2⟩ (fun i i1 i2 => (zup_nc (by omega)).trans (cf i i1 i2)) ((zup_ne (Or.inl (by omega))).trans b1) (fun c hc => (zup_ne (Or.inl (by omega))).trans (b2 c hc)) ((zup_ne (Or.inl (by omega))).trans b3) (fun j hj => (zup_ne (Or.inr (by omega))).trans (b4 j hj)) (by rw [List.length_append, b5]; rfl) (fun i hi => by
            by_cases ei : i = n
            · rw [ei, zup_eq, ← b5, zgetD_app2]
            · rw [zup_ne (Or.inr (by omega)), zgetD_app1 (by omega)]; exact b6 i (by omega)) ez
          rw [Int.natCast_add] at this
          exact this
        · rw [ev] at ez
          dsimp only at ez
          refine k0 r ?_ β ν3 T3 cf
          unfold zcd
          rw [he, hk]
          dsimp only
          rw [← ez]
      · have ev : zsg (zch A) q = (none, q) := by
          unfold zsg
          rw [if_neg hs]
        rw [ev] at ez
        dsimp only at ez
        refine k0 q ?_ β ω T cf
        unfold zcd
        rw [he, hk]
        dsimp only
        rw [← ez]
  have start : at_X5_parseCommand_41 g φ (zna k : Int) 0 (zup (zup ν 188 2 (e : Int)) 191 acc.length (k : Int)) := by
    refine loop (zna k) 0 (by omega) e [] (zup μ 191 acc.length (k : Int)) _ ⟨fun i hi => zup_cong ((zup_nc hi).trans (hT.1 i hi)), ?_, ?_, fun j hj => (zup_ne (Or.inl (by omega))).trans (hT.2.2.2.1 j hj), hwe.2⟩ (fun i i1 i2 => zup_nc (by omega)) ((zup_ne (Or.inl (by omega))).trans hC.1) (fun c hc => zup_ne (Or.inr hc)) zup_eq (fun j hj => zup_ne (Or.inl (by omega))) rfl (fun i hi => absurd hi (by omega)) rfl
    · rw [zup_ne (Or.inl (by omega)), zup_ne (Or.inr (by omega))]; exact hT.2.1
    · rw [zup_ne (Or.inl (by omega)), zup_eq]
  have hk8 : k < 9 := by omega
  have nums : ∀ k, k < 9 → zna k = if k = 0 ∨ k = 8 then 1 else if k = 1 ∨ k = 5 then 2 else if k = 7 then 4 else 3 := by decide +kernel
  have hnk := nums k hk8
  refine sg_X5_numbersAfter ⟨by omega, fun q => absurd q (by omega), fun q => ?_, fun q => ?_, fun q => ?_, fun q => ?_, fun q => ?_, fun q => ?_, fun q => ?_, fun q => ?_, fun q => ?_⟩
  all_goals
    rw [hnk] at start
    first
      | (have ek : k = 0 := by omega)
        subst ek; exact start
      | (have ek : k = 1 := by omega)
        subst ek; exact start
      | (have ek : k = 2 := by omega)
        subst ek; exact start
      | (have ek : k = 3 := by omega)
        subst ek; exact start
      | (have ek : k = 4 := by omega)
        subst ek; exact start
      | (have ek : k = 5 := by omega)
        subst ek; exact start
      | (have ek : k = 6 := by omega)
        subst ek; exact start
      | (have ek : k = 7 := by omega)
        subst ek; exact start
      | (have ek : k = 8 := by omega)
        subst ek; exact start
theorem ok_X5_parse (hw : zWF A) (hR : zRC A μ) (h : ∀ (x : Int) (ν β : zMu), zTpe A β ν (zpm A).2.1 → zCf μ β → ((x = 1 ∧ ((zpm A).1 = true ∧ ((zpm A).2.1 : Int) = A 40 0) ∧ zCm β (zpm A).2.2 ∧ zOkc (zpm A).2.2) ∨ (x = 0 ∧ ¬ ((zpm A).1 = true ∧ ((zpm A).2.1 : Int) = A 40 0))) → φ x ν) : zOi g zm_X5_parse [.ref 190, .ref 188] μ φ := by
  have hL := zWF_tp hw
  obtain ⟨t1, t2⟩ := hR.2.2.2.1
  have fin : ∀ (β ν : zMu) (p : Nat) (acc : List (Nat × List Int)) (φ2 : Int → zMu → Prop), zTpe A β ν p → zCf μ β → zCm β acc → zOkc acc → zpm A = (true, p, acc) → (∀ x ν, (x = 0 ∨ x = 1) → φ x ν → φ2 x ν) → zOi g zm_X8_isAtEnd [.ref 188] ν φ2 := fun β ν p acc φ2 T f c o e hφ => by
    rw [e] at h
    have a1 := T.2.1
    have a2 := T.2.2.1
    have a3 := T.2.2.2.2
    refine sg_X8_isAtEnd ⟨by omega, by omega, fun q => hφ 0 ν (Or.inl rfl) (h 0 ν β T f (Or.inr ⟨rfl, fun z => ?_⟩)), fun q => hφ 1 ν (Or.inr rfl) (h 1 ν β T f (Or.inl ⟨rfl, ⟨rfl, ?_⟩, c, o⟩))⟩
    · have := z.2
      dsimp only at this
      omega
    · dsimp only
      omega
  have loop : ∀ f : Nat, ∀ (p : Nat) (acc : List (Nat × List Int)) (β ν : zMu), acc.length + f = 101 → zTpe A β ν p → zCf μ β → zCm β acc → zOkc acc → 2 * acc.length ≤ p → zpg (zch A) f p acc = zpm A → at_X5_parse_11 g φ 1 ν := by
    intro f
    induction f with
    | zero =>
      intro p acc β ν hn T _ _ _ h2
      have := T.2.2.2.2
      omega
    | succ f ih =>
      intro p acc β ν hn T cf hC hO h2 e
      have hle := T.2.2.2.2
      have e190 : ν 190 2 = (acc.length : Int) := by rw [T.1 190 (by omega)]; exact hC.1
      rw [zpg] at e
      refine sg_X5_parse_11 ⟨by omega, fun hc => absurd hc (by omega), fun _ => ⟨by omega, fun hc => absurd hc (by omega), fun _ => ?_⟩⟩
      refine ok_X5_parseCommand hw T hC (by omega) hO (fun k l q ez β2 ν2 T2 cf2 hC2 e2 => ⟨by omega, fun _ => ?_, fun hc => absurd hc (by omega)⟩) (fun q ez β2 ν2 T2 cf2 => ⟨by omega, fun hc => absurd rfl hc, fun _ => ?_⟩)
      · have hz := zcd_ok hle ez
        have hO2 := zOkc_app hO hz.1 hz.2.1 hz.2.2.1
        have cf3 : zCf μ (zup β2 190 2 ((acc.length : Int) + 1)) := fun i i1 i2 => (zup_nc (by omega)).trans ((cf2 i i1 i2).trans (cf i i1 i2))
        rw [ez] at e
        dsimp only at e
        have n190 : ν2 190 2 = (acc.length : Int) := by rw [T2.1 190 (by omega)]; exact e2
        rw [n190]
        have T3 : zTpe A (zup β2 190 2 ((acc.length : Int) + 1)) (zup ν2 190 2 ((acc.length : Int) + 1)) q := ⟨fun i hi => zup_cong (T2.1 i hi), (zup_ne (Or.inl (by omega))).trans T2.2.1, (zup_ne (Or.inl (by omega))).trans T2.2.2.1, fun j hj => (zup_ne (Or.inl (by omega))).trans (T2.2.2.2.1 j hj), T2.2.2.2.2⟩
        refine ok_X8_accept hw (by omega) T3 (fun hx ν4 T4 s4 => ?_) (fun hx => ?_)
        · rw [if_pos hx] at e
          exact ih (q + 1) _ _ ν4 (by rw [List.length_append]; simp; omega) T4 cf3 hC2 hO2 (by rw [List.length_append]; simp; omega) e
        · rw [if_neg hx] at e
          exact sg_X5_parse_11 ⟨by omega, fun _ => fin _ _ q _ _ T3 cf3 hC2 hO2 e.symm (fun x ν hx hφ => ⟨hx, hφ⟩), fun hc => absurd rfl hc⟩
      · rw [ez] at e
        dsimp only at e
        rw [← e] at h
        exact h 0 ν2 β2 T2 (fun i i1 i2 => (cf2 i i1 i2).trans (cf i i1 i2)) (Or.inr ⟨rfl, fun z => absurd z.1 (by simp)⟩)
  refine sg_X5_parse (sg_X8_rewind ?_)
  refine loop 101 0 [] (zup (zup μ 188 2 0) 190 2 0) _ rfl ⟨fun _ _ => rfl, ?_, ?_, fun k hk => ?_, by omega⟩ (fun i i1 i2 => (zup_nc (by omega)).trans (zup_nc i1)) ⟨zup_eq, fun c hc => absurd hc (Nat.not_lt_zero _)⟩ (fun c hc => absurd hc (List.not_mem_nil)) (by simp) rfl
  · rw [zup_ne (Or.inl (by omega)), zup_ne (Or.inr (by omega))]; exact t1
  · rw [zup_ne (Or.inl (by omega)), zup_eq]; rfl
  · rw [zup_ne (Or.inl (by omega)), zup_ne (Or.inl (by omega))]; exact t2 k hk
end DDC
