/-! DEEDS: the model parses -/
section DDM
variable {g : zG} {μ ν A : zMu} {φ : Int → zMu → Prop}
theorem ok_X11_isLetter {p : Nat} (hw : zWF A) (h : zTq A μ ν p) (k1 : 97 ≤ zch A p ∧ zch A p ≤ 122 → φ 1 ν) (k0 : ¬ (97 ≤ zch A p ∧ zch A p ≤ 122) → φ 0 ν) : zOi g zm_X11_isLetter [.ref 203] ν φ := by
  have hb := zch_bd hw p
  exact sg_X11_isLetter (ok_X11_here hw h ⟨by omega, ok_X11_in (by omega) (by omega) (by omega) (fun q => ⟨Or.inr rfl, k1 q⟩) (fun q => ⟨Or.inl rfl, k0 q⟩)⟩)
/-- where the words begin in their row -/
def zwo : List Nat := [0, 6, 8, 12, 18, 26, 31, 37, 42, 47]
theorem zwo_ok : ∀ k, k < 9 → zwo.getD (k + 1) 0 = zwo.getD k 0 + zTl.getD k 0 + 1 ∧ zwo.getD k 0 + zTl.getD k 0 < 47 ∧ zwords.getD (zwo.getD k 0 + zTl.getD k 0) 0 = 32 ∧ ∀ t, t < zTl.getD k 0 → zwords.getD (zwo.getD k 0 + t) 0 = zTc k t := by decide +kernel
theorem ok_X11_wordFrom {p e : Nat} (hw : zWF A) (hR : zRM A μ) (hT : zTq A μ ν e) (he : p ≤ e) (k1 : ∀ k, zcf (zch A) p e 9 0 = some k → φ (k : Int) ν) (k0 : zcf (zch A) p e 9 0 = none → φ (-1) ν) : zOi g zm_X11_wordFrom [.ref 203, .int (zJ (p : Int))] ν φ := by
  have hL := zWF_tp hw
  have hle := hT.2.2.2.2.2
  have e32 := hT.2.2.1
  have hwd : ∀ k, k < 47 → ν 224 k = zwords.getD k 0 := fun k hk => by rw [hT.1 224 (by omega)]; exact hR.2.2.2.2.2.1 k hk
  have htp : ∀ q : Nat, (q : Int) < A 40 0 → ν 223 q = zch A q := fun q hq => by
    unfold zch
    rw [if_pos hq, hT.1 223 (by omega)]
    exact hT.2.2.2.2.1 q hq
  obtain ⟨z00, z01, z10, z11⟩ := zand_x
  have outer : ∀ f k : Nat, k + f = 9 → zcf (zch A) p e f k = zcf (zch A) p e 9 0 → at_X11_wordFrom_4 g φ (p : Int) ((zwo.getD k 0 : Nat) : Int) (k : Int) ν := by
    intro f
    induction f with
    | zero =>
      intro k hk ec
      rw [zcf] at ec
      exact sg_X11_wordFrom_4 ⟨by omega, fun _ => k0 ec.symm, fun hc => absurd hc (by omega)⟩
    | succ f ih =>
      intro k hk ec
      rw [zcf] at ec
      obtain ⟨w1, w2, w3, w4⟩ := zwo_ok k (by omega)
      obtain ⟨l1, l2⟩ := zTl_bd k (by omega)
      have no : ¬ zmtc (zch A) p e k → at_X11_wordFrom_4 g φ (p : Int) (((zwo.getD k 0 : Nat) : Int) + (((zTl.getD k 0 : Nat) : Int) + 1)) ((k : Int) + 1) ν := fun hn => by
        rw [if_neg (by rw [zdec_f hn]; simp)] at ec
        have := ih (k + 1) (by omega) ec
        rw [w1, Int.natCast_add, Int.natCast_add, Int.natCast_add, Int.add_assoc] at this
        exact this
      have inner : ∀ f2 t : Nat, t + f2 = zTl.getD k 0 → ∀ x : Int, ((x = 1 ∧ ∀ s, s < t → p + s < e ∧ zch A (p + s) = zTc k s) ∨ (x = 0 ∧ ∃ s, s < t ∧ ¬ (p + s < e ∧ zch A (p + s) = zTc k s))) → at_X11_wordFrom_19 g φ (p : Int) ((zwo.getD k 0 : Nat) : Int) (k : Int) (t : Int) x ν := by
        intro f2
        induction f2 with
        | zero =>
          intro t ht x hx
          have et : t = zTl.getD k 0 := by omega
          subst et
          refine sg_X11_wordFrom_19 ⟨by omega, ?_⟩
          rw [show Int.toNat (((zwo.getD k 0 : Nat) : Int) + ((zTl.getD k 0 : Nat) : Int)) = zwo.getD k 0 + zTl.getD k 0 by omega, hwd _ (by omega), w3]
          refine ⟨by omega, fun _ => ⟨by omega, fun q => no (fun m => ?_), fun q => ⟨by omega, by omega, fun z => no (fun m => z ?_), fun z => ?_⟩⟩, fun hc => absurd rfl hc⟩
          · rcases hx with ⟨hx, _⟩ | ⟨_, s, hs, hn⟩
            · omega
            · exact hn ⟨by have := m.1; omega, m.2 s hs⟩
          · have := m.1
            omega
          · rcases hx with ⟨_, hx⟩ | ⟨hx, _⟩
            · have hm : zmtc (zch A) p e k := ⟨by omega, fun s hs => (hx s hs).2⟩
              rw [if_pos (zdec_iff.2 hm)] at ec
              exact k1 k ec.symm
            · exact absurd hx q
        | succ f2 ih2 =>
          intro t ht x hx
          have hb := l2 t (by omega)
          have hcb := zch_bd hw (p + t)
          have eidx : Int.toNat (((zwo.getD k 0 : Nat) : Int) + (t : Int)) = zwo.getD k 0 + t := by omega
          have step1 : p + t < e ∧ zch A (p + t) = zTc k t → at_X11_wordFrom_19 g φ (p : Int) ((zwo.getD k 0 : Nat) : Int) (k : Int) ((t : Int) + 1) (zand x 1) ν := fun hm => by
            have := ih2 (t + 1) (by omega) (zand x 1) (by
              rcases hx with ⟨rfl, hx⟩ | ⟨rfl, s, hs, hn⟩
              · refine Or.inl ⟨z11, fun s hs => ?_⟩
                by_cases es : s = t
                · rw [es]; exact hm
                · exact hx s (by omega)
              · exact Or.inr ⟨z01, s, by omega, hn⟩)
            rw [Int.natCast_add] at this
            exact this
          have step0 : ¬ (p + t < e ∧ zch A (p + t) = zTc k t) → at_X11_wordFrom_19 g φ (p : Int) ((zwo.getD k 0 : Nat) : Int) (k : Int) ((t : Int) + 1) (zand x 0) ν := fun hm => by
            have := ih2 (t + 1) (by omega) (zand x 0) (Or.inr ⟨by rcases hx with ⟨rfl, _⟩ | ⟨rfl, _⟩ <;> assumption, t, by omega, hm⟩)
            rw [Int.natCast_add] at this
            exact this
          refine sg_X11_wordFrom_19 ⟨by omega, ?_⟩
          rw [eidx, hwd _ (by omega), w4 t (by omega)]
          refine ⟨by omega, fun hc => absurd hc (by omega), fun _ => ⟨by omega, by omega, fun q => step0 (fun m => by omega), fun q => ⟨by omega, ?_⟩⟩⟩
          rw [show Int.toNat ((p : Int) + (t : Int)) = p + t by omega, htp _ (by omega)]
          exact ⟨by omega, fun z => step0 (fun m => z m.2), fun z => step1 ⟨by omega, z⟩⟩
      exact sg_X11_wordFrom_4 ⟨by omega, fun hc => absurd hc (by omega), fun _ => inner (zTl.getD k 0) 0 (by omega) 1 (Or.inl ⟨rfl, fun s hs => absurd hs (by omega)⟩)⟩
  exact sg_X11_wordFrom (outer 9 0 rfl rfl)
/-- the commands that the model holds -/
def zDm (ν : zMu) (acc : List (Nat × List Int)) : Prop := ∀ c, c < acc.length → ν 226 (5 * c) = (((acc.getD c (0, [])).1 : Nat) : Int) ∧ ∀ i, i < (acc.getD c (0, [])).2.length → ν 226 (5 * c + 1 + i) = (acc.getD c (0, [])).2.getD i 0
def zDf (μ β : zMu) : Prop := (∀ (i : Nat), i ≠ 203 → i ≠ 226 → β i = μ i) ∧ ∀ (j : Nat), j ≠ 32 → β 203 j = μ 203 j
theorem zDf.RM (hR : zRM A μ) {β : zMu} (h : zDf μ β) : zRM A β := zRM_s hR (fun j hj => h.2 j (by unfold zhS at hj; omega)) (fun i hi => h.1 i (by unfold zhM at hi; omega) (by unfold zhM at hi; omega))
theorem ok_X11_readsDeed {p : Nat} {acc : List (Nat × List Int)} {V : Int} (hw : zWF A) (hR : zRM A μ) (hT : zTq A μ ν p) (hV : V = 5 * (acc.length : Int)) (hC : zDm μ acc) (hl : acc.length < 100) (ha : zOkc acc)
    (k1 : ∀ k l q, zcd (zch A) p = (some (k, l), q) → ∀ β ν', zTq A β ν' q → zDf μ β → zDm β (acc ++ [(k, l)]) → φ 1 ν')
    (k0 : ∀ q, zcd (zch A) p = (none, q) → ∀ β ν', zTq A β ν' q → zDf μ β → φ 0 ν') : zOi g zm_X11_readsDeed [.ref 203, .int (zJ V)] ν φ := by
  subst hV
  have hL := zWF_tp hw
  have hwe := zwe_le (A := A) 101 p hT.2.2.2.2.2
  obtain ⟨e, he⟩ : ∃ e, zwe (zch A) 101 p = e := ⟨_, rfl⟩
  rw [he] at hwe
  -- a number is stored
  have loop : ∀ (k : Nat), zcf (zch A) p e 9 0 = some k → ∀ f n : Nat, n + f = zna k → ∀ (q : Nat) (l : List Int) (β ω : zMu), zTq A β ω q → zDf μ β → (∀ j, ¬ (5 * acc.length ≤ j ∧ j < 5 * acc.length + 5) → β 226 j = μ 226 j) → β 226 (5 * acc.length) = (k : Int) → l.length = n → (∀ i, i < n → β 226 (5 * acc.length + 1 + i) = l.getD i 0) → zag (zch A) f q l = zag (zch A) (zna k) e [] → at_X11_readsDeed_52 g φ (5 * (acc.length : Int)) (k : Int) (n : Int) ω := by
    intro k hk
    have hk9 := zcf_some 9 0 hk
    obtain ⟨na1, na2⟩ := zna_bd k (by omega)
    intro f
    induction f with
    | zero =>
      intro n hn q l β ω T cf b2 b3 b5 b6 ez
      have e225 : ω 225 k = (zna k : Int) := by rw [T.1 225 (by omega), cf.1 225 (by omega) (by omega), hR.2.2.2.2.2.2 k (by omega), na2]
      rw [zag] at ez
      have ezc : zcd (zch A) p = (some (k, l), q) := by
        unfold zcd
        rw [he, hk]
        dsimp only
        rw [← ez]
      refine sg_X11_readsDeed_52 ⟨by omega, by omega, ?_⟩
      rw [Int.toNat_natCast, e225]
      refine ⟨by omega, fun _ => k1 k l q ezc β ω T cf (fun c hc => ?_), fun hc => absurd hc (by omega)⟩
      rw [List.length_append] at hc
      have hc : c < acc.length + 1 := hc
      by_cases ec : c = acc.length
      · subst ec
        rw [zgetD_app2]
        refine ⟨b3, fun i hi => ?_⟩
        have hi : i < l.length := hi
        exact b6 i (by omega)
      · rw [zgetD_app1 (by omega), b2 _ (by omega)]
        have h2 := hC c (by omega)
        refine ⟨h2.1, fun i hi => ?_⟩
        have hlen : (acc.getD c (0, [])).2.length ≤ 4 := by
          have hm : acc.getD c (0, []) ∈ acc := by
            rw [List.getD_eq_getElem?_getD, List.getElem?_eq_getElem (by omega)]
            exact List.getElem_mem _
          have h3 := ha _ hm
          have := (zna_bd _ h3.1).1
          omega
        rw [b2 _ (by omega)]
        exact h2.2 i hi
    | succ f ih =>
      intro n hn q l β ω T cf b2 b3 b5 b6 ez
      have e225 : ω 225 k = (zna k : Int) := by rw [T.1 225 (by omega), cf.1 225 (by omega) (by omega), hR.2.2.2.2.2.2 k (by omega), na2]
      rw [zag] at ez
      have hb := zch_bd hw q
      have bad : ∀ (r : Nat) (ω2 : zMu), zsg (zch A) q = (none, r) → zTq A β ω2 r → φ 0 ω2 := fun r ω2 ev T2 => by
        rw [ev] at ez
        dsimp only at ez
        refine k0 r ?_ β ω2 T2 cf
        unfold zcd
        rw [he, hk]
        dsimp only
        rw [← ez]
      -- the number is read and stored
      have good : ∀ (s : Nat) (m : Int) (ω2 : zMu), zTq A β ω2 s → (m = 0 ∨ m = 1) → zsg (zch A) q = (some (if m = 0 then (znu (zch A) 3 0 s).1 else -(znu (zch A) 3 0 s).1), (znu (zch A) 3 0 s).2) → at_X11_readsDeed_134 g φ (5 * (acc.length : Int)) (k : Int) (n : Int) m 0 0 ω2 := fun s m ω2 T2 hm ev => by
        have store : ∀ (r : Nat) (v : Int) (ω3 : zMu), zTq A β ω3 r → (v, r) = znu (zch A) 3 0 s → (zR m) ∧ ((m = 0 → (0 ≤ ((5 * (acc.length : Int) + 1) + (n : Int)) ∧ ((5 * (acc.length : Int) + 1) + (n : Int)) < 500) ∧ at_X11_readsDeed_52 g φ (5 * (acc.length : Int)) (k : Int) ((n : Int) + 1) (zup ω3 226 (Int.toNat ((5 * (acc.length : Int) + 1) + (n : Int))) v)) ∧ (¬ m = 0 → (0 ≤ ((5 * (acc.length : Int) + 1) + (n : Int)) ∧ ((5 * (acc.length : Int) + 1) + (n : Int)) < 500) ∧ at_X11_readsDeed_52 g φ (5 * (acc.length : Int)) (k : Int) ((n : Int) + 1) (zup ω3 226 (Int.toNat ((5 * (acc.length : Int) + 1) + (n : Int))) (-v)))) := fun r v ω3 T3 er => by
          have go : ∀ x : Int, zsg (zch A) q = (some x, r) → at_X11_readsDeed_52 g φ (5 * (acc.length : Int)) (k : Int) ((n : Int) + 1) (zup ω3 226 (Int.toNat ((5 * (acc.length : Int) + 1) + (n : Int))) x) := fun x ev => by
            rw [ev] at ez
            dsimp only at ez
            rw [show Int.toNat ((5 * (acc.length : Int) + 1) + (n : Int)) = 5 * acc.length + 1 + n by omega]
            have := ih (n + 1) (by omega) r (l ++ [x]) (zup β 226 (5 * acc.length + 1 + n) x) (zup ω3 226 (5 * acc.length + 1 + n) x) ⟨fun i hi => zup_cong (T3.1 i hi), fun j hj => by rw [zup_ne (i := 226) (a := 203) (Or.inl (by omega)), zup_ne (i := 226) (a := 203) (Or.inl (by omega))]; exact T3.2.1 j hj, (zup_ne (Or.inl (by omega))).trans T3.2.2.1, (zup_ne (Or.inl (by omega))).trans T3.2.2.2.1, fun j hj => (zup_ne (Or.inl (by omega))).trans (T3.2.2.2.2.1 j hj), T3.2.2.2.2.2⟩ ⟨fun i i1 i2 => (zup_nc i2).trans (cf.1 i i1 i2), fun j hj => (zup_ne (Or.inl (by omega))).trans (cf.2 j hj)⟩ (fun j hj => (zup_ne (Or.inr (by omega))).trans (b2 j hj)) ((zup_ne (Or.inr (by omega))).trans b3) (by rw [List.length_append, b5]; rfl) (fun i hi => by
              by_cases ei : i = n
              · rw [ei, zup_eq, ← b5, zgetD_app2]
              · rw [zup_ne (Or.inr (by omega)), zgetD_app1 (by omega)]; exact b6 i (by omega)) ez
            rw [Int.natCast_add] at this
            exact this
          rw [← er] at ev
          dsimp only at ev
          refine ⟨by omega, fun z => ⟨by omega, go v (by rw [if_pos z] at ev; exact ev)⟩, fun z => ⟨by omega, go (-v) (by rw [if_neg z] at ev; exact ev)⟩⟩
        have lp : ∀ f2 y : Nat, y + f2 = 3 → ∀ (r : Nat) (v : Int) (ω3 : zMu), zTq A β ω3 r → znu (zch A) f2 v r = znu (zch A) 3 0 s → at_X11_readsDeed_134 g φ (5 * (acc.length : Int)) (k : Int) (n : Int) m v (y : Int) ω3 := by
          intro f2
          induction f2 with
          | zero =>
            intro y hy r v ω3 T3 er
            rw [znu] at er
            exact sg_X11_readsDeed_134 ⟨by omega, fun _ => store r v ω3 T3 er, fun hc => absurd hc (by omega)⟩
          | succ f2 ih2 =>
            intro y hy r v ω3 T3 er
            rw [znu] at er
            refine sg_X11_readsDeed_134 ⟨by omega, fun hc => absurd hc (by omega), fun _ => ok_X11_isFigure hw T3 (fun z => ⟨by omega, fun hc => absurd hc (by omega), fun _ => ok_X11_here hw T3 ?_⟩) (fun z => ⟨by omega, fun _ => ?_, fun hc => absurd rfl hc⟩)⟩
            · rw [if_pos z] at er
              have hlt := zch_lt (A := A) (p := r) (by omega)
              rw [T3.2.2.1]
              have := ih2 (y + 1) (by omega) (r + 1) _ _ (zTq_to (q := r + 1) T3 (by omega)) er
              rw [Int.natCast_add, Int.natCast_add] at this
              exact this
            · rw [if_neg z] at er
              exact store r v ω3 T3 er
        exact lp 3 0 rfl s 0 ω2 T2 rfl
      refine sg_X11_readsDeed_52 ⟨by omega, by omega, ?_⟩
      rw [Int.toNat_natCast, e225]
      refine ⟨by omega, fun hc => absurd hc (by omega), fun _ => ok_X11_here hw T ⟨by omega, fun hs => ?_, fun hs => bad q ω (by unfold zsg; rw [if_neg hs]) T⟩⟩
      have hlt := zch_lt (A := A) (p := q) (by omega)
      have hb1 := zch_bd hw (q + 1)
      rw [T.2.2.1]
      have T1 : zTq A β (zup ω 203 32 ((q : Int) + 1)) (q + 1) := zTq_to (q := q + 1) T (by omega)
      refine ok_X11_here hw T1 ⟨by omega, fun hm => ?_, fun hm => ?_⟩
      · rw [zup_eq]
        have T2 : zTq A β (zup (zup ω 203 32 ((q : Int) + 1)) 203 32 ((q : Int) + 1 + 0)) (q + 1) := by
          have := zTq_to (q := q + 1) T1 (by omega)
          rw [show ((q + 1 : Nat) : Int) = (q : Int) + 1 + 0 by omega] at this
          exact this
        refine ok_X11_isFigure hw T2 (fun z => ⟨by omega, fun _ => good (q + 1) 0 _ T2 (Or.inl rfl) (by unfold zsg; rw [if_pos hs, if_neg hm, if_pos z, if_pos rfl]), fun hc => absurd hc (by omega)⟩) (fun z => ⟨by omega, fun hc => absurd rfl hc, fun _ => bad (q + 1) _ (by unfold zsg; rw [if_pos hs, if_neg hm, if_neg z]) T2⟩)
      · rw [zup_eq]
        have hlt1 := zch_lt (A := A) (p := q + 1) (by omega)
        have T2 : zTq A β (zup (zup ω 203 32 ((q : Int) + 1)) 203 32 ((q : Int) + 1 + 1)) (q + 2) := by
          have := zTq_to (q := q + 2) T1 (by omega)
          rw [show ((q + 2 : Nat) : Int) = (q : Int) + 1 + 1 by omega] at this
          exact this
        refine ok_X11_isFigure hw T2 (fun z => ⟨by omega, fun _ => good (q + 2) 1 _ T2 (Or.inr rfl) (by unfold zsg; rw [if_pos hs, if_pos hm, if_pos z, if_neg (show ¬ (1 : Int) = 0 by omega)]), fun hc => absurd hc (by omega)⟩) (fun z => ⟨by omega, fun hc => absurd rfl hc, fun _ => bad (q + 2) _ (by unfold zsg; rw [if_pos hs, if_pos hm, if_neg z]) T2⟩)
  -- the letters
  have letters : ∀ f q : Nat, 101 ≤ q + f → (q : Int) ≤ A 40 0 → p ≤ q → zwe (zch A) f q = e → ∀ ω, zTq A μ ω q → at_X11_readsDeed_5 g φ (5 * (acc.length : Int)) (p : Int) ω := by
    intro f
    induction f with
    | zero => intro q hq hl; omega
    | succ f ih =>
      intro q hq hl hpq ee ω T
      have hb := zch_bd hw q
      rw [zwe] at ee
      refine sg_X11_readsDeed_5 (ok_X11_isLetter hw T (fun c => ⟨by omega, fun hc => absurd hc (by omega), fun _ => ?_⟩) (fun c => ⟨by omega, fun _ => ?_, fun hc => absurd rfl hc⟩))
      · rw [if_pos c] at ee
        have hlt := zch_lt (A := A) (p := q) (by omega)
        rw [T.2.2.1]
        exact ih (q + 1) (by omega) (by omega) (by omega) ee _ (zTq_to (q := q + 1) T (by omega))
      · rw [if_neg c] at ee
        subst ee
        refine ok_X11_wordFrom hw hR T hpq (fun k hk => ?_) (fun hk => ?_)
        · have hk9 := zcf_some 9 0 hk
          refine ⟨by omega, fun _ => ⟨by omega, ?_⟩, fun hc => absurd hc (by omega)⟩
          rw [show Int.toNat (5 * (acc.length : Int)) = 5 * acc.length by omega]
          exact loop k hk (zna k) 0 (by omega) q [] (zup μ 226 (5 * acc.length) (k : Int)) _ ⟨fun i hi => zup_cong (T.1 i hi), fun j hj => by rw [zup_ne (i := 226) (a := 203) (Or.inl (by omega)), zup_ne (i := 226) (a := 203) (Or.inl (by omega))]; exact T.2.1 j hj, (zup_ne (Or.inl (by omega))).trans T.2.2.1, (zup_ne (Or.inl (by omega))).trans T.2.2.2.1, fun j hj => (zup_ne (Or.inl (by omega))).trans (T.2.2.2.2.1 j hj), T.2.2.2.2.2⟩ ⟨fun i i1 i2 => zup_nc i2, fun j hj => zup_ne (Or.inl (by omega))⟩ (fun j hj => zup_ne (Or.inr (by omega))) zup_eq rfl (fun i hi => absurd hi (by omega)) rfl
        · refine ⟨by omega, fun hc => absurd hc (by omega), fun _ => k0 p (by unfold zcd; rw [he, hk]) μ _ (zTq_to (q := p) T (by omega)) ⟨fun _ _ _ => rfl, fun _ _ => rfl⟩⟩
  refine sg_X11_readsDeed ?_
  rw [hT.2.2.1]
  exact letters 101 p (by omega) hT.2.2.2.2.2 (Nat.le_refl _) he ν hT
end DDM
