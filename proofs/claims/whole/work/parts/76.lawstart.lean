/-! THE LAW's start: what holds of the machine at its entry -/
theorem zlt (i : Nat) {w : Cond} (h : tables_1[i]? = some w) : w ∈ lw_tbl := List.mem_append_right _ (List.mem_of_getElem? h)
theorem zlt_tbl {w : Cond} (h : w ∈ ztbl) : w ∈ lw_tbl := (List.mem_filter.mp h).1
theorem zlt_n0 : (Jvm.Cond.methodLinkNest "LevelEquations$Contents" (23 : Nat) ({ cls := "LevelEquations$Polynomial", name := "<init>", desc := "()V" } : Jvm.MethodName) "LevelEquations") ∈ lw_tbl := zlt 38 (by decide +kernel)
theorem zlt_n1 : (Jvm.Cond.methodLinkNest "LevelEquations$Contents" (36 : Nat) ({ cls := "LevelEquations$Series", name := "<init>", desc := "()V" } : Jvm.MethodName) "LevelEquations") ∈ lw_tbl := zlt 62 (by decide +kernel)
theorem zlt_n2 : (Jvm.Cond.methodLinkNest "LevelEquations" (23 : Nat) ({ cls := "LevelEquations$SeriesMath", name := "<init>", desc := "()V" } : Jvm.MethodName) "LevelEquations") ∈ lw_tbl := zlt 111 (by decide +kernel)
theorem zlt_n3 : (Jvm.Cond.methodLinkNest "LevelEquations" (30 : Nat) ({ cls := "LevelEquations$Vanishing", name := "<init>", desc := "()V" } : Jvm.MethodName) "LevelEquations") ∈ lw_tbl := zlt 130 (by decide +kernel)
theorem zlt_n4 : (Jvm.Cond.methodLinkNest "LevelEquations" (37 : Nat) ({ cls := "LevelEquations$Finder", name := "<init>", desc := "()V" } : Jvm.MethodName) "LevelEquations") ∈ lw_tbl := zlt 169 (by decide +kernel)
theorem zlt_n5 : (Jvm.Cond.methodLinkNest "LevelEquations" (51 : Nat) ({ cls := "LevelEquations$Tape", name := "<init>", desc := "()V" } : Jvm.MethodName) "LevelEquations") ∈ lw_tbl := zlt 232 (by decide +kernel)
theorem zlt_n6 : (Jvm.Cond.methodLinkNest "LevelEquations" (58 : Nat) ({ cls := "LevelEquations$Program", name := "<init>", desc := "()V" } : Jvm.MethodName) "LevelEquations") ∈ lw_tbl := zlt 256 (by decide +kernel)
theorem zlt_n7 : (Jvm.Cond.methodLinkNest "LevelEquations" (65 : Nat) ({ cls := "LevelEquations$PolynomialText", name := "<init>", desc := "()V" } : Jvm.MethodName) "LevelEquations") ∈ lw_tbl := zlt 274 (by decide +kernel)
theorem zlt_n8 : (Jvm.Cond.methodLinkNest "LevelEquations$PolynomialText" (11 : Nat) ({ cls := "LevelEquations$Polynomial", name := "<init>", desc := "()V" } : Jvm.MethodName) "LevelEquations") ∈ lw_tbl := zlt 279 (by decide +kernel)
theorem zlt_n9 : (Jvm.Cond.methodLinkNest "LevelEquations$SeriesMath" (57 : Nat) ({ cls := "LevelEquations", name := "multiply", desc := "([I[I[III)V" } : Jvm.MethodName) "LevelEquations") ∈ lw_tbl := zlt 363 (by decide +kernel)
theorem zlt_n10 : (Jvm.Cond.methodLinkNest "LevelEquations$SeriesMath" (84 : Nat) ({ cls := "LevelEquations", name := "inverse", desc := "(II)I" } : Jvm.MethodName) "LevelEquations") ∈ lw_tbl := zlt 373 (by decide +kernel)
theorem zlt_n11 : (Jvm.Cond.methodLinkNest "LevelEquations$Vanishing" (67 : Nat) ({ cls := "LevelEquations", name := "multiply", desc := "([I[I[III)V" } : Jvm.MethodName) "LevelEquations") ∈ lw_tbl := zlt 484 (by decide +kernel)
theorem zlt_n12 : (Jvm.Cond.methodLinkNest "LevelEquations$Finder" (98 : Nat) ({ cls := "LevelEquations", name := "inverse", desc := "(II)I" } : Jvm.MethodName) "LevelEquations") ∈ lw_tbl := zlt 523 (by decide +kernel)
theorem zlt_n13 : (Jvm.Cond.methodLinkNest "LevelEquations$Contents" (58 : Nat) ({ cls := "LevelEquations", name := "inverse", desc := "(II)I" } : Jvm.MethodName) "LevelEquations") ∈ lw_tbl := zlt 715 (by decide +kernel)
theorem zlt_nest : ∀ q ∈ zNest, Cond.methodLinkNest q.1 q.2.1 q.2.2.1 q.2.2.2 ∈ lw_tbl := List.forall_mem_cons.mpr ⟨zlt_n0, List.forall_mem_cons.mpr ⟨zlt_n1, List.forall_mem_cons.mpr ⟨zlt_n2, List.forall_mem_cons.mpr ⟨zlt_n3, List.forall_mem_cons.mpr ⟨zlt_n4, List.forall_mem_cons.mpr ⟨zlt_n5, List.forall_mem_cons.mpr ⟨zlt_n6, List.forall_mem_cons.mpr ⟨zlt_n7, List.forall_mem_cons.mpr ⟨zlt_n8, List.forall_mem_cons.mpr ⟨zlt_n9, List.forall_mem_cons.mpr ⟨zlt_n10, List.forall_mem_cons.mpr ⟨zlt_n11, List.forall_mem_cons.mpr ⟨zlt_n12, List.forall_mem_cons.mpr ⟨zlt_n13, fun _ h => absurd h List.not_mem_nil⟩⟩⟩⟩⟩⟩⟩⟩⟩⟩⟩⟩⟩⟩
theorem zlt_s0 : (Jvm.Cond.stringRef "LevelEquations$Program" (68 : Nat) "prime") ∈ lw_tbl := zlt 759 (by decide +kernel)
theorem zlt_s1 : (Jvm.Cond.stringRef "LevelEquations$Program" (70 : Nat) "j") ∈ lw_tbl := zlt 760 (by decide +kernel)
theorem zlt_s2 : (Jvm.Cond.stringRef "LevelEquations$Program" (72 : Nat) "sum") ∈ lw_tbl := zlt 761 (by decide +kernel)
theorem zlt_s3 : (Jvm.Cond.stringRef "LevelEquations$Program" (74 : Nat) "times") ∈ lw_tbl := zlt 762 (by decide +kernel)
theorem zlt_s4 : (Jvm.Cond.stringRef "LevelEquations$Program" (76 : Nat) "stretch") ∈ lw_tbl := zlt 763 (by decide +kernel)
theorem zlt_s5 : (Jvm.Cond.stringRef "LevelEquations$Program" (78 : Nat) "over") ∈ lw_tbl := zlt 764 (by decide +kernel)
theorem zlt_s6 : (Jvm.Cond.stringRef "LevelEquations$Program" (80 : Nat) "power") ∈ lw_tbl := zlt 765 (by decide +kernel)
theorem zlt_s7 : (Jvm.Cond.stringRef "LevelEquations$Program" (82 : Nat) "find") ∈ lw_tbl := zlt 766 (by decide +kernel)
theorem zlt_s8 : (Jvm.Cond.stringRef "LevelEquations$Program" (84 : Nat) "keep") ∈ lw_tbl := zlt 767 (by decide +kernel)
theorem zlt_str : ∀ k, k < 9 → Cond.stringRef RX5 (zTi.getD k 0) (zTx.getD k "") ∈ lw_tbl := by
  intro k hk
  match k, hk with
  | 0, _ => exact zlt_s0
  | 1, _ => exact zlt_s1
  | 2, _ => exact zlt_s2
  | 3, _ => exact zlt_s3
  | 4, _ => exact zlt_s4
  | 5, _ => exact zlt_s5
  | 6, _ => exact zlt_s6
  | 7, _ => exact zlt_s7
  | 8, _ => exact zlt_s8
theorem zlt_ov0 : (Jvm.Cond.arrayOver (Jvm.ClassFile.FieldType.object "LevelEquations$Series")) ∈ lw_tbl := zlt 35 (by decide +kernel)
theorem zlt_ov1 : (Jvm.Cond.arrayOver (Jvm.ClassFile.FieldType.object "LevelEquations$Polynomial")) ∈ lw_tbl := zlt 60 (by decide +kernel)
theorem zlt_ov2 : (Jvm.Cond.arrayOver (Jvm.ClassFile.FieldType.array Jvm.ClassFile.FieldType.int)) ∈ lw_tbl := zlt 135 (by decide +kernel)
theorem zlt_cs : (Jvm.Cond.laysStatic "java/lang/String" "COMPACT_STRINGS" "Z") ∈ lw_tbl := zlt 781 (by decide +kernel)
theorem zlt_sf : (Jvm.Cond.laysStatic "jdk/internal/util/Preconditions" "SIOOBE_FORMATTER" "Ljava/util/function/BiFunction;") ∈ lw_tbl := zlt 797 (by decide +kernel)
theorem zlt_is : (Jvm.Cond.initialized "java/lang/String") ∈ lw_tbl := zlt 16 (by decide +kernel)
theorem zlt_ip : (Jvm.Cond.initialized "jdk/internal/util/Preconditions") ∈ lw_tbl := zlt 18 (by decide +kernel)
def zstm (i : Nat) : Term := Term.string RX5 (zTi.getD i 0)
theorem zfl_ex : ∀ i, i < 9 → Cond.exactly (zstm i) "java/lang/String" ∈ flatC (Jvm.Cond.and given_1 narrow_1) := by decide +kernel
theorem zfl_co : ∀ i, i < 9 → Cond.eq (.field (zstm i) "java/lang/String" "coder" "B") (.int 0) ∈ flatC (Jvm.Cond.and given_1 narrow_1) := by decide +kernel
theorem zfl_ar : ∀ i, i < 9 → Cond.arrayOf (.field (zstm i) "java/lang/String" "value" "[B") .byte ∈ flatC (Jvm.Cond.and given_1 narrow_1) := by decide +kernel
theorem zfl_le : ∀ i, i < 9 → Cond.eq (.length (.field (zstm i) "java/lang/String" "value" "[B")) (.int (Int32.ofNat (zTl.getD i 0))) ∈ flatC (Jvm.Cond.and given_1 narrow_1) := by decide +kernel
theorem zfl_el : ∀ i, i < 9 → ∀ j, j < zTl.getD i 0 → Cond.eq (.elem (.field (zstm i) "java/lang/String" "value" "[B") (.int (Int32.ofNat j))) (.int ((zTb.getD i []).getD j 0)) ∈ flatC (Jvm.Cond.and given_1 narrow_1) := by decide +kernel
theorem zfl_ne : ∀ i, i < 9 → ∀ j, j < 9 → i ≠ j → (Cond.not (Cond.eq (zstm i) (zstm j)) ∈ flatC (Jvm.Cond.and given_1 narrow_1) ∨ Cond.not (Cond.eq (zstm j) (zstm i)) ∈ flatC (Jvm.Cond.and given_1 narrow_1)) := by decide +kernel
theorem zfl_cs : Cond.eq (.static "java/lang/String" "COMPACT_STRINGS" "Z") (.int 1) ∈ flatC (Jvm.Cond.and given_1 narrow_1) := by decide +kernel
theorem zfl_sf : Cond.isRef (.static "jdk/internal/util/Preconditions" "SIOOBE_FORMATTER" "Ljava/util/function/BiFunction;") ∈ flatC (Jvm.Cond.and given_1 narrow_1) := by decide +kernel
theorem zTl_small : ∀ i, i < 9 → zTl.getD i 0 < 2 ^ 31 := by decide +kernel
theorem zstart_cl {s : State} {args : Array Value} (hts : ∀ w ∈ lw_tbl, w.before args s = true) : ∃ D : va_G, ∀ (k : Nat) (q : vw_C), vwCl[k]? = some q → u_Kn s q.1 q.2.1 q.2.2 (D.1 k) (D.2 k) := by
  have ht : ∀ w ∈ ztbl, w.before args s = true := fun w hw => hts w (zlt_tbl hw)
  have h : ∀ k : Nat, ∃ q : ClassId × (Nat → Nat), ∀ r : vw_C, vwCl[k]? = some r → u_Kn s r.1 r.2.1 r.2.2 q.1 q.2 := by
    intro k
    match k with
    | 0 =>
      obtain ⟨cC, iS, h⟩ := u_known (C := RX0) (T := TX0) (N := 5) (n := 5) ht zcb_0.2.2.2.2.2.2 (ht _ zins_0)
      exact ⟨(cC, iS), fun r hr => by cases hr; exact h⟩
    | 1 =>
      obtain ⟨cC, iS, h⟩ := u_known (C := RX1) (T := TX1) (N := 10) (n := 10) ht zcb_1.2.2.2.2.2.2 (ht _ zins_1)
      exact ⟨(cC, iS), fun r hr => by cases hr; exact h⟩
    | 2 =>
      obtain ⟨cC, iS, h⟩ := u_known (C := RX2) (T := TX2) (N := 5) (n := 5) ht zcb_2.2.2.2.2.2.2 (ht _ zins_2)
      exact ⟨(cC, iS), fun r hr => by cases hr; exact h⟩
    | 3 =>
      obtain ⟨cC, iS, h⟩ := u_known (C := RX3) (T := TX3) (N := 2) (n := 2) ht zcb_3.2.2.2.2.2.2 (ht _ zins_3)
      exact ⟨(cC, iS), fun r hr => by cases hr; exact h⟩
    | 4 =>
      obtain ⟨cC, iS, h⟩ := u_known (C := RX4) (T := TX4) (N := 3) (n := 3) ht zcb_4.2.2.2.2.2.2 (ht _ zins_4)
      exact ⟨(cC, iS), fun r hr => by cases hr; exact h⟩
    | 5 =>
      obtain ⟨cC, iS, h⟩ := u_known (C := RX5) (T := TX5) (N := 3) (n := 3) ht zcb_5.2.2.2.2.2.2 (ht _ zins_5)
      exact ⟨(cC, iS), fun r hr => by cases hr; exact h⟩
    | 6 =>
      obtain ⟨cC, iS, h⟩ := u_known (C := RX6) (T := TX6) (N := 3) (n := 3) ht zcb_6.2.2.2.2.2.2 (ht _ zins_6)
      exact ⟨(cC, iS), fun r hr => by cases hr; exact h⟩
    | 7 =>
      obtain ⟨cC, iS, h⟩ := u_known (C := RX7) (T := TX7) (N := 4) (n := 4) ht zcb_7.2.2.2.2.2.2 (ht _ zins_7)
      exact ⟨(cC, iS), fun r hr => by cases hr; exact h⟩
    | 8 =>
      obtain ⟨cC, iS, h⟩ := u_known (C := RX8) (T := TX8) (N := 4) (n := 4) ht zcb_8.2.2.2.2.2.2 (ht _ zins_8)
      exact ⟨(cC, iS), fun r hr => by cases hr; exact h⟩
    | 9 =>
      obtain ⟨cC, iS, h⟩ := u_known (C := RX9) (T := TX9) (N := 9) (n := 9) ht zcb_9.2.2.2.2.2.2 (ht _ zins_9)
      exact ⟨(cC, iS), fun r hr => by cases hr; exact h⟩
    | 10 =>
      obtain ⟨cC, iS, h⟩ := u_known (C := RX10) (T := TX10) (N := 12) (n := 12) ht zcb_10.2.2.2.2.2.2 (ht _ zins_10)
      exact ⟨(cC, iS), fun r hr => by cases hr; exact h⟩
    | 11 =>
      obtain ⟨cC, iS, h⟩ := u_known (C := RX11) (T := TX11) (N := 50) (n := 50) ht zcb_11.2.2.2.2.2.2 (ht _ zins_11)
      exact ⟨(cC, iS), fun r hr => by cases hr; exact h⟩
    | k + 12 => exact ⟨(0, fun _ => 0), fun r hr => by rw [List.getElem?_eq_none (by show 12 ≤ k + 12; omega)] at hr; cases hr⟩
  obtain ⟨f, hf⟩ := Classical.axiomOfChoice h
  exact ⟨(fun k => (f k).1, fun k => (f k).2), fun k q hq => hf k q hq⟩
theorem zstart {l : Launch} {s : State} {b : Nat} (hts : ∀ w ∈ lw_tbl, w.before #[Value.ref b] s = true) (hgv : (Jvm.Cond.and given_1 narrow_1).before #[Value.ref b] s = true) : ∃ g : zG, zgl g = l ∧ zgB g = s.heap.size ∧ zgx g 0 = b ∧ zU g s ∧ zEX s := by
  have hq := flat_of_before _ hgv
  have hA : ∀ a : Nat, a < s.heap.size → ¬ (fun q : Nat => s.heap.size ≤ q) a := fun a h1 h2 => Nat.not_le.mpr h1 h2
  obtain ⟨D, hD⟩ := zstart_cl hts
  obtain ⟨adK, adV, hS, hE⟩ := vk_Sof (N := 9) (tm := zstm) (len := zTl) (byt := zTb) (A := fun q : Nat => s.heap.size ≤ q) zTl_small (fun i hi => hq _ (zfl_ex i hi)) (fun i hi => hq _ (zfl_co i hi)) (fun i hi => hq _ (zfl_ar i hi)) (fun i hi => hq _ (zfl_le i hi)) (fun i hi j hj => hq _ (zfl_el i hi j hj)) (fun i j hi hj hn => (zfl_ne i hi j hj hn).imp (hq _) (hq _)) hA
  have hZ : va_Z "java/lang/String" "COMPACT_STRINGS" "Z" (.int 1) (fun q : Nat => s.heap.size ≤ q) s s.heap := va_Zof (hts _ zlt_cs) (hts _ zlt_is) (va_eqt (hq _ zfl_cs)) hA
  have hF : va_Zq "jdk/internal/util/Preconditions" "SIOOBE_FORMATTER" "Ljava/util/function/BiFunction;" (fun q : Nat => s.heap.size ≤ q) s s.heap := va_Zqof (hts _ zlt_sf) (hts _ zlt_ip) (hq _ zfl_sf) hA
  obtain ⟨t0, hF0⟩ : ∃ t0 : Nat, va_Z "jdk/internal/util/Preconditions" "SIOOBE_FORMATTER" "Ljava/util/function/BiFunction;" .null (fun q : Nat => s.heap.size ≤ q) s s.heap ∨ va_Z "jdk/internal/util/Preconditions" "SIOOBE_FORMATTER" "Ljava/util/function/BiFunction;" (.ref t0) (fun q : Nat => s.heap.size ≤ q) s s.heap := by
    rcases hF with h | ⟨t, h⟩
    · exact ⟨0, Or.inl h⟩
    · exact ⟨t, Or.inr h⟩
  obtain ⟨c12, k12, p12, a1, a2, a3⟩ := Cond.arrayClass_spec (hts _ (zlt_tbl zb_arrI))
  obtain ⟨m14, c14, k14, b1, -, b2, b3, b4⟩ := Cond.arrayOver_spec (hts _ zlt_ov0)
  obtain ⟨m13, c13, k13, d1, -, d2, d3, d4⟩ := Cond.arrayOver_spec (hts _ zlt_ov1)
  obtain ⟨m15, c15, k15, e1, e2, e3, e4⟩ := Cond.arrayOver_specA (hts _ zlt_ov2)
  refine ⟨(l, D, s.heap.size, fun k => if k = 12 then c12 else if k = 13 then c13 else if k = 14 then c14 else c15, fun j => if j = 0 then b else if j = 201 then t0 else if j < 100 then adK (j - 1) else adV (j - 101)), rfl, rfl, rfl, ⟨⟨hD, fun k q hk => ?_⟩, fun q hq2 => va_Nw.of rfl (hts _ (zlt_nest q hq2)), fun k hk => ?_, ?_, hZ, hF0⟩, va_AO.of (hts _ zlt_ov0), va_AO.of (hts _ zlt_ov1), hts _ zlt_ov2⟩
  · match k, hk with
    | 0, hk => cases hk; exact ⟨fun n z => ⟨fun k h => (by cases h), k12, a2, p12, a3⟩, a1⟩
    | 1, hk => cases hk; exact ⟨fun n z => ⟨fun k h => (by cases h), k13, d2, m13, d3⟩, k13, m13, d2, d3, d1, d4⟩
    | 2, hk => cases hk; exact ⟨fun n z => ⟨fun k h => (by cases h), k14, b2, m14, b3⟩, k14, m14, b2, b3, b1, b4⟩
    | 3, hk => cases hk; exact ⟨fun n z => ⟨fun k h => (by cases h), k15, e2, m15, e3⟩, e4⟩
    | k + 4, hk => exfalso; rw [List.getElem?_eq_none (by show 4 ≤ k + 4; omega)] at hk; cases hk
  · show vk_R RX5 (zTi.getD k 0) (zTx.getD k "") (if k + 1 = 0 then b else if k + 1 = 201 then t0 else if k + 1 < 100 then adK (k + 1 - 1) else adV (k + 1 - 101)) s
    rw [if_neg (by omega), if_neg (by omega), if_pos (by omega), Nat.add_sub_cancel]
    exact vk_R.of (hts _ (zlt_str k hk)) (hE k hk)
  · have f1 : (fun k : Nat => if k + 1 = 0 then b else if k + 1 = 201 then t0 else if k + 1 < 100 then adK (k + 1 - 1) else adV (k + 1 - 101)) = fun k => if k < 99 then adK k else (if k + 1 = 201 then t0 else adV (k + 1 - 101)) := by
      funext k
      by_cases h : k < 99
      · rw [if_neg (by omega), if_neg (by omega), if_pos (by omega), if_pos h, Nat.add_sub_cancel]
      · rw [if_neg (by omega), if_neg h, if_neg (show ¬ k + 1 < 100 by omega)]
    refine ⟨fun i hi => ?_, fun i j hi hj e => ?_⟩
    · have h9 := hS.1 i hi
      have g1 : (if i + 1 = 0 then b else if i + 1 = 201 then t0 else if i + 1 < 100 then adK (i + 1 - 1) else adV (i + 1 - 101)) = adK i := by rw [if_neg (by omega), if_neg (by omega), if_pos (by omega), Nat.add_sub_cancel]
      have g2 : (if i + 101 = 0 then b else if i + 101 = 201 then t0 else if i + 101 < 100 then adK (i + 101 - 1) else adV (i + 101 - 101)) = adV i := by rw [if_neg (by omega), if_neg (by omega), if_neg (by omega), Nat.add_sub_cancel]
      rw [← g1, ← g2] at h9
      exact h9
    · have g1 : ∀ i : Nat, i < 9 → (if i + 1 = 0 then b else if i + 1 = 201 then t0 else if i + 1 < 100 then adK (i + 1 - 1) else adV (i + 1 - 101)) = adK i := fun i hi => by rw [if_neg (by omega), if_neg (by omega), if_pos (by omega), Nat.add_sub_cancel]
      have e' : (if i + 1 = 0 then b else if i + 1 = 201 then t0 else if i + 1 < 100 then adK (i + 1 - 1) else adV (i + 1 - 101)) = (if j + 1 = 0 then b else if j + 1 = 201 then t0 else if j + 1 < 100 then adK (j + 1 - 1) else adV (j + 1 - 101)) := e
      rw [g1 i hi, g1 j hj] at e'
      exact hS.2 i j hi hj e'
