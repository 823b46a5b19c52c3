/-! ===== what the law is given at its start: classes, arrays, statics, strings ===== -/
theorem tb_in {w : Cond} (i : Nat) (h : lw_tbl[i]? = some w) : w ∈ lw_tbl := List.mem_of_getElem? h
theorem start_arr {args : Array Value} {s : State} {ty : FieldType} (h : (Cond.arrayClass ty).before args s = true) : ∃ cA : ClassId, ArrOfT s cA ty ∧ s.vm.findClass ("[" ++ ty.toString) = some cA := by
  obtain ⟨cA, kA, comp, h1, h2, h3⟩ := Cond.arrayClass_spec h
  exact ⟨cA, fun n z => ⟨fun k h => (by cases h), kA, h2, comp, h3⟩, h1⟩
abbrev FLAT : List Cond := flatC (Jvm.Cond.and given_1 narrow_1)
abbrev tmS (i : Nat) : Term := .string "DigOrder$Words" (([55, 61, 63, 65, 67] : List Nat).getD i 0)
theorem fl_LEAST : (Cond.arrayOf (.static "DigOrder" "LEAST" "[I") .int) ∈ FLAT ∧ (Cond.eq (.length (.static "DigOrder" "LEAST" "[I")) (.int 5)) ∈ FLAT ∧ ∀ j, j < 5 → (Cond.eq (.elem (.static "DigOrder" "LEAST" "[I") (.int (Int32.ofNat j))) (.int (tabL j))) ∈ FLAT := by decide +kernel
theorem fl_GREATEST : (Cond.arrayOf (.static "DigOrder" "GREATEST" "[I") .int) ∈ FLAT ∧ (Cond.eq (.length (.static "DigOrder" "GREATEST" "[I")) (.int 5)) ∈ FLAT ∧ ∀ j, j < 5 → (Cond.eq (.elem (.static "DigOrder" "GREATEST" "[I") (.int (Int32.ofNat j))) (.int (tabG j))) ∈ FLAT := by decide +kernel
theorem fl_misc : (Cond.eq (.static "java/lang/String" "COMPACT_STRINGS" "Z") (.int 1)) ∈ FLAT ∧ (Cond.isRef (.static "jdk/internal/util/Preconditions" "SIOOBE_FORMATTER" "Ljava/util/function/BiFunction;")) ∈ FLAT := by decide +kernel
theorem fl_s1 : ∀ i, i < 5 → (Cond.exactly (tmS i) "java/lang/String") ∈ FLAT ∧ (Cond.eq (.field (tmS i) "java/lang/String" "coder" "B") (.int 0)) ∈ FLAT ∧ (Cond.arrayOf (.field (tmS i) "java/lang/String" "value" "[B") .byte) ∈ FLAT ∧ (Cond.eq (.length (.field (tmS i) "java/lang/String" "value" "[B")) (.int (Int32.ofNat (slen.getD i 0)))) ∈ FLAT := by decide +kernel
theorem fl_s2 : ∀ i, i < 5 → ∀ j, j < slen.getD i 0 → (Cond.eq (.elem (.field (tmS i) "java/lang/String" "value" "[B") (.int (Int32.ofNat j))) (.int ((sbyt.getD i []).getD j 0))) ∈ FLAT := by decide +kernel
theorem fl_s3 : ∀ i, i < 5 → ∀ j, j < 5 → i ≠ j → (Cond.not (Cond.eq (tmS i) (tmS j))) ∈ FLAT ∨ (Cond.not (Cond.eq (tmS j) (tmS i))) ∈ FLAT := by decide +kernel
theorem nest_M : nestM.map (fun q => Cond.methodLinkNest q.1 q.2.1 q.2.2.1 q.2.2.2) = [180, 218, 235, 250, 287, 395, 438, 540, 543, 563, 681, 828].filterMap (fun i => lw_tbl[i]?) := by decide +kernel
theorem nest_F : nestF.map (fun q => Cond.fieldLinkNest q.1 q.2.1 q.2.2.1 q.2.2.2.1 q.2.2.2.2.1 q.2.2.2.2.2) = [364, 365].filterMap (fun i => lw_tbl[i]?) := by decide +kernel
theorem in_tbl {ws : List Cond} {ps : List Nat} (hp : ws = ps.filterMap (fun i => lw_tbl[i]?)) : ∀ w ∈ ws, w ∈ lw_tbl := by
  intro w hw
  rw [hp] at hw
  obtain ⟨i, -, hi⟩ := List.mem_filterMap.mp hw
  exact List.mem_of_getElem? hi
theorem start_NW {s : State} {b : Nat} (hts0 : ∀ w ∈ lw_tbl, w.before #[Value.ref b] s = true) : NW s := by
  refine ⟨fun q hq => ?_, fun q hq => ?_⟩
  · exact va_Nw.of rfl (hts0 _ (in_tbl nest_M _ (List.mem_map.mpr ⟨q, hq, rfl⟩)))
  · exact va_Nw.of rfl (hts0 _ (in_tbl nest_F _ (List.mem_map.mpr ⟨q, hq, rfl⟩)))
theorem start_K {s : State} {b : Nat} (hts : ∀ w ∈ BIG, w.before #[Value.ref b] s = true) : ∃ (dC : Nat → ClassId) (dI : Nat → Nat → Nat), ∀ (k : Nat) (q : vw_C), vwCl[k]? = some q → u_Kn s q.1 q.2.1 q.2.2 (dC k) (dI k) := by
  have h : ∀ k : Nat, ∃ x : ClassId × (Nat → Nat), ∀ q : vw_C, vwCl[k]? = some q → u_Kn s q.1 q.2.1 q.2.2 x.1 x.2 := by
    intro k
    obtain ⟨c0, i0, k0⟩ := u_known hts uX0 (hts _ bw301)
    match k with
    | 0 => exact ⟨(c0, i0), fun q hq => by cases hq; exact k0⟩
    | 1 => obtain ⟨c1, i1, k1⟩ := u_known hts uX1 (hts _ bw286); exact ⟨(c1, i1), fun q hq => by cases hq; exact k1⟩
    | 2 => obtain ⟨c1, i1, k1⟩ := u_known hts uX2 (hts _ bw103); exact ⟨(c1, i1), fun q hq => by cases hq; exact k1⟩
    | 3 => obtain ⟨c1, i1, k1⟩ := u_known hts uX3 (hts _ bw234); exact ⟨(c1, i1), fun q hq => by cases hq; exact k1⟩
    | 4 => obtain ⟨c1, i1, k1⟩ := u_known hts uX4 (hts _ bw217); exact ⟨(c1, i1), fun q hq => by cases hq; exact k1⟩
    | 5 => obtain ⟨c1, i1, k1⟩ := u_known hts uX5 (hts _ bw179); exact ⟨(c1, i1), fun q hq => by cases hq; exact k1⟩
    | 6 => obtain ⟨c1, i1, k1⟩ := u_known hts uX6 (hts _ bw249); exact ⟨(c1, i1), fun q hq => by cases hq; exact k1⟩
    | 7 => obtain ⟨c1, i1, k1⟩ := u_known hts uX7 (hts _ (big_of 95 (by decide +kernel) (by decide +kernel) : Cond.instantiable RX7 10 ∈ BIG)); exact ⟨(c1, i1), fun q hq => by cases hq; exact k1⟩
    | 8 => obtain ⟨c1, i1, k1⟩ := u_known hts uX8 (hts _ (big_of 975 (by decide +kernel) (by decide +kernel) : Cond.instantiable RX8 48 ∈ BIG)); exact ⟨(c1, i1), fun q hq => by cases hq; exact k1⟩
    | n + 9 => exact ⟨(c0, i0), fun q hq => by simp at hq⟩
  obtain ⟨f, hf⟩ := Classical.axiomOfChoice h
  exact ⟨fun k => (f k).1, fun k => (f k).2, hf⟩
theorem start_GL {s : State} {b : Nat} (hts0 : ∀ w ∈ lw_tbl, w.before #[Value.ref b] s = true) (hgv : (Jvm.Cond.and given_1 narrow_1).before #[Value.ref b] s = true) : ∃ G : GT, va_K (gD G) vwCl (gT G) s ∧ GL G (fun q => s.heap.size ≤ q) s s.heap := by
  have hts : ∀ w ∈ BIG, w.before #[Value.ref b] s = true := fun w h => hts0 w (List.mem_filter.mp h).1
  have hs : ∀ w ∈ FLAT, w.before #[Value.ref b] s = true := flat_of_before _ hgv
  have hA : ∀ a : Nat, a < s.heap.size → ¬ (fun q : Nat => s.heap.size ≤ q) a := fun a h => Nat.not_le.mpr h
  obtain ⟨dC, dI, hK⟩ := start_K hts
  obtain ⟨cI, i1, i2⟩ := start_arr (hts _ bw176)
  obtain ⟨cJ, j1, j2⟩ := start_arr (hts _ bw232)
  obtain ⟨cZ, z1, z2⟩ := start_arr (hts _ bw177)
  obtain ⟨tL, l1, l2⟩ := va_Tof (N := 5) (f := fun j => .int (tabL j)) (by omega) (hs _ fl_LEAST.1) (va_eqt (hs _ fl_LEAST.2.1)) (fun j hj => va_eqt (hs _ (fl_LEAST.2.2 j hj))) hA
  obtain ⟨tG, g1, g2⟩ := va_Tof (N := 5) (f := fun j => .int (tabG j)) (by omega) (hs _ fl_GREATEST.1) (va_eqt (hs _ fl_GREATEST.2.1)) (fun j hj => va_eqt (hs _ (fl_GREATEST.2.2 j hj))) hA
  have w1 := va_Zof (hts0 (Cond.laysStatic "DigOrder" "LEAST" "[I") (tb_in 353 (by decide +kernel))) (hts0 (Cond.initialized "DigOrder") (tb_in 76 (by decide +kernel))) l1 hA
  have w2 := va_Zof (hts0 (Cond.laysStatic "DigOrder" "GREATEST" "[I") (tb_in 355 (by decide +kernel))) (hts0 (Cond.initialized "DigOrder") (tb_in 76 (by decide +kernel))) g1 hA
  have w3 := va_Zof (hts0 (Cond.laysStatic "java/lang/String" "COMPACT_STRINGS" "Z") (tb_in 766 (by decide +kernel))) (hts0 (Cond.initialized "java/lang/String") (tb_in 89 (by decide +kernel))) (va_eqi (hs _ fl_misc.1)) hA
  have w4 := va_Zqof (hts0 (Cond.laysStatic "jdk/internal/util/Preconditions" "SIOOBE_FORMATTER" "Ljava/util/function/BiFunction;") (tb_in 782 (by decide +kernel))) (hts0 (Cond.initialized "jdk/internal/util/Preconditions") (tb_in 91 (by decide +kernel))) (hs _ fl_misc.2) hA
  obtain ⟨adK, adV, s1, s2⟩ := vk_Sof (N := 5) (tm := tmS) (len := slen) (byt := sbyt) (by decide +kernel) (fun i hi => hs _ (fl_s1 i hi).1) (fun i hi => hs _ (fl_s1 i hi).2.1) (fun i hi => hs _ (fl_s1 i hi).2.2.1) (fun i hi => hs _ (fl_s1 i hi).2.2.2) (fun i hi j hj => hs _ (fl_s2 i hi j hj)) (fun i j hi hj hne => by
    rcases fl_s3 i hi j hj hne with h | h
    · exact Or.inl (hs _ h)
    · exact Or.inr (hs _ h)) hA
  have hR : ∀ q ∈ strs, vk_R "DigOrder$Words" q.1 q.2.1 (adK q.2.2) s := by
    intro q hq
    unfold strs at hq
    simp only [List.mem_cons, List.not_mem_nil, or_false] at hq
    rcases hq with rfl | rfl | rfl | rfl | rfl
    · exact vk_R.of (hts0 _ (tb_in 752 (by decide +kernel))) (s2 0 (by omega))
    · exact vk_R.of (hts0 _ (tb_in 805 (by decide +kernel))) (s2 1 (by omega))
    · exact vk_R.of (hts0 _ (tb_in 806 (by decide +kernel))) (s2 2 (by omega))
    · exact vk_R.of (hts0 _ (tb_in 807 (by decide +kernel))) (s2 3 (by omega))
    · exact vk_R.of (hts0 _ (tb_in 808 (by decide +kernel))) (s2 4 (by omega))
  refine ⟨(dC, dI, cI, cJ, cZ, tL, tG, adK, adV), ⟨hK, fun k q hq => ?_⟩, ⟨w1, l2⟩, ⟨w2, g2⟩, w3, w4, s1, hR, start_NW hts0⟩
  match k, hq with
  | 0, hq => cases hq; exact ⟨i1, i2⟩
  | 1, hq => cases hq; exact ⟨j1, j2⟩
  | 2, hq => cases hq; exact ⟨z1, z2⟩
  | n + 3, hq => simp [gT] at hq
