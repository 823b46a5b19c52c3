/-! ===== floats: a normal positive number ===== -/
def nF (E m : Nat) : UInt32 := UInt32.ofNat (E * 2 ^ 23 + m)
theorem nF_nat {E m : Nat} (h2 : E ≤ 254) (hm : m < 2 ^ 23) : (nF E m).toNat = E * 2 ^ 23 + m := by
  unfold nF
  exact UInt32.toNat_ofNat_of_lt' (show _ < 4294967296 by omega)
theorem nF_val {E m : Nat} (h1 : 1 ≤ E) (h2 : E ≤ 254) (hm : m < 2 ^ 23) : FP.Core.val32 (nF E m) = .fin false (2 ^ 23 + m) ((E : Int) - 150) := by
  unfold FP.Core.val32
  rw [nF_nat h2 hm]
  have e : E * 2 ^ 23 + m = FP.Core.assemble FP.Core.b32 false E m := by
    show _ = (0 * 2 ^ 8 + E) * 2 ^ 23 + m
    omega
  rw [e, FP.Core.decode_assemble FP.Core.b32 false E m (show E < 256 by omega) (show m < 8388608 by omega), FP.Core.exps_b32, if_neg (show ¬ E = 255 by omega), if_neg (show ¬ E = 0 by omega), FP.Core.qmin_b32, FP.Core.tails_b32]
  congr 1
  omega
theorem nF_ne {E m : Nat} (h1 : 1 ≤ E) (h2 : E ≤ 254) (hm : m < 2 ^ 23) : FP.Core.val32 (nF E m) ≠ .nan := by
  rw [nF_val h1 h2 hm]; exact FP.Core.Datum.noConfusion
theorem nF_fits {E m : Nat} (h1 : 1 ≤ E) (h2 : E ≤ 254) (hm : m < 2 ^ 23) : FP.Core.fits FP.Core.b32 (.fin false (2 ^ 23 + m) ((E : Int) - 150)) := by
  rw [← nF_val h1 h2 hm]; exact FP.Core.val32_fits _
theorem nF_two : FP.Core.val32 FP.fconst2 = .fin false (2 ^ 23) (-22) := by decide +kernel
theorem nF_half {E m : Nat} (h1 : 2 ≤ E) (h2 : E ≤ 254) (hm : m < 2 ^ 23) : FP.fdiv (nF E m) FP.fconst2 = nF (E - 1) m := by
  have key : FP.Core.val32 (FP.Core.fdiv (nF E m) FP.fconst2) = FP.Core.val32 (nF (E - 1) m) := by
    rw [FP.Core.val32_fdiv, nF_val (by omega) h2 hm, nF_two, nF_val (show 1 ≤ E - 1 by omega) (by omega) hm]
    have e : FP.Core.quotient FP.Core.b32 (.fin false (2 ^ 23 + m) ((E : Int) - 150)) (.fin false (2 ^ 23) (-22)) = FP.Core.roundRatio FP.Core.b32 false (2 ^ 23 + m) (2 ^ 23) ((E : Int) - 150 - (-22)) := by
      show (if (2 ^ 23 : Nat) = 0 then (if 2 ^ 23 + m = 0 then FP.Core.Datum.nan else FP.Core.Datum.inf (false != false)) else FP.Core.roundRatio FP.Core.b32 (false != false) (2 ^ 23 + m) (2 ^ 23) ((E : Int) - 150 - (-22))) = _
      rw [if_neg (show ¬ (2 ^ 23 : Nat) = 0 by decide)]
      rfl
    rw [e]
    refine FP.Core.roundRatio_exact FP.Core.good_b32 (Nat.two_pow_pos 23) (nF_fits (by omega) (by omega) hm) ?_
    rw [show ((E : Int) - 150 - (-22) - (((E - 1 : Nat) : Int) - 150)).toNat = 23 by omega, show ((((E - 1 : Nat) : Int) - 150) - ((E : Int) - 150 - (-22))).toNat = 0 by omega, Nat.pow_zero, Nat.mul_one]
  exact FP.Core.val32_inj (by rw [key]; exact nF_ne (by omega) (by omega) hm) key
theorem nF_twice {E m : Nat} (h1 : 1 ≤ E) (h2 : E + 1 ≤ 254) (hm : m < 2 ^ 23) : FP.fmul (nF E m) FP.fconst2 = nF (E + 1) m := by
  have key : FP.Core.val32 (FP.Core.fmul (nF E m) FP.fconst2) = FP.Core.val32 (nF (E + 1) m) := by
    rw [FP.Core.val32_fmul, nF_val h1 (by omega) hm, nF_two, nF_val (by omega) h2 hm]
    show FP.Core.roundRatio FP.Core.b32 false ((2 ^ 23 + m) * 2 ^ 23) 1 ((E : Int) - 150 + (-22)) = _
    refine FP.Core.roundRatio_exact FP.Core.good_b32 Nat.one_pos (nF_fits (by omega) h2 hm) ?_
    rw [show ((E : Int) - 150 + (-22) - (((E + 1 : Nat) : Int) - 150)).toNat = 0 by omega, show ((((E + 1 : Nat) : Int) - 150) - ((E : Int) - 150 + (-22))).toNat = 23 by omega, Nat.pow_zero, Nat.mul_one, Nat.mul_one]
  exact FP.Core.val32_inj (by rw [key]; exact nF_ne (by omega) h2 hm) key
theorem fgf_ok {x : UInt32} {β : Type} {k : UInt32 → Option β} (h : FP.Core.val32 x ≠ .nan) : fgf x k = k x := by
  unfold fgf
  refine if_pos ?_
  rw [UInt32.le_iff_toNat_le, FP.Core.mask_toNat32]
  exact (FP.Core.ne_nan32 x).mp h
theorem nF_key {E m : Nat} (h2 : E ≤ 254) (hm : m < 2 ^ 23) : FP.Core.fkey (nF E m) = ((E * 2 ^ 23 + m : Nat) : Int) := by
  unfold FP.Core.fkey
  rw [nF_nat h2 hm, if_neg (by omega)]
theorem nF_cmp {E m : Nat} (h1 : 1 ≤ E) (h2 : E ≤ 254) (hm : m < 2 ^ 23) {y : UInt32} {z : Int} (hy : FP.Core.val32 y ≠ .nan) (hz : FP.Core.fkey y = z) : FP.fcmp (nF E m) y = some (compare ((E * 2 ^ 23 + m : Nat) : Int) z) := by
  have e := FP.Core.fcmp_key (nF_ne h1 h2 hm) hy
  rw [nF_key h2 hm, hz] at e
  exact e
theorem nF_c2 {E m : Nat} (h1 : 1 ≤ E) (h2 : E ≤ 254) (hm : m < 2 ^ 23) : (Op.cmpValue (FP.fcmp (nF E m) FP.fconst2) .l < 0) ↔ E < 128 := by
  rw [nF_cmp h1 h2 hm (y := FP.fconst2) (z := 1073741824) (by rw [nF_two]; exact FP.Core.Datum.noConfusion) (by decide +kernel), cv_lt]
  omega
theorem nF_c1 {E m : Nat} (h1 : 1 ≤ E) (h2 : E ≤ 254) (hm : m < 2 ^ 23) : (0 ≤ Op.cmpValue (FP.fcmp (nF E m) FP.fconst1) .g) ↔ 127 ≤ E := by
  rw [nF_cmp h1 h2 hm (y := FP.fconst1) (z := 1065353216) (by decide +kernel) (by decide +kernel), cv_ge]
  omega
theorem nF_c0 {E m : Nat} (h1 : 1 ≤ E) (h2 : E ≤ 254) (hm : m < 2 ^ 23) : (0 < Op.cmpValue (FP.fcmp (nF E m) FP.fconst0) .l) ↔ True := by
  rw [nF_cmp h1 h2 hm (y := FP.fconst0) (z := 0) (by decide +kernel) (by decide +kernel), cv_gt]
  exact iff_true_intro (by omega)
theorem nF_down {m : Nat} (hm : m < 2 ^ 23) (k : UInt32 → Int32 → Int32 → Option Int32) : ∀ d c p f, d ≤ 127 → d + c ≤ 200 → d < f → m_X7_bitsOfFloat_L15 f (nF (127 + d) m) (nI p) (nI c) k = k (nF 127 m) (nI (p + d)) (nI (c + d)) := by
  intro d
  induction d with
  | zero =>
    intro c p f h1 h2 h3
    obtain ⟨f, rfl⟩ : ∃ g, f = g + 1 := ⟨f - 1, by omega⟩
    have hc := (nF_c2 (m := m) (show 1 ≤ 127 by omega) (by omega) hm).mpr (by omega)
    rw [m_X7_bitsOfFloat_L15]
    by_cases c0 : (200 : Int32) ≤ nI c
    · rw [if_pos c0]; rfl
    · rw [if_neg c0]; exact if_pos hc
  | succ d ih =>
    intro c p f h1 h2 h3
    obtain ⟨f, rfl⟩ : ∃ g, f = g + 1 := ⟨f - 1, by omega⟩
    have hc : ¬ (Op.cmpValue (FP.fcmp (nF (127 + (d + 1)) m) FP.fconst2) .l < 0) := fun q => by
      have := (nF_c2 (m := m) (show 1 ≤ 127 + (d + 1) by omega) (by omega) hm).mp q
      omega
    have c0 : ¬ (200 : Int32) ≤ nI c := by rw [l_le (k := 200) (by omega) (by omega)]; omega
    have e := nF_half (E := 127 + (d + 1)) (m := m) (by omega) (by omega) hm
    rw [m_X7_bitsOfFloat_L15, if_neg c0, if_neg hc, e, fgf_ok (nF_ne (E := 127 + (d + 1) - 1) (by omega) (by omega) hm), nI_1, nI_1]
    have := ih (c + 1) (p + 1) f (by omega) (by omega) (by omega)
    rw [show 127 + (d + 1) - 1 = 127 + d by omega, this, show p + 1 + d = p + (d + 1) by omega, show c + 1 + d = c + (d + 1) by omega]
theorem nF_stay {E m : Nat} (h1 : 1 ≤ E) (h2 : E ≤ 127) (hm : m < 2 ^ 23) (k : UInt32 → Int32 → Int32 → Option Int32) (p : Int32) : m_X7_bitsOfFloat_L15 FU (nF E m) p 0 k = k (nF E m) p 0 := by
  obtain ⟨f, hf⟩ : ∃ f, FU = f + 1 := ⟨4999, rfl⟩
  have hc := (nF_c2 (m := m) h1 (by omega) hm).mpr (by omega)
  rw [hf, m_X7_bitsOfFloat_L15, if_neg (show ¬ (200 : Int32) ≤ 0 by decide)]
  exact if_pos hc
theorem nF_up {m : Nat} (hm : m < 2 ^ 23) (k : UInt32 → Int32 → Int32 → Option Int32) : ∀ d E c p f, E + d = 127 → 1 ≤ E → d + c ≤ 200 → d < f → d ≤ p → m_X7_bitsOfFloat_L43 f (nF E m) (nI p) (nI c) k = k (nF 127 m) (nI (p - d)) (nI (c + d)) := by
  intro d
  induction d with
  | zero =>
    intro E c p f h0 h1 h2 h3 h4
    obtain ⟨f, rfl⟩ : ∃ g, f = g + 1 := ⟨f - 1, by omega⟩
    obtain rfl : E = 127 := by omega
    have hc := (nF_c1 (m := m) (show 1 ≤ 127 by omega) (by omega) hm).mpr (by omega)
    rw [m_X7_bitsOfFloat_L43]
    by_cases c0 : (200 : Int32) ≤ nI c
    · rw [if_pos c0]; rfl
    · rw [if_neg c0]; exact if_pos hc
  | succ d ih =>
    intro E c p f h0 h1 h2 h3 h4
    obtain ⟨f, rfl⟩ : ∃ g, f = g + 1 := ⟨f - 1, by omega⟩
    have hc : ¬ (0 ≤ Op.cmpValue (FP.fcmp (nF E m) FP.fconst1) .g) := fun q => by
      have := (nF_c1 (m := m) h1 (by omega) hm).mp q
      omega
    have c0 : ¬ (200 : Int32) ≤ nI c := by rw [l_le (k := 200) (by omega) (by omega)]; omega
    have e := nF_twice (E := E) (m := m) h1 (by omega) hm
    have e1 : nI p + (-1) = nI (p - 1) := by rw [← sub_m1]; exact n_sub1 (show 0 < p by omega)
    rw [m_X7_bitsOfFloat_L43, if_neg c0, if_neg hc, e, fgf_ok (nF_ne (E := E + 1) (by omega) (by omega) hm), e1, nI_1]
    have := ih (E + 1) (c + 1) (p - 1) f (by omega) (by omega) (by omega) (by omega) (by omega)
    rw [this, show p - 1 - d = p - (d + 1) by omega, show c + 1 + d = c + (d + 1) by omega]
theorem nF_one : FP.Core.val32 FP.fconst1 = .fin false (2 ^ 23) (-23) := by decide +kernel
theorem nF_big : FP.Core.val32 1258291200 = .fin false (2 ^ 23) 0 := by decide +kernel
theorem nF_rest {m : Nat} (hm : m < 2 ^ 23) : FP.Core.val32 (FP.fsub (nF 127 m) FP.fconst1) ≠ .nan ∧ FP.Core.FInt (m : Int) (FP.fmul (FP.fsub (nF 127 m) FP.fconst1) 1258291200) := by
  have hv : FP.Core.sumUnits false (2 ^ 23 + m) (-23) true (2 ^ 23) (-23) (min (-23) (-23)) = (m : Int) := by
    show (((2 ^ 23 + m) * 2 ^ 0 : Nat) : Int) + -(((2 ^ 23) * 2 ^ 0 : Nat) : Int) = (m : Int)
    omega
  have hs : FP.Core.exactSum (.fin false (2 ^ 23 + m) (-23)) (.fin true (2 ^ 23) (-23)) = .fin false m (-23) := by
    show FP.Core.Datum.fin (FP.Core.sumSign false true (FP.Core.sumUnits false (2 ^ 23 + m) (-23) true (2 ^ 23) (-23) (min (-23) (-23)))) (FP.Core.sumUnits false (2 ^ 23 + m) (-23) true (2 ^ 23) (-23) (min (-23) (-23))).natAbs (-23) = _
    rw [hv]
    have e : FP.Core.sumSign false true (m : Int) = false := by
      unfold FP.Core.sumSign
      by_cases c : (m : Int) = 0
      · rw [if_pos c]; rfl
      · rw [if_neg c]; exact decide_eq_false (by omega)
    rw [e]; rfl
  have hval : FP.Core.val32 (FP.Core.fsub (nF 127 m) FP.fconst1) = FP.Core.round FP.Core.b32 (.fin false m (-23)) := by
    rw [FP.Core.val32_fsub, nF_val (by omega) (by omega) hm, nF_one]
    exact congrArg (FP.Core.round FP.Core.b32) hs
  obtain ⟨c, q, h1, h2⟩ := FP.Core.round_exact FP.Core.good_b32 false (c := m) (q := -23) (show m < 2 ^ 24 by omega) (by rw [FP.Core.qmin_b32]; omega) (by decide)
  rw [h1] at hval
  have hq : (-149 : Int) ≤ q := by
    have := FP.Core.val32_fits (FP.Core.fsub (nF 127 m) FP.fconst1)
    rw [hval] at this
    have h3 := this.2.1
    rw [FP.Core.qmin_b32] at h3
    exact h3
  refine ⟨by show FP.Core.val32 (FP.Core.fsub (nF 127 m) FP.fconst1) ≠ _; rw [hval]; exact FP.Core.Datum.noConfusion, ?_⟩
  show FP.Core.Whole (m : Int) (FP.Core.val32 (FP.Core.fmul (FP.Core.fsub (nF 127 m) FP.fconst1) 1258291200))
  rw [FP.Core.val32_fmul, hval, nF_big]
  refine FP.Core.whole_round FP.Core.good_b32 FP.Core.wide_b32 (show (m : Int).natAbs ≤ 2 ^ 24 by omega) ?_
  show (((c * 2 ^ 23) * 2 ^ (q + 0).toNat : Nat) : Int) = (m : Int) * ((2 ^ (-(q + 0)).toNat : Nat) : Int)
  have h4 : c * 2 ^ (23 + q.toNat) = m * 2 ^ (-q).toNat := pw_cancel (a := (q - FP.Core.b32.qmin).toNat) (b := (-23 - FP.Core.b32.qmin).toNat) h2 (by rw [FP.Core.qmin_b32]; omega)
  rw [Int.add_zero, ← Int.natCast_mul, ← h4, Nat.pow_add 2 23 q.toNat, Nat.mul_assoc]
theorem nF_bits {E m : Nat} (h2 : E ≤ 254) (hm : m < 2 ^ 23) : (nI E <<< ((23 : Int32) &&& 31)) ||| nI m = (nF E m).toInt32 := by
  apply Int32.toBitVec_inj.mp
  apply BitVec.eq_of_toNat_eq
  rw [Int32.toBitVec_or, Int32.toBitVec_shiftLeft, BitVec.toNat_or]
  have e1 : ((((23 : Int32) &&& 31) : Int32).toBitVec.smod 32).toNat = 23 := by decide +kernel
  have e2 : (nI E).toBitVec.toNat = E := by
    show (BitVec.ofNat 32 E).toNat = E
    rw [BitVec.toNat_ofNat]; exact Nat.mod_eq_of_lt (by omega)
  have e3 : (nI m).toBitVec.toNat = m := by
    show (BitVec.ofNat 32 m).toNat = m
    rw [BitVec.toNat_ofNat]; exact Nat.mod_eq_of_lt (by omega)
  have e4 : ((nF E m).toInt32).toBitVec.toNat = E * 2 ^ 23 + m := nF_nat h2 hm
  have e5 : E <<< 23 < 2 ^ 32 := by rw [Nat.shiftLeft_eq]; omega
  show ((nI E).toBitVec <<< ((((23 : Int32) &&& 31) : Int32).toBitVec.smod 32).toNat).toNat ||| _ = _
  rw [e1, BitVec.toNat_shiftLeft, e2, e3, e4, Nat.mod_eq_of_lt e5, ← Nat.shiftLeft_add_eq_or_of_lt hm, Nat.shiftLeft_eq]
def NF (x : UInt32) : Prop := x = 0 ∨ ∃ E m, 1 ≤ E ∧ E ≤ 254 ∧ m < 2 ^ 23 ∧ x = nF E m
theorem NF_ne {x : UInt32} (h : NF x) : FP.Core.val32 x ≠ .nan := by
  rcases h with rfl | ⟨E, m, h1, h2, hm, rfl⟩
  · decide +kernel
  · exact nF_ne h1 h2 hm
theorem NF_told {x : UInt32} (h : NF x) : m_X7_bitsOfFloat x = some x.toInt32 := by
  rcases h with rfl | ⟨E, m, h1, h2, hm, rfl⟩
  · unfold m_X7_bitsOfFloat
    have c0 : ¬ 0 < Op.cmpValue (FP.fcmp 0 FP.fconst0) .l := by decide +kernel
    rw [if_neg c0]; rfl
  unfold m_X7_bitsOfFloat
  rw [if_pos ((nF_c0 h1 h2 hm).mpr trivial)]
  obtain ⟨q1, q2⟩ := nF_rest hm
  have q3 : FP.Core.f2i (FP.fmul (FP.fsub (nF 127 m) FP.fconst1) 1258291200) = nI m := FP.Core.f2i_int (by
    have e : (nI m).toInt = (m : Int) := nI_toInt (by omega)
    rw [e]; exact q2)
  have q4 : FP.Core.val32 (FP.fmul (FP.fsub (nF 127 m) FP.fconst1) 1258291200) ≠ .nan := FP.Core.FInt_ne_nan q2
  by_cases c : 127 ≤ E
  · have e := nF_down hm (fun x4 x5 x6 => m_X7_bitsOfFloat_L43 FU x4 x5 (0 : Int32) fun x7 x8 x9 =>
  fgf (FP.fsub x7 FP.fconst1) fun v_3 =>
  fgf (FP.fmul v_3 (1258291200 : UInt32)) fun v_4 =>
  some ((x8 <<< ((23 : Int32) &&& 31)) ||| (FP.f2i v_4))) (E - 127) 0 127 FU (by omega) (by omega) (by unfold FU; omega)
    rw [show 127 + (E - 127) = E by omega] at e
    refine Eq.trans e ?_
    have e2 := nF_up hm (fun x7 x8 x9 =>
  fgf (FP.fsub x7 FP.fconst1) fun v_3 =>
  fgf (FP.fmul v_3 (1258291200 : UInt32)) fun v_4 =>
  some ((x8 <<< ((23 : Int32) &&& 31)) ||| (FP.f2i v_4))) 0 127 0 E FU (by omega) (by omega) (by omega) (by unfold FU; omega) (by omega)
    refine Eq.trans e2 ?_
    show (fgf (FP.fsub (nF 127 m) FP.fconst1) fun v_3 => _) = _
    rw [fgf_ok q1, fgf_ok q4]
    show some ((nI (E - 0) <<< ((23 : Int32) &&& 31)) ||| FP.Core.f2i _) = _
    rw [q3, Nat.sub_zero, nF_bits h2 hm]
  · rw [nF_stay h1 (by omega) hm]
    have e2 := nF_up hm (fun x7 x8 x9 =>
  fgf (FP.fsub x7 FP.fconst1) fun v_3 =>
  fgf (FP.fmul v_3 (1258291200 : UInt32)) fun v_4 =>
  some ((x8 <<< ((23 : Int32) &&& 31)) ||| (FP.f2i v_4))) (127 - E) E 0 127 FU (by omega) h1 (by omega) (by unfold FU; omega) (by omega)
    refine Eq.trans e2 ?_
    show (fgf (FP.fsub (nF 127 m) FP.fconst1) fun v_3 => _) = _
    rw [fgf_ok q1, fgf_ok q4]
    show some ((nI (127 - (127 - E)) <<< ((23 : Int32) &&& 31)) ||| FP.Core.f2i _) = _
    rw [q3, show 127 - (127 - E) = E by omega, nF_bits h2 hm]
theorem NF_jdk {x : UInt32} (h : NF x) : m_Jxf58ca_floatToIntBits_5c35a x = some x.toInt32 := by
  unfold m_Jxf58ca_floatToIntBits_5c35a m_Jxf58ca_isNaN_12338
  have e : FP.fcmp x x = some .eq := FP.Core.fcmp_self (NF_ne h)
  rw [e, if_pos (show Op.cmpValue (some .eq) .l = 0 by decide), cl_s, if_pos rfl]
