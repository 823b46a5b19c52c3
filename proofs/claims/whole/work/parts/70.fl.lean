/-! ===== floats: comparing, cancelling ===== -/
theorem cv_lt {x y : Int} {o} : (Op.cmpValue (some (compare x y)) o < 0) ↔ x < y := by
  rcases h : compare x y with _ | _ | _
  · have h2 := (FP.Core.compare_lt_iff x y).mp h
    show ((-1 : Int32) < 0) ↔ x < y
    exact ⟨fun _ => h2, fun _ => by decide⟩
  · have h2 := (FP.Core.compare_eq_iff x y).mp h
    show ((0 : Int32) < 0) ↔ x < y
    exact ⟨fun q => absurd q (by decide), fun q => by omega⟩
  · have h2 := (FP.Core.compare_gt_iff x y).mp h
    show ((1 : Int32) < 0) ↔ x < y
    exact ⟨fun q => absurd q (by decide), fun q => by omega⟩
theorem cv_ge {x y : Int} {o} : (0 ≤ Op.cmpValue (some (compare x y)) o) ↔ ¬ x < y := by
  rcases h : compare x y with _ | _ | _
  · have h2 := (FP.Core.compare_lt_iff x y).mp h
    show (0 ≤ (-1 : Int32)) ↔ ¬ x < y
    exact ⟨fun q => absurd q (by decide), fun q => absurd h2 q⟩
  · have h2 := (FP.Core.compare_eq_iff x y).mp h
    show (0 ≤ (0 : Int32)) ↔ ¬ x < y
    exact ⟨fun _ => by omega, fun _ => by decide⟩
  · have h2 := (FP.Core.compare_gt_iff x y).mp h
    show (0 ≤ (1 : Int32)) ↔ ¬ x < y
    exact ⟨fun _ => by omega, fun _ => by decide⟩
theorem cv_gt {x y : Int} {o} : (0 < Op.cmpValue (some (compare x y)) o) ↔ y < x := by
  rcases h : compare x y with _ | _ | _
  · have h2 := (FP.Core.compare_lt_iff x y).mp h
    show (0 < (-1 : Int32)) ↔ y < x
    exact ⟨fun q => absurd q (by decide), fun q => by omega⟩
  · have h2 := (FP.Core.compare_eq_iff x y).mp h
    show (0 < (0 : Int32)) ↔ y < x
    exact ⟨fun q => absurd q (by decide), fun q => by omega⟩
  · have h2 := (FP.Core.compare_gt_iff x y).mp h
    show (0 < (1 : Int32)) ↔ y < x
    exact ⟨fun _ => h2, fun _ => by decide⟩
theorem pw_cancel {c m a b d e : Nat} (h : c * 2 ^ a = m * 2 ^ b) (he : a + e = b + d) : c * 2 ^ d = m * 2 ^ e := by
  refine Nat.eq_of_mul_eq_mul_right (Nat.two_pow_pos b) ?_
  calc c * 2 ^ d * 2 ^ b = c * 2 ^ (b + d) := by rw [Nat.mul_assoc, ← Nat.pow_add, Nat.add_comm d b]
    _ = c * 2 ^ (a + e) := by rw [he]
    _ = m * 2 ^ e * 2 ^ b := by rw [Nat.pow_add, ← Nat.mul_assoc, h, Nat.mul_assoc, Nat.mul_assoc, Nat.mul_comm (2 ^ b)]
/-! ===== doubles: a normal positive number ===== -/
def nD (E m : Nat) : UInt64 := UInt64.ofNat (E * 2 ^ 52 + m)
theorem nD_nat {E m : Nat} (h2 : E ≤ 2046) (hm : m < 2 ^ 52) : (nD E m).toNat = E * 2 ^ 52 + m := by
  unfold nD
  exact UInt64.toNat_ofNat_of_lt' (show _ < 18446744073709551616 by omega)
theorem nD_val {E m : Nat} (h1 : 1 ≤ E) (h2 : E ≤ 2046) (hm : m < 2 ^ 52) : FP.Core.val64 (nD E m) = .fin false (2 ^ 52 + m) ((E : Int) - 1075) := by
  unfold FP.Core.val64
  rw [nD_nat h2 hm]
  have e : E * 2 ^ 52 + m = FP.Core.assemble FP.Core.b64 false E m := by
    show _ = (0 * 2 ^ 11 + E) * 2 ^ 52 + m
    omega
  rw [e, FP.Core.decode_assemble FP.Core.b64 false E m (show E < 2048 by omega) (show m < 4503599627370496 by omega), FP.Core.exps_b64, if_neg (show ¬ E = 2047 by omega), if_neg (show ¬ E = 0 by omega), FP.Core.qmin_b64, FP.Core.tails_b64]
  congr 1
  omega
theorem nD_ne {E m : Nat} (h1 : 1 ≤ E) (h2 : E ≤ 2046) (hm : m < 2 ^ 52) : FP.Core.val64 (nD E m) ≠ .nan := by
  rw [nD_val h1 h2 hm]; exact FP.Core.Datum.noConfusion
theorem nD_fits {E m : Nat} (h1 : 1 ≤ E) (h2 : E ≤ 2046) (hm : m < 2 ^ 52) : FP.Core.fits FP.Core.b64 (.fin false (2 ^ 52 + m) ((E : Int) - 1075)) := by
  rw [← nD_val h1 h2 hm]; exact FP.Core.val64_fits _
theorem nD_two : FP.Core.val64 4611686018427387904 = .fin false (2 ^ 52) (-51) := by decide +kernel
theorem nD_half {E m : Nat} (h1 : 2 ≤ E) (h2 : E ≤ 2046) (hm : m < 2 ^ 52) : FP.ddiv (nD E m) 4611686018427387904 = nD (E - 1) m := by
  have key : FP.Core.val64 (FP.Core.ddiv (nD E m) 4611686018427387904) = FP.Core.val64 (nD (E - 1) m) := by
    rw [FP.Core.val64_ddiv, nD_val (by omega) h2 hm, nD_two, nD_val (show 1 ≤ E - 1 by omega) (by omega) hm]
    have e : FP.Core.quotient FP.Core.b64 (.fin false (2 ^ 52 + m) ((E : Int) - 1075)) (.fin false (2 ^ 52) (-51)) = FP.Core.roundRatio FP.Core.b64 false (2 ^ 52 + m) (2 ^ 52) ((E : Int) - 1075 - (-51)) := by
      show (if (2 ^ 52 : Nat) = 0 then (if 2 ^ 52 + m = 0 then FP.Core.Datum.nan else FP.Core.Datum.inf (false != false)) else FP.Core.roundRatio FP.Core.b64 (false != false) (2 ^ 52 + m) (2 ^ 52) ((E : Int) - 1075 - (-51))) = _
      rw [if_neg (show ¬ (2 ^ 52 : Nat) = 0 by decide)]
      rfl
    rw [e]
    refine FP.Core.roundRatio_exact FP.Core.good_b64 (Nat.two_pow_pos 52) (nD_fits (by omega) (by omega) hm) ?_
    rw [show ((E : Int) - 1075 - (-51) - (((E - 1 : Nat) : Int) - 1075)).toNat = 52 by omega, show ((((E - 1 : Nat) : Int) - 1075) - ((E : Int) - 1075 - (-51))).toNat = 0 by omega, Nat.pow_zero, Nat.mul_one]
  exact FP.Core.val64_inj (by rw [key]; exact nD_ne (by omega) (by omega) hm) key
theorem nD_twice {E m : Nat} (h1 : 1 ≤ E) (h2 : E + 1 ≤ 2046) (hm : m < 2 ^ 52) : FP.dmul (nD E m) 4611686018427387904 = nD (E + 1) m := by
  have key : FP.Core.val64 (FP.Core.dmul (nD E m) 4611686018427387904) = FP.Core.val64 (nD (E + 1) m) := by
    rw [FP.Core.val64_dmul, nD_val h1 (by omega) hm, nD_two, nD_val (by omega) h2 hm]
    show FP.Core.roundRatio FP.Core.b64 false ((2 ^ 52 + m) * 2 ^ 52) 1 ((E : Int) - 1075 + (-51)) = _
    refine FP.Core.roundRatio_exact FP.Core.good_b64 Nat.one_pos (nD_fits (by omega) h2 hm) ?_
    rw [show ((E : Int) - 1075 + (-51) - (((E + 1 : Nat) : Int) - 1075)).toNat = 0 by omega, show ((((E + 1 : Nat) : Int) - 1075) - ((E : Int) - 1075 + (-51))).toNat = 52 by omega, Nat.pow_zero, Nat.mul_one, Nat.mul_one]
  exact FP.Core.val64_inj (by rw [key]; exact nD_ne (by omega) h2 hm) key
theorem fgd_ok {x : UInt64} {β : Type} {k : UInt64 → Option β} (h : FP.Core.val64 x ≠ .nan) : fgd x k = k x := by
  unfold fgd
  refine if_pos ?_
  rw [UInt64.le_iff_toNat_le, FP.Core.mask_toNat]
  exact (FP.Core.ne_nan x).mp h
theorem nD_key {E m : Nat} (h2 : E ≤ 2046) (hm : m < 2 ^ 52) : FP.Core.dkey (nD E m) = ((E * 2 ^ 52 + m : Nat) : Int) := by
  unfold FP.Core.dkey
  rw [nD_nat h2 hm, if_neg (by omega)]
theorem nD_cmp {E m : Nat} (h1 : 1 ≤ E) (h2 : E ≤ 2046) (hm : m < 2 ^ 52) {y : UInt64} {z : Int} (hy : FP.Core.val64 y ≠ .nan) (hz : FP.Core.dkey y = z) : FP.dcmp (nD E m) y = some (compare ((E * 2 ^ 52 + m : Nat) : Int) z) := by
  have e := FP.Core.dcmp_key (nD_ne h1 h2 hm) hy
  rw [nD_key h2 hm, hz] at e
  exact e
theorem nD_c2 {E m : Nat} (h1 : 1 ≤ E) (h2 : E ≤ 2046) (hm : m < 2 ^ 52) : (Op.cmpValue (FP.dcmp (nD E m) 4611686018427387904) .l < 0) ↔ E < 1024 := by
  rw [nD_cmp h1 h2 hm (y := 4611686018427387904) (z := 4611686018427387904) (by rw [nD_two]; exact FP.Core.Datum.noConfusion) (by decide +kernel), cv_lt]
  omega
theorem nD_c1 {E m : Nat} (h1 : 1 ≤ E) (h2 : E ≤ 2046) (hm : m < 2 ^ 52) : (0 ≤ Op.cmpValue (FP.dcmp (nD E m) FP.dconst1) .g) ↔ 1023 ≤ E := by
  rw [nD_cmp h1 h2 hm (y := FP.dconst1) (z := 4607182418800017408) (by decide +kernel) (by decide +kernel), cv_ge]
  omega
theorem nD_c0 {E m : Nat} (h1 : 1 ≤ E) (h2 : E ≤ 2046) (hm : m < 2 ^ 52) : (0 < Op.cmpValue (FP.dcmp (nD E m) FP.dconst0) .l) ↔ True := by
  rw [nD_cmp h1 h2 hm (y := FP.dconst0) (z := 0) (by decide +kernel) (by decide +kernel), cv_gt]
  exact iff_true_intro (by omega)
theorem nD_down {m : Nat} (hm : m < 2 ^ 52) (k : UInt64 → Int64 → Int32 → Option Int64) : ∀ d c p f, d ≤ 1023 → d + c ≤ 1100 → d < f → m_X7_bitsOfDouble_L18 f (nD (1023 + d) m) (lN p) (nI c) k = k (nD 1023 m) (lN (p + d)) (nI (c + d)) := by
  intro d
  induction d with
  | zero =>
    intro c p f h1 h2 h3
    obtain ⟨f, rfl⟩ : ∃ g, f = g + 1 := ⟨f - 1, by omega⟩
    have hc := (nD_c2 (m := m) (show 1 ≤ 1023 by omega) (by omega) hm).mpr (by omega)
    rw [m_X7_bitsOfDouble_L18]
    by_cases c0 : (1100 : Int32) ≤ nI c
    · rw [if_pos c0]; rfl
    · rw [if_neg c0]; exact if_pos hc
  | succ d ih =>
    intro c p f h1 h2 h3
    obtain ⟨f, rfl⟩ : ∃ g, f = g + 1 := ⟨f - 1, by omega⟩
    have hc : ¬ (Op.cmpValue (FP.dcmp (nD (1023 + (d + 1)) m) 4611686018427387904) .l < 0) := fun q => by
      have := (nD_c2 (m := m) (show 1 ≤ 1023 + (d + 1) by omega) (by omega) hm).mp q
      omega
    have c0 : ¬ (1100 : Int32) ≤ nI c := by rw [l_le (k := 1100) (by omega) (by omega)]; omega
    have e := nD_half (E := 1023 + (d + 1)) (m := m) (by omega) (by omega) hm
    rw [m_X7_bitsOfDouble_L18, if_neg c0, if_neg hc, e, fgd_ok (nD_ne (E := 1023 + (d + 1) - 1) (by omega) (by omega) hm), lN_1, nI_1]
    have := ih (c + 1) (p + 1) f (by omega) (by omega) (by omega)
    rw [show 1023 + (d + 1) - 1 = 1023 + d by omega, this, show p + 1 + d = p + (d + 1) by omega, show c + 1 + d = c + (d + 1) by omega]
theorem nD_stay {E m : Nat} (h1 : 1 ≤ E) (h2 : E ≤ 1023) (hm : m < 2 ^ 52) (k : UInt64 → Int64 → Int32 → Option Int64) (p : Int64) : m_X7_bitsOfDouble_L18 FU (nD E m) p 0 k = k (nD E m) p 0 := by
  obtain ⟨f, hf⟩ : ∃ f, FU = f + 1 := ⟨4999, rfl⟩
  have hc := (nD_c2 (m := m) h1 (by omega) hm).mpr (by omega)
  rw [hf, m_X7_bitsOfDouble_L18, if_neg (show ¬ (1100 : Int32) ≤ 0 by decide)]
  exact if_pos hc
theorem nD_up {m : Nat} (hm : m < 2 ^ 52) (k : UInt64 → Int64 → Int32 → Option Int64) : ∀ d E c p f, E + d = 1023 → 1 ≤ E → d + c ≤ 1100 → d < f → d ≤ p → m_X7_bitsOfDouble_L55 f (nD E m) (lN p) (nI c) k = k (nD 1023 m) (lN (p - d)) (nI (c + d)) := by
  intro d
  induction d with
  | zero =>
    intro E c p f h0 h1 h2 h3 h4
    obtain ⟨f, rfl⟩ : ∃ g, f = g + 1 := ⟨f - 1, by omega⟩
    obtain rfl : E = 1023 := by omega
    have hc := (nD_c1 (m := m) (show 1 ≤ 1023 by omega) (by omega) hm).mpr (by omega)
    rw [m_X7_bitsOfDouble_L55]
    by_cases c0 : (1100 : Int32) ≤ nI c
    · rw [if_pos c0]; rfl
    · rw [if_neg c0]; exact if_pos hc
  | succ d ih =>
    intro E c p f h0 h1 h2 h3 h4
    obtain ⟨f, rfl⟩ : ∃ g, f = g + 1 := ⟨f - 1, by omega⟩
    have hc : ¬ (0 ≤ Op.cmpValue (FP.dcmp (nD E m) FP.dconst1) .g) := fun q => by
      have := (nD_c1 (m := m) h1 (by omega) hm).mp q
      omega
    have c0 : ¬ (1100 : Int32) ≤ nI c := by rw [l_le (k := 1100) (by omega) (by omega)]; omega
    have e := nD_twice (E := E) (m := m) h1 (by omega) hm
    have e1 : lN p - 1 = lN (p - 1) := lN_sub (show 1 ≤ p by omega)
    rw [m_X7_bitsOfDouble_L55, if_neg c0, if_neg hc, e, fgd_ok (nD_ne (E := E + 1) (by omega) (by omega) hm), e1, nI_1]
    have := ih (E + 1) (c + 1) (p - 1) f (by omega) (by omega) (by omega) (by omega) (by omega)
    rw [this, show p - 1 - d = p - (d + 1) by omega, show c + 1 + d = c + (d + 1) by omega]
theorem nD_one : FP.Core.val64 FP.dconst1 = .fin false (2 ^ 52) (-52) := by decide +kernel
theorem nD_big : FP.Core.val64 4841369599423283200 = .fin false (2 ^ 52) 0 := by decide +kernel
theorem nD_rest {m : Nat} (hm : m < 2 ^ 52) : FP.Core.val64 (FP.dsub (nD 1023 m) FP.dconst1) ≠ .nan ∧ FP.Core.DInt (m : Int) (FP.dmul (FP.dsub (nD 1023 m) FP.dconst1) 4841369599423283200) := by
  have hv : FP.Core.sumUnits false (2 ^ 52 + m) (-52) true (2 ^ 52) (-52) (min (-52) (-52)) = (m : Int) := by
    show (((2 ^ 52 + m) * 2 ^ 0 : Nat) : Int) + -(((2 ^ 52) * 2 ^ 0 : Nat) : Int) = (m : Int)
    omega
  have hs : FP.Core.exactSum (.fin false (2 ^ 52 + m) (-52)) (.fin true (2 ^ 52) (-52)) = .fin false m (-52) := by
    show FP.Core.Datum.fin (FP.Core.sumSign false true (FP.Core.sumUnits false (2 ^ 52 + m) (-52) true (2 ^ 52) (-52) (min (-52) (-52)))) (FP.Core.sumUnits false (2 ^ 52 + m) (-52) true (2 ^ 52) (-52) (min (-52) (-52))).natAbs (-52) = _
    rw [hv]
    have e : FP.Core.sumSign false true (m : Int) = false := by
      unfold FP.Core.sumSign
      by_cases c : (m : Int) = 0
      · rw [if_pos c]; rfl
      · rw [if_neg c]; exact decide_eq_false (by omega)
    rw [e]; rfl
  have hval : FP.Core.val64 (FP.Core.dsub (nD 1023 m) FP.dconst1) = FP.Core.round FP.Core.b64 (.fin false m (-52)) := by
    rw [FP.Core.val64_dsub, nD_val (by omega) (by omega) hm, nD_one]
    exact congrArg (FP.Core.round FP.Core.b64) hs
  obtain ⟨c, q, h1, h2⟩ := FP.Core.round_exact FP.Core.good_b64 false (c := m) (q := -52) (show m < 2 ^ 53 by omega) (by rw [FP.Core.qmin_b64]; omega) (by decide)
  rw [h1] at hval
  have hq : (-1074 : Int) ≤ q := by
    have := FP.Core.val64_fits (FP.Core.dsub (nD 1023 m) FP.dconst1)
    rw [hval] at this
    have h3 := this.2.1
    rw [FP.Core.qmin_b64] at h3
    exact h3
  refine ⟨by show FP.Core.val64 (FP.Core.dsub (nD 1023 m) FP.dconst1) ≠ _; rw [hval]; exact FP.Core.Datum.noConfusion, ?_⟩
  show FP.Core.Whole (m : Int) (FP.Core.val64 (FP.Core.dmul (FP.Core.dsub (nD 1023 m) FP.dconst1) 4841369599423283200))
  rw [FP.Core.val64_dmul, hval, nD_big]
  refine FP.Core.whole_round FP.Core.good_b64 FP.Core.wide_b64 (show (m : Int).natAbs ≤ 2 ^ 53 by omega) ?_
  show (((c * 2 ^ 52) * 2 ^ (q + 0).toNat : Nat) : Int) = (m : Int) * ((2 ^ (-(q + 0)).toNat : Nat) : Int)
  have h4 : c * 2 ^ (52 + q.toNat) = m * 2 ^ (-q).toNat := pw_cancel (a := (q - FP.Core.b64.qmin).toNat) (b := (-52 - FP.Core.b64.qmin).toNat) h2 (by rw [FP.Core.qmin_b64]; omega)
  rw [Int.add_zero, ← Int.natCast_mul, ← h4, Nat.pow_add 2 52 q.toNat, Nat.mul_assoc]
theorem nD_bits {E m : Nat} (h2 : E ≤ 2046) (hm : m < 2 ^ 52) : (lN E <<< (((52 : Int32)).toInt64 &&& 63)) ||| lN m = (nD E m).toInt64 := by
  apply Int64.toBitVec_inj.mp
  apply BitVec.eq_of_toNat_eq
  rw [Int64.toBitVec_or, Int64.toBitVec_shiftLeft, BitVec.toNat_or]
  have e1 : (((((52 : Int32)).toInt64 &&& 63) : Int64).toBitVec.smod 64).toNat = 52 := by decide +kernel
  have e2 : (lN E).toBitVec.toNat = E := by
    show (BitVec.ofNat 64 E).toNat = E
    rw [BitVec.toNat_ofNat]; exact Nat.mod_eq_of_lt (by omega)
  have e3 : (lN m).toBitVec.toNat = m := by
    show (BitVec.ofNat 64 m).toNat = m
    rw [BitVec.toNat_ofNat]; exact Nat.mod_eq_of_lt (by omega)
  have e4 : ((nD E m).toInt64).toBitVec.toNat = E * 2 ^ 52 + m := nD_nat h2 hm
  have e5 : E <<< 52 < 2 ^ 64 := by rw [Nat.shiftLeft_eq]; omega
  show ((lN E).toBitVec <<< (((((52 : Int32)).toInt64 &&& 63) : Int64).toBitVec.smod 64).toNat).toNat ||| _ = _
  rw [e1, BitVec.toNat_shiftLeft, e2, e3, e4, Nat.mod_eq_of_lt e5, ← Nat.shiftLeft_add_eq_or_of_lt hm, Nat.shiftLeft_eq]
def ND (x : UInt64) : Prop := x = 0 ∨ ∃ E m, 1 ≤ E ∧ E ≤ 2046 ∧ m < 2 ^ 52 ∧ x = nD E m
theorem ND_ne {x : UInt64} (h : ND x) : FP.Core.val64 x ≠ .nan := by
  rcases h with rfl | ⟨E, m, h1, h2, hm, rfl⟩
  · decide +kernel
  · exact nD_ne h1 h2 hm
theorem ND_told {x : UInt64} (h : ND x) : m_X7_bitsOfDouble x = some x.toInt64 := by
  rcases h with rfl | ⟨E, m, h1, h2, hm, rfl⟩
  · unfold m_X7_bitsOfDouble
    have c0 : ¬ 0 < Op.cmpValue (FP.dcmp 0 FP.dconst0) .l := by decide +kernel
    rw [if_neg c0]; rfl
  unfold m_X7_bitsOfDouble
  rw [if_pos ((nD_c0 h1 h2 hm).mpr trivial)]
  obtain ⟨q1, q2⟩ := nD_rest hm
  have q3 : FP.Core.d2l (FP.dmul (FP.dsub (nD 1023 m) FP.dconst1) 4841369599423283200) = lN m := FP.Core.d2l_int (by
    have e : (lN m).toInt = (m : Int) := Int64.toInt_ofNat_of_lt (by omega)
    rw [e]; exact q2)
  have q4 : FP.Core.val64 (FP.dmul (FP.dsub (nD 1023 m) FP.dconst1) 4841369599423283200) ≠ .nan := FP.Core.DInt_ne_nan q2
  by_cases c : 1023 ≤ E
  · have e := nD_down hm (fun x4 x5 x6 => m_X7_bitsOfDouble_L55 FU x4 x5 (0 : Int32) fun x7 x8 x9 =>
  fgd (FP.dsub x7 FP.dconst1) fun v_3 =>
  fgd (FP.dmul v_3 (4841369599423283200 : UInt64)) fun v_4 =>
  some ((x8 <<< (((52 : Int32)).toInt64 &&& 63)) ||| (FP.d2l v_4))) (E - 1023) 0 1023 FU (by omega) (by omega) (by unfold FU; omega)
    rw [show 1023 + (E - 1023) = E by omega] at e
    refine Eq.trans e ?_
    have e2 := nD_up hm (fun x7 x8 x9 =>
  fgd (FP.dsub x7 FP.dconst1) fun v_3 =>
  fgd (FP.dmul v_3 (4841369599423283200 : UInt64)) fun v_4 =>
  some ((x8 <<< (((52 : Int32)).toInt64 &&& 63)) ||| (FP.d2l v_4))) 0 1023 0 E FU (by omega) (by omega) (by omega) (by unfold FU; omega) (by omega)
    refine Eq.trans e2 ?_
    show (fgd (FP.dsub (nD 1023 m) FP.dconst1) fun v_3 => _) = _
    rw [fgd_ok q1, fgd_ok q4]
    show some ((lN (E - 0) <<< (((52 : Int32)).toInt64 &&& 63)) ||| FP.Core.d2l _) = _
    rw [q3, Nat.sub_zero, nD_bits h2 hm]
  · rw [nD_stay h1 (by omega) hm]
    have e2 := nD_up hm (fun x7 x8 x9 =>
  fgd (FP.dsub x7 FP.dconst1) fun v_3 =>
  fgd (FP.dmul v_3 (4841369599423283200 : UInt64)) fun v_4 =>
  some ((x8 <<< (((52 : Int32)).toInt64 &&& 63)) ||| (FP.d2l v_4))) (1023 - E) E 0 1023 FU (by omega) h1 (by omega) (by unfold FU; omega) (by omega)
    refine Eq.trans e2 ?_
    show (fgd (FP.dsub (nD 1023 m) FP.dconst1) fun v_3 => _) = _
    rw [fgd_ok q1, fgd_ok q4]
    show some ((lN (1023 - (1023 - E)) <<< (((52 : Int32)).toInt64 &&& 63)) ||| FP.Core.d2l _) = _
    rw [q3, show 1023 - (1023 - E) = E by omega, nD_bits h2 hm]
theorem ND_jdk {x : UInt64} (h : ND x) : m_Jxe99ae_doubleToLongBits_ccdee x = some x.toInt64 := by
  unfold m_Jxe99ae_doubleToLongBits_ccdee m_Jxe99ae_isNaN_b9ae7
  have e : FP.dcmp x x = some .eq := FP.Core.dcmp_self (ND_ne h)
  rw [e, if_pos (show Op.cmpValue (some .eq) .l = 0 by decide), cl_s, if_pos rfl]
