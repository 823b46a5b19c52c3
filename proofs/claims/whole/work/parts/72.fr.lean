/-! ===== ranges in a format: lower bounds ===== -/
theorem fm_mul_ge {f : FP.Core.Fmt} (hf : FP.Core.Good f) {x y La Lb K : Nat} {c d : Nat} {q r : Int} (x1 : FP.Core.decode f x = .fin false c q) (y1 : FP.Core.decode f y = .fin false d r) (x2 : FP.Core.fits f (.fin false c q)) (y2 : FP.Core.fits f (.fin false d r)) (x3 : FP.Core.zmag f (.fin false c q) = FP.Core.unitsOf f x) (y3 : FP.Core.zmag f (.fin false d r) = FP.Core.unitsOf f y) (hx : La * f.tails ≤ x) (hy : Lb * f.tails ≤ y) (ha : 1 ≤ La) (hb : 1 ≤ Lb) (hK : 1 ≤ K) (hK2 : K ≤ f.exps - 1) {n : Nat} (hn : FP.Core.decode f n = FP.Core.roundRatio f false (c * d) 1 (q + r)) (h : K + 1 + (-f.qmin).toNat ≤ La + Lb + (f.p - 1)) : K * f.tails ≤ FP.Core.mag f n := by
  obtain ⟨p1, p2, p3⟩ := FP.Core.product_units x2 y2
  have hq := FP.Core.qmin_neg hf
  have lx : f.tails * 2 ^ (La - 1) ≤ FP.Core.unitsOf f x := by
    rw [← FP.Core.unitsOf_start ha]; exact FP.Core.unitsOf_le_iff.mpr hx
  have ly : f.tails * 2 ^ (Lb - 1) ≤ FP.Core.unitsOf f y := by
    rw [← FP.Core.unitsOf_start hb]; exact FP.Core.unitsOf_le_iff.mpr hy
  refine FP.Core.mag_ge hf hn (by decide) (e0 := 2 * f.qmin) (by omega) p2 (Nat.mul_le_mul_right _ hK2) ?_
  rw [p3, x3, y3, FP.Core.unitsOf_start hK, Nat.mul_one]
  calc f.tails * 2 ^ (K - 1) * 2 ^ (f.qmin - 2 * f.qmin).toNat = f.tails * 2 ^ (K - 1 + (f.qmin - 2 * f.qmin).toNat) := by rw [Nat.pow_add, Nat.mul_assoc]
    _ ≤ f.tails * 2 ^ (f.p - 1 + (La - 1) + (Lb - 1)) := Nat.mul_le_mul_left _ (Nat.pow_le_pow_right (by decide) (by omega))
    _ = (f.tails * 2 ^ (La - 1)) * (f.tails * 2 ^ (Lb - 1)) := by rw [Nat.pow_add, Nat.pow_add, show 2 ^ (f.p - 1) = f.tails from rfl]; ac_rfl
    _ ≤ FP.Core.unitsOf f x * FP.Core.unitsOf f y := Nat.mul_le_mul lx ly
theorem fm_div_ge {f : FP.Core.Fmt} (hf : FP.Core.Good f) {x y La Kb K : Nat} {c d : Nat} {q r : Int} (x2 : FP.Core.fits f (.fin false c q)) (y2 : FP.Core.fits f (.fin false d r)) (x3 : FP.Core.zmag f (.fin false c q) = FP.Core.unitsOf f x) (y3 : FP.Core.zmag f (.fin false d r) = FP.Core.unitsOf f y) (hd : 0 < d) (hx : La * f.tails ≤ x) (hy : y < Kb * f.tails) (ha : 1 ≤ La) (hK : 1 ≤ K) (hK2 : K ≤ f.exps - 1) {n : Nat} (hn : FP.Core.decode f n = FP.Core.roundRatio f false c d (q - r)) (h : K + (f.p - 1) + Kb ≤ La + (-f.qmin).toNat + 1) : K * f.tails ≤ FP.Core.mag f n := by
  have hq := FP.Core.qmin_neg hf
  have hx1 := x2.2.1
  have hy1 := y2.2.1
  have lx : f.tails * 2 ^ (La - 1) ≤ FP.Core.unitsOf f x := by
    rw [← FP.Core.unitsOf_start ha]; exact FP.Core.unitsOf_le_iff.mpr hx
  obtain ⟨kb, ly⟩ := FP.Core.units_lt_start hy
  refine FP.Core.mag_ge hf hn hd (e0 := 2 * f.qmin - r) (by omega) (by omega) (Nat.mul_le_mul_right _ hK2) ?_
  rw [FP.Core.unitsOf_start hK]
  have e1 : FP.Core.inUnits c (q - r) (2 * f.qmin - r) = FP.Core.zmag f (.fin false c q) * 2 ^ (-f.qmin).toNat := by
    show c * _ = c * _ * _
    rw [Nat.mul_assoc, ← Nat.pow_add]; congr 2; omega
  have e2 : 2 ^ (f.qmin - (2 * f.qmin - r)).toNat * d = FP.Core.zmag f (.fin false d r) := by
    show _ = d * _
    rw [Nat.mul_comm]; congr 2; omega
  rw [e1, Nat.mul_assoc, e2, x3, y3]
  calc f.tails * 2 ^ (K - 1) * FP.Core.unitsOf f y ≤ f.tails * 2 ^ (K - 1) * (f.tails * 2 ^ (Kb - 1)) := Nat.mul_le_mul_left _ (Nat.le_of_lt ly)
    _ = f.tails * 2 ^ (K - 1 + (f.p - 1) + (Kb - 1)) := by rw [Nat.pow_add, Nat.pow_add, show 2 ^ (f.p - 1) = f.tails from rfl]; ac_rfl
    _ ≤ f.tails * 2 ^ (La - 1 + (-f.qmin).toNat) := Nat.mul_le_mul_left _ (Nat.pow_le_pow_right (by decide) (by omega))
    _ = f.tails * 2 ^ (La - 1) * 2 ^ (-f.qmin).toNat := by rw [Nat.pow_add, Nat.mul_assoc]
    _ ≤ FP.Core.unitsOf f x * 2 ^ (-f.qmin).toNat := Nat.mul_le_mul_right _ lx
/-! ===== doubles: ranges ===== -/
def GD (lo hi : Nat) (x : UInt64) : Prop := x.toNat = 0 ∨ (lo * 2 ^ 52 ≤ x.toNat ∧ x.toNat < hi * 2 ^ 52)
theorem GD_mono {lo hi lo' hi' : Nat} {x : UInt64} (h : GD lo hi x) (h1 : lo' ≤ lo) (h2 : hi ≤ hi') : GD lo' hi' x := by
  rcases h with h | ⟨a, b⟩
  · exact Or.inl h
  · exact Or.inr ⟨Nat.le_trans (Nat.mul_le_mul_right _ h1) a, Nat.lt_of_lt_of_le b (Nat.mul_le_mul_right _ h2)⟩
theorem GD_NO {lo hi : Nat} {x : UInt64} (h : GD lo hi x) (h1 : 1 ≤ lo) (h2 : hi ≤ 2047) : ND x := by
  rcases h with h | ⟨a, b⟩
  · exact Or.inl (UInt64.toNat_inj.mp h)
  · right
    have a' : 1 * 2 ^ 52 ≤ x.toNat := Nat.le_trans (Nat.mul_le_mul_right _ h1) a
    have b' : x.toNat < 2047 * 2 ^ 52 := Nat.lt_of_lt_of_le b (Nat.mul_le_mul_right _ h2)
    refine ⟨x.toNat / 2 ^ 52, x.toNat % 2 ^ 52, by omega, by omega, Nat.mod_lt _ (Nat.two_pow_pos 52), UInt64.toNat_inj.mp ?_⟩
    rw [nD_nat (by omega) (Nat.mod_lt _ (Nat.two_pow_pos 52)), Nat.div_add_mod']
theorem GD_low {lo hi : Nat} {x : UInt64} (h : GD lo hi x) (h2 : hi ≤ 2047) : x.toNat < 2047 * 2 ^ 52 := by
  rcases h with h | ⟨a, b⟩
  · omega
  · exact Nat.lt_of_lt_of_le b (Nat.mul_le_mul_right _ h2)
theorem GD_fin {lo hi : Nat} {x : UInt64} (h : GD lo hi x) (h2 : hi ≤ 2047) : ∃ c q, FP.Core.decode FP.Core.b64 x.toNat = .fin false c q ∧ FP.Core.fits FP.Core.b64 (.fin false c q) ∧ FP.Core.zmag FP.Core.b64 (.fin false c q) = FP.Core.unitsOf FP.Core.b64 x.toNat ∧ (x.toNat = 0 ↔ c = 0) := by
  have hb := GD_low h h2
  have hm : FP.Core.mag FP.Core.b64 x.toNat = x.toNat := FP.Core.mag_of_lt (by rw [FP.Core.half_b64]; omega)
  obtain ⟨c, q, q1, q2⟩ := FP.Core.decode_fin (f := FP.Core.b64) (n := x.toNat) (by rw [hm, FP.Core.infBits_b64]; omega)
  have hs : FP.Core.fieldS FP.Core.b64 x.toNat = false := by
    rw [FP.Core.fieldS_mag FP.Core.b64 (FP.Core.lt_full64 x), FP.Core.half_b64]
    exact decide_eq_false (by omega)
  rw [hs] at q1
  rw [hm] at q2
  refine ⟨c, q, q1, by rw [← q1]; exact FP.Core.val64_fits x, q2, ?_, ?_⟩
  · intro e
    rw [e, FP.Core.unitsOf_zero] at q2
    rcases Nat.mul_eq_zero.mp q2 with q3 | q3
    · exact q3
    · exact absurd q3 (Nat.ne_of_gt (Nat.two_pow_pos _))
  · intro e
    subst e
    have q3 : FP.Core.unitsOf FP.Core.b64 x.toNat = 0 := by rw [← q2]; exact Nat.zero_mul _
    exact FP.Core.unitsOf_eq_zero.mp q3
theorem GD_pos {x : UInt64} {A B : Nat} {e : Int} (h : FP.Core.val64 x = FP.Core.roundRatio FP.Core.b64 false A B e) : x.toNat < 2 ^ 63 := by
  have h1 : FP.Core.val64 x ≠ .nan := by rw [h]; exact FP.Core.roundRatio_ne_nan _ _ _ _ _
  have h2 := FP.Core.sgn_bits h1
  rw [h, FP.Core.sgn_roundRatio] at h2
  have h3 := of_decide_eq_false h2.symm
  omega
theorem GD_zero {x : UInt64} {B : Nat} {e : Int} (h : FP.Core.val64 x = FP.Core.roundRatio FP.Core.b64 false 0 B e) : x.toNat = 0 := by
  have h1 : FP.Core.val64 x = FP.Core.val64 0 := by
    rw [h, FP.Core.val64_zero]; exact if_pos rfl
  have h2 : x = 0 := FP.Core.val64_inj (by rw [h]; exact FP.Core.roundRatio_ne_nan _ _ _ _ _) h1
  rw [h2]; rfl
theorem GD_int {k j : Nat} (hk : k ≤ 2 ^ j) (hj : j ≤ 20) : GD 1023 (1023 + j + 1) (FP.i2d (nI k)) ∧ (k = 0 ↔ (FP.i2d (nI k)).toNat = 0) := by
  have hk2 : k ≤ 2 ^ 20 := Nat.le_trans hk (Nat.pow_le_pow_right (by omega) hj)
  have hi : (nI k).toInt = (k : Int) := nI_toInt (by omega)
  have hv : FP.Core.val64 (FP.Core.i2d (nI k)) = FP.Core.roundRatio FP.Core.b64 false k 1 0 := by
    rw [FP.Core.val64_i2d, hi]
    show FP.Core.roundRatio FP.Core.b64 (decide ((k : Int) < 0)) (k : Int).natAbs 1 0 = _
    rw [decide_eq_false (show ¬ (k : Int) < 0 by omega), Int.natAbs_natCast]
  have hp := GD_pos hv
  have hn : (FP.Core.i2d (nI k)).toNat = FP.Core.fromInt FP.Core.b64 (k : Int) := by rw [← hi]; exact FP.Core.toNat_i2d _
  by_cases h0 : k = 0
  · subst h0
    have e := GD_zero hv
    exact ⟨Or.inl e, fun _ => e, fun _ => rfl⟩
  · have h1 := FP.Core.fromInt_ge hn (by omega)
    have h2 := FP.Core.fromInt_mag hn (j := j) (K := 1023 + j) (by rw [Int.natAbs_natCast]; exact hk) (by omega) (by omega)
    rw [Nat.mod_eq_of_lt hp] at h1 h2
    have h3 : 1023 * 2 ^ 52 ≤ (FP.Core.i2d (nI k)).toNat := h1
    exact ⟨Or.inr ⟨h3, by show (FP.Core.i2d (nI k)).toNat < _; omega⟩, fun e => absurd e h0, fun e => by
      have e : (FP.Core.i2d (nI k)).toNat = 0 := e
      omega⟩
theorem GD_div {lx hx ly hy K : Nat} {x y : UInt64} (h1 : GD lx hx x) (h2 : GD ly hy y) (hy0 : y.toNat ≠ 0) (b1 : hx ≤ 2047) (b2 : hy ≤ 2047) (b3 : 1 ≤ lx) (b4 : 1 ≤ ly) (hK : 1 ≤ K) (hK2 : K + hy ≤ lx + 1023) (hK3 : K ≤ 2047) (hL : ly ≤ hx) : GD K (hx + 1024 - ly) (FP.ddiv x y) := by
  obtain ⟨c, q, x1, x2, x3, x4⟩ := GD_fin h1 b1
  obtain ⟨d, r, y1, y2, y3, y4⟩ := GD_fin h2 b2
  have hd : ¬ d = 0 := fun e => hy0 (y4.mpr e)
  obtain ⟨ya, yb⟩ := h2.resolve_left hy0
  have hv : FP.Core.val64 (FP.Core.ddiv x y) = FP.Core.roundRatio FP.Core.b64 false c d (q - r) := by
    rw [FP.Core.val64_ddiv]
    show FP.Core.quotient FP.Core.b64 (FP.Core.decode FP.Core.b64 x.toNat) (FP.Core.decode FP.Core.b64 y.toNat) = _
    rw [x1, y1]
    show (if d = 0 then (if c = 0 then FP.Core.Datum.nan else FP.Core.Datum.inf (false != false)) else FP.Core.roundRatio FP.Core.b64 (false != false) c d (q - r)) = _
    rw [if_neg hd]
    rfl
  by_cases h0 : x.toNat = 0
  · rw [x4.mp h0] at hv
    exact Or.inl (GD_zero hv)
  · obtain ⟨xa, xb⟩ := h1.resolve_left h0
    have hp := GD_pos hv
    have lo := fm_div_ge FP.Core.good_b64 (La := lx) (Kb := hy) (K := K) x2 y2 x3 y3 (by omega) (by rw [FP.Core.tails_b64]; exact xa) (by rw [FP.Core.tails_b64]; exact yb) b3 hK (by rw [FP.Core.exps_b64]; exact hK3) hv (by rw [FP.Core.p_b64, FP.Core.qmin_b64]; omega)
    rw [FP.Core.mag_of_lt (by rw [FP.Core.half_b64]; omega), FP.Core.tails_b64] at lo
    have xl := GD_low h1 b1
    have yl := GD_low h2 b2
    have up := FP.Core.ddiv_mag (a := x) (b := y) (K := hx) (L := ly) (by rw [Nat.mod_eq_of_lt (by omega)]; exact xb) (by rw [Nat.mod_eq_of_lt (by omega)]; exact ya) (by rw [Nat.mod_eq_of_lt (by omega)]; omega) b1 b4
    rw [Nat.mod_eq_of_lt hp] at up
    exact Or.inr ⟨lo, Nat.lt_of_lt_of_le up (Nat.mul_le_mul_right _ (by omega))⟩
theorem GD_add {lo hi : Nat} {x y : UInt64} (h1 : GD lo hi x) (h2 : GD lo hi y) (b1 : hi + 2 ≤ 2047) (b2 : 1 ≤ lo) : GD lo (hi + 2) (FP.dadd x y) := by
  obtain ⟨c, q, x1, x2, x3, x4⟩ := GD_fin h1 (by omega)
  obtain ⟨d, r, y1, y2, y3, y4⟩ := GD_fin h2 (by omega)
  by_cases h0 : x.toNat = 0 ∧ y.toNat = 0
  · have e1 : x = 0 := UInt64.toNat_inj.mp h0.1
    have e2 : y = 0 := UInt64.toNat_inj.mp h0.2
    subst e1; subst e2
    exact Or.inl (by decide +kernel)
  obtain ⟨sg, n, e, s1, s2, s3⟩ := FP.Core.sum_units x2 y2
  have z1 : FP.Core.zval FP.Core.b64 (.fin false c q) = ((FP.Core.unitsOf FP.Core.b64 x.toNat : Nat) : Int) := by rw [← x3]; rfl
  have z2 : FP.Core.zval FP.Core.b64 (.fin false d r) = ((FP.Core.unitsOf FP.Core.b64 y.toNat : Nat) : Int) := by rw [← y3]; rfl
  rw [z1, z2] at s3
  have hpos : 0 < FP.Core.unitsOf FP.Core.b64 x.toNat + FP.Core.unitsOf FP.Core.b64 y.toNat := by
    by_cases c1 : x.toNat = 0
    · have : ¬ FP.Core.unitsOf FP.Core.b64 y.toNat = 0 := fun q => h0 ⟨c1, FP.Core.unitsOf_eq_zero.mp q⟩
      omega
    · have : ¬ FP.Core.unitsOf FP.Core.b64 x.toNat = 0 := fun q => c1 (FP.Core.unitsOf_eq_zero.mp q)
      omega
  have hsg : sg = false := by
    cases sg with
    | false => rfl
    | true =>
      have : FP.Core.signed true (FP.Core.inUnits n e FP.Core.b64.qmin) = -((FP.Core.inUnits n e FP.Core.b64.qmin : Nat) : Int) := rfl
      omega
  subst hsg
  have s4 : ((FP.Core.inUnits n e FP.Core.b64.qmin : Nat) : Int) = ((FP.Core.unitsOf FP.Core.b64 x.toNat : Nat) : Int) + ((FP.Core.unitsOf FP.Core.b64 y.toNat : Nat) : Int) := s3
  have hv : FP.Core.val64 (FP.Core.dadd x y) = FP.Core.roundRatio FP.Core.b64 false n 1 e := by
    rw [FP.Core.val64_dadd]
    show FP.Core.round FP.Core.b64 (FP.Core.exactSum (FP.Core.decode FP.Core.b64 x.toNat) (FP.Core.decode FP.Core.b64 y.toNat)) = _
    rw [x1, y1, s1]; rfl
  have hp := GD_pos hv
  have xl := GD_low h1 (by omega)
  have yl := GD_low h2 (by omega)
  have xb : x.toNat % 2 ^ 63 < hi * 2 ^ 52 := by
    rw [Nat.mod_eq_of_lt (by omega)]
    rcases h1 with h1 | h1
    · rcases h2 with h2 | h2
      · exact absurd ⟨h1, h2⟩ h0
      · rw [h1]; exact Nat.lt_of_le_of_lt (Nat.zero_le _) h2.2
    · exact h1.2
  have yb : y.toNat % 2 ^ 63 < hi * 2 ^ 52 := by
    rw [Nat.mod_eq_of_lt (by omega)]
    rcases h2 with h2 | h2
    · rcases h1 with h1 | h1
      · exact absurd ⟨h1, h2⟩ h0
      · rw [h2]; exact Nat.lt_of_le_of_lt (Nat.zero_le _) h1.2
    · exact h2.2
  have up := FP.Core.dadd_mag xb yb (by omega)
  rw [Nat.mod_eq_of_lt hp] at up
  have hlo : lo ≤ 2047 := by
    rcases h1 with h1 | h1
    · rcases h2 with h2 | h2
      · exact absurd ⟨h1, h2⟩ h0
      · omega
    · omega
  have lo' : lo * FP.Core.b64.tails ≤ FP.Core.mag FP.Core.b64 (FP.Core.dadd x y).toNat := by
    refine FP.Core.mag_ge FP.Core.good_b64 hv (by decide) (e0 := FP.Core.b64.qmin) (Int.le_refl _) s2 (Nat.mul_le_mul_right _ (by rw [FP.Core.exps_b64]; exact hlo)) ?_
    rw [Int.sub_self, Int.toNat_zero, Nat.pow_zero, Nat.mul_one, Nat.mul_one]
    have hl : FP.Core.unitsOf FP.Core.b64 (lo * FP.Core.b64.tails) ≤ FP.Core.unitsOf FP.Core.b64 x.toNat ∨ FP.Core.unitsOf FP.Core.b64 (lo * FP.Core.b64.tails) ≤ FP.Core.unitsOf FP.Core.b64 y.toNat := by
      rw [FP.Core.unitsOf_le_iff, FP.Core.unitsOf_le_iff, FP.Core.tails_b64]
      rcases h1 with h1 | h1
      · rcases h2 with h2 | h2
        · exact absurd ⟨h1, h2⟩ h0
        · exact Or.inr h2.1
      · exact Or.inl h1.1
    omega
  rw [FP.Core.mag_of_lt (by rw [FP.Core.half_b64]; omega), FP.Core.tails_b64] at lo'
  exact Or.inr ⟨lo', up⟩
theorem GD_mul {lx hx ly hy K : Nat} {x y : UInt64} (h1 : GD lx hx x) (h2 : GD ly hy y) (b1 : hx ≤ 2047) (b2 : hy ≤ 2047) (b3 : 1 ≤ lx) (b4 : 1 ≤ ly) (hK : 1 ≤ K) (hK2 : K + 1023 ≤ lx + ly) (hK3 : K ≤ 2047) (hH : 1025 ≤ hx + hy) : GD K (hx + hy - 1022) (FP.dmul x y) := by
  obtain ⟨c, q, x1, x2, x3, x4⟩ := GD_fin h1 b1
  obtain ⟨d, r, y1, y2, y3, y4⟩ := GD_fin h2 b2
  have hv : FP.Core.val64 (FP.Core.dmul x y) = FP.Core.roundRatio FP.Core.b64 false (c * d) 1 (q + r) := by
    rw [FP.Core.val64_dmul]
    show FP.Core.round FP.Core.b64 (FP.Core.exactProduct (FP.Core.decode FP.Core.b64 x.toNat) (FP.Core.decode FP.Core.b64 y.toNat)) = _
    rw [x1, y1]; rfl
  by_cases h0 : x.toNat = 0 ∨ y.toNat = 0
  · have e : c * d = 0 := by
      rcases h0 with h0 | h0
      · rw [x4.mp h0, Nat.zero_mul]
      · rw [y4.mp h0, Nat.mul_zero]
    rw [e] at hv
    exact Or.inl (GD_zero hv)
  · obtain ⟨xa, xb⟩ := h1.resolve_left (fun e => h0 (Or.inl e))
    obtain ⟨ya, yb⟩ := h2.resolve_left (fun e => h0 (Or.inr e))
    have hp := GD_pos hv
    have lo := fm_mul_ge FP.Core.good_b64 (La := lx) (Lb := ly) (K := K) x1 y1 x2 y2 x3 y3 (by rw [FP.Core.tails_b64]; exact xa) (by rw [FP.Core.tails_b64]; exact ya) b3 b4 hK (by rw [FP.Core.exps_b64]; exact hK3) hv (by rw [FP.Core.p_b64, FP.Core.qmin_b64]; omega)
    rw [FP.Core.mag_of_lt (by rw [FP.Core.half_b64]; omega), FP.Core.tails_b64] at lo
    have xl := GD_low h1 b1
    have yl := GD_low h2 b2
    have up := FP.Core.dmul_mag (a := x) (b := y) (Ka := hx) (Kb := hy) (by rw [Nat.mod_eq_of_lt (by omega)]; exact xb) (by rw [Nat.mod_eq_of_lt (by omega)]; exact yb) b1 b2
    rw [Nat.mod_eq_of_lt hp] at up
    exact Or.inr ⟨lo, Nat.lt_of_lt_of_le up (Nat.mul_le_mul_right _ (by omega))⟩
/-! ===== floats: ranges ===== -/
def GF (lo hi : Nat) (x : UInt32) : Prop := x.toNat = 0 ∨ (lo * 2 ^ 23 ≤ x.toNat ∧ x.toNat < hi * 2 ^ 23)
theorem GF_mono {lo hi lo' hi' : Nat} {x : UInt32} (h : GF lo hi x) (h1 : lo' ≤ lo) (h2 : hi ≤ hi') : GF lo' hi' x := by
  rcases h with h | ⟨a, b⟩
  · exact Or.inl h
  · exact Or.inr ⟨Nat.le_trans (Nat.mul_le_mul_right _ h1) a, Nat.lt_of_lt_of_le b (Nat.mul_le_mul_right _ h2)⟩
theorem GF_NO {lo hi : Nat} {x : UInt32} (h : GF lo hi x) (h1 : 1 ≤ lo) (h2 : hi ≤ 255) : NF x := by
  rcases h with h | ⟨a, b⟩
  · exact Or.inl (UInt32.toNat_inj.mp h)
  · right
    have a' : 1 * 2 ^ 23 ≤ x.toNat := Nat.le_trans (Nat.mul_le_mul_right _ h1) a
    have b' : x.toNat < 255 * 2 ^ 23 := Nat.lt_of_lt_of_le b (Nat.mul_le_mul_right _ h2)
    refine ⟨x.toNat / 2 ^ 23, x.toNat % 2 ^ 23, by omega, by omega, Nat.mod_lt _ (Nat.two_pow_pos 23), UInt32.toNat_inj.mp ?_⟩
    rw [nF_nat (by omega) (Nat.mod_lt _ (Nat.two_pow_pos 23)), Nat.div_add_mod']
theorem GF_low {lo hi : Nat} {x : UInt32} (h : GF lo hi x) (h2 : hi ≤ 255) : x.toNat < 255 * 2 ^ 23 := by
  rcases h with h | ⟨a, b⟩
  · omega
  · exact Nat.lt_of_lt_of_le b (Nat.mul_le_mul_right _ h2)
theorem GF_fin {lo hi : Nat} {x : UInt32} (h : GF lo hi x) (h2 : hi ≤ 255) : ∃ c q, FP.Core.decode FP.Core.b32 x.toNat = .fin false c q ∧ FP.Core.fits FP.Core.b32 (.fin false c q) ∧ FP.Core.zmag FP.Core.b32 (.fin false c q) = FP.Core.unitsOf FP.Core.b32 x.toNat ∧ (x.toNat = 0 ↔ c = 0) := by
  have hb := GF_low h h2
  have hm : FP.Core.mag FP.Core.b32 x.toNat = x.toNat := FP.Core.mag_of_lt (by rw [FP.Core.half_b32]; omega)
  obtain ⟨c, q, q1, q2⟩ := FP.Core.decode_fin (f := FP.Core.b32) (n := x.toNat) (by rw [hm, FP.Core.infBits_b32]; omega)
  have hs : FP.Core.fieldS FP.Core.b32 x.toNat = false := by
    rw [FP.Core.fieldS_mag FP.Core.b32 (FP.Core.lt_full32 x), FP.Core.half_b32]
    exact decide_eq_false (by omega)
  rw [hs] at q1
  rw [hm] at q2
  refine ⟨c, q, q1, by rw [← q1]; exact FP.Core.val32_fits x, q2, ?_, ?_⟩
  · intro e
    rw [e, FP.Core.unitsOf_zero] at q2
    rcases Nat.mul_eq_zero.mp q2 with q3 | q3
    · exact q3
    · exact absurd q3 (Nat.ne_of_gt (Nat.two_pow_pos _))
  · intro e
    subst e
    have q3 : FP.Core.unitsOf FP.Core.b32 x.toNat = 0 := by rw [← q2]; exact Nat.zero_mul _
    exact FP.Core.unitsOf_eq_zero.mp q3
theorem GF_pos {x : UInt32} {A B : Nat} {e : Int} (h : FP.Core.val32 x = FP.Core.roundRatio FP.Core.b32 false A B e) : x.toNat < 2 ^ 31 := by
  have h1 : FP.Core.val32 x ≠ .nan := by rw [h]; exact FP.Core.roundRatio_ne_nan _ _ _ _ _
  have h2 := FP.Core.sgn_bits32 h1
  rw [h, FP.Core.sgn_roundRatio] at h2
  have h3 := of_decide_eq_false h2.symm
  omega
theorem GF_zero {x : UInt32} {B : Nat} {e : Int} (h : FP.Core.val32 x = FP.Core.roundRatio FP.Core.b32 false 0 B e) : x.toNat = 0 := by
  have h1 : FP.Core.val32 x = FP.Core.val32 0 := by
    rw [h, FP.Core.val32_zero]; exact if_pos rfl
  have h2 : x = 0 := FP.Core.val32_inj (by rw [h]; exact FP.Core.roundRatio_ne_nan _ _ _ _ _) h1
  rw [h2]; rfl
theorem GF_int {k j : Nat} (hk : k ≤ 2 ^ j) (hj : j ≤ 20) : GF 127 (127 + j + 1) (FP.i2f (nI k)) ∧ (k = 0 ↔ (FP.i2f (nI k)).toNat = 0) := by
  have hk2 : k ≤ 2 ^ 20 := Nat.le_trans hk (Nat.pow_le_pow_right (by omega) hj)
  have hi : (nI k).toInt = (k : Int) := nI_toInt (by omega)
  have hv : FP.Core.val32 (FP.Core.i2f (nI k)) = FP.Core.roundRatio FP.Core.b32 false k 1 0 := by
    rw [FP.Core.val32_i2f, hi]
    show FP.Core.roundRatio FP.Core.b32 (decide ((k : Int) < 0)) (k : Int).natAbs 1 0 = _
    rw [decide_eq_false (show ¬ (k : Int) < 0 by omega), Int.natAbs_natCast]
  have hp := GF_pos hv
  have hn : (FP.Core.i2f (nI k)).toNat = FP.Core.fromInt FP.Core.b32 (k : Int) := by rw [← hi]; exact FP.Core.toNat_i2f _
  by_cases h0 : k = 0
  · subst h0
    have e := GF_zero hv
    exact ⟨Or.inl e, fun _ => e, fun _ => rfl⟩
  · have h1 := FP.Core.fromInt_ge32 hn (by omega)
    have h2 := FP.Core.fromInt_mag32 hn (j := j) (K := 127 + j) (by rw [Int.natAbs_natCast]; exact hk) (by omega) (by omega)
    rw [Nat.mod_eq_of_lt hp] at h1 h2
    have h3 : 127 * 2 ^ 23 ≤ (FP.Core.i2f (nI k)).toNat := h1
    exact ⟨Or.inr ⟨h3, by show (FP.Core.i2f (nI k)).toNat < _; omega⟩, fun e => absurd e h0, fun e => by
      have e : (FP.Core.i2f (nI k)).toNat = 0 := e
      omega⟩
theorem GF_div {lx hx ly hy K : Nat} {x y : UInt32} (h1 : GF lx hx x) (h2 : GF ly hy y) (hy0 : y.toNat ≠ 0) (b1 : hx ≤ 255) (b2 : hy ≤ 255) (b3 : 1 ≤ lx) (b4 : 1 ≤ ly) (hK : 1 ≤ K) (hK2 : K + hy ≤ lx + 127) (hK3 : K ≤ 255) (hL : ly ≤ hx) : GF K (hx + 128 - ly) (FP.fdiv x y) := by
  obtain ⟨c, q, x1, x2, x3, x4⟩ := GF_fin h1 b1
  obtain ⟨d, r, y1, y2, y3, y4⟩ := GF_fin h2 b2
  have hd : ¬ d = 0 := fun e => hy0 (y4.mpr e)
  obtain ⟨ya, yb⟩ := h2.resolve_left hy0
  have hv : FP.Core.val32 (FP.Core.fdiv x y) = FP.Core.roundRatio FP.Core.b32 false c d (q - r) := by
    rw [FP.Core.val32_fdiv]
    show FP.Core.quotient FP.Core.b32 (FP.Core.decode FP.Core.b32 x.toNat) (FP.Core.decode FP.Core.b32 y.toNat) = _
    rw [x1, y1]
    show (if d = 0 then (if c = 0 then FP.Core.Datum.nan else FP.Core.Datum.inf (false != false)) else FP.Core.roundRatio FP.Core.b32 (false != false) c d (q - r)) = _
    rw [if_neg hd]
    rfl
  by_cases h0 : x.toNat = 0
  · rw [x4.mp h0] at hv
    exact Or.inl (GF_zero hv)
  · obtain ⟨xa, xb⟩ := h1.resolve_left h0
    have hp := GF_pos hv
    have lo := fm_div_ge FP.Core.good_b32 (La := lx) (Kb := hy) (K := K) x2 y2 x3 y3 (by omega) (by rw [FP.Core.tails_b32]; exact xa) (by rw [FP.Core.tails_b32]; exact yb) b3 hK (by rw [FP.Core.exps_b32]; exact hK3) hv (by rw [FP.Core.p_b32, FP.Core.qmin_b32]; omega)
    rw [FP.Core.mag_of_lt (by rw [FP.Core.half_b32]; omega), FP.Core.tails_b32] at lo
    have xl := GF_low h1 b1
    have yl := GF_low h2 b2
    have up := FP.Core.fdiv_mag (a := x) (b := y) (K := hx) (L := ly) (by rw [Nat.mod_eq_of_lt (by omega)]; exact xb) (by rw [Nat.mod_eq_of_lt (by omega)]; exact ya) (by rw [Nat.mod_eq_of_lt (by omega)]; omega) b1 b4
    rw [Nat.mod_eq_of_lt hp] at up
    exact Or.inr ⟨lo, Nat.lt_of_lt_of_le up (Nat.mul_le_mul_right _ (by omega))⟩
