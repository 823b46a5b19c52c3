/-! ===== the call age ===== -/
theorem gd_halfc : GD 1022 1023 4602678819172646912 := Or.inr (by decide)
theorem gd_0 (lo hi : Nat) : GD lo hi 0 := Or.inl rfl
def ageV (x : UInt64) (W : Nat) : UInt64 := if W = 0 then FP.dconst0 else FP.ddiv x (FP.i2d (nI W))
theorem age_gd {x : UInt64} {W : Nat} (h : GD 1021 1070 x) (hW : W ≤ 1188) : GD 1009 1071 (ageV x W) := by
  unfold ageV
  by_cases c : W = 0
  · rw [if_pos c]; exact gd_0 _ _
  · rw [if_neg c]
    have z2 := GD_int (k := W) (j := 11) (by omega) (by omega)
    have z3 : (FP.i2d (nI W)).toNat ≠ 0 := fun q => c (z2.2.mpr q)
    have z4 := GD_div h z2.1 z3 (by omega) (by omega) (by omega) (by omega) (K := 1009) (by omega) (by omega) (by omega) (by omega)
    exact GD_mono z4 (by omega) (by omega)
def ageR (r1 : (Nat → Int32) × (Nat → Int32) × (Nat → Int32) × (Nat → Int32)) (a2 : Int32) (x3_47 : UInt64) (x5_47 : Int32) : Option ((Nat → Int32) × (Nat → Int32) × (Nat → Int32) × (Nat → Int32) × Int64) :=
  if x5_47 = 0 then (if a2 = 0 then (cl (m_Jxe99ae_doubleToLongBits_ccdee FP.dconst0) fun r_23 =>
  some (r1.1, r1.2.1, r1.2.2.1, r1.2.2.2, r_23))
  else (fgd (FP.dadd FP.dconst0 (4602678819172646912 : UInt64)) fun v_22 =>
  some (r1.1, r1.2.1, r1.2.2.1, r1.2.2.2, (FP.d2l v_22))))
  else (fgd (FP.ddiv x3_47 (FP.i2d x5_47)) fun v_18 =>
  if a2 = 0 then (cl (m_Jxe99ae_doubleToLongBits_ccdee v_18) fun r_20 =>
  some (r1.1, r1.2.1, r1.2.2.1, r1.2.2.2, r_20))
  else (fgd (FP.dadd v_18 (4602678819172646912 : UInt64)) fun v_19 =>
  some (r1.1, r1.2.1, r1.2.2.1, r1.2.2.2, (FP.d2l v_19))))
theorem age_loop {n : Nat} (hn : n ≤ 12) {tr kd th fm tm ph rc un' ov' rd rg : Nat → Int32} {g1 g2 : Nat → Nat} (hr : RTr n tr kd th fm tm ph) (b1 : ∀ j, j < n → tr (24 + j) = nI (g1 j) ∧ g1 j ≤ 2000) (b2 : ∀ j, j < n → tr (36 + j) = nI (g2 j) ∧ g2 j ≤ 2000) (b3 : ∀ j, j < n → fm j = nI (g1 j) ∧ g1 j ≤ 2000) (b4 : ∀ j, j < n → tm j = nI (g2 j) ∧ g2 j ≤ 2000) (k7 : ∀ u, u < n → rd u = rc u) (k8 : ∀ c, c < n → rg c = bs (fun v => bt (rd v) c) n) (p : Int32) (a2 : Int32) : ∃ x W, GD 1021 1070 x ∧ W ≤ 1188 ∧ m_X7_ageOf (nI n) tr (nI n) rc p = some (ageV x W) ∧ m_X8_age_L47 (nI n) th fm tm ph p (un', ov', rd, rg) FU FP.dconst0 0 0 (fun x3_47 x5_47 x6_47 => ageR (un', ov', rd, rg) a2 x3_47 x5_47) = ageR (un', ov', rd, rg) a2 x (nI W) := by
  obtain ⟨s1, s2, ⟨W, q1, q2, q3, q4, q5⟩, q6, q7⟩ := lpp (fun f i (s : UInt64 × Int32) => m_X7_ageOf_L8 (nI n) (nI n) tr rc p f s.1 s.2 i (fun x2_8 x4_8 x5_8 => if x4_8 = 0 then (some FP.dconst0) else (fgd (FP.ddiv x2_8 (FP.i2d x4_8)) fun v_11 => some v_11))) (fun s => if s.2 = 0 then (some FP.dconst0) else (fgd (FP.ddiv s.1 (FP.i2d s.2)) fun v_11 => some v_11)) (fun f i (s : UInt64 × Int32) => m_X8_age_L47 (nI n) th fm tm ph p (un', ov', rd, rg) f s.1 s.2 i (fun x3_47 x5_47 x6_47 => ageR (un', ov', rd, rg) a2 x3_47 x5_47)) (fun s => ageR (un', ov', rd, rg) a2 s.1 s.2) n
    (fun j s1 s2 => ∃ W, s1.2 = nI W ∧ s2.2 = nI W ∧ W ≤ 99 * j ∧ s2.1 = s1.1 ∧ GD 1021 (1046 + 2 * j) s1.1)
    (fun f g j s1 s2 hj hP => by
      obtain ⟨W, p1, p2, p3, p4, p5⟩ := hP
      obtain ⟨x0, w⟩ := s1
      obtain ⟨x, w'⟩ := s2
      dsimp only at p1 p2 p4 p5 ⊢
      subst p1; subst p2; subst p4
      have c0 : ¬ nI n ≤ nI j := by rw [n_le (by omega) (by omega)]; omega
      obtain ⟨⟨-, t2, -, -, t5⟩, ⟨T, hT, t1⟩, -⟩ := hr j hj
      have e4 : m_X2_trait tr 4 (nI j) = some (tr (48 + j)) := trait7 tr (a := 4) (by omega) (show j < 12 by omega)
      have e6 : m_X2_trait tr 1 (nI j) = some (nI T) := by
        rw [← t1]
        exact trait7 tr (a := 1) (by omega) (show j < 12 by omega)
      rw [m_X7_ageOf_L8, m_X8_age_L47, if_neg c0, if_neg c0, e4, cl_s, ag_n (by omega) (by omega), t5]
      by_cases c : tr (48 + j) = p
      · obtain ⟨m1, m2, m3⟩ := mid_both hn b1 b2 b3 b4 k7 k8 hj
        have z1 := (GD_int (k := T) (j := 7) (by omega) (by omega)).1
        have z2 := GD_mul m3 z1 (by omega) (by omega) (by omega) (by omega) (K := 1021) (by omega) (by omega) (by omega) (by omega)
        have z3 := GD_add p5 (GD_mono z2 (lo' := 1021) (hi' := 1046 + 2 * j) (by omega) (by omega)) (by omega) (by omega)
        have f1 := ND_ne (GD_NO z2 (by omega) (by omega))
        have f2 := ND_ne (GD_NO z3 (by omega) (by omega))
        rw [if_pos c, if_pos c, m1, m2, cl_s, cl_s, e6, cl_s, ag_n (by omega) (by omega), t2, t1, fgd_ok f1, fgd_ok f1, fgd_ok f2, fgd_ok f2, cl_s, ag_n (by omega) (by omega), t2, t1, nI_add, nI_1]
        exact ⟨(FP.dadd x (FP.dmul (midV (eU n rc g1 j) (lU n rc g2 j)) (FP.i2d (nI T))), nI (W + T)), (FP.dadd x (FP.dmul (midV (eU n rc g1 j) (lU n rc g2 j)) (FP.i2d (nI T))), nI (W + T)), rfl, rfl, W + T, rfl, rfl, by omega, rfl, GD_mono z3 (by omega) (by omega)⟩
      · rw [if_neg c, if_neg c, nI_1]
        exact ⟨(x, nI W), (x, nI W), rfl, rfl, W, rfl, rfl, by omega, rfl, GD_mono p5 (by omega) (by omega)⟩)
    (fun f g s1 s2 _ => by
      have c0 : nI n ≤ nI n := by rw [n_le (by omega) (by omega)]; omega
      rw [m_X7_ageOf_L8, m_X8_age_L47, if_pos c0, if_pos c0]
      exact ⟨rfl, rfl⟩) 0 (FP.dconst0, 0) (FP.dconst0, 0) (by omega) (by omega) ⟨0, rfl, rfl, by omega, rfl, gd_0 _ _⟩
  have h1 : GD 1021 1070 s1.1 := GD_mono q5 (by omega) (by omega)
  have h2 : W ≤ 1188 := by omega
  refine ⟨s1.1, W, h1, h2, ?_, ?_⟩
  · unfold m_X7_ageOf
    refine q6.trans ?_
    have h3 := age_gd h1 h2
    unfold ageV at h3 ⊢
    rw [q1]
    by_cases c : W = 0
    · subst c
      rw [if_pos rfl, if_pos (show nI 0 = 0 from rfl)]
    · rw [if_neg c] at h3 ⊢
      rw [if_neg (show ¬ nI W = 0 by rw [eq_l (k := 0) (by omega) (by omega)]; exact c)]
      exact fgd_ok (ND_ne (GD_NO h3 (by omega) (by omega)))
  · refine q7.trans ?_
    rw [q2, q4]
theorem o_age {n t : Nat} (hn : n ≤ 12) (ht : t ≤ 40) {tr kd th fm tm ph upr lwr ab bl : Nat → Int32} {up lo : Nat → Nat} (hr : RTr n tr kd th fm tm ph) (h : RTi n t upr lwr ab bl up lo) (wu : Int32) (w1 w2 w3 v1 v2 v3 v4 : Nat → Int32) (a1 a2 : Int32) : ∃ r7 r8, m_X7_age (nI n) (nI t) tr upr lwr wu w1 w2 w3 a1 a2 = some r7 ∧ m_X8_age (nI n) th fm tm ph (nI t) ab bl v1 v2 v3 v4 a1 a2 = some r8 ∧ r7.2.2.2.2 = r8.2.2.2.2 := by
  obtain ⟨un, av, rc, un', ov', rd', rg', k1, k2, k3, k4, k5, k6, k7, k8⟩ := webs hn ht h wu w1 w2 w3 v1 v2 v3 v4
  have hcy := cy_congr (n := n) (rc := rc) (rd := rd') k7
  obtain ⟨g1, g2, b1, b2, b3, b4⟩ := bnds hr
  unfold m_X7_age m_X8_age
  rw [k1, k2]
  rcases phase_cases a1 with ⟨h1, h2⟩ | ⟨p, hp, rfl, h1, h2⟩
  · rw [h1, h2]; exact ⟨_, _, rfl, rfl, rfl⟩
  simp only [h1, h2, cl_s, if_10, phase7 hn, phase8 hn]
  have eph : bs (fun u => decide (ph u = nI p)) n = bs (fun u => decide (tr (48 + u) = nI p)) n := bs_congr (fun u hu => by rw [(hr u hu).1.2.2.2.2])
  rw [eph]
  rcases in_cases a2 1 (by omega) with ⟨h3, h4⟩ | ⟨w, hw, rfl, h3⟩
  · have h3 : m_X8_in a2 0 1 = some 0 := h3
    have h4 : a2 < 0 ∨ (1 : Int32) < a2 := h4
    simp only [h3, cl_s, if_00]
    by_cases c : a2 < 0
    · rw [if_pos c]
      by_cases c3 : bs (fun u => decide (tr (48 + u) = nI p)) n = 0
      · rw [if_pos c3]; exact ⟨_, _, rfl, rfl, rfl⟩
      · rw [if_neg c3]; exact ⟨_, _, rfl, rfl, rfl⟩
    · rcases h4 with h4 | h4
      · exact absurd h4 c
      · rw [if_neg c, if_neg (not_le_of h4)]
        by_cases c3 : bs (fun u => decide (tr (48 + u) = nI p)) n = 0
        · rw [if_pos c3]; exact ⟨_, _, rfl, rfl, rfl⟩
        · rw [if_neg c3]; exact ⟨_, _, rfl, rfl, rfl⟩
  have h3 : m_X8_in (nI w) 0 1 = some 1 := h3
  have c1 : ¬ nI w < 0 := by rw [lt_l (k := 0) (by omega) (by omega)]; omega
  have c2 : nI w ≤ (1 : Int32) := by rw [le_l (k := 1) (by omega) (by omega)]; exact hw
  simp only [h3, cl_s, if_10, if_neg c1, if_pos c2]
  by_cases c3 : bs (fun u => decide (tr (48 + u) = nI p)) n = 0
  · rw [if_pos c3, if_pos c3]; exact ⟨_, _, rfl, rfl, rfl⟩
  rw [if_neg c3, if_neg c3]
  simp only [cyc7 hn, cyc8 hn, cl_s, if_c, hcy]
  by_cases hc : cy n rc = true
  · rw [if_pos hc, if_pos hc]; exact ⟨_, _, rfl, rfl, rfl⟩
  rw [if_neg hc, if_neg hc]
  obtain ⟨x, W, y1, y2, y3, y4⟩ := age_loop hn (un' := un') (ov' := ov') hr b1 b2 b3 b4 k7 k8 (nI p) (nI w)
  have y5 := age_gd y1 y2
  have y6 := GD_NO y5 (by omega) (by omega)
  have y7 := GD_add (GD_mono y5 (lo' := 1009) (hi' := 1071) (by omega) (by omega)) (GD_mono gd_halfc (lo' := 1009) (hi' := 1071) (by omega) (by omega)) (by omega) (by omega)
  have y8 := ND_ne (GD_NO y7 (by omega) (by omega))
  have e8 : ageR (un', ov', rd', rg') (nI w) x (nI W) = if nI w = 0 then some (un', ov', rd', rg', (ageV x W).toInt64) else some (un', ov', rd', rg', FP.d2l (FP.dadd (ageV x W) 4602678819172646912)) := by
    unfold ageR
    unfold ageV at y6 y8 ⊢
    by_cases c : W = 0
    · subst c
      rw [if_pos rfl] at y6 y8 ⊢
      rw [if_pos (show nI 0 = 0 from rfl), ND_jdk y6, cl_s, fgd_ok y8]
    · rw [if_neg c] at y6 y8 ⊢
      rw [if_neg (show ¬ nI W = 0 by rw [eq_l (k := 0) (by omega) (by omega)]; exact c), fgd_ok (ND_ne y6), ND_jdk y6, cl_s, fgd_ok y8]
  rw [y3, cl_s]
  have e9 := y4.trans e8
  refine ⟨(nI n, un, av, rc, if nI w = 0 then (ageV x W).toInt64 else FP.d2l (FP.dadd (ageV x W) 4602678819172646912)), (un', ov', rd', rg', if nI w = 0 then (ageV x W).toInt64 else FP.d2l (FP.dadd (ageV x W) 4602678819172646912)), ?_, ?_, rfl⟩
  · by_cases c : nI w = 0
    · rw [if_pos c, if_pos c, ND_told y6, cl_s]
    · rw [if_neg c, if_neg c, fgd_ok y8]
  · refine Eq.trans e9 ?_
    by_cases c : nI w = 0
    · rw [if_pos c, if_pos c]
    · rw [if_neg c, if_neg c]
