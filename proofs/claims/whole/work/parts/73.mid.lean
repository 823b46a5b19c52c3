/-! ===== the calls middle, rate, age ===== -/
theorem gd_two : GD 1024 1025 4611686018427387904 := Or.inr (by decide)
theorem ne_two : (4611686018427387904 : UInt64).toNat ≠ 0 := by decide
def midV (x y : Nat) : UInt64 := FP.ddiv (FP.dadd (FP.i2d (nI x)) (FP.i2d (nI y))) 4611686018427387904
theorem mid_gd {x y : Nat} (hx : x ≤ 2000) (hy : y ≤ 2000) : GD 1023 1037 (FP.dadd (FP.i2d (nI x)) (FP.i2d (nI y))) ∧ GD 1021 1037 (midV x y) := by
  have h1 := (GD_int (k := x) (j := 11) (by omega) (by omega)).1
  have h2 := (GD_int (k := y) (j := 11) (by omega) (by omega)).1
  have h3 := GD_add h1 h2 (by omega) (by omega)
  have h4 := GD_div h3 gd_two ne_two (by omega) (by omega) (by omega) (by omega) (K := 1021) (by omega) (by omega) (by omega) (by omega)
  exact ⟨GD_mono h3 (by omega) (by omega), GD_mono h4 (by omega) (by omega)⟩
theorem mid_both {n : Nat} (hn : n ≤ 12) {tr fm tm rc rd rg : Nat → Int32} {g1 g2 : Nat → Nat} (b1 : ∀ j, j < n → tr (24 + j) = nI (g1 j) ∧ g1 j ≤ 2000) (b2 : ∀ j, j < n → tr (36 + j) = nI (g2 j) ∧ g2 j ≤ 2000) (b3 : ∀ j, j < n → fm j = nI (g1 j) ∧ g1 j ≤ 2000) (b4 : ∀ j, j < n → tm j = nI (g2 j) ∧ g2 j ≤ 2000) (k7 : ∀ u, u < n → rd u = rc u) (k8 : ∀ c, c < n → rg c = bs (fun v => bt (rd v) c) n) {u : Nat} (hu : u < n) : m_X7_middleOf tr (nI n) rc (nI u) = some (midV (eU n rc g1 u) (lU n rc g2 u)) ∧ m_X8_middleOf (nI n) fm tm rd rg (nI u) = some (midV (eU n rc g1 u) (lU n rc g2 u)) ∧ GD 1021 1037 (midV (eU n rc g1 u) (lU n rc g2 u)) := by
  have q1 := eU_le (rc := rc) (fun i hi => (b1 i hi).2) hu
  have q2 := lU_le (rc := rc) (fun i hi => (b2 i hi).2) hu
  obtain ⟨p1, p2⟩ := mid_gd q1 q2
  have e1 : m_X5_earliest (nI n) rc tr (nI u) = some (nI (eU n rc g1 u)) := early7 hn rc tr b1 hu
  have e2 : m_X5_latest (nI n) rc tr (nI u) = some (nI (lU n rc g2 u)) := late7 hn rc tr b2 hu
  have e3 : m_X8_earliest (nI n) fm rd (nI u) = some (nI (eU n rc g1 u)) := by
    rw [early8 hn rd fm b3 hu]
    exact congrArg (fun z => some (nI z)) (eU_congr k7 hu)
  have e4 : m_X8_latest (nI n) tm rg (nI u) = some (nI (lU n rc g2 u)) := by
    rw [late8 hn rg tm b4 hu]
    have e5 : mn g2 (bt (rg u)) (g2 u) n = lU n rc g2 u := by
      rw [← lU_congr k7]
      unfold lU
      refine mn_congr (fun i hi => ?_)
      rw [k8 u hu, bt_bs _ (by omega) n (by omega)]
      simp [hi]
    rw [e5]
  have f1 := ND_ne (GD_NO p1 (by omega) (by omega))
  have f2 := ND_ne (GD_NO p2 (by omega) (by omega))
  refine ⟨?_, ?_, p2⟩
  · unfold m_X7_middleOf
    rw [e1, e2, cl_s, cl_s, fgd_ok f1]
    exact fgd_ok f2
  · unfold m_X8_middleOf
    rw [e3, e4, cl_s, cl_s, fgd_ok f1]
    exact fgd_ok f2
theorem o_middle {n t : Nat} (hn : n ≤ 12) (ht : t ≤ 40) {tr kd th fm tm ph upr lwr ab bl : Nat → Int32} {up lo : Nat → Nat} (hr : RTr n tr kd th fm tm ph) (h : RTi n t upr lwr ab bl up lo) (wu : Int32) (w1 w2 w3 v1 v2 v3 v4 : Nat → Int32) (a1 : Int32) : ∃ r7 r8, m_X7_middle (nI n) (nI t) tr upr lwr wu w1 w2 w3 a1 = some r7 ∧ m_X8_middle (nI n) fm tm (nI t) ab bl v1 v2 v3 v4 a1 = some r8 ∧ r7.2.2.2.2 = r8.2.2.2.2 := by
  obtain ⟨un, av, rc, un', ov', rd', rg', k1, k2, k3, k4, k5, k6, k7, k8⟩ := webs hn ht h wu w1 w2 w3 v1 v2 v3 v4
  have hcy := cy_congr (n := n) (rc := rc) (rd := rd') k7
  obtain ⟨g1, g2, b1, b2, b3, b4⟩ := bnds hr
  unfold m_X7_middle m_X8_middle
  rw [k1, k2, cl_s, cl_s]
  rcases unit_cases hn a1 with ⟨h1, h2⟩ | ⟨u, hu, rfl, h1, h2⟩
  · rw [h1, h2]; exact ⟨_, _, rfl, rfl, rfl⟩
  rw [h1, h2, cl_s, cl_s, if_10, if_10]
  simp only [cyc7 hn, cyc8 hn, cl_s, if_c, hcy]
  by_cases hc : cy n rc = true
  · rw [if_pos hc, if_pos hc]; exact ⟨_, _, rfl, rfl, rfl⟩
  · obtain ⟨m1, m2, m3⟩ := mid_both hn b1 b2 b3 b4 k7 k8 hu
    have m4 := GD_NO m3 (by omega) (by omega)
    rw [if_neg hc, if_neg hc]
    simp only [m1, m2, cl_s, ND_told m4, ND_jdk m4]
    exact ⟨_, _, rfl, rfl, rfl⟩
theorem o_rate {n t : Nat} (hn : n ≤ 12) (ht : t ≤ 40) {tr kd th fm tm ph upr lwr ab bl : Nat → Int32} {up lo : Nat → Nat} (hr : RTr n tr kd th fm tm ph) (h : RTi n t upr lwr ab bl up lo) (wu : Int32) (w1 w2 w3 v1 v2 v3 v4 : Nat → Int32) (a1 : Int32) : ∃ r7 r8, m_X7_rate (nI n) (nI t) tr upr lwr wu w1 w2 w3 a1 = some r7 ∧ m_X8_rate (nI n) th fm tm (nI t) ab bl v1 v2 v3 v4 a1 = some r8 ∧ r7.2.2.2.2 = r8.2.2.2.2 := by
  obtain ⟨un, av, rc, un', ov', rd', rg', k1, k2, k3, k4, k5, k6, k7, k8⟩ := webs hn ht h wu w1 w2 w3 v1 v2 v3 v4
  have hcy := cy_congr (n := n) (rc := rc) (rd := rd') k7
  obtain ⟨g1, g2, b1, b2, b3, b4⟩ := bnds hr
  unfold m_X7_rate m_X8_rate
  rw [k1, k2]
  rcases unit_cases hn a1 with ⟨h1, h2⟩ | ⟨u, hu, rfl, h1, h2⟩
  · rw [h1, h2]; exact ⟨_, _, rfl, rfl, rfl⟩
  rw [h1, h2]
  simp only [cl_s, if_10, cyc7 hn, cyc8 hn, if_c, hcy]
  by_cases hc : cy n rc = true
  · rw [if_pos hc, if_pos hc]; exact ⟨_, _, rfl, rfl, rfl⟩
  rw [if_neg hc, if_neg hc]
  have q1 := eU_le (rc := rc) (fun i hi => (b1 i hi).2) hu
  have q2 := lU_le (rc := rc) (fun i hi => (b2 i hi).2) hu
  have e1 : m_X5_earliest (nI n) rc tr (nI u) = some (nI (eU n rc g1 u)) := early7 hn rc tr b1 hu
  have e2 : m_X5_latest (nI n) rc tr (nI u) = some (nI (lU n rc g2 u)) := late7 hn rc tr b2 hu
  have e3 : m_X8_earliest (nI n) fm rd' (nI u) = some (nI (eU n rc g1 u)) := by
    rw [early8 hn rd' fm b3 hu]
    exact congrArg (fun z => some (nI z)) (eU_congr k7 hu)
  have e4 : m_X8_latest (nI n) tm rg' (nI u) = some (nI (lU n rc g2 u)) := by
    rw [late8 hn rg' tm b4 hu]
    have e5 : mn g2 (bt (rg' u)) (g2 u) n = lU n rc g2 u := by
      rw [← lU_congr k7]
      unfold lU
      refine mn_congr (fun i hi => ?_)
      rw [k8 u hu, bt_bs _ (by omega) n (by omega)]
      simp [hi]
    rw [e5]
  obtain ⟨⟨-, t2, -⟩, ⟨T, hT, t1⟩, -⟩ := hr u hu
  have e6 : m_X2_trait tr 1 (nI u) = some (nI T) := by
    have := trait7 tr (a := 1) (by omega) (show u < 12 by omega)
    rw [← t1]
    exact this
  have e7 : ∀ {β : Type} (k : Int32 → Option β), ag th 12 (nI u) k = k (nI T) := fun k => by
    rw [ag_n (show u < 12 by omega) (by omega), t2, t1]
  simp only [e1, e2, e3, e4, e6, e7, cl_s, lt_e]
  by_cases c : (1 : Int32) ≤ nI (lU n rc g2 u) - nI (eU n rc g1 u) + 1
  · have hY : ∃ Y, 1 ≤ Y ∧ Y ≤ 2001 ∧ nI (lU n rc g2 u) - nI (eU n rc g1 u) + 1 = nI Y := by
      by_cases d : eU n rc g1 u ≤ lU n rc g2 u
      · exact ⟨lU n rc g2 u - eU n rc g1 u + 1, by omega, by omega, by rw [n_subn d, nI_1]⟩
      · exfalso
        rw [Int32.le_iff_toInt_le] at c
        have f1 : (nI (lU n rc g2 u)).toInt = (lU n rc g2 u : Int) := nI_toInt (by omega)
        have f2 : (nI (eU n rc g1 u)).toInt = (eU n rc g1 u : Int) := nI_toInt (by omega)
        have f3 : (1 : Int32).toInt = 1 := rfl
        rw [Int32.toInt_add, Int32.toInt_sub, f1, f2, f3, Int.bmod_add_bmod, Int.bmod_eq_of_le (by omega) (by omega)] at c
        omega
    obtain ⟨Y, y1, y2, y3⟩ := hY
    rw [if_pos c, if_pos c, y3]
    have z1 := (GF_int (k := T) (j := 7) (by omega) (by omega)).1
    have z2 := GF_int (k := Y) (j := 11) (by omega) (by omega)
    have z3 : (FP.i2f (nI Y)).toNat ≠ 0 := fun q => by
      have := z2.2.mpr q
      omega
    have z4 := GF_NO (GF_div z1 z2.1 z3 (by omega) (by omega) (by omega) (by omega) (K := 115) (by omega) (by omega) (by omega) (by omega)) (by omega) (by omega)
    rw [fgf_ok (NF_ne z4), fgf_ok (NF_ne z4)]
    simp only [NF_told z4, NF_jdk z4, cl_s]
    exact ⟨_, _, rfl, rfl, rfl⟩
  · rw [if_neg c, if_neg c]
    have z : NF FP.fconst0 := Or.inl rfl
    simp only [NF_jdk z, cl_s]
    exact ⟨_, _, rfl, rfl, rfl⟩
