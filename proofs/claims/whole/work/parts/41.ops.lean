/-! ===== calls that only ask ===== -/
theorem dug_has {z : Int32} {u : Nat} (hu : u < 32) : ((z >>> (nI u &&& 31)) &&& (1 : Int32)) = if bt z u = true then 1 else 0 := b_ask z hu
theorem isdug7 {n d : Nat} (hn : n ≤ 12) {dr dg : Nat → Int32} {dn : Nat → Nat} (h : RDg n d dr dg dn) {u : Nat} (hu : u < 32) : ∃ z, m_X2_dugUnits (nI d) dr = some z ∧ m_X8_dugSet dg (nI d) = some z ∧ m_X2_isDug (nI d) dr (nI u) = some (if bt z u = true then 1 else 0) ∧ ∀ v, v < 32 → (bt z v = true ↔ ∃ k, k < d ∧ dn k = v) := by
  obtain ⟨z, h1, h2, h3⟩ := dug7 hn h
  refine ⟨z, h1, h2, ?_, h3⟩
  unfold m_X2_isDug
  rw [h1, cl_s, hb7 z hu, cl_s, zg_c]
theorem told_trait {n : Nat} {tr kd th fm tm ph : Nat → Int32} (hr : RTr n tr kd th fm tm ph) {u : Nat} (hu : u < n) (hn : n ≤ 12) {w : Nat} (hw : w < 5) : ∃ v, m_X7_traitTold tr (nI u) (nI w) = some v ∧ m_X8_heldBy kd th fm tm ph (nI u) (nI w) = some v := by
  obtain ⟨⟨e1, e2, e3, e4, e5⟩, -⟩ := hr u hu
  unfold m_X7_traitTold m_X8_heldBy
  rw [trait7 tr hw (show u < 12 by omega), cl_s]
  have hu12 : u < 12 := by omega
  rcases (show w = 0 ∨ w = 1 ∨ w = 2 ∨ w = 3 ∨ w = 4 by omega) with rfl | rfl | rfl | rfl | rfl
  · refine ⟨tr u, ?_, ?_⟩
    · rw [if_neg (by decide)]; simp
    · rw [if_pos (show nI 0 = 0 from rfl), ag_n hu12 (by omega), e1]
  · refine ⟨tr (12 + u), ?_, ?_⟩
    · rw [if_neg (by decide)]
    · rw [if_neg (by decide), if_pos (show nI 1 = 1 from rfl), ag_n hu12 (by omega), e2]
  · refine ⟨tr (24 + u), ?_, ?_⟩
    · rw [if_neg (by decide)]
    · rw [if_neg (by decide), if_neg (by decide), if_pos (show nI 2 = 2 from rfl), ag_n hu12 (by omega), e3]
  · refine ⟨tr (36 + u), ?_, ?_⟩
    · rw [if_neg (by decide)]
    · rw [if_neg (by decide), if_neg (by decide), if_neg (by decide), if_pos (show nI 3 = 3 from rfl), ag_n hu12 (by omega), e4]
  · rw [if_pos (show nI 4 = 4 from rfl), if_neg (show ¬ nI 4 = 0 by decide), if_neg (show ¬ nI 4 = 1 by decide), if_neg (show ¬ nI 4 = 2 by decide), if_neg (show ¬ nI 4 = 3 by decide), ag_n hu12 (by omega), e5]
    by_cases q : tr (48 + u) = -1
    · refine ⟨-5, ?_, ?_⟩
      · rw [if_pos q]
      · rw [if_pos q]
    · refine ⟨tr (48 + u), ?_, ?_⟩
      · rw [if_neg q]
      · rw [if_neg q, ag_n hu12 (by omega), e5]
theorem o_of {n d : Nat} (hn : n ≤ 12) {tr kd th fm tm ph dr dg : Nat → Int32} {dn : Nat → Nat} (hr : RTr n tr kd th fm tm ph) (hd : RDg n d dr dg dn) (a1 a2 : Int32) : ∃ r7 r8, m_X7_of (nI n) (nI d) tr dr a1 a2 = some r7 ∧ m_X8_of (nI n) kd th fm tm ph dg (nI d) a1 a2 = some r8 ∧ r7 = r8 := by
  unfold m_X7_of m_X8_of
  rcases unit_cases hn a1 with ⟨h1, h2⟩ | ⟨u, hu, rfl, h1, h2⟩
  · rw [h1, h2]
    exact ⟨_, _, rfl, rfl, rfl⟩
  · rw [h1, h2, cl_s, cl_s, if_10, if_10]
    rcases in_cases a2 5 (by omega) with ⟨h3, h4⟩ | ⟨w, hw, rfl, h3⟩
    · have h3 : m_X8_in a2 0 5 = some 0 := h3
      rw [h3, cl_s, if_00]
      rcases h4 with h4 | h4
      · rw [if_pos h4]; exact ⟨_, _, rfl, rfl, rfl⟩
      · have h4 : (5 : Int32) < a2 := h4
        by_cases h5 : a2 < 0
        · rw [if_pos h5]; exact ⟨_, _, rfl, rfl, rfl⟩
        · rw [if_neg h5, if_neg (not_le_of h4)]; exact ⟨_, _, rfl, rfl, rfl⟩
    · have h3 : m_X8_in (nI w) 0 5 = some 1 := h3
      have c1 : ¬ nI w < 0 := by rw [lt_l (k := 0) (by omega) (by omega)]; omega
      have c2 : nI w ≤ (5 : Int32) := by rw [le_l (k := 5) (by omega) (by omega)]; exact hw
      rw [h3, cl_s, if_10, if_neg c1, if_pos c2]
      by_cases h5 : w = 5
      · subst h5
        obtain ⟨z, z1, z2, z3, -⟩ := isdug7 hn hd (u := u) (by omega)
        rw [if_pos (show nI 5 = 5 from rfl), if_pos (show nI 5 = 5 from rfl), z3, cl_s, z2, cl_s, if_c, dug_has (by omega)]
        by_cases hb : bt z u = true
        · rw [if_pos hb, if_pos hb]; exact ⟨_, _, rfl, rfl, rfl⟩
        · rw [if_neg hb, if_neg hb]; exact ⟨_, _, rfl, rfl, rfl⟩
      · have h6 : ¬ nI w = 5 := by rw [eq_l (k := 5) (by omega) (by omega)]; exact h5
        obtain ⟨v, v1, v2⟩ := told_trait hr hu hn (w := w) (by omega)
        rw [if_neg h6, if_neg h6, v1, v2]
        exact ⟨_, _, rfl, rfl, rfl⟩
theorem phases7 {n : Nat} (hn : n ≤ 12) {tr kd th fm tm ph : Nat → Int32} (hr : RTr n tr kd th fm tm ph) : ∃ z, m_X7_phasesInUse (nI n) tr = some z ∧ m_X8_phaseBits (nI n) ph = some z := by
  have h7 : m_X7_phasesInUse (nI n) tr = some (bs (fun p => !decide (bs (fun u => decide (tr (48 + u) = nI p)) n = 0)) 6) := by
    unfold m_X7_phasesInUse
    exact bsl (fun f i a => m_X7_phasesInUse_L4 (nI n) tr f a i (fun x1_4 x2_4 => some x1_4)) (fun a => some a) 6 (fun p => !decide (bs (fun u => decide (tr (48 + u) = nI p)) n = 0)) (by omega)
      (fun f j a hj => by
        by_cases h : bs (fun u => decide (tr (48 + u) = nI j)) n = 0
        · simp (disch := omega) only [m_X7_phasesInUse_L4, l_le (k := 6), Nat.not_le.mpr hj, if_false, phase7 hn, cl_s, h, if_true, nI_1, decide_true, Bool.not_true, Bool.false_eq_true]
        · simp (disch := omega) only [m_X7_phasesInUse_L4, l_le (k := 6), Nat.not_le.mpr hj, if_false, phase7 hn, cl_s, if_neg h, h, nI_1, decide_false, Bool.not_false, if_true, lt_e])
      (fun f a => by simp (disch := omega) only [m_X7_phasesInUse_L4, l_le (k := 6), Nat.le_refl, if_true])
  obtain ⟨y, h3, h4⟩ := lpx (fun f i (a : Int32) => m_X8_phaseBits_L4 (nI n) ph f a i (fun x1_4 x2_4 => some x1_4)) (fun a => some a) n (fun j s => ∀ v, v < 32 → (bt s v = true ↔ ∃ u, u < j ∧ ph u = nI v))
    (fun f j s hj hs => by
      obtain ⟨⟨-, -, -, -, e5⟩, -, -, -, hp⟩ := hr j hj
      rcases hp with hp | ⟨p, hp6, hp⟩
      · have e : ph j = -1 := e5.trans hp
        refine ⟨s ||| 0, by simp (disch := omega) only [m_X8_phaseBits_L4, n_le, Nat.not_le.mpr hj, if_false, ag_n, if_pos e, nI_1], fun v hv => ?_⟩
        rw [or_00, hs v hv]
        constructor
        · rintro ⟨u, q1, q2⟩; exact ⟨u, by omega, q2⟩
        · rintro ⟨u, q1, q2⟩
          by_cases hq : u = j
          · subst hq
            rw [e, m1_n (by omega)] at q2
            exact q2.elim
          · exact ⟨u, by omega, q2⟩
      · have e : ph j = nI p := e5.trans hp
        have e2 : ¬ ph j = -1 := by rw [e, n_m1 (by omega)]; exact id
        refine ⟨s ||| ((1 : Int32) <<< (nI p &&& 31)), by simp (disch := omega) only [m_X8_phaseBits_L4, n_le, Nat.not_le.mpr hj, if_false, ag_n, if_neg e2, e, nI_1, lt_e, n_m1], fun v hv => ?_⟩
        rw [b_or, b_sh (by omega) hv, Bool.or_eq_true, hs v hv, decide_eq_true_eq]
        constructor
        · rintro (⟨u, q1, q2⟩ | rfl)
          · exact ⟨u, by omega, q2⟩
          · exact ⟨j, by omega, e⟩
        · rintro ⟨u, q1, q2⟩
          by_cases hq : u = j
          · subst hq
            rw [e, n_eq (by omega) (by omega)] at q2
            exact Or.inr q2.symm
          · exact Or.inl ⟨u, by omega, q2⟩)
    (fun f a _ => by simp (disch := omega) only [m_X8_phaseBits_L4, n_le, Nat.le_refl, if_true]) 0 0 (by omega) (by omega) (fun v hv => by
      rw [b_0]
      constructor
      · intro q; cases q
      · rintro ⟨u, q, -⟩; omega)
  have e : y = bs (fun p => !decide (bs (fun u => decide (tr (48 + u) = nI p)) n = 0)) 6 := by
    apply b_ext
    intro v hv
    apply Bool.eq_iff_iff.mpr
    rw [h3 v hv, bt_bs _ hv 6 (by omega), Bool.and_eq_true, decide_eq_true_eq, Bool.not_eq_true', decide_eq_false_iff_not, bs_ne (by omega)]
    constructor
    · rintro ⟨u, q1, q2⟩
      obtain ⟨⟨-, -, -, -, e5⟩, -, -, -, hp⟩ := hr u q1
      have hv6 : v < 6 := by
        rcases hp with hp | ⟨p, hp6, hp⟩
        · rw [e5, hp, m1_n (by omega)] at q2; exact q2.elim
        · rw [e5, hp, n_eq (by omega) (by omega)] at q2; omega
      refine ⟨hv6, fun q => q ?_⟩
      refine Nat.lt_of_not_le (fun q3 => ?_)
      have := ff_no (fun u => decide (tr (48 + u) = nI v)) n u (by omega)
      rw [← e5, q2] at this
      simp at this
    · rintro ⟨q1, q2⟩
      have q2 := Classical.not_not.mp q2
      have hy := ff_yes (fun u => decide (tr (48 + u) = nI v)) n q2
      rw [decide_eq_true_eq] at hy
      exact ⟨_, q2, by rw [(hr _ q2).1.2.2.2.2]; exact hy⟩
  subst e
  exact ⟨_, h7, h4⟩
/-- the levels of both -/
theorem levs {n t : Nat} {upr lwr ab bl : Nat → Int32} {up lo : Nat → Nat} (hn : n ≤ 12) (ht : t ≤ 40) (h : RTi n t upr lwr ab bl up lo) {un av rc : Nat → Int32} (hW : WB n t up lo (-1) un av rc) (hc : cy n rc = false) (l7 l8 : Nat → Int32) : ∃ (row row' : Nat → Int32) (lv : Nat → Nat) (m : Nat), m_X5_rankLevels (nI n) un l7 = some (row, nI m) ∧ m_X8_levelsOf (nI n) (nI t) ab bl l8 = some (row', nI m) ∧ m ≤ n ∧ (∀ u, u < n → lv u < m) ∧ (∀ u, u < n → row u = nI (lv u)) ∧ ∀ u, u < n → row' u = nI (lv u) := by
  obtain ⟨hT, hd, he⟩ := h
  have hT8 : TI n t ab bl up lo := fun k hk => by
    rw [(he k hk).1, (he k hk).2]; exact hT k hk
  obtain ⟨row, lv, m, h1, h2, h3⟩ := rank7 hn (Ed_in hT) hW hc l7
  obtain ⟨row', h4, h5⟩ := rank8 hT8 hn ht (no_m1 ht) h1 l8
  exact ⟨row, row', lv, m, h3, h5, h1.2.2.2.2, h1.1, h2, h4⟩
theorem o_told {n t d : Nat} (hn : n ≤ 12) (ht : t ≤ 40) {tr kd th fm tm ph upr lwr ab bl : Nat → Int32} {up lo : Nat → Nat} (hr : RTr n tr kd th fm tm ph) (h : RTi n t upr lwr ab bl up lo) (wu : Int32) (w1 w2 w3 w4 v1 v2 v3 v4 v5 : Nat → Int32) (a1 : Int32) : ∃ r7 r8, m_X7_told (nI n) (nI t) (nI d) tr upr lwr wu w1 w2 w3 w4 a1 = some r7 ∧ m_X8_told (nI n) ph (nI t) ab bl (nI d) v1 v2 v3 v4 v5 a1 = some r8 ∧ r7.2.2.2.2.2 = r8.2.2.2.2.2 := by
  obtain ⟨un, av, rc, un', ov', rd', rg', k1, k2, k3, k4, k5, k6, k7, k8⟩ := webs hn ht h wu w1 w2 w3 v1 v2 v3 v4
  obtain ⟨hT, hd, he⟩ := id h
  have hT8 : TI n t ab bl up lo := fun k hk => by
    rw [(he k hk).1, (he k hk).2]; exact hT k hk
  have hcy := cy_congr (n := n) (rc := rc) (rd := rd') k7
  unfold m_X7_told m_X8_told
  rw [k2, cl_s, k1, cl_s, cl_s, cl_s]
  by_cases c0 : a1 = 0
  · rw [if_pos c0, if_pos c0]; exact ⟨_, _, rfl, rfl, rfl⟩
  rw [if_neg c0, if_neg c0]
  by_cases c1 : a1 = 1
  · rw [if_pos c1, if_pos c1]; exact ⟨_, _, rfl, rfl, rfl⟩
  rw [if_neg c1, if_neg c1]
  by_cases c2 : a1 = 2
  · rw [if_pos c2, if_pos c2]
    have e7 := many7 hn (Ed_in hT) k3
    have e8 := many8 hT8 hn ht rd'
    have e9 : cn (fun k => rdk n rd' (up k) (lo k)) t = cn (fun k => rdk n rc (up k) (lo k)) t := by
      refine cn_congr (fun k hk => ?_)
      obtain ⟨-, -, q1, q2⟩ := hT k hk
      rw [← red_same hn (Ed_in hT) k4 ⟨k, hk, no_m1 ht k hk, rfl, rfl⟩, ← red_same hn (Ed_in hT) k3 ⟨k, hk, no_m1 ht k hk, rfl, rfl⟩, ru_congr k5 k7 (by omega)]
    simp only [e7, e8, cl_s]
    refine ⟨_, _, rfl, rfl, ?_⟩
    simp only
    rw [many_same hT hd hn (no_m1 ht) k3, e9]
  rw [if_neg c2, if_neg c2]
  by_cases c3 : a1 = 3
  · rw [if_pos c3, if_pos c3]
    simp only [cyc7 hn, cyc8 hn, cl_s, if_c, hcy]
    by_cases hc : cy n rc = true
    · rw [if_pos hc, if_pos hc]; exact ⟨_, _, rfl, rfl, rfl⟩
    · obtain ⟨row, row', lv, m, m1, m2, -⟩ := levs hn ht h k3 (tt_of hc) w4 v5
      rw [if_neg hc, if_neg hc]
      simp only [m1, m2, cl_s]
      exact ⟨_, _, rfl, rfl, rfl⟩
  rw [if_neg c3, if_neg c3]
  by_cases c4 : a1 = 4
  · rw [if_pos c4, if_pos c4]
    have e : bs (fun u => bt (rd' u) u) n = bs (fun u => bt (rc u) u) n := bs_congr (fun u hu => by rw [k7 u hu])
    simp only [self7 hn, round8 hn, cl_s, e, pop_bs hn, size8, cn_bs hn]
    exact ⟨_, _, rfl, rfl, rfl⟩
  rw [if_neg c4, if_neg c4]
  by_cases c5 : a1 = 5
  · rw [if_pos c5, if_pos c5]; exact ⟨_, _, rfl, rfl, rfl⟩
  rw [if_neg c5, if_neg c5]
  by_cases c6 : a1 = 6
  · obtain ⟨z, z1, z2⟩ := phases7 hn hr
    rw [if_pos c6, if_pos c6, z1, z2]
    exact ⟨_, _, rfl, rfl, rfl⟩
  rw [if_neg c6, if_neg c6]
  exact ⟨_, _, rfl, rfl, rfl⟩
