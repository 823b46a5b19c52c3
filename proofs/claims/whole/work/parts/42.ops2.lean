/-! ===== calls that only ask: chains ===== -/
theorem reach8 {n : Nat} (hn : n ≤ 12) (rc : Nat → Int32) {u : Nat} (hu : u < 12) : m_X5_reachersOf (nI n) rc (nI u) = some (bs (fun v => bt (rc v) u) n) := by
  unfold m_X5_reachersOf
  exact bsl (fun f i a => m_X5_reachersOf_L4 (nI n) rc (nI u) f a i (fun x2_4 x3_4 => some x2_4)) (fun a => some a) n (fun v => bt (rc v) u) (by omega)
    (fun f j a hj => by
      by_cases h : bt (rc j) u = true
      · simp (disch := omega) only [m_X5_reachersOf_L4, n_le, Nat.not_le.mpr hj, if_false, ag_n, hb7, cl_s, if_c, if_10, if_00, if_true, if_pos h, nI_1, lt_e]
      · simp (disch := omega) only [m_X5_reachersOf_L4, n_le, Nat.not_le.mpr hj, if_false, ag_n, hb7, cl_s, if_c, if_10, if_00, if_true, if_neg h, nI_1, lt_e])
    (fun f a => by simp (disch := omega) only [m_X5_reachersOf_L4, n_le, Nat.le_refl, if_true])
theorem o_below {n t : Nat} (hn : n ≤ 12) (ht : t ≤ 40) {upr lwr ab bl : Nat → Int32} {up lo : Nat → Nat} (h : RTi n t upr lwr ab bl up lo) (wu : Int32) (w1 w2 w3 v1 v2 v3 v4 : Nat → Int32) (a1 a2 : Int32) : ∃ r7 r8, m_X7_below (nI n) (nI t) upr lwr wu w1 w2 w3 a1 a2 = some r7 ∧ m_X8_below (nI n) (nI t) ab bl v1 v2 v3 v4 a1 a2 = some r8 ∧ r7.2.2.2.2 = r8.2.2.2.2 := by
  obtain ⟨un, av, rc, un', ov', rd', rg', k1, k2, k3, k4, k5, k6, k7, k8⟩ := webs hn ht h wu w1 w2 w3 v1 v2 v3 v4
  obtain ⟨hT, hd, he⟩ := id h
  have hT8 : TI n t ab bl up lo := fun k hk => by
    rw [(he k hk).1, (he k hk).2]; exact hT k hk
  unfold m_X7_below m_X8_below
  rcases unit_cases hn a1 with ⟨h1, h2⟩ | ⟨u, hu, rfl, h1, h2⟩
  · rw [h1, h2]
    exact ⟨_, _, rfl, rfl, rfl⟩
  have hu12 : u < 12 := by omega
  rw [h1, h2, cl_s, cl_s, if_10, if_10, k2, k1, cl_s, cl_s]
  by_cases c : a2 < 0
  · rw [if_pos c]
    have d0 : ¬ a2 = 0 := fun q => by subst q; exact absurd c (by decide)
    have d1 : ¬ a2 = 1 := fun q => by subst q; exact absurd c (by decide)
    have d2 : ¬ a2 = 2 := fun q => by subst q; exact absurd c (by decide)
    have d3 : ¬ a2 = 3 := fun q => by subst q; exact absurd c (by decide)
    have d4 : ¬ a2 = 4 := fun q => by subst q; exact absurd c (by decide)
    rw [if_neg d0, if_neg d1, if_neg d2, if_neg d3, if_neg d4]
    exact ⟨_, _, rfl, rfl, rfl⟩
  rw [if_neg c]
  by_cases c4 : a2 ≤ (4 : Int32)
  · rw [if_pos c4]
    by_cases c0 : a2 = 0
    · rw [if_pos c0, if_pos c0]
      simp only [ag_n hu12 (show 12 < 2147483648 by omega)]
      exact ⟨_, _, rfl, rfl, (k5 u hu12).symm⟩
    rw [if_neg c0, if_neg c0]
    by_cases c1 : a2 = 1
    · rw [if_pos c1, if_pos c1]
      simp only [ag_n hu12 (show 12 < 2147483648 by omega)]
      exact ⟨_, _, rfl, rfl, (k7 u hu).symm⟩
    rw [if_neg c1, if_neg c1]
    by_cases c2 : a2 = 2
    · rw [if_pos c2, if_pos c2]
      have e7 := red7 hn un rc hu12
      have e8 := redof8 hT8 hn ht (no_m1 ht) k4 hu
      simp only [e7, e8, cl_s]
      exact ⟨_, _, rfl, rfl, (ru_congr k5 k7 hu12).symm⟩
    rw [if_neg c2, if_neg c2]
    by_cases c3 : a2 = 3
    · rw [if_pos c3, if_pos c3]
      simp only [ag_n hu12 (show 12 < 2147483648 by omega)]
      exact ⟨_, _, rfl, rfl, (k6 u hu12).symm⟩
    rw [if_neg c3, if_neg c3]
    have c5 : a2 = 4 := by
      rw [← Int32.toInt_inj]
      rw [Int32.le_iff_toInt_le] at c4
      rw [Int32.lt_iff_toInt_lt] at c
      rw [← Int32.toInt_inj] at c0 c1 c2 c3
      have q0 : (0 : Int32).toInt = 0 := rfl
      have q1 : (1 : Int32).toInt = 1 := rfl
      have q2 : (2 : Int32).toInt = 2 := rfl
      have q3 : (3 : Int32).toInt = 3 := rfl
      have q4 : (4 : Int32).toInt = 4 := rfl
      omega
    rw [if_pos c5]
    have e7 := reach8 hn rc hu12
    simp only [e7, cl_s, ag_n hu12 (show 12 < 2147483648 by omega)]
    refine ⟨_, _, rfl, rfl, ?_⟩
    simp only
    rw [k8 u hu]
    exact bs_congr (fun v hv => by rw [k7 v hv])
  · rw [if_neg c4]
    have d0 : ¬ a2 = 0 := fun q => by subst q; exact absurd (show (0 : Int32) ≤ 4 by decide) c4
    have d1 : ¬ a2 = 1 := fun q => by subst q; exact absurd (show (1 : Int32) ≤ 4 by decide) c4
    have d2 : ¬ a2 = 2 := fun q => by subst q; exact absurd (show (2 : Int32) ≤ 4 by decide) c4
    have d3 : ¬ a2 = 3 := fun q => by subst q; exact absurd (show (3 : Int32) ≤ 4 by decide) c4
    have d4 : ¬ a2 = 4 := fun q => by subst q; exact absurd (show (4 : Int32) ≤ 4 by decide) c4
    rw [if_neg d0, if_neg d1, if_neg d2, if_neg d3, if_neg d4]
    exact ⟨_, _, rfl, rfl, rfl⟩
/-- the shown cycles of both -/
theorem shows_both {n t : Nat} (hn : n ≤ 12) {upr lwr : Nat → Int32} {up lo : Nat → Nat} (hT : TI n t upr lwr up lo) {un av rc un' ov' rd' : Nat → Int32} (k3 : WB n t up lo (-1) un av rc) (k4 : WB n t up lo (-1) un' ov' rd') (k7 : ∀ u, u < n → rd' u = rc u) (s7 b7 s8 f8 : Nat → Int32) : ∃ sh sb sh' fa ln, ln ≤ n ∧ (cy n rc = true → 1 ≤ ln) ∧ (cy n rc = false → ln = 0) ∧ m_X5_showCycle (nI n) un rc s7 b7 = some (sh, sb, nI ln) ∧ m_X8_shows (nI n) un' rd' s8 f8 = some (sh', fa, nI ln) ∧ (∀ i, i < ln → sh' i = sh i ∧ ∃ x, x < n ∧ sh i = nI x) := by
  cases hc : cy n rc with
  | false =>
    refine ⟨s7, b7, s8, f8, 0, Nat.zero_le n, fun q => absurd q Bool.false_ne_true, fun _ => rfl, show7_no hn un rc s7 b7 hc, show8_no hn un' rd' s8 f8 (by rw [cy_congr k7]; exact hc), fun i hi => by omega⟩
  | true =>
    obtain ⟨sh, sb, f0, ln, x, h1, h2, h3, h4, h5, h6, h7, h8⟩ := show7 hn (Ed_in hT) k3 hc s7 b7
    obtain ⟨sh', fa, h9, h10⟩ := show8 hn (Ed_in hT) k4 (f0 := f0) (ln := ln) (fun u hu => by rw [k7 u (by omega)]; exact h1 u hu) h2 (by rw [k7 f0 h2]; exact h3) h4 h5 h6 s8 f8
    refine ⟨sh, sb, sh', fa, ln, h5, fun _ => h4.1, fun q => absurd q.symm Bool.false_ne_true, h8, h10, fun i hi => ⟨by rw [h9 i hi, h7 i hi], x i, ?_, h7 i hi⟩⟩
    by_cases hi0 : i = 0
    · subst hi0; rw [h6.1]; exact h2
    · exact (Ed_in hT _ _ (h6.2 i (by omega) hi).1.1).2
theorem o_cycle {n t : Nat} (hn : n ≤ 12) (ht : t ≤ 40) {upr lwr ab bl : Nat → Int32} {up lo : Nat → Nat} (h : RTi n t upr lwr ab bl up lo) (wu : Int32) (w1 w2 w3 w4 w5 v1 v2 v3 v4 v5 v6 : Nat → Int32) (a1 : Int32) : ∃ r7 r8, m_X7_cycle (nI n) (nI t) upr lwr wu w1 w2 w3 w4 w5 a1 = some r7 ∧ m_X8_cycle (nI n) (nI t) ab bl v1 v2 v3 v4 v5 v6 a1 = some r8 ∧ r7.2.2.2.2.2.2 = r8.2.2.2.2.2.2 := by
  obtain ⟨un, av, rc, un', ov', rd', rg', k1, k2, k3, k4, k5, k6, k7, k8⟩ := webs hn ht h wu w1 w2 w3 v1 v2 v3 v4
  obtain ⟨sh, sb, sh', fa, ln, l1, l2, l3, l4, l5, l6⟩ := shows_both hn h.1 k3 k4 k7 w4 w5 v5 v6
  unfold m_X7_cycle m_X8_cycle
  by_cases c : (-1 : Int32) ≤ a1
  · rw [if_pos c, if_pos c, k1, k2, cl_s, cl_s]
    simp only [l4, l5, cl_s]
    by_cases c1 : a1 = -1
    · rw [if_pos c1, if_pos c1]; exact ⟨_, _, rfl, rfl, rfl⟩
    rw [if_neg c1, if_neg c1]
    rcases pk_ix a1 (n := ln) (by omega) with q | q | ⟨j, hj, rfl⟩
    · exfalso
      rw [Int32.lt_iff_toInt_lt] at q
      rw [Int32.le_iff_toInt_le] at c
      rw [← Int32.toInt_inj] at c1
      have q0 : (0 : Int32).toInt = 0 := rfl
      have q1 : (-1 : Int32).toInt = -1 := rfl
      omega
    · rw [if_pos q, if_pos q]; exact ⟨_, _, rfl, rfl, rfl⟩
    · have c2 : ¬ nI ln ≤ nI j := by rw [n_le (by omega) (by omega)]; omega
      rw [if_neg c2, if_neg c2]
      simp only [ag_n (show j < 12 by omega) (show 12 < 2147483648 by omega)]
      exact ⟨_, _, rfl, rfl, (l6 j hj).1.symm⟩
  · rw [if_neg c, if_neg c]; exact ⟨_, _, rfl, rfl, rfl⟩
theorem o_level {n t : Nat} (hn : n ≤ 12) (ht : t ≤ 40) {upr lwr ab bl : Nat → Int32} {up lo : Nat → Nat} (h : RTi n t upr lwr ab bl up lo) (wu : Int32) (w1 w2 w3 w4 v1 v2 v3 v4 v5 : Nat → Int32) (a1 : Int32) : ∃ r7 r8, m_X7_level (nI n) (nI t) upr lwr wu w1 w2 w3 w4 a1 = some r7 ∧ m_X8_level (nI n) (nI t) ab bl v1 v2 v3 v4 v5 a1 = some r8 ∧ r7.2.2.2.2.2 = r8.2.2.2.2.2 := by
  obtain ⟨un, av, rc, un', ov', rd', rg', k1, k2, k3, k4, k5, k6, k7, k8⟩ := webs hn ht h wu w1 w2 w3 v1 v2 v3 v4
  have hcy := cy_congr (n := n) (rc := rc) (rd := rd') k7
  unfold m_X7_level m_X8_level
  rcases unit_cases hn a1 with ⟨h1, h2⟩ | ⟨u, hu, rfl, h1, h2⟩
  · rw [h1, h2]
    exact ⟨_, _, rfl, rfl, rfl⟩
  rw [h1, h2, cl_s, cl_s, if_10, if_10, k2, k1, cl_s, cl_s]
  simp only [cyc7 hn, cyc8 hn, cl_s, if_c, hcy]
  by_cases hc : cy n rc = true
  · rw [if_pos hc, if_pos hc]; exact ⟨_, _, rfl, rfl, rfl⟩
  · obtain ⟨row, row', lv, m, m1, m2, -, -, m3, m4⟩ := levs hn ht h k3 (tt_of hc) w4 v5
    rw [if_neg hc, if_neg hc]
    simp only [m1, m2, cl_s, ag_n (show u < 12 by omega) (show 12 < 2147483648 by omega)]
    exact ⟨_, _, rfl, rfl, by simp only [m3 u hu, m4 u hu]⟩
/-- the k-th tie that says nothing more -/
def idv (p : Nat → Bool) (v : Nat → Int32) (a : Int32) : Nat → Nat → Int32 → Int32
  | 0, _, _ => -5
  | m + 1, j, x => if p j = true then idv p v a m (j + 1) x else if x = a then v j else idv p v a m (j + 1) (x + 1)
theorem o_idle {n t : Nat} (hn : n ≤ 12) (ht : t ≤ 40) {upr lwr ab bl : Nat → Int32} {up lo : Nat → Nat} (h : RTi n t upr lwr ab bl up lo) (wu : Int32) (w1 w2 w3 v1 v2 v3 v4 : Nat → Int32) (a1 : Int32) : ∃ r7 r8, m_X7_idle (nI n) (nI t) upr lwr wu w1 w2 w3 a1 = some r7 ∧ m_X8_idle (nI n) (nI t) ab bl v1 v2 v3 v4 a1 = some r8 ∧ r7.2.2.2.2 = r8.2.2.2.2 := by
  obtain ⟨un, av, rc, un', ov', rd', rg', k1, k2, k3, k4, k5, k6, k7, k8⟩ := webs hn ht h wu w1 w2 w3 v1 v2 v3 v4
  obtain ⟨hT, hd, he⟩ := id h
  have hT8 : TI n t ab bl up lo := fun k hk => by
    rw [(he k hk).1, (he k hk).2]; exact hT k hk
  unfold m_X7_idle m_X8_idle
  by_cases c : 0 ≤ a1
  · rw [if_pos c, if_pos c, k1, k2, cl_s, cl_s]
    have h7 : ∀ (m j f : Nat) (x : Int32), j + m = t → m < f → m_X7_idle_L15 (nI t) upr lwr a1 (nI n, un, av, rc) f x (nI j) (fun x2_15 x3_15 => some (nI n, un, av, rc, (-5 : Int32))) = some (nI n, un, av, rc, idv (fun k => bt (ru n un rc (up k)) (lo k)) (fun k => nI (100 * up k + lo k)) a1 m j x) := by
      intro m
      induction m with
      | zero =>
        intro j f x h1 h2
        obtain ⟨f, rfl⟩ : ∃ g, f = g + 1 := ⟨f - 1, by omega⟩
        simp (disch := omega) only [m_X7_idle_L15, n_le, show t ≤ j by omega, if_true]
        rfl
      | succ m ih =>
        intro j f x h1 h2
        obtain ⟨f, rfl⟩ : ∃ g, f = g + 1 := ⟨f - 1, by omega⟩
        obtain ⟨e1, e2, e3, e4⟩ := hT j (by omega)
        have hir := isred7 hn un rc (u := up j) (v := lo j) (by omega) (by omega)
        have htt : m_X2_tieTold upr lwr (nI j) = some (nI (100 * up j + lo j)) := by
          unfold m_X2_tieTold
          rw [ag_n (by omega) (by omega), ag_n (by omega) (by omega), e1, e2, litp100]
        rw [idv]
        by_cases hb : bt (ru n un rc (up j)) (lo j) = true
        · have := ih (j + 1) f x (by omega) (by omega)
          simp (disch := omega) only [m_X7_idle_L15, n_le, show ¬ t ≤ j by omega, if_false, ag_n, e1, e2, hir, cl_s, if_c, if_10, if_00, if_true, if_pos hb, nI_1]
          exact this
        · by_cases hx : x = a1
          · simp (disch := omega) only [m_X7_idle_L15, n_le, show ¬ t ≤ j by omega, if_false, ag_n, e1, e2, hir, cl_s, if_c, if_10, if_00, if_true, if_neg hb, if_pos hx, htt]
          · have := ih (j + 1) f (x + 1) (by omega) (by omega)
            simp (disch := omega) only [m_X7_idle_L15, n_le, show ¬ t ≤ j by omega, if_false, ag_n, e1, e2, hir, cl_s, if_c, if_10, if_00, if_true, if_neg hb, if_neg hx, nI_1]
            exact this
    have h8 : ∀ (m j f : Nat) (x : Int32), j + m = t → m < f → m_X8_idle_L14 (nI n) (nI t) ab bl a1 (un', ov', rd', rg') f x (nI j) (fun x2_14 x3_14 => some (un', ov', rd', rg', (-5 : Int32))) = some (un', ov', rd', rg', idv (fun k => bt (ru n un rc (up k)) (lo k)) (fun k => nI (100 * up k + lo k)) a1 m j x) := by
      intro m
      induction m with
      | zero =>
        intro j f x h1 h2
        obtain ⟨f, rfl⟩ : ∃ g, f = g + 1 := ⟨f - 1, by omega⟩
        simp (disch := omega) only [m_X8_idle_L14, n_le, show t ≤ j by omega, if_true]
        rfl
      | succ m ih =>
        intro j f x h1 h2
        obtain ⟨f, rfl⟩ : ∃ g, f = g + 1 := ⟨f - 1, by omega⟩
        obtain ⟨e1, e2, e3, e4⟩ := hT8 j (by omega)
        have hir := isred8 hT8 hn ht rd' (k := j) (by omega)
        have hsame : rdk n rd' (up j) (lo j) = bt (ru n un rc (up j)) (lo j) := by
          rw [← red_same hn (Ed_in hT) k4 ⟨j, by omega, no_m1 ht j (by omega), rfl, rfl⟩, ru_congr k5 k7 (by omega)]
        rw [hsame] at hir
        rw [idv]
        by_cases hb : bt (ru n un rc (up j)) (lo j) = true
        · have := ih (j + 1) f x (by omega) (by omega)
          simp (disch := omega) only [m_X8_idle_L14, n_le, show ¬ t ≤ j by omega, if_false, hir, cl_s, if_c, if_10, if_00, if_true, if_pos hb, nI_1]
          exact this
        · by_cases hx : x = a1
          · simp (disch := omega) only [m_X8_idle_L14, n_le, show ¬ t ≤ j by omega, if_false, ag_n, e1, e2, hir, cl_s, if_c, if_10, if_00, if_true, if_neg hb, if_pos hx, litp100]
          · have := ih (j + 1) f (x + 1) (by omega) (by omega)
            simp (disch := omega) only [m_X8_idle_L14, n_le, show ¬ t ≤ j by omega, if_false, hir, cl_s, if_c, if_10, if_00, if_true, if_neg hb, if_neg hx, nI_1]
            exact this
    have a7 := h7 t 0 FU 0 (by omega) (by unfold FU; omega)
    have a8 := h8 t 0 FU 0 (by omega) (by unfold FU; omega)
    exact ⟨_, _, a7, a8, rfl⟩
  · rw [if_neg c, if_neg c]; exact ⟨_, _, rfl, rfl, rfl⟩
