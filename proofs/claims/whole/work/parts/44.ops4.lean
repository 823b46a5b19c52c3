/-! ===== calls that only ask: the proof, phases, dates, in both ===== -/
theorem proof_both {n t : Nat} (hn : n ≤ 12) (ht : t ≤ 40) {tr kd th fm tm ph upr lwr ab bl : Nat → Int32} {up lo : Nat → Nat} (hr : RTr n tr kd th fm tm ph) (h : RTi n t upr lwr ab bl up lo) (wu : Int32) (w1 w2 w3 w4 w5 w6 : Nat → Int32) (w7 : Int32) (v1 v2 v3 v4 v5 v6 : Nat → Int32) (co ca la : Int32) : ∃ un av rc num size sh sb r8 v, m_X7_woven (nI n) (nI t) upr lwr wu w1 w2 w3 = some (nI n, un, av, rc) ∧ m_X3_examine w6 w7 (nI n) tr (nI n) un rc w4 w5 = some (num, size, sh, sb) ∧ m_X8_proves (nI n) kd fm tm ph (nI t) ab bl v1 v2 v3 v4 v5 v6 co ca la = some r8 ∧ VALR num size v ∧ r8.2.2.2.2.2.2.1 = v.1 ∧ (¬ v.1 = 0 → r8.2.2.2.2.2.2.2.1 = v.2.1 ∧ r8.2.2.2.2.2.2.2.2 = v.2.2) := by
  obtain ⟨un, av, rc, un', ov', rd', rg', k1, k2, k3, k4, k5, k6, k7, k8⟩ := webs hn ht h wu w1 w2 w3 v1 v2 v3 v4
  have hcy := cy_congr (n := n) (rc := rc) (rd := rd') k7
  cases hc : cy n rc with
  | false =>
    obtain ⟨hT, hd, he⟩ := h
    have hT8 : TI n t ab bl up lo := fun k hk => by
      rw [(he k hk).1, (he k hk).2]; exact hT k hk
    obtain ⟨g1, g2, q1, q2, q3, q4⟩ := bnds hr
    obtain ⟨num, size, e1, e2⟩ := exam7 hn un rc tr w6 w4 w5 w7 q1 q2 hc
    obtain ⟨co', ca', la', e3, e4, e5⟩ := proves8 (kd := kd) (ph := ph) hn ht hT8 q3 q4 k2 k4 k8 (hcy.trans hc) v5 v6 co ca la
    have ev := VS_congr (g1 := g1) (g2 := g2) hn k5 k7 (fun u hu => (hr u hu).1.2.2.2.2) (fun u hu => (hr u hu).1.1)
    rw [ev] at e3 e4
    refine ⟨un, av, rc, num, size, w4, w5, _, _, k1, e2, e5, e1, e3, fun q => ?_⟩
    have q := e4 q
    exact ⟨by rw [← q], by rw [← q]⟩
  | true =>
    obtain ⟨sh, sb, sh', fa, ln, l1, l2, l3, l4, l5, l6⟩ := shows_both hn h.1 k3 k4 k7 w4 w5 v5 v6
    obtain ⟨g, ⟨g0, g1, g2⟩, hg⟩ := write7 w6 0 1 (sh 0) (nI ln)
    refine ⟨un, av, rc, g, 3, sh, sb, (un', ov', rd', rg', sh', fa, 1, sh' 0, nI ln), (1, sh 0, nI ln), k1, ?_, ?_, ?_, rfl, fun _ => ⟨(l6 0 (by have := l2 hc; omega)).1, rfl⟩⟩
    · unfold m_X3_examine
      rw [cyc7 hn, cl_s, if_c, if_pos hc, l4, cl_s]
      have e : ∀ k : Int32 → Option ((Nat → Int32) × Int32 × (Nat → Int32) × (Nat → Int32)), ag sh 12 0 k = k (sh 0) := fun k => ag_n (j := 0) (by omega) (by omega)
      show ag sh 12 0 _ = _
      rw [e, hg]
      rfl
    · unfold m_X8_proves
      rw [k2, cl_s]
      have e : ∀ k : Int32 → Option ((Nat → Int32) × (Nat → Int32) × (Nat → Int32) × (Nat → Int32) × (Nat → Int32) × (Nat → Int32) × Int32 × Int32 × Int32), ag sh' 12 0 k = k (sh' 0) := fun k => ag_n (j := 0) (by omega) (by omega)
      have hc2 : cy n rd' = true := hcy.trans hc
      simp only [cyc8 hn, cl_s, if_c, if_pos hc2, l5, e, if_10]
      unfold m_X8_faults
      rw [if_pos rfl, cl_s]
    · exact Or.inr (Or.inr ⟨show ¬ (1 : Int32) = 0 by decide, rfl, g0, g1, g2⟩)
theorem o_proof {n t : Nat} (hn : n ≤ 12) (ht : t ≤ 40) {tr kd th fm tm ph upr lwr ab bl : Nat → Int32} {up lo : Nat → Nat} (hr : RTr n tr kd th fm tm ph) (h : RTi n t upr lwr ab bl up lo) (wu : Int32) (w1 w2 w3 w4 w5 w6 : Nat → Int32) (w7 : Int32) (v1 v2 v3 v4 v5 v6 : Nat → Int32) (co ca la : Int32) (a1 : Int32) : ∃ r7 r8, m_X7_proof (nI n) (nI t) tr upr lwr wu w1 w2 w3 w4 w5 w6 w7 a1 = some r7 ∧ m_X8_proof (nI n) kd fm tm ph (nI t) ab bl v1 v2 v3 v4 v5 v6 co ca la a1 = some r8 ∧ r7.2.2.2.2.2.2.2.2 = r8.2.2.2.2.2.2.2.2.2 := by
  unfold m_X7_proof m_X8_proof
  by_cases c : 0 ≤ a1
  · obtain ⟨un, av, rc, num, size, sh, sb, r8, v, k1, k2, k3, k4, k5, k6⟩ := proof_both hn ht hr h wu w1 w2 w3 w4 w5 w6 w7 v1 v2 v3 v4 v5 v6 co ca la
    obtain ⟨q1, q2, q3, q4, q5, q6, q7, q8, q9⟩ := r8
    have k6 : ¬ v.1 = 0 → q8 = v.2.1 ∧ q9 = v.2.2 := k6
    have e := pf_same k4 (show q7 = v.1 from k5) k6 c
    rw [if_pos c, if_pos c, k1, cl_s]
    simp only [k2, k3, cl_s]
    by_cases c1 : size ≤ a1
    · rw [if_pos c1] at e ⊢
      by_cases c2 : a1 = 0
      · rw [if_pos c2] at e ⊢
        exact ⟨_, _, rfl, rfl, Option.some.inj e⟩
      rw [if_neg c2] at e ⊢
      by_cases c3 : q7 = 0
      · rw [if_pos c3] at e ⊢
        exact ⟨_, _, rfl, rfl, Option.some.inj e⟩
      rw [if_neg c3] at e ⊢
      by_cases c4 : a1 ≤ (2 : Int32)
      · rw [if_pos c4] at e ⊢
        by_cases c5 : a1 = 1
        · rw [if_pos c5] at e ⊢
          exact ⟨_, _, rfl, rfl, Option.some.inj e⟩
        · rw [if_neg c5] at e ⊢
          exact ⟨_, _, rfl, rfl, Option.some.inj e⟩
      · rw [if_neg c4] at e ⊢
        exact ⟨_, _, rfl, rfl, Option.some.inj e⟩
    · rw [if_neg c1] at e ⊢
      have hj : ∃ j, j < 3 ∧ a1 = nI j := by
        rcases pk_ix a1 (n := 3) (by omega) with q | q | q
        · exfalso
          rw [Int32.lt_iff_toInt_lt] at q
          rw [Int32.le_iff_toInt_le] at c
          omega
        · exfalso
          have q3 : (3 : Int32) ≤ a1 := q
          apply c1
          have t3 : (3 : Int32).toInt = 3 := rfl
          have t2 : (2 : Int32).toInt = 2 := rfl
          have t1 : (1 : Int32).toInt = 1 := rfl
          rw [Int32.le_iff_toInt_le] at q3 ⊢
          rcases k4 with ⟨-, e, -⟩ | ⟨-, e, -⟩ | ⟨-, e, -⟩ <;> subst e <;> omega
        · exact q
      obtain ⟨j, hj, rfl⟩ := hj
      have eg : ∀ {β : Type} (k : Int32 → Option β), ag num 3 (nI j) k = k (num j) := fun k => ag_n hj (by omega)
      rw [eg] at e ⊢
      by_cases c2 : nI j = 0
      · rw [if_pos c2] at e ⊢
        exact ⟨_, _, rfl, rfl, Option.some.inj e⟩
      rw [if_neg c2] at e ⊢
      by_cases c3 : q7 = 0
      · rw [if_pos c3] at e ⊢
        exact ⟨_, _, rfl, rfl, Option.some.inj e⟩
      rw [if_neg c3] at e ⊢
      by_cases c4 : nI j ≤ (2 : Int32)
      · rw [if_pos c4] at e ⊢
        by_cases c5 : nI j = 1
        · rw [if_pos c5] at e ⊢
          exact ⟨_, _, rfl, rfl, Option.some.inj e⟩
        · rw [if_neg c5] at e ⊢
          exact ⟨_, _, rfl, rfl, Option.some.inj e⟩
      · rw [if_neg c4] at e ⊢
        exact ⟨_, _, rfl, rfl, Option.some.inj e⟩
  · rw [if_neg c, if_neg c]
    exact ⟨_, _, rfl, rfl, rfl⟩
/-- is it a phase -/
theorem phase_cases (a : Int32) : (m_X7_isPhase a = some 0 ∧ m_X8_isPhase a = some 0) ∨ ∃ p, p < 6 ∧ a = nI p ∧ m_X7_isPhase a = some 1 ∧ m_X8_isPhase a = some 1 := by
  unfold m_X7_isPhase m_X8_isPhase
  rcases in_cases a 5 (by omega) with ⟨h3, h4⟩ | ⟨w, hw, rfl, h3⟩
  · have h3 : m_X8_in a 0 5 = some 0 := h3
    left
    rw [h3, cl_s, zg_0]
    refine ⟨?_, rfl⟩
    rcases h4 with h4 | h4
    · rw [if_pos h4]
    · have h4 : (5 : Int32) < a := h4
      have h6 : (6 : Int32) ≤ a := by
        rw [Int32.lt_iff_toInt_lt] at h4
        rw [Int32.le_iff_toInt_le]
        have t5 : (5 : Int32).toInt = 5 := rfl
        have t6 : (6 : Int32).toInt = 6 := rfl
        omega
      by_cases h5 : a < 0
      · rw [if_pos h5]
      · rw [if_neg h5, if_pos h6]
  · have h3 : m_X8_in (nI w) 0 5 = some 1 := h3
    right
    refine ⟨w, by omega, rfl, ?_⟩
    have c1 : ¬ nI w < 0 := by rw [lt_l (k := 0) (by omega) (by omega)]; omega
    have c2 : ¬ (6 : Int32) ≤ nI w := by rw [l_le (k := 6) (by omega) (by omega)]; omega
    rw [h3, cl_s, zg_1, if_neg c1, if_neg c2]
    exact ⟨rfl, rfl⟩
theorem o_over {n t : Nat} (hn : n ≤ 12) (ht : t ≤ 40) {tr kd th fm tm ph upr lwr ab bl : Nat → Int32} {up lo : Nat → Nat} (hr : RTr n tr kd th fm tm ph) (h : RTi n t upr lwr ab bl up lo) (wu : Int32) (w1 w2 w3 v1 v2 v3 v4 : Nat → Int32) (a1 a2 : Int32) : ∃ r7 r8, m_X7_over (nI n) (nI t) tr upr lwr wu w1 w2 w3 a1 a2 = some r7 ∧ m_X8_over (nI n) ph (nI t) ab bl v1 v2 v3 v4 a1 a2 = some r8 ∧ r7.2.2.2.2 = r8.2.2.2.2 := by
  obtain ⟨un, av, rc, un', ov', rd', rg', k1, k2, k3, k4, k5, k6, k7, k8⟩ := webs hn ht h wu w1 w2 w3 v1 v2 v3 v4
  unfold m_X7_over m_X8_over
  rcases phase_cases a1 with ⟨h1, h2⟩ | ⟨p, hp, rfl, h1, h2⟩
  · rw [h1, h2]; exact ⟨_, _, rfl, rfl, rfl⟩
  rcases phase_cases a2 with ⟨h3, h4⟩ | ⟨q, hq, rfl, h3, h4⟩
  · rw [h1, h2, cl_s, cl_s, if_10, if_10, h3, h4]; exact ⟨_, _, rfl, rfl, rfl⟩
  rw [h1, h2, cl_s, cl_s, if_10, if_10, h3, h4, cl_s, cl_s, if_10, if_10]
  by_cases c : nI p = nI q
  · rw [if_pos c, if_pos c]; exact ⟨_, _, rfl, rfl, rfl⟩
  rw [if_neg c, if_neg c, k1, k2, cl_s, cl_s]
  have e := ov_congr (nI p) (nI q) k7 (fun u hu => (hr u hu).1.2.2.2.2)
  simp only [over7 hn, over8 hn, cl_s, if_c, e]
  by_cases c2 : ov n rc (fun u => tr (48 + u)) (nI p) (nI q) = true
  · rw [if_pos c2, if_pos c2]; exact ⟨_, _, rfl, rfl, rfl⟩
  · rw [if_neg c2, if_neg c2]; exact ⟨_, _, rfl, rfl, rfl⟩
theorem o_rank {n t : Nat} (hn : n ≤ 12) (ht : t ≤ 40) {tr kd th fm tm ph upr lwr ab bl : Nat → Int32} {up lo : Nat → Nat} (hr : RTr n tr kd th fm tm ph) (h : RTi n t upr lwr ab bl up lo) (wu : Int32) (w1 w2 w3 v1 v2 v3 v4 : Nat → Int32) (a1 : Int32) : ∃ r7 r8, m_X7_rank (nI n) (nI t) tr upr lwr wu w1 w2 w3 a1 = some r7 ∧ m_X8_rank (nI n) ph (nI t) ab bl v1 v2 v3 v4 a1 = some r8 ∧ r7.2.2.2.2 = r8.2.2.2.2 := by
  obtain ⟨un, av, rc, un', ov', rd', rg', k1, k2, k3, k4, k5, k6, k7, k8⟩ := webs hn ht h wu w1 w2 w3 v1 v2 v3 v4
  unfold m_X7_rank m_X8_rank
  rcases phase_cases a1 with ⟨h1, h2⟩ | ⟨p, hp, rfl, h1, h2⟩
  · rw [h1, h2]; exact ⟨_, _, rfl, rfl, rfl⟩
  have e : pu n rd' ph = pu n rc (fun u => tr (48 + u)) := funext (fun p => pu_congr p k7 (fun u hu => (hr u hu).1.2.2.2.2))
  have ec := rank_cnt (o := pu n rc (fun u => tr (48 + u))) (fun p _ v hv hb => pu_lo hv hb) hp
  rw [h1, h2, cl_s, cl_s, if_10, if_10, k1, k2, cl_s, cl_s, lt_e]
  simp only [under7 hn rc tr hp, cl_s, rank7_22 hn tr (nI n, un, av, rc) rfl, rank8_19 hn ph (un', ov', rd', rg'), ec, e, size8]
  exact ⟨_, _, rfl, rfl, rfl⟩
theorem o_bounds {n t : Nat} (hn : n ≤ 12) (ht : t ≤ 40) {tr kd th fm tm ph upr lwr ab bl : Nat → Int32} {up lo : Nat → Nat} (hr : RTr n tr kd th fm tm ph) (h : RTi n t upr lwr ab bl up lo) (wu : Int32) (w1 w2 w3 v1 v2 v3 v4 : Nat → Int32) (a1 a2 : Int32) : ∃ r7 r8, m_X7_bounds (nI n) (nI t) tr upr lwr wu w1 w2 w3 a1 a2 = some r7 ∧ m_X8_bounds (nI n) fm tm (nI t) ab bl v1 v2 v3 v4 a1 a2 = some r8 ∧ r7.2.2.2.2 = r8.2.2.2.2 := by
  obtain ⟨un, av, rc, un', ov', rd', rg', k1, k2, k3, k4, k5, k6, k7, k8⟩ := webs hn ht h wu w1 w2 w3 v1 v2 v3 v4
  have hcy := cy_congr (n := n) (rc := rc) (rd := rd') k7
  obtain ⟨g1, g2, q1, q2, q3, q4⟩ := bnds hr
  unfold m_X7_bounds m_X8_bounds
  rcases unit_cases hn a1 with ⟨h1, h2⟩ | ⟨u, hu, rfl, h1, h2⟩
  · rw [h1, h2]; exact ⟨_, _, rfl, rfl, rfl⟩
  rw [h1, h2, cl_s, cl_s, if_10, if_10]
  rcases in_cases a2 1 (by omega) with ⟨h3, h4⟩ | ⟨w, hw, rfl, h3⟩
  · have h3 : m_X8_in a2 0 1 = some 0 := h3
    rw [h3, cl_s, if_00]
    by_cases h5 : a2 < 0
    · rw [if_pos h5]; exact ⟨_, _, rfl, rfl, rfl⟩
    · have h6 : ¬ a2 ≤ (1 : Int32) := by
        rcases h4 with h4 | h4
        · exact absurd h4 h5
        · exact not_le_of (show (1 : Int32) < a2 from h4)
      rw [if_neg h5, if_neg h6]; exact ⟨_, _, rfl, rfl, rfl⟩
  · have h3 : m_X8_in (nI w) 0 1 = some 1 := h3
    have c1 : ¬ nI w < 0 := by rw [lt_l (k := 0) (by omega) (by omega)]; omega
    have c2 : nI w ≤ (1 : Int32) := by rw [le_l (k := 1) (by omega) (by omega)]; exact hw
    rw [h3, cl_s, if_10, if_neg c1, if_pos c2, k1, k2, cl_s, cl_s]
    simp only [cyc7 hn, cyc8 hn, cl_s, if_c, hcy]
    by_cases hc : cy n rc = true
    · rw [if_pos hc, if_pos hc]; exact ⟨_, _, rfl, rfl, rfl⟩
    rw [if_neg hc, if_neg hc]
    by_cases c3 : nI w = 0
    · rw [if_pos c3, if_pos c3]
      simp only [early7 hn rc tr q1 hu, early8 hn rd' fm q3 hu, cl_s]
      exact ⟨_, _, rfl, rfl, by simp only; rw [k7 u hu]⟩
    · rw [if_neg c3, if_neg c3]
      simp only [late7 hn rc tr q2 hu, late8 hn rg' tm q4 hu, cl_s]
      refine ⟨_, _, rfl, rfl, ?_⟩
      simp only
      rw [late_same hn k8 hu]
      exact congrArg nI (mn_congr (fun j hj => by rw [k7 j hj])).symm
