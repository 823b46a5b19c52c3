/-! ===== the call judge ===== -/
theorem lpq {B1 B2 : Type} (L1 : Nat → Int32 → Option B1) (R1 : Option B1) (L2 : Nat → Int32 → Option B2) (R2 : Option B2) (n : Nat) (Q : Option B1 → Option B2 → Prop) (hs : ∀ f g j, j < n → (L1 (f + 1) (nI j) = L1 f (nI (j + 1)) ∧ L2 (g + 1) (nI j) = L2 g (nI (j + 1))) ∨ Q (L1 (f + 1) (nI j)) (L2 (g + 1) (nI j))) (he : ∀ f g, L1 (f + 1) (nI n) = R1 ∧ L2 (g + 1) (nI n) = R2) (hR : Q R1 R2) (hn : n < 4999) : Q (L1 FU 0) (L2 FU 0) := by
  have key : ∀ m f j, j + m = n → m < f → Q (L1 f (nI j)) (L2 f (nI j)) := by
    intro m
    induction m with
    | zero =>
      intro f j h1 h2
      obtain ⟨f, rfl⟩ : ∃ g, f = g + 1 := ⟨f - 1, by omega⟩
      have h4 : j = n := by omega
      subst h4
      rw [(he f f).1, (he f f).2]; exact hR
    | succ m ih =>
      intro f j h1 h2
      obtain ⟨f, rfl⟩ : ∃ g, f = g + 1 := ⟨f - 1, by omega⟩
      rcases hs f f j (by omega) with ⟨h4, h5⟩ | h4
      · rw [h4, h5]; exact ih f (j + 1) (by omega) (by omega)
      · exact h4
  exact key n FU 0 (by omega) (by unfold FU; omega)
theorem neg_room : ∀ N, N < 12 → ∀ j, j < 12 → N ≤ j → nI N - 1 - nI j < 0 := by decide +kernel
theorem o_judge {n t : Nat} (hn : n ≤ 12) (ht : t ≤ 40) {tr kd th fm tm ph upr lwr ab bl : Nat → Int32} {up lo : Nat → Nat} (hr : RTr n tr kd th fm tm ph) (h : RTi n t upr lwr ab bl up lo) {ln : Nat → Nat} {so le es ez : Nat → Int32} {it ec : Nat → Int64} (hR : RRe ln so le it es ez ec) (wu : Int32) (w1 w2 w3 v1 v2 v3 v4 : Nat → Int32) (a1 a2 : Int32) : ∃ r7 r8, m_X7_judge (nI n) (nI t) tr upr lwr wu w1 w2 w3 so le it a1 a2 = some r7 ∧ m_X8_judge (nI n) fm (nI t) ab bl v1 v2 v3 v4 es ez ec a1 a2 = some r8 ∧ r7.2.2.2.2 = r8.2.2.2.2 := by
  obtain ⟨un, av, rc, un', ov', rd', rg', k1, k2, k3, k4, k5, k6, k7, k8⟩ := webs hn ht h wu w1 w2 w3 v1 v2 v3 v4
  have hcy := cy_congr (n := n) (rc := rc) (rd := rd') k7
  obtain ⟨g1, g2, b1, b2, b3, b4⟩ := bnds hr
  unfold m_X7_judge m_X8_judge m_X0_isEmpty
  rcases tape_is a1 with ⟨h1, h2⟩ | ⟨p, hp, rfl, h1, h2⟩
  · rw [h1, h2]; exact ⟨_, _, rfl, rfl, rfl⟩
  obtain ⟨q1, q2, q3, q4, q5, q6, q7⟩ := hR p hp
  have ea : ∀ {β : Type} (k : Int32 → Option β), ag so 6 (nI p) k = k (so p) := fun k => ag_n hp (by omega)
  have eb : ∀ {β : Type} (k : Int32 → Option β), ag es 6 (nI p) k = k (so p) := fun k => by rw [ag_n hp (by omega), q1]
  have ez' : ∀ {β : Type} (k : Int32 → Option β), ag ez 6 (nI p) k = k (nI (ln p)) := fun k => by rw [ag_n hp (by omega), q4]
  rw [h1, h2, cl_s, cl_s, if_10, if_10]
  simp only [ea, eb, jn_e, k1, k2, cl_s, cyc7 hn, cyc8 hn, if_c, hcy]
  -- the judging itself
  have hbody : ∃ r7 r8, (if cy n rc = true then some (nI n, un, av, rc, (-3 : Int32)) else m_X7_judge_L55 (nI n) tr le it (nI p) a2 (nI n, un, av, rc) FU 0 fun x3_55 => some (nI n, un, av, rc, (-5 : Int32))) = some r7 ∧ (if cy n rc = true then some (un', ov', rd', rg', (-3 : Int32)) else m_X8_judge_L48 (nI n) fm es ez ec (nI p) a2 (un', ov', rd', rg') FU 0 fun x3_48 => some (un', ov', rd', rg', (-5 : Int32))) = some r8 ∧ r7.2.2.2.2 = r8.2.2.2.2 := by
    by_cases hc : cy n rc = true
    · rw [if_pos hc, if_pos hc]; exact ⟨_, _, rfl, rfl, rfl⟩
    rw [if_neg hc, if_neg hc]
    by_cases c2 : a2 < 0
    · obtain ⟨f, hf⟩ : ∃ f, FU = f + 1 := ⟨4999, rfl⟩
      rw [hf]
      by_cases hn0 : n = 0
      · subst hn0
        have c0 : nI 0 ≤ (0 : Int32) := by decide
        rw [m_X7_judge_L55, m_X8_judge_L48, if_pos c0, if_pos c0]
        exact ⟨_, _, rfl, rfl, rfl⟩
      · have c0 : ¬ nI n ≤ (0 : Int32) := by rw [le_l (k := 0) (by omega) (by omega)]; omega
        have c6 : ¬ (60 : Int32) < a2 := fun q => by
          rw [Int32.lt_iff_toInt_lt] at c2 q
          have t0 : (0 : Int32).toInt = 0 := rfl
          have t6 : (60 : Int32).toInt = 60 := rfl
          omega
        rw [m_X7_judge_L55, m_X8_judge_L48, if_neg c0, if_neg c0, if_neg c6, eb, Int32.add_zero]
        unfold m_X0_hasPlace
        rw [if_pos c2, cl_s, if_00]
        by_cases c5 : so p = -1
        · rw [if_pos c5]; exact ⟨_, _, rfl, rfl, rfl⟩
        · rw [if_neg c5, if_pos c2]; exact ⟨_, _, rfl, rfl, rfl⟩
    obtain ⟨x, hx, rfl⟩ := n_clx c2
    exact lpq (fun f i => m_X7_judge_L55 (nI n) tr le it (nI p) (nI x) (nI n, un, av, rc) f i fun x3_55 => some (nI n, un, av, rc, (-5 : Int32))) (some (nI n, un, av, rc, (-5 : Int32))) (fun f i => m_X8_judge_L48 (nI n) fm es ez ec (nI p) (nI x) (un', ov', rd', rg') f i fun x3_48 => some (un', ov', rd', rg', (-5 : Int32))) (some (un', ov', rd', rg', (-5 : Int32))) n (fun x y => ∃ r7 r8, x = some r7 ∧ y = some r8 ∧ r7.2.2.2.2 = r8.2.2.2.2)
      (fun f g j hj => by
        have c0 : ¬ nI n ≤ nI j := by rw [n_le (by omega) (by omega)]; omega
        rw [m_X7_judge_L55, m_X8_judge_L48, if_neg c0, if_neg c0]
        simp only [eb, ez', if_neg c2]
        by_cases c6 : (60 : Int32) < nI x
        · right
          have c6' : 60 < x := by
            have c6 : nI 60 < nI x := c6
            rwa [n_lt (by omega) (by omega)] at c6
          rw [if_pos c6]
          by_cases c5 : so p = -1
          · rw [if_pos c5]; exact ⟨_, _, rfl, rfl, rfl⟩
          rw [if_neg c5]
          have c7 : ¬ nI x ≤ nI (ln p) - 1 - nI j := by
            by_cases hN : j < ln p
            · rw [n_sub1 (by omega), n_subn (by omega), n_le (by omega) (by omega)]; omega
            · have := neg_room (ln p) (by omega) j (by omega) (by omega)
              intro q
              rw [Int32.lt_iff_toInt_lt] at this
              rw [Int32.le_iff_toInt_le, nI_toInt (by omega)] at q
              have t0 : (0 : Int32).toInt = 0 := rfl
              omega
          rw [if_neg c7]; exact ⟨_, _, rfl, rfl, rfl⟩
        have c6' : x ≤ 60 := by
          have c6 : ¬ nI 60 < nI x := c6
          rw [n_lt (by omega) (by omega)] at c6; omega
        rw [if_neg c6, nI_add]
        by_cases hN : x + j < ln p
        · have c5 : ¬ so p = -1 := fun q => by have := q6 q; omega
          have c7 : nI x ≤ nI (ln p) - 1 - nI j := by
            rw [n_sub1 (by omega), n_subn (by omega), n_le (by omega) (by omega)]; omega
          rcases place1 hp q5 q3 (nI (x + j)) with ⟨-, e2⟩ | ⟨y, -, -, e1, -⟩
          · exfalso
            rcases lt_cases (N := ln p) (by omega) (nI (x + j)) with ⟨-, e3⟩ | ⟨-, -, -, -, -, e3⟩
            · rcases e3 with e3 | e3
              · rw [lt_l (k := 0) (by omega) (by omega)] at e3; omega
              · rw [n_lt (by omega) (by omega)] at e3; omega
            · rw [e2] at e3
              exact absurd (Option.some.inj e3) (by decide)
          · unfold m_X0_at
            rw [e1, cl_s, if_10, if_neg c5, if_pos c7, cell7, cell8, nI_add, ag_n (by omega) (by omega), ag_n (by omega) (by omega), cl_s]
            rw [early7 hn rc tr b1 hj, early8 hn rd' fm b3 hj, cl_s, cl_s, k7 j hj, show 60 * p + x + j = 60 * p + (x + j) by omega, q7 _ hN]
            by_cases c8 : lg_cmp (it (60 * p + (x + j))) (nI (mx g1 (bt (rc j)) (g1 j) n)).toInt64 = 0
            · left
              rw [if_pos c8, if_pos c8, nI_1]; exact ⟨rfl, rfl⟩
            · right
              rw [if_neg c8, if_neg c8]; exact ⟨_, _, rfl, rfl, rfl⟩
        · right
          rcases place1 hp q5 q3 (nI (x + j)) with ⟨e1, -⟩ | ⟨y, hy, e2, -, -⟩
          · rw [e1, cl_s, if_00]
            by_cases c5 : so p = -1
            · rw [if_pos c5]; exact ⟨_, _, rfl, rfl, rfl⟩
            rw [if_neg c5]
            have c7 : ¬ nI x ≤ nI (ln p) - 1 - nI j := by
              by_cases hN2 : j < ln p
              · rw [n_sub1 (by omega), n_subn (by omega), n_le (by omega) (by omega)]; omega
              · have := neg_room (ln p) (by omega) j (by omega) (by omega)
                intro q
                rw [Int32.lt_iff_toInt_lt] at this
                rw [Int32.le_iff_toInt_le, nI_toInt (by omega)] at q
                have t0 : (0 : Int32).toInt = 0 := rfl
                omega
            rw [if_neg c7]; exact ⟨_, _, rfl, rfl, rfl⟩
          · rw [n_eq (by omega) (by omega)] at e2; omega)
      (fun f g => by
        have c0 : nI n ≤ nI n := by rw [n_le (by omega) (by omega)]; omega
        exact ⟨by rw [m_X7_judge_L55, if_pos c0], by rw [m_X8_judge_L48, if_pos c0]⟩) ⟨_, _, rfl, rfl, rfl⟩ (by omega)
  by_cases c5 : so p = -1
  · simp only [if_pos c5, cl_s, if_10]
    exact hbody
  · simp only [if_neg c5, cl_s, if_true]
    by_cases c6 : so p = 1
    · simp only [if_pos c6]
      exact hbody
    · simp only [if_neg c6]
      exact ⟨_, _, rfl, rfl, rfl⟩
