/-! ===== the call draw ===== -/
theorem lppd {S1 S2 B1 B2 : Type} (L1 : Nat → Int32 → S1 → Option B1) (R1 : S1 → Option B1) (L2 : Nat → Int32 → S2 → Option B2) (R2 : S2 → Option B2) (n : Nat) (P : Nat → S1 → S2 → Prop) (hs : ∀ f g j s1 s2, j < n → P (j + 1) s1 s2 → ∃ t1 t2, L1 (f + 1) (nI j) s1 = L1 f (nI j + (-1)) t1 ∧ L2 (g + 1) (nI j) s2 = L2 g (nI j + (-1)) t2 ∧ P j t1 t2) (he : ∀ f g s1 s2, P 0 s1 s2 → L1 (f + 1) (-1) s1 = R1 s1 ∧ L2 (g + 1) (-1) s2 = R2 s2) (s1 : S1) (s2 : S2) (hn : n < 4999) (h : P n s1 s2) : ∃ t1 t2, P 0 t1 t2 ∧ L1 FU (nI n + (-1)) s1 = R1 t1 ∧ L2 FU (nI n + (-1)) s2 = R2 t2 := by
  have key : ∀ m f s1 s2, m < f → m ≤ n → P m s1 s2 → ∃ t1 t2, P 0 t1 t2 ∧ L1 f (nI m + (-1)) s1 = R1 t1 ∧ L2 f (nI m + (-1)) s2 = R2 t2 := by
    intro m
    induction m with
    | zero =>
      intro f s1 s2 h1 h2 h3
      obtain ⟨f, rfl⟩ : ∃ g, f = g + 1 := ⟨f - 1, by omega⟩
      have e : nI 0 + (-1) = (-1 : Int32) := by decide
      rw [e]
      exact ⟨s1, s2, h3, (he f f s1 s2 h3).1, (he f f s1 s2 h3).2⟩
    | succ m ih =>
      intro f s1 s2 h1 h2 h3
      obtain ⟨f, rfl⟩ : ∃ g, f = g + 1 := ⟨f - 1, by omega⟩
      have e : nI (m + 1) + (-1) = nI m := by rw [← n_subm, n_sub1 (by omega)]; rfl
      obtain ⟨t1, t2, h4, h5, h6⟩ := hs f f m s1 s2 (by omega) h3
      obtain ⟨u1, u2, h7, h8, h9⟩ := ih f t1 t2 (by omega) (by omega) h6
      rw [e]
      exact ⟨u1, u2, h7, h4.trans h8, h5.trans h9⟩
  exact key n FU s1 s2 (by unfold FU; omega) (Nat.le_refl n) h
def PLv (m j : Nat) (s1 s2 : (Nat → Int32) × Int32) : Prop := ∃ q, q ≤ 13 * (m - j) ∧ SS q s1.1 s2.1 ∧ s1.2 = nI q ∧ (((j = m ∨ j = 0) ∧ s2.2 = nI q ∧ (j = m → q = 0)) ∨ (0 < j ∧ j < m ∧ 0 < q ∧ s2.2 = nI (q + 1) ∧ s2.1 q = 124))
theorem lvls_both {n m : Nat} (hn : n ≤ 12) (row row' : Nat → Int32) {lv : Nat → Nat} (hr : ∀ u, u < n → row u = nI (lv u)) (hr' : ∀ u, u < n → row' u = nI (lv u)) (hm : m ≤ n) (hlv : ∀ u, u < n → lv u < m) (htop : m = 0 ∨ ∃ u, u < n ∧ lv u + 1 = m) (b e : Nat → Int32) (k7 : Int32 → (Nat → Int32) → Int32 → Option ((Nat → Int32) × Int32 × (Nat → Int32))) (k8 : Int32 → (Nat → Int32) → Int32 → Option ((Nat → Int32) × (Nat → Int32) × Int32)) : ∃ q b' e', q ≤ 160 ∧ SS q b' e' ∧ m_X1_drawLevels_L12 (nI n) (row, nI m) FU (nI m + (-1)) b 0 k7 = k7 (-1) b' (nI q) ∧ m_X8_drawsLevels_L9 (nI n) (row', nI m) FU (nI m + (-1)) e 0 k8 = k8 (-1) e' (nI q) := by
  obtain ⟨s1, s2, hP, q1, q2⟩ := lppd (fun f i (s : (Nat → Int32) × Int32) => m_X1_drawLevels_L12 (nI n) (row, nI m) f i s.1 s.2 k7) (fun s => k7 (-1) s.1 s.2) (fun f i (s : (Nat → Int32) × Int32) => m_X8_drawsLevels_L9 (nI n) (row', nI m) f i s.1 s.2 k8) (fun s => k8 (-1) s.1 s.2) m (PLv m)
    (fun f g j s1 s2 hj hP => by
      obtain ⟨x1, x2⟩ := s1
      obtain ⟨y1, y2⟩ := s2
      obtain ⟨q, hq, h3, h1, h4⟩ := hP
      have h1 : x2 = nI q := h1
      have h3 : SS q x1 y1 := h3
      subst h1
      have c0' : ¬ nI j < 0 := by rw [lt_l (k := 0) (by omega) (by omega)]; omega
      -- after the sign between
      have hmid : ∃ p z1, m_X1_writeBetween x1 (nI q) 124 = some (z1, nI p) ∧ SS p z1 y1 ∧ y2 = nI p ∧ p ≤ 13 * (m - (j + 1)) + 1 ∧ (0 < p ∨ j + 1 = m) := by
        rcases h4 with ⟨h5, h6, h7⟩ | ⟨h5, h6, h7, h8, h9⟩
        · have hjm : j + 1 = m := by omega
          have hq0 := h7 hjm
          subst hq0
          exact ⟨0, x1, wb7_0 _ _, h3, h6, by omega, Or.inr hjm⟩
        · refine ⟨q + 1, upd x1 q 124, wb7 h7 (by omega) _ _, fun k hk => ?_, h8, by omega, Or.inl (by omega)⟩
          by_cases c : k = q
          · subst c; rw [upd_s]; exact h9
          · rw [upd_n c]; exact h3 k (by omega)
      obtain ⟨p, z1, m1, m2, m3, m4, m5⟩ := hmid
      subst m3
      have hpos : 0 < p + cn (fun u => decide (lv u = j)) n := by
        rcases m5 with m5 | m5
        · omega
        · rcases htop with ht | ⟨u, hu, ht⟩
          · omega
          · have := cn_pos (p := fun u => decide (lv u = j)) (n := n) u hu (decide_eq_true (by omega))
            omega
      have hcle := cn_le (fun u => decide (lv u = j)) n
      obtain ⟨b', e', l1, l2, l3⟩ := lvl_both hn row row' (nI m) hr hr' (i := j) (by omega) (fun u hu => by have := hlv u hu; omega) (q := p) (by omega) m2 (fun x3_24 y_f_bytes_24 y_f_length_24 => m_X1_drawLevels_L12 (nI n) (row, nI m) f (nI j + (-1 : Int32)) y_f_bytes_24 y_f_length_24 k7) (fun x3_15 y_f_paper_15 y_f_papered_15 => if nI j ≤ 0 then (m_X8_drawsLevels_L9 (nI n) (row', nI m) g (nI j + (-1 : Int32)) y_f_paper_15 y_f_papered_15 k8) else (cl (m_X8_writes y_f_paper_15 y_f_papered_15 (124 : Int32)) fun r_6 => m_X8_drawsLevels_L9 (nI n) (row', nI m) g (nI j + (-1 : Int32)) r_6.1 r_6.2 k8))
      have f7 : m_X1_drawLevels_L12 (nI n) (row, nI m) (f + 1) (nI j) x1 (nI q) k7 = m_X1_drawLevels_L12 (nI n) (row, nI m) f (nI j + (-1)) b' (nI (p + cn (fun u => decide (lv u = j)) n)) k7 := by
        rw [m_X1_drawLevels_L12, if_neg c0', m1, cl_s]
        dsimp only
        rw [l2]
      by_cases cj : j = 0
      · have cj' : nI j ≤ (0 : Int32) := by rw [le_l (k := 0) (by omega) (by omega)]; omega
        have f8 : m_X8_drawsLevels_L9 (nI n) (row', nI m) (g + 1) (nI j) y1 (nI p) k8 = m_X8_drawsLevels_L9 (nI n) (row', nI m) g (nI j + (-1)) e' (nI (p + cn (fun u => decide (lv u = j)) n)) k8 := by
          rw [m_X8_drawsLevels_L9, if_neg c0', l3, if_pos cj']
        refine ⟨(b', nI (p + cn (fun u => decide (lv u = j)) n)), (e', nI (p + cn (fun u => decide (lv u = j)) n)), f7, f8, p + cn (fun u => decide (lv u = j)) n, by omega, l1, rfl, Or.inl ⟨Or.inr cj, rfl, fun q => by omega⟩⟩
      · have cj' : ¬ nI j ≤ (0 : Int32) := by rw [le_l (k := 0) (by omega) (by omega)]; omega
        have f8 : m_X8_drawsLevels_L9 (nI n) (row', nI m) (g + 1) (nI j) y1 (nI p) k8 = m_X8_drawsLevels_L9 (nI n) (row', nI m) g (nI j + (-1)) (upd e' (p + cn (fun u => decide (lv u = j)) n) 124) (nI (p + cn (fun u => decide (lv u = j)) n + 1)) k8 := by
          rw [m_X8_drawsLevels_L9, if_neg c0', l3, if_neg cj', wr8 (by omega), cl_s]
        refine ⟨(b', nI (p + cn (fun u => decide (lv u = j)) n)), (upd e' (p + cn (fun u => decide (lv u = j)) n) 124, nI (p + cn (fun u => decide (lv u = j)) n + 1)), f7, f8, p + cn (fun u => decide (lv u = j)) n, by omega, fun k hk => ?_, rfl, Or.inr ⟨by omega, hj, hpos, rfl, upd_s⟩⟩
        show upd e' (p + cn (fun u => decide (lv u = j)) n) 124 k = b' k
        rw [upd_n (by omega)]
        exact l1 k hk)
    (fun f g s1 s2 _ => by
      exact ⟨by rw [m_X1_drawLevels_L12, if_pos m1_0], by rw [m_X8_drawsLevels_L9, if_pos m1_0]⟩) (b, 0) (e, 0) (by omega) ⟨0, by omega, fun k hk => absurd hk (Nat.not_lt_zero k), rfl, Or.inl ⟨Or.inl rfl, rfl, fun _ => rfl⟩⟩
  obtain ⟨q, hq, h3, h1, h4⟩ := hP
  have h5 : s2.2 = nI q := by
    rcases h4 with ⟨-, h6, -⟩ | ⟨h5, -⟩
    · exact h6
    · exact absurd h5 (Nat.lt_irrefl 0)
  rw [h1] at q1
  rw [h5] at q2
  exact ⟨q, _, _, by omega, h3, q1, q2⟩
theorem levs2 {n t : Nat} {upr lwr ab bl : Nat → Int32} {up lo : Nat → Nat} (hn : n ≤ 12) (ht : t ≤ 40) (h : RTi n t upr lwr ab bl up lo) {un av rc : Nat → Int32} (hW : WB n t up lo (-1) un av rc) (hc : cy n rc = false) (l7 l8 : Nat → Int32) : ∃ (row row' : Nat → Int32) (lv : Nat → Nat) (m : Nat), m_X5_rankLevels (nI n) un l7 = some (row, nI m) ∧ m_X8_levelsOf (nI n) (nI t) ab bl l8 = some (row', nI m) ∧ m ≤ n ∧ (∀ u, u < n → lv u < m) ∧ (∀ u, u < n → row u = nI (lv u)) ∧ (∀ u, u < n → row' u = nI (lv u)) ∧ (m = 0 ∨ ∃ u, u < n ∧ lv u + 1 = m) := by
  obtain ⟨hT, hd, he⟩ := h
  have hT8 : TI n t ab bl up lo := fun k hk => by
    rw [(he k hk).1, (he k hk).2]; exact hT k hk
  obtain ⟨row, lv, m, h1, h2, h3⟩ := rank7 hn (Ed_in hT) hW hc l7
  obtain ⟨row', h4, h5⟩ := rank8 hT8 hn ht (no_m1 ht) h1 l8
  exact ⟨row, row', lv, m, h3, h5, h1.2.2.2.2, h1.1, h2, h4, h1.2.2.2.1⟩
theorem o_draw {n t : Nat} (hn : n ≤ 12) (ht : t ≤ 40) {upr lwr ab bl : Nat → Int32} {up lo : Nat → Nat} (h : RTi n t upr lwr ab bl up lo) {ln el : Int32} {by_ ep : Nat → Int32} (hS : RSheet ln by_ el ep) (wu : Int32) (w1 w2 w3 w4 w5 w6 v1 v2 v3 v4 v5 v6 v7 : Nat → Int32) (a1 : Int32) : ∃ r7 r8, m_X7_draw (nI n) (nI t) upr lwr wu w1 w2 w3 w4 w5 w6 by_ ln a1 = some r7 ∧ m_X8_draw (nI n) (nI t) ab bl v1 v2 v3 v4 v5 v6 v7 ep el a1 = some r8 ∧ r7.2.2.2.2.2.2.2.2.2 = r8.2.2.2.2.2.2.2.2.2 ∧ RSheet r7.2.2.2.2.2.2.2.2.1 r7.2.2.2.2.2.2.2.1 r8.2.2.2.2.2.2.2.2.1 r8.2.2.2.2.2.2.2.1 := by
  obtain ⟨un, av, rc, un', ov', rd', rg', k1, k2, k3, k4, k5, k6, k7, k8⟩ := webs hn ht h wu w1 w2 w3 v1 v2 v3 v4
  have hcy := cy_congr (n := n) (rc := rc) (rd := rd') k7
  unfold m_X7_draw m_X8_draw
  rcases in_cases a1 1 (by omega) with ⟨h3, h4⟩ | ⟨w, hw, rfl, h3⟩
  · have h3 : m_X8_in a1 0 1 = some 0 := h3
    rw [h3, cl_s, if_00]
    by_cases h5 : a1 < 0
    · rw [if_pos h5]; exact ⟨_, _, rfl, rfl, rfl, hS⟩
    · have h6 : ¬ a1 ≤ (1 : Int32) := not_le_of (show (1 : Int32) < a1 from h4.resolve_left h5)
      rw [if_neg h5, if_neg h6]; exact ⟨_, _, rfl, rfl, rfl, hS⟩
  have h3 : m_X8_in (nI w) 0 1 = some 1 := h3
  have c1 : ¬ nI w < 0 := by rw [lt_l (k := 0) (by omega) (by omega)]; omega
  have c2 : nI w ≤ (1 : Int32) := by rw [le_l (k := 1) (by omega) (by omega)]; exact hw
  rw [h3, cl_s, if_10, if_neg c1, if_pos c2, k1, k2, cl_s, cl_s]
  dsimp only
  by_cases cw : nI w = 0
  · rw [if_pos cw, if_pos cw]
    obtain ⟨m, b', e', m1, m2, m3, m4⟩ := ties_both hn ht h k3 k4 k5 k7 by_ ep ln
    rw [m3, m4, cl_s, cl_s]
    exact ⟨_, _, rfl, rfl, rfl, m, m1, rfl, rfl, m2⟩
  rw [if_neg cw, if_neg cw, cyc7 hn, cyc8 hn, cl_s, cl_s, if_c, if_c, hcy]
  cases hc : cy n rc with
  | false =>
    rw [if_neg Bool.false_ne_true, if_neg Bool.false_ne_true]
    obtain ⟨row, row', lv, m, l1, l2, l3, l4, l5, l6, l7⟩ := levs2 hn ht h k3 hc w4 v5
    unfold m_X1_drawLevels m_X8_drawsLevels
    rw [l1, l2, cl_s, cl_s]
    dsimp only
    rw [n_subm]
    obtain ⟨q, b', e', q1, q2, q3, q4⟩ := lvls_both hn row row' l5 l6 l3 l4 l7 by_ ep (fun x2_12 y_f_bytes_12 y_f_length_12 => some (y_f_bytes_12, y_f_length_12, row)) (fun x2_9 y_f_paper_9 y_f_papered_9 => some (row', y_f_paper_9, y_f_papered_9))
    rw [q3, q4, cl_s, cl_s]
    exact ⟨_, _, rfl, rfl, rfl, q, q1, rfl, rfl, q2⟩
  | true =>
    rw [if_pos rfl, if_pos rfl]
    obtain ⟨sh, sb, sh', fa, ln', l1, l2, l3, l4, l5, l6⟩ := shows_both hn h.1 k3 k4 k7 w5 w6 v6 v7
    have hl := l2 hc
    unfold m_X1_drawCycle m_X8_drawsCycle
    rw [l4, l5, cl_s, cl_s]
    obtain ⟨b', e', q1, q2, q3⟩ := cyc_both (sb := sb) (fa := fa) hl (by omega) (fun i hi => (l6 i hi).1) by_ ep (fun x3_12 y_f_bytes_12 y_f_length_12 => ag sh 12 (0 : Int32) fun v_8 => cl (m_X1_writeUnit y_f_bytes_12 y_f_length_12 v_8) fun r_9 => some (r_9.1, r_9.2, sh, sb)) (fun x2_7 y_f_paper_7 y_f_papered_7 => ag sh' 12 (0 : Int32) fun v_8 => cl (m_X8_writes y_f_paper_7 y_f_papered_7 ((97 : Int32) + v_8)) fun r_9 => some (sh', fa, r_9.1, r_9.2))
    have ea : ∀ {β : Type} (k : Int32 → Option β), ag sh 12 0 k = k (sh 0) := fun k => ag_n (j := 0) (by omega) (by omega)
    have eb : ∀ {β : Type} (k : Int32 → Option β), ag sh' 12 0 k = k (sh 0) := fun k => by
      rw [← (l6 0 (by omega)).1]
      exact ag_n (j := 0) (by omega) (by omega)
    rw [ea, wu7 (by omega), cl_s] at q2
    rw [eb, wr8 (by omega), cl_s] at q3
    dsimp only at q2 q3 ⊢
    rw [q2, q3, cl_s, cl_s]
    exact ⟨_, _, rfl, rfl, rfl, 2 * ln' + 1, by omega, rfl, rfl, SS_add q1 _⟩
