/-! ===== drawing: levels; the call draw ===== -/
theorem lvl_both {n : Nat} (hn : n ≤ 12) (row row' : Nat → Int32) (m0 : Int32) {lv : Nat → Nat} (hr : ∀ u, u < n → row u = nI (lv u)) (hr' : ∀ u, u < n → row' u = nI (lv u)) {i : Nat} (hi : i < 12) (hlv : ∀ u, u < n → lv u < 12) {q : Nat} (hq : q + n ≤ 160) {b e : Nat → Int32} (h : SS q b e) (k7 : Int32 → (Nat → Int32) → Int32 → Option ((Nat → Int32) × Int32 × (Nat → Int32))) (k8 : Int32 → (Nat → Int32) → Int32 → Option ((Nat → Int32) × (Nat → Int32) × Int32)) : ∃ b' e', SS (q + cn (fun u => decide (lv u = i)) n) b' e' ∧ m_X1_drawLevels_L24 (nI n) (row, m0) (nI i) FU 0 b (nI q) k7 = k7 (nI n) b' (nI (q + cn (fun u => decide (lv u = i)) n)) ∧ m_X8_drawsLevels_L15 (nI n) (row', m0) (nI i) FU 0 e (nI q) k8 = k8 (nI n) e' (nI (q + cn (fun u => decide (lv u = i)) n)) := by
  obtain ⟨s1, s2, ⟨p1, p2, p3⟩, q1, q2⟩ := lpp (fun f j (s : (Nat → Int32) × Int32) => m_X1_drawLevels_L24 (nI n) (row, m0) (nI i) f j s.1 s.2 k7) (fun s => k7 (nI n) s.1 s.2) (fun f j (s : (Nat → Int32) × Int32) => m_X8_drawsLevels_L15 (nI n) (row', m0) (nI i) f j s.1 s.2 k8) (fun s => k8 (nI n) s.1 s.2) n (fun j s1 s2 => s1.2 = nI (q + cn (fun u => decide (lv u = i)) j) ∧ s2.2 = nI (q + cn (fun u => decide (lv u = i)) j) ∧ SS (q + cn (fun u => decide (lv u = i)) j) s1.1 s2.1)
    (fun f g j s1 s2 hj hP => by
      obtain ⟨x1, x2⟩ := s1
      obtain ⟨y1, y2⟩ := s2
      obtain ⟨h1, h2, h3⟩ := hP
      have h1 : x2 = nI (q + cn (fun u => decide (lv u = i)) j) := h1
      have h2 : y2 = nI (q + cn (fun u => decide (lv u = i)) j) := h2
      have h3 : SS (q + cn (fun u => decide (lv u = i)) j) x1 y1 := h3
      have c0' : ¬ nI n ≤ nI j := by rw [n_le (by omega) (by omega)]; omega
      have hcj := cn_le (fun u => decide (lv u = i)) j
      have ea : ∀ {β : Type} (k : Int32 → Option β), ag row 12 (nI j) k = k (nI (lv j)) := fun k => by rw [ag_n (by omega) (by omega), hr j hj]
      have eb : ∀ {β : Type} (k : Int32 → Option β), ag row' 12 (nI j) k = k (nI (lv j)) := fun k => by rw [ag_n (by omega) (by omega), hr' j hj]
      have hlj := hlv j hj
      subst h1 h2
      by_cases c : lv j = i
      · have c1 : nI (lv j) = nI i := by rw [c]
        have hcn : cn (fun u => decide (lv u = i)) (j + 1) = cn (fun u => decide (lv u = i)) j + 1 := by rw [cn, if_pos (decide_eq_true c)]
        rw [hcn]
        generalize cn (fun u => decide (lv u = i)) j = C at h3 hcj ⊢
        refine ⟨(upd x1 (q + C) (97 + nI j), nI (q + (C + 1))), (upd y1 (q + C) (97 + nI j), nI (q + (C + 1))), ?_, ?_, rfl, rfl, SS_add h3 _⟩
        · show m_X1_drawLevels_L24 (nI n) (row, m0) (nI i) (f + 1) (nI j) x1 (nI (q + C)) k7 = _
          rw [m_X1_drawLevels_L24, if_neg c0']
          dsimp only
          rw [ea, if_pos c1, wu7 (by omega), cl_s, nI_1]
          rfl
        · show m_X8_drawsLevels_L15 (nI n) (row', m0) (nI i) (g + 1) (nI j) y1 (nI (q + C)) k8 = _
          rw [m_X8_drawsLevels_L15, if_neg c0']
          dsimp only
          rw [eb, if_pos c1, wr8 (by omega), cl_s, nI_1]
          rfl
      · have c1 : ¬ nI (lv j) = nI i := by rw [n_eq (by omega) (by omega)]; exact c
        have hcn : cn (fun u => decide (lv u = i)) (j + 1) = cn (fun u => decide (lv u = i)) j := by rw [cn, if_neg (by rw [decide_eq_true_eq]; exact c)]; rfl
        rw [hcn]
        refine ⟨(x1, nI (q + cn (fun u => decide (lv u = i)) j)), (y1, nI (q + cn (fun u => decide (lv u = i)) j)), ?_, ?_, rfl, rfl, h3⟩
        · show m_X1_drawLevels_L24 (nI n) (row, m0) (nI i) (f + 1) (nI j) x1 _ k7 = _
          rw [m_X1_drawLevels_L24, if_neg c0']
          dsimp only
          rw [ea, if_neg c1, nI_1]
        · show m_X8_drawsLevels_L15 (nI n) (row', m0) (nI i) (g + 1) (nI j) y1 _ k8 = _
          rw [m_X8_drawsLevels_L15, if_neg c0']
          dsimp only
          rw [eb, if_neg c1, nI_1])
    (fun f g s1 s2 _ => by
      have c0' : nI n ≤ nI n := by rw [n_le (by omega) (by omega)]; omega
      exact ⟨by rw [m_X1_drawLevels_L24, if_pos c0'], by rw [m_X8_drawsLevels_L15, if_pos c0']⟩) 0 (b, nI q) (e, nI q) (Nat.zero_le n) (by omega) ⟨rfl, rfl, h⟩
  rw [p1] at q1
  rw [p2] at q2
  exact ⟨_, _, p3, q1, q2⟩
