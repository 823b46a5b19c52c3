/-! ===== the text, the paper ===== -/
theorem o_held {hu hk tu tk : Nat → Int32} (hy : RTy hu hk tu tk) (a1 a2 a3 : Int32) : ∃ r7 r8, m_X7_held hu hk a1 a2 a3 = some r7 ∧ m_X8_held tu tk a1 a2 a3 = some r8 ∧ r7 = r8 := by
  unfold m_X7_held m_X8_held
  rcases tray_is a1 with ⟨h1, h2⟩ | ⟨i, hi, rfl, h1, h2⟩
  · rw [h1, h2]; exact ⟨_, _, rfl, rfl, rfl⟩
  rw [h1, h2, cl_s, cl_s, if_10, if_10]
  rcases in_cases a3 1 (by omega) with ⟨h3, h4⟩ | ⟨w, hw, rfl, h3⟩
  · have h3 : m_X8_in a3 0 1 = some 0 := h3
    rw [h3, cl_s, if_00]
    by_cases h5 : a3 < 0
    · rw [if_pos h5]; exact ⟨_, _, rfl, rfl, rfl⟩
    · have h6 : ¬ a3 ≤ (1 : Int32) := not_le_of (show (1 : Int32) < a3 from h4.resolve_left h5)
      rw [if_neg h5, if_neg h6]; exact ⟨_, _, rfl, rfl, rfl⟩
  have h3 : m_X8_in (nI w) 0 1 = some 1 := h3
  have c1 : ¬ nI w < 0 := by rw [lt_l (k := 0) (by omega) (by omega)]; omega
  have c2 : nI w ≤ (1 : Int32) := by rw [le_l (k := 1) (by omega) (by omega)]; exact hw
  rw [h3, cl_s, if_10, if_neg c1, if_pos c2]
  rcases place_is a2 with ⟨p1, p2⟩ | ⟨j, hj, rfl, p1, p2⟩
  · rw [p1, p2]; exact ⟨_, _, rfl, rfl, rfl⟩
  have hs : 4 * i + j < 12 := by omega
  obtain ⟨y1, y2⟩ := hy (4 * i + j) hs
  rw [p1, p2, cl_s, cl_s, if_10, if_10]
  simp only [slot7, slot8, lt_e, ag_n hs (show 12 < 2147483648 by omega), y1]
  by_cases q : hu (4 * i + j) = -1
  · rw [if_pos q, if_pos q]; exact ⟨_, _, rfl, rfl, rfl⟩
  rw [if_neg q, if_neg q]
  by_cases c3 : nI w = 0
  · rw [if_pos c3, if_pos c3]; exact ⟨_, _, rfl, rfl, rfl⟩
  · rw [if_neg c3, if_neg c3]; exact ⟨_, _, rfl, rfl, (y2 q).symm⟩
theorem o_feed {ln el : Int32} {tx et : Nat → Int32} (h : RWords ln tx el et) (a1 : Int32) : ∃ r7 r8, m_X7_feed tx ln a1 = some r7 ∧ m_X8_feed et el a1 = some r8 ∧ r7.2.2 = r8.2.2 ∧ RWords r7.2.1 r7.1 r8.2.1 r8.1 := by
  obtain ⟨L, l1, rfl, rfl, l2⟩ := id h
  unfold m_X7_feed m_X8_feed
  rcases in_cases a1 127 (by omega) with ⟨h3, h4⟩ | ⟨w, hw, rfl, h3⟩
  · have h3 : m_X8_in a1 0 127 = some 0 := h3
    rw [h3, cl_s, if_00]
    by_cases h5 : a1 < 0
    · rw [if_pos h5]; exact ⟨_, _, rfl, rfl, rfl, h⟩
    · have h6 : ¬ a1 ≤ (127 : Int32) := not_le_of (show (127 : Int32) < a1 from h4.resolve_left h5)
      rw [if_neg h5, if_neg h6]; exact ⟨_, _, rfl, rfl, rfl, h⟩
  have h3 : m_X8_in (nI w) 0 127 = some 1 := h3
  have c1 : ¬ nI w < 0 := by rw [lt_l (k := 0) (by omega) (by omega)]; omega
  have c2 : nI w ≤ (127 : Int32) := by rw [le_l (k := 127) (by omega) (by omega)]; exact hw
  rw [h3, cl_s, if_10, if_neg c1, if_pos c2]
  by_cases c : L < 100
  · have c3 : nI L < (100 : Int32) := by rw [lt_l (k := 100) (by omega) (by omega)]; exact c
    have c4 : ¬ nI L = (100 : Int32) := by rw [eq_l (k := 100) (by omega) (by omega)]; omega
    rw [if_pos c3, if_neg c4, au_n c (by omega), au_n c (by omega)]
    refine ⟨_, _, rfl, rfl, rfl, L + 1, by omega, nI_1 L, nI_1 L, fun k hk => ?_⟩
    by_cases q : k = L
    · subst q; simp only [upd_s]
    · simp only [upd_n q]; exact l2 k (by omega)
  · have c3 : ¬ nI L < (100 : Int32) := by rw [lt_l (k := 100) (by omega) (by omega)]; exact c
    have c4 : nI L = (100 : Int32) := by rw [eq_l (k := 100) (by omega) (by omega)]; omega
    rw [if_neg c3, if_pos c4]; exact ⟨_, _, rfl, rfl, rfl, h⟩
theorem o_paper {ln el : Int32} {by_ ep : Nat → Int32} (h : RSheet ln by_ el ep) (a1 : Int32) : ∃ r7 r8, m_X7_paper by_ ln a1 = some r7 ∧ m_X8_paper ep el a1 = some r8 ∧ r7 = r8 := by
  obtain ⟨L, l1, rfl, rfl, l2⟩ := h
  unfold m_X7_paper m_X8_paper
  by_cases c : 0 ≤ a1
  · rw [if_pos c, if_pos c]
    rcases pk_ix a1 (n := L) (by omega) with q | q | ⟨j, hj, rfl⟩
    · exfalso
      rw [Int32.lt_iff_toInt_lt] at q
      rw [Int32.le_iff_toInt_le] at c
      omega
    · rw [if_pos q, if_pos q]; exact ⟨_, _, rfl, rfl, rfl⟩
    · have c2 : ¬ nI L ≤ nI j := by rw [n_le (by omega) (by omega)]; omega
      rw [if_neg c2, if_neg c2, ag_n (by omega) (by omega), ag_n (by omega) (by omega)]
      exact ⟨_, _, rfl, rfl, (l2 j hj).symm⟩
  · rw [if_neg c, if_neg c]; exact ⟨_, _, rfl, rfl, rfl⟩
