/-! ===== the paper is drawn alike ===== -/
def SS (m : Nat) (b e : Nat → Int32) : Prop := ∀ k, k < m → e k = b k
theorem SS_add {m : Nat} {b e : Nat → Int32} (h : SS m b e) (x : Int32) : SS (m + 1) (upd b m x) (upd e m x) := fun k hk => by
  by_cases q : k = m
  · subst q; rw [upd_s, upd_s]
  · rw [upd_n q, upd_n q]; exact h k (by omega)
theorem wr7 {m : Nat} (hm : m < 160) (b : Nat → Int32) (x : Int32) : m_X1_write b (nI m) x = some (upd b m x, nI (m + 1)) := by
  unfold m_X1_write
  have c : ¬ (160 : Int32) ≤ nI m := by rw [l_le (k := 160) (by omega) (by omega)]; omega
  rw [if_neg c, au_n hm (by omega), nI_1]
theorem wr8 {m : Nat} (hm : m < 200) (e : Nat → Int32) (x : Int32) : m_X8_writes e (nI m) x = some (upd e m x, nI (m + 1)) := by
  unfold m_X8_writes
  rw [au_n hm (by omega), nI_1]
theorem wu7 {m : Nat} (hm : m < 160) (b : Nat → Int32) (x : Int32) : m_X1_writeUnit b (nI m) x = some (upd b m (97 + x), nI (m + 1)) := by
  unfold m_X1_writeUnit
  rw [wr7 hm, cl_s]
theorem wb7_0 (b : Nat → Int32) (x : Int32) : m_X1_writeBetween b (nI 0) x = some (b, nI 0) := by
  unfold m_X1_writeBetween
  rw [if_pos (show nI 0 ≤ (0 : Int32) by decide)]
theorem wb7 {m : Nat} (h0 : 0 < m) (hm : m < 160) (b : Nat → Int32) (x : Int32) : m_X1_writeBetween b (nI m) x = some (upd b m x, nI (m + 1)) := by
  unfold m_X1_writeBetween
  have z0 : ¬ nI m ≤ (0 : Int32) := by rw [le_l (k := 0) (by omega) (by omega)]; omega
  rw [if_neg z0, wr7 hm, cl_s]
def tl_ (c : Nat) : Nat := 4 * c - 1
theorem ties_in {n : Nat} (hn : n ≤ 12) (u : Nat) (r : Int32) {c0 : Nat} (hc : c0 + cn (bt r) n ≤ 40) {b e : Nat → Int32} (h : SS (tl_ c0) b e) (k7 : Int32 → (Nat → Int32) → Int32 → Option ((Nat → Int32) × Int32)) (k8 : Int32 → (Nat → Int32) → Int32 → Option ((Nat → Int32) × Int32)) : ∃ b' e', SS (tl_ (c0 + cn (bt r) n)) b' e' ∧ m_X1_drawTies_L24 (nI n) (nI u) r FU 0 b (nI (tl_ c0)) k7 = k7 (nI n) b' (nI (tl_ (c0 + cn (bt r) n))) ∧ m_X8_draws_L18 (nI n) (nI u) r FU 0 e (nI (tl_ c0)) k8 = k8 (nI n) e' (nI (tl_ (c0 + cn (bt r) n))) := by
  obtain ⟨s1, s2, ⟨p1, p2, p3⟩, q1, q2⟩ := lpp (fun f i (s : (Nat → Int32) × Int32) => m_X1_drawTies_L24 (nI n) (nI u) r f i s.1 s.2 k7) (fun s => k7 (nI n) s.1 s.2) (fun f i (s : (Nat → Int32) × Int32) => m_X8_draws_L18 (nI n) (nI u) r f i s.1 s.2 k8) (fun s => k8 (nI n) s.1 s.2) n (fun j s1 s2 => s1.2 = nI (tl_ (c0 + cn (bt r) j)) ∧ s2.2 = nI (tl_ (c0 + cn (bt r) j)) ∧ SS (tl_ (c0 + cn (bt r) j)) s1.1 s2.1)
    (fun f g j s1 s2 hj hP => by
      obtain ⟨x1, x2⟩ := s1
      obtain ⟨y1, y2⟩ := s2
      obtain ⟨h1, h2, h3⟩ := hP
      have h1 : x2 = nI (tl_ (c0 + cn (bt r) j)) := h1
      have h2 : y2 = nI (tl_ (c0 + cn (bt r) j)) := h2
      have h3 : SS (tl_ (c0 + cn (bt r) j)) x1 y1 := h3
      have c0' : ¬ nI n ≤ nI j := by rw [n_le (by omega) (by omega)]; omega
      have hle : cn (bt r) (j + 1) ≤ cn (bt r) n := by
        have key : ∀ m, cn (bt r) (j + 1) ≤ cn (bt r) (j + 1 + m) := fun m => by
          induction m with
          | zero => exact Nat.le_refl _
          | succ m ih => exact Nat.le_trans ih (by show cn (bt r) (j + 1 + m) ≤ cn (bt r) (j + 1 + m + 1); rw [cn]; omega)
        have := key (n - (j + 1))
        rwa [show j + 1 + (n - (j + 1)) = n by omega] at this
      by_cases c : bt r j = true
      · have hcn : cn (bt r) (j + 1) = cn (bt r) j + 1 := by rw [cn, if_pos c]
        rw [hcn]
        generalize hC : c0 + cn (bt r) j = C at h1 h2 h3
        have hC40 : C + 1 ≤ 40 := by omega
        rw [show c0 + (cn (bt r) j + 1) = C + 1 by omega]
        subst h1 h2
        by_cases cz : C = 0
        · subst cz
          have z0 : nI (tl_ 0) ≤ (0 : Int32) := by decide
          refine ⟨(upd (upd (upd x1 0 (97 + nI u)) 1 62) 2 (97 + nI j), nI 3), (upd (upd (upd y1 0 (97 + nI u)) 1 62) 2 (97 + nI j), nI 3), ?_, ?_, rfl, rfl, ?_⟩
          · show m_X1_drawTies_L24 (nI n) (nI u) r (f + 1) (nI j) x1 (nI (tl_ 0)) k7 = _
            have e0 : tl_ 0 = 0 := rfl
            rw [m_X1_drawTies_L24, if_neg c0', hb7 r (by omega), cl_s, if_c, if_pos c, e0, wb7_0, cl_s]
            simp only
            rw [wu7 (by omega), cl_s]
            simp only
            rw [wr7 (by omega), cl_s]
            simp only
            rw [wu7 (by omega), cl_s, nI_1]
          · show m_X8_draws_L18 (nI n) (nI u) r (g + 1) (nI j) y1 (nI (tl_ 0)) k8 = _
            have e0 : tl_ 0 = 0 := rfl
            rw [m_X8_draws_L18, if_neg c0', hb8 r (by omega), cl_s, if_c, if_pos c, if_pos z0, e0, wr8 (by omega), cl_s]
            simp only
            rw [wr8 (by omega), cl_s]
            simp only
            rw [wr8 (by omega), cl_s, nI_1]
          · exact SS_add (SS_add (SS_add (m := 0) (fun k hk => absurd hk (Nat.not_lt_zero k)) _) _) _
        · obtain ⟨m, hm, hm4⟩ : ∃ m, tl_ C = m ∧ m = 4 * C - 1 := ⟨_, rfl, rfl⟩
          have hm' : tl_ (C + 1) = m + 1 + 1 + 1 + 1 := by unfold tl_; omega
          have h3' : SS m x1 y1 := by rw [← hm, ← hC]; exact h3
          rw [hm', hm]
          have z0 : ¬ nI m ≤ (0 : Int32) := by rw [le_l (k := 0) (by omega) (by omega)]; omega
          refine ⟨(upd (upd (upd (upd x1 m 59) (m + 1) (97 + nI u)) (m + 1 + 1) 62) (m + 1 + 1 + 1) (97 + nI j), nI (m + 1 + 1 + 1 + 1)), (upd (upd (upd (upd y1 m 59) (m + 1) (97 + nI u)) (m + 1 + 1) 62) (m + 1 + 1 + 1) (97 + nI j), nI (m + 1 + 1 + 1 + 1)), ?_, ?_, rfl, rfl, ?_⟩
          · show m_X1_drawTies_L24 (nI n) (nI u) r (f + 1) (nI j) x1 (nI m) k7 = _
            rw [m_X1_drawTies_L24, if_neg c0', hb7 r (by omega), cl_s, if_c, if_pos c, wb7 (by omega) (by omega), cl_s]
            simp only
            rw [wu7 (by omega), cl_s]
            simp only
            rw [wr7 (by omega), cl_s]
            simp only
            rw [wu7 (by omega), cl_s, nI_1]
          · show m_X8_draws_L18 (nI n) (nI u) r (g + 1) (nI j) y1 (nI m) k8 = _
            rw [m_X8_draws_L18, if_neg c0', hb8 r (by omega), cl_s, if_c, if_pos c, if_neg z0, wr8 (by omega), cl_s]
            simp only
            rw [wr8 (by omega), cl_s]
            simp only
            rw [wr8 (by omega), cl_s]
            simp only
            rw [wr8 (by omega), cl_s, nI_1]
          · exact SS_add (SS_add (SS_add (SS_add h3' _) _) _) _
      · have hcn : cn (bt r) (j + 1) = cn (bt r) j := by rw [cn, if_neg c]; rfl
        rw [hcn]
        refine ⟨(x1, x2), (y1, y2), ?_, ?_, h1, h2, h3⟩
        · show m_X1_drawTies_L24 (nI n) (nI u) r (f + 1) (nI j) x1 x2 k7 = _
          rw [m_X1_drawTies_L24, if_neg c0', hb7 r (by omega), cl_s, if_c, if_neg c, nI_1]
        · show m_X8_draws_L18 (nI n) (nI u) r (g + 1) (nI j) y1 y2 k8 = _
          rw [m_X8_draws_L18, if_neg c0', hb8 r (by omega), cl_s, if_c, if_neg c, nI_1])
    (fun f g s1 s2 _ => by
      have c0' : nI n ≤ nI n := by rw [n_le (by omega) (by omega)]; omega
      exact ⟨by rw [m_X1_drawTies_L24, if_pos c0'], by rw [m_X8_draws_L18, if_pos c0']⟩) 0 (b, nI (tl_ c0)) (e, nI (tl_ c0)) (Nat.zero_le n) (by omega) ⟨rfl, rfl, h⟩
  rw [p1] at q1
  rw [p2] at q2
  exact ⟨_, _, p3, q1, q2⟩
