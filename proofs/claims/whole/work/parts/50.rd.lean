/-! ===== reading sentences ===== -/
def vlen (v : Nat) : Nat := slen.getD v 0
def vch (v j : Nat) : Int32 := (sbyt.getD v []).getD j 0
theorem vlen_45 {v : Nat} (hv : v < 5) : vlen v = if v = 0 ∨ v = 2 then 4 else 5 := by
  rcases (show v = 0 ∨ v = 1 ∨ v = 2 ∨ v = 3 ∨ v = 4 by omega) with rfl | rfl | rfl | rfl | rfl <;> rfl
theorem vch_tab {v j : Nat} (hv : v < 5) (hj : j < vlen v) : vTab (5 * v + j) = vch v j := by
  have h5 : j < 5 := by
    have := vlen_45 hv
    by_cases c : v = 0 ∨ v = 2
    · rw [if_pos c] at this; omega
    · rw [if_neg c] at this; omega
  have key : ∀ v, v < 5 → ∀ j, j < 5 → j < vlen v → vTab (5 * v + j) = vch v j := by decide
  exact key v hv j h5 hj
/-- the word from a to b is verb v -/
def MT (tx : Nat → Int32) (a b v : Nat) : Prop := b - a = vlen v ∧ ∀ j, j < vlen v → tx (a + j) = vch v j
theorem n_subn2 {a b : Nat} (h : a ≤ b) : nI b - nI a = nI (b - a) := n_subn h
theorem says_7 (tx : Nat → Int32) {a b v : Nat} (hv : v < 5) (hab : a ≤ b) (hb : b ≤ 100) : (MT tx a b v ∧ m_X6_says tx v (nI a) (nI b) = some 1) ∨ (¬ MT tx a b v ∧ m_X6_says tx v (nI a) (nI b) = some 0) := by
  unfold m_X6_says
  have hl : vlen v ≤ 5 := by
    have := vlen_45 hv
    by_cases c : v = 0 ∨ v = 2
    · rw [if_pos c] at this; omega
    · rw [if_neg c] at this; omega
  show (MT tx a b v ∧ (if nI (vlen v) = nI b - nI a then _ else _) = some 1) ∨ (¬ MT tx a b v ∧ (if nI (vlen v) = nI b - nI a then _ else _) = some 0)
  rw [n_subn2 hab]
  by_cases c : vlen v = b - a
  · have c' : nI (vlen v) = nI (b - a) := by rw [c]
    rw [if_pos c']
    have key := lpe (fun f i (s : Unit) => m_X6_says_L15 tx v (nI a) f i (fun x4_15 => some (1 : Int32))) (fun _ => some 1) (vlen v) (fun j _ => ∀ i, i < j → tx (a + i) = vch v i) (fun r => r = 0 ∧ ∃ j, j < vlen v ∧ tx (a + j) ≠ vch v j)
      (fun f j s hj hP => by
        have h0 : ¬ Int32.ofNat (slen.getD v 0) ≤ nI j := by show ¬ nI (vlen v) ≤ nI j; rw [n_le (by omega) (by omega)]; omega
        have h1 : ∀ {β : Type} (k : Int32 → Option β), ag (fun j => (sbyt.getD v []).getD j 0) (slen.getD v 0) (nI j) k = k (vch v j) := fun k => ag_n (n := vlen v) hj (by omega)
        have h2 : ∀ {β : Type} (k : Int32 → Option β), ag tx 100 (nI a + nI j) k = k (tx (a + j)) := fun k => by rw [nI_add, ag_n (by omega) (by omega)]
        by_cases q : tx (a + j) = vch v j
        · left
          refine ⟨(), ?_, fun i hi => ?_⟩
          · rw [m_X6_says_L15, if_neg h0, h1, h2, if_pos q.symm, nI_1]
          · by_cases e : i = j
            · subst e; exact q
            · exact hP i (by omega)
        · right
          refine ⟨0, ?_, rfl, j, hj, q⟩
          rw [m_X6_says_L15, if_neg h0, h1, h2, if_neg (fun e => q e.symm)])
      (fun f s _ => by
        have h0 : Int32.ofNat (slen.getD v 0) ≤ nI (vlen v) := by show nI (vlen v) ≤ nI (vlen v); rw [n_le (by omega) (by omega)]; omega
        rw [m_X6_says_L15, if_pos h0]) 0 () (by omega) (by omega) (fun i hi => absurd hi (Nat.not_lt_zero i))
    rcases key with ⟨s, q1, q2⟩ | ⟨r, q1, rfl, j, q3, q4⟩
    · exact Or.inl ⟨⟨c.symm, q1⟩, q2⟩
    · exact Or.inr ⟨fun q => q4 (q.2 j q3), q1⟩
  · have c' : ¬ nI (vlen v) = nI (b - a) := by rw [n_eq (by omega) (by omega)]; exact c
    rw [if_neg c']
    exact Or.inr ⟨fun q => c q.1.symm, rfl⟩
def VB (tx : Nat → Int32) (a b : Nat) (r : Int32) : Prop := (∃ v, v < 5 ∧ MT tx a b v ∧ (∀ w, w < v → ¬ MT tx a b w) ∧ r = nI v) ∨ ((∀ w, w < 5 → ¬ MT tx a b w) ∧ r = -1)
theorem VB_un {tx : Nat → Int32} {a b : Nat} {r s : Int32} (h : VB tx a b r) (h' : VB tx a b s) : r = s := by
  rcases h with ⟨v, v1, v2, v3, rfl⟩ | ⟨v1, rfl⟩ <;> rcases h' with ⟨w, w1, w2, w3, rfl⟩ | ⟨w1, rfl⟩
  · rcases Nat.lt_trichotomy v w with q | q | q
    · exact absurd v2 (w3 v q)
    · rw [q]
    · exact absurd w2 (v3 w q)
  · exact absurd v2 (w1 v (by omega))
  · exact absurd w2 (v1 w (by omega))
  · rfl
theorem verb_7 (tx : Nat → Int32) {a b : Nat} (hab : a ≤ b) (hb : b ≤ 100) : ∃ r, VB tx a b r ∧ m_X6_verbOf tx (nI a) (nI b) = some r := by
  unfold m_X6_verbOf
  rcases says_7 tx (v := 0) (by omega) hab hb with ⟨q0, e0⟩ | ⟨q0, e0⟩
  · rw [e0, cl_s, if_10]
    exact ⟨0, Or.inl ⟨0, by omega, q0, fun w hw => absurd hw (Nat.not_lt_zero w), rfl⟩, rfl⟩
  rw [e0, cl_s, if_00]
  rcases says_7 tx (v := 1) (by omega) hab hb with ⟨q1, e1⟩ | ⟨q1, e1⟩
  · rw [e1, cl_s, if_10]
    exact ⟨1, Or.inl ⟨1, by omega, q1, fun w hw => by have : w = 0 := by omega
                                                      subst this; exact q0, rfl⟩, rfl⟩
  rw [e1, cl_s, if_00]
  rcases says_7 tx (v := 2) (by omega) hab hb with ⟨q2, e2⟩ | ⟨q2, e2⟩
  · rw [e2, cl_s, if_10]
    exact ⟨2, Or.inl ⟨2, by omega, q2, fun w hw => by
      rcases (show w = 0 ∨ w = 1 by omega) with rfl | rfl
      · exact q0
      · exact q1, rfl⟩, rfl⟩
  rw [e2, cl_s, if_00]
  rcases says_7 tx (v := 3) (by omega) hab hb with ⟨q3, e3⟩ | ⟨q3, e3⟩
  · rw [e3, cl_s, if_10]
    exact ⟨3, Or.inl ⟨3, by omega, q3, fun w hw => by
      rcases (show w = 0 ∨ w = 1 ∨ w = 2 by omega) with rfl | rfl | rfl
      · exact q0
      · exact q1
      · exact q2, rfl⟩, rfl⟩
  rw [e3, cl_s, if_00]
  rcases says_7 tx (v := 4) (by omega) hab hb with ⟨q4, e4⟩ | ⟨q4, e4⟩
  · rw [e4, cl_s, if_10]
    exact ⟨4, Or.inl ⟨4, by omega, q4, fun w hw => by
      rcases (show w = 0 ∨ w = 1 ∨ w = 2 ∨ w = 3 by omega) with rfl | rfl | rfl | rfl
      · exact q0
      · exact q1
      · exact q2
      · exact q3, rfl⟩, rfl⟩
  rw [e4, cl_s, if_00]
  refine ⟨-1, Or.inr ⟨fun w hw => ?_, rfl⟩, rfl⟩
  rcases (show w = 0 ∨ w = 1 ∨ w = 2 ∨ w = 3 ∨ w = 4 by omega) with rfl | rfl | rfl | rfl | rfl
  · exact q0
  · exact q1
  · exact q2
  · exact q3
  · exact q4
theorem verb_8 {tx et vb : Nat → Int32} {L : Nat} (he : ∀ k, k < L → et k = tx k) (hv : RVerbs vb) {a b : Nat} (hab : a ≤ b) (hb : b ≤ L) (hL : L ≤ 100) : ∃ r, VB tx a b r ∧ m_X8_verbOf et vb (nI a) (nI b) = some r := by
  unfold m_X8_verbOf
  have key := lpe (fun f i (s : Unit) => m_X8_verbOf_L2 et vb (nI a) (nI b) f i (fun x3_2 => some (-1 : Int32))) (fun _ => some (-1)) 5 (fun j _ => ∀ w, w < j → ¬ MT tx a b w) (fun r => ∃ v, v < 5 ∧ MT tx a b v ∧ (∀ w, w < v → ¬ MT tx a b w) ∧ r = nI v)
    (fun f v s hv5 hP => by
      have hl : vlen v ≤ 5 := by
        have := vlen_45 hv5
        by_cases c : v = 0 ∨ v = 2
        · rw [if_pos c] at this; omega
        · rw [if_neg c] at this; omega
      have h0 : ¬ (5 : Int32) ≤ nI v := by rw [l_le (k := 5) (by omega) (by omega)]; omega
      -- the inner walk over the letters
      have inner : ∀ z : Int32, (z = 1 ∧ b - a = vlen v ∨ z = 0 ∧ b - a ≠ vlen v) → (∃ y, m_X8_verbOf_L41 et vb (nI a) (nI v) (nI (vlen v)) FU z 0 (fun x5_41 x6_41 => if x5_41 = 0 then m_X8_verbOf_L2 et vb (nI a) (nI b) f (nI v + 1) (fun x3_2 => some (-1 : Int32)) else some (nI v)) = (if y = 0 then m_X8_verbOf_L2 et vb (nI a) (nI b) f (nI v + 1) (fun x3_2 => some (-1 : Int32)) else some (nI v)) ∧ (MT tx a b v ∧ y = 1 ∨ ¬ MT tx a b v ∧ y = (0 : Int32))) := fun z hz => by
        rcases hz with ⟨rfl, hz⟩ | ⟨rfl, hz⟩
        · have key2 := lpk (fun g i (s : Int32 × Int32) => m_X8_verbOf_L41 et vb (nI a) (nI v) (nI (vlen v)) g s.1 i (fun x5_41 x6_41 => if x5_41 = 0 then m_X8_verbOf_L2 et vb (nI a) (nI b) f (nI v + 1) (fun x3_2 => some (-1 : Int32)) else some (nI v))) (fun s => if s.1 = 0 then m_X8_verbOf_L2 et vb (nI a) (nI b) f (nI v + 1) (fun x3_2 => some (-1 : Int32)) else some (nI v)) (vlen v) (fun j s => (s.1 = 1 ∧ ∀ i, i < j → tx (a + i) = vch v i) ∨ (s.1 = 0 ∧ ∃ i, i < vlen v ∧ tx (a + i) ≠ vch v i)) (fun s => (s.1 = 1 ∧ ∀ i, i < vlen v → tx (a + i) = vch v i) ∨ (s.1 = 0 ∧ ∃ i, i < vlen v ∧ tx (a + i) ≠ vch v i))
            (fun g j s hj hP2 => by
              have g0 : ¬ nI (vlen v) ≤ nI j := by rw [n_le (by omega) (by omega)]; omega
              rcases hP2 with ⟨s1, hP2⟩ | ⟨s1, hP2⟩
              · have g1 : ∀ {β : Type} (k : Int32 → Option β), ag et 100 (nI a + nI j) k = k (tx (a + j)) := fun k => by rw [nI_add, ag_n (by omega) (by omega), he _ (by omega)]
                have g2 : ∀ {β : Type} (k : Int32 → Option β), ag vb 25 ((5 : Int32) * nI v + nI j) k = k (vch v j) := fun k => by
                  have e : (5 : Int32) * nI v + nI j = nI (5 * v + j) := by
                    show nI 5 * nI v + nI j = _
                    rw [pk_mul, nI_add]
                  rw [e, ag_n (by omega) (by omega), hv _ (by omega), vch_tab hv5 hj]
                have g3 : ¬ s.1 = 0 := by rw [s1]; decide
                left
                by_cases q : tx (a + j) = vch v j
                · refine ⟨(1, s.2), ?_, Or.inl ⟨rfl, fun i hi => ?_⟩⟩
                  · show m_X8_verbOf_L41 et vb (nI a) (nI v) (nI (vlen v)) (g + 1) s.1 (nI j) _ = _
                    rw [m_X8_verbOf_L41, if_neg g0, if_neg g3, g1, g2, if_pos q, nI_1]
                  · by_cases e : i = j
                    · subst e; exact q
                    · exact hP2 i (by omega)
                · refine ⟨(0, s.2), ?_, Or.inr ⟨rfl, j, hj, q⟩⟩
                  show m_X8_verbOf_L41 et vb (nI a) (nI v) (nI (vlen v)) (g + 1) s.1 (nI j) _ = _
                  rw [m_X8_verbOf_L41, if_neg g0, if_neg g3, g1, g2, if_neg q, nI_1]
              · right
                refine ⟨?_, Or.inr ⟨s1, hP2⟩⟩
                show m_X8_verbOf_L41 et vb (nI a) (nI v) (nI (vlen v)) (g + 1) s.1 (nI j) _ = _
                rw [m_X8_verbOf_L41, if_neg g0, if_pos s1])
            (fun g s hs => ⟨by
              have g0 : nI (vlen v) ≤ nI (vlen v) := by rw [n_le (by omega) (by omega)]; omega
              show m_X8_verbOf_L41 et vb (nI a) (nI v) (nI (vlen v)) (g + 1) s.1 (nI (vlen v)) _ = _
              rw [m_X8_verbOf_L41, if_pos g0], hs⟩) 0 (1, 0) (by omega) (by omega) (Or.inl ⟨rfl, fun i hi => absurd hi (Nat.not_lt_zero i)⟩)
          obtain ⟨s, q1, q2⟩ := key2
          refine ⟨s.1, q2, ?_⟩
          rcases q1 with ⟨e1, e2⟩ | ⟨e1, i, e2, e3⟩
          · exact Or.inl ⟨⟨hz, e2⟩, e1⟩
          · exact Or.inr ⟨fun q => e3 (q.2 i e2), e1⟩
        · refine ⟨0, ?_, Or.inr ⟨fun q => hz q.1, rfl⟩⟩
          have hl4 : 4 ≤ vlen v := by
            have := vlen_45 hv5
            by_cases c : v = 0 ∨ v = 2
            · rw [if_pos c] at this; omega
            · rw [if_neg c] at this; omega
          have g0 : ¬ nI (vlen v) ≤ (0 : Int32) := by rw [le_l (k := 0) (by omega) (by omega)]; omega
          obtain ⟨g, hg⟩ : ∃ g, FU = g + 1 := ⟨4999, rfl⟩
          rw [hg, m_X8_verbOf_L41, if_neg g0, if_pos rfl]
      have hstep : m_X8_verbOf_L2 et vb (nI a) (nI b) (f + 1) (nI v) (fun x3_2 => some (-1 : Int32)) = (if nI b - nI a = nI (vlen v) then m_X8_verbOf_L41 et vb (nI a) (nI v) (nI (vlen v)) FU 1 0 (fun x5_41 x6_41 => if x5_41 = 0 then m_X8_verbOf_L2 et vb (nI a) (nI b) f (nI v + 1) (fun x3_2 => some (-1 : Int32)) else some (nI v)) else m_X8_verbOf_L41 et vb (nI a) (nI v) (nI (vlen v)) FU 0 0 (fun x5_41 x6_41 => if x5_41 = 0 then m_X8_verbOf_L2 et vb (nI a) (nI b) f (nI v + 1) (fun x3_2 => some (-1 : Int32)) else some (nI v))) := by
        rw [m_X8_verbOf_L2, if_neg h0]
        simp only [jn_e]
        rcases (show v = 0 ∨ v = 1 ∨ v = 2 ∨ v = 3 ∨ v = 4 by omega) with rfl | rfl | rfl | rfl | rfl
        · rw [if_pos (show nI 0 = 0 from rfl)]; rfl
        · rw [if_neg (show ¬ nI 1 = 0 by decide), if_neg (show ¬ nI 1 = (2 : Int32) by decide)]; rfl
        · rw [if_neg (show ¬ nI 2 = 0 by decide), if_pos (show nI 2 = (2 : Int32) from rfl)]; rfl
        · rw [if_neg (show ¬ nI 3 = 0 by decide), if_neg (show ¬ nI 3 = (2 : Int32) by decide)]; rfl
        · rw [if_neg (show ¬ nI 4 = 0 by decide), if_neg (show ¬ nI 4 = (2 : Int32) by decide)]; rfl
      have fin : ∀ y, (MT tx a b v ∧ y = 1 ∨ ¬ MT tx a b v ∧ y = (0 : Int32)) → m_X8_verbOf_L2 et vb (nI a) (nI b) (f + 1) (nI v) (fun x3_2 => some (-1 : Int32)) = (if y = 0 then m_X8_verbOf_L2 et vb (nI a) (nI b) f (nI v + 1) (fun x3_2 => some (-1 : Int32)) else some (nI v)) → ((∃ s2 : Unit, m_X8_verbOf_L2 et vb (nI a) (nI b) (f + 1) (nI v) (fun x3_2 => some (-1 : Int32)) = m_X8_verbOf_L2 et vb (nI a) (nI b) f (nI (v + 1)) (fun x3_2 => some (-1 : Int32)) ∧ ∀ w, w < v + 1 → ¬ MT tx a b w) ∨ ∃ r, m_X8_verbOf_L2 et vb (nI a) (nI b) (f + 1) (nI v) (fun x3_2 => some (-1 : Int32)) = some r ∧ ∃ v, v < 5 ∧ MT tx a b v ∧ (∀ w, w < v → ¬ MT tx a b w) ∧ r = nI v) := fun y hy e => by
        rcases hy with ⟨m1, rfl⟩ | ⟨m1, rfl⟩
        · right
          exact ⟨nI v, by rw [e, if_neg (by decide)], v, hv5, m1, hP, rfl⟩
        · left
          refine ⟨(), by rw [e, if_pos rfl, nI_1], fun w hw => ?_⟩
          by_cases q : w = v
          · subst q; exact m1
          · exact hP w (by omega)
      rw [n_subn2 hab] at hstep
      by_cases c : b - a = vlen v
      · have c' : nI (b - a) = nI (vlen v) := by rw [c]
        obtain ⟨y, y1, y2⟩ := inner 1 (Or.inl ⟨rfl, c⟩)
        rw [if_pos c', y1] at hstep
        exact fin y y2 hstep
      · have c' : ¬ nI (b - a) = nI (vlen v) := by rw [n_eq (by omega) (by omega)]; exact c
        obtain ⟨y, y1, y2⟩ := inner 0 (Or.inr ⟨rfl, c⟩)
        rw [if_neg c', y1] at hstep
        exact fin y y2 hstep)
    (fun f s _ => by
      show m_X8_verbOf_L2 et vb (nI a) (nI b) (f + 1) (nI 5) _ = _
      rw [m_X8_verbOf_L2, if_pos (show (5 : Int32) ≤ nI 5 by decide)]) 0 () (by omega) (by omega) (fun w hw => absurd hw (Nat.not_lt_zero w))
  rcases key with ⟨s, q1, q2⟩ | ⟨r, q1, q2⟩
  · exact ⟨-1, Or.inr ⟨q1, rfl⟩, q2⟩
  · exact ⟨r, Or.inl q2, q1⟩
