/-! ===== drawing: ties and cycle ===== -/
theorem ties_both {n t : Nat} (hn : n ≤ 12) (ht : t ≤ 40) {upr lwr ab bl : Nat → Int32} {up lo : Nat → Nat} (h : RTi n t upr lwr ab bl up lo) {un av rc un' ov' rd' : Nat → Int32} (k3 : WB n t up lo (-1) un av rc) (k4 : WB n t up lo (-1) un' ov' rd') (k5 : ∀ u, u < 12 → un' u = un u) (k7 : ∀ u, u < n → rd' u = rc u) (b e : Nat → Int32) (w : Int32) : ∃ m b' e', m ≤ 160 ∧ SS m b' e' ∧ m_X1_drawTies b w (nI n) un rc = some (b', nI m) ∧ m_X8_draws (nI n) (nI t) ab bl rd' e 0 = some (e', nI m) := by
  obtain ⟨hT, hd, he⟩ := h
  have hT8 : TI n t ab bl up lo := fun k hk => by
    rw [(he k hk).1, (he k hk).2]; exact hT k hk
  have hcn : ∀ u, u < n → cn (bt (ru n un rc u)) n = cn (bt (ru n un rc u)) 12 := fun u hu => by
    obtain ⟨m, hm⟩ : ∃ m, n + m = 12 := ⟨12 - n, by omega⟩
    rw [← hm]
    refine (cn_hi m (fun v h1 h2 => ?_)).symm
    cases hb : bt (ru n un rc u) v with
    | false => rfl
    | true =>
      exfalso
      have hb2 : bt (un u) v = true := by
        unfold ru at hb
        by_cases c : cy n rc = true
        · rwa [if_pos c] at hb
        · rw [if_neg c, b_and, Bool.and_eq_true] at hb
          exact hb.1
      have := (Ed_in hT _ _ ((k3.1 u v (by omega) (by omega)).mp hb2)).2
      omega
  have htot : sm (fun u => cn (bt (ru n un rc u)) 12) n ≤ 40 := by
    rw [many_same hT hd hn (no_m1 ht) k3]
    exact Nat.le_trans (cn_le _ t) ht
  have hmono : ∀ j, j ≤ n → sm (fun u => cn (bt (ru n un rc u)) 12) j ≤ 40 := fun j hj => by
    have key : ∀ m, sm (fun u => cn (bt (ru n un rc u)) 12) j ≤ sm (fun u => cn (bt (ru n un rc u)) 12) (j + m) := fun m => by
      induction m with
      | zero => exact Nat.le_refl _
      | succ m ih => exact Nat.le_trans ih (by show sm _ (j + m) ≤ sm _ (j + m + 1); rw [sm]; omega)
    have := key (n - j)
    rw [show j + (n - j) = n by omega] at this
    omega
  unfold m_X1_drawTies m_X8_draws
  obtain ⟨s1, s2, ⟨p1, p2, p3⟩, q1, q2⟩ := lpp (fun f i (s : (Nat → Int32) × Int32) => m_X1_drawTies_L7 (nI n) un rc f i s.1 s.2 (fun x2_7 y_f_bytes_7 y_f_length_7 => some (y_f_bytes_7, y_f_length_7))) (fun s => some (s.1, s.2)) (fun f i (s : (Nat → Int32) × Int32) => m_X8_draws_L2 (nI n) (nI t) ab bl rd' f i s.1 s.2 (fun x1_2 y_f_paper_2 y_f_papered_2 => some (y_f_paper_2, y_f_papered_2))) (fun s => some (s.1, s.2)) n (fun j s1 s2 => s1.2 = nI (tl_ (sm (fun u => cn (bt (ru n un rc u)) 12) j)) ∧ s2.2 = nI (tl_ (sm (fun u => cn (bt (ru n un rc u)) 12) j)) ∧ SS (tl_ (sm (fun u => cn (bt (ru n un rc u)) 12) j)) s1.1 s2.1)
    (fun f g j s1 s2 hj hP => by
      obtain ⟨x1, x2⟩ := s1
      obtain ⟨y1, y2⟩ := s2
      obtain ⟨h1, h2, h3⟩ := hP
      have h1 : x2 = nI (tl_ (sm (fun u => cn (bt (ru n un rc u)) 12) j)) := h1
      have h2 : y2 = nI (tl_ (sm (fun u => cn (bt (ru n un rc u)) 12) j)) := h2
      subst h1 h2
      have c0' : ¬ nI n ≤ nI j := by rw [n_le (by omega) (by omega)]; omega
      have hs : sm (fun u => cn (bt (ru n un rc u)) 12) (j + 1) = sm (fun u => cn (bt (ru n un rc u)) 12) j + cn (bt (ru n un rc j)) n := by rw [sm, hcn j hj]
      have hle := hmono (j + 1) (by omega)
      rw [hs] at hle ⊢
      obtain ⟨b', e', z1, z2, z3⟩ := ties_in hn j (ru n un rc j) hle (b := x1) (e := y1) h3 (fun x4_24 y_f_bytes_24 y_f_length_24 => m_X1_drawTies_L7 (nI n) un rc f (nI j + 1) y_f_bytes_24 y_f_length_24 (fun x2_7 y_f_bytes_7 y_f_length_7 => some (y_f_bytes_7, y_f_length_7))) (fun x3_18 y_f_paper_18 y_f_papered_18 => m_X8_draws_L2 (nI n) (nI t) ab bl rd' g (nI j + 1) y_f_paper_18 y_f_papered_18 (fun x1_2 y_f_paper_2 y_f_papered_2 => some (y_f_paper_2, y_f_papered_2)))
      have e7 := red7 hn un rc (u := j) (by omega)
      have e8 := redof8 hT8 hn ht (no_m1 ht) k4 hj
      rw [ru_congr k5 k7 (by omega)] at e8
      refine ⟨(b', nI (tl_ (sm (fun u => cn (bt (ru n un rc u)) 12) j + cn (bt (ru n un rc j)) n))), (e', nI (tl_ (sm (fun u => cn (bt (ru n un rc u)) 12) j + cn (bt (ru n un rc j)) n))), ?_, ?_, rfl, rfl, z1⟩
      · show m_X1_drawTies_L7 (nI n) un rc (f + 1) (nI j) x1 _ _ = _
        rw [m_X1_drawTies_L7, if_neg c0', e7, cl_s, z2, nI_1]
      · show m_X8_draws_L2 (nI n) (nI t) ab bl rd' (g + 1) (nI j) y1 _ _ = _
        rw [m_X8_draws_L2, if_neg c0', e8, cl_s, z3, nI_1])
    (fun f g s1 s2 _ => by
      have c0' : nI n ≤ nI n := by rw [n_le (by omega) (by omega)]; omega
      exact ⟨by rw [m_X1_drawTies_L7, if_pos c0'], by rw [m_X8_draws_L2, if_pos c0']⟩) 0 (b, 0) (e, 0) (Nat.zero_le n) (by omega) ⟨rfl, rfl, fun k hk => absurd hk (Nat.not_lt_zero k)⟩
  rw [p1] at q1
  rw [p2] at q2
  have h40 := hmono n (Nat.le_refl n)
  exact ⟨_, _, _, by unfold tl_; omega, p3, q1, q2⟩
/-- the cycle, drawn -/
theorem cyc_both {sh sb sh' fa : Nat → Int32} {ln : Nat} (hl : 1 ≤ ln) (hl2 : ln ≤ 12) (h6 : ∀ i, i < ln → sh' i = sh i) (b e : Nat → Int32) (k7 : Int32 → (Nat → Int32) → Int32 → Option ((Nat → Int32) × Int32 × (Nat → Int32) × (Nat → Int32))) (k8 : Int32 → (Nat → Int32) → Int32 → Option ((Nat → Int32) × (Nat → Int32) × (Nat → Int32) × Int32)) : ∃ b' e', SS (2 * ln) b' e' ∧ m_X1_drawCycle_L12 (sh, sb, nI ln) FU 0 b 0 k7 = k7 (nI ln) b' (nI (2 * ln)) ∧ m_X8_drawsCycle_L7 (sh', fa, nI ln) FU 0 e 0 k8 = k8 (nI ln) e' (nI (2 * ln)) := by
  obtain ⟨s1, s2, ⟨p1, p2, p3⟩, q1, q2⟩ := lpp (fun f i (s : (Nat → Int32) × Int32) => m_X1_drawCycle_L12 (sh, sb, nI ln) f i s.1 s.2 k7) (fun s => k7 (nI ln) s.1 s.2) (fun f i (s : (Nat → Int32) × Int32) => m_X8_drawsCycle_L7 (sh', fa, nI ln) f i s.1 s.2 k8) (fun s => k8 (nI ln) s.1 s.2) ln (fun j s1 s2 => s1.2 = nI (2 * j) ∧ s2.2 = nI (2 * j) ∧ SS (2 * j) s1.1 s2.1)
    (fun f g j s1 s2 hj hP => by
      obtain ⟨x1, x2⟩ := s1
      obtain ⟨y1, y2⟩ := s2
      obtain ⟨h1, h2, h3⟩ := hP
      have h1 : x2 = nI (2 * j) := h1
      have h2 : y2 = nI (2 * j) := h2
      have h3 : SS (2 * j) x1 y1 := h3
      subst h1 h2
      have c0' : ¬ nI ln ≤ nI j := by rw [n_le (by omega) (by omega)]; omega
      have ea : ∀ {β : Type} (k : Int32 → Option β), ag sh 12 (nI j) k = k (sh j) := fun k => ag_n (by omega) (by omega)
      have eb : ∀ {β : Type} (k : Int32 → Option β), ag sh' 12 (nI j) k = k (sh j) := fun k => by rw [ag_n (by omega) (by omega), h6 j hj]
      refine ⟨(upd (upd x1 (2 * j) (97 + sh j)) (2 * j + 1) 62, nI (2 * j + 1 + 1)), (upd (upd y1 (2 * j) (97 + sh j)) (2 * j + 1) 62, nI (2 * j + 1 + 1)), ?_, ?_, rfl, rfl, SS_add (SS_add h3 _) _⟩
      · show m_X1_drawCycle_L12 (sh, sb, nI ln) (f + 1) (nI j) x1 (nI (2 * j)) k7 = _
        rw [m_X1_drawCycle_L12]
        dsimp only
        rw [if_neg c0', ea, wu7 (by omega), cl_s]
        dsimp only
        rw [wr7 (by omega), cl_s, nI_1]
      · show m_X8_drawsCycle_L7 (sh', fa, nI ln) (g + 1) (nI j) y1 (nI (2 * j)) k8 = _
        rw [m_X8_drawsCycle_L7]
        dsimp only
        rw [if_neg c0', eb, wr8 (by omega), cl_s]
        dsimp only
        rw [wr8 (by omega), cl_s, nI_1])
    (fun f g s1 s2 _ => by
      have c0' : nI ln ≤ nI ln := by rw [n_le (by omega) (by omega)]; omega
      exact ⟨by rw [m_X1_drawCycle_L12]; dsimp only; rw [if_pos c0'], by rw [m_X8_drawsCycle_L7]; dsimp only; rw [if_pos c0']⟩) 0 (b, 0) (e, 0) (Nat.zero_le ln) (by omega) ⟨rfl, rfl, fun k hk => absurd hk (Nat.not_lt_zero k)⟩
  rw [p1] at q1
  rw [p2] at q2
  exact ⟨_, _, p3, q1, q2⟩
