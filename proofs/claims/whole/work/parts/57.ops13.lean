/-! ===== the call shift ===== -/
theorem n_clx {x : Int32} (h : ¬ x < 0) : ∃ k, k < 2147483648 ∧ x = nI k := by
  rw [Int32.lt_iff_toInt_lt] at h
  have t0 : (0 : Int32).toInt = 0 := rfl
  have hb := Int32.toInt_lt x
  refine ⟨x.toInt.toNat, by omega, ?_⟩
  rw [← Int32.toInt_inj, nI_toInt (by omega)]
  omega
theorem place5 {le : Nat → Int32} {t N : Nat} (ht : t < 6) (hN : N ≤ 60) (hl : le t = nI N) (a2 a5 : Int32) : (m_X0_hasPlace le (nI t) a2 a5 = some 0 ∧ ¬ ∃ x y, a2 = nI x ∧ a5 = nI y ∧ x + y ≤ N) ∨ ∃ x y, a2 = nI x ∧ a5 = nI y ∧ x + y ≤ N ∧ m_X0_hasPlace le (nI t) a2 a5 = some 1 := by
  unfold m_X0_hasPlace
  have ea : ∀ {β : Type} (k : Int32 → Option β), ag le 6 (nI t) k = k (nI N) := fun k => by rw [ag_n ht (by omega), hl]
  rw [ea, ea]
  by_cases c1 : a2 < 0
  · rw [if_pos c1]
    refine Or.inl ⟨rfl, ?_⟩
    rintro ⟨x, y, rfl, rfl, q⟩
    rw [lt_l (k := 0) (by omega) (by omega)] at c1; omega
  rw [if_neg c1]
  by_cases c2 : a5 < 0
  · rw [if_pos c2]
    refine Or.inl ⟨rfl, ?_⟩
    rintro ⟨x, y, rfl, rfl, q⟩
    rw [lt_l (k := 0) (by omega) (by omega)] at c2; omega
  rw [if_neg c2]
  obtain ⟨x, hx, rfl⟩ := n_clx c1
  obtain ⟨y, hy, rfl⟩ := n_clx c2
  by_cases c3 : nI N < nI y
  · rw [if_pos c3]
    rw [n_lt (by omega) (by omega)] at c3
    refine Or.inl ⟨rfl, ?_⟩
    rintro ⟨x', y', e1, e2, q⟩
    rw [n_eq (by omega) (by omega)] at e2
    omega
  rw [if_neg c3]
  rw [n_lt (by omega) (by omega)] at c3
  rw [n_subn (show y ≤ N by omega)]
  by_cases c4 : nI (N - y) < nI x
  · rw [if_pos c4]
    rw [n_lt (by omega) (by omega)] at c4
    refine Or.inl ⟨rfl, ?_⟩
    rintro ⟨x', y', e1, e2, q⟩
    rw [n_eq (by omega) (by omega)] at e1 e2
    omega
  · rw [if_neg c4]
    rw [n_lt (by omega) (by omega)] at c4
    exact Or.inr ⟨x, y, rfl, rfl, by omega, rfl⟩
theorem carry8 {t x y : Nat} (ht : t < 6) (hxy : x + y ≤ 60) (ec ca : Nat → Int64) (k : Int32 → (Nat → Int64) → Option ((Nat → Int64) × (Nat → Int64) × Int32)) : ∃ ca', (∀ i, i < y → ca' i = ec (60 * t + x + i)) ∧ m_X8_shift_L125 ec (nI t) (nI x) (nI y) FU 0 ca k = k (nI y) ca' := by
  obtain ⟨s, q1, q2⟩ := lpx (fun f i (s : Nat → Int64) => m_X8_shift_L125 ec (nI t) (nI x) (nI y) f i s k) (fun s => k (nI y) s) y (fun j s => ∀ i, i < j → s i = ec (60 * t + x + i))
    (fun f j s hj hP => by
      have c0 : ¬ nI y ≤ nI j := by rw [n_le (by omega) (by omega)]; omega
      refine ⟨vp_updL s j (ec (60 * t + x + j)), by rw [m_X8_shift_L125, if_neg c0, cell8, nI_add, ag_n (by omega) (by omega), al_n (by omega) (by omega), nI_1], fun i hi => ?_⟩
      by_cases q : i = j
      · subst q; rw [pk_uLs]
      · rw [pk_uLn q]; exact hP i (by omega))
    (fun f s _ => by
      have c0 : nI y ≤ nI y := by rw [n_le (by omega) (by omega)]; omega
      rw [m_X8_shift_L125, if_pos c0]) 0 ca (Nat.zero_le y) (by omega) (fun i hi => absurd hi (Nat.not_lt_zero i))
  exact ⟨s, q1, q2⟩
theorem lay8 {t z y : Nat} (ht : t < 6) (hzy : z + y ≤ 60) (ca ec : Nat → Int64) (k : Int32 → (Nat → Int64) → Option ((Nat → Int64) × (Nat → Int64) × Int32)) : ∃ ec', (∀ p, ec' p = if 60 * t + z ≤ p ∧ p < 60 * t + z + y then ca (p - (60 * t + z)) else ec p) ∧ m_X8_shift_L162 (nI t) (nI z) (nI y) ca FU 0 ec k = k (nI y) ec' := by
  obtain ⟨s, q1, q2⟩ := lpx (fun f i (s : Nat → Int64) => m_X8_shift_L162 (nI t) (nI z) (nI y) ca f i s k) (fun s => k (nI y) s) y (fun j s => ∀ p, s p = if 60 * t + z ≤ p ∧ p < 60 * t + z + j then ca (p - (60 * t + z)) else ec p)
    (fun f j s hj hP => by
      have c0 : ¬ nI y ≤ nI j := by rw [n_le (by omega) (by omega)]; omega
      refine ⟨vp_updL s (60 * t + z + j) (ca j), by rw [m_X8_shift_L162, if_neg c0, ag_n (by omega) (by omega), cell8, nI_add, al_n (by omega) (by omega), nI_1], fun p => ?_⟩
      by_cases q : p = 60 * t + z + j
      · subst q
        rw [pk_uLs, if_pos (by omega)]
        congr 1
        omega
      · rw [pk_uLn q, hP p]
        by_cases c : 60 * t + z ≤ p ∧ p < 60 * t + z + j
        · rw [if_pos c, if_pos (by omega)]
        · rw [if_neg c, if_neg (by omega)])
    (fun f s _ => by
      have c0 : nI y ≤ nI y := by rw [n_le (by omega) (by omega)]; omega
      rw [m_X8_shift_L162, if_pos c0]) 0 ec (Nat.zero_le y) (by omega) (fun p => by rw [if_neg (by omega)])
  exact ⟨s, q1, q2⟩
theorem o_shift {ln : Nat → Nat} {so le es ez : Nat → Int32} {it ec : Nat → Int64} (h : RRe ln so le it es ez ec) (ca : Nat → Int64) (a1 a2 a3 a4 a5 : Int32) : ∃ r7 r8, m_X7_shift so le it a1 a2 a3 a4 a5 = some r7 ∧ m_X8_shift es ez ec ca a1 a2 a3 a4 a5 = some r8 ∧ r7.2 = r8.2.2 ∧ RRe ln so le r7.1 es ez r8.1 := by
  unfold m_X7_shift m_X8_shift m_X0_isEmpty m_X0_move
  rcases tape_is a1 with ⟨h1, h2⟩ | ⟨t, ht, rfl, h1, h2⟩
  · rw [h1, h2]; exact ⟨_, _, rfl, rfl, rfl, h⟩
  rw [h1, h2, cl_s, cl_s, if_10, if_10]
  rcases tape_is a3 with ⟨h3, h4⟩ | ⟨w, hw, rfl, h3, h4⟩
  · rw [h3, h4]; exact ⟨_, _, rfl, rfl, rfl, h⟩
  rw [h3, h4, cl_s, cl_s, if_10, if_10]
  obtain ⟨q1, q2, q3, q4, q5, q6, q7⟩ := h t ht
  obtain ⟨u1, u2, u3, u4, u5, u6, u7⟩ := h w hw
  have ea : ∀ {β : Type} (k : Int32 → Option β), ag so 6 (nI t) k = k (so t) := fun k => ag_n ht (by omega)
  have ew : ∀ {β : Type} (k : Int32 → Option β), ag so 6 (nI w) k = k (so w) := fun k => ag_n hw (by omega)
  have eb : ∀ {β : Type} (k : Int32 → Option β), ag es 6 (nI t) k = k (so t) := fun k => by rw [ag_n ht (by omega), q1]
  have ex : ∀ {β : Type} (k : Int32 → Option β), ag es 6 (nI w) k = k (so w) := fun k => by rw [ag_n hw (by omega), u1]
  have ec' : ∀ {β : Type} (k : Int32 → Option β), ag ez 6 (nI t) k = k (nI (ln t)) := fun k => by rw [ag_n ht (by omega), q4]
  have ey : ∀ {β : Type} (k : Int32 → Option β), ag ez 6 (nI w) k = k (nI (ln w)) := fun k => by rw [ag_n hw (by omega), u4]
  simp only [ea, ew, eb, ex, ec', ey]
  by_cases c : so t = -1
  · rw [if_pos c, if_pos c]; exact ⟨_, _, rfl, rfl, rfl, h⟩
  rw [if_neg c, if_neg c, cl_s, if_00]
  by_cases c2 : so w = -1
  · rw [if_pos c2, if_pos c2]; exact ⟨_, _, rfl, rfl, rfl, h⟩
  rw [if_neg c2, if_neg c2, cl_s, if_00]
  by_cases c3 : so t = so w
  · rw [if_pos c3, if_pos c3]
    by_cases H : ∃ x y z, a2 = nI x ∧ a5 = nI y ∧ a4 = nI z ∧ x + y ≤ ln t ∧ z + y ≤ ln w
    · obtain ⟨x, y, z, rfl, rfl, rfl, H1, H2⟩ := H
      rcases place5 ht q5 q3 (nI x) (nI y) with ⟨-, p⟩ | ⟨-, -, -, -, -, p⟩
      · exact absurd ⟨x, y, rfl, rfl, H1⟩ p
      rcases place5 hw u5 u3 (nI z) (nI y) with ⟨-, r⟩ | ⟨-, -, -, -, -, r⟩
      · exact absurd ⟨z, y, rfl, rfl, H2⟩ r
      have d1 : ¬ nI x < 0 := by rw [lt_l (k := 0) (by omega) (by omega)]; omega
      have d2 : ¬ nI y < 0 := by rw [lt_l (k := 0) (by omega) (by omega)]; omega
      have d3 : ¬ nI z < 0 := by rw [lt_l (k := 0) (by omega) (by omega)]; omega
      have d4 : ¬ nI (ln t) < nI x := by rw [n_lt (by omega) (by omega)]; omega
      have d5 : ¬ nI (ln w) < nI z := by rw [n_lt (by omega) (by omega)]; omega
      have d6 : ¬ nI (ln t) - nI x < nI y := by rw [n_subn (by omega), n_lt (by omega) (by omega)]; omega
      have d7 : nI y ≤ nI (ln w) - nI z := by rw [n_subn (by omega), n_le (by omega) (by omega)]; omega
      have dc : cpb (nI (60 * t + x)) (nI (60 * w + z)) (nI y) 360 360 = true := by
        have e1 : ¬ nI (60 * t + x) < 0 := by rw [lt_l (k := 0) (by omega) (by omega)]; omega
        have e2 : ¬ nI (60 * w + z) < 0 := by rw [lt_l (k := 0) (by omega) (by omega)]; omega
        unfold cpb
        rw [n_cl (by omega), n_cl (by omega), n_cl (by omega)]
        simp only [e1, e2, d2, decide_false, Bool.not_false, Bool.true_and, Bool.and_eq_true, decide_eq_true_eq]
        omega
      rw [p, cl_s, if_10, r, cl_s, if_10, if_neg d2, if_neg d1, if_neg d3, if_neg d4, if_neg d5, if_neg d6, if_pos d7, cell7, cell7]
      unfold cpi
      rw [if_pos dc, cl_s, n_cl (by omega), n_cl (by omega), n_cl (by omega)]
      obtain ⟨ca', y1, y2⟩ := carry8 (t := t) (x := x) (y := y) ht (by omega) ec ca (fun x6_125 y_f_carried_125 => m_X8_shift_L162 (nI w) (nI z) (nI y) y_f_carried_125 FU (0 : Int32) ec fun x6_162 y_f_cells_162 => some (y_f_cells_162, y_f_carried_125, nI y))
      obtain ⟨ec2, z1, z2⟩ := lay8 (t := w) (z := z) (y := y) hw (by omega) ca' ec (fun x6_162 y_f_cells_162 => some (y_f_cells_162, ca', nI y))
      rw [y2, z2]
      refine ⟨_, _, rfl, rfl, rfl, fun v hv => ?_⟩
      obtain ⟨w1, w2, w3, w4, w5, w6, w7⟩ := h v hv
      refine ⟨w1, w2, w3, w4, w5, w6, fun i hi => ?_⟩
      show ec2 (60 * v + i) = va_cpy it it (60 * t + x) (60 * w + z) y (60 * v + i)
      unfold va_cpy
      rw [z1]
      by_cases cc : 60 * w + z ≤ 60 * v + i ∧ 60 * v + i < 60 * w + z + y
      · rw [if_pos cc, if_pos cc, y1 _ (by omega)]
        have hlt : x + (60 * v + i - (60 * w + z)) < ln t := by omega
        have := q7 _ hlt
        rw [show 60 * t + x + (60 * v + i - (60 * w + z)) = 60 * t + (x + (60 * v + i - (60 * w + z))) by omega]
        exact this
      · rw [if_neg cc, if_neg cc]; exact w7 i hi
    · have g7 : ∀ k, (cl (m_X0_hasPlace le (nI t) a2 a5) fun r_11 => if r_11 = 0 then (some (it, (-13 : Int32))) else (cl (m_X0_hasPlace le (nI w) a4 a5) fun r_13 => if r_13 = 0 then (some (it, (-13 : Int32))) else k)) = some (it, -13) := fun k => by
        rcases place5 ht q5 q3 a2 a5 with ⟨p, -⟩ | ⟨x, y, e1, e2, e3, p⟩
        · rw [p, cl_s, if_00]
        rw [p, cl_s, if_10]
        rcases place5 hw u5 u3 a4 a5 with ⟨r, -⟩ | ⟨z, y', e4, e5, e6, r⟩
        · rw [r, cl_s, if_00]
        · exfalso
          apply H
          subst e2
          by_cases cy' : nI y = nI y'
          · refine ⟨x, y, z, e1, rfl, e4, e3, ?_⟩
            rw [n_eq (by omega) (by omega)] at cy'
            omega
          · exact absurd e5 cy'
      rw [g7]
      refine ⟨_, (ec, ca, -13), rfl, ?_, rfl, h⟩
      by_cases d2 : a5 < 0
      · rw [if_pos d2]
      rw [if_neg d2]
      by_cases d1 : a2 < 0
      · rw [if_pos d1]
      rw [if_neg d1]
      by_cases d3 : a4 < 0
      · rw [if_pos d3]
      rw [if_neg d3]
      obtain ⟨x, hx, rfl⟩ := n_clx d1
      obtain ⟨y, hy, rfl⟩ := n_clx d2
      obtain ⟨z, hz, rfl⟩ := n_clx d3
      by_cases d4 : nI (ln t) < nI x
      · rw [if_pos d4]
      rw [if_neg d4]
      by_cases d5 : nI (ln w) < nI z
      · rw [if_pos d5]
      rw [if_neg d5]
      rw [n_lt (by omega) (by omega)] at d4 d5
      rw [n_subn (show x ≤ ln t by omega), n_subn (show z ≤ ln w by omega)]
      by_cases d6 : nI (ln t - x) < nI y
      · rw [if_pos d6]
      rw [if_neg d6]
      by_cases d7 : nI y ≤ nI (ln w - z)
      · exfalso
        rw [n_lt (by omega) (by omega)] at d6
        rw [n_le (by omega) (by omega)] at d7
        exact H ⟨x, y, z, rfl, rfl, rfl, by omega, by omega⟩
      · rw [if_neg d7]
  · rw [if_neg c3, if_neg c3]; exact ⟨_, _, rfl, rfl, rfl, h⟩
