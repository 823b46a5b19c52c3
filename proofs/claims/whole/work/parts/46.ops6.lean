/-! ===== ties and digs ===== -/
theorem pair_cases {n : Nat} (hn : n ≤ 12) (a b : Int32) : (m_X7_isPair (nI n) a b = some 0 ∧ m_X8_areTwo (nI n) a b = some 0) ∨ ∃ u v, u < n ∧ v < n ∧ u ≠ v ∧ a = nI u ∧ b = nI v ∧ m_X7_isPair (nI n) a b = some 1 ∧ m_X8_areTwo (nI n) a b = some 1 := by
  unfold m_X7_isPair m_X8_areTwo
  rcases unit_cases hn a with ⟨h1, h2⟩ | ⟨u, hu, rfl, h1, h2⟩
  · rw [h1, h2]; exact Or.inl ⟨rfl, rfl⟩
  rw [h1, h2, cl_s, cl_s, if_10, if_10]
  rcases unit_cases hn b with ⟨h3, h4⟩ | ⟨v, hv, rfl, h3, h4⟩
  · rw [h3, h4]; exact Or.inl ⟨rfl, rfl⟩
  rw [h3, h4, cl_s, if_10]
  by_cases c : nI u = nI v
  · rw [if_pos c]; exact Or.inl ⟨rfl, rfl⟩
  · rw [if_neg c]
    exact Or.inr ⟨u, v, hu, hv, fun q => c (by rw [q]), rfl, rfl, rfl, rfl⟩
theorem tie_find {n t : Nat} (hn : n ≤ 12) (ht : t ≤ 40) {upr lwr ab bl : Nat → Int32} {up lo : Nat → Nat} (h : RTi n t upr lwr ab bl up lo) {u v : Nat} (hu : u < 12) (hv : v < 12) : ((∀ k, k < t → ¬ (up k = u ∧ lo k = v)) ∧ m_X2_tieNumber (nI t) upr lwr (nI u) (nI v) = some (-1) ∧ m_X8_tieAt (nI t) ab bl (nI u) (nI v) = some (-1)) ∨ ∃ k, k < t ∧ up k = u ∧ lo k = v ∧ m_X2_tieNumber (nI t) upr lwr (nI u) (nI v) = some (nI k) ∧ m_X8_tieAt (nI t) ab bl (nI u) (nI v) = some (nI k) := by
  obtain ⟨hT, hd, he⟩ := h
  unfold m_X2_tieNumber m_X8_tieAt
  by_cases hk : ∃ k, k < t ∧ up k = u ∧ lo k = v
  · obtain ⟨k, k1, k2, k3⟩ := hk
    have huni : ∀ j, j < t → up j = u → lo j = v → j = k := fun j q1 q2 q3 => hd j k q1 k1 (q2.trans k2.symm) (q3.trans k3.symm)
    refine Or.inr ⟨k, k1, k2, k3, ?_, ?_⟩
    · have := lpe (fun f i (s : Unit) => m_X2_tieNumber_L2 (nI t) upr lwr (nI u) (nI v) f i (fun x3_2 => some (-1))) (fun _ => some (-1)) t (fun j _ => j ≤ k) (fun r => r = nI k)
        (fun f j s hj hP => by
          obtain ⟨e1, e2, e3, e4⟩ := hT j hj
          by_cases c1 : up j = u
          · have e1' : upr j = nI u := by rw [e1, c1]
            by_cases c2 : lo j = v
            · have e2' : lwr j = nI v := by rw [e2, c2]
              right
              have := huni j hj c1 c2
              subst this
              exact ⟨nI j, by simp (disch := omega) only [m_X2_tieNumber_L2, n_le, Nat.not_le.mpr hj, if_false, ag_n, if_pos e1', if_pos e2'], rfl⟩
            · have e2' : ¬ lwr j = nI v := by rw [e2, n_eq (by omega) (by omega)]; exact c2
              left
              refine ⟨(), by simp (disch := omega) only [m_X2_tieNumber_L2, n_le, Nat.not_le.mpr hj, if_false, ag_n, if_pos e1', if_neg e2', nI_1], ?_⟩
              rcases Nat.lt_or_ge j k with q | q
              · exact q
              · exact absurd (show lo j = v by have : j = k := by omega
                                               rw [this]; exact k3) c2
          · have e1' : ¬ upr j = nI u := by rw [e1, n_eq (by omega) (by omega)]; exact c1
            left
            refine ⟨(), by simp (disch := omega) only [m_X2_tieNumber_L2, n_le, Nat.not_le.mpr hj, if_false, ag_n, if_neg e1', nI_1], ?_⟩
            rcases Nat.lt_or_ge j k with q | q
            · exact q
            · exact absurd (show up j = u by have : j = k := by omega
                                             rw [this]; exact k2) c1)
        (fun f s _ => by simp (disch := omega) only [m_X2_tieNumber_L2, n_le, Nat.le_refl, if_true]) 0 () (by omega) (by omega) (Nat.zero_le k)
      rcases this with ⟨s, q, -⟩ | ⟨r, q, rfl⟩
      · exact absurd q (by omega)
      · exact q
    · obtain ⟨s, q1, q2⟩ := lpx (fun f i (s : Int32) => m_X8_tieAt_L5 (nI t) ab bl (nI u) (nI v) f s i (fun x3_5 x4_5 => some x3_5)) (fun s => some s) t (fun j s => (j ≤ k → s = -1) ∧ (k < j → s = nI k))
        (fun f j s hj hP => by
          obtain ⟨e1, e2, e3, e4⟩ := hT j hj
          have f1 := (he j hj).1
          have f2 := (he j hj).2
          by_cases c1 : up j = u
          · have e1' : ab j = nI u := by rw [f1, e1, c1]
            by_cases c2 : lo j = v
            · have e2' : bl j = nI v := by rw [f2, e2, c2]
              have hjk := huni j hj c1 c2
              subst hjk
              exact ⟨nI j, by simp (disch := omega) only [m_X8_tieAt_L5, n_le, Nat.not_le.mpr hj, if_false, ag_n, if_pos e1', if_pos e2', nI_1], fun q => absurd q (by omega), fun _ => rfl⟩
            · have e2' : ¬ bl j = nI v := by rw [f2, e2, n_eq (by omega) (by omega)]; exact c2
              have hjk : j ≠ k := fun q => c2 (by rw [q]; exact k3)
              exact ⟨s, by simp (disch := omega) only [m_X8_tieAt_L5, n_le, Nat.not_le.mpr hj, if_false, ag_n, if_pos e1', if_neg e2', nI_1], fun q => hP.1 (by omega), fun q => hP.2 (by omega)⟩
          · have e1' : ¬ ab j = nI u := by rw [f1, e1, n_eq (by omega) (by omega)]; exact c1
            have hjk : j ≠ k := fun q => c1 (by rw [q]; exact k2)
            exact ⟨s, by simp (disch := omega) only [m_X8_tieAt_L5, n_le, Nat.not_le.mpr hj, if_false, ag_n, if_neg e1', nI_1], fun q => hP.1 (by omega), fun q => hP.2 (by omega)⟩)
        (fun f s _ => by simp (disch := omega) only [m_X8_tieAt_L5, n_le, Nat.le_refl, if_true]) 0 (-1) (by omega) (by omega) ⟨fun _ => rfl, fun q => absurd q (by omega)⟩
      rw [q1.2 k1] at q2
      exact q2
  · have hno : ∀ k, k < t → ¬ (up k = u ∧ lo k = v) := fun k q1 q2 => hk ⟨k, q1, q2⟩
    refine Or.inl ⟨hno, ?_, ?_⟩
    · obtain ⟨s, q1, q2⟩ := lpx (fun f i (s : Unit) => m_X2_tieNumber_L2 (nI t) upr lwr (nI u) (nI v) f i (fun x3_2 => some (-1))) (fun _ => some (-1)) t (fun j _ => True)
        (fun f j s hj hP => by
          obtain ⟨e1, e2, e3, e4⟩ := hT j hj
          by_cases c1 : up j = u
          · have e1' : upr j = nI u := by rw [e1, c1]
            have e2' : ¬ lwr j = nI v := by rw [e2, n_eq (by omega) (by omega)]; exact fun q => hno j hj ⟨c1, q⟩
            exact ⟨(), by simp (disch := omega) only [m_X2_tieNumber_L2, n_le, Nat.not_le.mpr hj, if_false, ag_n, if_pos e1', if_neg e2', nI_1], trivial⟩
          · have e1' : ¬ upr j = nI u := by rw [e1, n_eq (by omega) (by omega)]; exact c1
            exact ⟨(), by simp (disch := omega) only [m_X2_tieNumber_L2, n_le, Nat.not_le.mpr hj, if_false, ag_n, if_neg e1', nI_1], trivial⟩)
        (fun f s _ => by simp (disch := omega) only [m_X2_tieNumber_L2, n_le, Nat.le_refl, if_true]) 0 () (by omega) (by omega) trivial
      exact q2
    · obtain ⟨s, q1, q2⟩ := lpx (fun f i (s : Int32) => m_X8_tieAt_L5 (nI t) ab bl (nI u) (nI v) f s i (fun x3_5 x4_5 => some x3_5)) (fun s => some s) t (fun j s => s = -1)
        (fun f j s hj hP => by
          obtain ⟨e1, e2, e3, e4⟩ := hT j hj
          have f1 := (he j hj).1
          have f2 := (he j hj).2
          by_cases c1 : up j = u
          · have e1' : ab j = nI u := by rw [f1, e1, c1]
            have e2' : ¬ bl j = nI v := by rw [f2, e2, n_eq (by omega) (by omega)]; exact fun q => hno j hj ⟨c1, q⟩
            exact ⟨s, by simp (disch := omega) only [m_X8_tieAt_L5, n_le, Nat.not_le.mpr hj, if_false, ag_n, if_pos e1', if_neg e2', nI_1], hP⟩
          · have e1' : ¬ ab j = nI u := by rw [f1, e1, n_eq (by omega) (by omega)]; exact c1
            exact ⟨s, by simp (disch := omega) only [m_X8_tieAt_L5, n_le, Nat.not_le.mpr hj, if_false, ag_n, if_neg e1', nI_1], hP⟩)
        (fun f s _ => by simp (disch := omega) only [m_X8_tieAt_L5, n_le, Nat.le_refl, if_true]) 0 (-1) (by omega) (by omega) rfl
      rw [q1] at q2
      exact q2
theorem RTi_add {n t : Nat} {upr lwr ab bl : Nat → Int32} {up lo : Nat → Nat} (h : RTi n t upr lwr ab bl up lo) {u v : Nat} (hu : u < n) (hv : v < n) (hno : ∀ k, k < t → ¬ (up k = u ∧ lo k = v)) : RTi n (t + 1) (upd upr t (nI u)) (upd lwr t (nI v)) (upd ab t (nI u)) (upd bl t (nI v)) (fun k => if k = t then u else up k) (fun k => if k = t then v else lo k) := by
  obtain ⟨hT, hd, he⟩ := h
  refine ⟨fun k hk => ?_, fun i j hi hj q1 q2 => ?_, fun k hk => ?_⟩
  · by_cases q : k = t
    · subst q; simp only [upd_s, if_true]; exact ⟨trivial, trivial, hu, hv⟩
    · simp only [upd_n q, if_neg q]; exact hT k (by omega)
  · simp only at q1 q2
    by_cases c1 : i = t
    · by_cases c2 : j = t
      · omega
      · rw [if_pos c1, if_neg c2] at q1 q2
        exact (hno j (by omega) ⟨q1.symm, q2.symm⟩).elim
    · by_cases c2 : j = t
      · rw [if_neg c1, if_pos c2] at q1 q2
        exact (hno i (by omega) ⟨q1, q2⟩).elim
      · rw [if_neg c1, if_neg c2] at q1 q2
        exact hd i j (by omega) (by omega) q1 q2
  · by_cases q : k = t
    · subst q; simp only [upd_s]; exact ⟨trivial, trivial⟩
    · simp only [upd_n q]; exact he k (by omega)
theorem o_tie {n t : Nat} (hn : n ≤ 12) (ht : t ≤ 40) {upr lwr ab bl : Nat → Int32} {up lo : Nat → Nat} (h : RTi n t upr lwr ab bl up lo) (a1 a2 : Int32) : ∃ r7 r8 t2 up2 lo2, m_X7_tie (nI n) (nI t) upr lwr a1 a2 = some r7 ∧ m_X8_tie (nI n) (nI t) ab bl a1 a2 = some r8 ∧ r7.2.2.2 = r8.2.2.2 ∧ t2 ≤ 40 ∧ r7.1 = nI t2 ∧ r8.1 = nI t2 ∧ RTi n t2 r7.2.1 r7.2.2.1 r8.2.1 r8.2.2.1 up2 lo2 := by
  unfold m_X7_tie m_X8_tie
  rcases pair_cases hn a1 a2 with ⟨h1, h2⟩ | ⟨u, v, hu, hv, huv, rfl, rfl, h1, h2⟩
  · rw [h1, h2]; exact ⟨_, _, t, up, lo, rfl, rfl, rfl, ht, rfl, rfl, h⟩
  rw [h1, h2, cl_s, cl_s, if_10, if_10]
  rcases tie_find hn ht h (show u < 12 by omega) (show v < 12 by omega) with ⟨k1, k2, k3⟩ | ⟨k, k0, k1, k2, k3, k4⟩
  · rw [k2, k3, cl_s, cl_s, if_pos m1_0, if_pos rfl]
    by_cases c : t < 40
    · have c1 : nI t < (40 : Int32) := by rw [lt_l (k := 40) (by omega) (by omega)]; exact c
      have c2 : ¬ nI t = (40 : Int32) := by rw [eq_l (k := 40) (by omega) (by omega)]; omega
      unfold m_X2_addTie
      rw [if_pos c1, if_neg c2]
      simp only [au_n c (show 40 < 2147483648 by omega), cl_s, nI_1]
      exact ⟨_, _, t + 1, _, _, rfl, rfl, rfl, by omega, rfl, rfl, RTi_add h hu hv k1⟩
    · have ht' : t = 40 := by omega
      have c1 : ¬ nI t < (40 : Int32) := by rw [lt_l (k := 40) (by omega) (by omega)]; exact c
      have c2 : nI t = (40 : Int32) := by rw [eq_l (k := 40) (by omega) (by omega)]; omega
      rw [if_neg c1, if_pos c2]
      exact ⟨_, _, t, up, lo, rfl, rfl, rfl, ht, rfl, rfl, h⟩
  · have c1 : ¬ nI k < 0 := by rw [lt_l (k := 0) (by omega) (by omega)]; omega
    have c2 : ¬ nI k = -1 := by rw [n_m1 (by omega)]; exact id
    rw [k3, k4, cl_s, cl_s, if_neg c1, if_neg c2]
    exact ⟨_, _, t, up, lo, rfl, rfl, rfl, ht, rfl, rfl, h⟩
/-- dropping entry k of a row -/
def dn {α : Type} (f : Nat → α) (k : Nat) : Nat → α := fun i => if i < k then f i else f (i + 1)
theorem drop7 {t k : Nat} (hk : k < t) (ht : t ≤ 40) (upr lwr : Nat → Int32) : ∃ f g, m_X2_dropTie (nI t) upr lwr (nI k) = some (nI (t - 1), f, g) ∧ (∀ i, i < t - 1 → f i = dn upr k i) ∧ ∀ i, i < t - 1 → g i = dn lwr k i := by
  unfold m_X2_dropTie
  have hb : ∀ j, (nI t - (1 : Int32)) ≤ nI j ↔ nI (t - 1) ≤ nI j := fun j => by rw [n_sub1 (by omega)]
  obtain ⟨s, h1, h2⟩ := lpx (fun f i (s : (Nat → Int32) × (Nat → Int32)) => m_X2_dropTie_L12 (nI t) f i s.1 s.2 (fun x2_12 y_f_upper_12 y_f_lower_12 => some ((nI t - (1 : Int32)), y_f_upper_12, y_f_lower_12))) (fun s => some ((nI t - (1 : Int32)), s.1, s.2)) (t - 1) (fun j s => k ≤ j ∧ ∀ i, (k ≤ i → i < j → s.1 i = upr (i + 1) ∧ s.2 i = lwr (i + 1)) ∧ ((i < k ∨ j ≤ i) → s.1 i = upr i ∧ s.2 i = lwr i))
    (fun f j s hj hP => by
      refine ⟨(upd s.1 j (s.1 (j + 1)), upd s.2 j (s.2 (j + 1))), by simp (disch := omega) only [m_X2_dropTie_L12, hb, n_le, Nat.not_le.mpr hj, if_false, nI_1, ag_n, au_n], by have := hP.1; omega, fun i => ⟨fun q1 q2 => ?_, fun q => ?_⟩⟩
      · by_cases c : i = j
        · subst c
          simp only [upd_s]
          exact (hP.2 (i + 1)).2 (Or.inr (by omega))
        · simp only [upd_n c]
          exact (hP.2 i).1 q1 (by omega)
      · have c : i ≠ j := by have := hP.1; omega
        simp only [upd_n c]
        exact (hP.2 i).2 (by omega))
    (fun f s _ => by simp (disch := omega) only [m_X2_dropTie_L12, hb, n_le, Nat.le_refl, if_true]) k (upr, lwr) (by omega) (by omega) ⟨Nat.le_refl k, fun i => ⟨fun q1 q2 => absurd q1 (by omega), fun _ => ⟨rfl, rfl⟩⟩⟩
  refine ⟨s.1, s.2, ?_, fun i hi => ?_, fun i hi => ?_⟩
  · refine h2.trans ?_
    rw [n_sub1 (by omega)]
  · unfold dn
    by_cases c : i < k
    · rw [if_pos c]; exact ((h1.2 i).2 (Or.inl c)).1
    · rw [if_neg c]; exact ((h1.2 i).1 (by omega) hi).1
  · unfold dn
    by_cases c : i < k
    · rw [if_pos c]; exact ((h1.2 i).2 (Or.inl c)).2
    · rw [if_neg c]; exact ((h1.2 i).1 (by omega) hi).2
theorem drop8 {t k : Nat} (hk : k < t) (ht : t ≤ 40) (upr lwr : Nat → Int32) : ∃ f g, m_X8_drops (nI t) upr lwr (nI k) = some (nI (t - 1), f, g) ∧ (∀ i, i < t - 1 → f i = dn upr k i) ∧ ∀ i, i < t - 1 → g i = dn lwr k i := by
  unfold m_X8_drops
  have hb : ∀ j, (nI t - (1 : Int32)) ≤ nI j ↔ nI (t - 1) ≤ nI j := fun j => by rw [n_sub1 (by omega)]
  obtain ⟨s, h1, h2⟩ := lpx (fun f i (s : (Nat → Int32) × (Nat → Int32)) => m_X8_drops_L12 (nI t) f i s.1 s.2 (fun x2_12 y_f_upper_12 y_f_lower_12 => some ((nI t - (1 : Int32)), y_f_upper_12, y_f_lower_12))) (fun s => some ((nI t - (1 : Int32)), s.1, s.2)) (t - 1) (fun j s => k ≤ j ∧ ∀ i, (k ≤ i → i < j → s.1 i = upr (i + 1) ∧ s.2 i = lwr (i + 1)) ∧ ((i < k ∨ j ≤ i) → s.1 i = upr i ∧ s.2 i = lwr i))
    (fun f j s hj hP => by
      refine ⟨(upd s.1 j (s.1 (j + 1)), upd s.2 j (s.2 (j + 1))), by simp (disch := omega) only [m_X8_drops_L12, hb, n_le, Nat.not_le.mpr hj, if_false, nI_1, ag_n, au_n], by have := hP.1; omega, fun i => ⟨fun q1 q2 => ?_, fun q => ?_⟩⟩
      · by_cases c : i = j
        · subst c
          simp only [upd_s]
          exact (hP.2 (i + 1)).2 (Or.inr (by omega))
        · simp only [upd_n c]
          exact (hP.2 i).1 q1 (by omega)
      · have c : i ≠ j := by have := hP.1; omega
        simp only [upd_n c]
        exact (hP.2 i).2 (by omega))
    (fun f s _ => by simp (disch := omega) only [m_X8_drops_L12, hb, n_le, Nat.le_refl, if_true]) k (upr, lwr) (by omega) (by omega) ⟨Nat.le_refl k, fun i => ⟨fun q1 q2 => absurd q1 (by omega), fun _ => ⟨rfl, rfl⟩⟩⟩
  refine ⟨s.1, s.2, ?_, fun i hi => ?_, fun i hi => ?_⟩
  · refine h2.trans ?_
    rw [n_sub1 (by omega)]
  · unfold dn
    by_cases c : i < k
    · rw [if_pos c]; exact ((h1.2 i).2 (Or.inl c)).1
    · rw [if_neg c]; exact ((h1.2 i).1 (by omega) hi).1
  · unfold dn
    by_cases c : i < k
    · rw [if_pos c]; exact ((h1.2 i).2 (Or.inl c)).2
    · rw [if_neg c]; exact ((h1.2 i).1 (by omega) hi).2
theorem RTi_drop {n t k : Nat} {upr lwr ab bl f g f' g' : Nat → Int32} {up lo : Nat → Nat} (h : RTi n t upr lwr ab bl up lo) (hk : k < t) (h1 : ∀ i, i < t - 1 → f i = dn upr k i) (h2 : ∀ i, i < t - 1 → g i = dn lwr k i) (h3 : ∀ i, i < t - 1 → f' i = dn ab k i) (h4 : ∀ i, i < t - 1 → g' i = dn bl k i) : RTi n (t - 1) f g f' g' (dn up k) (dn lo k) := by
  obtain ⟨hT, hd, he⟩ := h
  have key : ∀ i, i < t - 1 → ∃ j, j < t ∧ (∀ {α : Type} (x : Nat → α), dn x k i = x j) ∧ (i < k ∧ j = i ∨ k ≤ i ∧ j = i + 1) := fun i hi => by
    by_cases c : i < k
    · exact ⟨i, by omega, fun x => by unfold dn; rw [if_pos c], Or.inl ⟨c, rfl⟩⟩
    · exact ⟨i + 1, by omega, fun x => by unfold dn; rw [if_neg c], Or.inr ⟨by omega, rfl⟩⟩
  refine ⟨fun i hi => ?_, fun i j hi hj q1 q2 => ?_, fun i hi => ?_⟩
  · obtain ⟨j, j1, j2, -⟩ := key i hi
    rw [h1 i hi, h2 i hi, j2, j2, j2, j2]
    exact hT j j1
  · obtain ⟨x, x1, x2, x3⟩ := key i hi
    obtain ⟨y, y1, y2, y3⟩ := key j hj
    rw [x2, y2] at q1 q2
    have := hd x y x1 y1 q1 q2
    omega
  · obtain ⟨j, j1, j2, -⟩ := key i hi
    rw [h1 i hi, h2 i hi, h3 i hi, h4 i hi, j2, j2, j2, j2]
    exact he j j1
theorem o_untie {n t : Nat} (hn : n ≤ 12) (ht : t ≤ 40) {upr lwr ab bl : Nat → Int32} {up lo : Nat → Nat} (h : RTi n t upr lwr ab bl up lo) (a1 a2 : Int32) : ∃ r7 r8 t2 up2 lo2, m_X7_untie (nI n) (nI t) upr lwr a1 a2 = some r7 ∧ m_X8_untie (nI n) (nI t) ab bl a1 a2 = some r8 ∧ r7.2.2.2 = r8.2.2.2 ∧ t2 ≤ 40 ∧ r7.1 = nI t2 ∧ r8.1 = nI t2 ∧ RTi n t2 r7.2.1 r7.2.2.1 r8.2.1 r8.2.2.1 up2 lo2 := by
  unfold m_X7_untie m_X8_untie
  rcases pair_cases hn a1 a2 with ⟨h1, h2⟩ | ⟨u, v, hu, hv, huv, rfl, rfl, h1, h2⟩
  · rw [h1, h2]; exact ⟨_, _, t, up, lo, rfl, rfl, rfl, ht, rfl, rfl, h⟩
  rw [h1, h2, cl_s, cl_s, if_10, if_10]
  rcases tie_find hn ht h (show u < 12 by omega) (show v < 12 by omega) with ⟨k1, k2, k3⟩ | ⟨k, k0, k1, k2, k3, k4⟩
  · rw [k2, k3, cl_s, cl_s, if_neg (show ¬ (0 : Int32) ≤ -1 by decide), if_pos rfl]
    exact ⟨_, _, t, up, lo, rfl, rfl, rfl, ht, rfl, rfl, h⟩
  · have c1 : 0 ≤ nI k := by rw [l_le (k := 0) (by omega) (by omega)]; omega
    have c2 : ¬ nI k = -1 := by rw [n_m1 (by omega)]; exact id
    obtain ⟨f, g, d1, d2, d3⟩ := drop7 k0 ht upr lwr
    obtain ⟨f', g', d4, d5, d6⟩ := drop8 k0 ht ab bl
    rw [k3, k4, cl_s, cl_s, if_pos c1, if_neg c2, d1, d4, cl_s, cl_s]
    exact ⟨_, _, t - 1, _, _, rfl, rfl, rfl, by omega, rfl, rfl, RTi_drop h k0 d2 d3 d5 d6⟩
