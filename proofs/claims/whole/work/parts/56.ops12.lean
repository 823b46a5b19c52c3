/-! ===== numbers kept, tapes ===== -/
theorem o_count {w x y z a1 : Int32} : ∃ r7 r8, m_X7_count w x y z a1 = some r7 ∧ m_X8_count y z w x a1 = some r8 ∧ r7 = r8 := by
  unfold m_X7_count m_X8_count
  by_cases c0 : a1 = 0
  · rw [if_pos c0]; exact ⟨_, _, rfl, rfl, rfl⟩
  rw [if_neg c0]
  by_cases c1 : a1 = 1
  · rw [if_pos c1]; exact ⟨_, _, rfl, rfl, rfl⟩
  rw [if_neg c1]
  by_cases c2 : a1 = 2
  · rw [if_pos c2]; exact ⟨_, _, rfl, rfl, rfl⟩
  rw [if_neg c2]
  by_cases c3 : a1 = 3
  · rw [if_pos c3]; exact ⟨_, _, rfl, rfl, rfl⟩
  rw [if_neg c3]; exact ⟨_, _, rfl, rfl, rfl⟩
theorem tape_is (a : Int32) : (m_X0_isTape a = some 0 ∧ m_X8_isTape a = some 0) ∨ ∃ j, j < 6 ∧ a = nI j ∧ m_X0_isTape a = some 1 ∧ m_X8_isTape a = some 1 := by
  rcases phase_cases a with ⟨h1, h2⟩ | ⟨p, hp, rfl, h1, h2⟩
  · exact Or.inl ⟨h1, h2⟩
  · exact Or.inr ⟨p, hp, rfl, h1, h2⟩
theorem cell7 (t i : Nat) : nI t * (60 : Int32) + nI i = nI (60 * t + i) := by
  show nI t * nI 60 + nI i = _
  rw [pk_mul, nI_add, Nat.mul_comm]
theorem cell8 (t i : Nat) : (60 : Int32) * nI t + nI i = nI (60 * t + i) := by
  show nI 60 * nI t + nI i = _
  rw [pk_mul, nI_add]
def RRe (ln : Nat → Nat) (so le : Nat → Int32) (it : Nat → Int64) (es ez : Nat → Int32) (ec : Nat → Int64) : Prop := ∀ t, t < 6 → es t = so t ∧ (so t = -1 ∨ ∃ k, k < 5 ∧ so t = nI k) ∧ le t = nI (ln t) ∧ ez t = nI (ln t) ∧ ln t ≤ 60 ∧ (so t = -1 → ln t = 0) ∧ ∀ i, i < ln t → ec (60 * t + i) = it (60 * t + i)
theorem cut_same (v : Int32) (a : Int64) : ∃ r, m_X0_cutDown v a = some r ∧ m_X8_heldBy_ v a = some r := by
  unfold m_X0_cutDown m_X8_heldBy_
  by_cases c0 : v = 0
  · rw [if_pos c0]; exact ⟨_, rfl, rfl⟩
  rw [if_neg c0]
  by_cases c1 : v = 1
  · rw [if_pos c1]; exact ⟨_, rfl, rfl⟩
  rw [if_neg c1]
  by_cases c2 : v = 2
  · rw [if_pos c2]; exact ⟨_, rfl, rfl⟩
  rw [if_neg c2]
  by_cases c3 : v = 3
  · rw [if_pos c3]; exact ⟨_, rfl, rfl⟩
  rw [if_neg c3]
  by_cases c4 : lg_cmp a 0 = 0
  · rw [if_pos c4]; exact ⟨_, rfl, rfl⟩
  · rw [if_neg c4]; exact ⟨_, rfl, rfl⟩
theorem place1 {le : Nat → Int32} {t N : Nat} (ht : t < 6) (hN : N ≤ 60) (hl : le t = nI N) (a2 : Int32) : (m_X0_hasPlace le (nI t) a2 1 = some 0 ∧ m_X8_in a2 0 (nI N - 1) = some 0) ∨ ∃ j, j < N ∧ a2 = nI j ∧ m_X0_hasPlace le (nI t) a2 1 = some 1 ∧ m_X8_in a2 0 (nI N - 1) = some 1 := by
  unfold m_X0_hasPlace
  have ea : ∀ {β : Type} (k : Int32 → Option β), ag le 6 (nI t) k = k (nI N) := fun k => by rw [ag_n ht (by omega), hl]
  rw [ea, ea, if_neg (show ¬ (1 : Int32) < 0 by decide)]
  rcases lt_cases (N := N) (by omega) a2 with ⟨b1, b2⟩ | ⟨j, hj, rfl, b1, b2, b3⟩
  · left
    refine ⟨?_, b1⟩
    by_cases c : a2 < 0
    · rw [if_pos c]
    rw [if_neg c]
    by_cases c0 : nI N < 1
    · rw [if_pos c0]
    rw [if_neg c0]
    have hN0 : 0 < N := by
      have c0 : ¬ nI N < nI 1 := c0
      rw [n_lt (by omega) (by omega)] at c0; omega
    have c2 : nI N - 1 < a2 := by
      have := b2.resolve_left c
      rw [n_sub1 hN0, Int32.lt_iff_toInt_lt, nI_toInt (by omega)]
      rw [Int32.lt_iff_toInt_lt, nI_toInt (by omega)] at this
      omega
    rw [if_pos c2]
  · right
    have c0 : ¬ nI N < 1 := by
      show ¬ nI N < nI 1
      rw [n_lt (by omega) (by omega)]; omega
    have c2 : ¬ nI N - 1 < nI j := by rw [n_sub1 (by omega), n_lt (by omega) (by omega)]; omega
    rw [if_neg b1, if_neg c0, if_neg c2]
    exact ⟨j, hj, rfl, rfl, b3⟩
theorem o_peek {ln : Nat → Nat} {so le es ez : Nat → Int32} {it ec : Nat → Int64} (h : RRe ln so le it es ez ec) (a1 a2 : Int32) : ∃ r7 r8, m_X7_peek so le it a1 a2 = some r7 ∧ m_X8_peek es ez ec a1 a2 = some r8 ∧ r7 = r8 := by
  unfold m_X7_peek m_X8_peek m_X0_isEmpty m_X0_at
  rcases tape_is a1 with ⟨h1, h2⟩ | ⟨t, ht, rfl, h1, h2⟩
  · rw [h1, h2]; exact ⟨_, _, rfl, rfl, rfl⟩
  obtain ⟨q1, q2, q3, q4, q5, q6, q7⟩ := h t ht
  have ea : ∀ {β : Type} (k : Int32 → Option β), ag so 6 (nI t) k = k (so t) := fun k => ag_n ht (by omega)
  have eb : ∀ {β : Type} (k : Int32 → Option β), ag es 6 (nI t) k = k (so t) := fun k => by rw [ag_n ht (by omega), q1]
  have ec' : ∀ {β : Type} (k : Int32 → Option β), ag ez 6 (nI t) k = k (nI (ln t)) := fun k => by rw [ag_n ht (by omega), q4]
  rw [h1, h2, cl_s, cl_s, if_10, if_10, ea, eb, ec']
  by_cases c : so t = -1
  · rw [if_pos c, if_pos c]; exact ⟨_, _, rfl, rfl, rfl⟩
  rw [if_neg c, if_neg c, cl_s, if_00]
  rcases place1 ht q5 q3 a2 with ⟨p1, p2⟩ | ⟨j, hj, rfl, p1, p2⟩
  · rw [p1, p2]; exact ⟨_, _, rfl, rfl, rfl⟩
  · rw [p1, p2, cl_s, cl_s, if_10, if_10, cell7, cell8, ag_n (by omega) (by omega), ag_n (by omega) (by omega), cl_s]
    exact ⟨_, _, rfl, rfl, (q7 j hj).symm⟩
theorem o_item {ln : Nat → Nat} {so le es ez : Nat → Int32} {it ec : Nat → Int64} (h : RRe ln so le it es ez ec) (a1 a2 : Int32) (a3 : Int64) : ∃ r7 r8, m_X7_item so le it a1 a2 a3 = some r7 ∧ m_X8_item es ez ec a1 a2 a3 = some r8 ∧ r7.2 = r8.2 ∧ RRe ln so le r7.1 es ez r8.1 := by
  unfold m_X7_item m_X8_item m_X0_isEmpty m_X0_put
  rcases tape_is a1 with ⟨h1, h2⟩ | ⟨t, ht, rfl, h1, h2⟩
  · rw [h1, h2]; exact ⟨_, _, rfl, rfl, rfl, h⟩
  obtain ⟨q1, q2, q3, q4, q5, q6, q7⟩ := h t ht
  have ea : ∀ {β : Type} (k : Int32 → Option β), ag so 6 (nI t) k = k (so t) := fun k => ag_n ht (by omega)
  have eb : ∀ {β : Type} (k : Int32 → Option β), ag es 6 (nI t) k = k (so t) := fun k => by rw [ag_n ht (by omega), q1]
  have ec' : ∀ {β : Type} (k : Int32 → Option β), ag ez 6 (nI t) k = k (nI (ln t)) := fun k => by rw [ag_n ht (by omega), q4]
  obtain ⟨r, r1, r2⟩ := cut_same (so t) a3
  simp only [h1, h2, cl_s, if_10, ea, eb, ec']
  by_cases c : so t = -1
  · rw [if_pos c, if_pos c]; exact ⟨_, _, rfl, rfl, rfl, h⟩
  rw [if_neg c, if_neg c, cl_s, if_00]
  rcases place1 ht q5 q3 a2 with ⟨p1, p2⟩ | ⟨j, hj, rfl, p1, p2⟩
  · rw [p1, p2]; exact ⟨_, _, rfl, rfl, rfl, h⟩
  · rw [p1, p2, cl_s, cl_s, if_10, if_10, r1, r2, cl_s, cl_s, cell7, cell8, al_n (by omega) (by omega), al_n (by omega) (by omega), cl_s]
    refine ⟨_, _, rfl, rfl, rfl, fun t' ht' => ?_⟩
    obtain ⟨u1, u2, u3, u4, u5, u6, u7⟩ := h t' ht'
    refine ⟨u1, u2, u3, u4, u5, u6, fun i hi => ?_⟩
    simp only
    by_cases q : 60 * t' + i = 60 * t + j
    · rw [q, pk_uLs, pk_uLs]
    · rw [pk_uLn q, pk_uLn q]; exact u7 i hi
theorem make7 {t N : Nat} (ht : t < 6) (hN : N ≤ 60) (it : Nat → Int64) (k : Int32 → (Nat → Int64) → Option ((Nat → Int32) × (Nat → Int32) × (Nat → Int64))) : ∃ it', (∀ x, it' x = if 60 * t ≤ x ∧ x < 60 * t + N then 0 else it x) ∧ m_X0_make_L17 (nI t) (nI N) FU 0 it k = k (nI N) it' := by
  obtain ⟨s, q1, q2⟩ := lpx (fun f i (s : Nat → Int64) => m_X0_make_L17 (nI t) (nI N) f i s k) (fun s => k (nI N) s) N (fun j s => ∀ x, s x = if 60 * t ≤ x ∧ x < 60 * t + j then 0 else it x)
    (fun f j s hj hP => by
      have c0 : ¬ nI N ≤ nI j := by rw [n_le (by omega) (by omega)]; omega
      refine ⟨vp_updL s (60 * t + j) 0, by rw [m_X0_make_L17, if_neg c0, cell7, al_n (by omega) (by omega), nI_1], fun x => ?_⟩
      by_cases q : x = 60 * t + j
      · subst q; rw [pk_uLs, if_pos (by omega)]
      · rw [pk_uLn q, hP x]
        by_cases c : 60 * t ≤ x ∧ x < 60 * t + j
        · rw [if_pos c, if_pos (by omega)]
        · rw [if_neg c, if_neg (by omega)])
    (fun f s _ => by
      have c0 : nI N ≤ nI N := by rw [n_le (by omega) (by omega)]; omega
      rw [m_X0_make_L17, if_pos c0]) 0 it (Nat.zero_le N) (by omega) (fun x => by rw [if_neg (by omega)])
  exact ⟨s, q1, q2⟩
theorem make8 {t : Nat} (ht : t < 6) (it : Nat → Int64) (k : Int32 → (Nat → Int64) → Option ((Nat → Int32) × (Nat → Int32) × (Nat → Int64) × Int32)) : ∃ it', (∀ x, it' x = if 60 * t ≤ x ∧ x < 60 * t + 60 then 0 else it x) ∧ m_X8_tape_L70 (nI t) FU 0 it k = k (nI 60) it' := by
  obtain ⟨s, q1, q2⟩ := lpx (fun f i (s : Nat → Int64) => m_X8_tape_L70 (nI t) f i s k) (fun s => k (nI 60) s) 60 (fun j s => ∀ x, s x = if 60 * t ≤ x ∧ x < 60 * t + j then 0 else it x)
    (fun f j s hj hP => by
      have c0 : ¬ (60 : Int32) ≤ nI j := by rw [l_le (k := 60) (by omega) (by omega)]; omega
      refine ⟨vp_updL s (60 * t + j) 0, by rw [m_X8_tape_L70, if_neg c0, cell8, al_n (by omega) (by omega), nI_1], fun x => ?_⟩
      by_cases q : x = 60 * t + j
      · subst q; rw [pk_uLs, if_pos (by omega)]
      · rw [pk_uLn q, hP x]
        by_cases c : 60 * t ≤ x ∧ x < 60 * t + j
        · rw [if_pos c, if_pos (by omega)]
        · rw [if_neg c, if_neg (by omega)])
    (fun f s _ => by
      have c0 : (60 : Int32) ≤ nI 60 := by rw [l_le (k := 60) (by omega) (by omega)]; omega
      rw [m_X8_tape_L70, if_pos c0]) 0 it (Nat.zero_le 60) (by omega) (fun x => by rw [if_neg (by omega)])
  exact ⟨s, q1, q2⟩
theorem RRe_tape {ln : Nat → Nat} {so le es ez : Nat → Int32} {it ec it' ec' : Nat → Int64} (h : RRe ln so le it es ez ec) {t N : Nat} {v : Int32} (ht : t < 6) (hN : N ≤ 60) (hv : v = -1 ∨ ∃ k, k < 5 ∧ v = nI k) (hv2 : v = -1 → N = 0) (h1 : ∀ x, it' x = if 60 * t ≤ x ∧ x < 60 * t + N then 0 else it x) (h2 : ∀ x, ec' x = if 60 * t ≤ x ∧ x < 60 * t + 60 then 0 else ec x) : RRe (fun x => if x = t then N else ln x) (upd so t v) (upd le t (nI N)) it' (upd es t v) (upd ez t (nI N)) ec' := fun x hx => by
  obtain ⟨u1, u2, u3, u4, u5, u6, u7⟩ := h x hx
  by_cases q : x = t
  · subst q
    simp only [upd_s, if_true]
    refine ⟨trivial, hv, trivial, trivial, hN, hv2, fun i hi => ?_⟩
    rw [h1, h2, if_pos (by omega), if_pos (by omega)]
  · simp only [upd_n q, if_neg q]
    refine ⟨u1, u2, u3, u4, u5, u6, fun i hi => ?_⟩
    rw [h1, h2, if_neg (by omega), if_neg (by omega)]
    exact u7 i hi
theorem o_tape {ln : Nat → Nat} {so le es ez : Nat → Int32} {it ec : Nat → Int64} (h : RRe ln so le it es ez ec) (a1 a2 a3 : Int32) : ∃ r7 r8 ln2, m_X7_tape so le it a1 a2 a3 = some r7 ∧ m_X8_tape es ez ec a1 a2 a3 = some r8 ∧ r7.2.2.2 = r8.2.2.2 ∧ RRe ln2 r7.1 r7.2.1 r7.2.2.1 r8.1 r8.2.1 r8.2.2.1 := by
  unfold m_X7_tape m_X8_tape
  rcases tape_is a1 with ⟨h1, h2⟩ | ⟨t, ht, rfl, h1, h2⟩
  · rw [h1, h2]; exact ⟨_, _, ln, rfl, rfl, rfl, h⟩
  rw [h1, h2, cl_s, cl_s, if_10, if_10]
  have es' : ∀ {β : Type} (f : Nat → Int32) (x : Int32) (k : (Nat → Int32) → Option β), au f 6 (nI t) x k = k (upd f t x) := fun f x k => au_n ht (by omega)
  simp only [jn_e, es']
  rcases rng a2 (L := -1) (K := 4) (by omega) (-1) 4 rfl rfl (Or.inr rfl) with ⟨h3, h4⟩ | ⟨h3, h4, h5, h6⟩
  · rw [h3, cl_s, if_00]
    have c1 : ¬ a2 = -1 := fun q => by
      subst q
      rcases h4 with h4 | h4
      · exact absurd h4 (by decide)
      · exact absurd h4 (by decide)
    rw [if_neg c1]
    by_cases c2 : a2 < 0
    · rw [if_pos c2]; exact ⟨_, _, ln, rfl, rfl, rfl, h⟩
    have c3 : (4 : Int32) < a2 := by
      rcases h4 with h4 | h4
      · exfalso
        rw [Int32.lt_iff_toInt_lt] at h4 c2
        have t1 : (-1 : Int32).toInt = -1 := rfl
        have t0 : (0 : Int32).toInt = 0 := rfl
        omega
      · exact h4
    rw [if_neg c2, if_pos c3]; exact ⟨_, _, ln, rfl, rfl, rfl, h⟩
  rw [h3, cl_s, if_10]
  by_cases c1 : a2 = -1
  · subst c1
    simp only [eq_self, if_true]
    unfold m_X0_clear
    rw [es', es', cl_s]
    obtain ⟨ec', z1, z2⟩ := make8 ht ec (fun x4_70 y_f_cells_70 => some (upd es t (-1), upd ez t 0, y_f_cells_70, (1 : Int32)))
    rw [z2]
    exact ⟨_, _, _, rfl, rfl, rfl, RRe_tape h (N := 0) ht (by omega) (Or.inl rfl) (fun _ => rfl) (fun x => by rw [if_neg (by omega)]) z1⟩
  have hk : ∃ k, k ≤ 4 ∧ a2 = nI k := by
    rcases h6 with h6 | ⟨-, h6⟩
    · exact h6
    · exact absurd h6 c1
  obtain ⟨k, hk, rfl⟩ := hk
  have c2 : ¬ nI k < 0 := by rw [lt_l (k := 0) (by omega) (by omega)]; omega
  have c3 : ¬ (4 : Int32) < nI k := by
    show ¬ nI 4 < nI k
    rw [n_lt (by omega) (by omega)]; omega
  simp only [if_neg c1, if_neg c2, if_neg c3]
  by_cases c4 : a3 ≤ (60 : Int32)
  · rw [if_pos c4, if_pos c4]
    by_cases c5 : 0 ≤ a3
    · rw [if_pos c5, if_pos c5]
      have hN : ∃ N, N ≤ 60 ∧ a3 = nI N := by
        rcases in_cases a3 60 (by omega) with ⟨-, q⟩ | ⟨j, hj, q, -⟩
        · exfalso
          rcases q with q | q
          · exact not_lt0 c5 q
          · exact not_le_of q c4
        · exact ⟨j, hj, q⟩
      obtain ⟨N, hN, rfl⟩ := hN
      unfold m_X0_make
      rw [es', es']
      obtain ⟨it', y1, y2⟩ := make7 ht hN it (fun x4_17 y_f_items_17 => some (upd so t (nI k), upd le t (nI N), y_f_items_17))
      obtain ⟨ec', z1, z2⟩ := make8 ht ec (fun x4_70 y_f_cells_70 => some (upd es t (nI k), upd ez t (nI N), y_f_cells_70, (1 : Int32)))
      rw [y2, z2, cl_s]
      exact ⟨_, _, _, rfl, rfl, rfl, RRe_tape h ht hN (Or.inr ⟨k, by omega, rfl⟩) (fun q => absurd q c1) y1 z1⟩
    · rw [if_neg c5, if_neg c5]; exact ⟨_, _, ln, rfl, rfl, rfl, h⟩
  · rw [if_neg c4, if_neg c4]; exact ⟨_, _, ln, rfl, rfl, rfl, h⟩
