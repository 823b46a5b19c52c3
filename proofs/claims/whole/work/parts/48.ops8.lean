/-! ===== trays, the text, the paper, sightings ===== -/
theorem tray_is (a : Int32) : (m_X7_isTray a = some 0 ∧ m_X8_in a 0 2 = some 0) ∨ ∃ j, j < 3 ∧ a = nI j ∧ m_X7_isTray a = some 1 ∧ m_X8_in a 0 2 = some 1 := by
  unfold m_X7_isTray
  rcases lt_cases (N := 3) (by omega) a with ⟨b1, b2⟩ | ⟨j, hj, rfl, b1, b2, b3⟩
  · rw [show nI 3 - 1 = (2 : Int32) by decide] at b1
    left
    refine ⟨?_, b1⟩
    by_cases c : a < 0
    · rw [if_pos c]
    · have c3 : (3 : Int32) ≤ a := by
        have := b2.resolve_left c
        rw [Int32.lt_iff_toInt_lt] at this
        rw [Int32.le_iff_toInt_le]
        have t3 : (3 : Int32).toInt = 3 := rfl
        have t4 : (nI 3).toInt = 3 := rfl
        omega
      rw [if_neg c, if_pos c3]
  · rw [show nI 3 - 1 = (2 : Int32) by decide] at b3
    right
    have c3 : ¬ (3 : Int32) ≤ nI j := by rw [l_le (k := 3) (by omega) (by omega)]; omega
    rw [if_neg b1, if_neg c3]
    exact ⟨j, hj, rfl, rfl, b3⟩
theorem place_is (a : Int32) : (m_X7_isPlace a = some 0 ∧ m_X8_in a 0 3 = some 0) ∨ ∃ j, j < 4 ∧ a = nI j ∧ m_X7_isPlace a = some 1 ∧ m_X8_in a 0 3 = some 1 := by
  unfold m_X7_isPlace
  rcases lt_cases (N := 4) (by omega) a with ⟨b1, b2⟩ | ⟨j, hj, rfl, b1, b2, b3⟩
  · rw [show nI 4 - 1 = (3 : Int32) by decide] at b1
    left
    refine ⟨?_, b1⟩
    by_cases c : a < 0
    · rw [if_pos c]
    · have c3 : (4 : Int32) ≤ a := by
        have := b2.resolve_left c
        rw [Int32.lt_iff_toInt_lt] at this
        rw [Int32.le_iff_toInt_le]
        have t3 : (4 : Int32).toInt = 4 := rfl
        have t4 : (nI 4).toInt = 4 := rfl
        omega
      rw [if_neg c, if_pos c3]
  · rw [show nI 4 - 1 = (3 : Int32) by decide] at b3
    right
    have c3 : ¬ (4 : Int32) ≤ nI j := by rw [l_le (k := 4) (by omega) (by omega)]; omega
    rw [if_neg b1, if_neg c3]
    exact ⟨j, hj, rfl, rfl, b3⟩
theorem slot7 (i j : Nat) : nI i * (4 : Int32) + nI j = nI (4 * i + j) := by
  show nI i * nI 4 + nI j = _
  rw [pk_mul, nI_add, Nat.mul_comm]
theorem slot8 (i j : Nat) : (4 : Int32) * nI i + nI j = nI (4 * i + j) := by
  show nI 4 * nI i + nI j = _
  rw [pk_mul, nI_add]
theorem takes_same {kd : Nat → Int32} {x : Int32} {u : Nat} (hu : u < 12) (h : kd u = x) {i : Nat} (hi : i < 3) : ∃ r, (r = 0 ∨ r = 1) ∧ m_X7_takes (nI i) x = some r ∧ m_X8_isTaken kd (nI i) (nI u) = some r := by
  unfold m_X7_takes m_X8_isTaken m_X7_isCut
  rw [ag_n hu (by omega), h]
  rcases (show i = 0 ∨ i = 1 ∨ i = 2 by omega) with rfl | rfl | rfl
  · rw [if_neg (show ¬ nI 0 = (1 : Int32) by decide), if_pos (show nI 0 = 0 from rfl), if_pos (show nI 0 = 0 from rfl)]
    exact ⟨1, Or.inr rfl, rfl, rfl⟩
  · rw [if_pos (show nI 1 = (1 : Int32) from rfl), if_neg (show ¬ nI 1 = 0 by decide), if_pos (show nI 1 = (1 : Int32) from rfl)]
    by_cases c1 : x = 1
    · rw [if_pos c1, cl_s, zg_1]; exact ⟨1, Or.inr rfl, rfl, rfl⟩
    rw [if_neg c1]
    by_cases c4 : x = 4
    · rw [if_pos c4, cl_s, zg_1]; exact ⟨1, Or.inr rfl, rfl, rfl⟩
    rw [if_neg c4, cl_s, zg_0]; exact ⟨0, Or.inl rfl, rfl, rfl⟩
  · rw [if_neg (show ¬ nI 2 = (1 : Int32) by decide), if_neg (show ¬ nI 2 = 0 by decide), if_neg (show ¬ nI 2 = 0 by decide), if_neg (show ¬ nI 2 = (1 : Int32) by decide)]
    by_cases c3 : x = 3
    · rw [if_pos c3]; exact ⟨1, Or.inr rfl, rfl, rfl⟩
    · rw [if_neg c3]; exact ⟨0, Or.inl rfl, rfl, rfl⟩
def mo (v : Int32) : Int32 := if v = -1 then -5 else v
theorem m1_eq (v : Int32) {a b : Nat → Int32} : (if v = -1 then some ((a, b, (-5 : Int32)) : (Nat → Int32) × (Nat → Int32) × Int32) else some (a, b, v)) = some (a, b, mo v) := by
  unfold mo
  by_cases c : v = -1
  · rw [if_pos c, if_pos c]
  · rw [if_neg c, if_neg c]
theorem o_tray {n : Nat} (hn : n ≤ 12) {tr kd th fm tm ph hu hk tu tk : Nat → Int32} (hr : RTr n tr kd th fm tm ph) (hy : RTy hu hk tu tk) (a1 a2 a3 : Int32) : ∃ r7 r8, m_X7_tray (nI n) tr hu hk a1 a2 a3 = some r7 ∧ m_X8_tray (nI n) kd tu tk a1 a2 a3 = some r8 ∧ r7.2.2 = r8.2.2 ∧ RTy r7.1 r7.2.1 r8.1 r8.2.1 := by
  unfold m_X7_tray m_X8_tray
  rcases tray_is a1 with ⟨h1, h2⟩ | ⟨i, hi, rfl, h1, h2⟩
  · rw [h1, h2]; exact ⟨_, _, rfl, rfl, rfl, hy⟩
  rw [h1, h2, cl_s, cl_s, if_10, if_10]
  simp only [jn_e, slot7, slot8]
  rcases place_is a2 with ⟨p1, p2⟩ | ⟨j, hj, rfl, p1, p2⟩
  · simp only [p1, p2, cl_s, if_true, if_00]
    by_cases c : a3 = -1
    · rw [if_pos c, if_pos c]; exact ⟨_, _, rfl, rfl, rfl, hy⟩
    rw [if_neg c, if_neg c]
    rcases unit_cases hn a3 with ⟨u1, u2⟩ | ⟨u, hu2, rfl, u1, u2⟩
    · rw [u1, u2]; exact ⟨_, _, rfl, rfl, rfl, hy⟩
    · rw [u1, u2]; exact ⟨_, _, rfl, rfl, rfl, hy⟩
  simp only [p1, p2, cl_s, if_10, slot7, slot8, lt_e]
  have hs : 4 * i + j < 12 := by omega
  obtain ⟨y1, y2⟩ := hy (4 * i + j) hs
  have ea : ∀ {β : Type} (f : Nat → Int32) (k : Int32 → Option β), ag f 12 (nI (4 * i + j)) k = k (f (4 * i + j)) := fun f k => ag_n hs (by omega)
  have eu : ∀ {β : Type} (f : Nat → Int32) (x : Int32) (k : (Nat → Int32) → Option β), au f 12 (nI (4 * i + j)) x k = k (upd f (4 * i + j) x) := fun f x k => au_n hs (by omega)
  by_cases c : a3 = -1
  · subst c
    simp only [eq_self, if_true, ea, eu, m1_eq]
    refine ⟨_, _, rfl, rfl, by simp only; rw [y1], fun k hk2 => ?_⟩
    simp only
    by_cases q : k = 4 * i + j
    · subst q; simp only [upd_s]; exact ⟨trivial, fun q => absurd trivial q⟩
    · simp only [upd_n q]; exact hy k hk2
  · simp only [if_neg c]
    rcases unit_cases hn a3 with ⟨u1, u2⟩ | ⟨u, hu2, rfl, u1, u2⟩
    · rw [u1, u2]; exact ⟨_, _, rfl, rfl, rfl, hy⟩
    have hu12 : u < 12 := by omega
    obtain ⟨⟨t1, -⟩, -⟩ := hr u hu2
    obtain ⟨r, r0, r1, r2⟩ := takes_same hu12 t1 hi
    rw [u1, u2, cl_s, cl_s, if_10, if_10, tr7_0 tr hu12, cl_s, r1, r2, cl_s, cl_s]
    rcases r0 with rfl | rfl
    · rw [if_00, if_00]; exact ⟨_, _, rfl, rfl, rfl, hy⟩
    rw [if_10, if_10]
    have ek : ∀ {β : Type} (k : Int32 → Option β), ag kd 12 (nI u) k = k (tr u) := fun k => by rw [ag_n hu12 (by omega), t1]
    simp only [ea, eu, m1_eq, ek, cl_s]
    refine ⟨_, _, rfl, rfl, by simp only; rw [y1], fun k hk2 => ?_⟩
    simp only
    by_cases q : k = 4 * i + j
    · subst q; simp only [upd_s]; exact ⟨trivial, fun _ => trivial⟩
    · simp only [upd_n q]; exact hy k hk2
