/-! ===== the reference's levels: by relaxing ===== -/
theorem mx_ge {g : Nat → Nat} {p : Nat → Bool} {y : Nat} : ∀ {n j : Nat}, j < n → p j = true → g j ≤ mx g p y n
  | 0, j, h, _ => absurd h (Nat.not_lt_zero j)
  | n + 1, j, h, hp => by
    unfold mx
    by_cases hj : j = n
    · subst hj
      split
      · exact Nat.le_refl _
      · rename_i q
        have : ¬ mx g p y j < g j := fun q2 => q ⟨hp, q2⟩
        omega
    · have ih := mx_ge (g := g) (p := p) (y := y) (n := n) (j := j) (by omega) hp
      split
      · rename_i q; omega
      · exact ih
/-- some numbers below the levels, all levels up to r right -/
def RX (n r : Nat) (lv g : Nat → Nat) : Prop := (∀ u, u < n → g u ≤ lv u) ∧ ∀ u, u < n → lv u ≤ r → g u = lv u
theorem lev_4 {n : Nat} (hn : n ≤ 12) (row : Nat → Int32) (k : Int32 → (Nat → Int32) → Option ((Nat → Int32) × Int32)) : ∃ row', (∀ u, u < n → row' u = nI 0) ∧ m_X8_levelsOf_L4 (nI n) FU 0 row k = k (nI n) row' := by
  obtain ⟨s, h1, h2⟩ := lpx (fun f i (s : Nat → Int32) => m_X8_levelsOf_L4 (nI n) f i s k) (fun s => k (nI n) s) n (fun j s => ∀ u, u < j → s u = nI 0)
    (fun f j s hj h => ⟨upd s j 0, by simp (disch := omega) only [m_X8_levelsOf_L4, n_le, au_n, nI_1, Nat.not_le.mpr hj, if_false], fun u hu => by
      by_cases hq : u = j
      · subst hq; exact upd_s
      · rw [upd_n hq]; exact h u (by omega)⟩)
    (fun f s _ => by simp (disch := omega) only [m_X8_levelsOf_L4, n_le, Nat.le_refl, if_true]) 0 row (by omega) (by omega) (fun u hu => by omega)
  exact ⟨s, h1, h2⟩
theorem lev_37 {n t : Nat} {upper lower : Nat → Int32} {up lo : Nat → Nat} (hT : TI n t upper lower up lo) (hn : n ≤ 12) (ht : t ≤ 40) {b : Int32} (hb : ∀ k, k < t → nI k ≠ b) {lv : Nat → Nat} {m : Nat} (hl : LV n (Ed t up lo b) lv m) {r : Nat} (row : Nat → Int32) (h0 : ∃ g, RX n r lv g ∧ ∀ u, u < n → row u = nI (g u)) (k : Int32 → (Nat → Int32) → Option ((Nat → Int32) × Int32)) : ∃ row', (∃ g, RX n (r + 1) lv g ∧ ∀ u, u < n → row' u = nI (g u)) ∧ m_X8_levelsOf_L37 (nI t) upper lower FU 0 row k = k (nI t) row' := by
  have hlm : ∀ u, u < n → lv u < 12 := fun u hu => by have := hl.1 u hu; have := hl.2.2.2.2; omega
  obtain ⟨s, h1, h2⟩ := lpx (fun f i (s : Nat → Int32) => m_X8_levelsOf_L37 (nI t) upper lower f i s k) (fun s => k (nI t) s) t (fun j s => ∃ g, RX n r lv g ∧ (∀ k, k < j → lv (lo k) ≤ r → lv (lo k) + 1 ≤ g (up k)) ∧ ∀ u, u < n → s u = nI (g u))
    (fun f j s hj h => by
      obtain ⟨g, hr, hk, hs⟩ := h
      obtain ⟨e1, e2, e3, e4⟩ := hT j hj
      have hE : Ed t up lo b (up j) (lo j) := ⟨j, hj, hb j hj, rfl, rfl⟩
      have hlt := hl.2.1 _ _ e3 hE
      have g1 := hr.1 _ e3
      have g2 := hr.1 _ e4
      have b1 := hlm _ e3
      have hnew : ∀ x, x = max (g (up j)) (g (lo j) + 1) → RX n r lv (fun u => if u = up j then x else g u) ∧ ∀ k, k < j + 1 → lv (lo k) ≤ r → lv (lo k) + 1 ≤ (if up k = up j then x else g (up k)) := by
        intro x hx
        refine ⟨⟨fun u hu => ?_, fun u hu q => ?_⟩, fun k hk1 hk2 => ?_⟩
        · by_cases hq : u = up j
          · subst hq; simp only [if_true]; omega
          · simp only [if_neg hq]; exact hr.1 u hu
        · by_cases hq : u = up j
          · subst hq; simp only [if_true]
            have := hr.2 _ hu q
            omega
          · simp only [if_neg hq]; exact hr.2 u hu q
        · by_cases hq : k = j
          · subst hq
            simp only [if_true]
            have := hr.2 _ e4 hk2
            omega
          · have := hk k (by omega) hk2
            by_cases hq2 : up k = up j
            · rw [if_pos hq2]; rw [hq2] at this; omega
            · rw [if_neg hq2]; exact this
      by_cases hc : g (lo j) + 1 ≤ g (up j)
      · refine ⟨upd s (up j) (nI (g (up j))), by simp (disch := omega) only [m_X8_levelsOf_L37, n_le, nI_1, Nat.not_le.mpr hj, if_false, ag_n, au_n, e1, e2, hs _ e3, hs _ e4, if_pos hc], (fun u => if u = up j then g (up j) else g u), (hnew (g (up j)) (by omega)).1, (hnew (g (up j)) (by omega)).2, fun u hu => ?_⟩
        by_cases hq : u = up j
        · subst hq; simp only [upd_s, if_true]
        · simp only [upd_n hq, if_neg hq]; exact hs u hu
      · refine ⟨upd s (up j) (nI (g (lo j) + 1)), by simp (disch := omega) only [m_X8_levelsOf_L37, n_le, nI_1, Nat.not_le.mpr hj, if_false, ag_n, au_n, e1, e2, hs _ e3, hs _ e4, if_neg hc], (fun u => if u = up j then g (lo j) + 1 else g u), (hnew (g (lo j) + 1) (by omega)).1, (hnew (g (lo j) + 1) (by omega)).2, fun u hu => ?_⟩
        by_cases hq : u = up j
        · subst hq; simp only [upd_s, if_true]
        · simp only [upd_n hq, if_neg hq]; exact hs u hu)
    (fun f s _ => by simp (disch := omega) only [m_X8_levelsOf_L37, n_le, Nat.le_refl, if_true]) 0 row (by omega) (by omega) (by
      obtain ⟨g, hr, hs⟩ := h0
      exact ⟨g, hr, fun k hk => by omega, hs⟩)
  obtain ⟨g, hr, hk, hs⟩ := h1
  refine ⟨s, ⟨g, ⟨hr.1, fun u hu q => ?_⟩, hs⟩, h2⟩
  have a := hr.1 u hu
  rcases hl.2.2.1 u hu with q2 | ⟨v, ⟨k, hk1, hk2, rfl, rfl⟩, q2⟩
  · omega
  · have := hk k hk1 (by omega)
    omega
theorem lev_27 {n t : Nat} {upper lower : Nat → Int32} {up lo : Nat → Nat} (hT : TI n t upper lower up lo) (hn : n ≤ 12) (ht : t ≤ 40) {b : Int32} (hb : ∀ k, k < t → nI k ≠ b) {lv : Nat → Nat} {m : Nat} (hl : LV n (Ed t up lo b) lv m) (row : Nat → Int32) (h0 : ∃ g, RX n 0 lv g ∧ ∀ u, u < n → row u = nI (g u)) (k : Int32 → (Nat → Int32) → Option ((Nat → Int32) × Int32)) : ∃ row', (∃ g, RX n n lv g ∧ ∀ u, u < n → row' u = nI (g u)) ∧ m_X8_levelsOf_L27 (nI n) (nI t) upper lower FU 0 row k = k (nI n) row' := by
  obtain ⟨s, h1, h2⟩ := lpx (fun f i (s : Nat → Int32) => m_X8_levelsOf_L27 (nI n) (nI t) upper lower f i s k) (fun s => k (nI n) s) n (fun j s => ∃ g, RX n j lv g ∧ ∀ u, u < n → s u = nI (g u))
    (fun f j s hj h => by
      obtain ⟨r', q1, q2⟩ := lev_37 hT hn ht hb hl s h (fun _ y => m_X8_levelsOf_L27 (nI n) (nI t) upper lower f (nI j + 1) y k)
      refine ⟨r', ?_, q1⟩
      simp (disch := omega) only [m_X8_levelsOf_L27, n_le, Nat.not_le.mpr hj, if_false]
      rw [q2, nI_1])
    (fun f s _ => by simp (disch := omega) only [m_X8_levelsOf_L27, n_le, Nat.le_refl, if_true]) 0 row (by omega) (by omega) h0
  exact ⟨s, h1, h2⟩
theorem lev_117 {n : Nat} (hn : n ≤ 12) {lv : Nat → Nat} (hl : ∀ u, u < n → lv u < 12) (row : Nat → Int32) (hr : ∀ u, u < n → row u = nI (lv u)) (k : Int32 → Int32 → Option ((Nat → Int32) × Int32)) : m_X8_levelsOf_L117 (nI n) row FU 0 0 k = k (nI (mx (fun u => lv u + 1) (fun _ => true) 0 n)) (nI n) := by
  obtain ⟨s, h1, h2⟩ := lpx (fun f i (s : Int32) => m_X8_levelsOf_L117 (nI n) row f s i k) (fun s => k s (nI n)) n (fun j s => s = nI (mx (fun u => lv u + 1) (fun _ => true) 0 j))
    (fun f j s hj h => by
      have hm : mx (fun u => lv u + 1) (fun _ => true) 0 j ≤ 12 := mx_le (by omega) (fun i hi => by have := hl i (by omega); omega)
      have hb := hl j hj
      have e : mx (fun u => lv u + 1) (fun _ => true) 0 (j + 1) = if mx (fun u => lv u + 1) (fun _ => true) 0 j < lv j + 1 then lv j + 1 else mx (fun u => lv u + 1) (fun _ => true) 0 j := by
        rw [mx]
        simp only [true_and]
      by_cases hc : lv j + 1 ≤ mx (fun u => lv u + 1) (fun _ => true) 0 j
      · refine ⟨s, by simp (disch := omega) only [m_X8_levelsOf_L117, n_le, nI_1, Nat.not_le.mpr hj, if_false, ag_n, hr j hj, h, if_pos hc], ?_⟩
        rw [e, if_neg (by omega)]; exact h
      · refine ⟨nI (lv j + 1), by simp (disch := omega) only [m_X8_levelsOf_L117, n_le, nI_1, Nat.not_le.mpr hj, if_false, ag_n, hr j hj, h, if_neg hc], ?_⟩
        rw [e, if_pos (by omega)])
    (fun f s _ => by simp (disch := omega) only [m_X8_levelsOf_L117, n_le, Nat.le_refl, if_true]) 0 0 (by omega) (by omega) rfl
  subst h1
  exact h2
theorem rank8 {n t : Nat} {upper lower : Nat → Int32} {up lo : Nat → Nat} (hT : TI n t upper lower up lo) (hn : n ≤ 12) (ht : t ≤ 40) {b : Int32} (hb : ∀ k, k < t → nI k ≠ b) {lv : Nat → Nat} {m : Nat} (hl : LV n (Ed t up lo b) lv m) (row : Nat → Int32) : ∃ row', (∀ u, u < n → row' u = nI (lv u)) ∧ m_X8_levelsOf (nI n) (nI t) upper lower row = some (row', nI m) := by
  have hlm : ∀ u, u < n → lv u < 12 := fun u hu => by have := hl.1 u hu; have := hl.2.2.2.2; omega
  unfold m_X8_levelsOf
  obtain ⟨r1, a1, a2⟩ := lev_4 hn row (fun x2_4 y_f_levels_4 =>
  m_X8_levelsOf_L27 (nI n) (nI t) upper lower FU (0 : Int32) y_f_levels_4 fun x2_27 y_f_levels_27 =>
  m_X8_levelsOf_L117 (nI n) y_f_levels_27 FU (0 : Int32) (0 : Int32) fun x1_117 x2_117 =>
  some (y_f_levels_27, x1_117))
  obtain ⟨r2, ⟨g, b1, b2⟩, b3⟩ := lev_27 hT hn ht hb hl r1 ⟨fun _ => 0, ⟨fun u _ => Nat.zero_le _, fun u _ q => (Nat.le_zero.mp q).symm⟩, a1⟩ (fun x2_27 y_f_levels_27 =>
  m_X8_levelsOf_L117 (nI n) y_f_levels_27 FU (0 : Int32) (0 : Int32) fun x1_117 x2_117 =>
  some (y_f_levels_27, x1_117))
  have hg : ∀ u, u < n → r2 u = nI (lv u) := fun u hu => by
    rw [b2 u hu, b1.2 u hu (by have := hl.1 u hu; have := hl.2.2.2.2; omega)]
  have hm : mx (fun u => lv u + 1) (fun _ => true) 0 n = m := by
    have u1 : mx (fun u => lv u + 1) (fun _ => true) 0 n ≤ m := mx_le (Nat.zero_le m) (fun i hi => hl.1 i hi)
    rcases hl.2.2.2.1 with q | ⟨u, hu, q⟩
    · omega
    · have := mx_ge (g := fun u => lv u + 1) (p := fun _ => true) (y := 0) hu rfl
      omega
  refine ⟨r2, hg, ?_⟩
  rw [a2, b3, lev_117 hn hlm r2 hg, hm]
