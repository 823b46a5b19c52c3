/-! ===== the proof: the rest ===== -/
def mrow (n : Nat) (rc ph : Nat → Int32) (p : Nat) : Nat := ff (fun q => decide (p < q) && mxd n rc ph p q) 6
def mhas (n : Nat) (rc ph : Nat → Int32) (p : Nat) : Bool := decide (mrow n rc ph p < 6)
theorem mix7 {n : Nat} (hn : n ≤ 12) (rc tr f : Nat → Int32) (z : Int32) : ∃ g, ((ff (mhas n rc (fun v => tr (48 + v))) 6 < 6 → VD g 3 (nI (10 * ff (mhas n rc (fun v => tr (48 + v))) 6 + mrow n rc (fun v => tr (48 + v)) (ff (mhas n rc (fun v => tr (48 + v))) 6))) (mxv n rc (fun v => tr (48 + v)) (ff (mhas n rc (fun v => tr (48 + v))) 6) (mrow n rc (fun v => tr (48 + v)) (ff (mhas n rc (fun v => tr (48 + v))) 6)))) ∧ (¬ ff (mhas n rc (fun v => tr (48 + v))) 6 < 6 → g = f)) ∧ m_X3_findsMixedPhases f z (nI n) tr (nI n) rc = some (if ff (mhas n rc (fun v => tr (48 + v))) 6 < 6 then (g, 3, 1) else (g, z, 0)) := by
  unfold m_X3_findsMixedPhases
  rcases lpe (fun fu i (_ : Unit) => m_X3_findsMixedPhases_L2 z (nI n) (nI n) f tr rc fu i (fun x3_2 => some (f, z, (0 : Int32)))) (fun _ => some (f, z, 0)) 6 (fun j _ => ∀ i, i < j → mhas n rc (fun v => tr (48 + v)) i = false) (fun r => ∃ p g, p < 6 ∧ ff (mhas n rc (fun v => tr (48 + v))) 6 = p ∧ VD g 3 (nI (10 * p + mrow n rc (fun v => tr (48 + v)) p)) (mxv n rc (fun v => tr (48 + v)) p (mrow n rc (fun v => tr (48 + v)) p)) ∧ r = (g, 3, 1))
    (fun fu j _ hj h => by
      rcases mix7_13 hn rc tr f z hj (fun x4_13 => m_X3_findsMixedPhases_L2 z (nI n) (nI n) f tr rc fu (nI j + (1 : Int32)) (fun x3_2 => some (f, z, (0 : Int32)))) with ⟨h1, h2⟩ | ⟨q, g, hq, h1, h2, h3⟩
      · refine Or.inl ⟨(), ?_, succ_ih h (by simp [mhas, mrow, h1])⟩
        simp (disch := omega) only [m_X3_findsMixedPhases_L2, l_le (k := 6), Nat.not_le.mpr hj, if_false, nI_1]
        rw [nI_1] at h2
        exact h2
      · have hm : mrow n rc (fun v => tr (48 + v)) j = q := h1
        have hh : mhas n rc (fun v => tr (48 + v)) j = true := by simp [mhas, hm, hq]
        refine Or.inr ⟨(g, 3, 1), ?_, j, g, hj, ff_at hj h hh, by rw [hm]; exact h2, rfl⟩
        simp (disch := omega) only [m_X3_findsMixedPhases_L2, l_le (k := 6), Nat.not_le.mpr hj, if_false, nI_1]
        rw [nI_1] at h3
        exact h3)
    (fun fu _ _ => by simp (disch := omega) only [m_X3_findsMixedPhases_L2, l_le (k := 6), Nat.le_refl, if_true]) 0 () (by omega) (by omega) (fun i hi => by omega) with ⟨_, h1, h2⟩ | ⟨r, h1, p, g, h2, h3, h4, h5⟩
  · refine ⟨f, ⟨fun q => ?_, fun _ => rfl⟩, ?_⟩
    · rw [ff_none h1] at q; omega
    · rw [ff_none h1, if_neg (by omega)]; exact h2
  · refine ⟨g, ⟨fun _ => ?_, fun q => absurd (by rw [h3]; exact h2) q⟩, ?_⟩
    · rw [h3]; exact h4
    · rw [h3, if_pos h2, ← h5]; exact h1
/-- the two bounds of a unit, spread -/
def eU (n : Nat) (rc : Nat → Int32) (g1 : Nat → Nat) (u : Nat) : Nat := mx g1 (bt (rc u)) (g1 u) n
def lU (n : Nat) (rc : Nat → Int32) (g2 : Nat → Nat) (u : Nat) : Nat := mn g2 (fun j => bt (rc j) u) (g2 u) n
def cx (n : Nat) (rc : Nat → Int32) (g1 g2 : Nat → Nat) (u : Nat) : Bool := decide (lU n rc g2 u < eU n rc g1 u)
theorem eU_le {n : Nat} {rc : Nat → Int32} {g1 : Nat → Nat} (h : ∀ j, j < n → g1 j ≤ 2000) {u : Nat} (hu : u < n) : eU n rc g1 u ≤ 2000 := mx_le (h u hu) h
theorem lU_le {n : Nat} {rc : Nat → Int32} {g2 : Nat → Nat} (h : ∀ j, j < n → g2 j ≤ 2000) {u : Nat} (hu : u < n) : lU n rc g2 u ≤ 2000 := mn_le (h u hu) h
theorem cross7 {n : Nat} (hn : n ≤ 12) (rc tr : Nat → Int32) {g1 g2 : Nat → Nat} (h1 : ∀ j, j < n → tr (24 + j) = nI (g1 j) ∧ g1 j ≤ 2000) (h2 : ∀ j, j < n → tr (36 + j) = nI (g2 j) ∧ g2 j ≤ 2000) : m_X5_crossing (nI n) rc tr = some (bs (cx n rc g1 g2) n) := by
  unfold m_X5_crossing
  exact bsl (fun f i a => m_X5_crossing_L4 (nI n) rc tr f a i (fun x2_4 x3_4 => some x2_4)) (fun a => some a) n (cx n rc g1 g2) (by omega)
    (fun f j a hj => by
      have he := early7 hn rc tr h1 hj
      have hl := late7 hn rc tr h2 hj
      have b1 : eU n rc g1 j ≤ 2000 := eU_le (fun j hj => (h1 j hj).2) hj
      have b2 : lU n rc g2 j ≤ 2000 := lU_le (fun j hj => (h2 j hj).2) hj
      have he : m_X5_earliest (nI n) rc tr (nI j) = some (nI (eU n rc g1 j)) := he
      have hl : m_X5_latest (nI n) rc tr (nI j) = some (nI (lU n rc g2 j)) := hl
      by_cases hc : eU n rc g1 j ≤ lU n rc g2 j
      · have hx : cx n rc g1 g2 j = false := by simp only [cx, decide_eq_false_iff_not]; omega
        simp (disch := omega) only [m_X5_crossing_L4, n_le, Nat.not_le.mpr hj, if_false, he, hl, cl_s, if_pos hc, nI_1, hx, Bool.false_eq_true]
      · have hx : cx n rc g1 g2 j = true := by simp only [cx, decide_eq_true_eq]; omega
        simp (disch := omega) only [m_X5_crossing_L4, n_le, Nat.not_le.mpr hj, if_false, he, hl, cl_s, if_neg hc, nI_1, hx, if_true, lt_e])
    (fun f a => by simp (disch := omega) only [m_X5_crossing_L4, n_le, Nat.le_refl, if_true])
theorem ff_bs {p : Nat → Bool} {n : Nat} (hn : n ≤ 12) : ff (bt (bs p n)) 12 = if ff p n < n then ff p n else 12 := by
  by_cases h : ff p n < n
  · rw [if_pos h]
    refine ff_at (by omega) (fun i hi => ?_) ?_
    · rw [bt_bs _ (by omega) n (by omega), ff_no p n i hi, Bool.and_false]
    · rw [bt_bs _ (by omega) n (by omega), ff_yes p n h]; simp [h]
  · rw [if_neg h]
    refine ff_none (fun i hi => ?_)
    rw [bt_bs _ (by omega) n (by omega)]
    by_cases h2 : i < n
    · have := ff_le p n
      rw [ff_no p n i (by omega), Bool.and_false]
    · simp [h2]
theorem bs_ne {p : Nat → Bool} {n : Nat} (hn : n ≤ 32) : bs p n = 0 ↔ ¬ ff p n < n := by
  rw [bs_zero hn]
  constructor
  · intro h
    rw [ff_none h]; omega
  · intro h u hu
    have := ff_le p n
    exact ff_no p n u (by omega)
theorem cros7 {n : Nat} (hn : n ≤ 12) (rc tr f : Nat → Int32) (z : Int32) {g1 g2 : Nat → Nat} (h1 : ∀ j, j < n → tr (24 + j) = nI (g1 j) ∧ g1 j ≤ 2000) (h2 : ∀ j, j < n → tr (36 + j) = nI (g2 j) ∧ g2 j ≤ 2000) : ∃ g, ((ff (cx n rc g1 g2) n < n → VD g 4 (nI (ff (cx n rc g1 g2) n)) (nI (eU n rc g1 (ff (cx n rc g1 g2) n)) - nI (lU n rc g2 (ff (cx n rc g1 g2) n)))) ∧ (¬ ff (cx n rc g1 g2) n < n → g = f)) ∧ m_X3_findsCrossing f z tr (nI n) rc = some (if ff (cx n rc g1 g2) n < n then (g, 3, 1) else (g, z, 0)) := by
  unfold m_X3_findsCrossing
  rw [cross7 hn rc tr h1 h2, cl_s]
  by_cases h : ff (cx n rc g1 g2) n < n
  · have hls := least7 (bs (cx n rc g1 g2) n)
    rw [ff_bs hn, if_pos h, if_pos (by omega)] at hls
    have he : m_X5_earliest (nI n) rc tr (nI (ff (cx n rc g1 g2) n)) = some (nI (eU n rc g1 (ff (cx n rc g1 g2) n))) := early7 hn rc tr h1 h
    have hl : m_X5_latest (nI n) rc tr (nI (ff (cx n rc g1 g2) n)) = some (nI (lU n rc g2 (ff (cx n rc g1 g2) n))) := late7 hn rc tr h2 h
    obtain ⟨g, hg, hw⟩ := write7 f z 4 (nI (ff (cx n rc g1 g2) n)) (nI (eU n rc g1 (ff (cx n rc g1 g2) n)) - nI (lU n rc g2 (ff (cx n rc g1 g2) n)))
    refine ⟨g, ⟨fun _ => hg, fun q => absurd h q⟩, ?_⟩
    rw [if_neg (fun q => (bs_ne (by omega)).mp q h), hls, cl_s, he, cl_s, hl, cl_s, hw, cl_s, if_pos h]
  · refine ⟨f, ⟨fun q => absurd q h, fun _ => rfl⟩, ?_⟩
    rw [if_pos ((bs_ne (by omega)).mpr h), if_neg h]
/-- the verdict where nothing goes round -/
def VS (n : Nat) (un rc kd ph : Nat → Int32) (g1 g2 : Nat → Nat) : Int32 × Int32 × Int32 :=
  if ff (bare n un rc kd) n < n then (2, nI (ff (bare n un rc kd) n), -5)
  else if ff (mhas n rc ph) 6 < 6 then (3, nI (10 * ff (mhas n rc ph) 6 + mrow n rc ph (ff (mhas n rc ph) 6)), mxv n rc ph (ff (mhas n rc ph) 6) (mrow n rc ph (ff (mhas n rc ph) 6)))
  else if ff (cx n rc g1 g2) n < n then (4, nI (ff (cx n rc g1 g2) n), nI (eU n rc g1 (ff (cx n rc g1 g2) n)) - nI (lU n rc g2 (ff (cx n rc g1 g2) n)))
  else (0, 0, 0)
def VALR (num : Nat → Int32) (size : Int32) (v : Int32 × Int32 × Int32) : Prop := (v.1 = 0 ∧ size = 1 ∧ num 0 = 0) ∨ (¬ v.1 = 0 ∧ size = 2 ∧ num 0 = v.1 ∧ num 1 = v.2.1 ∧ v.2.2 = -5) ∨ (¬ v.1 = 0 ∧ size = 3 ∧ num 0 = v.1 ∧ num 1 = v.2.1 ∧ num 2 = v.2.2)
theorem ne_20 : ¬ (2 : Int32) = 0 := by decide
theorem ne_30 : ¬ (3 : Int32) = 0 := by decide
theorem ne_40 : ¬ (4 : Int32) = 0 := by decide
theorem exam7 {n : Nat} (hn : n ≤ 12) (un rc tr f sh sb : Nat → Int32) (z : Int32) {g1 g2 : Nat → Nat} (h1 : ∀ j, j < n → tr (24 + j) = nI (g1 j) ∧ g1 j ≤ 2000) (h2 : ∀ j, j < n → tr (36 + j) = nI (g2 j) ∧ g2 j ≤ 2000) (hc : cy n rc = false) : ∃ num size, VALR num size (VS n un rc tr (fun v => tr (48 + v)) g1 g2) ∧ m_X3_examine f z (nI n) tr (nI n) un rc sh sb = some (num, size, sh, sb) := by
  obtain ⟨ga, a1, a2⟩ := bare7 hn un rc tr f 0
  unfold m_X3_examine VS
  have hcf : ¬ cy n rc = true := by rw [hc]; exact Bool.false_ne_true
  rw [cyc7 hn, cl_s, if_c]
  rw [if_neg hcf, a2, cl_s]
  by_cases c1 : ff (bare n un rc tr) n < n
  · simp only [if_pos c1]
    have a1 := a1.1 c1
    refine ⟨ga, 2, Or.inr (Or.inl ⟨ne_20, rfl, a1.1, a1.2, rfl⟩), ?_⟩
    rw [if_neg n_ne]
  · simp only [if_neg c1]
    obtain ⟨gb, b1, b2⟩ := mix7 hn rc tr ga 0
    rw [if_pos trivial, b2, cl_s]
    by_cases c2 : ff (mhas n rc (fun v => tr (48 + v))) 6 < 6
    · simp only [if_pos c2]
      have b1 := b1.1 c2
      refine ⟨gb, 3, Or.inr (Or.inr ⟨ne_30, rfl, b1⟩), ?_⟩
      rw [if_neg n_ne]
    · simp only [if_neg c2]
      obtain ⟨gc, d1, d2⟩ := cros7 hn rc tr gb 0 h1 h2
      rw [if_pos trivial, d2, cl_s]
      by_cases c3 : ff (cx n rc g1 g2) n < n
      · simp only [if_pos c3]
        have d1 := d1.1 c3
        refine ⟨gc, 3, Or.inr (Or.inr ⟨ne_40, rfl, d1⟩), ?_⟩
        rw [if_neg n_ne]
      · simp only [if_neg c3]
        refine ⟨upd gc 0 0, 1, Or.inl ⟨rfl, rfl, upd_s⟩, ?_⟩
        rw [if_pos trivial, au_l (j := 0) (by omega) (by omega)]
/-! the reference: the first fault stays -/
def FT (c : Nat → Bool) (v : Nat → Int32 × Int32 × Int32) (s0 : Int32 × Int32 × Int32) (j : Nat) : Int32 × Int32 × Int32 := if s0.1 = 0 ∧ ff c j < j then v (ff c j) else s0
theorem FT_0 {c : Nat → Bool} {v : Nat → Int32 × Int32 × Int32} {s0 : Int32 × Int32 × Int32} {j : Nat} (h : ∀ i, i < j → c i = false) : FT c v s0 j = s0 := by
  unfold FT
  rw [ff_none h, if_neg (fun q => Nat.lt_irrefl _ q.2)]
theorem ff_s (p : Nat → Bool) (n : Nat) : ff p (n + 1) = if ff p n < n then ff p n else if p n = true then n else n + 1 := rfl
theorem FT_no {c : Nat → Bool} {v : Nat → Int32 × Int32 × Int32} {s0 : Int32 × Int32 × Int32} {j : Nat} (h : ¬ c j = true) : FT c v s0 (j + 1) = FT c v s0 j := by
  unfold FT
  rw [ff_s]
  by_cases q : ff c j < j
  · rw [if_pos q]
    simp only [q, show ff c j < j + 1 by omega]
  · rw [if_neg q, if_neg h]
    simp only [q, Nat.lt_irrefl, and_false, if_false]
theorem FT_yes {c : Nat → Bool} {v : Nat → Int32 × Int32 × Int32} {s0 : Int32 × Int32 × Int32} {j : Nat} (hv : ∀ i, ¬ (v i).1 = 0) (h : c j = true) : m_X8_faults (FT c v s0 j).1 (FT c v s0 j).2.1 (FT c v s0 j).2.2 (v j).1 (v j).2.1 (v j).2.2 = some (FT c v s0 (j + 1)) := by
  unfold m_X8_faults FT
  rw [ff_s]
  by_cases h0 : s0.1 = 0
  · by_cases q : ff c j < j
    · rw [if_pos q]
      simp only [q, show ff c j < j + 1 by omega, h0, and_self, if_true]
      rw [if_neg (hv _)]
    · rw [if_neg q, if_pos h]
      simp only [q, h0, and_false, true_and, Nat.lt_succ_self, if_false, if_true]
  · simp only [h0, false_and, if_false]
theorem bare8 {n t : Nat} {upper lower : Nat → Int32} {up lo : Nat → Nat} (hT : TI n t upper lower up lo) (hn : n ≤ 12) (ht : t ≤ 40) {b : Int32} (hb : ∀ k, k < t → nI k ≠ b) {un ab rc : Nat → Int32} (hW : WB n t up lo b un ab rc) (kd : Nat → Int32) {u : Nat} (hu : u < n) : m_X8_isBare (nI n) kd (nI t) upper lower rc (nI u) = some (if bare n un rc kd u = true then 1 else 0) := by
  have hcut : ∀ v, v < n → bt (bs (fun v => isCutK (kd v)) n) v = isCutK (kd v) := fun v hv => by
    rw [bt_bs _ (by omega) n (by omega)]; simp [hv]
  have hl : (cl (m_X8_reducedOf (nI n) (nI t) upper lower rc (nI u)) fun r_2 => m_X8_isBare_L30 (nI n) kd r_2 FU (0 : Int32) fun x3_30 => some (1 : Int32)) = some (if ru n un rc u &&& bs (fun v => isCutK (kd v)) n = 0 then 1 else 0) := by
    rw [redof8 hT hn ht hb hW hu, cl_s]
    rcases lpe (fun fu i (_ : Unit) => m_X8_isBare_L30 (nI n) kd (ru n un rc u) fu i (fun x3_30 => some (1 : Int32))) (fun _ => some 1) n (fun j _ => ∀ i, i < j → (bt (ru n un rc u) i && isCutK (kd i)) = false) (fun r => r = 0 ∧ ¬ ru n un rc u &&& bs (fun v => isCutK (kd v)) n = 0)
      (fun fu j _ hj h => by
        by_cases h1 : bt (ru n un rc u) j = true
        · by_cases h2 : kd j = 1
          · refine Or.inr ⟨0, by simp (disch := omega) only [m_X8_isBare_L30, n_le, Nat.not_le.mpr hj, if_false, hb8, cl_s, if_c, if_10, if_00, if_true, Bool.false_eq_true, if_pos h1, ag_n, if_pos h2], rfl, and_ne.mpr ⟨j, by omega, h1, by rw [hcut j hj]; simp [isCutK, h2]⟩⟩
          · by_cases h3 : kd j = 4
            · refine Or.inr ⟨0, by simp (disch := omega) only [m_X8_isBare_L30, n_le, Nat.not_le.mpr hj, if_false, hb8, cl_s, if_c, if_10, if_00, if_true, Bool.false_eq_true, if_pos h1, ag_n, if_neg h2, if_pos h3], rfl, and_ne.mpr ⟨j, by omega, h1, by rw [hcut j hj]; simp [isCutK, h3]⟩⟩
            · refine Or.inl ⟨(), by simp (disch := omega) only [m_X8_isBare_L30, n_le, Nat.not_le.mpr hj, if_false, hb8, cl_s, if_c, if_10, if_00, if_true, Bool.false_eq_true, if_pos h1, ag_n, if_neg h2, if_neg h3, nI_1], succ_ih (p := fun i => (bt (ru n un rc u) i && isCutK (kd i))) h (by simp [isCutK, h2, h3])⟩
        · refine Or.inl ⟨(), by simp (disch := omega) only [m_X8_isBare_L30, n_le, Nat.not_le.mpr hj, if_false, hb8, cl_s, if_c, if_10, if_00, if_true, Bool.false_eq_true, if_neg h1, nI_1], succ_ih (p := fun i => (bt (ru n un rc u) i && isCutK (kd i))) h (by simp [h1])⟩)
      (fun fu _ _ => by simp (disch := omega) only [m_X8_isBare_L30, n_le, Nat.le_refl, if_true]) 0 () (by omega) (by omega) (fun i hi => by omega) with ⟨_, h1, h2⟩ | ⟨r, h1, h2, h3⟩
    · rw [if_pos]
      · exact h2
      · refine Classical.byContradiction (fun q => ?_)
        obtain ⟨v, hv, q1, q2⟩ := and_ne.mp q
        rw [bt_bs _ hv n (by omega), Bool.and_eq_true, decide_eq_true_eq] at q2
        have := h1 v q2.1
        rw [q1, q2.2] at this
        cases this
    · rw [if_neg h3]
      subst h2
      exact h1
  unfold m_X8_isBare
  rw [ag_n (by omega) (by omega), jn_e]
  by_cases h1 : kd u = 2
  · rw [if_pos h1]
    refine hl.trans ?_
    simp [bare, isFillK, h1]
  · rw [if_neg h1, ag_n (by omega) (by omega)]
    by_cases h2 : kd u = 5
    · rw [if_pos h2]
      refine hl.trans ?_
      simp [bare, isFillK, h2]
    · rw [if_neg h2]
      simp [bare, isFillK, h1, h2]
