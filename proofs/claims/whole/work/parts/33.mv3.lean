/-! ===== the proof: the reference's walk over all faults ===== -/
theorem pr_36 {n t : Nat} {upper lower : Nat → Int32} {up lo : Nat → Nat} (hT : TI n t upper lower up lo) (hn : n ≤ 12) (ht : t ≤ 40) {b : Int32} (hb : ∀ k, k < t → nI k ≠ b) {un ab : Nat → Int32} (r1 : (Nat → Int32) × (Nat → Int32) × (Nat → Int32) × (Nat → Int32)) (hW : WB n t up lo b un ab r1.2.2.1) (kd : Nat → Int32) (s0 : Int32 × Int32 × Int32) (k : Int32 → Int32 → Int32 → Int32 → Option ((Nat → Int32) × (Nat → Int32) × (Nat → Int32) × (Nat → Int32) × (Nat → Int32) × (Nat → Int32) × Int32 × Int32 × Int32)) : m_X8_proves_L36 (nI n) (nI t) kd upper lower r1 FU 0 s0.1 s0.2.1 s0.2.2 k = k (nI n) (FT (bare n un r1.2.2.1 kd) (fun u => (2, nI u, -5)) s0 n).1 (FT (bare n un r1.2.2.1 kd) (fun u => (2, nI u, -5)) s0 n).2.1 (FT (bare n un r1.2.2.1 kd) (fun u => (2, nI u, -5)) s0 n).2.2 := by
  obtain ⟨s', h1, h2⟩ := lpx (fun f i (s : Int32 × Int32 × Int32) => m_X8_proves_L36 (nI n) (nI t) kd upper lower r1 f i s.1 s.2.1 s.2.2 k) (fun s => k (nI n) s.1 s.2.1 s.2.2) n (fun j s => s = FT (bare n un r1.2.2.1 kd) (fun u => (2, nI u, -5)) s0 j)
    (fun f j s hj h => by
      have hbr := bare8 hT hn ht hb hW kd hj
      by_cases hc : bare n un r1.2.2.1 kd j = true
      · have hf := FT_yes (c := bare n un r1.2.2.1 kd) (v := fun u => (2, nI u, -5)) (s0 := s0) (j := j) (fun _ => ne_20) hc
        refine ⟨FT (bare n un r1.2.2.1 kd) (fun u => (2, nI u, -5)) s0 (j + 1), ?_, rfl⟩
        subst h
        simp (disch := omega) only [m_X8_proves_L36, n_le, Nat.not_le.mpr hj, if_false, hbr, cl_s, if_c, if_10, if_00, if_true, if_pos hc, nI_1]
        simp only at hf
        rw [hf, cl_s]
      · refine ⟨s, ?_, by rw [FT_no hc]; exact h⟩
        simp (disch := omega) only [m_X8_proves_L36, n_le, Nat.not_le.mpr hj, if_false, hbr, cl_s, if_c, if_10, if_00, if_true, if_neg hc, nI_1])
    (fun f s _ => by simp (disch := omega) only [m_X8_proves_L36, n_le, Nat.le_refl, if_true]) 0 s0 (by omega) (by omega) (FT_0 (fun i hi => by omega)).symm
  subst h1
  exact h2
theorem pr_78 {n : Nat} (hn : n ≤ 12) (ph : Nat → Int32) (r1 : (Nat → Int32) × (Nat → Int32) × (Nat → Int32) × (Nat → Int32)) {p : Nat} (hp : p < 6) (s0 : Int32 × Int32 × Int32) (k : Int32 → Int32 → Int32 → Int32 → Option ((Nat → Int32) × (Nat → Int32) × (Nat → Int32) × (Nat → Int32) × (Nat → Int32) × (Nat → Int32) × Int32 × Int32 × Int32)) : m_X8_proves_L78 (nI n) ph r1 (nI p) FU (nI (p + 1)) s0.1 s0.2.1 s0.2.2 k = k (nI 6) (FT (fun q => decide (p < q) && mxd n r1.2.2.1 ph p q) (fun q => (3, nI (10 * p + q), mxv n r1.2.2.1 ph p q)) s0 6).1 (FT (fun q => decide (p < q) && mxd n r1.2.2.1 ph p q) (fun q => (3, nI (10 * p + q), mxv n r1.2.2.1 ph p q)) s0 6).2.1 (FT (fun q => decide (p < q) && mxd n r1.2.2.1 ph p q) (fun q => (3, nI (10 * p + q), mxv n r1.2.2.1 ph p q)) s0 6).2.2 := by
  obtain ⟨s', h1, h2⟩ := lpx (fun f i (s : Int32 × Int32 × Int32) => m_X8_proves_L78 (nI n) ph r1 (nI p) f i s.1 s.2.1 s.2.2 k) (fun s => k (nI 6) s.1 s.2.1 s.2.2) 6 (fun j s => p < j ∧ s = FT (fun q => decide (p < q) && mxd n r1.2.2.1 ph p q) (fun q => (3, nI (10 * p + q), mxv n r1.2.2.1 ph p q)) s0 j)
    (fun f j s hj h => by
      obtain ⟨hpj, h⟩ := h
      have hfle := fr_le (n := n) (rc := r1.2.2.1) (ph := ph) (p := nI p) (q := nI j)
      have hfle2 := fr_le (n := n) (rc := r1.2.2.1) (ph := ph) (p := nI j) (q := nI p)
      by_cases h1 : fr n r1.2.2.1 ph (nI p) (nI j) < n
      · have hm1 : ¬ nI (fr n r1.2.2.1 ph (nI p) (nI j)) = -1 := by rw [n_m1 (by omega)]; exact id
        by_cases h2 : fr n r1.2.2.1 ph (nI j) (nI p) < n
        · have hm2 : ¬ nI (fr n r1.2.2.1 ph (nI j) (nI p)) = -1 := by rw [n_m1 (by omega)]; exact id
          have hm : mxd n r1.2.2.1 ph p j = true := by simp [mxd, h1, h2]
          have hls := least8 (r1.2.2.1 (fr n r1.2.2.1 ph (nI p) (nI j)) &&& bs (fun u => decide (ph u = nI j)) n)
          rw [if_pos (mxd_least hn hm)] at hls
          have hf := FT_yes (c := fun q => decide (p < q) && mxd n r1.2.2.1 ph p q) (v := fun q => (3, nI (10 * p + q), mxv n r1.2.2.1 ph p q)) (s0 := s0) (j := j) (fun _ => ne_30) (by simp [hpj, hm])
          refine ⟨FT (fun q => decide (p < q) && mxd n r1.2.2.1 ph p q) (fun q => (3, nI (10 * p + q), mxv n r1.2.2.1 ph p q)) s0 (j + 1), ?_, by omega, rfl⟩
          subst h
          simp (disch := omega) only [m_X8_proves_L78, l_le (k := 6), Nat.not_le.mpr hj, if_false, first8 hn, cl_s, if_pos h1, if_neg hm1, if_pos h2, if_neg hm2, ag_n, phase8 hn, hls, litp10, litp100, nI_1]
          simp only [mxv] at hf ⊢
          rw [hf, cl_s]
        · refine ⟨s, ?_, by omega, by rw [FT_no (by simp [mxd, h2])]; exact h⟩
          simp (disch := omega) only [m_X8_proves_L78, l_le (k := 6), Nat.not_le.mpr hj, if_false, first8 hn, cl_s, if_pos h1, if_neg hm1, if_neg h2, if_true, nI_1]
      · refine ⟨s, ?_, by omega, by rw [FT_no (by simp [mxd, h1])]; exact h⟩
        simp (disch := omega) only [m_X8_proves_L78, l_le (k := 6), Nat.not_le.mpr hj, if_false, first8 hn, cl_s, if_neg h1, if_true, nI_1])
    (fun f s _ => by simp (disch := omega) only [m_X8_proves_L78, l_le (k := 6), Nat.le_refl, if_true]) (p + 1) s0 (by omega) (by omega) ⟨by omega, (FT_0 (fun i hi => by simp [show ¬ p < i by omega])).symm⟩
  obtain ⟨-, h1⟩ := h1
  subst h1
  exact h2
def mval (n : Nat) (rc ph : Nat → Int32) (p : Nat) : Int32 × Int32 × Int32 := (3, nI (10 * p + mrow n rc ph p), mxv n rc ph p (mrow n rc ph p))
theorem FT_row {n : Nat} {rc ph : Nat → Int32} {s0 : Int32 × Int32 × Int32} {j : Nat} : FT (fun q => decide (j < q) && mxd n rc ph j q) (fun q => (3, nI (10 * j + q), mxv n rc ph j q)) (FT (mhas n rc ph) (mval n rc ph) s0 j) 6 = FT (mhas n rc ph) (mval n rc ph) s0 (j + 1) := by
  by_cases hc : mhas n rc ph j = true
  · have hr : mrow n rc ph j < 6 := by simpa [mhas] using hc
    have e1 : ∀ s : Int32 × Int32 × Int32, FT (fun q => decide (j < q) && mxd n rc ph j q) (fun q => (3, nI (10 * j + q), mxv n rc ph j q)) s 6 = if s.1 = 0 then mval n rc ph j else s := by
      intro s
      have hr2 : ff (fun q => decide (j < q) && mxd n rc ph j q) 6 < 6 := hr
      unfold FT
      by_cases h0 : s.1 = 0
      · rw [if_pos ⟨h0, hr2⟩, if_pos h0]; rfl
      · rw [if_neg (fun q => h0 q.1), if_neg h0]
    rw [e1]
    unfold FT
    rw [ff_s]
    by_cases h0 : s0.1 = 0
    · by_cases q : ff (mhas n rc ph) j < j
      · rw [if_pos q]
        simp only [h0, q, show ff (mhas n rc ph) j < j + 1 by omega, and_self, if_true]
        rw [if_neg]
        exact ne_30
      · rw [if_neg q, if_pos hc]
        simp only [h0, q, and_false, if_false, if_true, Nat.lt_succ_self, and_self]
    · simp only [h0, false_and, if_false]
  · have hr : ¬ mrow n rc ph j < 6 := by simpa [mhas] using hc
    have hr2 : ¬ ff (fun q => decide (j < q) && mxd n rc ph j q) 6 < 6 := hr
    rw [FT_no hc]
    conv => lhs; unfold FT
    rw [if_neg (fun q => hr2 q.2)]
    rfl
theorem pr_68 {n : Nat} (hn : n ≤ 12) (ph : Nat → Int32) (r1 : (Nat → Int32) × (Nat → Int32) × (Nat → Int32) × (Nat → Int32)) (s0 : Int32 × Int32 × Int32) (k : Int32 → Int32 → Int32 → Int32 → Option ((Nat → Int32) × (Nat → Int32) × (Nat → Int32) × (Nat → Int32) × (Nat → Int32) × (Nat → Int32) × Int32 × Int32 × Int32)) : m_X8_proves_L68 (nI n) ph r1 FU 0 s0.1 s0.2.1 s0.2.2 k = k (nI 6) (FT (mhas n r1.2.2.1 ph) (mval n r1.2.2.1 ph) s0 6).1 (FT (mhas n r1.2.2.1 ph) (mval n r1.2.2.1 ph) s0 6).2.1 (FT (mhas n r1.2.2.1 ph) (mval n r1.2.2.1 ph) s0 6).2.2 := by
  obtain ⟨s', h1, h2⟩ := lpx (fun f i (s : Int32 × Int32 × Int32) => m_X8_proves_L68 (nI n) ph r1 f i s.1 s.2.1 s.2.2 k) (fun s => k (nI 6) s.1 s.2.1 s.2.2) 6 (fun j s => s = FT (mhas n r1.2.2.1 ph) (mval n r1.2.2.1 ph) s0 j)
    (fun f j s hj h => by
      refine ⟨FT (mhas n r1.2.2.1 ph) (mval n r1.2.2.1 ph) s0 (j + 1), ?_, rfl⟩
      have hq := pr_78 hn ph r1 hj s (fun _ c1 c2 c3 => m_X8_proves_L68 (nI n) ph r1 f (nI j + (1 : Int32)) c1 c2 c3 k)
      rw [h, FT_row, ← h] at hq
      simp (disch := omega) only [m_X8_proves_L68, l_le (k := 6), Nat.not_le.mpr hj, if_false, nI_1]
      rw [nI_1] at hq
      exact hq)
    (fun f s _ => by simp (disch := omega) only [m_X8_proves_L68, l_le (k := 6), Nat.le_refl, if_true]) 0 s0 (by omega) (by omega) (FT_0 (fun i hi => by omega)).symm
  subst h1
  exact h2
def cval (n : Nat) (rc : Nat → Int32) (g1 g2 : Nat → Nat) (u : Nat) : Int32 × Int32 × Int32 := (4, nI u, nI (eU n rc g1 u) - nI (lU n rc g2 u))
theorem pr_151 {n : Nat} (hn : n ≤ 12) (fm tm : Nat → Int32) (r1 : (Nat → Int32) × (Nat → Int32) × (Nat → Int32) × (Nat → Int32)) (hg : ∀ c, c < n → r1.2.2.2 c = bs (fun v => bt (r1.2.2.1 v) c) n) {g1 g2 : Nat → Nat} (h1 : ∀ j, j < n → fm j = nI (g1 j) ∧ g1 j ≤ 2000) (h2 : ∀ j, j < n → tm j = nI (g2 j) ∧ g2 j ≤ 2000) (s0 : Int32 × Int32 × Int32) (k : Int32 → Int32 → Int32 → Int32 → Option ((Nat → Int32) × (Nat → Int32) × (Nat → Int32) × (Nat → Int32) × (Nat → Int32) × (Nat → Int32) × Int32 × Int32 × Int32)) : m_X8_proves_L151 (nI n) fm tm r1 FU 0 s0.1 s0.2.1 s0.2.2 k = k (nI n) (FT (cx n r1.2.2.1 g1 g2) (cval n r1.2.2.1 g1 g2) s0 n).1 (FT (cx n r1.2.2.1 g1 g2) (cval n r1.2.2.1 g1 g2) s0 n).2.1 (FT (cx n r1.2.2.1 g1 g2) (cval n r1.2.2.1 g1 g2) s0 n).2.2 := by
  obtain ⟨s', h3, h4⟩ := lpx (fun f i (s : Int32 × Int32 × Int32) => m_X8_proves_L151 (nI n) fm tm r1 f i s.1 s.2.1 s.2.2 k) (fun s => k (nI n) s.1 s.2.1 s.2.2) n (fun j s => s = FT (cx n r1.2.2.1 g1 g2) (cval n r1.2.2.1 g1 g2) s0 j)
    (fun f j s hj h => by
      have b1 : eU n r1.2.2.1 g1 j ≤ 2000 := eU_le (fun j hj => (h1 j hj).2) hj
      have b2 : lU n r1.2.2.1 g2 j ≤ 2000 := lU_le (fun j hj => (h2 j hj).2) hj
      have he : m_X8_earliest (nI n) fm r1.2.2.1 (nI j) = some (nI (eU n r1.2.2.1 g1 j)) := early8 hn r1.2.2.1 fm h1 hj
      have hl : m_X8_latest (nI n) tm r1.2.2.2 (nI j) = some (nI (lU n r1.2.2.1 g2 j)) := by
        rw [late8 hn r1.2.2.2 tm h2 hj, late_same hn hg hj]; rfl
      by_cases hc : eU n r1.2.2.1 g1 j ≤ lU n r1.2.2.1 g2 j
      · have hx : ¬ cx n r1.2.2.1 g1 g2 j = true := by simp only [cx, decide_eq_true_eq]; omega
        refine ⟨s, ?_, by rw [FT_no hx]; exact h⟩
        simp (disch := omega) only [m_X8_proves_L151, n_le, Nat.not_le.mpr hj, if_false, he, hl, cl_s, if_pos hc, nI_1]
      · have hx : cx n r1.2.2.1 g1 g2 j = true := by simp only [cx, decide_eq_true_eq]; omega
        have hf := FT_yes (c := cx n r1.2.2.1 g1 g2) (v := cval n r1.2.2.1 g1 g2) (s0 := s0) (j := j) (fun _ => ne_40) hx
        refine ⟨FT (cx n r1.2.2.1 g1 g2) (cval n r1.2.2.1 g1 g2) s0 (j + 1), ?_, rfl⟩
        subst h
        simp (disch := omega) only [m_X8_proves_L151, n_le, Nat.not_le.mpr hj, if_false, he, hl, cl_s, if_neg hc, nI_1]
        simp only [cval] at hf ⊢
        rw [hf, cl_s])
    (fun f s _ => by simp (disch := omega) only [m_X8_proves_L151, n_le, Nat.le_refl, if_true]) 0 s0 (by omega) (by omega) (FT_0 (fun i hi => by omega)).symm
  subst h3
  exact h4
/-- the three walks, one behind the other, give the verdict -/
theorem FT_VS {n : Nat} {un rc kd ph : Nat → Int32} {g1 g2 : Nat → Nat} (ca la : Int32) : (FT (cx n rc g1 g2) (cval n rc g1 g2) (FT (mhas n rc ph) (mval n rc ph) (FT (bare n un rc kd) (fun u => (2, nI u, -5)) (0, ca, la) n) 6) n).1 = (VS n un rc kd ph g1 g2).1 ∧ (¬ (VS n un rc kd ph g1 g2).1 = 0 → FT (cx n rc g1 g2) (cval n rc g1 g2) (FT (mhas n rc ph) (mval n rc ph) (FT (bare n un rc kd) (fun u => (2, nI u, -5)) (0, ca, la) n) 6) n = VS n un rc kd ph g1 g2) := by
  unfold VS
  by_cases c1 : ff (bare n un rc kd) n < n
  · have e1 : FT (bare n un rc kd) (fun u => (2, nI u, -5)) (0, ca, la) n = (2, nI (ff (bare n un rc kd) n), -5) := if_pos ⟨rfl, c1⟩
    have e2 : FT (mhas n rc ph) (mval n rc ph) (2, nI (ff (bare n un rc kd) n), -5) 6 = (2, nI (ff (bare n un rc kd) n), -5) := if_neg (fun q => ne_20 q.1)
    have e3 : FT (cx n rc g1 g2) (cval n rc g1 g2) (2, nI (ff (bare n un rc kd) n), -5) n = (2, nI (ff (bare n un rc kd) n), -5) := if_neg (fun q => ne_20 q.1)
    rw [e1, e2, e3, if_pos c1]
    exact ⟨rfl, fun _ => rfl⟩
  · have e1 : FT (bare n un rc kd) (fun u => (2, nI u, -5)) (0, ca, la) n = (0, ca, la) := if_neg (fun q => c1 q.2)
    rw [e1, if_neg c1]
    by_cases c2 : ff (mhas n rc ph) 6 < 6
    · have e2 : FT (mhas n rc ph) (mval n rc ph) (0, ca, la) 6 = mval n rc ph (ff (mhas n rc ph) 6) := if_pos ⟨rfl, c2⟩
      have e3 : FT (cx n rc g1 g2) (cval n rc g1 g2) (mval n rc ph (ff (mhas n rc ph) 6)) n = mval n rc ph (ff (mhas n rc ph) 6) := if_neg (fun q => ne_30 q.1)
      rw [e2, e3, if_pos c2]
      exact ⟨rfl, fun _ => rfl⟩
    · have e2 : FT (mhas n rc ph) (mval n rc ph) (0, ca, la) 6 = (0, ca, la) := if_neg (fun q => c2 q.2)
      rw [e2, if_neg c2]
      by_cases c3 : ff (cx n rc g1 g2) n < n
      · have e3 : FT (cx n rc g1 g2) (cval n rc g1 g2) (0, ca, la) n = cval n rc g1 g2 (ff (cx n rc g1 g2) n) := if_pos ⟨rfl, c3⟩
        rw [e3, if_pos c3]
        exact ⟨rfl, fun _ => rfl⟩
      · have e3 : FT (cx n rc g1 g2) (cval n rc g1 g2) (0, ca, la) n = (0, ca, la) := if_neg (fun q => c3 q.2)
        rw [e3, if_neg c3]
        exact ⟨rfl, fun q => absurd rfl q⟩
