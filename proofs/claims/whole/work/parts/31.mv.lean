/-! ===== the proof ===== -/
def isCutK (x : Int32) : Bool := decide (x = 1) || decide (x = 4)
def isFillK (x : Int32) : Bool := decide (x = 2) || decide (x = 5)
theorem cut7 (x : Int32) : m_X7_isCut x = some (if isCutK x = true then 1 else 0) := by
  unfold m_X7_isCut isCutK
  by_cases h1 : x = 1
  · simp [h1]
  · by_cases h2 : x = 4
    · simp [h2]
    · simp [h1, h2]
theorem fill7 (x : Int32) : m_X7_isFill x = some (if isFillK x = true then 1 else 0) := by
  unfold m_X7_isFill isFillK
  by_cases h1 : x = 2
  · simp [h1]
  · by_cases h2 : x = 5
    · simp [h2]
    · simp [h1, h2]
/-- a fill without a cut right below -/
def bare (n : Nat) (un rc kd : Nat → Int32) (u : Nat) : Bool := isFillK (kd u) && decide (ru n un rc u &&& bs (fun v => isCutK (kd v)) n = 0)
theorem bare_5 {n : Nat} (hn : n ≤ 12) (tr : Nat → Int32) (k : Int32 → Int32 → Option ((Nat → Int32) × Int32 × Int32)) : m_X3_findsBareFill_L5 (nI n) tr FU 0 0 k = k (bs (fun v => isCutK (tr v)) n) (nI n) := by
  exact bsl (fun f i a => m_X3_findsBareFill_L5 (nI n) tr f a i k) (fun a => k a (nI n)) n (fun v => isCutK (tr v)) (by omega)
    (fun f j a hj => by
      by_cases h : isCutK (tr j) = true
      · simp (disch := omega) only [m_X3_findsBareFill_L5, n_le, Nat.not_le.mpr hj, if_false, nI_1, lt_e, tr7_0, cl_s, cut7, if_c, if_10, if_00, if_true, if_pos h]
      · simp (disch := omega) only [m_X3_findsBareFill_L5, n_le, Nat.not_le.mpr hj, if_false, nI_1, lt_e, tr7_0, cl_s, cut7, if_c, if_10, if_00, if_true, if_neg h])
    (fun f a => by simp (disch := omega) only [m_X3_findsBareFill_L5, n_le, Nat.le_refl, if_true])
/-- the verdict of the class: numbers -/
def VD (f : Nat → Int32) (a b c : Int32) : Prop := f 0 = a ∧ f 1 = b ∧ f 2 = c
theorem write7 (f : Nat → Int32) (z a b c : Int32) : ∃ g, VD g a b c ∧ m_X3_write f z a b c = some (g, 3) := by
  unfold m_X3_write
  rw [au_l (j := 0) (by omega) (by omega), au_l (j := 1) (by omega) (by omega), au_l (j := 2) (by omega) (by omega)]
  exact ⟨_, ⟨by rw [upd_n (by omega), upd_n (by omega), upd_s], by rw [upd_n (by omega), upd_s], upd_s⟩, rfl⟩
theorem bare7 {n : Nat} (hn : n ≤ 12) (un rc tr f : Nat → Int32) (z : Int32) : ∃ g, ((ff (bare n un rc tr) n < n → g 0 = 2 ∧ g 1 = nI (ff (bare n un rc tr) n)) ∧ (¬ ff (bare n un rc tr) n < n → g = f)) ∧ m_X3_findsBareFill f z (nI n) tr (nI n) un rc = some (if ff (bare n un rc tr) n < n then (g, 2, 1) else (g, z, 0)) := by
  unfold m_X3_findsBareFill
  rw [bare_5 hn]
  rcases lpe (fun fu i (_ : Unit) => m_X3_findsBareFill_L43 z (nI n) (nI n) f tr un rc (bs (fun v => isCutK (tr v)) n) fu i (fun x4_43 => some (f, z, (0 : Int32)))) (fun _ => some (f, z, 0)) n (fun j _ => ∀ i, i < j → bare n un rc tr i = false) (fun r => ff (bare n un rc tr) n < n ∧ r.1 0 = 2 ∧ r.1 1 = nI (ff (bare n un rc tr) n) ∧ r.2 = (2, 1))
    (fun fu j _ hj h => by
      by_cases h1 : isFillK (tr j) = true
      · by_cases h2 : ru n un rc j &&& bs (fun v => isCutK (tr v)) n = 0
        · obtain ⟨g, ⟨g0, g1, g2⟩, hg⟩ := write7 f z 2 (nI j) 0
          have hb : bare n un rc tr j = true := by simp [bare, h1, h2]
          refine Or.inr ⟨(g, 2, 1), by simp (disch := omega) only [m_X3_findsBareFill_L43, n_le, Nat.not_le.mpr hj, if_false, nI_1, tr7_0, cl_s, fill7, if_c, if_10, if_00, if_true, if_pos h1, red7, if_pos h2, hg], ?_⟩
          rw [ff_at hj h hb]
          exact ⟨hj, g0, g1, rfl⟩
        · refine Or.inl ⟨(), by simp (disch := omega) only [m_X3_findsBareFill_L43, n_le, Nat.not_le.mpr hj, if_false, nI_1, tr7_0, cl_s, fill7, if_c, if_10, if_00, if_true, if_pos h1, red7, if_neg h2], succ_ih h (by simp [bare, h2])⟩
      · refine Or.inl ⟨(), by simp (disch := omega) only [m_X3_findsBareFill_L43, n_le, Nat.not_le.mpr hj, if_false, nI_1, tr7_0, cl_s, fill7, if_c, if_10, if_00, if_true, if_neg h1], succ_ih h (by simp [bare, h1])⟩)
    (fun fu _ _ => by simp (disch := omega) only [m_X3_findsBareFill_L43, n_le, Nat.le_refl, if_true]) 0 () (by omega) (by omega) (fun i hi => by omega) with ⟨_, h1, h2⟩ | ⟨⟨g, r⟩, h1, h2, h3, h4, h5⟩
  · refine ⟨f, ⟨fun q => ?_, fun _ => rfl⟩, ?_⟩
    · rw [ff_none h1] at q; omega
    · rw [ff_none h1, if_neg (by omega)]; exact h2
  · refine ⟨g, ⟨fun _ => ⟨h3, h4⟩, fun q => absurd h2 q⟩, ?_⟩
    · rw [if_pos h2]
      have h5 : r = (2, 1) := h5
      subst h5
      exact h1
/-- phases that lie mixed: p, q -/
def mxd (n : Nat) (rc ph : Nat → Int32) (p q : Nat) : Bool := decide (fr n rc ph (nI p) (nI q) < n) && decide (fr n rc ph (nI q) (nI p) < n)
def mxv (n : Nat) (rc ph : Nat → Int32) (p q : Nat) : Int32 := nI (100 * fr n rc ph (nI p) (nI q) + ff (bt (rc (fr n rc ph (nI p) (nI q)) &&& bs (fun u => decide (ph u = nI q)) n)) 12)
theorem mxd_least {n : Nat} (hn : n ≤ 12) {rc ph : Nat → Int32} {p q : Nat} (h : mxd n rc ph p q = true) : ff (bt (rc (fr n rc ph (nI p) (nI q)) &&& bs (fun u => decide (ph u = nI q)) n)) 12 < 12 := by
  unfold mxd at h
  rw [Bool.and_eq_true, decide_eq_true_eq] at h
  have hy := ff_yes (fun u => decide (ph u = nI p) && !decide (rc u &&& bs (fun u => decide (ph u = nI q)) n = 0)) n h.1
  have hy2 : ¬ rc (fr n rc ph (nI p) (nI q)) &&& bs (fun u => decide (ph u = nI q)) n = 0 := by
    rw [Bool.and_eq_true, Bool.not_eq_true', decide_eq_false_iff_not] at hy
    exact hy.2
  obtain ⟨v, hv, h1, h2⟩ := and_ne.mp hy2
  refine Nat.lt_of_not_le (fun hq => ?_)
  rw [bt_bs _ hv n (by omega), Bool.and_eq_true, decide_eq_true_eq] at h2
  have := ff_no (bt (rc (fr n rc ph (nI p) (nI q)) &&& bs (fun u => decide (ph u = nI q)) n)) 12 v (by omega)
  rw [b_and, h1, bt_bs _ hv n (by omega)] at this
  simp [h2.1] at this
  exact absurd (decide_eq_true_eq.mp h2.2) this
theorem litp10 (p q : Nat) : (10 : Int32) * nI p + nI q = nI (10 * p + q) := by
  show nI 10 * nI p + nI q = _
  rw [pk_mul, nI_add]
theorem litp100 (p q : Nat) : (100 : Int32) * nI p + nI q = nI (100 * p + q) := by
  show nI 100 * nI p + nI q = _
  rw [pk_mul, nI_add]
theorem mix7_13 {n : Nat} (hn : n ≤ 12) (rc tr f : Nat → Int32) (z : Int32) {p : Nat} (hp : p < 6) (k : Int32 → Option ((Nat → Int32) × Int32 × Int32)) : (ff (fun q => decide (p < q) && mxd n rc (fun v => tr (48 + v)) p q) 6 = 6 ∧ m_X3_findsMixedPhases_L13 z (nI n) (nI n) f tr rc (nI p) FU (nI (p + 1)) k = k (nI 6)) ∨ ∃ q g, q < 6 ∧ ff (fun q => decide (p < q) && mxd n rc (fun v => tr (48 + v)) p q) 6 = q ∧ VD g 3 (nI (10 * p + q)) (mxv n rc (fun v => tr (48 + v)) p q) ∧ m_X3_findsMixedPhases_L13 z (nI n) (nI n) f tr rc (nI p) FU (nI (p + 1)) k = some (g, 3, 1) := by
  rcases lpe (fun fu i (_ : Unit) => m_X3_findsMixedPhases_L13 z (nI n) (nI n) f tr rc (nI p) fu i k) (fun _ => k (nI 6)) 6 (fun j _ => p < j ∧ ∀ i, i < j → (decide (p < i) && mxd n rc (fun v => tr (48 + v)) p i) = false) (fun r => ∃ q g, q < 6 ∧ ff (fun q => decide (p < q) && mxd n rc (fun v => tr (48 + v)) p q) 6 = q ∧ VD g 3 (nI (10 * p + q)) (mxv n rc (fun v => tr (48 + v)) p q) ∧ r = (g, 3, 1))
    (fun fu j _ hj h => by
      obtain ⟨hpj, h⟩ := h
      have hfle := fr_le (n := n) (rc := rc) (ph := fun v => tr (48 + v)) (p := nI p) (q := nI j)
      by_cases h1 : fr n rc (fun v => tr (48 + v)) (nI p) (nI j) < n
      · have hnl : ¬ nI (fr n rc (fun v => tr (48 + v)) (nI p) (nI j)) < 0 := by rw [lt_l (k := 0) (by omega) (by omega)]; omega
        by_cases h2 : fr n rc (fun v => tr (48 + v)) (nI j) (nI p) < n
        · have hm : mxd n rc (fun v => tr (48 + v)) p j = true := by simp [mxd, h1, h2]
          have hls := least7 (rc (fr n rc (fun v => tr (48 + v)) (nI p) (nI j)) &&& bs (fun u => decide (tr (48 + u) = nI j)) n)
          rw [if_pos (mxd_least hn hm)] at hls
          obtain ⟨g, hg, hw⟩ := write7 f z 3 (nI (10 * p + j)) (mxv n rc (fun v => tr (48 + v)) p j)
          refine Or.inr ⟨(g, 3, 1), ?_, j, g, hj, ff_at hj h (by simp [hpj, hm]), hg, rfl⟩
          rw [mxv] at hw
          simp (disch := omega) only [m_X3_findsMixedPhases_L13, l_le (k := 6), Nat.not_le.mpr hj, if_false, first7 hn, cl_s, if_pos h1, if_neg hnl, reach7 hn, if_c, if_10, if_00, if_true, if_pos h2, ag_n, phase7 hn, hls, litp10, litp100, hw]
        · refine Or.inl ⟨(), by simp (disch := omega) only [m_X3_findsMixedPhases_L13, l_le (k := 6), Nat.not_le.mpr hj, if_false, first7 hn, cl_s, if_pos h1, if_neg hnl, reach7 hn, if_c, if_10, if_00, if_true, if_neg h2, nI_1], by omega, succ_ih (p := fun i => (decide (p < i) && mxd n rc (fun v => tr (48 + v)) p i)) h (by simp [mxd, h2])⟩
      · refine Or.inl ⟨(), by simp (disch := omega) only [m_X3_findsMixedPhases_L13, l_le (k := 6), Nat.not_le.mpr hj, if_false, first7 hn, cl_s, if_neg h1, if_pos m1_0, nI_1], by omega, succ_ih (p := fun i => (decide (p < i) && mxd n rc (fun v => tr (48 + v)) p i)) h (by simp [mxd, h1])⟩)
    (fun fu _ _ => by simp (disch := omega) only [m_X3_findsMixedPhases_L13, l_le (k := 6), Nat.le_refl, if_true]) (p + 1) () (by omega) (by omega) ⟨by omega, fun i hi => by simp [show ¬ p < i by omega]⟩ with ⟨_, h1, h2⟩ | ⟨r, h1, q, g, h2, h3, h4, h5⟩
  · exact Or.inl ⟨ff_none h1.2, h2⟩
  · refine Or.inr ⟨q, g, h2, h3, h4, ?_⟩
    rw [← h5]; exact h1
