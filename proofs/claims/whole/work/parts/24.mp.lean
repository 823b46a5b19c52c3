/-! ===== dates, phases ===== -/
def mx (g : Nat → Nat) (p : Nat → Bool) (y : Nat) : Nat → Nat
  | 0 => y
  | n + 1 => if p n = true ∧ mx g p y n < g n then g n else mx g p y n
def mn (g : Nat → Nat) (p : Nat → Bool) (y : Nat) : Nat → Nat
  | 0 => y
  | n + 1 => if p n = true ∧ g n < mn g p y n then g n else mn g p y n
theorem mx_le {g : Nat → Nat} {p : Nat → Bool} {y M : Nat} (hy : y ≤ M) : ∀ {n : Nat}, (∀ j, j < n → g j ≤ M) → mx g p y n ≤ M
  | 0, _ => hy
  | n + 1, h => by
    unfold mx
    split
    · exact h n (by omega)
    · exact mx_le hy (fun j hj => h j (by omega))
theorem mn_le {g : Nat → Nat} {p : Nat → Bool} {y M : Nat} (hy : y ≤ M) : ∀ {n : Nat}, (∀ j, j < n → g j ≤ M) → mn g p y n ≤ M
  | 0, _ => hy
  | n + 1, h => by
    unfold mn
    split
    · exact h n (by omega)
    · exact mn_le hy (fun j hj => h j (by omega))
theorem mx_congr {g : Nat → Nat} {p q : Nat → Bool} {y : Nat} : ∀ {n : Nat}, (∀ u, u < n → p u = q u) → mx g p y n = mx g q y n
  | 0, _ => rfl
  | n + 1, h => by
    unfold mx
    rw [mx_congr (fun u hu => h u (by omega)), h n (by omega)]
theorem mn_congr {g : Nat → Nat} {p q : Nat → Bool} {y : Nat} : ∀ {n : Nat}, (∀ u, u < n → p u = q u) → mn g p y n = mn g q y n
  | 0, _ => rfl
  | n + 1, h => by
    unfold mn
    rw [mn_congr (fun u hu => h u (by omega)), h n (by omega)]
theorem trait7 (tr : Nat → Int32) {a u : Nat} (ha : a < 5) (hu : u < 12) : m_X2_trait tr (nI a) (nI u) = some (tr (12 * a + u)) := by
  unfold m_X2_trait
  have e : nI a * (12 : Int32) + nI u = nI (12 * a + u) := by
    show nI a * nI 12 + nI u = _
    rw [pk_mul, nI_add, Nat.mul_comm]
  rw [e, ag_n (by omega) (by omega)]
theorem put7 (tr : Nat → Int32) {a u : Nat} (ha : a < 5) (hu : u < 12) (v : Int32) : m_X2_putTrait tr (nI a) (nI u) v = some (upd tr (12 * a + u) v) := by
  unfold m_X2_putTrait
  have e : nI a * (12 : Int32) + nI u = nI (12 * a + u) := by
    show nI a * nI 12 + nI u = _
    rw [pk_mul, nI_add, Nat.mul_comm]
  rw [e, au_n (by omega) (by omega)]
theorem tr7_0 (tr : Nat → Int32) {u : Nat} (hu : u < 12) : m_X2_trait tr 0 (nI u) = some (tr u) := by
  have := trait7 tr (a := 0) (u := u) (by omega) hu
  rwa [Nat.mul_zero, Nat.zero_add] at this
theorem tr7_1 (tr : Nat → Int32) {u : Nat} (hu : u < 12) : m_X2_trait tr 1 (nI u) = some (tr (12 + u)) := trait7 tr (a := 1) (by omega) hu
theorem tr7_2 (tr : Nat → Int32) {u : Nat} (hu : u < 12) : m_X2_trait tr 2 (nI u) = some (tr (24 + u)) := trait7 tr (a := 2) (by omega) hu
theorem tr7_3 (tr : Nat → Int32) {u : Nat} (hu : u < 12) : m_X2_trait tr 3 (nI u) = some (tr (36 + u)) := trait7 tr (a := 3) (by omega) hu
theorem tr7_4 (tr : Nat → Int32) {u : Nat} (hu : u < 12) : m_X2_trait tr 4 (nI u) = some (tr (48 + u)) := trait7 tr (a := 4) (by omega) hu
theorem early7 {n : Nat} (hn : n ≤ 12) (rc tr : Nat → Int32) {g : Nat → Nat} (hg : ∀ j, j < n → tr (24 + j) = nI (g j) ∧ g j ≤ 2000) {u : Nat} (hu : u < n) : m_X5_earliest (nI n) rc tr (nI u) = some (nI (mx g (bt (rc u)) (g u) n)) := by
  unfold m_X5_earliest
  rw [tr7_2 tr (by omega), cl_s, (hg u hu).1]
  obtain ⟨s, h1, h2⟩ := lpx (fun f i (y : Int32) => m_X5_earliest_L10 (nI n) rc tr (nI u) f y i (fun x3_10 x4_10 => some x3_10)) (fun y => some y) n (fun j y => y = nI (mx g (bt (rc u)) (g u) j))
    (fun f j y hj h => by
      have hm : mx g (bt (rc u)) (g u) j ≤ 2000 := mx_le (hg u hu).2 (fun i hi => (hg i (by omega)).2)
      have hgj := hg j hj
      have e : nI (mx g (bt (rc u)) (g u) (j + 1)) = if bt (rc u) j = true ∧ mx g (bt (rc u)) (g u) j < g j then nI (g j) else nI (mx g (bt (rc u)) (g u) j) := by
        show nI (if bt (rc u) j = true ∧ mx g (bt (rc u)) (g u) j < g j then g j else mx g (bt (rc u)) (g u) j) = _
        split <;> rfl
      refine ⟨_, ?_, e.symm⟩
      subst h
      by_cases hb : bt (rc u) j = true
      · simp (disch := omega) only [m_X5_earliest_L10, n_le, Nat.not_le.mpr hj, if_false, ag_n, nI_1, hb7, cl_s, if_c, if_10, if_00, if_true, Bool.false_eq_true, if_pos hb, lt_e, tr7_2, hgj.1, n_lt, hb, true_and]
      · simp (disch := omega) only [m_X5_earliest_L10, n_le, Nat.not_le.mpr hj, if_false, ag_n, nI_1, hb7, cl_s, if_c, if_10, if_00, if_true, Bool.false_eq_true, if_neg hb, lt_e, hb, false_and])
    (fun f y _ => by simp (disch := omega) only [m_X5_earliest_L10, n_le, Nat.le_refl, if_true]) 0 (nI (g u)) (by omega) (by omega) rfl
  subst h1
  exact h2
theorem late7 {n : Nat} (hn : n ≤ 12) (rc tr : Nat → Int32) {g : Nat → Nat} (hg : ∀ j, j < n → tr (36 + j) = nI (g j) ∧ g j ≤ 2000) {u : Nat} (hu : u < n) : m_X5_latest (nI n) rc tr (nI u) = some (nI (mn g (fun j => bt (rc j) u) (g u) n)) := by
  unfold m_X5_latest
  rw [tr7_3 tr (by omega), cl_s, (hg u hu).1]
  obtain ⟨s, h1, h2⟩ := lpx (fun f i (y : Int32) => m_X5_latest_L10 (nI n) rc tr (nI u) f y i (fun x3_10 x4_10 => some x3_10)) (fun y => some y) n (fun j y => y = nI (mn g (fun j => bt (rc j) u) (g u) j))
    (fun f j y hj h => by
      have hm : mn g (fun j => bt (rc j) u) (g u) j ≤ 2000 := mn_le (hg u hu).2 (fun i hi => (hg i (by omega)).2)
      have hgj := hg j hj
      have e : nI (mn g (fun j => bt (rc j) u) (g u) (j + 1)) = if bt (rc j) u = true ∧ g j < mn g (fun j => bt (rc j) u) (g u) j then nI (g j) else nI (mn g (fun j => bt (rc j) u) (g u) j) := by
        show nI (if bt (rc j) u = true ∧ g j < mn g (fun j => bt (rc j) u) (g u) j then g j else mn g (fun j => bt (rc j) u) (g u) j) = _
        split <;> rfl
      refine ⟨_, ?_, e.symm⟩
      subst h
      by_cases hb : bt (rc j) u = true
      · simp (disch := omega) only [m_X5_latest_L10, n_le, Nat.not_le.mpr hj, if_false, ag_n, nI_1, hb7, cl_s, if_c, if_10, if_00, if_true, Bool.false_eq_true, if_pos hb, lt_e, tr7_3, hgj.1, n_lt, hb, true_and]
      · simp (disch := omega) only [m_X5_latest_L10, n_le, Nat.not_le.mpr hj, if_false, ag_n, nI_1, hb7, cl_s, if_c, if_10, if_00, if_true, Bool.false_eq_true, if_neg hb, lt_e, hb, false_and])
    (fun f y _ => by simp (disch := omega) only [m_X5_latest_L10, n_le, Nat.le_refl, if_true]) 0 (nI (g u)) (by omega) (by omega) rfl
  subst h1
  exact h2
theorem early8 {n : Nat} (hn : n ≤ 12) (rc fr : Nat → Int32) {g : Nat → Nat} (hg : ∀ j, j < n → fr j = nI (g j) ∧ g j ≤ 2000) {u : Nat} (hu : u < n) : m_X8_earliest (nI n) fr rc (nI u) = some (nI (mx g (bt (rc u)) (g u) n)) := by
  unfold m_X8_earliest
  rw [ag_n (by omega) (by omega), (hg u hu).1]
  obtain ⟨s, h1, h2⟩ := lpx (fun f i (y : Int32) => m_X8_earliest_L9 (nI n) fr rc (nI u) f y i (fun x2_9 x3_9 => some x2_9)) (fun y => some y) n (fun j y => y = nI (mx g (bt (rc u)) (g u) j))
    (fun f j y hj h => by
      have hm : mx g (bt (rc u)) (g u) j ≤ 2000 := mx_le (hg u hu).2 (fun i hi => (hg i (by omega)).2)
      have hgj := hg j hj
      have e : nI (mx g (bt (rc u)) (g u) (j + 1)) = if bt (rc u) j = true ∧ mx g (bt (rc u)) (g u) j < g j then nI (g j) else nI (mx g (bt (rc u)) (g u) j) := by
        show nI (if bt (rc u) j = true ∧ mx g (bt (rc u)) (g u) j < g j then g j else mx g (bt (rc u)) (g u) j) = _
        split <;> rfl
      refine ⟨_, ?_, e.symm⟩
      subst h
      by_cases hb : bt (rc u) j = true
      · by_cases hl : mx g (bt (rc u)) (g u) j < g j
        · simp (disch := omega) only [m_X8_earliest_L9, n_le, Nat.not_le.mpr hj, if_false, ag_n, nI_1, hb8, cl_s, if_c, if_10, if_00, if_true, Bool.false_eq_true, if_pos hb, hgj.1, Nat.not_le.mpr hl, hb, hl, and_self, if_true]
        · simp (disch := omega) only [m_X8_earliest_L9, n_le, Nat.not_le.mpr hj, if_false, ag_n, nI_1, hb8, cl_s, if_c, if_10, if_00, if_true, Bool.false_eq_true, if_pos hb, hgj.1, Nat.not_lt.mp hl, hb, hl, and_false, if_true]
      · simp (disch := omega) only [m_X8_earliest_L9, n_le, Nat.not_le.mpr hj, if_false, ag_n, nI_1, hb8, cl_s, if_c, if_10, if_00, if_true, Bool.false_eq_true, if_neg hb, hb, false_and])
    (fun f y _ => by simp (disch := omega) only [m_X8_earliest_L9, n_le, Nat.le_refl, if_true]) 0 (nI (g u)) (by omega) (by omega) rfl
  subst h1
  exact h2
theorem late8 {n : Nat} (hn : n ≤ 12) (rg fr : Nat → Int32) {g : Nat → Nat} (hg : ∀ j, j < n → fr j = nI (g j) ∧ g j ≤ 2000) {u : Nat} (hu : u < n) : m_X8_latest (nI n) fr rg (nI u) = some (nI (mn g (bt (rg u)) (g u) n)) := by
  unfold m_X8_latest
  rw [ag_n (by omega) (by omega), (hg u hu).1]
  obtain ⟨s, h1, h2⟩ := lpx (fun f i (y : Int32) => m_X8_latest_L9 (nI n) fr rg (nI u) f y i (fun x2_9 x3_9 => some x2_9)) (fun y => some y) n (fun j y => y = nI (mn g (bt (rg u)) (g u) j))
    (fun f j y hj h => by
      have hm : mn g (bt (rg u)) (g u) j ≤ 2000 := mn_le (hg u hu).2 (fun i hi => (hg i (by omega)).2)
      have hgj := hg j hj
      have e : nI (mn g (bt (rg u)) (g u) (j + 1)) = if bt (rg u) j = true ∧ g j < mn g (bt (rg u)) (g u) j then nI (g j) else nI (mn g (bt (rg u)) (g u) j) := by
        show nI (if bt (rg u) j = true ∧ g j < mn g (bt (rg u)) (g u) j then g j else mn g (bt (rg u)) (g u) j) = _
        split <;> rfl
      refine ⟨_, ?_, e.symm⟩
      subst h
      by_cases hb : bt (rg u) j = true
      · by_cases hl : g j < mn g (bt (rg u)) (g u) j
        · simp (disch := omega) only [m_X8_latest_L9, n_le, Nat.not_le.mpr hj, if_false, ag_n, nI_1, hb8, cl_s, if_c, if_10, if_00, if_true, Bool.false_eq_true, if_pos hb, hgj.1, Nat.not_le.mpr hl, hb, hl, and_self, if_true]
        · simp (disch := omega) only [m_X8_latest_L9, n_le, Nat.not_le.mpr hj, if_false, ag_n, nI_1, hb8, cl_s, if_c, if_10, if_00, if_true, Bool.false_eq_true, if_pos hb, hgj.1, Nat.not_lt.mp hl, hb, hl, and_false, if_true]
      · simp (disch := omega) only [m_X8_latest_L9, n_le, Nat.not_le.mpr hj, if_false, ag_n, nI_1, hb8, cl_s, if_c, if_10, if_00, if_true, Bool.false_eq_true, if_neg hb, hb, false_and])
    (fun f y _ => by simp (disch := omega) only [m_X8_latest_L9, n_le, Nat.le_refl, if_true]) 0 (nI (g u)) (by omega) (by omega) rfl
  subst h1
  exact h2
/-- the reference's second row says of the first the other way round -/
theorem late_same {n : Nat} (hn : n ≤ 12) {rd rg : Nat → Int32} (h : ∀ c, c < n → rg c = bs (fun v => bt (rd v) c) n) {g : Nat → Nat} {y u : Nat} (hu : u < n) : mn g (bt (rg u)) y n = mn g (fun j => bt (rd j) u) y n :=
  mn_congr (fun j hj => by rw [h u hu, bt_bs _ (by omega) n (by omega)]; simp [hj])
theorem phase7 {n : Nat} (hn : n ≤ 12) (tr : Nat → Int32) (q : Int32) : m_X2_unitsOfPhase (nI n) tr q = some (bs (fun u => decide (tr (48 + u) = q)) n) := by
  unfold m_X2_unitsOfPhase
  exact bsl (fun f i a => m_X2_unitsOfPhase_L4 (nI n) tr q f a i (fun x2_4 x3_4 => some x2_4)) (fun a => some a) n (fun u => decide (tr (48 + u) = q)) (by omega)
    (fun f j a hj => by
      by_cases h : tr (48 + j) = q
      · simp (disch := omega) only [m_X2_unitsOfPhase_L4, n_le, Nat.not_le.mpr hj, if_false, nI_1, lt_e, tr7_4, cl_s, if_pos h, decide_eq_true h, if_true]
      · simp (disch := omega) only [m_X2_unitsOfPhase_L4, n_le, Nat.not_le.mpr hj, if_false, nI_1, lt_e, tr7_4, cl_s, if_neg h, decide_eq_false h, Bool.false_eq_true])
    (fun f a => by simp (disch := omega) only [m_X2_unitsOfPhase_L4, n_le, Nat.le_refl, if_true])
theorem phase8 {n : Nat} (hn : n ≤ 12) (ph : Nat → Int32) (q : Int32) : m_X8_inPhase (nI n) ph q = some (bs (fun u => decide (ph u = q)) n) := by
  unfold m_X8_inPhase
  exact bsl (fun f i a => m_X8_inPhase_L4 (nI n) ph q f a i (fun x2_4 x3_4 => some x2_4)) (fun a => some a) n (fun u => decide (ph u = q)) (by omega)
    (fun f j a hj => by
      by_cases h : ph j = q
      · simp (disch := omega) only [m_X8_inPhase_L4, n_le, Nat.not_le.mpr hj, if_false, nI_1, lt_e, ag_n, if_pos h, decide_eq_true h, if_true]
      · simp (disch := omega) only [m_X8_inPhase_L4, n_le, Nat.not_le.mpr hj, if_false, nI_1, lt_e, ag_n, if_neg h, decide_eq_false h, or_00, Bool.false_eq_true])
    (fun f a => by simp (disch := omega) only [m_X8_inPhase_L4, n_le, Nat.le_refl, if_true])
/-- the least unit of phase p that reaches one of phase q -/
def fr (n : Nat) (rc ph : Nat → Int32) (p q : Int32) : Nat := ff (fun u => decide (ph u = p) && !decide (rc u &&& bs (fun u => decide (ph u = q)) n = 0)) n
theorem fr_le {n : Nat} {rc ph : Nat → Int32} {p q : Int32} : fr n rc ph p q ≤ n := ff_le _ n
theorem first7 {n : Nat} (hn : n ≤ 12) (rc tr : Nat → Int32) (p q : Int32) : m_X5_firstOfPhaseReaching (nI n) rc (nI n) tr p q = some (if fr n rc (fun u => tr (48 + u)) p q < n then nI (fr n rc (fun u => tr (48 + u)) p q) else -1) := by
  unfold m_X5_firstOfPhaseReaching
  rw [phase7 hn, cl_s]
  rcases lpe (fun f i (_ : Unit) => m_X5_firstOfPhaseReaching_L10 (nI n) rc tr p (bs (fun u => decide (tr (48 + u) = q)) n) f i (fun x5_10 => some (-1 : Int32))) (fun _ => some (-1)) n (fun j _ => ∀ i, i < j → (decide (tr (48 + i) = p) && !decide (rc i &&& bs (fun u => decide (tr (48 + u) = q)) n = 0)) = false) (fun r => r = if fr n rc (fun u => tr (48 + u)) p q < n then nI (fr n rc (fun u => tr (48 + u)) p q) else -1)
    (fun f j _ hj h => by
      by_cases h1 : tr (48 + j) = p
      · by_cases h2 : rc j &&& bs (fun u => decide (tr (48 + u) = q)) n = 0
        · refine Or.inl ⟨(), by simp (disch := omega) only [m_X5_firstOfPhaseReaching_L10, n_le, Nat.not_le.mpr hj, if_false, tr7_4, cl_s, if_pos h1, ag_n, if_pos h2, nI_1], succ_ih (p := fun i => (decide (tr (48 + i) = p) && !decide (rc i &&& bs (fun u => decide (tr (48 + u) = q)) n = 0))) h (by simp [h2])⟩
        · refine Or.inr ⟨nI j, by simp (disch := omega) only [m_X5_firstOfPhaseReaching_L10, n_le, Nat.not_le.mpr hj, if_false, tr7_4, cl_s, if_pos h1, ag_n, if_neg h2], ?_⟩
          have e : fr n rc (fun u => tr (48 + u)) p q = j := ff_at hj h (by simp [h1, h2])
          rw [e, if_pos hj]
      · refine Or.inl ⟨(), by simp (disch := omega) only [m_X5_firstOfPhaseReaching_L10, n_le, Nat.not_le.mpr hj, if_false, tr7_4, cl_s, if_neg h1, nI_1], succ_ih (p := fun i => (decide (tr (48 + i) = p) && !decide (rc i &&& bs (fun u => decide (tr (48 + u) = q)) n = 0))) h (by simp [h1])⟩)
    (fun f _ _ => by simp (disch := omega) only [m_X5_firstOfPhaseReaching_L10, n_le, Nat.le_refl, if_true]) 0 () (by omega) (by omega) (fun i hi => by omega) with ⟨_, h1, h2⟩ | ⟨r, h1, h2⟩
  · have e : fr n rc (fun u => tr (48 + u)) p q = n := ff_none h1
    rw [e, if_neg (by omega)]; exact h2
  · rw [← h2]; exact h1
theorem first8 {n : Nat} (hn : n ≤ 12) (rc ph : Nat → Int32) (p q : Int32) : m_X8_reacher (nI n) ph rc p q = some (if fr n rc ph p q < n then nI (fr n rc ph p q) else -1) := by
  unfold m_X8_reacher
  rw [phase8 hn, cl_s]
  rcases lpe (fun f i (_ : Unit) => m_X8_reacher_L9 (nI n) ph rc q (bs (fun u => decide (ph u = p)) n) f i (fun x4_9 => some (-1 : Int32))) (fun _ => some (-1)) n (fun j _ => ∀ i, i < j → (decide (ph i = p) && !decide (rc i &&& bs (fun u => decide (ph u = q)) n = 0)) = false) (fun r => r = if fr n rc ph p q < n then nI (fr n rc ph p q) else -1)
    (fun f j _ hj h => by
      have hbt : bt (bs (fun u => decide (ph u = p)) n) j = decide (ph j = p) := by rw [bt_bs _ (by omega) n (by omega)]; simp [hj]
      by_cases h1 : ph j = p
      · by_cases h2 : rc j &&& bs (fun u => decide (ph u = q)) n = 0
        · refine Or.inl ⟨(), by simp (disch := omega) only [m_X8_reacher_L9, n_le, Nat.not_le.mpr hj, if_false, hb8, cl_s, if_c, if_10, if_00, if_true, Bool.false_eq_true, hbt, decide_eq_true h1, if_true, ag_n, phase8 hn, if_pos h2, nI_1], succ_ih (p := fun i => (decide (ph i = p) && !decide (rc i &&& bs (fun u => decide (ph u = q)) n = 0))) h (by simp [h2])⟩
        · refine Or.inr ⟨nI j, by simp (disch := omega) only [m_X8_reacher_L9, n_le, Nat.not_le.mpr hj, if_false, hb8, cl_s, if_c, if_10, if_00, if_true, Bool.false_eq_true, hbt, decide_eq_true h1, if_true, ag_n, phase8 hn, if_neg h2], ?_⟩
          have e : fr n rc ph p q = j := ff_at hj h (by simp [h1, h2])
          rw [e, if_pos hj]
      · refine Or.inl ⟨(), by simp (disch := omega) only [m_X8_reacher_L9, n_le, Nat.not_le.mpr hj, if_false, hb8, cl_s, if_c, if_10, if_00, if_true, Bool.false_eq_true, hbt, decide_eq_false h1, Bool.false_eq_true, nI_1], succ_ih (p := fun i => (decide (ph i = p) && !decide (rc i &&& bs (fun u => decide (ph u = q)) n = 0))) h (by simp [h1])⟩)
    (fun f _ _ => by simp (disch := omega) only [m_X8_reacher_L9, n_le, Nat.le_refl, if_true]) 0 () (by omega) (by omega) (fun i hi => by omega) with ⟨_, h1, h2⟩ | ⟨r, h1, h2⟩
  · have e : fr n rc ph p q = n := ff_none h1
    rw [e, if_neg (by omega)]; exact h2
  · rw [← h2]; exact h1
theorem fr_congr {n : Nat} {rc rd ph pk : Nat → Int32} (p q : Int32) (h : ∀ u, u < n → rd u = rc u) (h2 : ∀ u, u < n → pk u = ph u) : fr n rd pk p q = fr n rc ph p q := by
  unfold fr
  have e : bs (fun u => decide (pk u = q)) n = bs (fun u => decide (ph u = q)) n := bs_congr (fun u hu => by rw [h2 u hu])
  exact ff_congr (fun u hu => by rw [h u hu, h2 u hu, e])
/-- p over q -/
def ov (n : Nat) (rc ph : Nat → Int32) (p q : Int32) : Bool := decide (fr n rc ph p q < n) && !decide (fr n rc ph q p < n)
theorem m1_0 : (-1 : Int32) < 0 := by decide
theorem reach7 {n : Nat} (hn : n ≤ 12) (rc tr : Nat → Int32) (p q : Int32) : m_X5_phaseReaches (nI n) rc (nI n) tr p q = some (if fr n rc (fun u => tr (48 + u)) p q < n then 1 else 0) := by
  unfold m_X5_phaseReaches
  rw [first7 hn, cl_s]
  by_cases h : fr n rc (fun u => tr (48 + u)) p q < n
  · simp (disch := omega) only [if_pos h, lt_l (k := 0), Nat.not_lt_zero, if_false]
  · simp only [if_neg h, if_pos m1_0]
theorem over7 {n : Nat} (hn : n ≤ 12) (rc tr : Nat → Int32) (p q : Int32) : m_X7_isOver (nI n) tr (nI n) rc p q = some (if ov n rc (fun u => tr (48 + u)) p q = true then 1 else 0) := by
  unfold m_X7_isOver ov
  rw [reach7 hn, reach7 hn, cl_s, if_c]
  by_cases h : fr n rc (fun u => tr (48 + u)) p q < n
  · rw [if_pos h, cl_s, if_c]
    by_cases h2 : fr n rc (fun u => tr (48 + u)) q p < n
    · simp [h2]
    · simp [h, h2]
  · simp [h]
theorem over8 {n : Nat} (hn : n ≤ 12) (rc ph : Nat → Int32) (p q : Int32) : m_X8_isOver (nI n) ph rc p q = some (if ov n rc ph p q = true then 1 else 0) := by
  unfold m_X8_isOver ov
  rw [first8 hn, first8 hn, cl_s]
  by_cases h : fr n rc ph p q < n
  · have a1 : ¬ nI (fr n rc ph p q) = -1 := by rw [n_m1 (by omega)]; exact id
    rw [if_pos h, if_neg a1, cl_s]
    by_cases h2 : fr n rc ph q p < n
    · have a2 : ¬ nI (fr n rc ph q p) = -1 := by rw [n_m1 (by omega)]; exact id
      rw [if_pos h2, if_neg a2]
      simp [h2]
    · rw [if_neg h2, if_pos rfl]
      simp [h, h2]
  · rw [if_neg h, if_pos rfl]
    simp [h]
