/-! ===== the graph ===== -/
def PV (E : Nat → Nat → Prop) : Nat → Nat → Nat → Prop
  | 0, u, v => E u v
  | c + 1, u, v => PV E c u v ∨ (PV E c u c ∧ PV E c c v)
theorem PV_tr (E : Nat → Nat → Prop) : ∀ c u w v, w < c → PV E c u w → PV E c w v → PV E c u v := by
  intro c
  induction c with
  | zero => intro u w v h; omega
  | succ c ih =>
    intro u w v hw h1 h2
    by_cases hc : w = c
    · subst hc
      have a : PV E w u w := by rcases h1 with h | ⟨h, -⟩ <;> exact h
      have b : PV E w w v := by
        rcases h2 with h | ⟨-, h⟩
        · exact h
        · exact h
      exact Or.inr ⟨a, b⟩
    · have hw' : w < c := by omega
      rcases h1 with h | ⟨h, h'⟩
      · rcases h2 with k | ⟨k, k'⟩
        · exact Or.inl (ih u w v hw' h k)
        · exact Or.inr ⟨ih u w c hw' h k, k'⟩
      · rcases h2 with k | ⟨k, k'⟩
        · exact Or.inr ⟨h, ih c w v hw' h' k⟩
        · exact Or.inr ⟨h, k'⟩
theorem PV_le {E : Nat → Nat → Prop} {c d u v : Nat} (h : c ≤ d) (q : PV E c u v) : PV E d u v := by
  induction d with
  | zero =>
    have : c = 0 := by omega
    subst this; exact q
  | succ d ih =>
    by_cases hc : c = d + 1
    · subst hc; exact q
    · exact Or.inl (ih (by omega))
theorem PV_in {E : Nat → Nat → Prop} {n : Nat} (hE : ∀ u v, E u v → u < n ∧ v < n) : ∀ c u v, PV E c u v → u < n ∧ v < n := by
  intro c
  induction c with
  | zero => exact hE
  | succ c ih =>
    intro u v h
    rcases h with h | ⟨h, k⟩
    · exact ih u v h
    · exact ⟨(ih _ _ h).1, (ih _ _ k).2⟩
theorem PV_head {E : Nat → Nat → Prop} {n : Nat} (hE : ∀ u v, E u v → u < n ∧ v < n) : ∀ c, c ≤ n → ∀ u v, PV E c u v → E u v ∨ ∃ w, E u w ∧ PV E n w v := by
  intro c
  induction c with
  | zero => intro _ u v h; exact Or.inl h
  | succ c ih =>
    intro hc u v h
    rcases h with h | ⟨h, k⟩
    · exact ih (by omega) u v h
    · have k2 : PV E n c v := PV_le (by omega) k
      rcases ih (by omega) u c h with e | ⟨w, e, q⟩
      · exact Or.inr ⟨c, e, k2⟩
      · exact Or.inr ⟨w, e, PV_tr E n w c v (by omega) q k2⟩
/-- an edge among the first t ties, one left out -/
def Ed (t : Nat) (up lo : Nat → Nat) (b : Int32) (u v : Nat) : Prop := ∃ k, k < t ∧ nI k ≠ b ∧ up k = u ∧ lo k = v
theorem Ed_succ {t : Nat} {up lo : Nat → Nat} {b : Int32} {u v : Nat} : Ed (t + 1) up lo b u v ↔ (Ed t up lo b u v ∨ (nI t ≠ b ∧ up t = u ∧ lo t = v)) := by
  constructor
  · rintro ⟨k, h1, h2⟩
    by_cases hk : k = t
    · subst hk; exact Or.inr h2
    · exact Or.inl ⟨k, by omega, h2⟩
  · rintro (⟨k, h1, h2⟩ | h)
    · exact ⟨k, by omega, h2⟩
    · exact ⟨t, by omega, h⟩
theorem Ed_0 {up lo : Nat → Nat} {b : Int32} {u v : Nat} : ¬ Ed 0 up lo b u v := by
  rintro ⟨k, h, -⟩; omega
/-- the ties are numbers of units -/
def TI (n t : Nat) (upper lower : Nat → Int32) (up lo : Nat → Nat) : Prop := ∀ k, k < t → upper k = nI (up k) ∧ lower k = nI (lo k) ∧ up k < n ∧ lo k < n
theorem Ed_in {n t : Nat} {upper lower : Nat → Int32} {up lo : Nat → Nat} (h : TI n t upper lower up lo) {b : Int32} : ∀ u v, Ed t up lo b u v → u < n ∧ v < n := by
  rintro u v ⟨k, h1, -, rfl, rfl⟩
  exact ⟨(h k h1).2.2.1, (h k h1).2.2.2⟩
def WB (n t : Nat) (up lo : Nat → Nat) (b : Int32) (un ab rc : Nat → Int32) : Prop :=
  (∀ u v, u < 12 → v < 32 → (bt (un u) v = true ↔ Ed t up lo b u v)) ∧ (∀ u v, u < 12 → v < 32 → (bt (ab u) v = true ↔ Ed t up lo b v u)) ∧ ∀ u v, u < n → v < 32 → (bt (rc u) v = true ↔ PV (Ed t up lo b) n u v)
theorem upd_s {f : Nat → Int32} {k : Nat} {x : Int32} : upd f k x k = x := pk_us
theorem upd_n {f : Nat → Int32} {k j : Nat} {x : Int32} (h : j ≠ k) : upd f k x j = f j := pk_un h
/-- one more tie is written into a row -/
theorem row_or {f : Nat → Int32} {a b u v : Nat} (hb : b < 32) (hv : v < 32) : bt (upd f a (f a ||| ((1 : Int32) <<< (nI b &&& 31))) u) v = true ↔ (bt (f u) v = true ∨ (a = u ∧ b = v)) := by
  by_cases h : u = a
  · subst h
    rw [upd_s, b_or, b_sh hb hv]
    simp only [Bool.or_eq_true, decide_eq_true_eq, true_and, eq_comm (a := v) (b := b)]
  · rw [upd_n h]
    constructor
    · exact Or.inl
    · rintro (q | ⟨q, -⟩)
      · exact q
      · exact absurd q.symm h
theorem weave_10 (un ab : Nat → Int32) (k : Int32 → (Nat → Int32) → (Nat → Int32) → Option (Int32 × (Nat → Int32) × (Nat → Int32) × (Nat → Int32))) : ∃ un' ab', (∀ u, u < 12 → un' u = 0 ∧ ab' u = 0) ∧ m_X5_weave_L10 FU 0 un ab k = k (nI 12) un' ab' := by
  obtain ⟨s, h1, h2⟩ := lpx (fun f i (s : (Nat → Int32) × (Nat → Int32)) => m_X5_weave_L10 f i s.1 s.2 k) (fun s => k (nI 12) s.1 s.2) 12 (fun j s => ∀ u, u < j → s.1 u = 0 ∧ s.2 u = 0)
    (fun f j s hj h => ⟨(upd s.1 j 0, upd s.2 j 0), by
      simp (disch := omega) only [m_X5_weave_L10, l_le (k := 12), au_n, nI_1, Nat.not_le.mpr hj, if_false], fun u hu => by
      by_cases hq : u = j
      · subst hq; exact ⟨upd_s, upd_s⟩
      · simp only [upd_n hq]; exact h u (by omega)⟩)
    (fun f s _ => by simp (disch := omega) only [m_X5_weave_L10, l_le (k := 12), Nat.le_refl, if_true]) 0 (un, ab) (by omega) (by omega) (fun u hu => by omega)
  exact ⟨s.1, s.2, h1, h2⟩
theorem weave_38 {n t : Nat} {upper lower : Nat → Int32} {up lo : Nat → Nat} (hT : TI n t upper lower up lo) (hn : n ≤ 12) (ht : t ≤ 40) (b : Int32) (un ab : Nat → Int32) (h0 : ∀ u, u < 12 → un u = 0 ∧ ab u = 0) (k : Int32 → (Nat → Int32) → (Nat → Int32) → Option (Int32 × (Nat → Int32) × (Nat → Int32) × (Nat → Int32))) : ∃ un' ab', (∀ u v, u < 12 → v < 32 → ((bt (un' u) v = true ↔ Ed t up lo b u v) ∧ (bt (ab' u) v = true ↔ Ed t up lo b v u))) ∧ m_X5_weave_L38 (nI t) upper lower b FU 0 un ab k = k (nI t) un' ab' := by
  obtain ⟨s, h1, h2⟩ := lpx (fun f i (s : (Nat → Int32) × (Nat → Int32)) => m_X5_weave_L38 (nI t) upper lower b f i s.1 s.2 k) (fun s => k (nI t) s.1 s.2) t (fun j s => ∀ u v, u < 12 → v < 32 → ((bt (s.1 u) v = true ↔ Ed j up lo b u v) ∧ (bt (s.2 u) v = true ↔ Ed j up lo b v u)))
    (fun f j s hj h => by
      obtain ⟨e1, e2, e3, e4⟩ := hT j hj
      by_cases hb : nI j = b
      · refine ⟨s, by simp (disch := omega) only [m_X5_weave_L38, n_le, nI_1, Nat.not_le.mpr hj, if_false, if_pos hb], fun u v hu hv => ?_⟩
        rw [(h u v hu hv).1, (h u v hu hv).2, Ed_succ, Ed_succ]
        simp [hb]
      · refine ⟨(upd s.1 (up j) (s.1 (up j) ||| ((1 : Int32) <<< (nI (lo j) &&& 31))), upd s.2 (lo j) (s.2 (lo j) ||| ((1 : Int32) <<< (nI (up j) &&& 31)))), by simp (disch := omega) only [m_X5_weave_L38, n_le, nI_1, Nat.not_le.mpr hj, if_false, if_neg hb, ag_n, au_n, e1, e2], fun u v hu hv => ?_⟩
        simp only [row_or (show lo j < 32 by omega) hv, row_or (show up j < 32 by omega) hv]
        rw [(h u v hu hv).1, (h u v hu hv).2, Ed_succ, Ed_succ]
        constructor
        · simp [hb]
        · constructor
          · rintro (q | ⟨q1, q2⟩)
            · exact Or.inl q
            · exact Or.inr ⟨hb, q2, q1⟩
          · rintro (q | ⟨-, q1, q2⟩)
            · exact Or.inl q
            · exact Or.inr ⟨q2, q1⟩)
    (fun f s _ => by simp (disch := omega) only [m_X5_weave_L38, n_le, Nat.le_refl, if_true]) 0 (un, ab) (by omega) (by omega) (fun u v hu hv => by
      simp only [(h0 u hu).1, (h0 u hu).2, b_0]
      simp [Ed_0])
  exact ⟨s.1, s.2, h1, h2⟩
/-- one round of the closing -/
def CL1 (n c j : Nat) (E : Nat → Nat → Prop) (r : Nat → Int32) : Prop := ∀ u v, u < n → v < 32 → (bt (r u) v = true ↔ if u < j then PV E (c + 1) u v else PV E c u v)
theorem CL1_step {n c j : Nat} {E : Nat → Nat → Prop} {r r' : Nat → Int32} (hc : c < n) (hj : j < n) (hn : n ≤ 12) (h : CL1 n c j E r) (hr : ∀ u v, u < n → v < 32 → (bt (r' u) v = true ↔ (bt (r u) v = true ∨ (u = j ∧ bt (r j) c = true ∧ bt (r c) v = true)))) : CL1 n c (j + 1) E r' := by
  intro u v hu hv
  rw [hr u v hu hv, h u v hu hv]
  have hjc := h j c hj (by omega)
  rw [if_neg (by omega)] at hjc
  have hcv : bt (r c) v = true → PV E (c + 1) c v := by
    intro q
    have := (h c v hc hv).mp q
    by_cases h1 : c < j
    · rwa [if_pos h1] at this
    · rw [if_neg h1] at this; exact Or.inl this
  have hcv' : PV E c c v → bt (r c) v = true := by
    intro q
    refine (h c v hc hv).mpr ?_
    by_cases h1 : c < j
    · rw [if_pos h1]; exact Or.inl q
    · rw [if_neg h1]; exact q
  by_cases h1 : u < j
  · rw [if_pos h1, if_pos (by omega)]
    constructor
    · rintro (q | ⟨q, -⟩)
      · exact q
      · omega
    · exact Or.inl
  · rw [if_neg h1]
    by_cases h2 : u = j
    · subst h2
      rw [if_pos (by omega)]
      constructor
      · rintro (q | ⟨-, q1, q2⟩)
        · exact Or.inl q
        · have a := hjc.mp q1
          rcases hcv q2 with p | ⟨-, p⟩
          · exact Or.inr ⟨a, p⟩
          · exact Or.inr ⟨a, p⟩
      · rintro (q | ⟨q1, q2⟩)
        · exact Or.inl q
        · exact Or.inr ⟨rfl, hjc.mpr q1, hcv' q2⟩
    · rw [if_neg (by omega)]
      constructor
      · rintro (q | ⟨q, -⟩)
        · exact q
        · exact absurd q h2
      · exact Or.inl
theorem close_2 {n : Nat} (hn : n ≤ 12) (un rc : Nat → Int32) (k : Int32 → (Nat → Int32) → Option (Nat → Int32)) : ∃ r', (∀ u, u < n → r' u = un u) ∧ m_X5_closeChains_L2 (nI n) un FU 0 rc k = k (nI n) r' := by
  obtain ⟨s, h1, h2⟩ := lpx (fun f i (s : Nat → Int32) => m_X5_closeChains_L2 (nI n) un f i s k) (fun s => k (nI n) s) n (fun j s => ∀ u, u < j → s u = un u)
    (fun f j s hj h => ⟨upd s j (un j), by
      simp (disch := omega) only [m_X5_closeChains_L2, n_le, ag_n, au_n, nI_1, Nat.not_le.mpr hj, if_false], fun u hu => by
      by_cases hq : u = j
      · subst hq; exact upd_s
      · rw [upd_n hq]; exact h u (by omega)⟩)
    (fun f s _ => by simp (disch := omega) only [m_X5_closeChains_L2, n_le, Nat.le_refl, if_true]) 0 rc (by omega) (by omega) (fun u hu => by omega)
  exact ⟨s, h1, h2⟩
theorem close_40 {n c : Nat} (hn : n ≤ 12) (hc : c < n) (E : Nat → Nat → Prop) (rc : Nat → Int32) (h : CL1 n c 0 E rc) (k : Int32 → (Nat → Int32) → Option (Nat → Int32)) : ∃ r', CL1 n c n E r' ∧ m_X5_closeChains_L40 (nI n) (nI c) FU 0 rc k = k (nI n) r' := by
  obtain ⟨s, h1, h2⟩ := lpx (fun f i (s : Nat → Int32) => m_X5_closeChains_L40 (nI n) (nI c) f i s k) (fun s => k (nI n) s) n (fun j s => CL1 n c j E s)
    (fun f j s hj h => by
      by_cases hb : bt (s j) c = true
      · refine ⟨upd s j (s j ||| s c), by simp (disch := omega) only [m_X5_closeChains_L40, n_le, ag_n, au_n, nI_1, Nat.not_le.mpr hj, if_false, hb7, cl_s, if_c, if_10, if_00, if_true, Bool.false_eq_true, if_pos hb], CL1_step hc hj hn h (fun u v hu hv => ?_)⟩
        by_cases hq : u = j
        · subst hq; rw [upd_s, b_or]; simp [hb]
        · rw [upd_n hq]; simp [hq]
      · refine ⟨s, by simp (disch := omega) only [m_X5_closeChains_L40, n_le, ag_n, nI_1, Nat.not_le.mpr hj, if_false, hb7, cl_s, if_c, if_10, if_00, if_true, Bool.false_eq_true, if_neg hb], CL1_step hc hj hn h (fun u v hu hv => ?_)⟩
        simp [hb])
    (fun f s _ => by simp (disch := omega) only [m_X5_closeChains_L40, n_le, Nat.le_refl, if_true]) 0 rc (by omega) (by omega) h
  exact ⟨s, h1, h2⟩
theorem CL1_next {n c : Nat} {E : Nat → Nat → Prop} {r : Nat → Int32} (h : CL1 n c n E r) : CL1 n (c + 1) 0 E r := by
  intro u v hu hv
  rw [h u v hu hv, if_pos hu, if_neg (by omega)]
theorem close_30 {n : Nat} (hn : n ≤ 12) (E : Nat → Nat → Prop) (rc : Nat → Int32) (h : CL1 n 0 0 E rc) (k : Int32 → (Nat → Int32) → Option (Nat → Int32)) : ∃ r', CL1 n n 0 E r' ∧ m_X5_closeChains_L30 (nI n) FU 0 rc k = k (nI n) r' := by
  obtain ⟨s, h1, h2⟩ := lpx (fun f i (s : Nat → Int32) => m_X5_closeChains_L30 (nI n) f i s k) (fun s => k (nI n) s) n (fun j s => CL1 n j 0 E s)
    (fun f j s hj h => by
      obtain ⟨r', q1, q2⟩ := close_40 hn hj E s h (fun _ y => m_X5_closeChains_L30 (nI n) f (nI j + 1) y k)
      refine ⟨r', ?_, CL1_next q1⟩
      simp (disch := omega) only [m_X5_closeChains_L30, n_le, Nat.not_le.mpr hj, if_false]
      rw [q2, nI_1])
    (fun f s _ => by simp (disch := omega) only [m_X5_closeChains_L30, n_le, Nat.le_refl, if_true]) 0 rc (by omega) (by omega) h
  exact ⟨s, h1, h2⟩
theorem weave_spec {n t : Nat} {upper lower : Nat → Int32} {up lo : Nat → Nat} (hT : TI n t upper lower up lo) (hn : n ≤ 12) (ht : t ≤ 40) (b wu : Int32) (un ab rc : Nat → Int32) : ∃ un' ab' rc', WB n t up lo b un' ab' rc' ∧ m_X5_weave wu un ab rc (nI n) (nI t) upper lower b = some (nI n, un', ab', rc') := by
  unfold m_X5_weave
  obtain ⟨un1, ab1, a1, a2⟩ := weave_10 un ab (fun x3_10 y_f_under_10 y_f_above_10 =>
  m_X5_weave_L38 (nI t) upper lower b FU (0 : Int32) y_f_under_10 y_f_above_10 fun x3_38 y_f_under_38 y_f_above_38 =>
  cl (m_X5_closeChains (nI n) y_f_under_38 rc) fun r_11 =>
  some (nI n, y_f_under_38, y_f_above_38, r_11))
  obtain ⟨un2, ab2, b1, b2⟩ := weave_38 hT hn ht b un1 ab1 a1 (fun x3_38 y_f_under_38 y_f_above_38 =>
  cl (m_X5_closeChains (nI n) y_f_under_38 rc) fun r_11 =>
  some (nI n, y_f_under_38, y_f_above_38, r_11))
  obtain ⟨r1, c1, c2⟩ := close_2 hn un2 rc (fun x1_2 y_f_reach_2 =>
  m_X5_closeChains_L30 (nI n) FU (0 : Int32) y_f_reach_2 fun x1_30 y_f_reach_30 =>
  some y_f_reach_30)
  have hcl : CL1 n 0 0 (Ed t up lo b) r1 := by
    intro u v hu hv
    rw [c1 u hu, if_neg (by omega)]
    exact (b1 u v (by omega) hv).1
  obtain ⟨r2, d1, d2⟩ := close_30 hn (Ed t up lo b) r1 hcl (fun x1_30 y_f_reach_30 => some y_f_reach_30)
  refine ⟨un2, ab2, r2, ⟨fun u v hu hv => (b1 u v hu hv).1, fun u v hu hv => (b1 u v hu hv).2, fun u v hu hv => ?_⟩, ?_⟩
  · have := d1 u v hu hv
    rwa [if_neg (by omega)] at this
  · rw [a2, b2]
    unfold m_X5_closeChains
    rw [c2, d2]
    rfl
