/-! ===== the shown cycle ===== -/
/-- numbers without a repetition -/
theorem pigeon : ∀ (n d : Nat) (f : Nat → Nat), (∀ k, k < d → f k < n) → (∀ i j, i < d → j < d → f i = f j → i = j) → d ≤ n := by
  intro n
  induction n with
  | zero =>
    intro d f h1 _
    rcases Nat.eq_zero_or_pos d with h | h
    · omega
    · have := h1 0 h; omega
  | succ n ih =>
    intro d f h1 h2
    by_cases hx : ∃ k, k < d ∧ f k = n
    · obtain ⟨k, hk, hkn⟩ := hx
      have hd : 0 < d := by omega
      -- the last place takes k's
      have := ih (d - 1) (fun i => if i = k then f (d - 1) else f i) (fun i hi => by
        by_cases hq : i = k
        · simp only [if_pos hq]
          have a := h1 (d - 1) (by omega)
          by_cases hq2 : f (d - 1) = n
          · have := h2 (d - 1) k (by omega) hk (by omega)
            omega
          · omega
        · simp only [if_neg hq]
          have a := h1 i (by omega)
          by_cases hq2 : f i = n
          · have := h2 i k (by omega) hk (by omega)
            omega
          · omega) (fun i j hi hj e => by
        by_cases hq : i = k
        · by_cases hq2 : j = k
          · omega
          · simp only [if_pos hq, if_neg hq2] at e
            have := h2 (d - 1) j (by omega) (by omega) e
            omega
        · by_cases hq2 : j = k
          · simp only [if_neg hq, if_pos hq2] at e
            have := h2 i (d - 1) (by omega) (by omega) e
            omega
          · simp only [if_neg hq, if_neg hq2] at e
            exact h2 i j (by omega) (by omega) e)
      omega
    · have := ih d f (fun k hk => by
        have a := h1 k hk
        have b : f k ≠ n := fun q => hx ⟨k, hk, q⟩
        omega) h2
      omega
/-- a walk of so many steps -/
def WK (E : Nat → Nat → Prop) : Nat → Nat → Nat → Prop
  | 0, u, v => u = v
  | k + 1, u, v => ∃ w, E u w ∧ WK E k w v
theorem WK_app {E : Nat → Nat → Prop} {v w : Nat} {b : Nat} : ∀ {a u : Nat}, WK E a u v → WK E b v w → WK E (a + b) u w
  | 0, u, h, k => by
    have h : u = v := h
    subst h
    rw [Nat.zero_add]; exact k
  | a + 1, u, h, k => by
    obtain ⟨x, e, q⟩ := h
    rw [Nat.add_right_comm]
    exact ⟨x, e, WK_app q k⟩
theorem PV_WK {E : Nat → Nat → Prop} : ∀ {c u v : Nat}, PV E c u v → ∃ k, 1 ≤ k ∧ WK E k u v
  | 0, u, v, h => ⟨1, Nat.le_refl 1, v, h, rfl⟩
  | c + 1, u, v, h => by
    rcases h with h | ⟨h1, h2⟩
    · exact PV_WK h
    · obtain ⟨a, ha, q1⟩ := PV_WK h1
      obtain ⟨b, hb, q2⟩ := PV_WK h2
      exact ⟨a + b, by omega, WK_app q1 q2⟩
/-- the least number of steps to f0 is s -/
def MD (E : Nat → Nat → Prop) (f0 s u : Nat) : Prop := WK E s u f0 ∧ ∀ k, k < s → ¬ WK E k u f0
def LN (E : Nat → Nat → Prop) (f0 ln : Nat) : Prop := 1 ≤ ln ∧ WK E ln f0 f0 ∧ ∀ s, 1 ≤ s → s < ln → ¬ WK E s f0 f0
theorem MD_next {E : Nat → Nat → Prop} {f0 s u : Nat} (h : MD E f0 (s + 1) u) : ∃ w, E u w ∧ MD E f0 s w := by
  obtain ⟨⟨w, e, q⟩, hm⟩ := h
  exact ⟨w, e, q, fun k hk q2 => hm (k + 1) (by omega) ⟨w, e, q2⟩⟩
theorem LN_next {E : Nat → Nat → Prop} {f0 s : Nat} (h : LN E f0 (s + 1)) : ∃ w, E f0 w ∧ MD E f0 s w := by
  obtain ⟨-, ⟨w, e, q⟩, hm⟩ := h
  exact ⟨w, e, q, fun k hk q2 => hm (k + 1) (by omega) (by omega) ⟨w, e, q2⟩⟩
theorem MD_down {E : Nat → Nat → Prop} {f0 n : Nat} (hE : ∀ u v, E u v → u < n ∧ v < n) : ∀ {s u : Nat}, u < n → MD E f0 s u → ∀ j, j ≤ s → ∃ x, x < n ∧ MD E f0 j x
  | 0, u, hu, h, j, hj => by
    have : j = 0 := by omega
    subst this
    exact ⟨u, hu, h⟩
  | s + 1, u, hu, h, j, hj => by
    by_cases hq : j = s + 1
    · subst hq; exact ⟨u, hu, h⟩
    · obtain ⟨w, e, hw⟩ := MD_next h
      exact MD_down hE (hE u w e).2 hw j (by omega)
theorem MD_one {E : Nat → Nat → Prop} {f0 s r u : Nat} (h : MD E f0 s u) (k : MD E f0 r u) : s = r := by
  rcases Nat.lt_trichotomy s r with q | q | q
  · exact absurd h.1 (k.2 s q)
  · exact q
  · exact absurd k.1 (h.2 r q)
theorem LN_some {E : Nat → Nat → Prop} {f0 n : Nat} (hE : ∀ u v, E u v → u < n ∧ v < n) (hf : f0 < n) (h : PV E n f0 f0) : ∃ ln, LN E f0 ln ∧ ln ≤ n := by
  obtain ⟨k, hk, q⟩ := PV_WK h
  obtain ⟨ln, ⟨h1, h2⟩, h3⟩ := pk_least (fun k => 1 ≤ k ∧ WK E k f0 f0) ⟨k, hk, q⟩
  have hl : LN E f0 ln := ⟨h1, h2, fun s a b c => h3 s b ⟨a, c⟩⟩
  refine ⟨ln, hl, ?_⟩
  obtain ⟨s, rfl⟩ : ∃ s, ln = s + 1 := ⟨ln - 1, by omega⟩
  obtain ⟨w, e, hw⟩ := LN_next hl
  have hx := MD_down hE (hE f0 w e).2 hw
  have hch : ∃ f : Nat → Nat, ∀ j, j ≤ s → f j < n ∧ MD E f0 j (f j) := by
    refine ⟨fun j => if h : j ≤ s then Classical.choose (hx j h) else 0, fun j hj => ?_⟩
    simp only [dif_pos hj]
    exact Classical.choose_spec (hx j hj)
  obtain ⟨f, hf2⟩ := hch
  exact pigeon n (s + 1) f (fun k hk => (hf2 k (by omega)).1) (fun i j hi hj e => by
    have a := (hf2 i (by omega)).2
    have b := (hf2 j (by omega)).2
    rw [e] at a
    exact MD_one a b)
/-- the path that is shown: the least next unit each time -/
def CP (E : Nat → Nat → Prop) (f0 ln j : Nat) (x : Nat → Nat) : Prop := x 0 = f0 ∧ ∀ i, 1 ≤ i → i < j → (E (x (i - 1)) (x i) ∧ MD E f0 (ln - i) (x i)) ∧ ∀ v, v < x i → ¬ (E (x (i - 1)) v ∧ MD E f0 (ln - i) v)
theorem CP_same {E : Nat → Nat → Prop} {f0 ln j : Nat} {x y : Nat → Nat} (h : CP E f0 ln j x) (k : CP E f0 ln j y) : ∀ i, i < j → x i = y i := by
  intro i
  induction i with
  | zero => intro _; rw [h.1, k.1]
  | succ i ih =>
    intro hi
    have e := ih (by omega)
    obtain ⟨a1, a2⟩ := h.2 (i + 1) (by omega) hi
    obtain ⟨b1, b2⟩ := k.2 (i + 1) (by omega) hi
    simp only [Nat.add_sub_cancel] at a1 a2 b1 b2
    rw [e] at a1 a2
    rcases Nat.lt_trichotomy (x (i + 1)) (y (i + 1)) with q | q | q
    · exact absurd a1 (b2 _ q)
    · exact q
    · exact absurd b1 (a2 _ q)
theorem CP_at {E : Nat → Nat → Prop} {f0 ln j : Nat} {x : Nat → Nat} (hl : LN E f0 ln) (h : CP E f0 ln j x) (hj : j < ln) (hj1 : 1 ≤ j) : ∃ w, E (x (j - 1)) w ∧ MD E f0 (ln - j) w := by
  by_cases hq : j = 1
  · subst hq
    have e : x (1 - 1) = f0 := h.1
    rw [e]
    obtain ⟨s, rfl⟩ : ∃ s, ln = s + 1 := ⟨ln - 1, by omega⟩
    exact LN_next hl
  · have := (h.2 (j - 1) (by omega) (by omega)).1.2
    have e : ln - (j - 1) = (ln - j) + 1 := by omega
    rw [e] at this
    exact MD_next this
theorem CP_ext {E : Nat → Nat → Prop} {f0 ln j : Nat} {x : Nat → Nat} (h : CP E f0 ln j x) (hj1 : 1 ≤ j) {v : Nat} (h1 : E (x (j - 1)) v ∧ MD E f0 (ln - j) v) (h2 : ∀ w, w < v → ¬ (E (x (j - 1)) w ∧ MD E f0 (ln - j) w)) : CP E f0 ln (j + 1) (fun i => if i = j then v else x i) := by
  refine ⟨by simp only [if_neg (show ¬ 0 = j by omega)]; exact h.1, fun i hi1 hi2 => ?_⟩
  by_cases hq : i = j
  · subst hq
    simp only [if_true, if_neg (show ¬ i - 1 = i by omega)]
    exact ⟨h1, h2⟩
  · simp only [if_neg hq, if_neg (show ¬ i - 1 = j by omega)]
    exact h.2 i hi1 (by omega)
/-! the class: by layers -/
theorem above7 {n : Nat} (hn : n ≤ 12) (un : Nat → Int32) (x : Int32) : m_X5_rightAbove (nI n) un x = some (bs (fun u => !decide (un u &&& x = 0)) n) := by
  unfold m_X5_rightAbove
  exact bsl (fun f i a => m_X5_rightAbove_L4 (nI n) un x f a i (fun x2_4 x3_4 => some x2_4)) (fun a => some a) n (fun u => !decide (un u &&& x = 0)) (by omega)
    (fun f j a hj => by
      by_cases h : un j &&& x = 0
      · simp (disch := omega) only [m_X5_rightAbove_L4, n_le, Nat.not_le.mpr hj, if_false, nI_1, lt_e, ag_n, if_pos h, h, decide_true, Bool.not_true, Bool.false_eq_true, if_true]
      · simp (disch := omega) only [m_X5_rightAbove_L4, n_le, Nat.not_le.mpr hj, if_false, nI_1, lt_e, ag_n, if_neg h, h, decide_false, Bool.not_false, if_true])
    (fun f a => by simp (disch := omega) only [m_X5_rightAbove_L4, n_le, Nat.le_refl, if_true])
theorem and_ne {x y : Int32} : ¬ x &&& y = 0 ↔ ∃ v, v < 32 ∧ bt x v = true ∧ bt y v = true := by
  constructor
  · intro h
    refine Classical.byContradiction (fun q => h (b_ext (fun i hi => ?_)))
    rw [b_0, b_and]
    refine tt_of (fun hb => q ⟨i, hi, ?_⟩)
    rw [Bool.and_eq_true] at hb
    exact hb
  · rintro ⟨v, hv, h1, h2⟩ h
    have : bt (x &&& y) v = true := by rw [b_and, h1, h2]; rfl
    rw [h, b_0] at this
    cases this
theorem steps7 {n t : Nat} {up lo : Nat → Nat} {b : Int32} {un ab rc : Nat → Int32} (hn : n ≤ 12) (hE : ∀ u v, Ed t up lo b u v → u < n ∧ v < n) (hW : WB n t up lo b un ab rc) {f0 : Nat} (hf : f0 < n) (hr : PV (Ed t up lo b) n f0 f0) (sb : Nat → Int32) : ∃ sb' ln, LN (Ed t up lo b) f0 ln ∧ ln ≤ n ∧ (∀ s, s < ln → ∀ u, u < 32 → (bt (sb' s) u = true ↔ u < n ∧ MD (Ed t up lo b) f0 s u)) ∧ m_X5_stepsRound (nI n) un sb (nI f0) = some (sb', nI ln) := by
  obtain ⟨ln, hl, hln⟩ := LN_some hE hf hr
  unfold m_X5_stepsRound
  rw [lt_e, au_l (j := 0) (by omega) (by omega)]
  rcases lpe (fun f i (s : Int32 × (Nat → Int32)) => m_X5_stepsRound_L13 (nI n) un (nI f0) f s.1 i s.2 (fun x2_13 x3_13 y_f_stepsBack_13 => some (y_f_stepsBack_13, (0 : Int32)))) (fun s => some (s.2, 0)) (n + 1)
    (fun j s => 1 ≤ j ∧ (∀ u, u < 32 → (bt s.1 u = true ↔ u < n ∧ ∃ k, k < j ∧ WK (Ed t up lo b) k u f0)) ∧ (∀ r, r < j → ∀ u, u < 32 → (bt (s.2 r) u = true ↔ u < n ∧ MD (Ed t up lo b) f0 r u)) ∧ ∀ r, 1 ≤ r → r < j → ¬ WK (Ed t up lo b) r f0 f0)
    (fun r => ∃ ln, LN (Ed t up lo b) f0 ln ∧ ln ≤ n ∧ (∀ s, s < ln → ∀ u, u < 32 → (bt (r.1 s) u = true ↔ u < n ∧ MD (Ed t up lo b) f0 s u)) ∧ r.2 = nI ln)
    (fun f j s hj h => by
      obtain ⟨hj1, hk, hs, hno⟩ := h
      have hstep : un f0 &&& s.2 (j - 1) = 0 ↔ ¬ WK (Ed t up lo b) j f0 f0 := by
        constructor
        · intro h0 hw
          obtain ⟨i, rfl⟩ : ∃ i, j = i + 1 := ⟨j - 1, by omega⟩
          obtain ⟨w, e, hw2⟩ := LN_next (f0 := f0) (s := i) ⟨by omega, hw, hno⟩
          have hwn := (hE f0 w e).2
          refine and_ne.mpr ⟨w, by omega, (hW.1 f0 w (by omega) (by omega)).mpr e, ?_⟩ h0
          exact (hs i (by omega) w (by omega)).mpr ⟨hwn, hw2⟩
        · intro hw
          refine Classical.byContradiction (fun q => ?_)
          obtain ⟨v, hv, q1, q2⟩ := and_ne.mp q
          have e := (hW.1 f0 v (by omega) hv).mp q1
          have hm := ((hs (j - 1) (by omega) v hv).mp q2).2
          refine hw ?_
          obtain ⟨i, rfl⟩ : ∃ i, j = i + 1 := ⟨j - 1, by omega⟩
          exact ⟨v, e, hm.1⟩
      have e1 := n_sub1 (n := j) (by omega)
      have hnle : ¬ n < j := by omega
      by_cases h0 : un f0 &&& s.2 (j - 1) = 0
      · have hnew : ∀ u, u < 32 → (bt (bs (fun u => !decide (un u &&& s.2 (j - 1) = 0)) n &&& (s.1 ^^^ (-1))) u = true ↔ u < n ∧ MD (Ed t up lo b) f0 j u) := by
          intro u hu
          rw [b_and, b_not _ hu, bt_bs _ hu n (by omega), Bool.and_eq_true, Bool.and_eq_true, decide_eq_true_eq, Bool.not_eq_true', Bool.not_eq_true', decide_eq_false_iff_not]
          constructor
          · rintro ⟨⟨q1, q2⟩, q3⟩
            refine ⟨q1, ?_, fun k hk2 hw => ?_⟩
            · obtain ⟨v, hv, p1, p2⟩ := and_ne.mp q2
              have e := (hW.1 u v (by omega) hv).mp p1
              have hm := ((hs (j - 1) (by omega) v hv).mp p2).2
              obtain ⟨i, rfl⟩ : ∃ i, j = i + 1 := ⟨j - 1, by omega⟩
              exact ⟨v, e, hm.1⟩
            · have := (hk u hu).mpr ⟨q1, k, hk2, hw⟩
              rw [q3] at this; cases this
          · rintro ⟨q1, q2⟩
            refine ⟨⟨q1, ?_⟩, tt_of (fun q3 => ?_)⟩
            · obtain ⟨i, rfl⟩ : ∃ i, j = i + 1 := ⟨j - 1, by omega⟩
              obtain ⟨w, e, hw2⟩ := MD_next q2
              have hwn := (hE u w e).2
              exact and_ne.mpr ⟨w, by omega, (hW.1 u w (by omega) (by omega)).mpr e, (hs i (by omega) w (by omega)).mpr ⟨hwn, hw2⟩⟩
            · obtain ⟨-, k, hk2, hw⟩ := (hk u hu).mp q3
              exact q2.2 k hk2 hw
        left
        refine ⟨(s.1 ||| (bs (fun u => !decide (un u &&& s.2 (j - 1) = 0)) n &&& (s.1 ^^^ (-1))), upd s.2 j (bs (fun u => !decide (un u &&& s.2 (j - 1) = 0)) n &&& (s.1 ^^^ (-1)))), ?_, by omega, fun u hu => ?_, fun r hr u hu => ?_, fun r hr1 hr2 => ?_⟩
        · simp (disch := omega) only [m_X5_stepsRound_L13, n_lt, if_neg hnle, e1, ag_n, if_pos h0, above7 hn, cl_s, au_n, upd_s, nI_1]
        · show bt (s.1 ||| _) u = true ↔ _
          rw [b_or, Bool.or_eq_true, hnew u hu, hk u hu]
          constructor
          · rintro (⟨q1, k, q2, q3⟩ | ⟨q1, q2⟩)
            · exact ⟨q1, k, by omega, q3⟩
            · exact ⟨q1, j, by omega, q2.1⟩
          · rintro ⟨q1, k, q2, q3⟩
            by_cases hq : ∃ k, k < j ∧ WK (Ed t up lo b) k u f0
            · exact Or.inl ⟨q1, hq⟩
            · refine Or.inr ⟨q1, ?_, fun i hi hw => hq ⟨i, hi, hw⟩⟩
              by_cases hkj : k = j
              · subst hkj; exact q3
              · exact absurd ⟨k, by omega, q3⟩ hq
        · by_cases hq : r = j
          · subst hq
            show bt (upd s.2 r _ r) u = true ↔ _
            rw [upd_s]; exact hnew u hu
          · show bt (upd s.2 j _ r) u = true ↔ _
            rw [upd_n hq]; exact hs r (by omega) u hu
        · by_cases hq : r = j
          · subst hq; exact hstep.mp h0
          · exact hno r hr1 (by omega)
      · right
        refine ⟨(s.2, nI j), by simp (disch := omega) only [m_X5_stepsRound_L13, n_lt, if_neg hnle, e1, ag_n, if_neg h0], j, ⟨hj1, Classical.byContradiction (fun q => h0 (hstep.mpr q)), hno⟩, by omega, hs, rfl⟩)
    (fun f s h => by simp (disch := omega) only [m_X5_stepsRound_L13, n_lt, Nat.lt_succ_self, if_true]) 1 ((1 : Int32) <<< (nI f0 &&& 31), upd sb 0 ((1 : Int32) <<< (nI f0 &&& 31))) (by omega) (by omega)
    ⟨Nat.le_refl 1, fun u hu => by
      show bt ((1 : Int32) <<< (nI f0 &&& 31)) u = true ↔ _
      rw [b_sh (by omega) hu, decide_eq_true_eq]
      constructor
      · rintro rfl; exact ⟨hf, 0, by omega, rfl⟩
      · rintro ⟨-, k, hk, hw⟩
        have : k = 0 := by omega
        subst this; exact hw, fun r hr u hu => by
      have : r = 0 := by omega
      subst this
      show bt (upd sb 0 ((1 : Int32) <<< (nI f0 &&& 31)) 0) u = true ↔ _
      rw [upd_s, b_sh (by omega) hu, decide_eq_true_eq]
      constructor
      · rintro rfl; exact ⟨hf, rfl, fun k hk => by omega⟩
      · rintro ⟨-, hm⟩
        exact hm.1, fun r h1 h2 => by omega⟩ with ⟨s, h1, h2⟩ | ⟨r, h1, ln', h2, h3, h4, h5⟩
  · exact absurd hl.2.1 (h1.2.2.2 ln hl.1 (by omega))
  · refine ⟨r.1, ln', h2, h3, h4, ?_⟩
    rw [← h5]
    exact h1
theorem show7 {n t : Nat} {up lo : Nat → Nat} {b : Int32} {un ab rc : Nat → Int32} (hn : n ≤ 12) (hE : ∀ u v, Ed t up lo b u v → u < n ∧ v < n) (hW : WB n t up lo b un ab rc) (hc : cy n rc = true) (sh sb : Nat → Int32) : ∃ sh' sb' f0 ln x, (∀ u, u < f0 → ¬ bt (rc u) u = true) ∧ f0 < n ∧ bt (rc f0) f0 = true ∧ LN (Ed t up lo b) f0 ln ∧ ln ≤ n ∧ CP (Ed t up lo b) f0 ln ln x ∧ (∀ i, i < ln → sh' i = nI (x i)) ∧ m_X5_showCycle (nI n) un rc sh sb = some (sh', sb', nI ln) := by
  obtain ⟨u0, hu0, hb0⟩ := (cy_iff hn).mp hc
  have hff : ff (bt (bs (fun u => bt (rc u) u) n)) 12 < n := by
    refine Nat.lt_of_not_le (fun q => ?_)
    have := ff_no (bt (bs (fun u => bt (rc u) u) n)) 12 u0 (by omega)
    rw [bt_bs _ (by omega) n (by omega)] at this
    simp [hu0, hb0] at this
  have hy := ff_yes (bt (bs (fun u => bt (rc u) u) n)) 12 (by omega)
  have hno := ff_no (bt (bs (fun u => bt (rc u) u) n)) 12
  have hls := least7 (bs (fun u => bt (rc u) u) n)
  rw [if_pos (by omega)] at hls
  generalize ff (bt (bs (fun u => bt (rc u) u) n)) 12 = f0 at hff hy hno hls
  rw [bt_bs _ (by omega) n (by omega), Bool.and_eq_true] at hy
  have hr := (hW.2.2 f0 f0 hff (by omega)).mp hy.2
  obtain ⟨sb', ln, hl, hln, hsb, hst⟩ := steps7 hn hE hW hff hr sb
  unfold m_X5_showCycle
  rw [cyc7 hn, cl_s, if_c, if_pos hc, self7 hn, cl_s, hls, cl_s, hst, cl_s, au_l (j := 0) (by omega) (by omega)]
  obtain ⟨s, ⟨h3, x, h4, h5, h6⟩, h2⟩ := lpx (fun f i (s : Int32 × (Nat → Int32)) => m_X5_showCycle_L32 un (sb', nI ln) f s.1 i s.2 (fun x1_32 x3_32 y_f_shown_32 => some (y_f_shown_32, sb', nI ln))) (fun s => some (s.2, sb', nI ln)) ln
    (fun j s => 1 ≤ j ∧ ∃ x, CP (Ed t up lo b) f0 ln j x ∧ s.1 = nI (x (j - 1)) ∧ ∀ i, i < j → s.2 i = nI (x i) ∧ x i < n)
    (fun f j s hj h => by
      obtain ⟨hj1, x, hx, h1, h2⟩ := h
      have hxn := (h2 (j - 1) (by omega)).2
      obtain ⟨w, hw1, hw2⟩ := CP_at hl hx hj hj1
      have hwn := (hE _ w hw1).2
      have hbit : ∀ v, v < 32 → (bt (un (x (j - 1)) &&& sb' (ln - j)) v = true ↔ Ed t up lo b (x (j - 1)) v ∧ MD (Ed t up lo b) f0 (ln - j) v) := by
        intro v hv
        rw [b_and, Bool.and_eq_true, hW.1 _ v (by omega) hv, hsb (ln - j) (by omega) v hv]
        constructor
        · rintro ⟨q1, q2, q3⟩; exact ⟨q1, q3⟩
        · rintro ⟨q1, q2⟩; exact ⟨q1, (hE _ v q1).2, q2⟩
      have hf : ff (bt (un (x (j - 1)) &&& sb' (ln - j))) 12 < n := by
        refine Nat.lt_of_not_le (fun q => ?_)
        have := ff_no (bt (un (x (j - 1)) &&& sb' (ln - j))) 12 w (by omega)
        rw [(hbit w (by omega)).mpr ⟨hw1, hw2⟩] at this
        cases this
      have hls := least7 (un (x (j - 1)) &&& sb' (ln - j))
      rw [if_pos (by omega)] at hls
      have hy := ff_yes (bt (un (x (j - 1)) &&& sb' (ln - j))) 12 (by omega)
      have hno := ff_no (bt (un (x (j - 1)) &&& sb' (ln - j))) 12
      generalize ff (bt (un (x (j - 1)) &&& sb' (ln - j))) 12 = v at hf hls hy hno
      have e1 : nI ln - nI j = nI (ln - j) := pk_sub (by omega)
      refine ⟨(nI v, upd s.2 j (nI v)), by simp (disch := omega) only [m_X5_showCycle_L32, n_le, Nat.not_le.mpr hj, if_false, h1, ag_n, e1, hls, cl_s, au_n, nI_1], by omega, fun i => if i = j then v else x i, CP_ext hx hj1 ((hbit v (by omega)).mp hy) (fun w hw q => ?_), ?_, fun i hi => ?_⟩
      · have := hno w hw
        rw [(hbit w (by omega)).mpr q] at this
        cases this
      · simp only [Nat.add_sub_cancel, if_true]
      · by_cases hq : i = j
        · subst hq
          simp only [if_true]
          exact ⟨upd_s, hf⟩
        · simp only [if_neg hq]
          exact ⟨(upd_n hq).trans (h2 i (by omega)).1, (h2 i (by omega)).2⟩)
    (fun f s _ => by simp (disch := omega) only [m_X5_showCycle_L32, n_le, Nat.le_refl, if_true]) 1 (nI f0, upd sh 0 (nI f0)) hl.1 (by omega)
    ⟨Nat.le_refl 1, fun _ => f0, ⟨rfl, fun i h1 h2 => by omega⟩, rfl, fun i hi => by
      have : i = 0 := by omega
      subst this
      exact ⟨show upd sh 0 (nI f0) 0 = nI f0 from upd_s, hff⟩⟩
  refine ⟨s.2, sb', f0, ln, x, fun u hu q => ?_, hff, hy.2, hl, hln, h4, fun i hi => (h6 i hi).1, h2⟩
  have := hno u hu
  rw [bt_bs _ (by omega) n (by omega)] at this
  rw [q] at this
  simp at this
  omega
