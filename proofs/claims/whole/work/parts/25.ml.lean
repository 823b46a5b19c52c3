/-! ===== levels ===== -/
theorem lpk {S B : Type} (L : Nat → Int32 → S → Option B) (R : S → Option B) (n : Nat) (P : Nat → S → Prop) (Q : S → Prop) (hs : ∀ f j s, j < n → P j s → (∃ s2, L (f + 1) (nI j) s = L f (nI (j + 1)) s2 ∧ P (j + 1) s2) ∨ (L (f + 1) (nI j) s = R s ∧ Q s)) (he : ∀ f s, P n s → L (f + 1) (nI n) s = R s ∧ Q s) (i : Nat) (s : S) (hi : i ≤ n) (hn : n < 4999) (h : P i s) : ∃ s', Q s' ∧ L FU (nI i) s = R s' := by
  have key : ∀ m f i s, i + m = n → m < f → P i s → ∃ s', Q s' ∧ L f (nI i) s = R s' := by
    intro m
    induction m with
    | zero =>
      intro f i s h1 h2 h3
      obtain ⟨f, rfl⟩ : ∃ g, f = g + 1 := ⟨f - 1, by omega⟩
      have h4 : i = n := by omega
      subst h4
      exact ⟨s, (he f s h3).2, (he f s h3).1⟩
    | succ m ih =>
      intro f i s h1 h2 h3
      obtain ⟨f, rfl⟩ : ∃ g, f = g + 1 := ⟨f - 1, by omega⟩
      rcases hs f i s (by omega) h3 with ⟨s2, h4, h5⟩ | ⟨h4, h5⟩
      · obtain ⟨s', h6, h7⟩ := ih f (i + 1) s2 (by omega) (by omega) h5
        exact ⟨s', h6, h4.trans h7⟩
      · exact ⟨s, h5, h4⟩
  exact key (n - i) FU i s (by omega) (by unfold FU; omega) h
theorem cn_mono {p q : Nat → Bool} : ∀ {n : Nat}, (∀ w, w < n → p w = true → q w = true) → cn p n ≤ cn q n
  | 0, _ => Nat.le_refl 0
  | n + 1, h => by
    have ih := cn_mono (p := p) (q := q) (n := n) (fun w hw => h w (by omega))
    unfold cn
    by_cases hp : p n = true
    · rw [if_pos hp, if_pos (h n (by omega) hp)]; omega
    · rw [if_neg hp]; omega
theorem cn_lt {p q : Nat → Bool} : ∀ {n : Nat}, (∀ w, w < n → p w = true → q w = true) → ∀ w0, w0 < n → q w0 = true → ¬ p w0 = true → cn p n < cn q n
  | 0, _, w0, h0, _, _ => absurd h0 (Nat.not_lt_zero _)
  | n + 1, h, w0, h0, h1, h2 => by
    unfold cn
    by_cases hw : w0 = n
    · subst hw
      have ih := cn_mono (p := p) (q := q) (n := w0) (fun w hw => h w (by omega))
      rw [if_neg h2, if_pos h1]; omega
    · have ih := cn_lt (p := p) (q := q) (n := n) (fun w hw => h w (by omega)) w0 (by omega) h1 h2
      by_cases hp : p n = true
      · rw [if_pos hp, if_pos (h n (by omega) hp)]; omega
      · rw [if_neg hp]; omega
theorem cn_pos {p : Nat → Bool} : ∀ {n : Nat}, ∀ w0, w0 < n → p w0 = true → 0 < cn p n
  | 0, w0, h0, _ => absurd h0 (Nat.not_lt_zero _)
  | n + 1, w0, h0, h1 => by
    unfold cn
    by_cases hw : w0 = n
    · subst hw
      rw [if_pos h1]; omega
    · have ih := cn_pos (p := p) (n := n) w0 (by omega) h1
      omega
theorem tt_of {b : Bool} (h : ¬ b = true) : b = false := by cases b with
  | false => rfl
  | true => exact absurd rfl h
/-- where nothing reaches itself an edge leads to a unit that reaches fewer -/
theorem rk_lt {n t : Nat} {up lo : Nat → Nat} {b : Int32} {un ab rc : Nat → Int32} (hn : n ≤ 12) (hE : ∀ u v, Ed t up lo b u v → u < n ∧ v < n) (hW : WB n t up lo b un ab rc) (hc : cy n rc = false) {u v : Nat} (h : Ed t up lo b u v) : cn (bt (rc v)) n < cn (bt (rc u)) n := by
  have hu := (hE u v h).1
  have hv := (hE u v h).2
  have hvv : ¬ bt (rc v) v = true := fun q => by
    have := (cy_iff hn).mpr ⟨v, hv, q⟩
    rw [hc] at this; cases this
  refine cn_lt (fun w hw q => ?_) v hv ?_ hvv
  · refine (hW.2.2 u w hu (by omega)).mpr ?_
    exact PV_tr _ n u v w hv (PV_le (Nat.zero_le n) h) ((hW.2.2 v w hv (by omega)).mp q)
  · exact (hW.2.2 u v hu (by omega)).mpr (PV_le (Nat.zero_le n) h)
/-- levels: what they are -/
def LV (n : Nat) (E : Nat → Nat → Prop) (lv : Nat → Nat) (m : Nat) : Prop := (∀ u, u < n → lv u < m) ∧ (∀ u v, u < n → E u v → lv v < lv u) ∧ (∀ u, u < n → lv u = 0 ∨ ∃ v, E u v ∧ lv u = lv v + 1) ∧ (m = 0 ∨ ∃ u, u < n ∧ lv u + 1 = m) ∧ m ≤ n
theorem LV_le {n : Nat} {E : Nat → Nat → Prop} (hE : ∀ u v, E u v → u < n ∧ v < n) {lv lw : Nat → Nat} {m k : Nat} (h : LV n E lv m) (h' : LV n E lw k) : ∀ x u, u < n → lv u = x → lw u = x := by
  intro x
  induction x using Nat.strongRecOn with
  | _ x ih =>
    intro u hu hx
    have a : lw u ≤ x := by
      rcases h'.2.2.1 u hu with q | ⟨v, e, q⟩
      · omega
      · have h1 := h.2.1 u v hu e
        have h2 := ih (lv v) (by omega) v (hE u v e).2 rfl
        omega
    have b : x ≤ lw u := by
      rcases h.2.2.1 u hu with q | ⟨v, e, q⟩
      · omega
      · have h1 := h'.2.1 u v hu e
        have h2 := ih (lv v) (by omega) v (hE u v e).2 rfl
        omega
    omega
theorem LV_m {n : Nat} {E : Nat → Nat → Prop} (hE : ∀ u v, E u v → u < n ∧ v < n) {lv lw : Nat → Nat} {m k : Nat} (h : LV n E lv m) (h' : LV n E lw k) : m ≤ k := by
  rcases h.2.2.2.1 with q | ⟨u, hu, q⟩
  · omega
  · have := LV_le hE h h' (lv u) u hu rfl
    have := h'.1 u hu
    omega
/-! the class: levels are taken away from the bottom up -/
def bot (n : Nat) (un : Nat → Int32) (left : Int32) : Int32 := bs (fun u => bt left u && decide (un u &&& left = 0)) n
theorem rank_31 {n : Nat} (hn : n ≤ 12) (un : Nat → Int32) (left lv : Int32) (row : Nat → Int32) (k : Int32 → Int32 → (Nat → Int32) → Option ((Nat → Int32) × Int32)) : ∃ row', (∀ u, u < n → row' u = if bt (bot n un left) u = true then lv else row u) ∧ m_X5_rankLevels_L31 (nI n) un left lv FU 0 0 row k = k (bot n un left) (nI n) row' := by
  obtain ⟨s, h1, h2⟩ := lpx (fun f i (s : Int32 × (Nat → Int32)) => m_X5_rankLevels_L31 (nI n) un left lv f s.1 i s.2 k) (fun s => k s.1 (nI n) s.2) n (fun j s => s.1 = bs (fun u => bt left u && decide (un u &&& left = 0)) j ∧ ∀ u, u < n → s.2 u = if u < j ∧ (bt left u && decide (un u &&& left = 0)) = true then lv else row u)
    (fun f j s hj h => by
      by_cases h1 : bt left j = true
      · by_cases h2 : un j &&& left = 0
        · refine ⟨(s.1 ||| ((1 : Int32) <<< (nI j &&& 31)), upd s.2 j lv), by simp (disch := omega) only [m_X5_rankLevels_L31, n_le, Nat.not_le.mpr hj, if_false, hb7, cl_s, if_c, if_10, if_00, if_true, Bool.false_eq_true, if_pos h1, ag_n, if_pos h2, lt_e, au_n, nI_1], ?_, fun u hu => ?_⟩
          · show _ = if (bt left j && decide (un j &&& left = 0)) = true then _ else _
            rw [if_pos (by simp [h1, h2]), h.1]
          · show upd s.2 j lv u = _
            by_cases hq : u = j
            · subst hq
              rw [upd_s, if_pos ⟨by omega, by simp [h1, h2]⟩]
            · rw [upd_n hq, h.2 u hu]
              have e : (u < j + 1) = (u < j) := propext ⟨fun _ => by omega, fun _ => by omega⟩
              simp only [e]
        · refine ⟨s, by simp (disch := omega) only [m_X5_rankLevels_L31, n_le, Nat.not_le.mpr hj, if_false, hb7, cl_s, if_c, if_10, if_00, if_true, Bool.false_eq_true, if_pos h1, ag_n, if_neg h2, nI_1], ?_, fun u hu => ?_⟩
          · show _ = if (bt left j && decide (un j &&& left = 0)) = true then _ else _
            rw [if_neg (by simp [h2]), h.1]
          · rw [h.2 u hu]
            by_cases hq : u = j
            · subst hq
              rw [if_neg (by simp), if_neg (by simp [h2])]
            · have e : (u < j + 1) = (u < j) := propext ⟨fun _ => by omega, fun _ => by omega⟩
              simp only [e]
      · refine ⟨s, by simp (disch := omega) only [m_X5_rankLevels_L31, n_le, Nat.not_le.mpr hj, if_false, hb7, cl_s, if_c, if_10, if_00, if_true, Bool.false_eq_true, if_neg h1, nI_1], ?_, fun u hu => ?_⟩
        · show _ = if (bt left j && decide (un j &&& left = 0)) = true then _ else _
          rw [if_neg (by simp [h1]), h.1]
        · rw [h.2 u hu]
          by_cases hq : u = j
          · subst hq
            rw [if_neg (by simp), if_neg (by simp [h1])]
          · have e : (u < j + 1) = (u < j) := propext ⟨fun _ => by omega, fun _ => by omega⟩
            simp only [e])
    (fun f s _ => by simp (disch := omega) only [m_X5_rankLevels_L31, n_le, Nat.le_refl, if_true]) 0 (0, row) (by omega) (by omega) ⟨rfl, fun u _ => by rw [if_neg (by omega)]⟩
  refine ⟨s.2, fun u hu => ?_, ?_⟩
  · rw [h1.2 u hu]
    unfold bot
    rw [bt_bs _ (by omega) n (by omega)]
    by_cases hq : (bt left u && decide (un u &&& left = 0)) = true
    · rw [if_pos ⟨hu, hq⟩, if_pos (by simp [hu]; simpa using hq)]
    · rw [if_neg (fun q => hq q.2), if_neg (fun q => hq (by simpa [hu] using q))]
  · have := h1.1
    unfold bot
    rw [← this]
    exact h2
/-- what holds behind r rounds -/
def PL (n : Nat) (E : Nat → Nat → Prop) (r : Nat) (left : Int32) (lv : Nat → Nat) : Prop :=
  (∀ u, u < 32 → bt left u = true → u < n) ∧ (∀ u, u < n → ¬ bt left u = true → lv u < r) ∧ (∀ u v, u < n → ¬ bt left u = true → E u v → ¬ bt left v = true ∧ lv v < lv u) ∧ (∀ u, u < n → ¬ bt left u = true → lv u = 0 ∨ ∃ v, E u v ∧ lv u = lv v + 1) ∧ (∀ u, u < n → bt left u = true → 0 < r → ∃ v, E u v ∧ (bt left v = true ∨ lv v + 1 = r)) ∧ (0 < r → ∃ u, u < n ∧ ¬ bt left u = true ∧ lv u + 1 = r) ∧ cn (bt left) n + r ≤ n
theorem bot_some {n t : Nat} {up lo : Nat → Nat} {b : Int32} {un ab rc : Nat → Int32} (hn : n ≤ 12) (hE : ∀ u v, Ed t up lo b u v → u < n ∧ v < n) (hW : WB n t up lo b un ab rc) (hc : cy n rc = false) {left : Int32} (hl : ∀ u, u < 32 → bt left u = true → u < n) : ∀ x u, u < n → bt left u = true → cn (bt (rc u)) n = x → ∃ w, w < n ∧ bt left w = true ∧ un w &&& left = 0 := by
  intro x
  induction x using Nat.strongRecOn with
  | _ x ih =>
    intro u hu h1 hx
    by_cases h2 : un u &&& left = 0
    · exact ⟨u, hu, h1, h2⟩
    · obtain ⟨v, hv, hb⟩ : ∃ v, v < 32 ∧ bt (un u &&& left) v = true := by
        refine Classical.byContradiction (fun q => h2 (b_ext (fun i hi => ?_)))
        rw [b_0]
        exact tt_of (fun h => q ⟨i, hi, h⟩)
      rw [b_and, Bool.and_eq_true] at hb
      have e := (hW.1 u v (by omega) hv).mp hb.1
      have hr := rk_lt hn hE hW hc e
      exact ih _ (by omega) v (hE u v e).2 hb.2 rfl
theorem bot_bt {n : Nat} {un : Nat → Int32} {left : Int32} (hn : n ≤ 12) {u : Nat} (hu : u < 32) : bt (bot n un left) u = true ↔ u < n ∧ bt left u = true ∧ un u &&& left = 0 := by
  unfold bot
  rw [bt_bs _ hu n (by omega)]
  simp
theorem PL_step {n t : Nat} {up lo : Nat → Nat} {b : Int32} {un ab rc : Nat → Int32} (hn : n ≤ 12) (hE : ∀ u v, Ed t up lo b u v → u < n ∧ v < n) (hW : WB n t up lo b un ab rc) (hc : cy n rc = false) {r : Nat} {left : Int32} {lv : Nat → Nat} (h : PL n (Ed t up lo b) r left lv) (h0 : ¬ left = 0) : PL n (Ed t up lo b) (r + 1) (left &&& (bot n un left ^^^ (-1))) (fun u => if bt (bot n un left) u = true then r else lv u) := by
  obtain ⟨h1, h2, h3, h4, h5, h6, h7⟩ := h
  have hnew : ∀ u, u < 32 → (bt (left &&& (bot n un left ^^^ (-1))) u = true ↔ bt left u = true ∧ ¬ bt (bot n un left) u = true) := by
    intro u hu
    rw [b_and, b_not _ hu]
    simp
  have hbl : ∀ u, u < 32 → bt (bot n un left) u = true → bt left u = true := fun u hu q => ((bot_bt hn hu).mp q).2.1
  have hbe : ∀ u v, u < n → bt (bot n un left) u = true → Ed t up lo b u v → ¬ bt left v = true := by
    intro u v hu q e q2
    have a := ((bot_bt hn (show u < 32 by omega)).mp q).2.2
    have hv : v < 32 := by have := (hE u v e).2; omega
    have c1 : bt (un u &&& left) v = true := by rw [b_and, (hW.1 u v (by omega) hv).mpr e, q2]; rfl
    rw [a, b_0] at c1
    cases c1
  obtain ⟨w, hw, hw1, hw2⟩ : ∃ w, w < n ∧ bt left w = true ∧ un w &&& left = 0 := by
    obtain ⟨v, hv, hb⟩ : ∃ v, v < 32 ∧ bt left v = true := by
      refine Classical.byContradiction (fun q => h0 (b_ext (fun i hi => ?_)))
      rw [b_0]
      exact tt_of (fun h => q ⟨i, hi, h⟩)
    exact bot_some hn hE hW hc h1 _ v (h1 v hv hb) hb rfl
  have hwb : bt (bot n un left) w = true := (bot_bt hn (by omega)).mpr ⟨hw, hw1, hw2⟩
  refine ⟨fun u hu q => h1 u hu ((hnew u hu).mp q).1, fun u hu q => ?_, fun u v hu q e => ?_, fun u hu q => ?_, fun u hu q _ => ?_, fun _ => ⟨w, hw, fun q => ((hnew w (by omega)).mp q).2 hwb, ?_⟩, ?_⟩
  · by_cases hb : bt (bot n un left) u = true
    · simp only [if_pos hb]; omega
    · simp only [if_neg hb]
      have : ¬ bt left u = true := fun q2 => q ((hnew u (by omega)).mpr ⟨q2, hb⟩)
      have := h2 u hu this
      omega
  · have hv := (hE u v e).2
    by_cases hb : bt (bot n un left) u = true
    · have hvl := hbe u v hu hb e
      have hvb : ¬ bt (bot n un left) v = true := fun q2 => hvl (hbl v (by omega) q2)
      refine ⟨fun q2 => hvl ((hnew v (by omega)).mp q2).1, ?_⟩
      simp only [if_pos hb, if_neg hvb]
      exact h2 v hv hvl
    · have hul : ¬ bt left u = true := fun q2 => q ((hnew u (by omega)).mpr ⟨q2, hb⟩)
      obtain ⟨a1, a2⟩ := h3 u v hu hul e
      have hvb : ¬ bt (bot n un left) v = true := fun q2 => a1 (hbl v (by omega) q2)
      refine ⟨fun q2 => a1 ((hnew v (by omega)).mp q2).1, ?_⟩
      simp only [if_neg hb, if_neg hvb]
      exact a2
  · by_cases hb : bt (bot n un left) u = true
    · simp only [if_pos hb]
      by_cases hr : r = 0
      · exact Or.inl hr
      · obtain ⟨v, e, q2⟩ := h5 u hu (hbl u (by omega) hb) (by omega)
        have hvl := hbe u v hu hb e
        have hv := (hE u v e).2
        have hvb : ¬ bt (bot n un left) v = true := fun q2 => hvl (hbl v (by omega) q2)
        rcases q2 with q2 | q2
        · exact absurd q2 hvl
        · refine Or.inr ⟨v, e, ?_⟩
          simp only [if_neg hvb]
          omega
    · simp only [if_neg hb]
      have hul : ¬ bt left u = true := fun q2 => q ((hnew u (by omega)).mpr ⟨q2, hb⟩)
      rcases h4 u hu hul with a | ⟨v, e, a⟩
      · exact Or.inl a
      · refine Or.inr ⟨v, e, ?_⟩
        have hvl := (h3 u v hu hul e).1
        have hv := (hE u v e).2
        have hvb : ¬ bt (bot n un left) v = true := fun q2 => hvl (hbl v (by omega) q2)
        simp only [if_neg hvb]
        exact a
  · obtain ⟨q1, q2⟩ := (hnew u (by omega)).mp q
    obtain ⟨v, hv, hb⟩ : ∃ v, v < 32 ∧ bt (un u &&& left) v = true := by
      refine Classical.byContradiction (fun q3 => q2 ((bot_bt hn (by omega)).mpr ⟨hu, q1, b_ext (fun i hi => ?_)⟩))
      rw [b_0]
      exact tt_of (fun h => q3 ⟨i, hi, h⟩)
    rw [b_and, Bool.and_eq_true] at hb
    have e := (hW.1 u v (by omega) hv).mp hb.1
    refine ⟨v, e, ?_⟩
    by_cases hvb : bt (bot n un left) v = true
    · right; simp only [if_pos hvb]
    · left; exact (hnew v hv).mpr ⟨hb.2, hvb⟩
  · simp only [if_pos hwb]
  · have := cn_lt (p := bt (left &&& (bot n un left ^^^ (-1)))) (q := bt left) (n := n) (fun x hx q => ((hnew x (by omega)).mp q).1) w hw hw1 (fun q => ((hnew w (by omega)).mp q).2 hwb)
    omega
theorem all_sh : ∀ n, n ≤ 12 → ((1 : Int32) <<< (nI n &&& 31)) - (1 : Int32) = bs (fun _ => true) n := by decide +kernel
theorem cn_all (n : Nat) : cn (fun _ => true) n = n := by
  induction n with
  | zero => rfl
  | succ n ih => show cn _ n + 1 = n + 1; rw [ih]
theorem rank7 {n t : Nat} {up lo : Nat → Nat} {b : Int32} {un ab rc : Nat → Int32} (hn : n ≤ 12) (hE : ∀ u v, Ed t up lo b u v → u < n ∧ v < n) (hW : WB n t up lo b un ab rc) (hc : cy n rc = false) (row : Nat → Int32) : ∃ row' lv m, LV n (Ed t up lo b) lv m ∧ (∀ u, u < n → row' u = nI (lv u)) ∧ m_X5_rankLevels (nI n) un row = some (row', nI m) := by
  unfold m_X5_rankLevels
  rw [lt_e, all_sh n hn]
  obtain ⟨s, ⟨lv, m, h1, h2, h3⟩, h4⟩ := lpk (fun f i (s : Int32 × Int32 × (Nat → Int32)) => m_X5_rankLevels_L13 (nI n) un f s.1 s.2.1 i s.2.2 (fun x1_13 x2_13 x3_13 y_f_levelRow_13 => some (y_f_levelRow_13, x2_13))) (fun s => some (s.2.2, s.2.1)) n
    (fun j s => s.2.1 = nI j ∧ ∃ lv, PL n (Ed t up lo b) j s.1 lv ∧ ∀ u, u < n → ¬ bt s.1 u = true → s.2.2 u = nI (lv u))
    (fun s => ∃ lv m, LV n (Ed t up lo b) lv m ∧ (∀ u, u < n → s.2.2 u = nI (lv u)) ∧ s.2.1 = nI m)
    (fun f j s hj h => by
      obtain ⟨e1, lv, hp, hrow⟩ := h
      by_cases h0 : s.1 = 0
      · right
        refine ⟨by simp (disch := omega) only [m_X5_rankLevels_L13, n_le, Nat.not_le.mpr hj, if_false, if_pos h0], lv, j, ?_, fun u hu => hrow u hu (by rw [h0, b_0]; simp), e1⟩
        obtain ⟨h1, h2, h3, h4, h5, h6, h7⟩ := hp
        have hz : ∀ u, ¬ bt s.1 u = true := fun u => by rw [h0, b_0]; simp
        refine ⟨fun u hu => h2 u hu (hz u), fun u v hu e => (h3 u v hu (hz u) e).2, fun u hu => h4 u hu (hz u), ?_, by omega⟩
        by_cases hj0 : j = 0
        · exact Or.inl hj0
        · obtain ⟨u, hu, -, q⟩ := h6 (by omega)
          exact Or.inr ⟨u, hu, q⟩
      · left
        obtain ⟨row1, r1, r2⟩ := rank_31 hn un s.1 s.2.1 s.2.2 (fun x4_31 x5_31 y_f_levelRow_31 =>
    lt ((s.1 &&& (x4_31 ^^^ (-1 : Int32)))) fun v_7 =>
    m_X5_rankLevels_L13 (nI n) un f v_7 (s.2.1 + (1 : Int32)) (nI j + (1 : Int32)) y_f_levelRow_31 (fun x1_13 x2_13 x3_13 y_f_levelRow_13 => some (y_f_levelRow_13, x2_13)))
        refine ⟨(s.1 &&& (bot n un s.1 ^^^ (-1)), nI (j + 1), row1), ?_, rfl, _, PL_step hn hE hW hc hp h0, fun u hu q => ?_⟩
        · simp (disch := omega) only [m_X5_rankLevels_L13, n_le, Nat.not_le.mpr hj, if_false, if_neg h0]
          rw [r2, lt_e, e1, nI_1]
        · show row1 u = nI (if bt (bot n un s.1) u = true then j else lv u)
          rw [r1 u hu]
          by_cases hb : bt (bot n un s.1) u = true
          · rw [if_pos hb, if_pos hb]; exact e1
          · rw [if_neg hb, if_neg hb]
            refine hrow u hu (fun q2 => q ?_)
            show bt (s.1 &&& (bot n un s.1 ^^^ (-1))) u = true
            rw [b_and, b_not _ (by omega), q2, tt_of hb]; rfl)
    (fun f s h => by
      obtain ⟨e1, lv, hp, hrow⟩ := h
      obtain ⟨h1, h2, h3, h4, h5, h6, h7⟩ := hp
      have hz : ∀ u, u < n → ¬ bt s.1 u = true := fun u hu q => by
        have := cn_pos (p := bt s.1) (n := n) u hu q
        omega
      refine ⟨by simp (disch := omega) only [m_X5_rankLevels_L13, n_le, Nat.le_refl, if_true], lv, n, ?_, fun u hu => hrow u hu (hz u hu), e1⟩
      refine ⟨fun u hu => h2 u hu (hz u hu), fun u v hu e => (h3 u v hu (hz u hu) e).2, fun u hu => h4 u hu (hz u hu), ?_, Nat.le_refl n⟩
      by_cases hj0 : n = 0
      · exact Or.inl hj0
      · obtain ⟨u, hu, -, q⟩ := h6 (by omega)
        exact Or.inr ⟨u, hu, q⟩)
    0 (bs (fun _ => true) n, 0, row) (by omega) (by omega)
    ⟨rfl, fun _ => 0, ⟨fun u hu q => by rw [bt_bs _ hu n (by omega)] at q; simpa using q, fun u hu q => absurd (by rw [bt_bs _ (by omega) n (by omega)]; simp [hu]) q, fun u v hu q => absurd (by rw [bt_bs _ (by omega) n (by omega)]; simp [hu]) q, fun u hu q => absurd (by rw [bt_bs _ (by omega) n (by omega)]; simp [hu]) q, fun u hu q h => absurd h (by omega), fun h => absurd h (by omega), by
      have := cn_le (bt (bs (fun _ => true) n)) n
      omega⟩, fun u hu q => absurd (by rw [bt_bs _ (by omega) n (by omega)]; simp [hu]) q⟩
  refine ⟨s.2.2, lv, m, h1, h2, ?_⟩
  rw [← h3]
  exact h4
