/-! ===== ties that say something ===== -/
def orr (rc : Nat → Int32) (p : Nat → Bool) : Nat → Int32
  | 0 => 0
  | n + 1 => if p n = true then orr rc p n ||| rc n else orr rc p n
theorem bt_orr {rc : Nat → Int32} {p : Nat → Bool} {v : Nat} : ∀ {n : Nat}, bt (orr rc p n) v = true ↔ ∃ w, w < n ∧ p w = true ∧ bt (rc w) v = true
  | 0 => by
    rw [orr, b_0]
    constructor
    · intro h; cases h
    · rintro ⟨w, h, -⟩; omega
  | n + 1 => by
    have ih := bt_orr (rc := rc) (p := p) (v := v) (n := n)
    rw [orr]
    by_cases hp : p n = true
    · rw [if_pos hp, b_or, Bool.or_eq_true, ih]
      constructor
      · rintro (⟨w, h1, h2⟩ | h)
        · exact ⟨w, by omega, h2⟩
        · exact ⟨n, by omega, hp, h⟩
      · rintro ⟨w, h1, h2, h3⟩
        by_cases hw : w = n
        · subst hw; exact Or.inr h3
        · exact Or.inl ⟨w, by omega, h2, h3⟩
    · rw [if_neg hp, ih]
      constructor
      · rintro ⟨w, h1, h2⟩
        exact ⟨w, by omega, h2⟩
      · rintro ⟨w, h1, h2, h3⟩
        by_cases hw : w = n
        · subst hw; exact absurd h2 hp
        · exact ⟨w, by omega, h2, h3⟩
def ru (n : Nat) (un rc : Nat → Int32) (u : Nat) : Int32 := if cy n rc = true then un u else un u &&& (orr rc (bt (un u)) n ^^^ (-1))
theorem red7 {n : Nat} (hn : n ≤ 12) (un rc : Nat → Int32) {u : Nat} (hu : u < 12) : m_X5_reducedUnder (nI n) un rc (nI u) = some (ru n un rc u) := by
  unfold m_X5_reducedUnder ru
  rw [cyc7 hn, cl_s, if_c, ag_n hu (by omega)]
  by_cases hc : cy n rc = true
  · rw [if_pos hc, if_pos hc]
  · rw [if_neg hc, if_neg hc]
    obtain ⟨s, h1, h2⟩ := lpx (fun f i (s : Int32) => m_X5_reducedUnder_L18 (nI n) un rc (nI u) f s i (fun x2_18 x3_18 => ag un 12 (nI u) fun v_7 => some (v_7 &&& (x2_18 ^^^ (-1 : Int32))))) (fun s => some (un u &&& (s ^^^ (-1)))) n (fun j s => s = orr rc (bt (un u)) j)
      (fun f j s hj h => by
        by_cases hb : bt (un u) j = true
        · refine ⟨s ||| rc j, by simp (disch := omega) only [m_X5_reducedUnder_L18, n_le, Nat.not_le.mpr hj, if_false, ag_n, nI_1, hb7, cl_s, if_c, if_10, if_00, if_true, Bool.false_eq_true, if_pos hb], ?_⟩
          rw [orr, if_pos hb, h]
        · refine ⟨s, by simp (disch := omega) only [m_X5_reducedUnder_L18, n_le, Nat.not_le.mpr hj, if_false, ag_n, nI_1, hb7, cl_s, if_c, if_10, if_00, if_true, Bool.false_eq_true, if_neg hb], ?_⟩
          rw [orr, if_neg hb, h])
      (fun f s _ => by simp (disch := omega) only [m_X5_reducedUnder_L18, n_le, Nat.le_refl, if_true, ag_n]) 0 0 (by omega) (by omega) rfl
    rw [← h1]
    exact h2
theorem isred7 {n : Nat} (hn : n ≤ 12) (un rc : Nat → Int32) {u v : Nat} (hu : u < 12) (hv : v < 12) : m_X5_isReduced (nI n) un rc (nI u) (nI v) = some (if bt (ru n un rc u) v = true then 1 else 0) := by
  unfold m_X5_isReduced
  rw [red7 hn un rc hu, cl_s, hb7 _ (by omega), cl_s, zg_c]
def via (rc : Nat → Int32) (a b c : Nat) : Bool := (!decide (c = a) && !decide (c = b)) && (bt (rc a) c && bt (rc c) b)
def rdk (n : Nat) (rc : Nat → Int32) (a b : Nat) : Bool := cy n rc || !decide (ff (via rc a b) n < n)
theorem isred8 {n t : Nat} {upper lower : Nat → Int32} {up lo : Nat → Nat} (hT : TI n t upper lower up lo) (hn : n ≤ 12) (ht : t ≤ 40) (rc : Nat → Int32) {k : Nat} (hk : k < t) : m_X8_isReduced (nI n) upper lower rc (nI k) = some (if rdk n rc (up k) (lo k) = true then 1 else 0) := by
  obtain ⟨e1, e2, e3, e4⟩ := hT k hk
  unfold m_X8_isReduced
  rw [cyc8 hn, cl_s, if_c]
  by_cases hc : cy n rc = true
  · rw [if_pos hc, if_pos (by simp [rdk, hc])]
  · rw [if_neg hc]
    have hc2 : rdk n rc (up k) (lo k) = !decide (ff (via rc (up k) (lo k)) n < n) := by simp [rdk, hc]
    rw [hc2]
    rcases lpe (fun f i (_ : Unit) => m_X8_isReduced_L11 (nI n) upper lower rc (nI k) f i (fun x2_11 => some (1 : Int32))) (fun _ => some 1) n (fun j _ => ∀ i, i < j → via rc (up k) (lo k) i = false) (fun r => r = 0 ∧ ff (via rc (up k) (lo k)) n < n)
      (fun f j _ hj h => by
        by_cases h1 : j = up k
        · refine Or.inl ⟨(), by simp (disch := omega) only [m_X8_isReduced_L11, n_le, Nat.not_le.mpr hj, if_false, ag_n, e1, n_eq, if_pos h1, nI_1], succ_ih h (by simp [via, h1])⟩
        · by_cases h2 : j = lo k
          · refine Or.inl ⟨(), by simp (disch := omega) only [m_X8_isReduced_L11, n_le, Nat.not_le.mpr hj, if_false, ag_n, e1, e2, n_eq, if_neg h1, if_pos h2, nI_1], succ_ih h (by simp [via, h2])⟩
          · by_cases h3 : bt (rc (up k)) j = true
            · by_cases h4 : bt (rc j) (lo k) = true
              · have hv : via rc (up k) (lo k) j = true := by simp [via, h1, h2, h3, h4]
                refine Or.inr ⟨0, by simp (disch := omega) only [m_X8_isReduced_L11, n_le, Nat.not_le.mpr hj, if_false, ag_n, e1, e2, n_eq, if_neg h1, if_neg h2, hb8, cl_s, if_c, if_10, if_00, if_true, Bool.false_eq_true, if_pos h3, if_pos h4], rfl, ?_⟩
                rw [ff_at hj h hv]; exact hj
              · refine Or.inl ⟨(), by simp (disch := omega) only [m_X8_isReduced_L11, n_le, Nat.not_le.mpr hj, if_false, ag_n, e1, e2, n_eq, if_neg h1, if_neg h2, hb8, cl_s, if_c, if_10, if_00, if_true, Bool.false_eq_true, if_pos h3, if_neg h4, nI_1], succ_ih h (by simp [via, h4])⟩
            · refine Or.inl ⟨(), by simp (disch := omega) only [m_X8_isReduced_L11, n_le, Nat.not_le.mpr hj, if_false, ag_n, e1, e2, n_eq, if_neg h1, if_neg h2, hb8, cl_s, if_c, if_10, if_00, if_true, Bool.false_eq_true, if_neg h3, nI_1], succ_ih h (by simp [via, h3])⟩)
      (fun f _ _ => by simp (disch := omega) only [m_X8_isReduced_L11, n_le, Nat.le_refl, if_true]) 0 () (by omega) (by omega) (fun i hi => by omega) with ⟨_, h1, h2⟩ | ⟨r, h1, h2, h3⟩
    · rw [ff_none h1]
      simp only [Nat.lt_irrefl, decide_false, Bool.not_false, if_true]
      exact h2
    · simp only [h3, decide_true, Bool.not_true, Bool.false_eq_true, if_false]
      subst h2
      exact h1
/-- both ways of asking agree -/
theorem red_same {n t : Nat} {up lo : Nat → Nat} {b : Int32} {un ab rc : Nat → Int32} (hn : n ≤ 12) (hE : ∀ u v, Ed t up lo b u v → u < n ∧ v < n) (hW : WB n t up lo b un ab rc) {u v : Nat} (h : Ed t up lo b u v) : bt (ru n un rc u) v = rdk n rc u v := by
  have hu := (hE u v h).1
  have hv := (hE u v h).2
  have huv : bt (un u) v = true := (hW.1 u v (by omega) (by omega)).mpr h
  unfold ru rdk
  by_cases hc : cy n rc = true
  · rw [if_pos hc, huv, hc]; rfl
  · have hno : ∀ w, w < n → ¬ bt (rc w) w = true := fun w hw q => hc ((cy_iff hn).mpr ⟨w, hw, q⟩)
    rw [if_neg hc, b_and, b_not _ (by omega), huv, tt_of hc, Bool.true_and, Bool.false_or]
    apply congrArg
    apply Bool.eq_iff_iff.mpr
    rw [bt_orr, decide_eq_true_eq]
    constructor
    · rintro ⟨w, hw, h1, h2⟩
      have e1 := (hW.1 u w (by omega) (by omega)).mp h1
      refine Classical.byContradiction (fun q => ?_)
      have hff : ff (via rc u v) n = n := by have := ff_le (via rc u v) n; omega
      have := ff_no (via rc u v) n w (by omega)
      have hr : bt (rc u) w = true := (hW.2.2 u w hu (by omega)).mpr (PV_le (Nat.zero_le n) e1)
      have hwu : w ≠ u := fun q => by subst q; exact hno w hw hr
      have hwv : w ≠ v := fun q => by subst q; exact hno w hw h2
      rw [via, hr, h2] at this
      simp [hwu, hwv] at this
    · intro q
      have hy := ff_yes (via rc u v) n q
      generalize ff (via rc u v) n = x at hy q
      unfold via at hy
      simp only [Bool.and_eq_true, Bool.not_eq_true', decide_eq_false_iff_not] at hy
      obtain ⟨⟨-, -⟩, h3, h4⟩ := hy
      have r1 := (hW.2.2 u _ hu (by omega)).mp h3
      rcases PV_head hE n (Nat.le_refl n) u _ r1 with e | ⟨w, e, r⟩
      · exact ⟨_, q, (hW.1 u _ (by omega) (by omega)).mpr e, h4⟩
      · have hw := (hE u w e).2
        refine ⟨w, hw, (hW.1 u w (by omega) (by omega)).mpr e, ?_⟩
        have r2 := (hW.2.2 _ v q (by omega)).mp h4
        exact (hW.2.2 w v hw (by omega)).mpr (PV_tr _ n w _ v q r r2)
theorem ru_in {n t : Nat} {up lo : Nat → Nat} {b : Int32} {un ab rc : Nat → Int32} (hW : WB n t up lo b un ab rc) {u v : Nat} (hu : u < 12) (hv : v < 32) (h : bt (ru n un rc u) v = true) : Ed t up lo b u v := by
  unfold ru at h
  by_cases hc : cy n rc = true
  · rw [if_pos hc] at h
    exact (hW.1 u v hu hv).mp h
  · rw [if_neg hc, b_and, Bool.and_eq_true] at h
    exact (hW.1 u v hu hv).mp h.1
theorem redof8 {n t : Nat} {upper lower : Nat → Int32} {up lo : Nat → Nat} (hT : TI n t upper lower up lo) (hn : n ≤ 12) (ht : t ≤ 40) {b : Int32} (hb : ∀ k, k < t → nI k ≠ b) {un ab rc : Nat → Int32} (hW : WB n t up lo b un ab rc) {u : Nat} (hu : u < n) : m_X8_reducedOf (nI n) (nI t) upper lower rc (nI u) = some (ru n un rc u) := by
  unfold m_X8_reducedOf
  obtain ⟨s, h1, h2⟩ := lpx (fun f i (s : Int32) => m_X8_reducedOf_L4 (nI n) (nI t) upper lower rc (nI u) f s i (fun x2_4 x3_4 => some x2_4)) (fun s => some s) t (fun j s => ∀ v, v < 32 → (bt s v = true ↔ ∃ k, k < j ∧ up k = u ∧ lo k = v ∧ rdk n rc u v = true))
    (fun f j s hj h => by
      obtain ⟨e1, e2, e3, e4⟩ := hT j hj
      have hkeep : ¬ (up j = u ∧ rdk n rc u (lo j) = true) → ∀ v, v < 32 → (bt (s ||| 0) v = true ↔ ∃ k, k < j + 1 ∧ up k = u ∧ lo k = v ∧ rdk n rc u v = true) := by
        intro hno v hv
        rw [or_00, h v hv]
        constructor
        · rintro ⟨k, h1, h2⟩; exact ⟨k, by omega, h2⟩
        · rintro ⟨k, h1, h2, h3, h4⟩
          by_cases hq : k = j
          · subst hq; subst h3; exact absurd ⟨h2, h4⟩ hno
          · exact ⟨k, by omega, h2, h3, h4⟩
      by_cases h1 : up j = u
      · by_cases h2 : rdk n rc (up j) (lo j) = true
        · refine ⟨s ||| ((1 : Int32) <<< (nI (lo j) &&& 31)), by simp (disch := omega) only [m_X8_reducedOf_L4, n_le, Nat.not_le.mpr hj, if_false, ag_n, e1, e2, n_eq, if_pos h1, isred8 hT hn ht rc hj, cl_s, if_c, if_10, if_00, if_true, Bool.false_eq_true, if_pos h2, lt_e, nI_1], fun v hv => ?_⟩
          rw [b_or, b_sh (by omega) hv, Bool.or_eq_true, h v hv, decide_eq_true_eq]
          constructor
          · rintro (⟨k, h3, h4⟩ | rfl)
            · exact ⟨k, by omega, h4⟩
            · exact ⟨j, by omega, h1, rfl, by rw [← h1]; exact h2⟩
          · rintro ⟨k, h3, h4, h5, h6⟩
            by_cases hq : k = j
            · subst hq; exact Or.inr h5.symm
            · exact Or.inl ⟨k, by omega, h4, h5, h6⟩
        · refine ⟨s ||| 0, by simp (disch := omega) only [m_X8_reducedOf_L4, n_le, Nat.not_le.mpr hj, if_false, ag_n, e1, e2, n_eq, if_pos h1, isred8 hT hn ht rc hj, cl_s, if_c, if_10, if_00, if_true, Bool.false_eq_true, if_neg h2, lt_e, nI_1], hkeep (fun q => h2 (by rw [h1]; exact q.2))⟩
      · refine ⟨s ||| 0, by simp (disch := omega) only [m_X8_reducedOf_L4, n_le, Nat.not_le.mpr hj, if_false, ag_n, e1, n_eq, if_neg h1, nI_1], hkeep (fun q => h1 q.1)⟩)
    (fun f s _ => by simp (disch := omega) only [m_X8_reducedOf_L4, n_le, Nat.le_refl, if_true]) 0 0 (by omega) (by omega) (fun v hv => by
      rw [b_0]
      constructor
      · intro h; cases h
      · rintro ⟨k, h, -⟩; omega)
  have e : s = ru n un rc u := b_ext (fun v hv => Bool.eq_iff_iff.mpr (by
    rw [h1 v hv]
    constructor
    · rintro ⟨k, h3, h4, h5, h6⟩
      have he : Ed t up lo b u v := ⟨k, h3, hb k h3, h4, h5⟩
      rw [red_same hn (Ed_in hT) hW he]; exact h6
    · intro q
      have he := ru_in hW (by omega) hv q
      obtain ⟨k, h3, h4, h5, h6⟩ := he
      exact ⟨k, h3, h5, h6, by rw [← red_same hn (Ed_in hT) hW ⟨k, h3, h4, h5, h6⟩]; exact q⟩))
  rw [← e]
  exact h2
/-! how many -/
def sm (f : Nat → Nat) : Nat → Nat
  | 0 => 0
  | n + 1 => sm f n + f n
theorem sm_congr {f g : Nat → Nat} : ∀ {n : Nat}, (∀ u, u < n → f u = g u) → sm f n = sm g n
  | 0, _ => rfl
  | n + 1, h => by
    rw [sm, sm, sm_congr (fun u hu => h u (by omega)), h n (by omega)]
theorem sm_add {f g : Nat → Nat} {a d : Nat} : ∀ {n : Nat}, a < n → (∀ u, u < n → g u = f u + if u = a then d else 0) → sm g n = sm f n + d
  | 0, h, _ => absurd h (Nat.not_lt_zero a)
  | n + 1, h, hg => by
    rw [sm, sm, hg n (by omega)]
    by_cases hq : n = a
    · subst hq
      rw [if_pos rfl, sm_congr (f := g) (g := f) (fun u hu => by rw [hg u (by omega), if_neg (by omega)]; rfl)]
      omega
    · rw [if_neg hq, sm_add (f := f) (g := g) (a := a) (d := d) (n := n) (by omega) (fun u hu => hg u (by omega))]
      omega
theorem cn_add {p q : Nat → Bool} {b : Nat} {c : Bool} : ∀ {n : Nat}, b < n → p b = false → (∀ v, v < n → q v = (p v || (decide (v = b) && c))) → cn q n = cn p n + if c = true then 1 else 0
  | 0, h, _, _ => absurd h (Nat.not_lt_zero b)
  | n + 1, h, hb, hq => by
    rw [cn, cn, hq n (by omega)]
    by_cases hn : n = b
    · subst hn
      rw [cn_congr (p := q) (q := p) (fun u hu => by rw [hq u (by omega)]; simp [show u ≠ n by omega])]
      simp [hb]
    · rw [cn_add (p := p) (q := q) (b := b) (c := c) (n := n) (by omega) hb (fun v hv => hq v (by omega))]
      simp [hn]
      omega
theorem sm_0 : ∀ n, sm (fun _ => 0) n = 0
  | 0 => rfl
  | n + 1 => by rw [sm, sm_0 n]
/-- a tie is among the first t -/
def mm (up lo : Nat → Nat) : Nat → Nat → Nat → Bool
  | 0, _, _ => false
  | t + 1, u, v => mm up lo t u v || (decide (u = up t) && decide (v = lo t))
theorem mm_iff {up lo : Nat → Nat} {u v : Nat} : ∀ {t : Nat}, mm up lo t u v = true ↔ ∃ k, k < t ∧ up k = u ∧ lo k = v
  | 0 => by
    constructor
    · intro h; cases h
    · rintro ⟨k, h, -⟩; omega
  | t + 1 => by
    rw [mm, Bool.or_eq_true, mm_iff (t := t), Bool.and_eq_true, decide_eq_true_eq, decide_eq_true_eq]
    constructor
    · rintro (⟨k, h1, h2⟩ | ⟨h1, h2⟩)
      · exact ⟨k, by omega, h2⟩
      · exact ⟨t, by omega, h1.symm, h2.symm⟩
    · rintro ⟨k, h1, h2, h3⟩
      by_cases hk : k = t
      · subst hk; exact Or.inr ⟨h2.symm, h3.symm⟩
      · exact Or.inl ⟨k, by omega, h2, h3⟩
def DT (t : Nat) (up lo : Nat → Nat) : Prop := ∀ i j, i < t → j < t → up i = up j → lo i = lo j → i = j
theorem cn_0 : ∀ n, cn (fun _ => false) n = 0
  | 0 => rfl
  | n + 1 => by rw [cn, cn_0 n]; rfl
theorem mm_step {up lo : Nat → Nat} (q : Nat → Nat → Bool) {t u N : Nat} (b2 : lo t < N) (hno : mm up lo t (up t) (lo t) = false) : cn (fun v => mm up lo (t + 1) u v && q u v) N = cn (fun v => mm up lo t u v && q u v) N + if u = up t then (if q (up t) (lo t) = true then 1 else 0) else 0 := by
  by_cases hq : u = up t
  · subst hq
    rw [if_pos rfl]
    refine cn_add (p := fun v => mm up lo t (up t) v && q (up t) v) (q := fun v => mm up lo (t + 1) (up t) v && q (up t) v) (b := lo t) (c := q (up t) (lo t)) b2 ?_ (fun v hv => ?_)
    · show (mm up lo t (up t) (lo t) && q (up t) (lo t)) = false
      rw [hno]; rfl
    · show (mm up lo (t + 1) (up t) v && q (up t) v) = _
      rw [mm]
      by_cases hv2 : v = lo t
      · subst hv2; simp [hno]
      · simp [hv2]
  · rw [if_neg hq, Nat.add_zero]
    refine cn_congr (p := fun v => mm up lo (t + 1) u v && q u v) (q := fun v => mm up lo t u v && q u v) (fun v hv => ?_)
    show (mm up lo (t + 1) u v && q u v) = (mm up lo t u v && q u v)
    rw [mm]
    simp [hq]
theorem dbl {n N : Nat} (hn : n ≤ N) {up lo : Nat → Nat} (q : Nat → Nat → Bool) (t : Nat) (hin : ∀ k, k < t → up k < n ∧ lo k < n) (hd : DT t up lo) : sm (fun u => cn (fun v => mm up lo t u v && q u v) N) n = cn (fun k => q (up k) (lo k)) t := by
  induction t with
  | zero =>
    have : ∀ u, cn (fun v => mm up lo 0 u v && q u v) N = 0 := fun u => by
      rw [cn_congr (p := fun v => mm up lo 0 u v && q u v) (q := fun _ => false) (n := N) (fun v _ => by simp [mm])]
      exact cn_0 N
    rw [sm_congr (g := fun _ => 0) (fun u _ => this u)]
    exact sm_0 n
  | succ t ih =>
    have ih := ih (fun k hk => hin k (by omega)) (fun i j hi hj => hd i j (by omega) (by omega))
    have hno : mm up lo t (up t) (lo t) = false := by
      cases h : mm up lo t (up t) (lo t) with
      | false => rfl
      | true =>
        obtain ⟨k, h1, h2, h3⟩ := mm_iff.mp h
        have := hd k t (by omega) (by omega) h2 h3
        omega
    obtain ⟨b1, b2⟩ := hin t (by omega)
    rw [sm_add (f := fun u => cn (fun v => mm up lo t u v && q u v) N) (g := fun u => cn (fun v => mm up lo (t + 1) u v && q u v) N) b1 (fun u _ => mm_step q (by omega) hno), ih, cn]
theorem many7 {n t : Nat} {up lo : Nat → Nat} {b : Int32} {un ab rc : Nat → Int32} (hn : n ≤ 12) (hE : ∀ u v, Ed t up lo b u v → u < n ∧ v < n) (hW : WB n t up lo b un ab rc) : m_X5_reducedTies (nI n) un rc = some (nI (sm (fun u => cn (bt (ru n un rc u)) 12) n)) := by
  unfold m_X5_reducedTies
  obtain ⟨s, h1, h2⟩ := lpx (fun f i (s : Int32) => m_X5_reducedTies_L4 (nI n) un rc f s i (fun x1_4 x2_4 => some x1_4)) (fun s => some s) n (fun j s => s = nI (sm (fun u => cn (bt (ru n un rc u)) 12) j))
    (fun f j s hj h => ⟨nI (sm (fun u => cn (bt (ru n un rc u)) 12) j + cn (bt (ru n un rc j)) 12), by
      have hp := pop7 (x := ru n un rc j) (fun i h1 h2 => by
        cases hb : bt (ru n un rc j) i with
        | false => rfl
        | true =>
          have := (hE j i (ru_in hW (by omega) h2 hb)).2
          omega)
      simp (disch := omega) only [m_X5_reducedTies_L4, n_le, Nat.not_le.mpr hj, if_false, red7 hn un rc (show j < 12 by omega), cl_s, hp, nI_1, h, nI_add], rfl⟩)
    (fun f s _ => by simp (disch := omega) only [m_X5_reducedTies_L4, n_le, Nat.le_refl, if_true]) 0 0 (by omega) (by omega) rfl
  rw [← h1]
  exact h2
theorem many8 {n t : Nat} {upper lower : Nat → Int32} {up lo : Nat → Nat} (hT : TI n t upper lower up lo) (hn : n ≤ 12) (ht : t ≤ 40) (rc : Nat → Int32) : m_X8_reducedMany (nI n) (nI t) upper lower rc = some (nI (cn (fun k => rdk n rc (up k) (lo k)) t)) := by
  unfold m_X8_reducedMany
  obtain ⟨s, h1, h2⟩ := lpx (fun f i (s : Int32) => m_X8_reducedMany_L4 (nI n) (nI t) upper lower rc f s i (fun x1_4 x2_4 => some x1_4)) (fun s => some s) t (fun j s => s = nI (cn (fun k => rdk n rc (up k) (lo k)) j))
    (fun f j s hj h => by
      by_cases hb : rdk n rc (up j) (lo j) = true
      · refine ⟨nI (cn (fun k => rdk n rc (up k) (lo k)) j + 1), by simp (disch := omega) only [m_X8_reducedMany_L4, n_le, Nat.not_le.mpr hj, if_false, isred8 hT hn ht rc hj, cl_s, if_c, if_10, if_00, if_true, Bool.false_eq_true, if_pos hb, nI_1, h], ?_⟩
        rw [cn, if_pos hb]
      · refine ⟨nI (cn (fun k => rdk n rc (up k) (lo k)) j) + 0, by simp (disch := omega) only [m_X8_reducedMany_L4, n_le, Nat.not_le.mpr hj, if_false, isred8 hT hn ht rc hj, cl_s, if_c, if_10, if_00, if_true, Bool.false_eq_true, if_neg hb, nI_1, h], ?_⟩
        rw [cn, if_neg hb]
        show nI _ + nI 0 = _
        rw [nI_add])
    (fun f s _ => by simp (disch := omega) only [m_X8_reducedMany_L4, n_le, Nat.le_refl, if_true]) 0 0 (by omega) (by omega) rfl
  rw [← h1]
  exact h2
theorem many_same {n t : Nat} {upper lower : Nat → Int32} {up lo : Nat → Nat} (hT : TI n t upper lower up lo) (hd : DT t up lo) (hn : n ≤ 12) {b : Int32} (hb : ∀ k, k < t → nI k ≠ b) {un ab rc : Nat → Int32} (hW : WB n t up lo b un ab rc) : sm (fun u => cn (bt (ru n un rc u)) 12) n = cn (fun k => rdk n rc (up k) (lo k)) t := by
  rw [← dbl hn (rdk n rc) t (fun k hk => ⟨(hT k hk).2.2.1, (hT k hk).2.2.2⟩) hd]
  refine sm_congr (fun u hu => cn_congr (fun v hv => Bool.eq_iff_iff.mpr ?_))
  rw [Bool.and_eq_true, mm_iff]
  constructor
  · intro q
    have he := ru_in hW (by omega) (by omega) q
    rw [red_same hn (Ed_in hT) hW he] at q
    obtain ⟨k, h1, h2, h3, h4⟩ := he
    exact ⟨⟨k, h1, h3, h4⟩, q⟩
  · rintro ⟨⟨k, h1, h2, h3⟩, q⟩
    rw [red_same hn (Ed_in hT) hW ⟨k, h1, hb k h1, h2, h3⟩]
    exact q
