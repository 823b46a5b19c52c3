/-! ===== lawful orders: the reference ===== -/
def st1 (x : Int32) (u : Nat) : Int32 := x ||| ((1 : Int32) <<< (nI u &&& 31))
theorem bt_st1 (x : Int32) {u i : Nat} (hu : u < 32) (hi : i < 32) : bt (st1 x u) i = (bt x i || decide (i = u)) := by
  unfold st1
  rw [b_or, b_sh hu hi]
def wF (ov : Nat → Int32) (w : Nat → Int64) (x : Int32) (u : Nat) : Int64 := if (!bt x u && decide (ov u &&& (x ^^^ (-1)) = 0)) = true then w (tN (st1 x u)) else 0
theorem cnt_29 {n : Nat} (hn : n ≤ 12) (ov : Nat → Int32) (w : Nat → Int64) {x : Int32} (hx : ∀ i, i < 32 → bt x i = true → i < n) (k : Int64 → Int32 → Option (Nat → Int64)) : m_X8_counts_L29 (nI n) ov x w FU 0 0 k = k (sI (wF ov w x) n) (nI n) := by
  obtain ⟨s', h1, h2⟩ := lpx (fun f i (s : Int64) => m_X8_counts_L29 (nI n) ov x w f s i k) (fun s => k s (nI n)) n (fun j s => s = sI (wF ov w x) j)
    (fun f j s hj h => by
      have hlo : LO (x ||| ((1 : Int32) <<< (nI j &&& 31))) := by
        intro i h1 h2
        have := bt_st1 x (u := j) (i := i) (by omega) h2
        unfold st1 at this
        rw [this]
        cases hb : bt x i with
        | true => have := hx i h2 hb; omega
        | false => simp; omega
      by_cases hb : bt x j = true
      · refine ⟨s + 0, by simp (disch := omega) only [m_X8_counts_L29, n_le, Nat.not_le.mpr hj, if_false, hb8, cl_s, if_c, if_10, if_00, if_true, Bool.false_eq_true, if_pos hb, nI_1], ?_⟩
        show s + 0 = sI (wF ov w x) j + wF ov w x j
        rw [h]; unfold wF; rw [if_neg (by simp [hb])]
      · by_cases hc : ov j &&& (x ^^^ (-1)) = 0
        · refine ⟨s + w (tN (st1 x j)), ?_, ?_⟩
          · simp (disch := first | omega | exact hlo) only [m_X8_counts_L29, n_le, Nat.not_le.mpr hj, if_false, hb8, cl_s, if_c, if_10, if_00, if_true, Bool.false_eq_true, if_neg hb, ag_n, if_pos hc, ag_s, nI_1]
            rfl
          · show s + w (tN (st1 x j)) = sI (wF ov w x) j + wF ov w x j
            rw [h]; unfold wF; rw [if_pos (by rw [tt_of hb]; simp only [hc, Bool.not_false, Bool.true_and, decide_true])]
        · refine ⟨s + 0, by simp (disch := omega) only [m_X8_counts_L29, n_le, Nat.not_le.mpr hj, if_false, hb8, cl_s, if_c, if_10, if_00, if_true, Bool.false_eq_true, if_neg hb, ag_n, if_neg hc, nI_1], ?_⟩
          show s + 0 = sI (wF ov w x) j + wF ov w x j
          rw [h]; unfold wF; rw [if_neg (fun q => hc (by rw [Bool.and_eq_true, decide_eq_true_eq] at q; exact q.2))])
    (fun f s _ => by simp (disch := omega) only [m_X8_counts_L29, n_le, Nat.le_refl, if_true]) 0 0 (by omega) (by omega) rfl
  subst h1
  exact h2
theorem all_tN : ∀ n, n ≤ 12 → tN (bs (fun _ => true) n) = 2 ^ n - 1 := by decide +kernel
theorem bs_nI (n : Nat) (hn : n ≤ 12) : bs (fun _ => true) n = nI (2 ^ n - 1) := by rw [← all_tN n hn, nI_tN]
theorem pow_le {n : Nat} (hn : n ≤ 12) : 2 ^ n ≤ 4096 := Nat.le_trans (Nat.pow_le_pow_right (by omega) hn) (Nat.le_refl (2 ^ 12))
theorem sub_all {n : Nat} (hn : n ≤ 12) {x : Int32} (hx : ∀ i, i < 32 → bt x i = true → i < n) : tN x < 2 ^ n := by
  refine Nat.lt_pow_two_of_testBit (n := n) _ (fun i hi => ?_)
  show bt x i = false
  by_cases h2 : i < 32
  · cases hb : bt x i with
    | false => rfl
    | true => have := hx i h2 hb; omega
  · exact b_big (by omega)
theorem nI_bits {n j : Nat} (hj : j < 2 ^ n) : ∀ i, i < 32 → bt (nI j) i = true → i < n := by
  intro i hi h
  rw [bt_nI, Bool.and_eq_true] at h
  refine Nat.lt_of_not_le (fun q => ?_)
  have := Nat.testBit_lt_two_pow (Nat.lt_of_lt_of_le hj (Nat.pow_le_pow_right (n := 2) (by omega) q))
  rw [this] at h
  exact absurd h.2 (by simp)
def WT (n : Nat) (ov : Nat → Int32) (w : Nat → Int64) : Prop := w (2 ^ n - 1) = 1 ∧ ∀ j, j < 2 ^ n - 1 → w j = sI (wF ov w (nI j)) n
theorem st1_gt {n : Nat} (hn : n ≤ 12) {x : Int32} (hx : ∀ i, i < 32 → bt x i = true → i < n) {u : Nat} (hu : u < n) (h : bt x u = false) : tN x < tN (st1 x u) ∧ ∀ i, i < 32 → bt (st1 x u) i = true → i < n := by
  have hb : ∀ i, i < 32 → bt (st1 x u) i = true → i < n := by
    intro i hi q
    rw [bt_st1 x (by omega) hi, Bool.or_eq_true, decide_eq_true_eq] at q
    rcases q with q | q
    · exact hx i hi q
    · omega
  have hlo : ∀ y : Int32, (∀ i, i < 32 → bt y i = true → i < n) → LO y := fun y hy i h1 h2 => by
    cases hq : bt y i with
    | false => rfl
    | true => have := hy i h2 hq; omega
  refine ⟨lt_at (hlo x hx) (hlo _ hb) u h (by rw [bt_st1 x (by omega) (by omega)]; simp) (fun k hk => ?_), hb⟩
  by_cases h2 : k < 32
  · rw [bt_st1 x (by omega) h2]; simp [show k ≠ u by omega]
  · rw [b_big (by omega), b_big (by omega)]
theorem cnt8 {n : Nat} (hn : n ≤ 12) (ov : Nat → Int32) (w : Nat → Int64) : ∃ w', WT n ov w' ∧ m_X8_counts (nI n) ov w = some w' := by
  unfold m_X8_counts
  have hp := pow_le hn
  have hp0 : 0 < 2 ^ n := Nat.pow_pos (by omega)
  rw [lt_e, all_sh n hn, bs_nI n hn, al_n (by omega) (by omega), n_subm]
  obtain ⟨s', h1, h2⟩ := lpd (fun f i (s : Nat → Int64) => m_X8_counts_L20 (nI n) ov f i s (fun x2_20 y_f_ways_20 => some y_f_ways_20)) (fun s => some s) (2 ^ n - 1) (fun j s => s (2 ^ n - 1) = 1 ∧ ∀ k, j ≤ k → k < 2 ^ n - 1 → s k = sI (wF ov s (nI k)) n)
    (fun f j s hj h => by
      obtain ⟨e1, e2⟩ := h
      have hxb := nI_bits (n := n) (j := j) (by omega)
      have hnl : ¬ nI j < 0 := by rw [lt_l (k := 0) (by omega) (by omega)]; omega
      refine ⟨vp_updL s j (sI (wF ov s (nI j)) n), ?_, ?_, fun k hk1 hk2 => ?_⟩
      · rw [m_X8_counts_L20, if_neg hnl, cnt_29 hn ov s hxb, al_n (by omega) (by omega)]
      · rw [pk_uLn (by omega)]; exact e1
      · have hcg : ∀ k, k < 2 ^ n - 1 → j ≤ k → sI (wF ov (vp_updL s j (sI (wF ov s (nI j)) n)) (nI k)) n = sI (wF ov s (nI k)) n := by
          intro k hk hjk
          refine sI_congr (fun u hu => ?_)
          unfold wF
          cases hb : bt (nI k) u with
          | true => rfl
          | false =>
            have := (st1_gt hn (nI_bits (n := n) (j := k) (by omega)) hu hb).1
            rw [tN_nI (by omega)] at this
            rw [pk_uLn (by omega)]
        rw [hcg k hk2 hk1]
        by_cases hq : k = j
        · subst hq; exact pk_uLs
        · rw [pk_uLn hq]; exact e2 k (by omega) hk2)
    (fun f s _ => by rw [m_X8_counts_L20, if_pos m1_0]) (vp_updL w (2 ^ n - 1) 1) (by omega) ⟨pk_uLs, fun k h1 h2 => by omega⟩
  exact ⟨s', ⟨h1.1, fun j hj => h1.2 j (Nat.zero_le j) hj⟩, h2⟩
/-- those not in s -/
def cmp (n : Nat) (s : Int32) : Int32 := bs (fun _ => true) n &&& (s ^^^ (-1))
theorem bt_cmp {n : Nat} (hn : n ≤ 12) (s : Int32) {i : Nat} (hi : i < 32) : bt (cmp n s) i = (decide (i < n) && !bt s i) := by
  unfold cmp
  rw [b_and, b_not _ hi, bt_bs _ hi n (by omega)]
  simp
theorem cmp_in {n : Nat} (hn : n ≤ 12) (s : Int32) : ∀ i, i < 32 → bt (cmp n s) i = true → i < n := fun i hi h => by
  rw [bt_cmp hn s hi, Bool.and_eq_true, decide_eq_true_eq] at h
  exact h.1
theorem st1_cmp {n : Nat} (hn : n ≤ 12) {s : Int32} {u : Nat} (hu : u < n) : st1 (cmp n s) u = cmp n (clr s u) := by
  apply b_ext
  intro i hi
  rw [bt_st1 _ (by omega) hi, bt_cmp hn _ hi, bt_cmp hn _ hi, bt_clr s (by omega) hi]
  by_cases hq : i = u
  · subst hq; simp [hu]
  · simp [hq]
/-- a unit is free on both sides alike -/
theorem free_same {n : Nat} (hn : n ≤ 12) {bl ab : Nat → Int32} {l s : Int32} (hl : ∀ i, i < 32 → bt l i = true → i < n) (hbl : ∀ u, u < 12 → bl u = hld ab l u) (hab : ∀ u, u < n → ∀ i, i < 32 → bt (ab u) i = true → i < n) (hs : SUB s l) {u : Nat} (hu : u < n) : (bt s u && decide (bl u &&& s = 0)) = (!bt (cmp n s) u && decide (ab u &&& (cmp n s ^^^ (-1)) = 0)) := by
  have e1 : (!bt (cmp n s) u) = bt s u := by rw [bt_cmp hn s (by omega)]; simp [hu]
  rw [e1]
  cases hb : bt s u with
  | false => rfl
  | true =>
    have hlu := hs u (by omega) hb
    rw [hbl u (by omega), hld, if_pos hlu, Bool.true_and, Bool.true_and]
    have e2 : ab u &&& l &&& s = ab u &&& (cmp n s ^^^ (-1)) := by
      apply b_ext
      intro i hi
      rw [b_and, b_and, b_and, b_not _ hi, bt_cmp hn s hi]
      cases ha : bt (ab u) i with
      | false => rfl
      | true =>
        have hin := hab u hu i hi ha
        cases hsi : bt s i with
        | false => simp [hin]
        | true => rw [hs i hi hsi]; simp
    rw [e2]
theorem tab_same {n : Nat} (hn : n ≤ 12) {bl ab : Nat → Int32} {tb w : Nat → Int64} {l : Int32} (hl : ∀ i, i < 32 → bt l i = true → i < n) (hbl : ∀ u, u < 12 → bl u = hld ab l u) (hab : ∀ u, u < n → ∀ i, i < 32 → bt (ab u) i = true → i < n) (ht : TB bl l tb) (hw : WT n ab w) : ∀ (m : Nat) (s : Int32), tN s = m → SUB s l → tb (tN s) = w (tN (cmp n s)) := by
  intro m
  induction m using Nat.strongRecOn with
  | _ m ih =>
    intro s hm hs
    have hsn : ∀ i, i < 32 → bt s i = true → i < n := fun i hi q => hl i hi (hs i hi q)
    have hslo : LO s := fun i h1 h2 => by
      cases hq : bt s i with
      | false => rfl
      | true => have := hsn i h2 hq; omega
    by_cases h0 : s = 0
    · have e : cmp n s = bs (fun _ => true) n := b_ext (fun i hi => by rw [bt_cmp hn s hi, h0, b_0, bt_bs _ hi n (by omega)]; simp)
      rw [(ht s hs).1 h0, e, all_tN n hn, hw.1]
    · rw [(ht s hs).2 h0]
      have hc := cmp_in hn s
      have hlt : tN (cmp n s) < 2 ^ n - 1 := by
        have h1 := sub_all hn hc
        have h2 : tN (cmp n s) ≠ 2 ^ n - 1 := by
          intro q
          rw [← all_tN n hn] at q
          have q := tN_inj q
          refine h0 (b_ext (fun i hi => ?_))
          rw [b_0]
          cases hb : bt s i with
          | false => rfl
          | true =>
            have a := bt_cmp hn s hi
            rw [q, bt_bs _ hi n (by omega), hb] at a
            simp [hsn i hi hb] at a
        omega
      have hwv := hw.2 _ hlt
      rw [nI_tN] at hwv
      rw [hwv]
      have e12 : (12 : Nat) = n + (12 - n) := by omega
      rw [e12, sI_hi (g := tF bl tb s) (n := n) (m := 12 - n) (fun u h1 h2 => by
        unfold tF
        have : bt s u = false := by
          cases hq : bt s u with
          | false => rfl
          | true => have := hsn u (by omega) hq; omega
        rw [this]; rfl)]
      refine sI_congr (fun u hu => ?_)
      unfold tF wF
      rw [free_same hn hl hbl hab hs hu]
      by_cases hf : (!bt (cmp n s) u && decide (ab u &&& (cmp n s ^^^ (-1)) = 0)) = true
      · rw [if_pos hf, if_pos hf, st1_cmp hn hu]
        have hb : bt s u = true := by
          rw [Bool.and_eq_true, bt_cmp hn s (by omega)] at hf
          simpa [hu] using hf.1
        exact ih (tN (clr s u)) (by rw [← hm]; exact clr_lt hslo (by omega) hb) (clr s u) rfl (clr_sub hs (by omega))
      · rw [if_neg hf, if_neg hf]
