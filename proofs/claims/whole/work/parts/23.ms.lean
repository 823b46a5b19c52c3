/-! ===== sets, counts, the least ===== -/
theorem bs_congr {p q : Nat → Bool} : ∀ {n : Nat}, (∀ u, u < n → p u = q u) → bs p n = bs q n
  | 0, _ => rfl
  | n + 1, h => by
    unfold bs
    rw [bs_congr (fun u hu => h u (by omega)), h n (by omega)]
theorem bs_zero {p : Nat → Bool} {n : Nat} (hn : n ≤ 32) : bs p n = 0 ↔ ∀ u, u < n → p u = false := by
  constructor
  · intro h u hu
    have := bt_bs p (v := u) (by omega) n hn
    rw [h, b_0] at this
    simpa [hu] using this.symm
  · intro h
    refine (bs_eq (p := p) (x := 0) hn (fun v hv => ?_)).symm
    rw [b_0]
    by_cases hv2 : v < n
    · simp [h v hv2]
    · simp [hv2]
def cy (n : Nat) (rc : Nat → Int32) : Bool := !(decide (bs (fun u => bt (rc u) u) n = 0))
theorem cy_iff {n : Nat} {rc : Nat → Int32} (hn : n ≤ 12) : cy n rc = true ↔ ∃ u, u < n ∧ bt (rc u) u = true := by
  unfold cy
  rw [Bool.not_eq_true', decide_eq_false_iff_not, bs_zero (by omega)]
  constructor
  · intro h
    refine Classical.byContradiction (fun q => h (fun u hu => ?_))
    cases hb : bt (rc u) u with
    | false => rfl
    | true => exact absurd ⟨u, hu, hb⟩ q
  · rintro ⟨u, hu, hb⟩ h
    rw [h u hu] at hb
    cases hb
theorem cy_congr {n : Nat} {rc rd : Nat → Int32} (h : ∀ u, u < n → rd u = rc u) : cy n rd = cy n rc := by
  unfold cy
  rw [bs_congr (fun u hu => by rw [h u hu])]
theorem or_and_sh (a x : Int32) {j : Nat} (hj : j < 32) : a ||| (x &&& ((1 : Int32) <<< (nI j &&& 31))) = if bt x j = true then a ||| ((1 : Int32) <<< (nI j &&& 31)) else a := by
  apply b_ext
  intro i hi
  by_cases h : bt x j = true
  · rw [if_pos h, b_or, b_and, b_or, b_sh hj hi]
    by_cases h2 : i = j
    · subst h2; simp [h]
    · simp [h2]
  · rw [if_neg h, b_or, b_and, b_sh hj hi]
    by_cases h2 : i = j
    · subst h2; simp [h]
    · simp [h2]
theorem self7 {n : Nat} (hn : n ≤ 12) (rc : Nat → Int32) : m_X5_selfReachers (nI n) rc = some (bs (fun u => bt (rc u) u) n) := by
  unfold m_X5_selfReachers
  exact bsl (fun f i a => m_X5_selfReachers_L4 (nI n) rc f a i (fun x1_4 x2_4 => some x1_4)) (fun a => some a) n (fun u => bt (rc u) u) (by omega)
    (fun f j a hj => by simp (disch := omega) only [m_X5_selfReachers_L4, n_le, Nat.not_le.mpr hj, if_false, ag_n, nI_1, lt_e, or_and_sh])
    (fun f a => by simp (disch := omega) only [m_X5_selfReachers_L4, n_le, Nat.le_refl, if_true])
theorem round8 {n : Nat} (hn : n ≤ 12) (rc : Nat → Int32) : m_X8_round (nI n) rc = some (bs (fun u => bt (rc u) u) n) := by
  unfold m_X8_round
  exact bsl (fun f i a => m_X8_round_L4 (nI n) rc f a i (fun x1_4 x2_4 => some x1_4)) (fun a => some a) n (fun u => bt (rc u) u) (by omega)
    (fun f j a hj => by
      by_cases h : bt (rc j) j = true
      · simp (disch := omega) only [m_X8_round_L4, n_le, Nat.not_le.mpr hj, if_false, ag_n, nI_1, lt_e, hb8, cl_s, if_c, if_10, if_00, if_true, Bool.false_eq_true, if_pos h]
      · simp (disch := omega) only [m_X8_round_L4, n_le, Nat.not_le.mpr hj, if_false, ag_n, nI_1, lt_e, hb8, cl_s, if_c, if_10, if_00, if_true, Bool.false_eq_true, if_neg h, or_00])
    (fun f a => by simp (disch := omega) only [m_X8_round_L4, n_le, Nat.le_refl, if_true])
theorem cyc7 {n : Nat} (hn : n ≤ 12) (rc : Nat → Int32) : m_X5_hasCycle (nI n) rc = some (if cy n rc = true then 1 else 0) := by
  unfold m_X5_hasCycle cy
  rw [self7 hn, cl_s]
  by_cases h : bs (fun u => bt (rc u) u) n = 0
  · simp [h]
  · simp [h]
theorem cyc8 {n : Nat} (hn : n ≤ 12) (rc : Nat → Int32) : m_X8_isRound (nI n) rc = some (if cy n rc = true then 1 else 0) := by
  unfold m_X8_isRound cy
  rw [round8 hn, cl_s]
  by_cases h : bs (fun u => bt (rc u) u) n = 0
  · simp [h]
  · simp [h]
/-! the least place of a kind; n: there is none -/
def ff (p : Nat → Bool) : Nat → Nat
  | 0 => 0
  | n + 1 => if ff p n < n then ff p n else if p n = true then n else n + 1
theorem ff_le (p : Nat → Bool) : ∀ n, ff p n ≤ n
  | 0 => Nat.le_refl 0
  | n + 1 => by
    have ih := ff_le p n
    unfold ff
    by_cases h : ff p n < n
    · rw [if_pos h]; omega
    · rw [if_neg h]
      by_cases h2 : p n = true
      · rw [if_pos h2]; omega
      · rw [if_neg h2]; omega
theorem ff_no (p : Nat → Bool) : ∀ n k, k < ff p n → p k = false
  | 0, k, h => absurd h (Nat.not_lt_zero k)
  | n + 1, k, h => by
    have ih := ff_no p n
    have hl := ff_le p n
    unfold ff at h
    by_cases h1 : ff p n < n
    · rw [if_pos h1] at h; exact ih k h
    · rw [if_neg h1] at h
      by_cases h2 : p n = true
      · rw [if_pos h2] at h; exact ih k (by omega)
      · rw [if_neg h2] at h
        by_cases h3 : k = n
        · subst h3
          cases hb : p k with
          | false => rfl
          | true => exact absurd hb h2
        · exact ih k (by omega)
theorem ff_yes (p : Nat → Bool) : ∀ n, ff p n < n → p (ff p n) = true
  | 0, h => absurd h (Nat.not_lt_zero _)
  | n + 1, h => by
    have ih := ff_yes p n
    unfold ff at h ⊢
    by_cases h1 : ff p n < n
    · rw [if_pos h1]; exact ih h1
    · rw [if_neg h1] at h ⊢
      by_cases h2 : p n = true
      · rw [if_pos h2]; exact h2
      · rw [if_neg h2] at h; omega
theorem ff_at {p : Nat → Bool} {n j : Nat} (hj : j < n) (h0 : ∀ i, i < j → p i = false) (h1 : p j = true) : ff p n = j := by
  have a := ff_no p n
  have b := ff_yes p n
  rcases Nat.lt_trichotomy (ff p n) j with h | h | h
  · have := b (by omega)
    rw [h0 _ h] at this; cases this
  · exact h
  · have := a j h
    rw [h1] at this; cases this
theorem ff_none {p : Nat → Bool} {n : Nat} (h0 : ∀ i, i < n → p i = false) : ff p n = n := by
  have a := ff_le p n
  have b := ff_yes p n
  by_cases h : ff p n < n
  · have := b h
    rw [h0 _ h] at this; cases this
  · omega
theorem ff_congr {p q : Nat → Bool} : ∀ {n : Nat}, (∀ u, u < n → p u = q u) → ff p n = ff q n
  | 0, _ => rfl
  | n + 1, h => by
    unfold ff
    rw [ff_congr (fun u hu => h u (by omega)), h n (by omega)]
theorem succ_ih {p : Nat → Bool} {j : Nat} (h : ∀ i, i < j → p i = false) (hj : ¬ p j = true) : ∀ i, i < j + 1 → p i = false := by
  intro i hi
  by_cases q : i = j
  · subst q
    cases hb : p i with
    | false => rfl
    | true => exact absurd hb hj
  · exact h i (by omega)
theorem least7 (x : Int32) : m_X5_leastOf x = some (if ff (bt x) 12 < 12 then nI (ff (bt x) 12) else 0) := by
  unfold m_X5_leastOf
  rcases lpe (fun f i (_ : Unit) => m_X5_leastOf_L2 x f i (fun x1_2 => some (0 : Int32))) (fun _ => some 0) 12 (fun j _ => ∀ i, i < j → bt x i = false) (fun r => r = if ff (bt x) 12 < 12 then nI (ff (bt x) 12) else 0)
    (fun f j _ hj h => by
      by_cases hb : bt x j = true
      · refine Or.inr ⟨nI j, by simp (disch := omega) only [m_X5_leastOf_L2, l_le (k := 12), Nat.not_le.mpr hj, if_false, hb7, cl_s, if_c, if_10, if_00, if_true, Bool.false_eq_true, if_pos hb], ?_⟩
        rw [ff_at hj h hb, if_pos hj]
      · exact Or.inl ⟨(), by simp (disch := omega) only [m_X5_leastOf_L2, l_le (k := 12), Nat.not_le.mpr hj, if_false, hb7, cl_s, if_c, if_10, if_00, if_true, Bool.false_eq_true, if_neg hb, nI_1], succ_ih h hb⟩)
    (fun f _ _ => by simp (disch := omega) only [m_X5_leastOf_L2, l_le (k := 12), Nat.le_refl, if_true]) 0 () (by omega) (by omega) (fun i hi => by omega) with ⟨_, h1, h2⟩ | ⟨r, h1, h2⟩
  · rw [ff_none h1, if_neg (by omega)]; exact h2
  · rw [← h2]; exact h1
theorem least8 (x : Int32) : m_X8_leastOf x = some (if ff (bt x) 12 < 12 then nI (ff (bt x) 12) else -1) := by
  unfold m_X8_leastOf
  rcases lpe (fun f i (_ : Unit) => m_X8_leastOf_L2 x f i (fun x1_2 => some (-1 : Int32))) (fun _ => some (-1)) 12 (fun j _ => ∀ i, i < j → bt x i = false) (fun r => r = if ff (bt x) 12 < 12 then nI (ff (bt x) 12) else -1)
    (fun f j _ hj h => by
      by_cases hb : bt x j = true
      · refine Or.inr ⟨nI j, by simp (disch := omega) only [m_X8_leastOf_L2, l_le (k := 12), Nat.not_le.mpr hj, if_false, hb8, cl_s, if_c, if_10, if_00, if_true, Bool.false_eq_true, if_pos hb], ?_⟩
        rw [ff_at hj h hb, if_pos hj]
      · exact Or.inl ⟨(), by simp (disch := omega) only [m_X8_leastOf_L2, l_le (k := 12), Nat.not_le.mpr hj, if_false, hb8, cl_s, if_c, if_10, if_00, if_true, Bool.false_eq_true, if_neg hb, nI_1], succ_ih h hb⟩)
    (fun f _ _ => by simp (disch := omega) only [m_X8_leastOf_L2, l_le (k := 12), Nat.le_refl, if_true]) 0 () (by omega) (by omega) (fun i hi => by omega) with ⟨_, h1, h2⟩ | ⟨r, h1, h2⟩
  · rw [ff_none h1, if_neg (by omega)]; exact h2
  · rw [← h2]; exact h1
/-! counts -/
def cn (p : Nat → Bool) : Nat → Nat
  | 0 => 0
  | n + 1 => cn p n + if p n = true then 1 else 0
theorem cn_le (p : Nat → Bool) : ∀ n, cn p n ≤ n
  | 0 => Nat.le_refl 0
  | n + 1 => by
    have ih := cn_le p n
    unfold cn
    by_cases h : p n = true
    · rw [if_pos h]; omega
    · rw [if_neg h]; omega
theorem cn_congr {p q : Nat → Bool} : ∀ {n : Nat}, (∀ u, u < n → p u = q u) → cn p n = cn q n
  | 0, _ => rfl
  | n + 1, h => by
    unfold cn
    rw [cn_congr (fun u hu => h u (by omega)), h n (by omega)]
theorem cn_hi {p : Nat → Bool} {n : Nat} (m : Nat) (h : ∀ u, n ≤ u → u < n + m → p u = false) : cn p (n + m) = cn p n := by
  induction m with
  | zero => rfl
  | succ m ih =>
    show cn p (n + m) + (if p (n + m) = true then 1 else 0) = cn p n
    rw [ih (fun u h1 h2 => h u h1 (by omega)), h (n + m) (by omega) (by omega)]
    simp
theorem size8 (x : Int32) : m_X8_sizeOf x = some (nI (cn (bt x) 12)) := by
  unfold m_X8_sizeOf
  obtain ⟨s, h1, h2⟩ := lpx (fun f i (a : Int32) => m_X8_sizeOf_L4 x f a i (fun x1_4 x2_4 => some x1_4)) (fun a => some a) 12 (fun j a => a = nI (cn (bt x) j))
    (fun f j a hj h => ⟨a + (if bt x j = true then 1 else 0), by simp (disch := omega) only [m_X8_sizeOf_L4, l_le (k := 12), Nat.not_le.mpr hj, if_false, lt_e, nI_1, b_ask], by
      subst h
      show _ = nI (cn (bt x) j + if bt x j = true then 1 else 0)
      by_cases hb : bt x j = true
      · rw [if_pos hb, if_pos hb, nI_1]
      · rw [if_neg hb, if_neg hb]
        show nI _ + nI 0 = _
        rw [nI_add]⟩)
    (fun f a _ => by simp (disch := omega) only [m_X8_sizeOf_L4, l_le (k := 12), Nat.le_refl, if_true]) 0 0 (by omega) (by omega) rfl
  subst h1
  exact h2
theorem bt_nI {k i : Nat} : bt (nI k) i = (decide (i < 32) && k.testBit i) := by
  show (BitVec.ofNat 32 k).getLsbD i = _
  rw [BitVec.getLsbD_ofNat]
/-- a number with nothing beyond its twelfth bit -/
theorem lo12 {x : Int32} (h : ∀ i, 12 ≤ i → i < 32 → bt x i = false) : ∃ k, k < 4096 ∧ x = nI k := by
  have e : x = nI x.toBitVec.toNat := by
    apply Int32.toBitVec_inj.mp
    show x.toBitVec = BitVec.ofNat 32 x.toBitVec.toNat
    rw [BitVec.ofNat_toNat, BitVec.setWidth_eq]
  refine ⟨x.toBitVec.toNat, Nat.lt_pow_two_of_testBit (n := 12) _ (fun i hi => ?_), e⟩
  show x.toBitVec.getLsbD i = false
  by_cases h2 : i < 32
  · exact h i hi h2
  · exact BitVec.getLsbD_of_ge _ _ (by omega)
theorem pop_tab0 : ∀ a, a < 64 → ∀ b, b < 64 → m_J6_bitCount_0f7a4 (nI (64 * a + b)) = some (nI (cn (fun i => (64 * a + b).testBit i) 12)) := by decide +kernel
theorem pop_tab (k : Nat) (h : k < 4096) : m_J6_bitCount_0f7a4 (nI k) = some (nI (cn (fun i => k.testBit i) 12)) := by
  have := pop_tab0 (k / 64) (by omega) (k % 64) (by omega)
  rwa [Nat.div_add_mod] at this
theorem pop7 {x : Int32} (h : ∀ i, 12 ≤ i → i < 32 → bt x i = false) : m_J6_bitCount_0f7a4 x = some (nI (cn (bt x) 12)) := by
  obtain ⟨k, hk, rfl⟩ := lo12 h
  rw [pop_tab k hk, cn_congr (p := bt (nI k)) (q := fun i => k.testBit i) (fun u hu => by rw [bt_nI]; simp [show u < 32 by omega])]
theorem cn_bs {p : Nat → Bool} {n : Nat} (hn : n ≤ 12) : cn (bt (bs p n)) 12 = cn p n := by
  have e : (12 : Nat) = n + (12 - n) := by omega
  rw [e, cn_hi (12 - n) (fun u h1 h2 => by rw [bt_bs p (by omega) n (by omega)]; simp [show ¬ u < n by omega])]
  exact cn_congr (fun u hu => by rw [bt_bs p (by omega) n (by omega)]; simp [hu])
theorem pop_bs {p : Nat → Bool} {n : Nat} (hn : n ≤ 12) : m_J6_bitCount_0f7a4 (bs p n) = some (nI (cn p n)) := by
  rw [pop7 (fun i h1 h2 => by rw [bt_bs p h2 n (by omega)]; simp [show ¬ i < n by omega]), cn_bs hn]
