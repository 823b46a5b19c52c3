/-! ===== lawful orders ===== -/
def tN (x : Int32) : Nat := x.toBitVec.toNat
theorem tN_bit (x : Int32) (i : Nat) : (tN x).testBit i = bt x i := rfl
theorem nI_tN (x : Int32) : nI (tN x) = x := by
  apply Int32.toBitVec_inj.mp
  show BitVec.ofNat 32 x.toBitVec.toNat = x.toBitVec
  rw [BitVec.ofNat_toNat, BitVec.setWidth_eq]
def LO (x : Int32) : Prop := ∀ i, 12 ≤ i → i < 32 → bt x i = false
theorem tN_lt {x : Int32} (h : LO x) : tN x < 4096 := by
  refine Nat.lt_pow_two_of_testBit (n := 12) _ (fun i hi => ?_)
  show bt x i = false
  by_cases h2 : i < 32
  · exact h i hi h2
  · exact b_big (by omega)
theorem tN_nI {k : Nat} (h : k < 4096) : tN (nI k) = k := by
  show (BitVec.ofNat 32 k).toNat = k
  rw [BitVec.toNat_ofNat]
  exact Nat.mod_eq_of_lt (by omega)
theorem LO_nI {k : Nat} (h : k < 4096) : LO (nI k) := by
  intro i h1 h2
  rw [bt_nI]
  have : k.testBit i = false := Nat.testBit_lt_two_pow (Nat.lt_of_lt_of_le (m := 2 ^ 12) h (Nat.pow_le_pow_right (by omega) h1))
  rw [this, Bool.and_false]
section
variable {α β : Type}
theorem ag_s {f : Nat → α} {x : Int32} {k : α → Option β} (h : LO x) : ag f 4096 x k = k (f (tN x)) := by
  have := ag_n (f := f) (n := 4096) (j := tN x) (k := k) (tN_lt h) (by omega)
  rwa [nI_tN] at this
theorem al_s {f : Nat → Int64} {x : Int32} {y : Int64} {k : (Nat → Int64) → Option β} (h : LO x) : al f 4096 x y k = k (vp_updL f (tN x) y) := by
  have := al_n (f := f) (n := 4096) (j := tN x) (x := y) (k := k) (tN_lt h) (by omega)
  rwa [nI_tN] at this
end
theorem tN_inj {x y : Int32} (h : tN x = tN y) : x = y := by rw [← nI_tN x, h, nI_tN]
/-- the greatest place where two numbers differ -/
theorem top_diff : ∀ (m a b : Nat), a < 2 ^ m → b < 2 ^ m → a < b → ∃ i, i < m ∧ a.testBit i = false ∧ b.testBit i = true ∧ ∀ k, i < k → a.testBit k = b.testBit k := by
  intro m
  induction m with
  | zero => intro a b h1 h2 h3; simp at h1 h2; omega
  | succ m ih =>
    intro a b h1 h2 h3
    have hp : 2 ^ (m + 1) = 2 * 2 ^ m := by rw [Nat.pow_succ, Nat.mul_comm]
    have hbig : ∀ x, x < 2 ^ (m + 1) → ∀ k, m < k → x.testBit k = false := fun x hx k hk => Nat.testBit_lt_two_pow (Nat.lt_of_lt_of_le hx (Nat.pow_le_pow_right (by omega) hk))
    have hge : ∀ x, x < 2 ^ (m + 1) → (x.testBit m = true ↔ 2 ^ m ≤ x) := by
      intro x hx
      constructor
      · intro q; exact Nat.ge_two_pow_of_testBit q
      · intro q
        rw [Nat.testBit_eq_decide_div_mod_eq, decide_eq_true_eq]
        have : x / 2 ^ m = 1 := by
          refine Nat.div_eq_of_lt_le ?_ ?_
          · omega
          · omega
        rw [this]
    by_cases ha : a.testBit m = true
    · have hb : b.testBit m = true := (hge b h2).mpr (by have := (hge a h1).mp ha; omega)
      have a1 := (hge a h1).mp ha
      have b1 := (hge b h2).mp hb
      obtain ⟨i, hi, q1, q2, q3⟩ := ih (a - 2 ^ m) (b - 2 ^ m) (by omega) (by omega) (by omega)
      have hlow : ∀ x, 2 ^ m ≤ x → x < 2 ^ (m + 1) → ∀ k, k < m → (x - 2 ^ m).testBit k = x.testBit k := by
        intro x hx1 hx2 k hk
        have e : x = 2 ^ m + (x - 2 ^ m) := by omega
        have := Nat.testBit_two_pow_add_gt hk (x - 2 ^ m)
        rw [← e] at this
        exact this.symm
      refine ⟨i, by omega, by rw [← hlow a a1 h1 i hi]; exact q1, by rw [← hlow b b1 h2 i hi]; exact q2, fun k hk => ?_⟩
      by_cases hk2 : k < m
      · rw [← hlow a a1 h1 k hk2, ← hlow b b1 h2 k hk2]; exact q3 k hk
      · by_cases hk3 : k = m
        · subst hk3; rw [ha, hb]
        · rw [hbig a h1 k (by omega), hbig b h2 k (by omega)]
    · by_cases hb : b.testBit m = true
      · refine ⟨m, by omega, tt_of ha, hb, fun k hk => ?_⟩
        rw [hbig a h1 k hk, hbig b h2 k hk]
      · have a1 : a < 2 ^ m := by
          refine Nat.lt_of_not_le (fun q => ha ((hge a h1).mpr q))
        have b1 : b < 2 ^ m := by
          refine Nat.lt_of_not_le (fun q => hb ((hge b h2).mpr q))
        obtain ⟨i, hi, q1, q2, q3⟩ := ih a b a1 b1 h3
        exact ⟨i, by omega, q1, q2, q3⟩
/-- the other way: where they differ at i and agree above -/
theorem lt_at {x y : Int32} (hx : LO x) (hy : LO y) (i : Nat) (h1 : bt x i = false) (h2 : bt y i = true) (h3 : ∀ k, i < k → bt x k = bt y k) : tN x < tN y := by
  rcases Nat.lt_trichotomy (tN x) (tN y) with q | q | q
  · exact q
  · have := tN_inj q
    subst this
    rw [h1] at h2; cases h2
  · obtain ⟨k, -, q1, q2, q3⟩ := top_diff 12 (tN y) (tN x) (tN_lt hy) (tN_lt hx) q
    have q1 : bt y k = false := q1
    have q2 : bt x k = true := q2
    rcases Nat.lt_trichotomy i k with r | r | r
    · have := h3 k r
      rw [q1, q2] at this; cases this
    · subst r
      rw [h1] at q2; cases q2
    · have := q3 i r
      have this : bt y i = bt x i := this
      rw [h1, h2] at this; cases this
def SUB (s l : Int32) : Prop := ∀ i, i < 32 → bt s i = true → bt l i = true
theorem SUB_lo {s l : Int32} (h : SUB s l) (hl : LO l) : LO s := by
  intro i h1 h2
  cases hb : bt s i with
  | false => rfl
  | true => have := h i h2 hb; rw [hl i h1 h2] at this; cases this
def clr (s : Int32) (u : Nat) : Int32 := s &&& (((1 : Int32) <<< (nI u &&& 31)) ^^^ (-1))
theorem bt_clr (s : Int32) {u i : Nat} (hu : u < 32) (hi : i < 32) : bt (clr s u) i = (bt s i && !decide (i = u)) := by
  unfold clr
  rw [b_and, b_not _ hi, b_sh hu hi]
theorem clr_sub {s l : Int32} (h : SUB s l) {u : Nat} (hu : u < 32) : SUB (clr s u) l := by
  intro i hi q
  rw [bt_clr s hu hi, Bool.and_eq_true] at q
  exact h i hi q.1
theorem clr_lt {s : Int32} (hs : LO s) {u : Nat} (hu : u < 12) (h : bt s u = true) : tN (clr s u) < tN s := by
  refine lt_at (fun i h1 h2 => by rw [bt_clr s (by omega) h2, hs i h1 h2]; rfl) hs u (by rw [bt_clr s (by omega) (by omega)]; simp) h (fun k hk => ?_)
  by_cases h2 : k < 32
  · rw [bt_clr s (by omega) h2]; simp [show k ≠ u by omega]
  · rw [b_big (by omega), b_big (by omega)]
/-- the next set of the units in l -/
theorem next_set {s l : Int32} (hl : LO l) (h : SUB s l) (hne : ¬ s = l) : SUB ((s - l) &&& l) l ∧ tN s < tN ((s - l) &&& l) ∧ ∀ t, SUB t l → tN s < tN t → tN ((s - l) &&& l) ≤ tN t := by
  have hs := SUB_lo h hl
  -- the difference
  have hd : l - s = l &&& (s ^^^ (-1)) := by
    have e : (l &&& (s ^^^ (-1))) + s = l := by
      apply Int32.toBitVec_inj.mp
      rw [Int32.toBitVec_add, BitVec.add_eq_or_of_and_eq_zero]
      · apply BitVec.eq_of_getLsbD_eq
        intro i hi
        rw [BitVec.getLsbD_or]
        show (bt (l &&& (s ^^^ (-1))) i || bt s i) = bt l i
        rw [b_and, b_not _ hi]
        cases hb : bt s i with
        | false => simp
        | true => rw [h i hi hb]; rfl
      · apply BitVec.eq_of_getLsbD_eq
        intro i hi
        rw [BitVec.getLsbD_and, BitVec.getLsbD_zero]
        show (bt (l &&& (s ^^^ (-1))) i && bt s i) = false
        rw [b_and, b_not _ hi]
        cases bt s i <;> simp
    have e2 : l - s = ((l &&& (s ^^^ (-1))) + s) - s := by rw [e]
    rw [e2, Int32.add_sub_cancel]
  have hneg : ∀ i, i < 32 → bt (s - l) i = (bt (l &&& (s ^^^ (-1))) i ^^ decide (∃ j, j < i ∧ bt (l &&& (s ^^^ (-1))) j = true)) := by
    intro i hi
    have e : s - l = -(l &&& (s ^^^ (-1))) := by rw [← hd, Int32.neg_sub]
    rw [e]
    show (-(l &&& (s ^^^ (-1)))).toBitVec.getLsbD i = _
    rw [Int32.toBitVec_neg, BitVec.getLsbD_neg]
    have e2 : decide (i < 32) = true := by simp [hi]
    rw [e2, Bool.true_and]
    rfl
  have hD : ∀ i, i < 32 → bt (l &&& (s ^^^ (-1))) i = (bt l i && !bt s i) := fun i hi => by rw [b_and, b_not _ hi]
  -- its least place
  obtain ⟨j, ⟨hj32, hj⟩, hjm⟩ := pk_least (fun j => j < 32 ∧ bt (l &&& (s ^^^ (-1))) j = true) (by
    refine Classical.byContradiction (fun q => hne (b_ext (fun i hi => ?_)))
    cases hb : bt s i with
    | true => rw [h i hi hb]
    | false =>
      cases hb2 : bt l i with
      | false => rfl
      | true => exact absurd ⟨i, hi, by rw [hD i hi, hb, hb2]; rfl⟩ q)
  have hno : ∀ k, k < j → ¬ bt (l &&& (s ^^^ (-1))) k = true := fun k hk q => hjm k hk ⟨by omega, q⟩
  rw [hD j hj32, Bool.and_eq_true, Bool.not_eq_true'] at hj
  have hj12 : j < 12 := by
    refine Nat.lt_of_not_le (fun q => ?_)
    rw [hl j q hj32] at hj
    exact absurd hj.1 (by simp)
  have hbit : ∀ i, i < 32 → bt ((s - l) &&& l) i = if i < j then false else if i = j then true else bt s i := by
    intro i hi
    rw [b_and, hneg i hi]
    by_cases h1 : i < j
    · rw [if_pos h1, tt_of (hno i h1)]
      have : decide (∃ k, k < i ∧ bt (l &&& (s ^^^ (-1))) k = true) = false := by
        rw [decide_eq_false_iff_not]
        rintro ⟨k, hk, q⟩
        exact hno k (by omega) q
      rw [this]; rfl
    · rw [if_neg h1]
      by_cases h2 : i = j
      · subst h2
        rw [if_pos rfl, hD i hi, hj.1, hj.2]
        have : decide (∃ k, k < i ∧ bt (l &&& (s ^^^ (-1))) k = true) = false := by
          rw [decide_eq_false_iff_not]
          rintro ⟨k, hk, q⟩
          exact hno k hk q
        rw [this]; rfl
      · rw [if_neg h2, hD i hi]
        have : decide (∃ k, k < i ∧ bt (l &&& (s ^^^ (-1))) k = true) = true := by
          rw [decide_eq_true_eq]
          exact ⟨j, by omega, by rw [hD j hj32, hj.1, hj.2]; rfl⟩
        rw [this]
        cases hb : bt s i with
        | true => rw [h i hi hb]; rfl
        | false => cases bt l i <;> rfl
  have hsub : SUB ((s - l) &&& l) l := fun i hi q => by rw [b_and, Bool.and_eq_true] at q; exact q.2
  have hlo := SUB_lo hsub hl
  refine ⟨hsub, lt_at hs hlo j hj.2 (by rw [hbit j hj32, if_neg (by omega), if_pos rfl]) (fun k hk => ?_), fun t ht hst => ?_⟩
  · by_cases h2 : k < 32
    · rw [hbit k h2, if_neg (by omega), if_neg (by omega)]
    · rw [b_big (by omega), b_big (by omega)]
  · refine Nat.le_of_not_lt (fun q => ?_)
    have hlt := SUB_lo ht hl
    obtain ⟨i, hi, q1, q2, q3⟩ := top_diff 12 _ _ (tN_lt hs) (tN_lt hlt) hst
    obtain ⟨m, hm, r1, r2, r3⟩ := top_diff 12 _ _ (tN_lt hlt) (tN_lt hlo) q
    have q1 : bt s i = false := q1
    have q2 : bt t i = true := q2
    have q3 : ∀ k, i < k → bt s k = bt t k := q3
    have r1 : bt t m = false := r1
    have r2 : bt ((s - l) &&& l) m = true := r2
    have r3 : ∀ k, m < k → bt t k = bt ((s - l) &&& l) k := r3
    have hij : j ≤ i := by
      refine Nat.le_of_not_lt (fun hlt => hno i hlt ?_)
      rw [hD i (by omega), ht i (by omega) q2, q1]; rfl
    have hmj : j ≤ m := by
      refine Nat.le_of_not_lt (fun hlt => ?_)
      rw [hbit m (by omega), if_pos hlt] at r2; cases r2
    rcases Nat.lt_trichotomy m i with w | w | w
    · -- above m all agree: at i
      have a := r3 i w
      rw [q2, hbit i (by omega), if_neg (by omega)] at a
      by_cases hq : i = j
      · omega
      · rw [if_neg hq, q1] at a; cases a
    · subst w
      rw [r1] at q2; cases q2
    · have a := q3 m w
      rw [r1] at a
      rw [hbit m (by omega), if_neg (by omega), if_neg (by omega), a] at r2
      cases r2
