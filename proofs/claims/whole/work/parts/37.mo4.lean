/-! ===== lawful orders: one by its number ===== -/
/-- the first free unit whose ways hold the number; what is left of the number -/
def fo (F : Nat → Option Int64) (a : Int64) : Nat → Int64 × Int32
  | 0 => (a, -1)
  | j + 1 => if (fo F a j).2 = -1 then (match F j with
      | some v => if v ≤ (fo F a j).1 then ((fo F a j).1 - v, -1) else ((fo F a j).1, nI j)
      | none => fo F a j) else fo F a j
theorem fo_s (F : Nat → Option Int64) (a : Int64) (j : Nat) : fo F a (j + 1) = if (fo F a j).2 = -1 then (match F j with
      | some v => if v ≤ (fo F a j).1 then ((fo F a j).1 - v, -1) else ((fo F a j).1, nI j)
      | none => fo F a j) else fo F a j := rfl
theorem fo_keep {F : Nat → Option Int64} {a : Int64} {j : Nat} (h : ¬ (fo F a j).2 = -1) : ∀ d, fo F a (j + d) = fo F a j
  | 0 => rfl
  | d + 1 => by
    show fo F a (j + d + 1) = _
    have ih := fo_keep h d
    rw [fo_s, ih, if_neg h]
theorem fo_none {F : Nat → Option Int64} {a : Int64} {j : Nat} (h : F j = none) : fo F a (j + 1) = fo F a j := by
  rw [fo_s, h]
  by_cases q : (fo F a j).2 = -1
  · rw [if_pos q]
  · rw [if_neg q]
theorem fo_hi {F : Nat → Option Int64} {a : Int64} {n : Nat} : ∀ m, (∀ u, n ≤ u → u < n + m → F u = none) → fo F a (n + m) = fo F a n
  | 0, _ => rfl
  | m + 1, h => by
    show fo F a (n + m + 1) = _
    rw [fo_none (h (n + m) (by omega) (by omega))]
    exact fo_hi m (fun u h1 h2 => h u h1 (by omega))
theorem fo_congr {F G : Nat → Option Int64} {a : Int64} : ∀ {n : Nat}, (∀ u, u < n → F u = G u) → fo F a n = fo G a n
  | 0, _ => rfl
  | n + 1, h => by rw [fo_s, fo_s, fo_congr (fun u hu => h u (by omega)), h n (by omega)]
def oF (bl : Nat → Int32) (tb : Nat → Int64) (s : Int32) (u : Nat) : Option Int64 := if (bt s u && decide (bl u &&& s = 0)) = true then some (tb (tN (clr s u))) else none
def pF (ov : Nat → Int32) (w : Nat → Int64) (x : Int32) (u : Nat) : Option Int64 := if (!bt x u && decide (ov u &&& (x ^^^ (-1)) = 0)) = true then some (w (tN (st1 x u))) else none
theorem free7 (bl : Nat → Int32) (s : Int32) {u : Nat} (hu : u < 12) : m_X4_isFree bl s (nI u) = some (if (bt s u && decide (bl u &&& s = 0)) = true then 1 else 0) := by
  unfold m_X4_isFree
  rw [hb7 s (by omega), cl_s, if_c]
  by_cases h1 : bt s u = true
  · rw [if_pos h1, ag_n hu (by omega)]
    by_cases h2 : bl u &&& s = 0
    · simp [h1, h2]
    · simp [h1, h2]
  · rw [if_neg h1]
    simp [h1]
theorem cmp_ge {x y : Int64} : (0 ≤ lg_cmp x y) = (y ≤ x) := propext (lg_cmp_ge x y)
theorem find7 (bl : Nat → Int32) (tb : Nat → Int64) {s : Int32} (hs : LO s) (a : Int64) (k : Int64 → Int32 → Int32 → Option Int32) : ∃ z, m_X4_unitOfOrder_L27 tb bl s FU a (-1) 0 k = k (fo (oF bl tb s) a 12).1 (fo (oF bl tb s) a 12).2 z := by
  obtain ⟨s', h1, h2⟩ := lpk (fun f i (x : Int64 × Int32 × Int32) => m_X4_unitOfOrder_L27 tb bl s f x.1 x.2.1 i k) (fun x => k x.1 x.2.1 x.2.2) 12 (fun j x => (x.1, x.2.1) = fo (oF bl tb s) a j ∧ x.2.2 = nI j) (fun x => (x.1, x.2.1) = fo (oF bl tb s) a 12)
    (fun f j x hj h => by
      obtain ⟨h, hx⟩ := h
      have e1 : x.1 = (fo (oF bl tb s) a j).1 := congrArg Prod.fst h
      have e2 : x.2.1 = (fo (oF bl tb s) a j).2 := congrArg Prod.snd h
      by_cases hq : x.2.1 = -1
      · left
        have hq2 : (fo (oF bl tb s) a j).2 = -1 := by rw [← e2]; exact hq
        by_cases hf : (bt s j && decide (bl j &&& s = 0)) = true
        · have hcl : LO (s &&& (((1 : Int32) <<< (nI j &&& 31)) ^^^ (-1))) := SUB_lo (clr_sub (l := s) (fun i hi q => q) (by omega)) hs
          have hF : oF bl tb s j = some (tb (tN (clr s j))) := if_pos hf
          by_cases hv : tb (tN (clr s j)) ≤ x.1
          · refine ⟨(x.1 - tb (tN (clr s j)), -1, nI (j + 1)), ?_, ?_, rfl⟩
            · have hv2 : tb (tN (s &&& (((1 : Int32) <<< (nI j &&& 31)) ^^^ (-1)))) ≤ x.1 := hv
              simp (disch := first | omega | exact hcl) only [m_X4_unitOfOrder_L27, l_le (k := 12), Nat.not_le.mpr hj, if_false, hq, if_true, free7, cl_s, if_c, if_10, if_00, if_pos hf, ag_s, cmp_ge, if_pos hv2, nI_1]
              rfl
            · show (x.1 - tb (tN (clr s j)), (-1 : Int32)) = fo (oF bl tb s) a (j + 1)
              rw [fo_s, if_pos hq2, hF, ← e1]
              simp only [if_pos hv]
          · refine ⟨(x.1, nI j, nI (j + 1)), ?_, ?_, rfl⟩
            · have hv2 : ¬ tb (tN (s &&& (((1 : Int32) <<< (nI j &&& 31)) ^^^ (-1)))) ≤ x.1 := hv
              simp (disch := first | omega | exact hcl) only [m_X4_unitOfOrder_L27, l_le (k := 12), Nat.not_le.mpr hj, if_false, hq, if_true, free7, cl_s, if_c, if_10, if_00, if_pos hf, ag_s, cmp_ge, if_neg hv2, nI_1]
            · show (x.1, nI j) = fo (oF bl tb s) a (j + 1)
              rw [fo_s, if_pos hq2, hF, ← e1]
              simp only [if_neg hv]
        · have hF : oF bl tb s j = none := if_neg hf
          refine ⟨(x.1, x.2.1, nI (j + 1)), ?_, ?_, rfl⟩
          · simp (disch := omega) only [m_X4_unitOfOrder_L27, l_le (k := 12), Nat.not_le.mpr hj, if_false, hq, if_true, free7, cl_s, if_c, if_10, if_00, if_neg hf, nI_1]
          · rw [fo_none hF]; exact h
      · right
        refine ⟨by simp (disch := omega) only [m_X4_unitOfOrder_L27, l_le (k := 12), Nat.not_le.mpr hj, if_false, if_neg hq, hx], ?_⟩
        have e12 : (12 : Nat) = j + (12 - j) := by omega
        rw [e12, fo_keep (by rw [← e2]; exact hq)]
        exact h)
    (fun f x h => ⟨by simp (disch := omega) only [m_X4_unitOfOrder_L27, l_le (k := 12), Nat.le_refl, if_true, h.2], h.1⟩) 0 (a, -1, nI 0) (by omega) (by omega) ⟨rfl, rfl⟩
  have e1 : s'.1 = (fo (oF bl tb s) a 12).1 := by rw [← h1]
  have e2 : s'.2.1 = (fo (oF bl tb s) a 12).2 := by rw [← h1]
  rw [← e1, ← e2]
  exact ⟨s'.2.2, h2⟩
abbrev OB : Type := (Nat → Int32) × (Nat → Int32) × (Nat → Int32) × (Nat → Int32) × (Nat → Int64) × Int32
theorem find8 {n : Nat} (hn : n ≤ 12) (r1 : (Nat → Int32) × (Nat → Int32) × (Nat → Int32) × (Nat → Int32)) (r5 : (Nat → Int64) × Int64) {x : Int32} (hx : ∀ i, i < 32 → bt x i = true → i < n) (a : Int64) (k : Int64 → Int32 → Int32 → Option OB) : ∃ z, m_X8_order_L69 (nI n) r1 r5 x FU a (-1) 0 k = k (fo (pF r1.2.1 r5.1 x) a n).1 (fo (pF r1.2.1 r5.1 x) a n).2 z := by
  obtain ⟨s', h1, h2⟩ := lpk (fun f i (y : Int64 × Int32 × Int32) => m_X8_order_L69 (nI n) r1 r5 x f y.1 y.2.1 i k) (fun y => k y.1 y.2.1 y.2.2) n (fun j y => (y.1, y.2.1) = fo (pF r1.2.1 r5.1 x) a j ∧ y.2.2 = nI j) (fun y => (y.1, y.2.1) = fo (pF r1.2.1 r5.1 x) a n)
    (fun f j y hj h => by
      obtain ⟨h, hy⟩ := h
      have e1 : y.1 = (fo (pF r1.2.1 r5.1 x) a j).1 := congrArg Prod.fst h
      have e2 : y.2.1 = (fo (pF r1.2.1 r5.1 x) a j).2 := congrArg Prod.snd h
      by_cases hq : y.2.1 = -1
      · left
        have hq2 : (fo (pF r1.2.1 r5.1 x) a j).2 = -1 := by rw [← e2]; exact hq
        by_cases hb : bt x j = true
        · have hF : pF r1.2.1 r5.1 x j = none := if_neg (by simp [hb])
          refine ⟨(y.1, y.2.1, nI (j + 1)), ?_, by rw [fo_none hF]; exact h, rfl⟩
          simp (disch := omega) only [m_X8_order_L69, n_le, Nat.not_le.mpr hj, if_false, hq, if_true, hb8, cl_s, if_c, if_10, if_00, if_pos hb, nI_1]
        · by_cases hc : r1.2.1 j &&& (x ^^^ (-1)) = 0
          · have hcl : LO (x ||| ((1 : Int32) <<< (nI j &&& 31))) := by
              intro i h1 h2
              have := bt_st1 x (u := j) (i := i) (by omega) h2
              unfold st1 at this
              rw [this]
              cases hb : bt x i with
              | true => have := hx i h2 hb; omega
              | false => simp; omega
            have hF : pF r1.2.1 r5.1 x j = some (r5.1 (tN (st1 x j))) := if_pos (by rw [tt_of hb]; simp only [hc, Bool.not_false, Bool.true_and, decide_true])
            by_cases hv : r5.1 (tN (st1 x j)) ≤ y.1
            · have hv2 : r5.1 (tN (x ||| ((1 : Int32) <<< (nI j &&& 31)))) ≤ y.1 := hv
              refine ⟨(y.1 - r5.1 (tN (st1 x j)), -1, nI (j + 1)), ?_, ?_, rfl⟩
              · simp (disch := first | omega | exact hcl) only [m_X8_order_L69, n_le, Nat.not_le.mpr hj, if_false, hq, if_true, hb8, cl_s, if_c, if_10, if_00, if_neg hb, ag_n, if_pos hc, ag_s, cmp_ge, if_pos hv2, nI_1]
                rfl
              · show (y.1 - r5.1 (tN (st1 x j)), (-1 : Int32)) = _
                rw [fo_s, if_pos hq2, hF, ← e1]
                simp only [if_pos hv]
            · have hv2 : ¬ r5.1 (tN (x ||| ((1 : Int32) <<< (nI j &&& 31)))) ≤ y.1 := hv
              refine ⟨(y.1, nI j, nI (j + 1)), ?_, ?_, rfl⟩
              · simp (disch := first | omega | exact hcl) only [m_X8_order_L69, n_le, Nat.not_le.mpr hj, if_false, hq, if_true, hb8, cl_s, if_c, if_10, if_00, if_neg hb, ag_n, if_pos hc, ag_s, cmp_ge, if_neg hv2, nI_1, Int64.sub_zero]
              · show (y.1, nI j) = _
                rw [fo_s, if_pos hq2, hF, ← e1]
                simp only [if_neg hv]
          · have hF : pF r1.2.1 r5.1 x j = none := if_neg (fun q => hc (by rw [Bool.and_eq_true, decide_eq_true_eq] at q; exact q.2))
            refine ⟨(y.1, y.2.1, nI (j + 1)), ?_, by rw [fo_none hF]; exact h, rfl⟩
            simp (disch := omega) only [m_X8_order_L69, n_le, Nat.not_le.mpr hj, if_false, hq, if_true, hb8, cl_s, if_c, if_10, if_00, if_neg hb, ag_n, if_neg hc, nI_1]
      · right
        refine ⟨by simp (disch := omega) only [m_X8_order_L69, n_le, Nat.not_le.mpr hj, if_false, if_neg hq, hy], ?_⟩
        have e12 : n = j + (n - j) := by omega
        rw [e12, fo_keep (by rw [← e2]; exact hq)]
        exact h)
    (fun f y h => ⟨by simp (disch := omega) only [m_X8_order_L69, n_le, Nat.le_refl, if_true, h.2], h.1⟩) 0 (a, -1, nI 0) (by omega) (by omega) ⟨rfl, rfl⟩
  have e1 : s'.1 = (fo (pF r1.2.1 r5.1 x) a n).1 := by rw [← h1]
  have e2 : s'.2.1 = (fo (pF r1.2.1 r5.1 x) a n).2 := by rw [← h1]
  rw [← e1, ← e2]
  exact ⟨s'.2.2, h2⟩
/-! the ways are numbers that don't run over -/
def fc : Nat → Nat
  | 0 => 1
  | n + 1 => (n + 1) * fc n
theorem fc_pos : ∀ n, 1 ≤ fc n
  | 0 => Nat.le_refl 1
  | n + 1 => Nat.le_trans (fc_pos n) (Nat.le_mul_of_pos_left _ (by omega))
theorem fc_mono {a b : Nat} (h : a ≤ b) : fc a ≤ fc b := by
  induction b with
  | zero => have : a = 0 := by omega
            subst this; exact Nat.le_refl _
  | succ b ih =>
    by_cases hq : a = b + 1
    · subst hq; exact Nat.le_refl _
    · exact Nat.le_trans (ih (by omega)) (Nat.le_mul_of_pos_left _ (by omega))
theorem fc12 : fc 12 = 479001600 := by decide
/-- a sum of numbers by parts: where the number lies -/
theorem sum_num {g : Nat → Int64} {c : Nat → Nat} {B : Nat} {p : Nat → Bool} : ∀ {n : Nat}, (∀ u, u < n → g u = lN (if p u = true then c u else 0)) → sI g n = lN (sm (fun u => if p u = true then c u else 0) n)
  | 0, _ => rfl
  | n + 1, h => by
    rw [sI, sm, sum_num (B := B) (fun u hu => h u (by omega)), h n (by omega), lN_add]
theorem sm_le {p : Nat → Bool} {c : Nat → Nat} {B : Nat} : ∀ {n : Nat}, (∀ u, u < n → p u = true → c u ≤ B) → sm (fun u => if p u = true then c u else 0) n ≤ cn p n * B
  | 0, _ => by simp [sm]
  | n + 1, h => by
    have ih := sm_le (p := p) (c := c) (B := B) (n := n) (fun u hu => h u (by omega))
    rw [sm, cn]
    by_cases hp : p n = true
    · rw [if_pos hp, if_pos hp, Nat.add_mul, Nat.one_mul]
      have := h n (by omega) hp
      omega
    · rw [if_neg hp, if_neg hp]
      omega
theorem cn_clr {s : Int32} {u : Nat} (hu : u < 12) (h : bt s u = true) : cn (bt s) 12 = cn (bt (clr s u)) 12 + 1 := by
  have := cn_add (p := bt (clr s u)) (q := bt s) (b := u) (c := true) (n := 12) hu (by rw [bt_clr s (by omega) (by omega)]; simp) (fun v hv => by
    rw [bt_clr s (by omega) (by omega)]
    by_cases hq : v = u
    · subst hq; simp [h]
    · simp [hq])
  rw [this, if_pos rfl]
theorem ways_num {bl : Nat → Int32} {l : Int32} {tb : Nat → Int64} (hl : LO l) (ht : TB bl l tb) : ∀ (m : Nat) (s : Int32), cn (bt s) 12 = m → SUB s l → ∃ c, c ≤ fc m ∧ tb (tN s) = lN c := by
  intro m
  induction m with
  | zero =>
    intro s hm hs
    have h0 : s = 0 := b_ext (fun i hi => by
      rw [b_0]
      cases hb : bt s i with
      | false => rfl
      | true =>
        have hi12 : i < 12 := by
          refine Nat.lt_of_not_le (fun q => ?_)
          have := SUB_lo hs hl i q hi
          rw [hb] at this; cases this
        have := cn_pos (p := bt s) (n := 12) i hi12 hb
        omega)
    exact ⟨1, Nat.le_refl 1, (ht s hs).1 h0⟩
  | succ m ih =>
    intro s hm hs
    have h0 : ¬ s = 0 := fun q => by
      rw [q, cn_congr (p := bt 0) (q := fun _ => false) (fun u _ => b_0 u), cn_0] at hm
      omega
    have hch : ∃ c : Nat → Nat, ∀ u, u < 12 → bt s u = true → c u ≤ fc m ∧ tb (tN (clr s u)) = lN (c u) := by
      refine ⟨fun u => if h : u < 12 ∧ bt s u = true then Classical.choose (ih (clr s u) (by have := cn_clr h.1 h.2; omega) (clr_sub hs (by omega))) else 0, fun u hu hb => ?_⟩
      simp only [dif_pos (And.intro hu hb)]
      exact Classical.choose_spec (ih (clr s u) (by have := cn_clr hu hb; omega) (clr_sub hs (by omega)))
    obtain ⟨c, hc⟩ := hch
    refine ⟨sm (fun u => if (bt s u && decide (bl u &&& s = 0)) = true then c u else 0) 12, ?_, ?_⟩
    · refine Nat.le_trans (sm_le (B := fc m) (fun u hu hp => (hc u hu (by rw [Bool.and_eq_true] at hp; exact hp.1)).1)) ?_
      show _ ≤ (m + 1) * fc m
      refine Nat.mul_le_mul_right _ ?_
      rw [← hm]
      exact cn_mono (fun w _ hw => by rw [Bool.and_eq_true] at hw; exact hw.1)
    · rw [(ht s hs).2 h0]
      refine sum_num (B := 0) (fun u hu => ?_)
      unfold tF
      by_cases hf : (bt s u && decide (bl u &&& s = 0)) = true
      · rw [if_pos hf, if_pos hf]
        exact (hc u hu (by rw [Bool.and_eq_true] at hf; exact hf.1)).2
      · rw [if_neg hf, if_neg hf]; rfl
