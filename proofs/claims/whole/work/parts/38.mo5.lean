/-! ===== lawful orders: both walks ===== -/
theorem lN_leI {a b : Nat} (ha : a < 4611686018427387904) (hb : b < 4611686018427387904) : (lN a ≤ lN b) = (a ≤ b) := propext (pk_lLE (Nat.lt_trans ha (by decide)) (Nat.lt_trans hb (by decide)))
theorem fo_found {F : Nat → Option Int64} {c : Nat → Nat} {p : Nat → Bool} {B x : Nat} (hF : ∀ u, u < 12 → F u = if p u = true then some (lN (c u)) else none) (hc : ∀ u, u < 12 → p u = true → c u ≤ B) (hB : B < 1000000000000) (hx : x < sm (fun u => if p u = true then c u else 0) 12) : ∃ u x', u < 12 ∧ p u = true ∧ x' < c u ∧ fo F (lN x) 12 = (lN x', nI u) := by
  have hT : sm (fun u => if p u = true then c u else 0) 12 ≤ 12 * B := Nat.le_trans (sm_le hc) (Nat.mul_le_mul_right _ (cn_le p 12))
  have key : ∀ j, j ≤ 12 → (∃ u x', u < j ∧ p u = true ∧ x' < c u ∧ fo F (lN x) j = (lN x', nI u)) ∨ (sm (fun u => if p u = true then c u else 0) j ≤ x ∧ fo F (lN x) j = (lN (x - sm (fun u => if p u = true then c u else 0) j), -1)) := by
    intro j
    induction j with
    | zero => intro _; exact Or.inr ⟨Nat.zero_le _, rfl⟩
    | succ j ih =>
      intro hj
      rcases ih (by omega) with ⟨u, x', h1, h2, h3, h4⟩ | ⟨h1, h2⟩
      · refine Or.inl ⟨u, x', by omega, h2, h3, ?_⟩
        have hne : ¬ (fo F (lN x) j).2 = -1 := by
          rw [h4]
          show ¬ nI u = -1
          rw [n_m1 (by omega)]; exact id
        rw [fo_s, if_neg hne]; exact h4
      · have hq : (fo F (lN x) j).2 = -1 := by rw [h2]
        rw [fo_s, if_pos hq, hF j (by omega), h2, sm]
        by_cases hp : p j = true
        · have hcj := hc j (by omega) hp
          rw [if_pos hp, if_pos hp]
          by_cases hv : c j ≤ x - sm (fun u => if p u = true then c u else 0) j
          · right
            refine ⟨by omega, ?_⟩
            simp only
            rw [if_pos (by rw [lN_leI (by omega) (by omega)]; exact hv), lN_sub hv, Nat.sub_sub]
          · left
            refine ⟨j, x - sm (fun u => if p u = true then c u else 0) j, by omega, hp, by omega, ?_⟩
            simp only
            rw [if_neg (by rw [lN_leI (by omega) (by omega)]; exact hv)]
        · right
          rw [if_neg hp, if_neg hp]
          exact ⟨by omega, rfl⟩
  rcases key 12 (Nat.le_refl 12) with ⟨u, x', h1, h2, h3, h4⟩ | ⟨h1, -⟩
  · exact ⟨u, x', h1, h2, h3, h4⟩
  · omega
theorem ord_step {bl : Nat → Int32} {l : Int32} {tb : Nat → Int64} (hl : LO l) (ht : TB bl l tb) {s : Int32} (hs : SUB s l) (h0 : 0 < cn (bt s) 12) {x c : Nat} (hc : tb (tN s) = lN c) (hcl : c ≤ 479001600) (hx : x < c) : ∃ u x' c', u < 12 ∧ bt s u = true ∧ (bt s u && decide (bl u &&& s = 0)) = true ∧ fo (oF bl tb s) (lN x) 12 = (lN x', nI u) ∧ tb (tN (clr s u)) = lN c' ∧ c' ≤ 479001600 ∧ x' < c' := by
  have hne : ¬ s = 0 := fun q => by
    rw [q, cn_congr (p := bt 0) (q := fun _ => false) (fun u _ => b_0 u), cn_0] at h0
    omega
  have hch : ∃ d : Nat → Nat, ∀ u, u < 12 → bt s u = true → d u ≤ 479001600 ∧ tb (tN (clr s u)) = lN (d u) := by
    have hw : ∀ u, u < 12 → bt s u = true → ∃ d, d ≤ 479001600 ∧ tb (tN (clr s u)) = lN d := fun u hu hb => by
      obtain ⟨d, h1, h2⟩ := ways_num hl ht _ (clr s u) rfl (clr_sub hs (by omega))
      exact ⟨d, Nat.le_trans h1 (by rw [← fc12]; exact fc_mono (cn_le _ 12)), h2⟩
    refine ⟨fun u => if h : u < 12 ∧ bt s u = true then Classical.choose (hw u h.1 h.2) else 0, fun u hu hb => ?_⟩
    simp only [dif_pos (And.intro hu hb)]
    exact Classical.choose_spec (hw u hu hb)
  obtain ⟨d, hd⟩ := hch
  have hsum : sI (tF bl tb s) 12 = lN (sm (fun u => if (bt s u && decide (bl u &&& s = 0)) = true then d u else 0) 12) := by
    refine sum_num (B := 0) (fun u hu => ?_)
    unfold tF
    by_cases hf : (bt s u && decide (bl u &&& s = 0)) = true
    · rw [if_pos hf, if_pos hf]
      exact (hd u hu (by rw [Bool.and_eq_true] at hf; exact hf.1)).2
    · rw [if_neg hf, if_neg hf]; rfl
  have hT : sm (fun u => if (bt s u && decide (bl u &&& s = 0)) = true then d u else 0) 12 ≤ 12 * 479001600 := Nat.le_trans (sm_le (B := 479001600) (fun u hu hp => (hd u hu (by rw [Bool.and_eq_true] at hp; exact hp.1)).1)) (Nat.mul_le_mul_right _ (cn_le _ 12))
  have he : c = sm (fun u => if (bt s u && decide (bl u &&& s = 0)) = true then d u else 0) 12 := by
    have a := (ht s hs).2 hne
    rw [hc, hsum] at a
    exact (pk_lEQ (by omega) (by omega)).mp a
  obtain ⟨u, x', h1, h2, h3, h4⟩ := fo_found (F := oF bl tb s) (c := d) (p := fun u => bt s u && decide (bl u &&& s = 0)) (B := 479001600) (x := x) (fun u hu => by
    unfold oF
    by_cases hf : (bt s u && decide (bl u &&& s = 0)) = true
    · rw [if_pos hf, if_pos hf, (hd u hu (by rw [Bool.and_eq_true] at hf; exact hf.1)).2]
    · rw [if_neg hf, if_neg hf]) (fun u hu hp => (hd u hu (by
      have hp : (bt s u && decide (bl u &&& s = 0)) = true := hp
      rw [Bool.and_eq_true] at hp; exact hp.1)).1) (by omega) (by rw [← he]; exact hx)
  have h2 : (bt s u && decide (bl u &&& s = 0)) = true := h2
  have hb : bt s u = true := by rw [Bool.and_eq_true] at h2; exact h2.1
  exact ⟨u, x', d u, h1, hb, h2, h4, (hd u h1 hb).2, (hd u h1 hb).1, h3⟩
theorem ord_both {n : Nat} (hn : n ≤ 12) {bl ab : Nat → Int32} {tb : Nat → Int64} {l : Int32} (hl : ∀ i, i < 32 → bt l i = true → i < n) (hbl : ∀ u, u < 12 → bl u = hld ab l u) (hab : ∀ u, u < n → ∀ i, i < 32 → bt (ab u) i = true → i < n) (ht : TB bl l tb) (r1 : (Nat → Int32) × (Nat → Int32) × (Nat → Int32) × (Nat → Int32)) (r5 : (Nat → Int64) × Int64) (hr1 : ∀ u, u < n → r1.2.1 u = ab u) (hw : WT n ab r5.1) {I : Nat} (hI : I < 4000) : ∀ (m j f7 f8 : Nat) (s : Int32) (x c : Nat) (z : Int32), j + m = I + 1 → m < f7 → m < f8 → SUB s l → m ≤ cn (bt s) 12 → tb (tN s) = lN c → c ≤ 479001600 → x < c → ∃ r, m_X4_unitOfOrder_L15 tb bl (nI I) f7 (lN x) s z (nI j) (fun x4_15 x6_15 x7_15 x8_15 => some x7_15) = some r ∧ m_X8_order_L57 (nI n) (nI I) r1 r5 f8 (cmp n s) (lN x) z (nI j) (fun x4_57 x5_57 x7_57 x8_57 => some (r1.1, r1.2.1, r1.2.2.1, r1.2.2.2, r5.1, x7_57)) = some (r1.1, r1.2.1, r1.2.2.1, r1.2.2.2, r5.1, r) := by
  have hlo : LO l := fun i h1 h2 => by
    cases hq : bt l i with
    | false => rfl
    | true => have := hl i h2 hq; omega
  intro m
  induction m with
  | zero =>
    intro j f7 f8 s x c z h1 h2 h3 hs hm hc hcl hx
    obtain ⟨f7, rfl⟩ : ∃ g, f7 = g + 1 := ⟨f7 - 1, by omega⟩
    obtain ⟨f8, rfl⟩ : ∃ g, f8 = g + 1 := ⟨f8 - 1, by omega⟩
    have hlt : I < j := by omega
    refine ⟨z, by simp (disch := omega) only [m_X4_unitOfOrder_L15, n_lt, if_pos hlt], by simp (disch := omega) only [m_X8_order_L57, n_lt, if_pos hlt]⟩
  | succ m ih =>
    intro j f7 f8 s x c z h1 h2 h3 hs hm hc hcl hx
    obtain ⟨f7, rfl⟩ : ∃ g, f7 = g + 1 := ⟨f7 - 1, by omega⟩
    obtain ⟨f8, rfl⟩ : ∃ g, f8 = g + 1 := ⟨f8 - 1, by omega⟩
    have hnl : ¬ I < j := by omega
    obtain ⟨u, x', c', q1, q2, q3, q4, q5, q6, q7⟩ := ord_step hlo ht hs (by omega) hc hcl hx
    have hun : u < n := hl u (by omega) (hs u (by omega) q2)
    have hcn := cn_clr q1 q2
    obtain ⟨z7, e7⟩ := find7 bl tb (SUB_lo hs hlo) (lN x) (fun x4_27 x7_27 x9_27 =>
    if x7_27 = (-1 : Int32) then (some (-1 : Int32))
    else (lt ((s &&& (((1 : Int32) <<< (x7_27 &&& 31)) ^^^ (-1 : Int32)))) fun v_4 =>
    m_X4_unitOfOrder_L15 tb bl (nI I) f7 x4_27 v_4 x7_27 (nI j + (1 : Int32)) (fun x4_15 x6_15 x7_15 x8_15 => some x7_15)))
    obtain ⟨z8, e8⟩ := find8 hn r1 r5 (x := cmp n s) (cmp_in hn s) (lN x) (fun x5_69 x7_69 x9_69 =>
    lt ((cmp n s ||| ((1 : Int32) <<< (x7_69 &&& 31)))) fun v_13 =>
    m_X8_order_L57 (nI n) (nI I) r1 r5 f8 v_13 x5_69 x7_69 (nI j + (1 : Int32)) (fun x4_57 x5_57 x7_57 x8_57 => some (r1.1, r1.2.1, r1.2.2.1, r1.2.2.2, r5.1, x7_57)))
    have hsame : fo (pF r1.2.1 r5.1 (cmp n s)) (lN x) n = (lN x', nI u) := by
      rw [← q4]
      have e12 : (12 : Nat) = n + (12 - n) := by omega
      rw [e12, fo_hi (F := oF bl tb s) (n := n) (12 - n) (fun v h1 h2 => by
        unfold oF
        have : bt s v = false := by
          cases hq : bt s v with
          | false => rfl
          | true => have := hl v (by omega) (hs v (by omega) hq); omega
        rw [this]; rfl)]
      refine fo_congr (fun v hv => ?_)
      unfold oF pF
      rw [hr1 v hv, ← free_same hn hl hbl hab hs hv]
      by_cases hf : (bt s v && decide (bl v &&& s = 0)) = true
      · rw [if_pos hf, if_pos hf, st1_cmp hn hv, tab_same hn hl hbl hab ht hw _ (clr s v) rfl (clr_sub hs (by omega))]
      · rw [if_neg hf, if_neg hf]
    have hu1 : ¬ nI u = -1 := by rw [n_m1 (by omega)]; exact id
    obtain ⟨r, a1, a2⟩ := ih (j + 1) f7 f8 (clr s u) x' c' (nI u) (by omega) (by omega) (by omega) (clr_sub hs (by omega)) (by omega) q5 q6 q7
    refine ⟨r, ?_, ?_⟩
    · simp (disch := omega) only [m_X4_unitOfOrder_L15, n_lt, if_neg hnl]
      rw [e7, q4]
      simp only [if_neg hu1, lt_e, nI_1]
      exact a1
    · simp (disch := omega) only [m_X8_order_L57, n_lt, if_neg hnl]
      rw [e8, hsame]
      simp only [lt_e, nI_1]
      have e := st1_cmp hn (s := s) hun
      unfold st1 at e
      rw [e]
      exact a2
