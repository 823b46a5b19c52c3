/-! ===== rank: phases that come after ===== -/
def pu (n : Nat) (rc ph : Nat → Int32) (p : Nat) : Int32 := bs (fun q => !decide (q = p) && ov n rc ph (nI p) (nI q)) 6
theorem pu_lo {n : Nat} {rc ph : Nat → Int32} {p v : Nat} (hv : v < 32) (h : bt (pu n rc ph p) v = true) : v < 6 := by
  unfold pu at h
  rw [bt_bs _ hv 6 (by omega)] at h
  by_cases q : v < 6
  · exact q
  · simp [q] at h
theorem ov_congr {n : Nat} {rc rd ph pk : Nat → Int32} (p q : Int32) (h : ∀ u, u < n → rd u = rc u) (h2 : ∀ u, u < n → pk u = ph u) : ov n rd pk p q = ov n rc ph p q := by
  unfold ov
  rw [fr_congr p q h h2, fr_congr q p h h2]
theorem pu_congr {n : Nat} {rc rd ph pk : Nat → Int32} (p : Nat) (h : ∀ u, u < n → rd u = rc u) (h2 : ∀ u, u < n → pk u = ph u) : pu n rd pk p = pu n rc ph p := by
  unfold pu
  exact bs_congr (fun q _ => by rw [ov_congr _ _ h h2])
theorem under7 {n : Nat} (hn : n ≤ 12) (rc tr : Nat → Int32) {p : Nat} (hp : p < 6) : m_X7_phasesUnder (nI n) tr (nI n) rc (nI p) = some (pu n rc (fun u => tr (48 + u)) p) := by
  unfold m_X7_phasesUnder
  exact bsl (fun f i a => m_X7_phasesUnder_L4 (nI n) (nI n) tr rc (nI p) f a i (fun x2_4 x3_4 => some x2_4)) (fun a => some a) 6 (fun q => !decide (q = p) && ov n rc (fun u => tr (48 + u)) (nI p) (nI q)) (by omega)
    (fun f j a hj => by
      by_cases h1 : j = p
      · subst h1
        simp (disch := omega) only [m_X7_phasesUnder_L4, l_le (k := 6), Nat.not_le.mpr hj, if_false, if_true, nI_1, decide_true, Bool.not_true, Bool.false_and, Bool.false_eq_true]
      · by_cases h2 : ov n rc (fun u => tr (48 + u)) (nI p) (nI j) = true
        · simp (disch := omega) only [m_X7_phasesUnder_L4, l_le (k := 6), Nat.not_le.mpr hj, if_false, n_eq, if_neg h1, over7 hn, cl_s, if_c, if_10, if_00, if_true, h2, lt_e, nI_1, h1, decide_false, Bool.not_false, Bool.true_and]
        · simp (disch := omega) only [m_X7_phasesUnder_L4, l_le (k := 6), Nat.not_le.mpr hj, if_false, n_eq, if_neg h1, over7 hn, cl_s, if_c, if_10, if_00, if_true, h2, lt_e, nI_1, Bool.and_false, Bool.false_eq_true])
    (fun f a => by simp (disch := omega) only [m_X7_phasesUnder_L4, l_le (k := 6), Nat.le_refl, if_true])
/-- one turn over the phases below p -/
def tn (o : Nat → Int32) (s : Int32) : Nat → Int32
  | 0 => s
  | p + 1 => if bt (tn o s p) p = true then tn o s p ||| o p else tn o s p
def trn (o : Nat → Int32) : Nat → Int32 → Int32
  | 0, s => s
  | r + 1, s => trn o r (tn o s 6)
theorem tn_ge {o : Nat → Int32} {s : Int32} {v : Nat} (h : bt s v = true) : ∀ p, bt (tn o s p) v = true
  | 0 => h
  | p + 1 => by
    have ih := tn_ge (o := o) h p
    rw [tn]
    split
    · rw [b_or, ih]; rfl
    · exact ih
theorem tn_up {o : Nat → Int32} {s : Int32} {v p : Nat} (h : bt (tn o s p) v = true) : ∀ d, bt (tn o s (p + d)) v = true
  | 0 => h
  | d + 1 => by
    have ih := tn_up (o := o) h d
    show bt (tn o s (p + d + 1)) v = true
    rw [tn]
    split
    · rw [b_or, ih]; rfl
    · exact ih
def CLS (o : Nat → Int32) (s : Int32) : Prop := ∀ p, p < 6 → bt s p = true → ∀ v, v < 32 → bt (o p) v = true → bt s v = true
theorem tn_fix {o : Nat → Int32} {s : Int32} (h : ∀ v, v < 32 → bt (tn o s 6) v = true → bt s v = true) : CLS o s := by
  intro p hp hs v hv ho
  have h1 : bt (tn o s p) p = true := tn_ge hs p
  have h2 : bt (tn o s (p + 1)) v = true := by
    rw [tn, if_pos h1, b_or, ho, Bool.or_true]
  have h3 := tn_up h2 (6 - (p + 1))
  rw [show p + 1 + (6 - (p + 1)) = 6 by omega] at h3
  exact h v hv h3
theorem tn_in {o : Nat → Int32} {s c : Int32} (hc : CLS o c) (hs : ∀ v, v < 32 → bt s v = true → bt c v = true) : ∀ p, p ≤ 6 → ∀ v, v < 32 → bt (tn o s p) v = true → bt c v = true
  | 0, _ => hs
  | p + 1, hp => by
    intro v hv h
    have ih := tn_in hc hs p (by omega)
    rw [tn] at h
    split at h
    · rename_i q
      rw [b_or, Bool.or_eq_true] at h
      rcases h with h | h
      · exact ih v hv h
      · exact hc p (by omega) (ih p (by omega) q) v hv h
    · exact ih v hv h
theorem tn_lo {o : Nat → Int32} {s : Int32} (ho : ∀ p, p < 6 → ∀ v, v < 32 → bt (o p) v = true → v < 6) (hs : ∀ v, v < 32 → bt s v = true → v < 6) : ∀ p, p ≤ 6 → ∀ v, v < 32 → bt (tn o s p) v = true → v < 6
  | 0, _ => hs
  | p + 1, hp => by
    intro v hv h
    have ih := tn_lo ho hs p (by omega)
    rw [tn] at h
    split at h
    · rw [b_or, Bool.or_eq_true] at h
      rcases h with h | h
      · exact ih v hv h
      · exact ho p (by omega) v hv h
    · exact ih v hv h
theorem tn_same {o : Nat → Int32} {s : Int32} (h : ∀ v, v < 32 → bt (tn o s 6) v = true → bt s v = true) : tn o s 6 = s := b_ext (fun v hv => Bool.eq_iff_iff.mpr ⟨h v hv, fun q => tn_ge q 6⟩)
theorem trn_same {o : Nat → Int32} {s : Int32} (h : tn o s 6 = s) : ∀ r, trn o r s = s
  | 0 => rfl
  | r + 1 => by rw [trn, h]; exact trn_same h r
theorem trn_cls {o : Nat → Int32} (ho : ∀ p, p < 6 → ∀ v, v < 32 → bt (o p) v = true → v < 6) : ∀ (r : Nat) (s : Int32), (∀ v, v < 32 → bt s v = true → v < 6) → 6 ≤ cn (bt s) 6 + r → CLS o (trn o r s)
  | 0, s, hs, h => by
    intro p hp _ v hv hov
    have hv6 := ho p hp v hv hov
    refine Classical.byContradiction (fun q => ?_)
    have h1 := cn_lt (p := bt s) (q := fun _ => true) (n := 6) (fun _ _ _ => rfl) v hv6 rfl q
    rw [cn_all] at h1
    omega
  | r + 1, s, hs, h => by
    by_cases q : ∀ v, v < 32 → bt (tn o s 6) v = true → bt s v = true
    · have e := tn_same q
      rw [trn, e, trn_same e r]
      exact tn_fix q
    · rw [trn]
      refine trn_cls ho r (tn o s 6) (tn_lo ho hs 6 (by omega)) ?_
      have h2 : ∃ v, v < 32 ∧ bt (tn o s 6) v = true ∧ ¬ bt s v = true := by
        refine Classical.byContradiction (fun q2 => q (fun v hv h3 => ?_))
        exact Classical.byContradiction (fun h4 => q2 ⟨v, hv, h3, h4⟩)
      obtain ⟨v, hv, h3, h4⟩ := h2
      have h1 := cn_lt (p := bt s) (q := bt (tn o s 6)) (n := 6) (fun w _ hw => tn_ge hw 6) v (tn_lo ho hs 6 (by omega) v hv h3) h3 h4
      omega
theorem trn_in {o : Nat → Int32} {c : Int32} (hc : CLS o c) : ∀ (r : Nat) (s : Int32), (∀ v, v < 32 → bt s v = true → bt c v = true) → ∀ v, v < 32 → bt (trn o r s) v = true → bt c v = true
  | 0, _, hs => hs
  | r + 1, s, hs => by
    rw [trn]
    exact trn_in hc r (tn o s 6) (tn_in hc hs 6 (by omega))
theorem trn_ge {o : Nat → Int32} {v : Nat} : ∀ (r : Nat) (s : Int32), bt s v = true → bt (trn o r s) v = true
  | 0, _, h => h
  | r + 1, s, h => by rw [trn]; exact trn_ge r _ (tn_ge h 6)
theorem trn_lo {o : Nat → Int32} (ho : ∀ p, p < 6 → ∀ v, v < 32 → bt (o p) v = true → v < 6) : ∀ (r : Nat) (s : Int32), (∀ v, v < 32 → bt s v = true → v < 6) → ∀ v, v < 32 → bt (trn o r s) v = true → v < 6
  | 0, _, hs => hs
  | r + 1, s, hs => by rw [trn]; exact trn_lo ho r _ (tn_lo ho hs 6 (by omega))
/-- the two closings differ by the phase itself at most -/
theorem rank_same {o : Nat → Int32} (ho : ∀ p, p < 6 → ∀ v, v < 32 → bt (o p) v = true → v < 6) {p : Nat} (hp : p < 6) {v : Nat} (hv : v < 32) : bt (trn o 6 ((1 : Int32) <<< (nI p &&& 31))) v = (bt (trn o 5 (o p)) v || decide (v = p)) := by
  have h1s : ∀ v, v < 32 → bt ((1 : Int32) <<< (nI p &&& 31)) v = true → v < 6 := fun v hv q => by
    rw [b_sh (by omega) hv, decide_eq_true_eq] at q; omega
  have hpp : bt ((1 : Int32) <<< (nI p &&& 31)) p = true := by rw [b_sh (by omega) (by omega)]; simp
  have c8 : CLS o (trn o 6 ((1 : Int32) <<< (nI p &&& 31))) := trn_cls ho 6 _ h1s (by omega)
  have g8 : bt (trn o 6 ((1 : Int32) <<< (nI p &&& 31))) p = true := trn_ge 6 _ hpp
  have c7 : CLS o (trn o 5 (o p)) := by
    by_cases hz : ∃ w, w < 6 ∧ bt (o p) w = true
    · obtain ⟨w, hw, hb⟩ := hz
      have := cn_pos (p := bt (o p)) (n := 6) w hw hb
      exact trn_cls ho 5 _ (ho p hp) (by omega)
    · have e0 : o p = 0 := b_ext (fun i hi => by
        rw [b_0]
        exact tt_of (fun q => hz ⟨i, ho p hp i hi q, q⟩))
      have e1 : ∀ k, tn o 0 k = 0 := fun k => by
        induction k with
        | zero => rfl
        | succ k ih => rw [tn, ih, b_0]; rfl
      rw [e0, trn_same (e1 6) 5]
      intro p hp h
      rw [b_0] at h; cases h
  apply Bool.eq_iff_iff.mpr
  rw [Bool.or_eq_true, decide_eq_true_eq]
  constructor
  · intro q
    have hc : CLS o (trn o 5 (o p) ||| ((1 : Int32) <<< (nI p &&& 31))) := by
      intro x hx h w hw hb
      rw [b_or, Bool.or_eq_true] at h ⊢
      rcases h with h | h
      · exact Or.inl (c7 x hx h w hw hb)
      · rw [b_sh (by omega) (by omega), decide_eq_true_eq] at h
        subst h
        exact Or.inl (trn_ge 5 _ hb)
    have := trn_in hc 6 ((1 : Int32) <<< (nI p &&& 31)) (fun v hv h => by rw [b_or, h, Bool.or_true]) v hv q
    rw [b_or, Bool.or_eq_true, b_sh (by omega) hv, decide_eq_true_eq] at this
    exact this
  · rintro (q | rfl)
    · exact trn_in c8 5 (o p) (fun v hv h => c8 p hp g8 v hv h) v hv q
    · exact g8
theorem tn_congr {o o' : Nat → Int32} (h : ∀ p, p < 6 → o' p = o p) (s : Int32) : ∀ p, p ≤ 6 → tn o' s p = tn o s p
  | 0, _ => rfl
  | p + 1, hp => by rw [tn, tn, tn_congr h s p (by omega), h p (by omega)]
theorem trn_congr {o o' : Nat → Int32} (h : ∀ p, p < 6 → o' p = o p) : ∀ (r : Nat) (s : Int32), trn o' r s = trn o r s
  | 0, _ => rfl
  | r + 1, s => by rw [trn, trn, tn_congr h s 6 (by omega)]; exact trn_congr h r _
/-! the loops -/
theorem rank7_31 {n : Nat} (hn : n ≤ 12) (tr : Nat → Int32) (r3 : Int32 × (Nat → Int32) × (Nat → Int32) × (Nat → Int32)) (h3 : r3.1 = nI n) (s : Int32) (k : Int32 → Int32 → Option (Int32 × (Nat → Int32) × (Nat → Int32) × (Nat → Int32) × Int32)) : m_X7_rank_L31 (nI n) tr r3 FU s 0 k = k (tn (pu n r3.2.2.2 (fun u => tr (48 + u))) s 6) (nI 6) := by
  obtain ⟨s', h1, h2⟩ := lpx (fun f i (s : Int32) => m_X7_rank_L31 (nI n) tr r3 f s i k) (fun s => k s (nI 6)) 6 (fun j x => x = tn (pu n r3.2.2.2 (fun u => tr (48 + u))) s j)
    (fun f j x hj h => by
      have hu := under7 hn r3.2.2.2 tr hj
      by_cases hb : bt x j = true
      · refine ⟨x ||| pu n r3.2.2.2 (fun u => tr (48 + u)) j, by simp (disch := omega) only [m_X7_rank_L31, l_le (k := 6), Nat.not_le.mpr hj, if_false, hb7, cl_s, if_c, if_10, if_00, if_true, Bool.false_eq_true, if_pos hb, h3, hu, nI_1], ?_⟩
        rw [tn, ← h, if_pos hb]
      · refine ⟨x, by simp (disch := omega) only [m_X7_rank_L31, l_le (k := 6), Nat.not_le.mpr hj, if_false, hb7, cl_s, if_c, if_10, if_00, if_true, Bool.false_eq_true, if_neg hb, nI_1], ?_⟩
        rw [tn, ← h, if_neg hb])
    (fun f s _ => by simp (disch := omega) only [m_X7_rank_L31, l_le (k := 6), Nat.le_refl, if_true]) 0 s (by omega) (by omega) rfl
  subst h1
  exact h2
theorem trn_succ {o : Nat → Int32} : ∀ (r : Nat) (s : Int32), trn o (r + 1) s = tn o (trn o r s) 6
  | 0, _ => rfl
  | r + 1, s => by
    rw [trn, trn_succ r (tn o s 6)]
    rfl
theorem rank7_22 {n : Nat} (hn : n ≤ 12) (tr : Nat → Int32) (r3 : Int32 × (Nat → Int32) × (Nat → Int32) × (Nat → Int32)) (h3 : r3.1 = nI n) (s : Int32) (k : Int32 → Int32 → Option (Int32 × (Nat → Int32) × (Nat → Int32) × (Nat → Int32) × Int32)) : m_X7_rank_L22 (nI n) tr r3 FU s 1 k = k (trn (pu n r3.2.2.2 (fun u => tr (48 + u))) 5 s) (nI 6) := by
  obtain ⟨s', h1, h2⟩ := lpx (fun f i (s : Int32) => m_X7_rank_L22 (nI n) tr r3 f s i k) (fun s => k s (nI 6)) 6 (fun j x => 1 ≤ j ∧ x = trn (pu n r3.2.2.2 (fun u => tr (48 + u))) (j - 1) s)
    (fun f j x hj h => by
      refine ⟨tn (pu n r3.2.2.2 (fun u => tr (48 + u))) x 6, ?_, by omega, ?_⟩
      · simp (disch := omega) only [m_X7_rank_L22, l_le (k := 6), Nat.not_le.mpr hj, if_false]
        rw [rank7_31 hn tr r3 h3, nI_1]
      · obtain ⟨i, rfl⟩ : ∃ i, j = i + 1 := ⟨j - 1, by omega⟩
        rw [h.2]
        exact (trn_succ i s).symm)
    (fun f s _ => by simp (disch := omega) only [m_X7_rank_L22, l_le (k := 6), Nat.le_refl, if_true]) 1 s (by omega) (by omega) ⟨Nat.le_refl 1, rfl⟩
  rw [h1.2] at h2
  exact h2
theorem rank8_38 {n : Nat} (hn : n ≤ 12) (ph : Nat → Int32) (r3 : (Nat → Int32) × (Nat → Int32) × (Nat → Int32) × (Nat → Int32)) (s : Int32) {p : Nat} (hp : p < 6) (k : Int32 → Int32 → Option ((Nat → Int32) × (Nat → Int32) × (Nat → Int32) × (Nat → Int32) × Int32)) : m_X8_rank_L38 (nI n) ph r3 (nI p) FU s 0 k = k (if bt s p = true then s ||| pu n r3.2.2.1 ph p else s) (nI 6) := by
  obtain ⟨s', h1, h2⟩ := lpx (fun f i (s : Int32) => m_X8_rank_L38 (nI n) ph r3 (nI p) f s i k) (fun s => k s (nI 6)) 6 (fun j x => ∀ v, v < 32 → (bt x v = true ↔ bt s v = true ∨ (bt s p = true ∧ v < j ∧ v ≠ p ∧ ov n r3.2.2.1 ph (nI p) (nI v) = true)))
    (fun f j x hj h => by
      have hxp : bt x p = true ↔ bt s p = true := by
        rw [h p (by omega)]
        constructor
        · rintro (q | ⟨-, -, q, -⟩)
          · exact q
          · exact absurd rfl q
        · exact Or.inl
      have hkeep : ¬ (bt s p = true ∧ j ≠ p ∧ ov n r3.2.2.1 ph (nI p) (nI j) = true) → ∀ v, v < 32 → (bt (x ||| 0) v = true ↔ bt s v = true ∨ (bt s p = true ∧ v < j + 1 ∧ v ≠ p ∧ ov n r3.2.2.1 ph (nI p) (nI v) = true)) := by
        intro hno v hv
        rw [or_00, h v hv]
        constructor
        · rintro (q | ⟨q1, q2, q3⟩)
          · exact Or.inl q
          · exact Or.inr ⟨q1, by omega, q3⟩
        · rintro (q | ⟨q1, q2, q3, q4⟩)
          · exact Or.inl q
          · by_cases hq : v = j
            · subst hq; exact absurd ⟨q1, q3, q4⟩ hno
            · exact Or.inr ⟨q1, by omega, q3, q4⟩
      by_cases hb : bt x p = true
      · by_cases h1 : p = j
        · refine ⟨x ||| 0, by simp (disch := omega) only [m_X8_rank_L38, l_le (k := 6), Nat.not_le.mpr hj, if_false, hb8, cl_s, if_c, if_10, if_00, if_true, Bool.false_eq_true, if_pos hb, n_eq, if_pos h1, nI_1], hkeep (fun q => q.2.1 h1.symm)⟩
        · by_cases h2 : ov n r3.2.2.1 ph (nI p) (nI j) = true
          · refine ⟨x ||| ((1 : Int32) <<< (nI j &&& 31)), by simp (disch := omega) only [m_X8_rank_L38, l_le (k := 6), Nat.not_le.mpr hj, if_false, hb8, cl_s, if_c, if_10, if_00, if_true, Bool.false_eq_true, if_pos hb, n_eq, if_neg h1, over8 hn, if_pos h2, lt_e, nI_1], fun v hv => ?_⟩
            rw [b_or, Bool.or_eq_true, h v hv, b_sh (by omega) hv, decide_eq_true_eq]
            constructor
            · rintro ((q | ⟨q1, q2, q3⟩) | rfl)
              · exact Or.inl q
              · exact Or.inr ⟨q1, by omega, q3⟩
              · exact Or.inr ⟨hxp.mp hb, by omega, fun q => h1 q.symm, h2⟩
            · rintro (q | ⟨q1, q2, q3, q4⟩)
              · exact Or.inl (Or.inl q)
              · by_cases hq : v = j
                · exact Or.inr hq
                · exact Or.inl (Or.inr ⟨q1, by omega, q3, q4⟩)
          · refine ⟨x ||| 0, by simp (disch := omega) only [m_X8_rank_L38, l_le (k := 6), Nat.not_le.mpr hj, if_false, hb8, cl_s, if_c, if_10, if_00, if_true, Bool.false_eq_true, if_pos hb, n_eq, if_neg h1, over8 hn, if_neg h2, lt_e, nI_1], hkeep (fun q => h2 q.2.2)⟩
      · refine ⟨x ||| 0, by simp (disch := omega) only [m_X8_rank_L38, l_le (k := 6), Nat.not_le.mpr hj, if_false, hb8, cl_s, if_c, if_10, if_00, if_true, Bool.false_eq_true, if_neg hb, nI_1], hkeep (fun q => hb (hxp.mpr q.1))⟩)
    (fun f s _ => by simp (disch := omega) only [m_X8_rank_L38, l_le (k := 6), Nat.le_refl, if_true]) 0 s (by omega) (by omega) (fun v hv => by simp)
  have e : s' = if bt s p = true then s ||| pu n r3.2.2.1 ph p else s := by
    apply b_ext
    intro v hv
    apply Bool.eq_iff_iff.mpr
    rw [h1 v hv]
    by_cases hb : bt s p = true
    · rw [if_pos hb, b_or, Bool.or_eq_true, pu, bt_bs _ hv 6 (by omega)]
      simp only [hb, true_and, Bool.and_eq_true, decide_eq_true_eq, Bool.not_eq_true', decide_eq_false_iff_not]
    · rw [if_neg hb]
      simp [hb]
  rw [← e]
  exact h2
theorem rank8_28 {n : Nat} (hn : n ≤ 12) (ph : Nat → Int32) (r3 : (Nat → Int32) × (Nat → Int32) × (Nat → Int32) × (Nat → Int32)) (s : Int32) (k : Int32 → Int32 → Option ((Nat → Int32) × (Nat → Int32) × (Nat → Int32) × (Nat → Int32) × Int32)) : m_X8_rank_L28 (nI n) ph r3 FU s 0 k = k (tn (pu n r3.2.2.1 ph) s 6) (nI 6) := by
  obtain ⟨s', h1, h2⟩ := lpx (fun f i (s : Int32) => m_X8_rank_L28 (nI n) ph r3 f s i k) (fun s => k s (nI 6)) 6 (fun j x => x = tn (pu n r3.2.2.1 ph) s j)
    (fun f j x hj h => by
      refine ⟨if bt x j = true then x ||| pu n r3.2.2.1 ph j else x, ?_, by rw [tn, ← h]⟩
      simp (disch := omega) only [m_X8_rank_L28, l_le (k := 6), Nat.not_le.mpr hj, if_false]
      rw [rank8_38 hn ph r3 x hj, nI_1])
    (fun f s _ => by simp (disch := omega) only [m_X8_rank_L28, l_le (k := 6), Nat.le_refl, if_true]) 0 s (by omega) (by omega) rfl
  subst h1
  exact h2
theorem rank8_19 {n : Nat} (hn : n ≤ 12) (ph : Nat → Int32) (r3 : (Nat → Int32) × (Nat → Int32) × (Nat → Int32) × (Nat → Int32)) (s : Int32) (k : Int32 → Int32 → Option ((Nat → Int32) × (Nat → Int32) × (Nat → Int32) × (Nat → Int32) × Int32)) : m_X8_rank_L19 (nI n) ph r3 FU s 0 k = k (trn (pu n r3.2.2.1 ph) 6 s) (nI 6) := by
  obtain ⟨s', h1, h2⟩ := lpx (fun f i (s : Int32) => m_X8_rank_L19 (nI n) ph r3 f s i k) (fun s => k s (nI 6)) 6 (fun j x => x = trn (pu n r3.2.2.1 ph) j s)
    (fun f j x hj h => by
      refine ⟨tn (pu n r3.2.2.1 ph) x 6, ?_, by rw [h]; exact (trn_succ j s).symm⟩
      simp (disch := omega) only [m_X8_rank_L19, l_le (k := 6), Nat.not_le.mpr hj, if_false]
      rw [rank8_28 hn ph r3 x, nI_1])
    (fun f s _ => by simp (disch := omega) only [m_X8_rank_L19, l_le (k := 6), Nat.le_refl, if_true]) 0 s (by omega) (by omega) rfl
  subst h1
  exact h2
/-- the two counts -/
theorem rank_cnt {o : Nat → Int32} (ho : ∀ p, p < 6 → ∀ v, v < 32 → bt (o p) v = true → v < 6) {p : Nat} (hp : p < 6) : m_J6_bitCount_0f7a4 (trn o 5 (o p) &&& (((1 : Int32) <<< (nI p &&& 31)) ^^^ (-1))) = some (nI (cn (bt (trn o 6 ((1 : Int32) <<< (nI p &&& 31)))) 12) - 1) := by
  have hlo := trn_lo ho 5 (o p) (ho p hp)
  have hb : ∀ v, v < 32 → bt (trn o 5 (o p) &&& (((1 : Int32) <<< (nI p &&& 31)) ^^^ (-1))) v = (bt (trn o 5 (o p)) v && !decide (v = p)) := fun v hv => by
    rw [b_and, b_not _ hv, b_sh (by omega) hv]
  rw [pop7 (fun i h1 h2 => by
    rw [hb i h2]
    cases hq : bt (trn o 5 (o p)) i with
    | false => rfl
    | true => have := hlo i h2 hq; omega)]
  have e : cn (bt (trn o 6 ((1 : Int32) <<< (nI p &&& 31)))) 12 = cn (bt (trn o 5 (o p) &&& (((1 : Int32) <<< (nI p &&& 31)) ^^^ (-1)))) 12 + if true = true then 1 else 0 := by
    refine cn_add (b := p) (c := true) (by omega) (by rw [hb p (by omega)]; simp) (fun v hv => ?_)
    rw [rank_same ho hp (by omega), hb v (by omega)]
    by_cases hq : v = p
    · simp [hq]
    · simp [hq]
  rw [e, if_pos rfl, nI_pred]
