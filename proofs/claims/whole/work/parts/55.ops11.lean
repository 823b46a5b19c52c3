/-! ===== the call fits ===== -/
noncomputable def gB (P : Nat → Prop) (k : Nat) : Bool := @decide (P k) (Classical.propDecidable _)
theorem gB_t {P : Nat → Prop} {k : Nat} : gB P k = true ↔ P k := by
  unfold gB
  exact @decide_eq_true_iff (P k) (Classical.propDecidable _)
theorem gB_f {P : Nat → Prop} {k : Nat} (h : ¬ P k) : gB P k = false := tt_of (fun q => h (gB_t.mp q))
theorem tie_num (a b : Nat) : (100 : Int32) * nI a + nI b = nI (100 * a + b) := by
  show nI 100 * nI a + nI b = _
  rw [pk_mul, nI_add]
theorem fits7 {n t s : Nat} (hn : n ≤ 12) (ht : t ≤ 40) (hs : s ≤ 5) {upr lwr : Nat → Int32} {up lo : Nat → Nat} (hT : TI n t upr lwr up lo) {A B : Nat → Nat} {sf ss si : Nat → Int32} (h : ∀ k, k < s → sf k = nI (A k) ∧ ss k = nI (B k) ∧ A k < n ∧ B k < n ∧ (si k = 0 ∨ si k = 1)) (wu : Int32) (w1 w2 w3 : Nat → Int32) {a : Nat} (ha : a ≤ 1) : ∃ r, m_X7_fits (nI n) (nI t) (nI s) upr lwr sf ss si wu w1 w2 w3 (nI a) = some r ∧ (a = 0 → r.2.2.2.2 = nI (cn (gB (fun k => AGP n t s up lo A B si (nI k))) t)) ∧ (a = 1 → ff (gB (fun k => AGP n t s up lo A B si (nI k))) t = t → r.2.2.2.2 = -5) ∧ (a = 1 → ff (gB (fun k => AGP n t s up lo A B si (nI k))) t < t → r.2.2.2.2 = nI (100 * up (ff (gB (fun k => AGP n t s up lo A B si (nI k))) t) + lo (ff (gB (fun k => AGP n t s up lo A B si (nI k))) t))) := by
  unfold m_X7_fits
  have c1 : ¬ nI a < 0 := by rw [lt_l (k := 0) (by omega) (by omega)]; omega
  have c2 : nI a ≤ (1 : Int32) := by rw [le_l (k := 1) (by omega) (by omega)]; exact ha
  rw [if_neg c1, if_pos c2]
  generalize hG : gB (fun k => AGP n t s up lo A B si (nI k)) = G
  have key := lpe (fun f i (x : Int32 × Int32 × (Nat → Int32) × (Nat → Int32) × (Nat → Int32)) => m_X7_fits_L15 (nI n) (nI t) (nI s) upr lwr sf ss si (nI a) f x.1 i x.2.1 x.2.2.1 x.2.2.2.1 x.2.2.2.2 (fun x2_15 x3_15 y_f_web_units_15 y_f_web_under_15 y_f_web_above_15 y_f_web_reach_15 => if nI a = 0 then (some (y_f_web_units_15, y_f_web_under_15, y_f_web_above_15, y_f_web_reach_15, x2_15)) else (some (y_f_web_units_15, y_f_web_under_15, y_f_web_above_15, y_f_web_reach_15, (-5 : Int32))))) (fun x => if nI a = 0 then (some (x.2.1, x.2.2.1, x.2.2.2.1, x.2.2.2.2, x.1)) else (some (x.2.1, x.2.2.1, x.2.2.2.1, x.2.2.2.2, (-5 : Int32)))) t
    (fun j x => (a = 0 → x.1 = nI (cn G j)) ∧ (a = 1 → ∀ i, i < j → G i = false)) (fun r => a = 1 ∧ ff G t < t ∧ r.2.2.2.2 = nI (100 * up (ff G t) + lo (ff G t)))
    (fun f j x hj hP => by
      have c0 : ¬ nI t ≤ nI j := by rw [n_le (by omega) (by omega)]; omega
      obtain ⟨un, av, rc, W, e⟩ := weave_spec hT hn ht (nI j) x.2.1 x.2.2.1 x.2.2.2.1 x.2.2.2.2
      obtain ⟨t1, t2, t3, t4⟩ := hT j hj
      rcases agree7 hn hs W h with ⟨g1, g2⟩ | ⟨g1, g2⟩
      · have hg : G j = true := by rw [← hG]; exact gB_t.mpr g1
        by_cases ca : a = 1
        · subst ca
          have hff : ff G t = j := ff_at hj (hP.2 rfl) hg
          right
          refine ⟨(nI n, un, av, rc, nI (100 * up j + lo j)), ?_, rfl, by omega, by rw [hff]⟩
          show m_X7_fits_L15 (nI n) (nI t) (nI s) upr lwr sf ss si (nI 1) (f + 1) x.1 (nI j) x.2.1 x.2.2.1 x.2.2.2.1 x.2.2.2.2 _ = _
          rw [m_X7_fits_L15, if_neg c0, e, cl_s, g2, cl_s, if_10, if_pos (show nI 1 = (1 : Int32) from rfl)]
          unfold m_X2_tieTold
          rw [ag_n (by omega) (by omega), ag_n (by omega) (by omega), t1, t2, tie_num, cl_s]
        · have ca0 : a = 0 := by omega
          subst ca0
          left
          refine ⟨(x.1 + 1, nI n, un, av, rc), ?_, fun _ => ?_, fun q => absurd q (by omega)⟩
          · show m_X7_fits_L15 (nI n) (nI t) (nI s) upr lwr sf ss si (nI 0) (f + 1) x.1 (nI j) x.2.1 x.2.2.1 x.2.2.2.1 x.2.2.2.2 _ = _
            rw [m_X7_fits_L15, if_neg c0, e, cl_s, g2, cl_s, if_10, if_neg (show ¬ nI 0 = (1 : Int32) by decide), nI_1]
          · show x.1 + 1 = _
            rw [hP.1 rfl, nI_1, cn, if_pos hg]
      · have hg : G j = false := by rw [← hG]; exact gB_f g1
        left
        refine ⟨(x.1, nI n, un, av, rc), ?_, fun q => ?_, fun q i hi => ?_⟩
        · show m_X7_fits_L15 (nI n) (nI t) (nI s) upr lwr sf ss si (nI a) (f + 1) x.1 (nI j) x.2.1 x.2.2.1 x.2.2.2.1 x.2.2.2.2 _ = _
          rw [m_X7_fits_L15, if_neg c0, e, cl_s, g2, cl_s, if_00, nI_1]
        · show x.1 = _
          rw [hP.1 q, cn, if_neg (by rw [hg]; exact Bool.false_ne_true)]; rfl
        · by_cases q2 : i = j
          · subst q2; exact hg
          · exact hP.2 q i (by omega))
    (fun f x _ => by
      have c0 : nI t ≤ nI t := by rw [n_le (by omega) (by omega)]; omega
      show m_X7_fits_L15 (nI n) (nI t) (nI s) upr lwr sf ss si (nI a) (f + 1) x.1 (nI t) x.2.1 x.2.2.1 x.2.2.2.1 x.2.2.2.2 _ = _
      rw [m_X7_fits_L15, if_pos c0]) 0 (0, wu, w1, w2, w3) (Nat.zero_le t) (by omega) ⟨fun _ => rfl, fun _ i hi => absurd hi (Nat.not_lt_zero i)⟩
  rcases key with ⟨x, q1, q2⟩ | ⟨r, q1, q2, q3, q4⟩
  · by_cases ca : a = 0
    · have c0 : nI a = 0 := by rw [ca]; rfl
      rw [if_pos c0] at q2
      refine ⟨_, q2, fun _ => q1.1 ca, fun q => absurd q (by omega), fun q => absurd q (by omega)⟩
    · have c0 : ¬ nI a = 0 := by rw [eq_l (k := 0) (by omega) (by omega)]; exact ca
      rw [if_neg c0] at q2
      have ca1 : a = 1 := by omega
      have hff : ff G t = t := ff_none (q1.2 ca1)
      refine ⟨_, q2, fun q => absurd q ca, fun _ _ => rfl, fun _ q => absurd q (by omega)⟩
  · exact ⟨r, q1, fun q => absurd q (by omega), fun _ q => absurd q (by omega), fun _ _ => q4⟩
theorem fits8 {n t s : Nat} (hn : n ≤ 12) (ht : t ≤ 40) (hs : s ≤ 5) {ab bl : Nat → Int32} {up lo : Nat → Nat} (hT : TI n t ab bl up lo) {A B : Nat → Nat} {si sn : Nat → Int32} (h : ∀ k, k < s → sn (3 * k) = nI (A k) ∧ sn (3 * k + 1) = nI (B k) ∧ sn (3 * k + 2) = si k ∧ A k < n ∧ B k < n ∧ (si k = 0 ∨ si k = 1)) (v1 v2 v3 v4 : Nat → Int32) {a : Nat} (ha : a ≤ 1) : ∃ r, m_X8_fits (nI n) (nI t) ab bl v1 v2 v3 v4 sn (nI s) (nI a) = some r ∧ (a = 0 → r.2.2.2.2 = nI (cn (gB (fun k => AGP n t s up lo A B si (nI k))) t)) ∧ (a = 1 → ff (gB (fun k => AGP n t s up lo A B si (nI k))) t = t → r.2.2.2.2 = -5) ∧ (a = 1 → ff (gB (fun k => AGP n t s up lo A B si (nI k))) t < t → r.2.2.2.2 = nI (100 * up (ff (gB (fun k => AGP n t s up lo A B si (nI k))) t) + lo (ff (gB (fun k => AGP n t s up lo A B si (nI k))) t))) := by
  unfold m_X8_fits
  have h1 : m_X8_in (nI a) 0 1 = some 1 := by
    rcases in_cases (nI a) 1 (by omega) with ⟨-, q⟩ | ⟨j, -, -, q⟩
    · exfalso
      rcases q with q | q
      · rw [lt_l (k := 0) (by omega) (by omega)] at q; omega
      · rw [n_lt (by omega) (by omega)] at q; omega
    · exact q
  rw [h1, cl_s, if_10, n_subm]
  generalize hG : gB (fun k => AGP n t s up lo A B si (nI k)) = G
  have hmono : ∀ j, j < t → cn G j ≤ cn G t := fun j hj => by
    obtain ⟨m, rfl⟩ : ∃ m, t = j + m := ⟨t - j, by omega⟩
    have : ∀ m, cn G j ≤ cn G (j + m) := fun m => by
      induction m with
      | zero => exact Nat.le_refl _
      | succ m ih => exact Nat.le_trans ih (by show cn G (j + m) ≤ cn G (j + m + 1); rw [cn]; omega)
    exact this m
  obtain ⟨x, q1, q2⟩ := lpd (fun f i (x : Int32 × Int32 × (Nat → Int32) × (Nat → Int32) × (Nat → Int32) × (Nat → Int32)) => m_X8_fits_L24 (nI n) (nI t) (nI s) ab bl sn f x.1 x.2.1 i x.2.2.1 x.2.2.2.1 x.2.2.2.2.1 x.2.2.2.2.2 (fun x2_24 x3_24 x4_24 y_f_under_24 y_f_over_24 y_f_reached_24 y_f_reaching_24 => if nI a = 0 then (some (y_f_under_24, y_f_over_24, y_f_reached_24, y_f_reaching_24, x2_24)) else (some (y_f_under_24, y_f_over_24, y_f_reached_24, y_f_reaching_24, x3_24)))) (fun x => if nI a = 0 then (some (x.2.2.1, x.2.2.2.1, x.2.2.2.2.1, x.2.2.2.2.2, x.1)) else (some (x.2.2.1, x.2.2.2.1, x.2.2.2.2.1, x.2.2.2.2.2, x.2.1))) t
    (fun j x => x.1 = nI (cn G t - cn G j) ∧ (((∀ i, j ≤ i → i < t → G i = false) ∧ x.2.1 = -5) ∨ ∃ k, j ≤ k ∧ k < t ∧ G k = true ∧ (∀ i, j ≤ i → i < k → G i = false) ∧ x.2.1 = nI (100 * up k + lo k)))
    (fun f j x hj hP => by
      have c0 : ¬ nI j < 0 := by rw [lt_l (k := 0) (by omega) (by omega)]; omega
      obtain ⟨un, ov, rd, rg, W, -, e⟩ := works_spec hT hn ht (nI j) x.2.2.1 x.2.2.2.1 x.2.2.2.2.1 x.2.2.2.2.2
      obtain ⟨t1, t2, t3, t4⟩ := hT j hj
      have hm := hmono j hj
      rcases agree8 hn hs W h with ⟨g1, g2⟩ | ⟨g1, g2⟩
      · have hg : G j = true := by rw [← hG]; exact gB_t.mpr g1
        have hc : cn G (j + 1) = cn G j + 1 := by rw [cn, if_pos hg]
        have hm1 : cn G (j + 1) ≤ cn G t := by
          by_cases q : j + 1 = t
          · rw [q]; exact Nat.le_refl _
          · exact hmono (j + 1) (by omega)
        refine ⟨(x.1 + 1, nI (100 * up j + lo j), un, ov, rd, rg), ?_, ?_, Or.inr ⟨j, Nat.le_refl j, hj, hg, fun i q3 q4 => absurd q3 (by omega), rfl⟩⟩
        · show m_X8_fits_L24 (nI n) (nI t) (nI s) ab bl sn (f + 1) x.1 x.2.1 (nI j) x.2.2.1 x.2.2.2.1 x.2.2.2.2.1 x.2.2.2.2.2 _ = _
          rw [m_X8_fits_L24, if_neg c0, e, cl_s, g2, cl_s, if_10, ag_n (by omega) (by omega), ag_n (by omega) (by omega), t1, t2, tie_num, lt_e]
        · show x.1 + 1 = _
          rw [hP.1, nI_1]
          congr 1
          omega
      · have hg : G j = false := by rw [← hG]; exact gB_f g1
        have hc : cn G (j + 1) = cn G j := by rw [cn, if_neg (by rw [hg]; exact Bool.false_ne_true)]; rfl
        refine ⟨(x.1, x.2.1, un, ov, rd, rg), ?_, by show x.1 = _; rw [hP.1, hc], ?_⟩
        · show m_X8_fits_L24 (nI n) (nI t) (nI s) ab bl sn (f + 1) x.1 x.2.1 (nI j) x.2.2.1 x.2.2.2.1 x.2.2.2.2.1 x.2.2.2.2.2 _ = _
          rw [m_X8_fits_L24, if_neg c0, e, cl_s, g2, cl_s, if_00]
        · rcases hP.2 with ⟨p1, p2⟩ | ⟨k, p1, p2, p3, p4, p5⟩
          · refine Or.inl ⟨fun i q3 q4 => ?_, p2⟩
            by_cases q : i = j
            · subst q; exact hg
            · exact p1 i (by omega) q4
          · refine Or.inr ⟨k, by omega, p2, p3, fun i q3 q4 => ?_, p5⟩
            by_cases q : i = j
            · subst q; exact hg
            · exact p4 i (by omega) q4)
    (fun f x _ => by
      show m_X8_fits_L24 (nI n) (nI t) (nI s) ab bl sn (f + 1) x.1 x.2.1 (-1) x.2.2.1 x.2.2.2.1 x.2.2.2.2.1 x.2.2.2.2.2 _ = _
      rw [m_X8_fits_L24, if_pos (show (-1 : Int32) < 0 by decide)]) (0, -5, v1, v2, v3, v4) (by omega) ⟨by rw [Nat.sub_self]; rfl, Or.inl ⟨fun i q3 q4 => absurd q3 (by omega), rfl⟩⟩
  by_cases ca : a = 0
  · have c0 : nI a = 0 := by rw [ca]; rfl
    rw [if_pos c0] at q2
    exact ⟨_, q2, fun _ => q1.1, fun q => absurd q (by omega), fun q => absurd q (by omega)⟩
  · have c0 : ¬ nI a = 0 := by rw [eq_l (k := 0) (by omega) (by omega)]; exact ca
    rw [if_neg c0] at q2
    refine ⟨_, q2, fun q => absurd q ca, fun _ q => ?_, fun _ q => ?_⟩
    · rcases q1.2 with ⟨p1, p2⟩ | ⟨k, p1, p2, p3, p4, p5⟩
      · exact p2
      · have := ff_no G t k (by omega)
        rw [p3] at this
        exact absurd this.symm Bool.false_ne_true
    · rcases q1.2 with ⟨p1, p2⟩ | ⟨k, p1, p2, p3, p4, p5⟩
      · have := ff_yes G t q
        rw [p1 _ (Nat.zero_le _) q] at this
        exact absurd this Bool.false_ne_true
      · rw [ff_at p2 (fun i hi => p4 i (Nat.zero_le i) hi) p3]
        exact p5
theorem o_fits {n t s : Nat} (hn : n ≤ 12) (ht : t ≤ 40) (hs : s ≤ 5) {upr lwr ab bl sf ss si sn : Nat → Int32} {up lo : Nat → Nat} (h : RTi n t upr lwr ab bl up lo) (hS : RSn n s sf ss si sn) (wu : Int32) (w1 w2 w3 v1 v2 v3 v4 : Nat → Int32) (a1 : Int32) : ∃ r7 r8, m_X7_fits (nI n) (nI t) (nI s) upr lwr sf ss si wu w1 w2 w3 a1 = some r7 ∧ m_X8_fits (nI n) (nI t) ab bl v1 v2 v3 v4 sn (nI s) a1 = some r8 ∧ r7.2.2.2.2 = r8.2.2.2.2 := by
  obtain ⟨A, B, hAB⟩ := sn_fun hn hS
  obtain ⟨hT, hd, he⟩ := h
  have hT8 : TI n t ab bl up lo := fun k hk => by
    rw [(he k hk).1, (he k hk).2]; exact hT k hk
  have h01 : ∀ k, k < s → si k = 0 ∨ si k = 1 := fun k hk => hS.1 k (by omega)
  rcases in_cases a1 1 (by omega) with ⟨h3, h4⟩ | ⟨w, hw, rfl, h3⟩
  · have h3 : m_X8_in a1 0 1 = some 0 := h3
    unfold m_X7_fits m_X8_fits
    rw [h3, cl_s, if_00]
    by_cases h5 : a1 < 0
    · rw [if_pos h5]; exact ⟨_, _, rfl, rfl, rfl⟩
    · have h6 : ¬ a1 ≤ (1 : Int32) := not_le_of (show (1 : Int32) < a1 from h4.resolve_left h5)
      rw [if_neg h5, if_neg h6]; exact ⟨_, _, rfl, rfl, rfl⟩
  · obtain ⟨r7, x1, x2, x3, x4⟩ := fits7 (A := A) (B := B) (si := si) hn ht hs hT (fun k hk => by
      obtain ⟨q1, q2, q3, q4, q5, q6, q7⟩ := hAB k hk
      exact ⟨q4, q5, q6, q7, h01 k hk⟩) wu w1 w2 w3 hw
    obtain ⟨r8, y1, y2, y3, y4⟩ := fits8 (A := A) (B := B) (si := si) hn ht hs hT8 (fun k hk => by
      obtain ⟨q1, q2, q3, q4, q5, q6, q7⟩ := hAB k hk
      exact ⟨q1, q2, q3, q6, q7, h01 k hk⟩) v1 v2 v3 v4 hw
    refine ⟨r7, r8, x1, y1, ?_⟩
    by_cases c : w = 0
    · rw [x2 c, y2 c]
    · have c1 : w = 1 := by omega
      have hff := ff_le (gB (fun k => AGP n t s up lo A B si (nI k))) t
      by_cases c2 : ff (gB (fun k => AGP n t s up lo A B si (nI k))) t = t
      · rw [x3 c1 c2, y3 c1 c2]
      · rw [x4 c1 (by omega), y4 c1 (by omega)]
