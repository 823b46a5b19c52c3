/-! ===== lawful orders: the tables ===== -/
def sI (g : Nat → Int64) : Nat → Int64
  | 0 => 0
  | n + 1 => sI g n + g n
theorem sI_congr {f g : Nat → Int64} : ∀ {n : Nat}, (∀ u, u < n → f u = g u) → sI f n = sI g n
  | 0, _ => rfl
  | n + 1, h => by rw [sI, sI, sI_congr (fun u hu => h u (by omega)), h n (by omega)]
theorem sI_hi {g : Nat → Int64} {n : Nat} : ∀ {m : Nat}, (∀ u, n ≤ u → u < n + m → g u = 0) → sI g (n + m) = sI g n
  | 0, _ => rfl
  | m + 1, h => by
    show sI g (n + m) + g (n + m) = sI g n
    rw [sI_hi (m := m) (fun u h1 h2 => h u h1 (by omega)), h (n + m) (by omega) (by omega), Int64.add_zero]
/-- the class's table over the subsets of l -/
def tF (bl : Nat → Int32) (tb : Nat → Int64) (s : Int32) (u : Nat) : Int64 := if (bt s u && decide (bl u &&& s = 0)) = true then tb (tN (clr s u)) else 0
def TQ (bl : Nat → Int32) (tb : Nat → Int64) (s : Int32) : Prop := (s = 0 → tb (tN s) = 1) ∧ (¬ s = 0 → tb (tN s) = sI (tF bl tb s) 12)
def TB (bl : Nat → Int32) (l : Int32) (tb : Nat → Int64) : Prop := ∀ s, SUB s l → TQ bl tb s
theorem tF_congr {bl bm : Nat → Int32} {tb tc : Nat → Int64} {s : Int32} (hs : LO s) (h1 : ∀ u, u < 12 → bm u = bl u) (h2 : ∀ k, k < tN s → tc k = tb k) {u : Nat} (hu : u < 12) : tF bm tc s u = tF bl tb s u := by
  unfold tF
  rw [h1 u hu]
  by_cases hb : bt s u = true
  · rw [h2 _ (clr_lt hs hu hb)]
  · rw [tt_of hb]; rfl
theorem TQ_congr {bl bm : Nat → Int32} {tb tc : Nat → Int64} {s : Int32} (hs : LO s) (h1 : ∀ u, u < 12 → bm u = bl u) (h2 : ∀ k, k ≤ tN s → tc k = tb k) (h : TQ bl tb s) : TQ bm tc s := by
  refine ⟨fun q => by rw [h2 _ (Nat.le_refl _)]; exact h.1 q, fun q => ?_⟩
  rw [h2 _ (Nat.le_refl _), h.2 q]
  exact sI_congr (fun u hu => (tF_congr hs h1 (fun k hk => h2 k (by omega)) hu).symm)
theorem b_sar1 (x : Int32) {i : Nat} (hi : i < 32) : bt (x >>> ((1 : Int32) &&& 31)) i = if 1 + i < 32 then bt x (1 + i) else bt x 31 := b_sshr 1 (by omega) x hi
theorem b_and1 (x : Int32) : x &&& 1 = if bt x 0 = true then 1 else 0 := by
  apply b_ext
  intro i hi
  rw [b_and, b_one i hi]
  by_cases h : bt x 0 = true
  · rw [if_pos h, b_one i hi]
    by_cases h2 : i = 0
    · subst h2; simp [h]
    · simp [h2]
  · rw [if_neg h, b_0]
    by_cases h2 : i = 0
    · subst h2; simp [h]
    · simp [h2]
theorem one_ne : ¬ (0 : Int32) = 1 := by decide
theorem sum7 (bl : Nat → Int32) (tb : Nat → Int64) {s : Int32} (hs : LO s) : m_X4_sumOver tb bl s = some (sI (tF bl tb s) 12) := by
  unfold m_X4_sumOver
  obtain ⟨s', h1, h2⟩ := lpk (fun f i (x : Int64 × Int32) => m_X4_sumOver_L8 tb bl s f x.1 x.2 i (fun x2_8 x4_8 x5_8 => some x2_8)) (fun x => some x.1) 12 (fun j x => x.1 = sI (tF bl tb s) j ∧ ∀ i, i < 32 → bt x.2 i = (decide (i + j < 32) && bt s (i + j))) (fun x => x.1 = sI (tF bl tb s) 12)
    (fun f j x hj h => by
      obtain ⟨e1, e2⟩ := h
      have e0 : bt x.2 0 = bt s j := by rw [e2 0 (by omega)]; simp [show j < 32 by omega]
      have hnx : ∀ i, i < 32 → bt (x.2 >>> ((1 : Int32) &&& 31)) i = (decide (i + (j + 1) < 32) && bt s (i + (j + 1))) := by
        intro i hi
        rw [b_sar1 x.2 hi]
        by_cases hq : 1 + i < 32
        · rw [if_pos hq, e2 (1 + i) hq, show 1 + i + j = i + (j + 1) by omega]
        · rw [if_neg hq, e2 31 (by omega), show i = 31 by omega]
          by_cases hj0 : j = 0
          · subst hj0
            rw [hs (31 + 0) (by omega) (by omega)]; simp
          · simp [show ¬ 31 + j < 32 by omega]
            intro q; omega
      by_cases hz : x.2 = 0
      · right
        refine ⟨by simp (disch := omega) only [m_X4_sumOver_L8, l_le (k := 12), Nat.not_le.mpr hj, if_false, if_pos hz], ?_⟩
        have e12 : (12 : Nat) = j + (12 - j) := by omega
        rw [e1, e12]
        refine (sI_hi (fun u h1 h2 => ?_)).symm
        have := e2 (u - j) (by omega)
        rw [hz, b_0, show u - j + j = u by omega] at this
        have hb : bt s u = false := by
          have h32 : decide (u < 32) = true := by simp; omega
          rw [h32, Bool.true_and] at this
          exact this.symm
        unfold tF
        rw [hb]; rfl
      · left
        by_cases hb : bt s j = true
        · by_cases hc : bl j &&& s = 0
          · refine ⟨(x.1 + tb (tN (clr s j)), x.2 >>> ((1 : Int32) &&& 31)), ?_, ?_, hnx⟩
            · have hcl : LO (s &&& (((1 : Int32) <<< (nI j &&& 31)) ^^^ (-1))) := SUB_lo (clr_sub (l := s) (fun i hi q => q) (by omega)) hs
              simp (disch := first | omega | exact hcl) only [m_X4_sumOver_L8, l_le (k := 12), Nat.not_le.mpr hj, if_false, if_neg hz, b_and1, e0, if_pos hb, if_true, ag_n, if_pos hc, ag_s, lt_e, nI_1]
              rfl
            · show x.1 + tb (tN (clr s j)) = sI (tF bl tb s) j + tF bl tb s j
              rw [e1]
              unfold tF
              rw [if_pos (show (bt s j && decide (bl j &&& s = 0)) = true by rw [hb, hc]; rfl)]
          · refine ⟨(x.1, x.2 >>> ((1 : Int32) &&& 31)), by simp (disch := omega) only [m_X4_sumOver_L8, l_le (k := 12), Nat.not_le.mpr hj, if_false, if_neg hz, b_and1, e0, if_pos hb, if_true, ag_n, if_neg hc, lt_e, nI_1], ?_, hnx⟩
            show x.1 = sI (tF bl tb s) j + tF bl tb s j
            rw [e1]
            unfold tF
            rw [if_neg (show ¬ (bt s j && decide (bl j &&& s = 0)) = true by simp [hc]), Int64.add_zero]
        · refine ⟨(x.1, x.2 >>> ((1 : Int32) &&& 31)), by simp (disch := omega) only [m_X4_sumOver_L8, l_le (k := 12), Nat.not_le.mpr hj, if_false, if_neg hz, b_and1, e0, if_neg hb, if_neg one_ne, lt_e, nI_1], ?_, hnx⟩
          show x.1 = sI (tF bl tb s) j + tF bl tb s j
          rw [e1]
          unfold tF
          rw [if_neg (show ¬ (bt s j && decide (bl j &&& s = 0)) = true by simp [hb]), Int64.add_zero])
    (fun f x h => ⟨by simp (disch := omega) only [m_X4_sumOver_L8, l_le (k := 12), Nat.le_refl, if_true], h.1⟩) 0 (0, s) (by omega) (by omega) ⟨rfl, fun i hi => by simp [hi]⟩
  rw [← h1]
  exact h2
theorem n_eqs {a b : Int32} {α : Type} {x y : α} (h : a = b) : (if a = b then x else y) = x := if_pos h
theorem fill7t (bl : Nat → Int32) (tb : Nat → Int64) {l : Int32} (hl : LO l) : ∃ tb', TB bl l tb' ∧ m_X4_fillTable tb bl l = some tb' := by
  unfold m_X4_fillTable
  rw [al_l (j := 0) (by omega) (by omega)]
  obtain ⟨s', h1, h2⟩ := lpk (fun f i (x : Int32 × (Nat → Int64)) => m_X4_fillTable_L11 l bl f x.1 i x.2 (fun x1_11 x2_11 y_f_table_11 => some y_f_table_11)) (fun x => some x.2) 4096 (fun j x => SUB x.1 l ∧ j ≤ tN x.1 ∧ ∀ t, SUB t l → tN t ≤ tN x.1 → TQ bl x.2 t) (fun x => TB bl l x.2)
    (fun f j x hj h => by
      obtain ⟨e1, e2, e3⟩ := h
      by_cases hq : x.1 = l
      · right
        refine ⟨by simp (disch := omega) only [m_X4_fillTable_L11, show Int32.ofNat 4096 = nI 4096 from rfl, n_le, Nat.not_le.mpr hj, if_false, if_pos hq], fun t ht => e3 t ht ?_⟩
        rw [hq]
        refine Nat.le_of_not_lt (fun hlt => ?_)
        obtain ⟨i, hi, q1, q2, -⟩ := top_diff 12 _ _ (tN_lt hl) (tN_lt (SUB_lo ht hl)) hlt
        have q1 : bt l i = false := q1
        rw [ht i (by omega) q2] at q1
        cases q1
      · left
        obtain ⟨n1, n2, n3⟩ := next_set hl e1 hq
        have nlo := SUB_lo n1 hl
        have hs := sum7 bl x.2 nlo
        refine ⟨((x.1 - l) &&& l, vp_updL x.2 (tN ((x.1 - l) &&& l)) (sI (tF bl x.2 ((x.1 - l) &&& l)) 12)), ?_, n1, by show j + 1 ≤ tN ((x.1 - l) &&& l); omega, fun t ht hle => ?_⟩
        · simp (disch := first | omega | exact nlo) only [m_X4_fillTable_L11, show Int32.ofNat 4096 = nI 4096 from rfl, n_le, Nat.not_le.mpr hj, if_false, if_neg hq, lt_e, hs, cl_s, al_s, nI_1]
        · have hle : tN t ≤ tN ((x.1 - l) &&& l) := hle
          show TQ bl (vp_updL x.2 (tN ((x.1 - l) &&& l)) (sI (tF bl x.2 ((x.1 - l) &&& l)) 12)) t
          by_cases hw : tN t ≤ tN x.1
          · refine TQ_congr (SUB_lo ht hl) (fun _ _ => rfl) (fun k hk => ?_) (e3 t ht hw)
            exact pk_uLn (by omega)
          · have ht2 : t = (x.1 - l) &&& l := tN_inj (by have := n3 t ht (by omega); omega)
            subst ht2
            refine ⟨fun q => ?_, fun _ => ?_⟩
            · rw [q] at n2
              have : tN (0 : Int32) = 0 := rfl
              omega
            · rw [pk_uLs]
              exact sI_congr (fun u hu => (tF_congr nlo (fun _ _ => rfl) (fun k hk => pk_uLn (by omega)) hu).symm))
    (fun f x h => by
      have := tN_lt (SUB_lo h.1 hl)
      exact absurd h.2.1 (by omega)) 0 (0, vp_updL tb 0 1) (by omega) (by omega)
    ⟨fun i hi q => absurd q (by rw [b_0]; exact Bool.false_ne_true), Nat.zero_le _, fun t ht hle => by
      have e0 : tN (0 : Int32) = 0 := rfl
      have ht0 : t = 0 := tN_inj (by have hle : tN t ≤ tN (0 : Int32) := hle; omega)
      subst ht0
      exact ⟨fun _ => show vp_updL tb 0 1 0 = 1 from pk_uLs, fun q => absurd rfl q⟩⟩
  exact ⟨s'.2, h1, h2⟩
/-- what the class keeps of its table -/
def WYS (tb : Nat → Int64) (bl : Nat → Int32) (left : Int32) : Prop := left = -1 ∨ (LO left ∧ TB bl left tb)
def hld (ab : Nat → Int32) (l : Int32) (u : Nat) : Int32 := if bt l u = true then ab u &&& l else 0
theorem num7 (tb : Nat → Int64) (bl ab : Nat → Int32) {left l : Int32} (hw : WYS tb bl left) (hl : LO l) : ∃ tb' bl', TB bl' l tb' ∧ (∀ u, u < 12 → bl' u = hld ab l u) ∧ m_X4_number tb bl left ab 12 l = some (tb', bl', l, tb' (tN l)) := by
  unfold m_X4_number
  rw [jn_e]
  have key : ∀ z : Bool, (z = true → TB bl l tb) → ∃ tb' bl', TB bl' l tb' ∧ (∀ u, u < 12 → bl' u = hld ab l u) ∧ (m_X4_number_L22 ab 12 l FU (if z = true then 1 else 0) (0 : Int32) bl fun x3_22 x4_22 y_f_blockers_22 =>
  if x3_22 = 0 then (cl (m_X4_fillTable tb y_f_blockers_22 l) fun r_13 =>
  ag r_13 4096 l fun v_15 =>
  some (r_13, y_f_blockers_22, l, v_15))
  else (ag tb 4096 l fun v_12 =>
  some (tb, y_f_blockers_22, l, v_12))) = some (tb', bl', l, tb' (tN l)) := by
    intro z hz
    obtain ⟨s', ⟨⟨z', h1, h0⟩, h3⟩, h2⟩ := lpx (fun f i (x : Int32 × (Nat → Int32)) => m_X4_number_L22 ab 12 l f x.1 i x.2 (fun x3_22 x4_22 y_f_blockers_22 =>
  if x3_22 = 0 then (cl (m_X4_fillTable tb y_f_blockers_22 l) fun r_13 =>
  ag r_13 4096 l fun v_15 =>
  some (r_13, y_f_blockers_22, l, v_15))
  else (ag tb 4096 l fun v_12 =>
  some (tb, y_f_blockers_22, l, v_12)))) (fun x => if x.1 = 0 then (cl (m_X4_fillTable tb x.2 l) fun r_13 =>
  ag r_13 4096 l fun v_15 =>
  some (r_13, x.2, l, v_15))
  else (ag tb 4096 l fun v_12 =>
  some (tb, x.2, l, v_12))) 12
      (fun j x => (∃ z' : Bool, x.1 = (if z' = true then 1 else 0) ∧ (z' = true → z = true ∧ ∀ u, u < j → bl u = hld ab l u)) ∧ (∀ u, u < j → x.2 u = hld ab l u) ∧ ∀ u, j ≤ u → u < 12 → x.2 u = bl u)
      (fun f j x hj h => by
        obtain ⟨⟨z', e1, e2⟩, e3, e4⟩ := h
        have hbj := e4 j (Nat.le_refl j) hj
        have hrow : ∀ v, v = hld ab l j → (∀ u, u < j + 1 → upd x.2 j v u = hld ab l u) ∧ ∀ u, j + 1 ≤ u → u < 12 → upd x.2 j v u = bl u := by
          intro v hv
          refine ⟨fun u hu => ?_, fun u h1 h2 => by rw [upd_n (by omega)]; exact e4 u (by omega) h2⟩
          by_cases hq : u = j
          · subst hq; rw [upd_s]; exact hv
          · rw [upd_n hq]; exact e3 u (by omega)
        have hgo : ∀ w : Bool, w = true → (bl j = hld ab l j) → (z' = true) → z = true ∧ ∀ u, u < j + 1 → bl u = hld ab l u := by
          intro _ _ hv hz'
          refine ⟨(e2 hz').1, fun u hu => ?_⟩
          by_cases hq : u = j
          · subst hq; exact hv
          · exact (e2 hz').2 u (by omega)
        by_cases hb : bt l j = true
        · have hh : hld ab l j = ab j &&& l := if_pos hb
          cases z' with
          | false =>
            refine ⟨(0, upd x.2 j (ab j &&& l)), by simp (disch := omega) only [m_X4_number_L22, l_le (k := 12), Nat.not_le.mpr hj, if_false, hb7, cl_s, if_pos hb, if_10, ag_n, e1, Bool.false_eq_true, if_true, au_n, nI_1], ⟨false, by simp, fun q => absurd q Bool.false_ne_true⟩, hrow _ hh.symm⟩
          | true =>
            by_cases hc : bl j = ab j &&& l
            · refine ⟨(1, upd x.2 j (ab j &&& l)), by simp (disch := omega) only [m_X4_number_L22, l_le (k := 12), Nat.not_le.mpr hj, if_false, hb7, cl_s, if_pos hb, if_10, ag_n, e1, if_true, hbj, if_pos hc, au_n, nI_1], ⟨true, by simp, hgo true rfl (by rw [hh]; exact hc)⟩, hrow _ hh.symm⟩
            · refine ⟨(0, upd x.2 j (ab j &&& l)), by simp (disch := omega) only [m_X4_number_L22, l_le (k := 12), Nat.not_le.mpr hj, if_false, hb7, cl_s, if_pos hb, if_10, ag_n, e1, if_true, hbj, if_neg hc, au_n, nI_1], ⟨false, by simp, fun q => absurd q Bool.false_ne_true⟩, hrow _ hh.symm⟩
        · have hh : hld ab l j = 0 := if_neg hb
          cases z' with
          | false =>
            refine ⟨(0, upd x.2 j 0), by simp (disch := omega) only [m_X4_number_L22, l_le (k := 12), Nat.not_le.mpr hj, if_false, hb7, cl_s, if_neg hb, if_00, ag_n, e1, Bool.false_eq_true, if_true, au_n, nI_1], ⟨false, by simp, fun q => absurd q Bool.false_ne_true⟩, hrow _ hh.symm⟩
          | true =>
            by_cases hc : bl j = 0
            · refine ⟨(1, upd x.2 j 0), by simp (disch := omega) only [m_X4_number_L22, l_le (k := 12), Nat.not_le.mpr hj, if_false, hb7, cl_s, if_neg hb, if_00, if_10, ag_n, e1, if_true, hbj, if_pos hc, au_n, nI_1], ⟨true, by simp, hgo true rfl (by rw [hh]; exact hc)⟩, hrow _ hh.symm⟩
            · refine ⟨(0, upd x.2 j 0), by simp (disch := omega) only [m_X4_number_L22, l_le (k := 12), Nat.not_le.mpr hj, if_false, hb7, cl_s, if_neg hb, if_00, if_10, ag_n, e1, if_true, hbj, if_neg hc, au_n, nI_1], ⟨false, by simp, fun q => absurd q Bool.false_ne_true⟩, hrow _ hh.symm⟩)
      (fun f x _ => by simp (disch := omega) only [m_X4_number_L22, l_le (k := 12), Nat.le_refl, if_true]) 0 ((if z = true then 1 else 0), bl) (by omega) (by omega) ⟨⟨z, rfl, fun q => ⟨q, fun u hu => by omega⟩⟩, fun u hu => by omega, fun u _ _ => rfl⟩
    cases z' with
    | false =>
      obtain ⟨tb', c1, c2⟩ := fill7t s'.2 tb hl
      refine ⟨tb', s'.2, c1, h3.1, h2.trans ?_⟩
      simp only [h1, Bool.false_eq_true, if_false, if_true, c2, cl_s]
      rw [ag_s hl]
    | true =>
      obtain ⟨q1, q2⟩ := h0 rfl
      have ht := hz q1
      refine ⟨tb, s'.2, fun s hs => TQ_congr (SUB_lo hs hl) (fun u hu => by rw [h3.1 u hu, q2 u hu]) (fun _ _ => rfl) (ht s hs), h3.1, h2.trans ?_⟩
      simp only [h1, if_true]
      rw [if_neg n_ne, ag_s hl]
  by_cases hq : left = l
  · rw [if_pos hq]
    have := key true (fun _ => by
      rcases hw with q | ⟨q1, q2⟩
      · subst q; subst hq
        have := hl 12 (by omega) (by omega)
        rw [b_m1 12 (by omega)] at this
        cases this
      · rw [← hq]; exact q2)
    exact this
  · rw [if_neg hq]
    exact key false (fun q => by cases q)
