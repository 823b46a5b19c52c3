/-! ===== calls that only ask: the proof, phases, dates ===== -/
theorem mhas_congr {n : Nat} {rc rd ph pk : Nat → Int32} (h : ∀ u, u < n → rd u = rc u) (h2 : ∀ u, u < n → pk u = ph u) (p : Nat) : mrow n rd pk p = mrow n rc ph p ∧ mhas n rd pk p = mhas n rc ph p := by
  have e : mrow n rd pk p = mrow n rc ph p := by
    unfold mrow
    refine ff_congr (fun q _ => ?_)
    unfold mxd
    rw [fr_congr _ _ h h2, fr_congr _ _ h h2]
  exact ⟨e, by unfold mhas; rw [e]⟩
theorem mxv_congr {n : Nat} {rc rd ph pk : Nat → Int32} (h : ∀ u, u < n → rd u = rc u) (h2 : ∀ u, u < n → pk u = ph u) {p q : Nat} (hm : fr n rc ph (nI p) (nI q) < n) : mxv n rd pk p q = mxv n rc ph p q := by
  unfold mxv
  rw [fr_congr _ _ h h2, h _ hm]
  have e : bs (fun u => decide (pk u = nI q)) n = bs (fun u => decide (ph u = nI q)) n := bs_congr (fun u hu => by rw [h2 u hu])
  rw [e]
theorem eU_congr {n : Nat} {rc rd : Nat → Int32} {g : Nat → Nat} (h : ∀ u, u < n → rd u = rc u) {u : Nat} (hu : u < n) : eU n rd g u = eU n rc g u := by
  unfold eU
  rw [h u hu]
theorem lU_congr {n : Nat} {rc rd : Nat → Int32} {g : Nat → Nat} (h : ∀ u, u < n → rd u = rc u) {u : Nat} : lU n rd g u = lU n rc g u := by
  unfold lU
  exact mn_congr (fun j hj => by rw [h j hj])
theorem VS_congr {n : Nat} (hn : n ≤ 12) {un un' rc rd kd kk ph pk : Nat → Int32} {g1 g2 : Nat → Nat} (h1 : ∀ u, u < 12 → un' u = un u) (h : ∀ u, u < n → rd u = rc u) (h2 : ∀ u, u < n → pk u = ph u) (h3 : ∀ u, u < n → kk u = kd u) : VS n un' rd kk pk g1 g2 = VS n un rc kd ph g1 g2 := by
  have e1 : ff (bare n un' rd kk) n = ff (bare n un rc kd) n := by
    refine ff_congr (fun u hu => ?_)
    unfold bare
    rw [ru_congr h1 h (by omega), h3 u hu, bs_congr (p := fun v => isCutK (kk v)) (q := fun v => isCutK (kd v)) (fun v hv => by rw [h3 v hv])]
  have e2 : ff (mhas n rd pk) 6 = ff (mhas n rc ph) 6 := ff_congr (fun p _ => (mhas_congr h h2 p).2)
  have e3 : ff (cx n rd g1 g2) n = ff (cx n rc g1 g2) n := by
    refine ff_congr (fun u hu => ?_)
    unfold cx
    rw [eU_congr h hu, lU_congr h]
  unfold VS
  rw [e1, e2, e3, (mhas_congr h h2 _).1]
  by_cases c1 : ff (bare n un rc kd) n < n
  · rw [if_pos c1, if_pos c1]
  · rw [if_neg c1, if_neg c1]
    by_cases c2 : ff (mhas n rc ph) 6 < 6
    · rw [if_pos c2, if_pos c2]
      have hy := ff_yes (mhas n rc ph) 6 c2
      have hr : mrow n rc ph (ff (mhas n rc ph) 6) < 6 := by simpa [mhas] using hy
      have hy2 := ff_yes (fun q => decide (ff (mhas n rc ph) 6 < q) && mxd n rc ph (ff (mhas n rc ph) 6) q) 6 hr
      have hm : fr n rc ph (nI (ff (mhas n rc ph) 6)) (nI (mrow n rc ph (ff (mhas n rc ph) 6))) < n := by
        rw [Bool.and_eq_true] at hy2
        have := hy2.2
        unfold mxd at this
        rw [Bool.and_eq_true, decide_eq_true_eq] at this
        exact this.1
      rw [mxv_congr h h2 hm]
    · rw [if_neg c2, if_neg c2]
      by_cases c3 : ff (cx n rc g1 g2) n < n
      · rw [if_pos c3, if_pos c3, eU_congr h c3, lU_congr h]
      · rw [if_neg c3, if_neg c3]
/-- bounds as numbers -/
theorem bnds {n : Nat} {tr kd th fm tm ph : Nat → Int32} (hr : RTr n tr kd th fm tm ph) : ∃ g1 g2 : Nat → Nat, (∀ j, j < n → tr (24 + j) = nI (g1 j) ∧ g1 j ≤ 2000) ∧ (∀ j, j < n → tr (36 + j) = nI (g2 j) ∧ g2 j ≤ 2000) ∧ (∀ j, j < n → fm j = nI (g1 j) ∧ g1 j ≤ 2000) ∧ ∀ j, j < n → tm j = nI (g2 j) ∧ g2 j ≤ 2000 := by
  have h1 : ∀ j, j < n → tr (24 + j) = nI ((tr (24 + j)).toNatClampNeg) ∧ (tr (24 + j)).toNatClampNeg ≤ 2000 := fun j hj => by
    obtain ⟨k, hk, e⟩ := (hr j hj).2.2.1
    rw [e, n_cl (by omega)]; exact ⟨rfl, hk⟩
  have h2 : ∀ j, j < n → tr (36 + j) = nI ((tr (36 + j)).toNatClampNeg) ∧ (tr (36 + j)).toNatClampNeg ≤ 2000 := fun j hj => by
    obtain ⟨k, hk, e⟩ := (hr j hj).2.2.2.1
    rw [e, n_cl (by omega)]; exact ⟨rfl, hk⟩
  exact ⟨fun j => (tr (24 + j)).toNatClampNeg, fun j => (tr (36 + j)).toNatClampNeg, h1, h2, fun j hj => ⟨(hr j hj).1.2.2.1.trans (h1 j hj).1, (h1 j hj).2⟩, fun j hj => ⟨(hr j hj).1.2.2.2.1.trans (h2 j hj).1, (h2 j hj).2⟩⟩
theorem proves8 {n t : Nat} (hn : n ≤ 12) (ht : t ≤ 40) {ab bl : Nat → Int32} {up lo : Nat → Nat} (hT8 : TI n t ab bl up lo) {kd fm tm ph : Nat → Int32} {g1 g2 : Nat → Nat} (h1 : ∀ j, j < n → fm j = nI (g1 j) ∧ g1 j ≤ 2000) (h2 : ∀ j, j < n → tm j = nI (g2 j) ∧ g2 j ≤ 2000) {un ov rd rg v1 v2 v3 v4 : Nat → Int32} (k2 : m_X8_works_ (nI n) (nI t) ab bl v1 v2 v3 v4 = some (un, ov, rd, rg)) (k4 : WB n t up lo (-1) un ov rd) (k8 : ∀ c, c < n → rg c = bs (fun v => bt (rd v) c) n) (hc : cy n rd = false) (v5 v6 : Nat → Int32) (co ca la : Int32) : ∃ co' ca' la', co' = (VS n un rd kd ph g1 g2).1 ∧ (¬ (VS n un rd kd ph g1 g2).1 = 0 → (co', ca', la') = VS n un rd kd ph g1 g2) ∧ m_X8_proves (nI n) kd fm tm ph (nI t) ab bl v1 v2 v3 v4 v5 v6 co ca la = some (un, ov, rd, rg, v5, v6, co', ca', la') := by
  have hfv := FT_VS (n := n) (un := un) (rc := rd) (kd := kd) (ph := ph) (g1 := g1) (g2 := g2) ca la
  generalize hT : FT (cx n rd g1 g2) (cval n rd g1 g2) (FT (mhas n rd ph) (mval n rd ph) (FT (bare n un rd kd) (fun u => (2, nI u, -5)) (0, ca, la) n) 6) n = T at hfv
  refine ⟨T.1, T.2.1, T.2.2, hfv.1, hfv.2, ?_⟩
  unfold m_X8_proves
  have hcf : ¬ cy n rd = true := by rw [hc]; exact Bool.false_ne_true
  rw [k2, cl_s]
  simp only [cyc8 hn, cl_s, if_c, if_neg hcf]
  have e1 := pr_36 hT8 hn ht (no_m1 ht) (un, ov, rd, rg) k4 kd (0, ca, la) (fun x1_36 y_f_code_36 y_f_cause_36 y_f_last_36 =>
  m_X8_proves_L68 (nI n) ph (un, ov, rd, rg) FU (0 : Int32) y_f_code_36 y_f_cause_36 y_f_last_36 fun x1_68 y_f_code_68 y_f_cause_68 y_f_last_68 =>
  m_X8_proves_L151 (nI n) fm tm (un, ov, rd, rg) FU (0 : Int32) y_f_code_68 y_f_cause_68 y_f_last_68 fun x1_151 y_f_code_151 y_f_cause_151 y_f_last_151 =>
  some (un, ov, rd, rg, v5, v6, y_f_code_151, y_f_cause_151, y_f_last_151))
  have e2 := pr_68 hn ph (un, ov, rd, rg) (FT (bare n un rd kd) (fun u => (2, nI u, -5)) (0, ca, la) n) (fun x1_68 y_f_code_68 y_f_cause_68 y_f_last_68 =>
  m_X8_proves_L151 (nI n) fm tm (un, ov, rd, rg) FU (0 : Int32) y_f_code_68 y_f_cause_68 y_f_last_68 fun x1_151 y_f_code_151 y_f_cause_151 y_f_last_151 =>
  some (un, ov, rd, rg, v5, v6, y_f_code_151, y_f_cause_151, y_f_last_151))
  have e3 := pr_151 hn fm tm (un, ov, rd, rg) k8 h1 h2 (FT (mhas n rd ph) (mval n rd ph) (FT (bare n un rd kd) (fun u => (2, nI u, -5)) (0, ca, la) n) 6) (fun x1_151 y_f_code_151 y_f_cause_151 y_f_last_151 =>
  some (un, ov, rd, rg, v5, v6, y_f_code_151, y_f_cause_151, y_f_last_151))
  simp only at e1 e2 e3
  rw [e1, e2, e3]
  simp only [hT, if_true]
/-- the numbers that proof(k) tells are told alike -/
theorem pf_same {num : Nat → Int32} {size : Int32} {v : Int32 × Int32 × Int32} {co ca la : Int32} (h : VALR num size v) (h1 : co = v.1) (h2 : ¬ v.1 = 0 → ca = v.2.1 ∧ la = v.2.2) {a : Int32} (ha : 0 ≤ a) : (if size ≤ a then (some (-5 : Int32)) else ag num 3 a fun v => some v) = if a = 0 then some co else if co = 0 then some (-5) else if a ≤ (2 : Int32) then (if a = 1 then some ca else some la) else some (-5) := by
  subst h1
  have hge : ∀ {k : Nat}, k < 2147483648 → ¬ a < nI k → nI k ≤ a := fun hk q => by
    rw [Int32.lt_iff_toInt_lt] at q
    rw [Int32.le_iff_toInt_le]
    omega
  rcases pk_ix a (n := 3) (by omega) with q | q | ⟨j, hj, rfl⟩
  · exfalso
    rw [Int32.lt_iff_toInt_lt] at q
    rw [Int32.le_iff_toInt_le] at ha
    omega
  · have q3 : (3 : Int32) ≤ a := q
    have t3 : (3 : Int32).toInt = 3 := rfl
    have t2 : (2 : Int32).toInt = 2 := rfl
    have t1 : (1 : Int32).toInt = 1 := rfl
    have t0 : (0 : Int32).toInt = 0 := rfl
    have hs : size ≤ a := by
      rw [Int32.le_iff_toInt_le] at q3 ⊢
      rcases h with ⟨-, e, -⟩ | ⟨-, e, -⟩ | ⟨-, e, -⟩ <;> subst e <;> omega
    have a0 : ¬ a = 0 := fun e => by subst e; rw [Int32.le_iff_toInt_le] at q3; omega
    have a2 : ¬ a ≤ (2 : Int32) := fun e => by rw [Int32.le_iff_toInt_le] at q3 e; omega
    rw [if_pos hs, if_neg a0, if_neg a2]
    by_cases q0 : v.1 = 0
    · rw [if_pos q0]
    · rw [if_neg q0]
  · rcases (show j = 0 ∨ j = 1 ∨ j = 2 by omega) with rfl | rfl | rfl
    · have hs : ¬ size ≤ nI 0 := by
        rcases h with ⟨-, e, -⟩ | ⟨-, e, -⟩ | ⟨-, e, -⟩ <;> subst e <;> decide
      rw [if_neg hs, ag_n (by omega) (by omega), if_pos (show nI 0 = 0 from rfl)]
      rcases h with ⟨e1, -, e3⟩ | ⟨-, -, e3, -⟩ | ⟨-, -, e3, -⟩
      · rw [e3, e1]
      · rw [e3]
      · rw [e3]
    · rw [if_neg (show ¬ nI 1 = 0 by decide), if_pos (show nI 1 ≤ (2 : Int32) by decide), if_pos (show nI 1 = 1 from rfl)]
      rcases h with ⟨e1, e2, -⟩ | ⟨e1, e2, -, e4, -⟩ | ⟨e1, e2, -, e4, -⟩
      · subst e2
        rw [if_pos (show (1 : Int32) ≤ nI 1 by decide), if_pos e1]
      · subst e2
        rw [if_neg (show ¬ (2 : Int32) ≤ nI 1 by decide), if_neg e1, ag_n (by omega) (by omega), e4, (h2 e1).1]
      · subst e2
        rw [if_neg (show ¬ (3 : Int32) ≤ nI 1 by decide), if_neg e1, ag_n (by omega) (by omega), e4, (h2 e1).1]
    · rw [if_neg (show ¬ nI 2 = 0 by decide), if_pos (show nI 2 ≤ (2 : Int32) by decide), if_neg (show ¬ nI 2 = 1 by decide)]
      rcases h with ⟨e1, e2, -⟩ | ⟨e1, e2, -, -, e5⟩ | ⟨e1, e2, -, -, e5⟩
      · subst e2
        rw [if_pos (show (1 : Int32) ≤ nI 2 by decide), if_pos e1]
      · subst e2
        rw [if_pos (show (2 : Int32) ≤ nI 2 by decide), if_neg e1, (h2 e1).2, e5]
      · subst e2
        rw [if_neg (show ¬ (3 : Int32) ≤ nI 2 by decide), if_neg e1, ag_n (by omega) (by omega), e5, (h2 e1).2]
