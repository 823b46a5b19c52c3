/-! ===== the reference's web ===== -/
theorem works_2 (un ov rg : Nat → Int32) (k : Int32 → (Nat → Int32) → (Nat → Int32) → (Nat → Int32) → Option ((Nat → Int32) × (Nat → Int32) × (Nat → Int32) × (Nat → Int32))) : ∃ un' ov' rg', (∀ u, u < 12 → un' u = 0 ∧ ov' u = 0) ∧ (∀ u, u < 12 → rg' u = 0) ∧ m_X8_works_L2 FU 0 un ov rg k = k (nI 12) un' ov' rg' := by
  obtain ⟨s, h1, h2⟩ := lpx (fun f i (s : (Nat → Int32) × (Nat → Int32) × (Nat → Int32)) => m_X8_works_L2 f i s.1 s.2.1 s.2.2 k) (fun s => k (nI 12) s.1 s.2.1 s.2.2) 12 (fun j s => ∀ u, u < j → (s.1 u = 0 ∧ s.2.1 u = 0) ∧ s.2.2 u = 0)
    (fun f j s hj h => ⟨(upd s.1 j 0, upd s.2.1 j 0, upd s.2.2 j 0), by
      simp (disch := omega) only [m_X8_works_L2, l_le (k := 12), au_n, nI_1, Nat.not_le.mpr hj, if_false], fun u hu => by
      by_cases hq : u = j
      · subst hq; exact ⟨⟨upd_s, upd_s⟩, upd_s⟩
      · simp only [upd_n hq]; exact h u (by omega)⟩)
    (fun f s _ => by simp (disch := omega) only [m_X8_works_L2, l_le (k := 12), Nat.le_refl, if_true]) 0 (un, ov, rg) (by omega) (by omega) (fun u hu => by omega)
  exact ⟨s.1, s.2.1, s.2.2, fun u hu => (h1 u hu).1, fun u hu => (h1 u hu).2, h2⟩
theorem works_37 {n t : Nat} {upper lower : Nat → Int32} {up lo : Nat → Nat} (hT : TI n t upper lower up lo) (hn : n ≤ 12) (ht : t ≤ 40) (b : Int32) (un ab : Nat → Int32) (h0 : ∀ u, u < 12 → un u = 0 ∧ ab u = 0) (k : Int32 → (Nat → Int32) → (Nat → Int32) → Option ((Nat → Int32) × (Nat → Int32) × (Nat → Int32) × (Nat → Int32))) : ∃ un' ab', (∀ u v, u < 12 → v < 32 → ((bt (un' u) v = true ↔ Ed t up lo b u v) ∧ (bt (ab' u) v = true ↔ Ed t up lo b v u))) ∧ m_X8_works_L37 (nI t) upper lower b FU 0 un ab k = k (nI t) un' ab' := by
  obtain ⟨s, h1, h2⟩ := lpx (fun f i (s : (Nat → Int32) × (Nat → Int32)) => m_X8_works_L37 (nI t) upper lower b f i s.1 s.2 k) (fun s => k (nI t) s.1 s.2) t (fun j s => ∀ u v, u < 12 → v < 32 → ((bt (s.1 u) v = true ↔ Ed j up lo b u v) ∧ (bt (s.2 u) v = true ↔ Ed j up lo b v u)))
    (fun f j s hj h => by
      obtain ⟨e1, e2, e3, e4⟩ := hT j hj
      by_cases hb : nI j = b
      · refine ⟨s, by simp (disch := omega) only [m_X8_works_L37, n_le, nI_1, Nat.not_le.mpr hj, if_false, if_pos hb], fun u v hu hv => ?_⟩
        rw [(h u v hu hv).1, (h u v hu hv).2, Ed_succ, Ed_succ]
        simp [hb]
      · refine ⟨(upd s.1 (up j) (s.1 (up j) ||| ((1 : Int32) <<< (nI (lo j) &&& 31))), upd s.2 (lo j) (s.2 (lo j) ||| ((1 : Int32) <<< (nI (up j) &&& 31)))), by simp (disch := omega) only [m_X8_works_L37, n_le, nI_1, Nat.not_le.mpr hj, if_false, if_neg hb, ag_n, au_n, e1, e2], fun u v hu hv => ?_⟩
        simp only [row_or (show lo j < 32 by omega) hv, row_or (show up j < 32 by omega) hv]
        rw [(h u v hu hv).1, (h u v hu hv).2, Ed_succ, Ed_succ]
        constructor
        · simp [hb]
        · constructor
          · rintro (q | ⟨q1, q2⟩)
            · exact Or.inl q
            · exact Or.inr ⟨hb, q2, q1⟩
          · rintro (q | ⟨-, q1, q2⟩)
            · exact Or.inl q
            · exact Or.inr ⟨q2, q1⟩)
    (fun f s _ => by simp (disch := omega) only [m_X8_works_L37, n_le, Nat.le_refl, if_true]) 0 (un, ab) (by omega) (by omega) (fun u v hu hv => by
      simp only [(h0 u hu).1, (h0 u hu).2, b_0]
      simp [Ed_0])
  exact ⟨s.1, s.2, h1, h2⟩
theorem works_102 (un rc : Nat → Int32) (k : Int32 → (Nat → Int32) → Option ((Nat → Int32) × (Nat → Int32) × (Nat → Int32) × (Nat → Int32))) : ∃ r', (∀ u, u < 12 → r' u = un u) ∧ m_X8_works_L102 un FU 0 rc k = k (nI 12) r' := by
  obtain ⟨s, h1, h2⟩ := lpx (fun f i (s : Nat → Int32) => m_X8_works_L102 un f i s k) (fun s => k (nI 12) s) 12 (fun j s => ∀ u, u < j → s u = un u)
    (fun f j s hj h => ⟨upd s j (un j), by
      simp (disch := omega) only [m_X8_works_L102, l_le (k := 12), ag_n, au_n, nI_1, Nat.not_le.mpr hj, if_false], fun u hu => by
      by_cases hq : u = j
      · subst hq; exact upd_s
      · rw [upd_n hq]; exact h u (by omega)⟩)
    (fun f s _ => by simp (disch := omega) only [m_X8_works_L102, l_le (k := 12), Nat.le_refl, if_true]) 0 rc (by omega) (by omega) (fun u hu => by omega)
  exact ⟨s, h1, h2⟩
theorem or_00 (x : Int32) : x ||| 0 = x := by
  apply b_ext
  intro i hi
  rw [b_or, b_0, Bool.or_false]
theorem works_138 {n c : Nat} (hn : n ≤ 12) (hc : c < n) (E : Nat → Nat → Prop) (rc : Nat → Int32) (h : CL1 n c 0 E rc) (k : Int32 → (Nat → Int32) → Option ((Nat → Int32) × (Nat → Int32) × (Nat → Int32) × (Nat → Int32))) : ∃ r', CL1 n c n E r' ∧ m_X8_works_L138 (nI n) (nI c) FU 0 rc k = k (nI n) r' := by
  obtain ⟨s, h1, h2⟩ := lpx (fun f i (s : Nat → Int32) => m_X8_works_L138 (nI n) (nI c) f i s k) (fun s => k (nI n) s) n (fun j s => CL1 n c j E s)
    (fun f j s hj h => by
      by_cases hb : bt (s j) c = true
      · refine ⟨upd s j (s j ||| s c), by simp (disch := omega) only [m_X8_works_L138, n_le, ag_n, au_n, nI_1, Nat.not_le.mpr hj, if_false, hb8, cl_s, if_c, if_10, if_00, if_true, Bool.false_eq_true, if_pos hb], CL1_step hc hj hn h (fun u v hu hv => ?_)⟩
        by_cases hq : u = j
        · subst hq; rw [upd_s, b_or]; simp [hb]
        · rw [upd_n hq]; simp [hq]
      · refine ⟨upd s j (s j ||| 0), by simp (disch := omega) only [m_X8_works_L138, n_le, ag_n, au_n, nI_1, Nat.not_le.mpr hj, if_false, hb8, cl_s, if_c, if_10, if_00, if_true, Bool.false_eq_true, if_neg hb], CL1_step hc hj hn h (fun u v hu hv => ?_)⟩
        by_cases hq : u = j
        · subst hq; rw [upd_s, or_00]; simp [hb]
        · rw [upd_n hq]; simp [hb])
    (fun f s _ => by simp (disch := omega) only [m_X8_works_L138, n_le, Nat.le_refl, if_true]) 0 rc (by omega) (by omega) h
  exact ⟨s, h1, h2⟩
theorem works_128 {n : Nat} (hn : n ≤ 12) (E : Nat → Nat → Prop) (rc : Nat → Int32) (h : CL1 n 0 0 E rc) (k : Int32 → (Nat → Int32) → Option ((Nat → Int32) × (Nat → Int32) × (Nat → Int32) × (Nat → Int32))) : ∃ r', CL1 n n 0 E r' ∧ m_X8_works_L128 (nI n) FU 0 rc k = k (nI n) r' := by
  obtain ⟨s, h1, h2⟩ := lpx (fun f i (s : Nat → Int32) => m_X8_works_L128 (nI n) f i s k) (fun s => k (nI n) s) n (fun j s => CL1 n j 0 E s)
    (fun f j s hj h => by
      obtain ⟨r', q1, q2⟩ := works_138 hn hj E s h (fun _ y => m_X8_works_L128 (nI n) f (nI j + 1) y k)
      refine ⟨r', ?_, CL1_next q1⟩
      simp (disch := omega) only [m_X8_works_L128, n_le, Nat.not_le.mpr hj, if_false]
      rw [q2, nI_1])
    (fun f s _ => by simp (disch := omega) only [m_X8_works_L128, n_le, Nat.le_refl, if_true]) 0 rc (by omega) (by omega) h
  exact ⟨s, h1, h2⟩
theorem works_202 {n c : Nat} (hn : n ≤ 12) (hc : c < n) (rd rg : Nat → Int32) (hz : rg c = 0) (k : Int32 → (Nat → Int32) → Option ((Nat → Int32) × (Nat → Int32) × (Nat → Int32) × (Nat → Int32))) : ∃ r', r' c = bs (fun v => bt (rd v) c) n ∧ (∀ u, u ≠ c → r' u = rg u) ∧ m_X8_works_L202 (nI n) rd (nI c) FU 0 rg k = k (nI n) r' := by
  obtain ⟨s, h1, h2⟩ := lpx (fun f i (s : Nat → Int32) => m_X8_works_L202 (nI n) rd (nI c) f i s k) (fun s => k (nI n) s) n (fun j s => s c = bs (fun v => bt (rd v) c) j ∧ ∀ u, u ≠ c → s u = rg u)
    (fun f j s hj h => by
      by_cases hb : bt (rd j) c = true
      · refine ⟨upd s c (s c ||| ((1 : Int32) <<< (nI j &&& 31))), by simp (disch := omega) only [m_X8_works_L202, n_le, ag_n, au_n, nI_1, Nat.not_le.mpr hj, if_false, hb8, cl_s, if_c, if_10, if_00, if_true, Bool.false_eq_true, if_pos hb], ?_, fun u hu => by rw [upd_n hu]; exact h.2 u hu⟩
        rw [upd_s, h.1, bs, if_pos hb]
      · refine ⟨upd s c (s c ||| 0), by simp (disch := omega) only [m_X8_works_L202, n_le, ag_n, au_n, nI_1, Nat.not_le.mpr hj, if_false, hb8, cl_s, if_c, if_10, if_00, if_true, Bool.false_eq_true, if_neg hb], ?_, fun u hu => by rw [upd_n hu]; exact h.2 u hu⟩
        rw [upd_s, or_00, h.1, bs, if_neg hb])
    (fun f s _ => by simp (disch := omega) only [m_X8_works_L202, n_le, Nat.le_refl, if_true]) 0 rg (by omega) (by omega) ⟨hz, fun u _ => rfl⟩
  exact ⟨s, h1.1, h1.2, h2⟩
theorem works_192 {n : Nat} (hn : n ≤ 12) (rd rg : Nat → Int32) (hz : ∀ u, u < 12 → rg u = 0) (k : Int32 → (Nat → Int32) → Option ((Nat → Int32) × (Nat → Int32) × (Nat → Int32) × (Nat → Int32))) : ∃ r', (∀ c, c < n → r' c = bs (fun v => bt (rd v) c) n) ∧ m_X8_works_L192 (nI n) rd FU 0 rg k = k (nI n) r' := by
  obtain ⟨s, h1, h2⟩ := lpx (fun f i (s : Nat → Int32) => m_X8_works_L192 (nI n) rd f i s k) (fun s => k (nI n) s) n (fun j s => (∀ c, c < j → s c = bs (fun v => bt (rd v) c) n) ∧ ∀ c, j ≤ c → c < 12 → s c = 0)
    (fun f j s hj h => by
      obtain ⟨r', q1, q2, q3⟩ := works_202 hn hj rd s (h.2 j (Nat.le_refl j) (by omega)) (fun _ y => m_X8_works_L192 (nI n) rd f (nI j + 1) y k)
      refine ⟨r', ?_, fun c hc => ?_, fun c h3 h4 => ?_⟩
      · simp (disch := omega) only [m_X8_works_L192, n_le, Nat.not_le.mpr hj, if_false]
        rw [q3, nI_1]
      · by_cases hq : c = j
        · subst hq; exact q1
        · rw [q2 c hq]; exact h.1 c (by omega)
      · rw [q2 c (by omega)]; exact h.2 c (by omega) h4)
    (fun f s _ => by simp (disch := omega) only [m_X8_works_L192, n_le, Nat.le_refl, if_true]) 0 rg (by omega) (by omega) ⟨fun c h => by omega, fun c _ h => hz c h⟩
  exact ⟨s, h1.1, h2⟩
theorem works_spec {n t : Nat} {upper lower : Nat → Int32} {up lo : Nat → Nat} (hT : TI n t upper lower up lo) (hn : n ≤ 12) (ht : t ≤ 40) (b : Int32) (un ov rd rg : Nat → Int32) : ∃ un' ov' rd' rg', WB n t up lo b un' ov' rd' ∧ (∀ c, c < n → rg' c = bs (fun v => bt (rd' v) c) n) ∧ m_X8_works (nI n) (nI t) upper lower un ov rd rg b = some (un', ov', rd', rg') := by
  unfold m_X8_works
  obtain ⟨un1, ov1, rg1, a1, a3, a2⟩ := works_2 un ov rg (fun x2_2 y_f_under_2 y_f_over_2 y_f_reaching_2 =>
  m_X8_works_L37 (nI t) upper lower b FU (0 : Int32) y_f_under_2 y_f_over_2 fun x2_37 y_f_under_37 y_f_over_37 =>
  m_X8_works_L102 y_f_under_37 FU (0 : Int32) rd fun x2_102 y_f_reached_102 =>
  m_X8_works_L128 (nI n) FU (0 : Int32) y_f_reached_102 fun x2_128 y_f_reached_128 =>
  m_X8_works_L192 (nI n) y_f_reached_128 FU (0 : Int32) y_f_reaching_2 fun x2_192 y_f_reaching_192 =>
  some (y_f_under_37, y_f_over_37, y_f_reached_128, y_f_reaching_192))
  obtain ⟨un2, ov2, b1, b2⟩ := works_37 hT hn ht b un1 ov1 a1 (fun x2_37 y_f_under_37 y_f_over_37 =>
  m_X8_works_L102 y_f_under_37 FU (0 : Int32) rd fun x2_102 y_f_reached_102 =>
  m_X8_works_L128 (nI n) FU (0 : Int32) y_f_reached_102 fun x2_128 y_f_reached_128 =>
  m_X8_works_L192 (nI n) y_f_reached_128 FU (0 : Int32) rg1 fun x2_192 y_f_reaching_192 =>
  some (y_f_under_37, y_f_over_37, y_f_reached_128, y_f_reaching_192))
  obtain ⟨r1, c1, c2⟩ := works_102 un2 rd (fun x2_102 y_f_reached_102 =>
  m_X8_works_L128 (nI n) FU (0 : Int32) y_f_reached_102 fun x2_128 y_f_reached_128 =>
  m_X8_works_L192 (nI n) y_f_reached_128 FU (0 : Int32) rg1 fun x2_192 y_f_reaching_192 =>
  some (un2, ov2, y_f_reached_128, y_f_reaching_192))
  have hcl : CL1 n 0 0 (Ed t up lo b) r1 := by
    intro u v hu hv
    rw [c1 u (by omega), if_neg (by omega)]
    exact (b1 u v (by omega) hv).1
  obtain ⟨r2, d1, d2⟩ := works_128 hn (Ed t up lo b) r1 hcl (fun x2_128 y_f_reached_128 =>
  m_X8_works_L192 (nI n) y_f_reached_128 FU (0 : Int32) rg1 fun x2_192 y_f_reaching_192 =>
  some (un2, ov2, y_f_reached_128, y_f_reaching_192))
  obtain ⟨r3, e1, e2⟩ := works_192 hn r2 rg1 a3 (fun x2_192 y_f_reaching_192 => some (un2, ov2, r2, y_f_reaching_192))
  refine ⟨un2, ov2, r2, r3, ⟨fun u v hu hv => (b1 u v hu hv).1, fun u v hu hv => (b1 u v hu hv).2, fun u v hu hv => ?_⟩, e1, ?_⟩
  · have := d1 u v hu hv
    rwa [if_neg (by omega)] at this
  · rw [a2, b2, c2, d2, e2]
/-! rows of two webs over the same ties are the same -/
theorem WB_un {n t : Nat} {up lo : Nat → Nat} {b : Int32} {un ab rc un' ab' rc' : Nat → Int32} (h : WB n t up lo b un ab rc) (h' : WB n t up lo b un' ab' rc') : (∀ u, u < 12 → un' u = un u) ∧ (∀ u, u < 12 → ab' u = ab u) ∧ ∀ u, u < n → rc' u = rc u :=
  ⟨fun u hu => b_ext (fun v hv => Bool.eq_iff_iff.mpr ((h'.1 u v hu hv).trans (h.1 u v hu hv).symm)), fun u hu => b_ext (fun v hv => Bool.eq_iff_iff.mpr ((h'.2.1 u v hu hv).trans (h.2.1 u v hu hv).symm)), fun u hu => b_ext (fun v hv => Bool.eq_iff_iff.mpr ((h'.2.2 u v hu hv).trans (h.2.2 u v hu hv).symm))⟩
