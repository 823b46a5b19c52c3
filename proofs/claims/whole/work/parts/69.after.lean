/-! ===== the call after ===== -/
theorem cp_20 (f g a b : Nat → Int32) (k : Int32 → (Nat → Int32) → (Nat → Int32) → Option ((Nat → Int32) × (Nat → Int32) × Int32 × (Nat → Int32) × (Nat → Int32) × (Nat → Int32) × (Nat → Int32) × (Nat → Int32) × (Nat → Int32) × (Nat → Int64) × (Nat → Int32) × (Nat → Int32) × (Nat → Int32) × (Nat → Int32) × Int64)) : ∃ a' b', SAME 40 f a' ∧ SAME 40 g b' ∧ m_X8_after_L20 f g FU 0 a b k = k (nI 40) a' b' := by
  obtain ⟨s, h1, h2⟩ := lpx (fun z i (s : (Nat → Int32) × (Nat → Int32)) => m_X8_after_L20 f g z i s.1 s.2 k) (fun s => k (nI 40) s.1 s.2) 40 (fun j s => ∀ x, x < j → s.1 x = f x ∧ s.2 x = g x)
    (fun z j s hj hP => by
      have c0 : ¬ (40 : Int32) ≤ nI j := by rw [l_le (k := 40) (by omega) (by omega)]; omega
      refine ⟨(upd s.1 j (f j), upd s.2 j (g j)), ?_, fun x hx => ?_⟩
      · rw [m_X8_after_L20, if_neg c0, ag_n hj (by omega), au_n hj (by omega), ag_n hj (by omega), au_n hj (by omega), nI_1]
      · by_cases c : x = j
        · subst c; simp only [upd_s]; exact ⟨trivial, trivial⟩
        · simp only [upd_n c]; exact hP x (by omega))
    (fun z s _ => by
      have c0 : (40 : Int32) ≤ nI 40 := by decide
      rw [m_X8_after_L20, if_pos c0]) 0 (a, b) (by omega) (by omega) (fun x hx => absurd hx (by omega))
  exact ⟨s.1, s.2, fun x hx => (h1 x hx).1, fun x hx => (h1 x hx).2, h2⟩
theorem cp_58 (f g a b : Nat → Int32) (k : Int32 → (Nat → Int32) → (Nat → Int32) → Option ((Nat → Int32) × (Nat → Int32) × Int32 × (Nat → Int32) × (Nat → Int32) × (Nat → Int32) × (Nat → Int32) × (Nat → Int32) × (Nat → Int32) × (Nat → Int64) × (Nat → Int32) × (Nat → Int32) × (Nat → Int32) × (Nat → Int32) × Int64)) : ∃ a' b', SAME 12 f a' ∧ SAME 12 g b' ∧ m_X8_after_L58 f g FU 0 a b k = k (nI 12) a' b' := by
  obtain ⟨s, h1, h2⟩ := lpx (fun z i (s : (Nat → Int32) × (Nat → Int32)) => m_X8_after_L58 f g z i s.1 s.2 k) (fun s => k (nI 12) s.1 s.2) 12 (fun j s => ∀ x, x < j → s.1 x = f x ∧ s.2 x = g x)
    (fun z j s hj hP => by
      have c0 : ¬ (12 : Int32) ≤ nI j := by rw [l_le (k := 12) (by omega) (by omega)]; omega
      refine ⟨(upd s.1 j (f j), upd s.2 j (g j)), ?_, fun x hx => ?_⟩
      · rw [m_X8_after_L58, if_neg c0, ag_n hj (by omega), au_n hj (by omega), ag_n hj (by omega), au_n hj (by omega), nI_1]
      · by_cases c : x = j
        · subst c; simp only [upd_s]; exact ⟨trivial, trivial⟩
        · simp only [upd_n c]; exact hP x (by omega))
    (fun z s _ => by
      have c0 : (12 : Int32) ≤ nI 12 := by decide
      rw [m_X8_after_L58, if_pos c0]) 0 (a, b) (by omega) (by omega) (fun x hx => absurd hx (by omega))
  exact ⟨s.1, s.2, fun x hx => (h1 x hx).1, fun x hx => (h1 x hx).2, h2⟩
theorem cp_174 (f g a b : Nat → Int32) (k : Int32 → (Nat → Int32) → (Nat → Int32) → Option ((Nat → Int32) × (Nat → Int32) × Int32 × (Nat → Int32) × (Nat → Int32) × (Nat → Int32) × (Nat → Int32) × (Nat → Int32) × (Nat → Int32) × (Nat → Int64) × (Nat → Int32) × (Nat → Int32) × (Nat → Int32) × (Nat → Int32) × Int64)) : ∃ a' b', SAME 40 f a' ∧ SAME 40 g b' ∧ m_X8_after_L174 f g FU 0 a b k = k (nI 40) a' b' := by
  obtain ⟨s, h1, h2⟩ := lpx (fun z i (s : (Nat → Int32) × (Nat → Int32)) => m_X8_after_L174 f g z i s.1 s.2 k) (fun s => k (nI 40) s.1 s.2) 40 (fun j s => ∀ x, x < j → s.1 x = f x ∧ s.2 x = g x)
    (fun z j s hj hP => by
      have c0 : ¬ (40 : Int32) ≤ nI j := by rw [l_le (k := 40) (by omega) (by omega)]; omega
      refine ⟨(upd s.1 j (f j), upd s.2 j (g j)), ?_, fun x hx => ?_⟩
      · rw [m_X8_after_L174, if_neg c0, ag_n hj (by omega), au_n hj (by omega), ag_n hj (by omega), au_n hj (by omega), nI_1]
      · by_cases c : x = j
        · subst c; simp only [upd_s]; exact ⟨trivial, trivial⟩
        · simp only [upd_n c]; exact hP x (by omega))
    (fun z s _ => by
      have c0 : (40 : Int32) ≤ nI 40 := by decide
      rw [m_X8_after_L174, if_pos c0]) 0 (a, b) (by omega) (by omega) (fun x hx => absurd hx (by omega))
  exact ⟨s.1, s.2, fun x hx => (h1 x hx).1, fun x hx => (h1 x hx).2, h2⟩
theorem cp_218 (f g a b : Nat → Int32) (k : Int32 → (Nat → Int32) → (Nat → Int32) → Option ((Nat → Int32) × (Nat → Int32) × Int32 × (Nat → Int32) × (Nat → Int32) × (Nat → Int32) × (Nat → Int32) × (Nat → Int32) × (Nat → Int32) × (Nat → Int64) × (Nat → Int32) × (Nat → Int32) × (Nat → Int32) × (Nat → Int32) × Int64)) : ∃ a' b', SAME 12 f a' ∧ SAME 12 g b' ∧ m_X8_after_L218 f g FU 0 a b k = k (nI 12) a' b' := by
  obtain ⟨s, h1, h2⟩ := lpx (fun z i (s : (Nat → Int32) × (Nat → Int32)) => m_X8_after_L218 f g z i s.1 s.2 k) (fun s => k (nI 12) s.1 s.2) 12 (fun j s => ∀ x, x < j → s.1 x = f x ∧ s.2 x = g x)
    (fun z j s hj hP => by
      have c0 : ¬ (12 : Int32) ≤ nI j := by rw [l_le (k := 12) (by omega) (by omega)]; omega
      refine ⟨(upd s.1 j (f j), upd s.2 j (g j)), ?_, fun x hx => ?_⟩
      · rw [m_X8_after_L218, if_neg c0, ag_n hj (by omega), au_n hj (by omega), ag_n hj (by omega), au_n hj (by omega), nI_1]
      · by_cases c : x = j
        · subst c; simp only [upd_s]; exact ⟨trivial, trivial⟩
        · simp only [upd_n c]; exact hP x (by omega))
    (fun z s _ => by
      have c0 : (12 : Int32) ≤ nI 12 := by decide
      rw [m_X8_after_L218, if_pos c0]) 0 (a, b) (by omega) (by omega) (fun x hx => absurd hx (by omega))
  exact ⟨s.1, s.2, fun x hx => (h1 x hx).1, fun x hx => (h1 x hx).2, h2⟩
theorem cn_sn (p : Nat → Bool) (n : Nat) : cn p (n + 1) = cn p n + (if p n = true then 1 else 0) := rfl
theorem crossed8 {n : Nat} (hn : n ≤ 12) {rd rg fm tm : Nat → Int32} (hg : ∀ c, c < n → rg c = bs (fun v => bt (rd v) c) n) {g1 g2 : Nat → Nat} (h1 : ∀ j, j < n → fm j = nI (g1 j) ∧ g1 j ≤ 2000) (h2 : ∀ j, j < n → tm j = nI (g2 j) ∧ g2 j ≤ 2000) : m_X8_crossed (nI n) fm tm rd rg = some (if cy n rd = true then -5 else nI (cn (cx n rd g1 g2) n)) := by
  unfold m_X8_crossed
  rw [cyc8 hn, cl_s, if_c]
  by_cases hc : cy n rd = true
  · rw [if_pos hc, if_pos hc]
  rw [if_neg hc, if_neg hc]
  obtain ⟨s, q1, q2⟩ := lpx (fun f i (a : Int32) => m_X8_crossed_L14 (nI n) fm tm rd rg f a i (fun x1_14 x2_14 => some x1_14)) (fun a => some a) n (fun j a => a = nI (cn (cx n rd g1 g2) j))
    (fun f j a hj hP => by
      have c0 : ¬ nI n ≤ nI j := by rw [n_le (by omega) (by omega)]; omega
      have e1 : m_X8_earliest (nI n) fm rd (nI j) = some (nI (eU n rd g1 j)) := early8 hn rd fm h1 hj
      have e2 : m_X8_latest (nI n) tm rg (nI j) = some (nI (lU n rd g2 j)) := by
        rw [late8 hn rg tm h2 hj]
        have e3 : mn g2 (bt (rg j)) (g2 j) n = lU n rd g2 j := by
          unfold lU
          refine mn_congr (fun i hi => ?_)
          rw [hg j hj, bt_bs _ (by omega) n (by omega)]
          simp [hi]
        rw [e3]
      have b1 := eU_le (rc := rd) (fun i hi => (h1 i hi).2) hj
      have b2 := lU_le (rc := rd) (fun i hi => (h2 i hi).2) hj
      refine ⟨nI (cn (cx n rd g1 g2) (j + 1)), ?_, rfl⟩
      rw [m_X8_crossed_L14, if_neg c0, e1, e2, cl_s, cl_s, hP, cn_sn, nI_1]
      by_cases c : lU n rd g2 j < eU n rd g1 j
      · have c1 : ¬ nI (eU n rd g1 j) ≤ nI (lU n rd g2 j) := by rw [n_le (by omega) (by omega)]; omega
        have c2 : cx n rd g1 g2 j = true := by unfold cx; exact decide_eq_true c
        rw [if_neg c1, if_pos c2, nI_1]
      · have c1 : nI (eU n rd g1 j) ≤ nI (lU n rd g2 j) := by rw [n_le (by omega) (by omega)]; omega
        have c2 : ¬ cx n rd g1 g2 j = true := by unfold cx; rw [decide_eq_true_eq]; exact c
        rw [if_pos c1, if_neg c2, Int32.add_zero]
        rfl)
    (fun f a _ => by
      have c0 : nI n ≤ nI n := by rw [n_le (by omega) (by omega)]; omega
      rw [m_X8_crossed_L14, if_pos c0]) 0 0 (by omega) (by omega) rfl
  rw [q1] at q2
  exact q2
theorem o_after {fu ft fd fs fe eun et ed es ee : Int32} {tr upr lwr dr hu hk sf ss si ew eu kd th fm tm ph ab bl dg tu tk sn ev : Nat → Int32} (H : RSite fu ft fd fs fe tr upr lwr dr hu hk sf ss si ew eu eun et ed es ee kd th fm tm ph ab bl dg tu tk sn ev) (xu xt xd xs xe : Int32) (xtr xupr xlwr xdr xhu xhk xsf xss xsi xew xeu : Nat → Int32) (wu : Int32) (w1 w2 w3 v1 v2 v3 v4 : Nat → Int32) (tb : Nat → Int64) (bk : Nat → Int32) (left : Int32) (hw : WYS tb bk left) (ways : Nat → Int64) (sa sb sc sd : Nat → Int32) (a1 : Int32) : ∃ r7 r8, m_X7_after fu ft fd fs fe tr upr lwr dr hu hk sf ss si ew eu xu xt xd xs xe xtr xupr xlwr xdr xhu xhk xsf xss xsi xew xeu wu w1 w2 w3 tb bk left a1 = some r7 ∧ m_X8_after eun fm tm et ab bl dg ed v1 v2 v3 v4 ways ev ee sa sb sc sd a1 = some r8 ∧ r7.2.2.2.2.2.2.2.2.2.2.2.2.2.2.2.2.2.2.2.2.2.2.2 = r8.2.2.2.2.2.2.2.2.2.2.2.2.2.2 ∧ WYS r7.2.2.2.2.2.2.2.2.2.2.2.2.2.2.2.2.2.2.2.2.1 r7.2.2.2.2.2.2.2.2.2.2.2.2.2.2.2.2.2.2.2.2.2.1 r7.2.2.2.2.2.2.2.2.2.2.2.2.2.2.2.2.2.2.2.2.2.2.1 ∧ RSite fu ft fd fs fe tr upr lwr dr hu hk sf ss si ew eu eun r8.2.2.1 ed es ee kd th r8.1 r8.2.1 ph r8.2.2.2.1 r8.2.2.2.2.1 dg tu tk sn ev := by
  obtain ⟨n, t, d, s, e, up, lo, dn, hN, q1, q2, q3, q4, q5, q6⟩ := id H
  obtain ⟨⟨rfl, rfl, n3⟩, ⟨rfl, rfl, t3⟩, ⟨rfl, rfl⟩, ⟨rfl, rfl, s3⟩, ⟨rfl, rfl, e3⟩⟩ := id hN
  unfold m_X7_after m_X8_after
  rcases in_cases a1 1 (by omega) with ⟨h1, h2⟩ | ⟨j, hj, rfl, h1⟩
  · have h1 : m_X8_in a1 0 1 = some 0 := h1
    have h2 : a1 < 0 ∨ (1 : Int32) < a1 := h2
    rw [h1, cl_s, if_00]
    by_cases c : a1 < 0
    · rw [if_pos c]; exact ⟨_, _, rfl, rfl, rfl, hw, H⟩
    · rcases h2 with h2 | h2
      · exact absurd h2 c
      · rw [if_neg c, if_neg (not_le_of h2)]; exact ⟨_, _, rfl, rfl, rfl, hw, H⟩
  have h1 : m_X8_in (nI j) 0 1 = some 1 := h1
  have c1 : ¬ nI j < 0 := by rw [lt_l (k := 0) (by omega) (by omega)]; omega
  have c2 : nI j ≤ (1 : Int32) := by rw [le_l (k := 1) (by omega) (by omega)]; exact hj
  obtain ⟨a, b, c, d', e', f, g, h, i, jj, k, y1, y2, y3, y4, y5, y6, y7, y8, y9, y10, y11, hb⟩ := becomes xu xt xd xs xe xtr xupr xlwr xdr xhu xhk xsf xss xsi xew xeu (nI n) (nI t) (nI d) (nI s) (nI e) tr upr lwr dr hu hk sf ss si ew eu q5.1
  have z1 := RTr_same n3 q1 y1 (same_refl 12 kd) (same_refl 12 th) (same_refl 12 fm) (same_refl 12 tm) (same_refl 12 ph)
  have z2 := RTi_same t3 q2 y2 y3 (same_refl 40 ab) (same_refl 40 bl)
  have z3 := RDg_same n3 q3 y4 (same_refl 12 dg)
  have z6 := REv_same e3 q6 y10 y11 (same_refl 16 ev)
  obtain ⟨z, -, g1, g2⟩ := dug7 n3 z3
  have hH : HAP n (nI t, nI d, a, b, c, d') (z, fm, tm, nI t, ab, bl) := ⟨t, d, up, lo, dn, kd, th, ph, t3, rfl, rfl, rfl, z2, ⟨fun k hk => ⟨(z3.1 k hk).1, rfl, (z3.1 k hk).2.2⟩, z3.2⟩, g2, z1⟩
  rw [h1, cl_s, if_10, if_neg c1, if_pos c2, hb, cl_s]
  obtain ⟨sa', sb', m1, m2, m3⟩ := cp_20 ab bl sa sb (fun x3_20 y_f_wasAbove_20 y_f_wasBelow_20 =>
  m_X8_after_L58 fm tm FU (0 : Int32) sc sd fun x3_58 y_f_wasFrom_58 y_f_wasTo_58 =>
  cl (m_X8_dugSet dg (nI d)) fun r_11 =>
  m_X8_after_L102 (nI e) ev FU r_11 (0 : Int32) fm tm (nI t) ab bl fun x3_102 x4_102 y_f_froms_102 y_f_tos_102 y_f_ties_102 y_f_aboves_102 y_f_belows_102 =>
  cl (m_X8_works_ (nI n) y_f_ties_102 y_f_aboves_102 y_f_belows_102 v1 v2 v3 v4) fun r_17 =>
  jn (fun x_164 : (Int64 × (Nat → Int64)) =>
  m_X8_after_L174 y_f_wasAbove_20 y_f_wasBelow_20 FU (0 : Int32) y_f_aboves_102 y_f_belows_102 fun x6_174 y_f_aboves_174 y_f_belows_174 =>
  m_X8_after_L218 y_f_wasFrom_58 y_f_wasTo_58 FU (0 : Int32) y_f_froms_102 y_f_tos_102 fun x6_218 y_f_froms_218 y_f_tos_218 =>
  some (y_f_froms_218, y_f_tos_218, (nI t), y_f_aboves_174, y_f_belows_174, r_17.1, r_17.2.1, r_17.2.2.1, r_17.2.2.2, x_164.2, y_f_wasAbove_20, y_f_wasBelow_20, y_f_wasFrom_58, y_f_wasTo_58, x_164.1)) fun j_164 =>
  if nI j = 0 then (cl (m_X8_ordersFrom (nI n) r_17.2.1 r_17.2.2.1 ways x3_102) fun r_29 =>
  j_164 (r_29.2, r_29.1))
  else (cl (m_X8_crossed (nI n) y_f_froms_102 y_f_tos_102 r_17.2.2.1 r_17.2.2.2) fun r_27 =>
  j_164 ((r_27).toInt64, ways)))
  rw [m3]
  try dsimp only
  obtain ⟨sc', sd', m4, m5, m6⟩ := cp_58 fm tm sc sd (fun x3_58 y_f_wasFrom_58 y_f_wasTo_58 =>
  cl (m_X8_dugSet dg (nI d)) fun r_11 =>
  m_X8_after_L102 (nI e) ev FU r_11 (0 : Int32) fm tm (nI t) ab bl fun x3_102 x4_102 y_f_froms_102 y_f_tos_102 y_f_ties_102 y_f_aboves_102 y_f_belows_102 =>
  cl (m_X8_works_ (nI n) y_f_ties_102 y_f_aboves_102 y_f_belows_102 v1 v2 v3 v4) fun r_17 =>
  jn (fun x_164 : (Int64 × (Nat → Int64)) =>
  m_X8_after_L174 sa' sb' FU (0 : Int32) y_f_aboves_102 y_f_belows_102 fun x6_174 y_f_aboves_174 y_f_belows_174 =>
  m_X8_after_L218 y_f_wasFrom_58 y_f_wasTo_58 FU (0 : Int32) y_f_froms_102 y_f_tos_102 fun x6_218 y_f_froms_218 y_f_tos_218 =>
  some (y_f_froms_218, y_f_tos_218, (nI t), y_f_aboves_174, y_f_belows_174, r_17.1, r_17.2.1, r_17.2.2.1, r_17.2.2.2, x_164.2, sa', sb', y_f_wasFrom_58, y_f_wasTo_58, x_164.1)) fun j_164 =>
  if nI j = 0 then (cl (m_X8_ordersFrom (nI n) r_17.2.1 r_17.2.2.1 ways x3_102) fun r_29 =>
  j_164 (r_29.2, r_29.1))
  else (cl (m_X8_crossed (nI n) y_f_froms_102 y_f_tos_102 r_17.2.2.1 r_17.2.2.2) fun r_27 =>
  j_164 ((r_27).toInt64, ways)))
  rw [m6]
  try dsimp only
  rw [g1, cl_s]
  obtain ⟨p1, p2, hP, p3, p4⟩ := hap_all n3 e3 z6 hH (fun x3_102 x4_102 y_f_froms_102 y_f_tos_102 y_f_ties_102 y_f_aboves_102 y_f_belows_102 =>
  cl (m_X8_works_ (nI n) y_f_ties_102 y_f_aboves_102 y_f_belows_102 v1 v2 v3 v4) fun r_17 =>
  jn (fun x_164 : (Int64 × (Nat → Int64)) =>
  m_X8_after_L174 sa' sb' FU (0 : Int32) y_f_aboves_102 y_f_belows_102 fun x6_174 y_f_aboves_174 y_f_belows_174 =>
  m_X8_after_L218 sc' sd' FU (0 : Int32) y_f_froms_102 y_f_tos_102 fun x6_218 y_f_froms_218 y_f_tos_218 =>
  some (y_f_froms_218, y_f_tos_218, (nI t), y_f_aboves_174, y_f_belows_174, r_17.1, r_17.2.1, r_17.2.2.1, r_17.2.2.2, x_164.2, sa', sb', sc', sd', x_164.1)) fun j_164 =>
  if nI j = 0 then (cl (m_X8_ordersFrom (nI n) r_17.2.1 r_17.2.2.1 ways x3_102) fun r_29 =>
  j_164 (r_29.2, r_29.1))
  else (cl (m_X8_crossed (nI n) y_f_froms_102 y_f_tos_102 r_17.2.2.1 r_17.2.2.2) fun r_27 =>
  j_164 ((r_27).toInt64, ways)))
  dsimp only at p3 p4
  rw [p3, p4, cl_s]
  obtain ⟨st, sg, ytr, yup, ylw, ydr⟩ := p1
  obtain ⟨zz, yfm, ytm, yet, yab, ybl⟩ := p2
  obtain ⟨t', d'', up', lo', dn', kd', th', ph', u1, u2, u3, u4, u5, u6, u7, u8⟩ := hP
  dsimp only at u2 u3 u4 u5 u6 u7 u8 ⊢
  have hback : ∀ (x : Int64 × (Nat → Int64)) (r1 r2 r3 r4 : Nat → Int32), ∃ na nb nf nt, SAME 40 ab na ∧ SAME 40 bl nb ∧ SAME 12 fm nf ∧ SAME 12 tm nt ∧ (m_X8_after_L174 sa' sb' FU (0 : Int32) yab ybl fun x6_174 y_f_aboves_174 y_f_belows_174 =>
  m_X8_after_L218 sc' sd' FU (0 : Int32) yfm ytm fun x6_218 y_f_froms_218 y_f_tos_218 =>
  some (y_f_froms_218, y_f_tos_218, (nI t), y_f_aboves_174, y_f_belows_174, r1, r2, r3, r4, x.2, sa', sb', sc', sd', x.1)) = some (nf, nt, (nI t), na, nb, r1, r2, r3, r4, x.2, sa', sb', sc', sd', x.1) := fun x r1 r2 r3 r4 => by
    obtain ⟨na, nb, o1, o2, o3⟩ := cp_174 sa' sb' yab ybl (fun x6_174 y_f_aboves_174 y_f_belows_174 =>
  m_X8_after_L218 sc' sd' FU (0 : Int32) yfm ytm fun x6_218 y_f_froms_218 y_f_tos_218 =>
  some (y_f_froms_218, y_f_tos_218, (nI t), y_f_aboves_174, y_f_belows_174, r1, r2, r3, r4, x.2, sa', sb', sc', sd', x.1))
    obtain ⟨nf, nt, o4, o5, o6⟩ := cp_218 sc' sd' yfm ytm (fun x6_218 y_f_froms_218 y_f_tos_218 =>
  some (y_f_froms_218, y_f_tos_218, (nI t), na, nb, r1, r2, r3, r4, x.2, sa', sb', sc', sd', x.1))
    refine ⟨na, nb, nf, nt, fun i hi => by rw [o1 i hi, m1 i hi], fun i hi => by rw [o2 i hi, m2 i hi], fun i hi => by rw [o4 i hi, m4 i hi], fun i hi => by rw [o5 i hi, m5 i hi], ?_⟩
    rw [o3]
    try dsimp only
    rw [o6]
  have hfin : ∀ {na nb nf nt : Nat → Int32}, SAME 40 ab na → SAME 40 bl nb → SAME 12 fm nf → SAME 12 tm nt → RSite (nI n) (nI t) (nI d) (nI s) (nI e) tr upr lwr dr hu hk sf ss si ew eu (nI n) (nI t) (nI d) (nI s) (nI e) kd th nf nt ph na nb dg tu tk sn ev := fun o1 o2 o3 o4 => RSite_same H (same_refl _ _) (same_refl _ _) (same_refl _ _) (same_refl _ _) (same_refl _ _) (same_refl _ _) (same_refl _ _) (same_refl _ _) (same_refl _ _) (same_refl _ _) (same_refl _ _) (same_refl _ _) (same_refl _ _) o3 o4 (same_refl _ _) o1 o2 (same_refl _ _) (same_refl _ _) (same_refl _ _) (same_refl _ _) (same_refl _ _)
  rw [u2, u3, u4]
  rcases (show j = 0 ∨ j = 1 by omega) with rfl | rfl
  · obtain ⟨un, av, rc, tb', bk', left', un', ov', rd', rg', zy, ways', A, l1, l2, l3, l4, l5, -⟩ := law_both n3 u1 u5 u6 wu w1 w2 w3 v1 v2 v3 v4 tb bk left hw ways
    obtain ⟨zx, x1, x2, x3⟩ := dug7 n3 u6
    rw [l3] at x2
    have hz : zz = zy := b_ext (fun v hv => Bool.eq_iff_iff.mpr ((u7 v hv).trans ((by rw [Option.some.inj x2]; exact x3 v hv) : _ ↔ _).symm))
    subst hz
    have c0 : nI 0 = 0 := rfl
    rw [if_pos c0, l1, l2, cl_s, cl_s]
    dsimp only [jn]
    rw [if_pos c0, l4, cl_s]
    obtain ⟨na, nb, nf, nt, o1, o2, o3, o4, o5⟩ := hback (A, ways') un' ov' rd' rg'
    dsimp only at o5 ⊢
    rw [o5]
    exact ⟨_, _, rfl, rfl, rfl, l5, hfin o1 o2 o3 o4⟩
  · obtain ⟨un, av, rc, un', ov', rd', rg', l1, l2, l3, l4, l5, l6, l7, l8⟩ := webs n3 u1 u5 wu w1 w2 w3 v1 v2 v3 v4
    have hcy := cy_congr (n := n) (rc := rc) (rd := rd') l7
    have l1' : m_X5_weave wu w1 w2 w3 (nI n) (nI t') yup ylw (-1) = some (nI n, un, av, rc) := by
      obtain ⟨un2, av2, rc2, f1, f2⟩ := weave_spec u5.1 n3 u1 (-1) wu w1 w2 w3
      unfold m_X7_woven at l1
      rw [f2] at l1 ⊢
      exact l1
    obtain ⟨b1, b2, k1, k2, k3, k4⟩ := bnds u8
    have hcx : cn (cx n rd' b1 b2) n = cn (cx n rc b1 b2) n := cn_congr (fun u hu => by
      unfold cx
      rw [eU_congr l7 hu, lU_congr l7])
    have c0 : ¬ nI 1 = 0 := by decide
    rw [if_neg c0, l1', l2, cl_s, cl_s]
    dsimp only [jn]
    rw [if_neg c0, crossed8 n3 l8 k3 k4, cl_s, cyc7 n3, cl_s, if_c, hcy, hcx]
    obtain ⟨na, nb, nf, nt, o1, o2, o3, o4, o5⟩ := hback ((if cy n rc = true then (-5 : Int32) else nI (cn (cx n rc b1 b2) n)).toInt64, ways) un' ov' rd' rg'
    dsimp only at o5 ⊢
    rw [o5]
    by_cases hc : cy n rc = true
    · rw [if_pos hc]
      refine ⟨_, _, rfl, rfl, ?_, hw, hfin o1 o2 o3 o4⟩
      dsimp only
      rw [if_pos hc]; decide
    · rw [if_neg hc, cross7 n3 rc ytr k1 k2, cl_s, pop_bs n3, cl_s]
      refine ⟨_, _, rfl, rfl, ?_, hw, hfin o1 o2 o3 o4⟩
      dsimp only
      rw [if_neg hc]
