/-! ===== the call read ===== -/
theorem o_read {n t : Nat} (hn : n ≤ 12) (ht : t ≤ 40) {tr kd th fm tm ph upr lwr ab bl : Nat → Int32} {up lo : Nat → Nat} (hr : RTr n tr kd th fm tm ph) (h : RTi n t upr lwr ab bl up lo) {ln el : Int32} {tx et vb : Nat → Int32} (hw : RWords ln tx el et) (hv : RVerbs vb) (fi ve se : Nat → Int32) (w4 w5 w6 : Int32) (v1 v2 : Int32) (sen : Nat → Int32) : ∃ r7 r8 t2 up2 lo2, m_X7_read (nI n) (nI t) tr upr lwr tx ln fi ve se w4 w5 w6 = some r7 ∧ m_X8_read (nI n) kd ph (nI t) ab bl et el v1 v2 sen vb = some r8 ∧ r7.2.2.2.2.2.2.2.2.2.2.2 = r8.2.2.2.2.2.2.2.2.2 ∧ t2 ≤ 40 ∧ r7.1 = nI t2 ∧ r8.2.2.1 = nI t2 ∧ r7.2.2.2.2.1 = 0 ∧ r8.2.2.2.2.2.1 = 0 ∧ RTr n r7.2.1 r8.1 th fm tm r8.2.1 ∧ RTi n t2 r7.2.2.1 r7.2.2.2.1 r8.2.2.2.1 r8.2.2.2.2.1 up2 lo2 := by
  obtain ⟨L, hL, rfl, rfl, he⟩ := hw
  unfold m_X7_read m_X8_read m_X6_parse
  obtain ⟨k8, hk8⟩ : ∃ k8 : Int32 → Int32 → Int32 → Int32 → (Nat → Int32) → Option ((Nat → Int32) × (Nat → Int32) × Int32 × (Nat → Int32) × (Nat → Int32) × Int32 × Int32 × Int32 × (Nat → Int32) × Int32), k8 = fun x2_24 x3_24 y_f_at_24 y_f_fault_24 y_f_sentences_24 =>
    if x3_24 = 0 then (some (kd, ph, nI t, ab, bl, (0 : Int32), y_f_at_24, y_f_fault_24, y_f_sentences_24, y_f_fault_24))
    else (if nI L ≤ y_f_at_24 then (m_X8_read_L98 (nI n) x2_24 y_f_sentences_24 FU (0 : Int32) (0 : Int32) kd ph (nI t) ab bl fun x4_98 x5_98 y_f_kinds_98 y_f_phases_98 y_f_ties_98 y_f_aboves_98 y_f_belows_98 =>
    some (y_f_kinds_98, y_f_phases_98, y_f_ties_98, y_f_aboves_98, y_f_belows_98, (0 : Int32), y_f_at_24, y_f_fault_24, y_f_sentences_24, x4_98))
    else (some (kd, ph, nI t, ab, bl, (0 : Int32), y_f_at_24, y_f_fault_24, y_f_sentences_24, ((-100 : Int32) - y_f_at_24)))) := ⟨_, rfl⟩
  have hout : ∃ r7 r8, cl (m_X6_takeSentence tx (nI L) fi ve se (0 : Int32) (0 : Int32) (0 : Int32)) (fun r_1 => m_X6_parse_L21 (nI L) tx FU (1 : Int32) r_1.1 r_1.2.1 r_1.2.2.1 r_1.2.2.2.1 r_1.2.2.2.2.1 r_1.2.2.2.2.2 (K7 (nI L))) = r7 ∧ cl (m_X8_sentence et (0 : Int32) v2 sen vb (0 : Int32) (nI L)) (fun r_1 => m_X8_read_L24 (nI L) et vb FU (1 : Int32) r_1.2.2.2 r_1.1 r_1.2.1 r_1.2.2.1 k8) = r8 ∧ OUT L r7 r8 k8 := by
    obtain ⟨f, hf⟩ : ∃ f, FU = f + 1 := ⟨4999, rfl⟩
    rcases sent_both he hv hL (Nat.zero_le L) v2 sen fi ve se (i := 0) (by omega) with ⟨Q, x, y, sen', hQ, q1, q2⟩ | ⟨q, a, v, b, hq, ha, hv5, hb, q1, q2⟩
    · have q1 : m_X6_takeSentence tx (nI L) fi ve se 0 0 0 = _ := q1
      have q2 : m_X8_sentence et 0 v2 sen vb 0 (nI L) = _ := q2
      rw [q1, q2, cl_s, cl_s]
      refine ⟨_, _, rfl, rfl, Or.inl ⟨Q, fi, ve, se, nI 0, x, 1, y, sen', hQ, ?_, ?_⟩⟩
      · rw [hf]; exact L21_f (j := 1) (by omega) hQ
      · rw [hf, m_X8_read_L24, if_pos rfl]
    · have q1 : m_X6_takeSentence tx (nI L) fi ve se 0 0 0 = _ := q1
      have q2 : m_X8_sentence et 0 v2 sen vb 0 (nI L) = _ := q2
      rw [q1, q2, cl_s, cl_s]
      exact ⟨_, _, rfl, rfl, parse_both he hv hL k8 v2 7 1 FU FU q _ _ _ _ (by omega) (by unfold FU; omega) (by unfold FU; omega) hq (DD_add (j := 0) (fun k hk => absurd hk (Nat.not_lt_zero k)) ha hv5 hb)⟩
  obtain ⟨r7, r8, g1, g2, g3⟩ := hout
  have g1 : cl (m_X6_takeSentence tx (nI L) fi ve se (0 : Int32) (0 : Int32) (0 : Int32)) (fun r_1 => m_X6_parse_L21 (nI L) tx FU (1 : Int32) r_1.1 r_1.2.1 r_1.2.2.1 r_1.2.2.2.1 r_1.2.2.2.2.1 r_1.2.2.2.2.2 fun x1_21 y_f_first_21 y_f_verb_21 y_f_second_21 y_f_sentences_21 y_f_at_21 y_f_fault_21 => if y_f_fault_21 = 0 then (if nI L ≤ y_f_at_21 then (some (y_f_first_21, y_f_verb_21, y_f_second_21, y_f_sentences_21, y_f_at_21, y_f_fault_21, y_f_fault_21)) else (some (y_f_first_21, y_f_verb_21, y_f_second_21, y_f_sentences_21, y_f_at_21, ((-100 : Int32) - y_f_at_21), ((-100 : Int32) - y_f_at_21)))) else (some (y_f_first_21, y_f_verb_21, y_f_second_21, y_f_sentences_21, y_f_at_21, y_f_fault_21, y_f_fault_21))) = r7 := g1
  rw [g1, ← hk8, g2]
  rcases g3 with ⟨Q, fi', ve', se', s, at_, z, y, sen', hQ, e7, e8⟩ | ⟨fi', ve', se', s, at_, z, p, F, sen', hp, e7, e8⟩ | ⟨m, fi', ve', se', at_, F, sen', hm, hD, e7, e8⟩
  · rw [e7, e8, hk8, cl_s]
    simp only
    rw [if_neg hQ, if_pos trivial]
    exact ⟨_, _, t, up, lo, rfl, rfl, rfl, ht, rfl, rfl, rfl, rfl, hr, h⟩
  · have hf := flt1 p (by omega)
    have c1 : ¬ nI L ≤ nI p := by rw [n_le (by omega) (by omega)]; omega
    rw [e7, e8, hk8, cl_s]
    simp only
    rw [if_neg hf, if_neg (show ¬ (1 : Int32) = 0 by decide), if_neg c1]
    exact ⟨_, _, t, up, lo, rfl, rfl, rfl, ht, rfl, rfl, rfl, rfl, hr, h⟩
  · have c1 : nI L ≤ nI L := by rw [n_le (by omega) (by omega)]; omega
    rw [e7, e8, hk8, cl_s]
    simp only
    rw [if_pos trivial, if_neg (show ¬ (1 : Int32) = 0 by decide), if_pos c1]
    obtain ⟨s1, s2, hP, l7, l8⟩ := lpp (fun f i (s : Int32 × Int32 × (Nat → Int32) × (Nat → Int32) × (Nat → Int32)) => m_X7_read_L26 (nI n) (fi', ve', se', nI m, at_, 0, 0) f s.1 i s.2.1 s.2.2.1 s.2.2.2.1 s.2.2.2.2 fun x2_26 x3_26 y_f_site_ties_26 y_f_site_traits_26 y_f_site_upper_26 y_f_site_lower_26 => some (y_f_site_ties_26, y_f_site_traits_26, y_f_site_upper_26, y_f_site_lower_26, (0 : Int32), fi', ve', se', nI m, at_, (0 : Int32), x2_26))
      (fun s => some (s.2.1, s.2.2.1, s.2.2.2.1, s.2.2.2.2, (0 : Int32), fi', ve', se', nI m, at_, (0 : Int32), s.1))
      (fun f i (s : Int32 × (Nat → Int32) × (Nat → Int32) × Int32 × (Nat → Int32) × (Nat → Int32)) => m_X8_read_L98 (nI n) (nI m) sen' f s.1 i s.2.1 s.2.2.1 s.2.2.2.1 s.2.2.2.2.1 s.2.2.2.2.2 fun x4_98 x5_98 y_f_kinds_98 y_f_phases_98 y_f_ties_98 y_f_aboves_98 y_f_belows_98 => some (y_f_kinds_98, y_f_phases_98, y_f_ties_98, y_f_aboves_98, y_f_belows_98, (0 : Int32), nI L, F, sen', x4_98))
      (fun s => some (s.2.1, s.2.2.1, s.2.2.2.1, s.2.2.2.2.1, s.2.2.2.2.2, (0 : Int32), nI L, F, sen', s.1)) m
      (fun j s1 s2 => s1.1 = s2.1 ∧ ∃ t2 up2 lo2, t2 ≤ 40 ∧ s1.2.1 = nI t2 ∧ s2.2.2.2.1 = nI t2 ∧ RTr n s1.2.2.1 s2.2.1 th fm tm s2.2.2.1 ∧ RTi n t2 s1.2.2.2.1 s1.2.2.2.2 s2.2.2.2.2.1 s2.2.2.2.2.2 up2 lo2)
      (fun f g j s1 s2 hj hP => by
        obtain ⟨x1, x2, x3, x4, x5⟩ := s1
        obtain ⟨y1, y2, y3, y4, y5, y6⟩ := s2
        obtain ⟨p1, t2, up2, lo2, p2, p3, p4, p5, p6⟩ := hP
        have p1 : x1 = y1 := p1
        have p3 : x2 = nI t2 := p3
        have p4 : y4 = nI t2 := p4
        subst p1 p3 p4
        obtain ⟨a, v, b, d1, d2, d3, d4, d5, d6, d7, d8, d9⟩ := hD j hj
        obtain ⟨⟨z1, z2, z3, z4, z5⟩, ⟨u1, u2, u3, u4, u5, u6⟩, t3, up3, lo3, o1, o2, o3, o4, o5, o6, o7, o8, o9⟩ := do_both hn p2 p5 p6 d1 d2 d3 (show j < 8 by omega) d7 d8 d9
        have o3 : z5 = u6 := o3
        subst o3
        have c0 : ¬ nI m ≤ nI j := by rw [n_le (by omega) (by omega)]; omega
        have ea : ∀ {β : Type} (f : Nat → Int32) (k : Int32 → Option β), ag f 8 (nI j) k = k (f j) := fun f k => ag_n (by omega) (by omega)
        by_cases c : z5 = 0
        · refine ⟨(x1, z1, z2, z3, z4), (x1, u1, u2, u3, u4, u5), ?_, ?_, rfl, t3, up3, lo3, o5, o6, o7, o8, o9⟩
          · show m_X7_read_L26 (nI n) (fi', ve', se', nI m, at_, 0, 0) (f + 1) x1 (nI j) (nI t2) x3 x4 x5 _ = _
            rw [m_X7_read_L26, if_neg c0, ea, ea, ea]
            dsimp only
            rw [d4, d5, d6, o1, cl_s]
            dsimp only
            rw [if_pos c, nI_1]
          · show m_X8_read_L98 (nI n) (nI m) sen' (g + 1) x1 (nI j) y2 y3 (nI t2) y5 y6 _ = _
            rw [m_X8_read_L98, if_neg c0, o2, cl_s]
            simp only
            rw [if_pos c, nI_1, Int32.add_zero]
        · refine ⟨(x1 + 1, z1, z2, z3, z4), (x1 + 1, u1, u2, u3, u4, u5), ?_, ?_, rfl, t3, up3, lo3, o5, o6, o7, o8, o9⟩
          · show m_X7_read_L26 (nI n) (fi', ve', se', nI m, at_, 0, 0) (f + 1) x1 (nI j) (nI t2) x3 x4 x5 _ = _
            rw [m_X7_read_L26, if_neg c0, ea, ea, ea]
            dsimp only
            rw [d4, d5, d6, o1, cl_s]
            dsimp only
            rw [if_neg c, nI_1]
          · show m_X8_read_L98 (nI n) (nI m) sen' (g + 1) x1 (nI j) y2 y3 (nI t2) y5 y6 _ = _
            rw [m_X8_read_L98, if_neg c0, o2, cl_s]
            simp only
            rw [if_neg c, nI_1])
      (fun f g s1 s2 hP => by
        have c0 : nI m ≤ nI m := by rw [n_le (by omega) (by omega)]; omega
        constructor
        · show m_X7_read_L26 (nI n) (fi', ve', se', nI m, at_, 0, 0) (f + 1) s1.1 (nI m) s1.2.1 s1.2.2.1 s1.2.2.2.1 s1.2.2.2.2 _ = _
          rw [m_X7_read_L26, if_pos c0]
        · show m_X8_read_L98 (nI n) (nI m) sen' (g + 1) s2.1 (nI m) s2.2.1 s2.2.2.1 s2.2.2.2.1 s2.2.2.2.2.1 s2.2.2.2.2.2 _ = _
          rw [m_X8_read_L98, if_pos c0]) 0 (0, nI t, tr, upr, lwr) (0, kd, ph, nI t, ab, bl) (Nat.zero_le m) (by omega) ⟨rfl, t, up, lo, ht, rfl, rfl, hr, h⟩
    obtain ⟨p1, t2, up2, lo2, p2, p3, p4, p5, p6⟩ := hP
    have l7 : m_X7_read_L26 (nI n) (fi', ve', se', nI m, at_, 0, 0) FU 0 0 (nI t) tr upr lwr (fun x2_26 x3_26 y_f_site_ties_26 y_f_site_traits_26 y_f_site_upper_26 y_f_site_lower_26 => some (y_f_site_ties_26, y_f_site_traits_26, y_f_site_upper_26, y_f_site_lower_26, (0 : Int32), fi', ve', se', nI m, at_, (0 : Int32), x2_26)) = _ := l7
    have l8 : m_X8_read_L98 (nI n) (nI m) sen' FU 0 0 kd ph (nI t) ab bl (fun x4_98 x5_98 y_f_kinds_98 y_f_phases_98 y_f_ties_98 y_f_aboves_98 y_f_belows_98 => some (y_f_kinds_98, y_f_phases_98, y_f_ties_98, y_f_aboves_98, y_f_belows_98, (0 : Int32), nI L, F, sen', x4_98)) = _ := l8
    rw [l7, l8]
    exact ⟨_, _, t2, up2, lo2, rfl, rfl, p1, p2, p3, p4, rfl, rfl, p5, p6⟩
