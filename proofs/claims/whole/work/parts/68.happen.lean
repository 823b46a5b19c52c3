/-! ===== what happens: both sides ===== -/
theorem upd_id (f : Nat → Int32) (k : Nat) : upd f k (f k) = f := funext fun j => by
  by_cases c : j = k
  · subst c; rw [upd_s]
  · rw [upd_n c]
theorem sub_m1 (x : Int32) : x - 1 = x + (-1) := Int32.sub_eq_add_neg x 1
theorem dropf_both {n t : Nat} (ht : t ≤ 40) {upr lwr ab bl : Nat → Int32} {up lo : Nat → Nat} (h : RTi n t upr lwr ab bl up lo) (u : Nat) (k1 : Int32 → Int32 → (Nat → Int32) → (Nat → Int32) → Option (Int32 × (Nat → Int32) × (Nat → Int32))) (k2 : Int32 → Int32 → (Nat → Int32) → (Nat → Int32) → Option ((Nat → Int32) × (Nat → Int32) × Int32 × (Nat → Int32) × (Nat → Int32) × Int32)) : ∃ t' up' lo' f g f' g', t' ≤ 40 ∧ RTi n t' f g f' g' up' lo' ∧ m_X2_dropTiesFrom_L7 (nI u) FU (nI t - 1) (nI t) upr lwr k1 = k1 (-1) (nI t') f g ∧ m_X8_happens_L18 1 (nI u) FU (nI t - 1) (nI t) ab bl k2 = k2 (-1) (nI t') f' g' := by
  obtain ⟨s1, s2, ⟨t', up', lo', -, q2, q3, q4, q5⟩, q6, q7⟩ := lppd (fun f i (s : Int32 × (Nat → Int32) × (Nat → Int32)) => m_X2_dropTiesFrom_L7 (nI u) f i s.1 s.2.1 s.2.2 k1) (fun s => k1 (-1) s.1 s.2.1 s.2.2) (fun f i (s : Int32 × (Nat → Int32) × (Nat → Int32)) => m_X8_happens_L18 1 (nI u) f i s.1 s.2.1 s.2.2 k2) (fun s => k2 (-1) s.1 s.2.1 s.2.2) t
    (fun j s1 s2 => ∃ t' up' lo', j ≤ t' ∧ t' ≤ 40 ∧ s1.1 = nI t' ∧ s2.1 = nI t' ∧ RTi n t' s1.2.1 s1.2.2 s2.2.1 s2.2.2 up' lo')
    (fun f g j s1 s2 hj hP => by
      obtain ⟨t', up', lo', p1, p2, p3, p4, p5⟩ := hP
      have c0 : ¬ nI j < 0 := by rw [lt_l (k := 0) (by omega) (by omega)]; omega
      have e := (p5.2.2 j (by omega)).1
      obtain ⟨t1, x1, x2⟩ := s1
      obtain ⟨t2, y1, y2⟩ := s2
      dsimp only at p3 p4 p5 e ⊢
      rw [m_X2_dropTiesFrom_L7, m_X8_happens_L18, if_neg c0, if_neg c0, if_pos rfl, ag_n (by omega) (by omega), ag_n (by omega) (by omega), e]
      by_cases c : x1 j = nI u
      · obtain ⟨a, b, d1, d2, d3⟩ := drop7 (show j < t' by omega) p2 x1 x2
        obtain ⟨a', b', d4, d5, d6⟩ := drop8 (show j < t' by omega) p2 y1 y2
        rw [if_pos c, if_pos c, p3, p4, d1, d4, cl_s, cl_s]
        exact ⟨(nI (t' - 1), a, b), (nI (t' - 1), a', b'), rfl, rfl, t' - 1, _, _, by omega, by omega, rfl, rfl, RTi_drop p5 (by omega) d2 d3 d5 d6⟩
      · rw [if_neg c, if_neg c]
        exact ⟨(t1, x1, x2), (t2, y1, y2), rfl, rfl, t', up', lo', by omega, p2, p3, p4, p5⟩)
    (fun f g s1 s2 _ => by
      have c0 : (-1 : Int32) < 0 := by decide
      rw [m_X2_dropTiesFrom_L7, m_X8_happens_L18, if_pos c0, if_pos c0]
      exact ⟨rfl, rfl⟩) (nI t, upr, lwr) (nI t, ab, bl) (by omega) ⟨t, up, lo, Nat.le_refl t, ht, rfl, rfl, h⟩
  refine ⟨t', up', lo', s1.2.1, s1.2.2, s2.2.1, s2.2.2, q2, q5, ?_, ?_⟩
  · rw [sub_m1]
    refine q6.trans ?_
    rw [q3]
  · rw [sub_m1]
    refine q7.trans ?_
    rw [q4]
theorem no18 {a2 a3 x y : Int32} {ab bl : Nat → Int32} (k : Int32 → Int32 → (Nat → Int32) → (Nat → Int32) → Option ((Nat → Int32) × (Nat → Int32) × Int32 × (Nat → Int32) × (Nat → Int32) × Int32)) (h : ¬ a2 = 1) : m_X8_happens_L18 a2 a3 FU x y ab bl k = k x y ab bl := by
  obtain ⟨f, hf⟩ : ∃ f, FU = f + 1 := ⟨4999, rfl⟩
  rw [hf, m_X8_happens_L18]
  by_cases c : x < 0
  · rw [if_pos c]
  · rw [if_neg c, if_neg h]
theorem RTr_from {n : Nat} (hn : n ≤ 12) {tr kd th fm tm ph : Nat → Int32} (hr : RTr n tr kd th fm tm ph) {u : Nat} (hu : u < n) : RTr n (upd tr (24 + u) (nI 1000)) kd th (upd fm u (nI 1000)) tm ph := fun x hx => by
  have := hr x hx
  rw [upd_n (show x ≠ 24 + u by omega), upd_n (show 12 + x ≠ 24 + u by omega), upd_n (show 36 + x ≠ 24 + u by omega), upd_n (show 48 + x ≠ 24 + u by omega)]
  by_cases q : x = u
  · subst q; rw [upd_s, upd_s]
    exact ⟨⟨this.1.1, this.1.2.1, rfl, this.1.2.2.2⟩, this.2.1, ⟨1000, by omega, rfl⟩, this.2.2.2⟩
  · rw [upd_n (show 24 + x ≠ 24 + u by omega), upd_n q]; exact this
theorem RTr_to {n : Nat} (hn : n ≤ 12) {tr kd th fm tm ph : Nat → Int32} (hr : RTr n tr kd th fm tm ph) {u : Nat} (hu : u < n) : RTr n (upd tr (36 + u) (nI 1000)) kd th fm (upd tm u (nI 1000)) ph := fun x hx => by
  have := hr x hx
  rw [upd_n (show x ≠ 36 + u by omega), upd_n (show 12 + x ≠ 36 + u by omega), upd_n (show 24 + x ≠ 36 + u by omega), upd_n (show 48 + x ≠ 36 + u by omega)]
  by_cases q : x = u
  · subst q; rw [upd_s, upd_s]
    exact ⟨⟨this.1.1, this.1.2.1, this.1.2.2.1, rfl, this.1.2.2.2.2⟩, this.2.1, this.2.2.1, ⟨1000, by omega, rfl⟩, this.2.2.2.2⟩
  · rw [upd_n (show 36 + x ≠ 36 + u by omega), upd_n q]; exact this
theorem put_t {tr : Nat → Int32} {a u : Nat} (ha : a < 5) (hu : u < 12) {x : Int32} : m_X2_putTrait tr (nI a) (nI u) x = some (upd tr (12 * a + u) x) := by
  unfold m_X2_putTrait
  have e : nI a * (12 : Int32) + nI u = nI (12 * a + u) := by
    have : ∀ a, a < 5 → nI a * (12 : Int32) = nI (12 * a) := by decide
    rw [this a ha, nI_add]
  rw [e, au_n (by omega) (by omega)]
/-- what both sides hold while the events happen: ties, digs, traits, upper, lower, digRow; dug, froms, tos, ties, aboves, belows -/
def HAP (n : Nat) (s1 : Int32 × Int32 × (Nat → Int32) × (Nat → Int32) × (Nat → Int32) × (Nat → Int32)) (s2 : Int32 × (Nat → Int32) × (Nat → Int32) × Int32 × (Nat → Int32) × (Nat → Int32)) : Prop := ∃ t d up lo dn kd th ph, t ≤ 40 ∧ s1.1 = nI t ∧ s2.2.2.2.1 = nI t ∧ s1.2.1 = nI d ∧ RTi n t s1.2.2.2.1 s1.2.2.2.2.1 s2.2.2.2.2.1 s2.2.2.2.2.2 up lo ∧ RDg n d s1.2.2.2.2.2 s1.2.2.2.2.2 dn ∧ (∀ v, v < 32 → (bt s2.1 v = true ↔ ∃ k, k < d ∧ dn k = v)) ∧ RTr n s1.2.2.1 kd th s2.2.1 s2.2.2.1 ph
theorem hap_step {n : Nat} (hn : n ≤ 12) {s1 : Int32 × Int32 × (Nat → Int32) × (Nat → Int32) × (Nat → Int32) × (Nat → Int32)} {s2 : Int32 × (Nat → Int32) × (Nat → Int32) × Int32 × (Nat → Int32) × (Nat → Int32)} (h : HAP n s1 s2) {w x : Nat} (hw : w < 4) (hx : x < n) (L : Int32 × Int32 × (Nat → Int32) × (Nat → Int32) × (Nat → Int32) × (Nat → Int32) → Option (Int32 × Int32 × (Nat → Int32) × (Nat → Int32) × (Nat → Int32) × (Nat → Int32))) : ∃ t1 t2, HAP n t1 t2 ∧ (if nI w = 0 then (cl (m_X2_addDug s1.2.1 s1.2.2.2.2.2 (nI x)) fun r_3 => L (s1.1, r_3.1, s1.2.2.1, s1.2.2.2.1, s1.2.2.2.2.1, r_3.2)) else (if nI w = 1 then (cl (m_X2_dropTiesFrom s1.1 s1.2.2.2.1 s1.2.2.2.2.1 (nI x)) fun r_5 => L (r_5.1, s1.2.1, s1.2.2.1, r_5.2.1, r_5.2.2, s1.2.2.2.2.2)) else (if nI w = 2 then (cl (m_X2_putTrait s1.2.2.1 (2 : Int32) (nI x) (1000 : Int32)) fun r_7 => L (s1.1, s1.2.1, r_7, s1.2.2.2.1, s1.2.2.2.2.1, s1.2.2.2.2.2)) else (cl (m_X2_putTrait s1.2.2.1 (3 : Int32) (nI x) (1000 : Int32)) fun r_9 => L (s1.1, s1.2.1, r_9, s1.2.2.2.1, s1.2.2.2.2.1, s1.2.2.2.2.2))))) = L t1 ∧ m_X8_happens s2.2.1 s2.2.2.1 s2.2.2.2.1 s2.2.2.2.2.1 s2.2.2.2.2.2 s2.1 (nI w) (nI x) = some (t2.2.1, t2.2.2.1, t2.2.2.2.1, t2.2.2.2.2.1, t2.2.2.2.2.2, t2.1) := by
  obtain ⟨st, sd, tr, upr, lwr, dr⟩ := s1
  obtain ⟨z, fm, tm, et, ab, bl⟩ := s2
  obtain ⟨t, d, up, lo, dn, kd, th, ph, h1, h2, h3, h4, h5, h6, h7, h8⟩ := h
  dsimp only at h2 h3 h4 h5 h6 h7 h8 ⊢
  have hx12 : x < 12 := by omega
  have ea : ∀ {β : Type} (f : Nat → Int32) (k : Int32 → Option β), ag f 12 (nI x) k = k (f x) := fun f k => ag_n hx12 (by omega)
  have eu : ∀ {β : Type} (f : Nat → Int32) (v : Int32) (k : (Nat → Int32) → Option β), au f 12 (nI x) v k = k (upd f x v) := fun f v k => au_n hx12 (by omega)
  unfold m_X8_happens
  rcases (show w = 0 ∨ w = 1 ∨ w = 2 ∨ w = 3 by omega) with rfl | rfl | rfl | rfl
  · have c0 : nI 0 = 0 := rfl
    obtain ⟨y, y1, -, y3, y4⟩ := isdug7 hn h6 (u := x) (by omega)
    have hzy : z = y := b_ext (fun v hv => Bool.eq_iff_iff.mpr ((h7 v hv).trans (y4 v hv).symm))
    subst hzy
    rw [if_pos c0, if_pos c0, h4]
    rcases add_dug hn h6 hx y3 y4 with ⟨q, q1⟩ | ⟨-, -, q1, q2⟩
    · rw [q1, cl_s]
      refine ⟨(st, nI d, tr, upr, lwr, dr), (z ||| ((1 : Int32) <<< (nI x &&& 31)), fm, tm, et, ab, bl), ⟨t, d, up, lo, dn, kd, th, ph, h1, h2, h3, rfl, h5, h6, fun v hv => ?_, h8⟩, rfl, rfl⟩
      dsimp only
      rw [b_or, b_sh (by omega) hv, Bool.or_eq_true, y4 v hv, decide_eq_true_eq]
      constructor
      · rintro (q2 | q2)
        · exact q2
        · exact (y4 v hv).mp (by first | (rw [q2]; exact q) | (rw [← q2]; exact q))
      · exact Or.inl
    · rw [q1, cl_s]
      refine ⟨(st, nI (d + 1), tr, upr, lwr, upd dr d (nI x)), (z ||| ((1 : Int32) <<< (nI x &&& 31)), fm, tm, et, ab, bl), ⟨t, d + 1, up, lo, _, kd, th, ph, h1, h2, h3, rfl, h5, q2, fun v hv => ?_, h8⟩, rfl, rfl⟩
      dsimp only
      rw [b_or, b_sh (by omega) hv, Bool.or_eq_true, y4 v hv, decide_eq_true_eq]
      constructor
      · rintro (⟨k, e1, e2⟩ | e2)
        · exact ⟨k, by omega, by rw [if_neg (by omega)]; exact e2⟩
        · exact ⟨d, by omega, by rw [if_pos rfl]; first | exact e2 | exact e2.symm⟩
      · rintro ⟨k, e1, e2⟩
        by_cases c : k = d
        · rw [if_pos c] at e2; right; first | exact e2 | exact e2.symm
        · rw [if_neg c] at e2; left; exact ⟨k, by omega, e2⟩
  · have c0 : ¬ nI 1 = 0 := by decide
    have c1 : nI 1 = 1 := rfl
    have c2 : ¬ nI 1 = 2 := by decide
    have c3 : ¬ nI 1 = 3 := by decide
    rw [if_neg c0, if_pos c1, if_neg c0, c1]
    unfold m_X2_dropTiesFrom
    rw [h2, h3]
    obtain ⟨t', up', lo', f, g, f', g', d1, d2, d3, d4⟩ := dropf_both h1 h5 x (fun x2_7 y_f_ties_7 y_f_upper_7 y_f_lower_7 => some (y_f_ties_7, y_f_upper_7, y_f_lower_7)) (fun x4_18 y_f_ties_18 y_f_aboves_18 y_f_belows_18 => some (fm, tm, y_f_ties_18, y_f_aboves_18, y_f_belows_18, z))
    rw [d3, cl_s]
    refine ⟨(nI t', sd, tr, f, g, dr), (z, fm, tm, nI t', f', g'), ⟨t', d, up', lo', dn, kd, th, ph, d1, rfl, rfl, h4, d2, h6, h7, h8⟩, rfl, ?_⟩
    refine Eq.trans ?_ d4
    congr 1
    funext x4 yt ya yb
    rw [if_neg (show ¬ (1 : Int32) = 2 by decide), ea, eu, if_neg (show ¬ (1 : Int32) = 3 by decide), ea, eu, upd_id, upd_id]
  · have c0 : ¬ nI 2 = 0 := by decide
    have c1 : ¬ nI 2 = 1 := by decide
    have c2 : nI 2 = 2 := rfl
    have c3 : ¬ nI 2 = 3 := by decide
    rw [if_neg c0, if_neg c1, if_pos c2, if_neg c0, no18 _ c1, if_pos c2, eu, if_neg c3, ea, eu, upd_id]
    have e : m_X2_putTrait tr 2 (nI x) 1000 = some (upd tr (24 + x) (nI 1000)) := put_t (a := 2) (by omega) hx12
    rw [e, cl_s]
    exact ⟨(st, sd, upd tr (24 + x) (nI 1000), upr, lwr, dr), (z, upd fm x (nI 1000), tm, et, ab, bl), ⟨t, d, up, lo, dn, kd, th, ph, h1, h2, h3, h4, h5, h6, h7, RTr_from hn h8 hx⟩, rfl, rfl⟩
  · have c0 : ¬ nI 3 = 0 := by decide
    have c1 : ¬ nI 3 = 1 := by decide
    have c2 : ¬ nI 3 = 2 := by decide
    have c3 : nI 3 = 3 := rfl
    rw [if_neg c0, if_neg c1, if_neg c2, if_neg c0, no18 _ c1, if_neg c2, ea, eu, upd_id, if_pos c3, eu]
    have e : m_X2_putTrait tr 3 (nI x) 1000 = some (upd tr (36 + x) (nI 1000)) := put_t (a := 3) (by omega) hx12
    rw [e, cl_s]
    exact ⟨(st, sd, upd tr (36 + x) (nI 1000), upr, lwr, dr), (z, fm, upd tm x (nI 1000), et, ab, bl), ⟨t, d, up, lo, dn, kd, th, ph, h1, h2, h3, h4, h5, h6, h7, RTr_to hn h8 hx⟩, rfl, rfl⟩
theorem hap_all {n e : Nat} (hn : n ≤ 12) (he : e ≤ 8) {ew eu ev : Nat → Int32} (hE : REv n e ew eu ev) {s1 : Int32 × Int32 × (Nat → Int32) × (Nat → Int32) × (Nat → Int32) × (Nat → Int32)} {s2 : Int32 × (Nat → Int32) × (Nat → Int32) × Int32 × (Nat → Int32) × (Nat → Int32)} (h : HAP n s1 s2) (k : Int32 → Int32 → (Nat → Int32) → (Nat → Int32) → Int32 → (Nat → Int32) → (Nat → Int32) → Option ((Nat → Int32) × (Nat → Int32) × Int32 × (Nat → Int32) × (Nat → Int32) × (Nat → Int32) × (Nat → Int32) × (Nat → Int32) × (Nat → Int32) × (Nat → Int64) × (Nat → Int32) × (Nat → Int32) × (Nat → Int32) × (Nat → Int32) × Int64)) : ∃ t1 t2, HAP n t1 t2 ∧ m_X2_happen s1.1 s1.2.1 (nI e) s1.2.2.1 s1.2.2.2.1 s1.2.2.2.2.1 s1.2.2.2.2.2 ew eu = some t1 ∧ m_X8_after_L102 (nI e) ev FU s2.1 0 s2.2.1 s2.2.2.1 s2.2.2.2.1 s2.2.2.2.2.1 s2.2.2.2.2.2 k = k t2.1 (nI e) t2.2.1 t2.2.2.1 t2.2.2.2.1 t2.2.2.2.2.1 t2.2.2.2.2.2 := by
  obtain ⟨t1, t2, p1, p2, p3⟩ := lpp (fun f i (s : Int32 × Int32 × (Nat → Int32) × (Nat → Int32) × (Nat → Int32) × (Nat → Int32)) => m_X2_happen_L2 (nI e) ew eu f i s.1 s.2.1 s.2.2.1 s.2.2.2.1 s.2.2.2.2.1 s.2.2.2.2.2 (fun x1_2 y_f_ties_2 y_f_digs_2 y_f_traits_2 y_f_upper_2 y_f_lower_2 y_f_digRow_2 => some (y_f_ties_2, y_f_digs_2, y_f_traits_2, y_f_upper_2, y_f_lower_2, y_f_digRow_2))) (fun s => some s) (fun f i (s : Int32 × (Nat → Int32) × (Nat → Int32) × Int32 × (Nat → Int32) × (Nat → Int32)) => m_X8_after_L102 (nI e) ev f s.1 i s.2.1 s.2.2.1 s.2.2.2.1 s.2.2.2.2.1 s.2.2.2.2.2 k) (fun s => k s.1 (nI e) s.2.1 s.2.2.1 s.2.2.2.1 s.2.2.2.2.1 s.2.2.2.2.2) e (fun _ s1 s2 => HAP n s1 s2)
    (fun f g j s1 s2 hj hP => by
      obtain ⟨v1, v2, ⟨w, hw, v3⟩, x, hx, v4⟩ := hE j hj
      have c0 : ¬ nI e ≤ nI j := by rw [n_le (by omega) (by omega)]; omega
      obtain ⟨t1, t2, r1, r2, r3⟩ := hap_step hn hP hw hx (fun s => m_X2_happen_L2 (nI e) ew eu f (nI (j + 1)) s.1 s.2.1 s.2.2.1 s.2.2.2.1 s.2.2.2.2.1 s.2.2.2.2.2 (fun x1_2 y_f_ties_2 y_f_digs_2 y_f_traits_2 y_f_upper_2 y_f_lower_2 y_f_digRow_2 => some (y_f_ties_2, y_f_digs_2, y_f_traits_2, y_f_upper_2, y_f_lower_2, y_f_digRow_2)))
      refine ⟨t1, t2, ?_, ?_, r1⟩
      · rw [m_X2_happen_L2, if_neg c0, ag_n (by omega) (by omega), ag_n (by omega) (by omega), v3, v4, nI_1]
        exact r2
      · rw [m_X8_after_L102, if_neg c0]
        have e1 : (2 : Int32) * nI j + 1 = nI (2 * j + 1) := m2 j 1
        rw [e1, m2_0, ag_n (by omega) (by omega), ag_n (by omega) (by omega), v1, v2, v3, v4, r3, cl_s, nI_1])
    (fun f g s1 s2 _ => by
      have c0 : nI e ≤ nI e := by rw [n_le (by omega) (by omega)]; omega
      rw [m_X2_happen_L2, m_X8_after_L102, if_pos c0, if_pos c0]
      exact ⟨rfl, rfl⟩) 0 s1 s2 (by omega) (by omega) h
  refine ⟨t1, t2, p1, ?_, p3⟩
  unfold m_X2_happen
  exact p2
