/-! ===== all sentences, in both ===== -/
theorem tsn_f (tx fi ve se : Nat → Int32) (L s at_ : Int32) {F : Int32} (h : ¬ F = 0) : m_X6_takeSentence tx L fi ve se s at_ F = some (fi, ve, se, s, at_, F) := by
  unfold m_X6_takeSentence
  simp only [cl_s, ts_f _ _ _ _ h, tv_f _ _ _ h, tl_f _ _ _ h, if_neg h]
def K7 (L : Int32) : Int32 → (Nat → Int32) → (Nat → Int32) → (Nat → Int32) → Int32 → Int32 → Int32 → Option ((Nat → Int32) × (Nat → Int32) × (Nat → Int32) × Int32 × Int32 × Int32 × Int32) := fun _ fi ve se s at_ F => if F = 0 then (if L ≤ at_ then some (fi, ve, se, s, at_, F, F) else some (fi, ve, se, s, at_, (-100 : Int32) - at_, (-100 : Int32) - at_)) else some (fi, ve, se, s, at_, F, F)
def DD (j : Nat) (fi ve se sen : Nat → Int32) : Prop := ∀ k, k < j → ∃ a v b, a < 12 ∧ v < 5 ∧ b < 12 ∧ fi k = nI a ∧ ve k = nI v ∧ se k = nI b ∧ sen (3 * k) = nI a ∧ sen (3 * k + 1) = nI v ∧ sen (3 * k + 2) = nI b
theorem DD_add {j : Nat} {fi ve se sen : Nat → Int32} (h : DD j fi ve se sen) {a v b : Nat} (ha : a < 12) (hv : v < 5) (hb : b < 12) : DD (j + 1) (upd fi j (nI a)) (upd ve j (nI v)) (upd se j (nI b)) (upd (upd (upd sen (3 * j) (nI a)) (3 * j + 1) (nI v)) (3 * j + 2) (nI b)) := fun k hk => by
  by_cases c : k = j
  · subst c
    refine ⟨a, v, b, ha, hv, hb, upd_s, upd_s, upd_s, ?_, ?_, upd_s⟩
    · rw [upd_n (by omega), upd_n (by omega), upd_s]
    · rw [upd_n (by omega), upd_s]
  · obtain ⟨a', v', b', q1, q2, q3, q4, q5, q6, q7, q8, q9⟩ := h k (by omega)
    refine ⟨a', v', b', q1, q2, q3, by rw [upd_n c]; exact q4, by rw [upd_n c]; exact q5, by rw [upd_n c]; exact q6, ?_, ?_, ?_⟩
    · rw [upd_n (by omega), upd_n (by omega), upd_n (by omega)]; exact q7
    · rw [upd_n (by omega), upd_n (by omega), upd_n (by omega)]; exact q8
    · rw [upd_n (by omega), upd_n (by omega), upd_n (by omega)]; exact q9
theorem L21_f {L : Int32} {tx fi ve se : Nat → Int32} {f j : Nat} (hj : j ≤ 8) {s at_ F : Int32} (hF : ¬ F = 0) : m_X6_parse_L21 L tx (f + 1) (nI j) fi ve se s at_ F (K7 L) = some (fi, ve, se, s, at_, F, F) := by
  have hk : K7 L (nI j) fi ve se s at_ F = some (fi, ve, se, s, at_, F, F) := if_neg hF
  rw [m_X6_parse_L21]
  by_cases c : (8 : Int32) ≤ nI j
  · rw [if_pos c, hk]
  · rw [if_neg c, if_neg hF, hk]
def OUT {B : Type} (L : Nat) (r7 : Option ((Nat → Int32) × (Nat → Int32) × (Nat → Int32) × Int32 × Int32 × Int32 × Int32)) (r8 : Option B) (k8 : Int32 → Int32 → Int32 → Int32 → (Nat → Int32) → Option B) : Prop :=
  (∃ Q fi ve se s at_ z y sen, ¬ Q = (0 : Int32) ∧ r7 = some (fi, ve, se, s, at_, Q, Q) ∧ r8 = k8 z 0 y Q sen) ∨
  (∃ fi ve se s at_ z p F sen, p < L ∧ r7 = some (fi, ve, se, s, at_, (-100 : Int32) - nI p, (-100 : Int32) - nI p) ∧ r8 = k8 z 1 (nI p) F sen) ∨
  ∃ m fi ve se at_ F sen, m ≤ 8 ∧ DD m fi ve se sen ∧ r7 = some (fi, ve, se, nI m, at_, 0, 0) ∧ r8 = k8 (nI m) 1 (nI L) F sen
theorem parse_both {tx et vb : Nat → Int32} {L : Nat} (he : ∀ k, k < L → et k = tx k) (hv : RVerbs vb) (hL : L ≤ 100) (k8 : Int32 → Int32 → Int32 → Int32 → (Nat → Int32) → Option ((Nat → Int32) × (Nat → Int32) × Int32 × (Nat → Int32) × (Nat → Int32) × Int32 × Int32 × Int32 × (Nat → Int32) × Int32)) (F : Int32) : ∀ (m j f7 f8 p : Nat) (fi ve se sen : Nat → Int32), j + m = 8 → m < f7 → m < f8 → p ≤ L → DD j fi ve se sen → OUT L (m_X6_parse_L21 (nI L) tx f7 (nI j) fi ve se (nI j) (nI p) 0 (K7 (nI L))) (m_X8_read_L24 (nI L) et vb f8 (nI j) 1 (nI p) F sen k8) k8 := by
  intro m
  induction m with
  | zero =>
    intro j f7 f8 p fi ve se sen h1 h2 h3 hp hD
    obtain ⟨f7, rfl⟩ : ∃ g, f7 = g + 1 := ⟨f7 - 1, by omega⟩
    obtain ⟨f8, rfl⟩ : ∃ g, f8 = g + 1 := ⟨f8 - 1, by omega⟩
    have hj : j = 8 := by omega
    subst hj
    have c8 : (8 : Int32) ≤ nI 8 := by decide
    rw [m_X6_parse_L21, m_X8_read_L24, if_pos c8, if_neg (show ¬ (1 : Int32) = 0 by decide), if_pos c8]
    unfold K7
    rw [if_pos rfl]
    by_cases c : p < L
    · have c1 : ¬ nI L ≤ nI p := by rw [n_le (by omega) (by omega)]; omega
      rw [if_neg c1]
      exact Or.inr (Or.inl ⟨_, _, _, _, _, _, p, _, _, c, rfl, rfl⟩)
    · have c1 : nI L ≤ nI p := by rw [n_le (by omega) (by omega)]; omega
      have hpL : p = L := by omega
      subst hpL
      rw [if_pos c1]
      exact Or.inr (Or.inr ⟨8, _, _, _, _, _, _, Nat.le_refl 8, hD, rfl, rfl⟩)
  | succ m ih =>
    intro j f7 f8 p fi ve se sen h1 h2 h3 hp hD
    obtain ⟨f7, rfl⟩ : ∃ g, f7 = g + 1 := ⟨f7 - 1, by omega⟩
    obtain ⟨f8, rfl⟩ : ∃ g, f8 = g + 1 := ⟨f8 - 1, by omega⟩
    have c8 : ¬ (8 : Int32) ≤ nI j := by rw [l_le (k := 8) (by omega) (by omega)]; omega
    rw [m_X6_parse_L21, m_X8_read_L24, if_neg c8, if_neg (show ¬ (1 : Int32) = 0 by decide), if_neg c8, if_pos rfl, here8 he hL hp, cl_s]
    by_cases c : p < L
    · have c1 : ¬ nI L ≤ nI p := by rw [n_le (by omega) (by omega)]; omega
      have e0 : hc tx L p = tx p := if_pos c
      rw [if_neg c1, e0]
      have es : m_X6_takeSign tx (nI L) (nI p) 0 59 = if tx p = 59 then some (nI p + 1, 0) else some (nI p, (-100 : Int32) - nI p) := by
        unfold m_X6_takeSign
        rw [if_pos rfl, if_neg c1, ag_n (by omega) (by omega)]
      rw [es]
      by_cases c2 : tx p = 59
      · rw [if_pos c2, if_pos c2, cl_s, nI_1]
        obtain ⟨g7, rfl⟩ : ∃ g, f7 = g + 1 := ⟨f7 - 1, by omega⟩
        obtain ⟨g8, rfl⟩ : ∃ g, f8 = g + 1 := ⟨f8 - 1, by omega⟩
        rcases sent_both he hv hL (show p + 1 ≤ L by omega) F sen fi ve se (i := j) (by omega) with ⟨Q, x, y, sen', hQ, q1, q2⟩ | ⟨q, a, v, b, hq, ha, hv5, hb, q1, q2⟩
        · left
          simp only [q1, q2, cl_s, nI_1]
          refine ⟨Q, fi, ve, se, nI j, x, nI (j + 1), y, sen', hQ, L21_f (by omega) hQ, ?_⟩
          rw [m_X8_read_L24, if_pos rfl]
        · simp only [q1, q2, cl_s, nI_1]
          exact ih (j + 1) (g7 + 1) (g8 + 1) q _ _ _ _ (by omega) (by omega) (by omega) hq (DD_add hD ha hv5 hb)
      · rw [if_neg c2, if_neg c2, cl_s]
        have hf := flt1 p (by omega)
        obtain ⟨g7, rfl⟩ : ∃ g, f7 = g + 1 := ⟨f7 - 1, by omega⟩
        right; left
        simp only [tsn_f tx fi ve se (nI L) (nI j) (nI p) hf, cl_s, nI_1]
        exact ⟨fi, ve, se, nI j, nI p, nI j, p, F, sen, c, L21_f (by omega) hf, rfl⟩
    · have c1 : nI L ≤ nI p := by rw [n_le (by omega) (by omega)]; omega
      have hpL : p = L := by omega
      have e0 : hc tx L p = -1 := if_neg c
      rw [if_pos c1, e0, if_neg (show ¬ (-1 : Int32) = 59 by decide)]
      subst hpL
      right; right
      refine ⟨j, fi, ve, se, nI p, F, sen, by omega, hD, ?_, rfl⟩
      unfold K7
      rw [if_pos rfl, if_pos c1]
theorem lpp {S1 S2 B1 B2 : Type} (L1 : Nat → Int32 → S1 → Option B1) (R1 : S1 → Option B1) (L2 : Nat → Int32 → S2 → Option B2) (R2 : S2 → Option B2) (n : Nat) (P : Nat → S1 → S2 → Prop) (hs : ∀ f g j s1 s2, j < n → P j s1 s2 → ∃ t1 t2, L1 (f + 1) (nI j) s1 = L1 f (nI (j + 1)) t1 ∧ L2 (g + 1) (nI j) s2 = L2 g (nI (j + 1)) t2 ∧ P (j + 1) t1 t2) (he : ∀ f g s1 s2, P n s1 s2 → L1 (f + 1) (nI n) s1 = R1 s1 ∧ L2 (g + 1) (nI n) s2 = R2 s2) (i : Nat) (s1 : S1) (s2 : S2) (hi : i ≤ n) (hn : n < 4999) (h : P i s1 s2) : ∃ t1 t2, P n t1 t2 ∧ L1 FU (nI i) s1 = R1 t1 ∧ L2 FU (nI i) s2 = R2 t2 := by
  have key : ∀ m f i s1 s2, i + m = n → m < f → P i s1 s2 → ∃ t1 t2, P n t1 t2 ∧ L1 f (nI i) s1 = R1 t1 ∧ L2 f (nI i) s2 = R2 t2 := by
    intro m
    induction m with
    | zero =>
      intro f i s1 s2 h1 h2 h3
      obtain ⟨f, rfl⟩ : ∃ g, f = g + 1 := ⟨f - 1, by omega⟩
      have h4 : i = n := by omega
      subst h4
      exact ⟨s1, s2, h3, (he f f s1 s2 h3).1, (he f f s1 s2 h3).2⟩
    | succ m ih =>
      intro f i s1 s2 h1 h2 h3
      obtain ⟨f, rfl⟩ : ∃ g, f = g + 1 := ⟨f - 1, by omega⟩
      obtain ⟨t1, t2, h4, h5, h6⟩ := hs f f i s1 s2 (by omega) h3
      obtain ⟨u1, u2, h7, h8, h9⟩ := ih f (i + 1) t1 t2 (by omega) (by omega) h6
      exact ⟨u1, u2, h7, h4.trans h8, h5.trans h9⟩
  exact key (n - i) FU i s1 s2 (by omega) (by unfold FU; omega) h
theorem unit_yes {n u : Nat} (hn : n ≤ 12) (hu : u < n) : m_X2_isUnit (nI n) (nI u) = some 1 ∧ m_X8_isUnit (nI n) (nI u) = some 1 := by
  rcases unit_cases hn (nI u) with ⟨h1, h2⟩ | ⟨j, -, -, h1, h2⟩
  · exfalso
    unfold m_X2_isUnit at h1
    have c1 : ¬ nI u < 0 := by rw [lt_l (k := 0) (by omega) (by omega)]; omega
    have c2 : ¬ nI n ≤ nI u := by rw [n_le (by omega) (by omega)]; omega
    rw [if_neg c1, if_neg c2] at h1
    exact absurd (Option.some.inj h1) (by decide)
  · exact ⟨h1, h2⟩
theorem unit_no {n u : Nat} (hn : n ≤ 12) (hu : u < 1000) (h : ¬ u < n) : m_X2_isUnit (nI n) (nI u) = some 0 ∧ m_X8_isUnit (nI n) (nI u) = some 0 := by
  rcases unit_cases hn (nI u) with ⟨h1, h2⟩ | ⟨j, q1, q2, -, -⟩
  · exact ⟨h1, h2⟩
  · rw [n_eq (by omega) (by omega)] at q2
    omega
theorem RTr_kd {n : Nat} {tr kd th fm tm ph : Nat → Int32} (hr : RTr n tr kd th fm tm ph) {A : Nat} (hA : A < 12) (v : Int32) : RTr n (upd tr A v) (upd kd A v) th fm tm ph := fun x hx => by
  have := hr x hx
  rw [upd_n (show 12 + x ≠ A by omega), upd_n (show 24 + x ≠ A by omega), upd_n (show 36 + x ≠ A by omega), upd_n (show 48 + x ≠ A by omega)]
  by_cases q : x = A
  · subst q; rw [upd_s, upd_s]; exact ⟨⟨rfl, this.1.2⟩, this.2⟩
  · rw [upd_n q, upd_n q]; exact this
theorem RTr_ph {n : Nat} (hn : n ≤ 12) {tr kd th fm tm ph : Nat → Int32} (hr : RTr n tr kd th fm tm ph) {A : Nat} {v : Int32} (hv : v = -1 ∨ ∃ k, k < 6 ∧ v = nI k) : RTr n (upd tr (48 + A) v) kd th fm tm (upd ph A v) := fun x hx => by
  have := hr x hx
  rw [upd_n (show x ≠ 48 + A by omega), upd_n (show 12 + x ≠ 48 + A by omega), upd_n (show 24 + x ≠ 48 + A by omega), upd_n (show 36 + x ≠ 48 + A by omega)]
  by_cases q : x = A
  · subst q; rw [upd_s, upd_s]; exact ⟨⟨this.1.1, this.1.2.1, this.1.2.2.1, this.1.2.2.2.1, rfl⟩, this.2.1, this.2.2.1, this.2.2.2.1, hv⟩
  · rw [upd_n q, upd_n (show 48 + x ≠ 48 + A by omega)]; exact this
theorem not_lt0 {x : Int32} (h : 0 ≤ x) : ¬ x < 0 := fun q => by
  rw [Int32.lt_iff_toInt_lt] at q
  rw [Int32.le_iff_toInt_le] at h
  omega
theorem lt0_of {x : Int32} (h : ¬ 0 ≤ x) : x < 0 := by
  rw [Int32.le_iff_toInt_le] at h
  rw [Int32.lt_iff_toInt_lt]
  omega
theorem do_both {n t : Nat} (hn : n ≤ 12) (ht : t ≤ 40) {tr kd th fm tm ph upr lwr ab bl : Nat → Int32} {up lo : Nat → Nat} (hr : RTr n tr kd th fm tm ph) (h : RTi n t upr lwr ab bl up lo) {A V B : Nat} (hA : A < 12) (hV : V < 5) (hB : B < 12) {sen : Nat → Int32} {i : Nat} (hi : i < 8) (s1 : sen (3 * i) = nI A) (s2 : sen (3 * i + 1) = nI V) (s3 : sen (3 * i + 2) = nI B) : ∃ r7 r8 t2 up2 lo2, m_X7_obeys (nI n) (nI t) tr upr lwr (nI V) (nI A) (nI B) = some r7 ∧ m_X8_does (nI n) kd ph (nI t) ab bl sen (nI i) = some r8 ∧ r7.2.2.2.2 = r8.2.2.2.2.2 ∧ (r7.2.2.2.2 = 0 ∨ r7.2.2.2.2 = 1) ∧ t2 ≤ 40 ∧ r7.1 = nI t2 ∧ r8.2.2.1 = nI t2 ∧ RTr n r7.2.1 r8.1 th fm tm r8.2.1 ∧ RTi n t2 r7.2.2.1 r7.2.2.2.1 r8.2.2.2.1 r8.2.2.2.2.1 up2 lo2 := by
  unfold m_X7_obeys m_X8_does
  have e1 : (3 : Int32) * nI i = nI (3 * i) := by
    show nI 3 * nI i = _
    rw [pk_mul]
  have e2 : nI (3 * i) + 1 = nI (3 * i + 1) := nI_1 _
  have e3 : nI (3 * i) + 2 = nI (3 * i + 2) := by
    show nI (3 * i) + nI 2 = _
    rw [nI_add]
  rw [e1, e2, e3, ag_n (by omega) (by omega), ag_n (by omega) (by omega), ag_n (by omega) (by omega), s1, s2, s3]
  by_cases v4 : V = 4
  · subst v4
    rw [if_pos (show nI 4 = (4 : Int32) from rfl), if_pos (show nI 4 = (4 : Int32) from rfl)]
    unfold m_X7_joinsPhase
    by_cases cA : A < n
    · obtain ⟨a1, a2⟩ := unit_yes hn cA
      rw [a1, a2]
      simp only [cl_s, jn_e, if_10]
      by_cases cB : B < n
      · obtain ⟨b1, b2⟩ := unit_yes hn cB
        have hph := hr B cB
        simp only [b1, b2, cl_s, if_10, tr7_4 tr hB]
        have p4 : ∀ tr v, m_X2_putTrait tr 4 (nI A) v = some (upd tr (48 + A) v) := fun tr v => put7 tr (a := 4) (u := A) (by omega) hA v
        rw [p4, cl_s, cl_s, zg_1, ag_n (by omega) (by omega), au_n (by omega) (by omega), hph.1.2.2.2.2]
        exact ⟨_, _, t, up, lo, rfl, rfl, rfl, Or.inr rfl, ht, rfl, rfl, RTr_ph hn hr hph.2.2.2.2, h⟩
      · obtain ⟨b1, b2⟩ := unit_no hn (by omega) cB
        simp only [b1, b2, cl_s, if_00, zg_0]
        exact ⟨_, _, t, up, lo, rfl, rfl, rfl, Or.inl rfl, ht, rfl, rfl, hr, h⟩
    · obtain ⟨a1, a2⟩ := unit_no hn (by omega) cA
      rw [a1, a2]
      simp only [cl_s, jn_e, if_00, zg_0]
      exact ⟨_, _, t, up, lo, rfl, rfl, rfl, Or.inl rfl, ht, rfl, rfl, hr, h⟩
  have n4 : ¬ nI V = (4 : Int32) := by rw [eq_l (k := 4) (by omega) (by omega)]; exact v4
  rw [if_neg n4, if_neg n4, jn_e]
  by_cases v1 : V = 1
  · subst v1
    rw [if_pos (show nI 1 = (1 : Int32) from rfl), if_pos (show nI 1 = (1 : Int32) from rfl)]
    obtain ⟨⟨x1, x2, x3, x4⟩, ⟨y1, y2, y3, y4⟩, t2, up2, lo2, q1, q2, q3, q4, q5, q6, q7⟩ := o_tie hn ht h (nI B) (nI A)
    have q3 : x4 = y4 := q3
    have q5 : x1 = nI t2 := q5
    have q6 : y1 = nI t2 := q6
    subst q3
    rw [q1, q2, cl_s, cl_s]
    simp only
    by_cases c : 0 ≤ x4
    · rw [if_pos c, if_neg (not_lt0 c), if_10, if_pos (show nI 1 ≤ (1 : Int32) by decide), if_neg (show ¬ nI 1 = (2 : Int32) by decide), if_neg (show ¬ nI 1 = (3 : Int32) by decide)]
      exact ⟨_, _, t2, up2, lo2, rfl, rfl, rfl, Or.inr rfl, q4, q5, q6, hr, q7⟩
    · rw [if_neg c, if_pos (lt0_of c), if_pos trivial]
      exact ⟨_, _, t2, up2, lo2, rfl, rfl, rfl, Or.inl rfl, q4, q5, q6, hr, q7⟩
  have n1 : ¬ nI V = (1 : Int32) := by rw [eq_l (k := 1) (by omega) (by omega)]; exact v1
  rw [if_neg n1, if_neg n1]
  obtain ⟨⟨x1, x2, x3, x4⟩, ⟨y1, y2, y3, y4⟩, t2, up2, lo2, q1, q2, q3, q4, q5, q6, q7⟩ := o_tie hn ht h (nI A) (nI B)
  have q3 : x4 = y4 := q3
  have q5 : x1 = nI t2 := q5
  have q6 : y1 = nI t2 := q6
  subst q3
  rw [q1, q2, cl_s, cl_s]
  simp only
  by_cases c : 0 ≤ x4
  · rw [if_pos c, if_neg (not_lt0 c), if_10]
    have p0 : ∀ tr v, m_X2_putTrait tr 0 (nI A) v = some (upd tr A v) := fun tr v => by
      have := put7 tr (a := 0) (u := A) (by omega) hA v
      rwa [Nat.mul_zero, Nat.zero_add] at this
    rcases (show V = 0 ∨ V = 2 ∨ V = 3 by omega) with rfl | rfl | rfl
    · rw [if_pos (show nI 0 ≤ (1 : Int32) by decide), if_neg (show ¬ nI 0 = (2 : Int32) by decide), if_neg (show ¬ nI 0 = (3 : Int32) by decide)]
      exact ⟨_, _, t2, up2, lo2, rfl, rfl, rfl, Or.inr rfl, q4, q5, q6, hr, q7⟩
    · rw [if_neg (show ¬ nI 2 ≤ (1 : Int32) by decide), if_pos (show nI 2 = (2 : Int32) from rfl), p0, cl_s, au_n (by omega) (by omega), show nI 2 - 1 = (1 : Int32) by decide]
      exact ⟨_, _, t2, up2, lo2, rfl, rfl, rfl, Or.inr rfl, q4, q5, q6, RTr_kd hr hA 1, q7⟩
    · rw [if_neg (show ¬ nI 3 ≤ (1 : Int32) by decide), if_neg (show ¬ nI 3 = (2 : Int32) by decide), if_pos (show nI 3 = (3 : Int32) from rfl), p0, cl_s, au_n (by omega) (by omega), show nI 3 - 1 = (2 : Int32) by decide]
      exact ⟨_, _, t2, up2, lo2, rfl, rfl, rfl, Or.inr rfl, q4, q5, q6, RTr_kd hr hA 2, q7⟩
  · rw [if_neg c, if_pos (lt0_of c), if_pos trivial]
    exact ⟨_, _, t2, up2, lo2, rfl, rfl, rfl, Or.inl rfl, q4, q5, q6, hr, q7⟩
