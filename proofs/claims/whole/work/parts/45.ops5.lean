/-! ===== calls that change the site ===== -/
theorem rng (a : Int32) {L : Int} {K : Nat} (hK : K < 100000) (l g : Int32) (hl : l.toInt = L) (hg : g = nI K) (hL : L = 0 ∨ L = -1) : (m_X8_in a l g = some 0 ∧ (a < l ∨ g < a)) ∨ (m_X8_in a l g = some 1 ∧ ¬ a < l ∧ a ≤ g ∧ ((∃ k, k ≤ K ∧ a = nI k) ∨ (L = -1 ∧ a = -1))) := by
  unfold m_X8_in
  by_cases c1 : a < l
  · rw [if_pos c1]; exact Or.inl ⟨rfl, Or.inl c1⟩
  rw [if_neg c1]
  by_cases c2 : g < a
  · rw [if_pos c2]; exact Or.inl ⟨rfl, Or.inr c2⟩
  rw [if_neg c2]
  right
  have hle : a ≤ g := by
    rw [Int32.lt_iff_toInt_lt] at c2
    rw [Int32.le_iff_toInt_le]; omega
  refine ⟨rfl, c1, hle, ?_⟩
  subst hg
  rw [Int32.le_iff_toInt_le, nI_toInt (by omega)] at hle
  rw [Int32.lt_iff_toInt_lt] at c1
  by_cases c3 : a = -1
  · right
    refine ⟨?_, c3⟩
    subst c3
    have : (-1 : Int32).toInt = -1 := rfl
    omega
  · left
    have c4 : a.toInt ≠ -1 := fun q => c3 (by rw [← Int32.toInt_inj]; exact q)
    refine ⟨a.toInt.toNat, by omega, ?_⟩
    rw [← Int32.toInt_inj, nI_toInt (by omega)]
    omega
def RTr1 (tr kd th fm tm ph : Nat → Int32) (u : Nat) : Prop := (kd u = tr u ∧ th u = tr (12 + u) ∧ fm u = tr (24 + u) ∧ tm u = tr (36 + u) ∧ ph u = tr (48 + u)) ∧ (∃ k, k ≤ 99 ∧ tr (12 + u) = nI k) ∧ (∃ k, k ≤ 2000 ∧ tr (24 + u) = nI k) ∧ (∃ k, k ≤ 2000 ∧ tr (36 + u) = nI k) ∧ (tr (48 + u) = -1 ∨ ∃ k, k < 6 ∧ tr (48 + u) = nI k)
theorem RTi_mono {n m t : Nat} {upr lwr ab bl : Nat → Int32} {up lo : Nat → Nat} (h : RTi n t upr lwr ab bl up lo) (hm : n ≤ m) : RTi m t upr lwr ab bl up lo := ⟨fun k hk => ⟨(h.1 k hk).1, (h.1 k hk).2.1, Nat.lt_of_lt_of_le (h.1 k hk).2.2.1 hm, Nat.lt_of_lt_of_le (h.1 k hk).2.2.2 hm⟩, h.2.1, h.2.2⟩
theorem RDg_mono {n m d : Nat} {dr dg : Nat → Int32} {dn : Nat → Nat} (h : RDg n d dr dg dn) (hm : n ≤ m) : RDg m d dr dg dn := ⟨fun k hk => ⟨(h.1 k hk).1, (h.1 k hk).2.1, Nat.lt_of_lt_of_le (h.1 k hk).2.2 hm⟩, h.2⟩
theorem RSn_mono {n m s : Nat} {sf ss si sn : Nat → Int32} (h : RSn n s sf ss si sn) (hm : n ≤ m) : RSn m s sf ss si sn := ⟨h.1, fun k hk => by
  obtain ⟨q1, q2, q3, ⟨a, q4, q5⟩, b, q6, q7⟩ := h.2 k hk
  exact ⟨q1, q2, q3, ⟨a, by omega, q5⟩, b, by omega, q7⟩⟩
theorem REv_mono {n m e : Nat} {ew eu ev : Nat → Int32} (h : REv n e ew eu ev) (hm : n ≤ m) : REv m e ew eu ev := fun k hk => by
  obtain ⟨q1, q2, q3, b, q6, q7⟩ := h k hk
  exact ⟨q1, q2, q3, b, by omega, q7⟩
theorem tl {w : Nat} (hw : w < 5) {β : Type} (k : Int32 → Option β) : ag tabL 5 (nI w) k = k (tabL w) := ag_n hw (by omega)
theorem tg {w : Nat} (hw : w < 5) {β : Type} (k : Int32 → Option β) : ag tabG 5 (nI w) k = k (tabG w) := ag_n hw (by omega)
theorem lt_12 {n : Nat} (hn : n ≤ 12) (h : ¬ nI n < (12 : Int32)) : nI n = 12 := by
  rw [lt_l (k := 12) (by omega) (by omega)] at h
  have : n = 12 := by omega
  rw [this]; rfl
theorem o_unit {n : Nat} (hn : n ≤ 12) {tr kd th fm tm ph : Nat → Int32} (hr : RTr n tr kd th fm tm ph) (a1 : Int32) : ∃ r7 r8 m, m_X7_unit (nI n) tr a1 = some r7 ∧ m_X8_unit (nI n) kd th fm tm ph a1 = some r8 ∧ r7.2.2 = r8.2.2.2.2.2.2 ∧ n ≤ m ∧ m ≤ 12 ∧ r7.1 = nI m ∧ r8.1 = nI m ∧ RTr m r7.2.1 r8.2.1 r8.2.2.1 r8.2.2.2.1 r8.2.2.2.2.1 r8.2.2.2.2.2.1 := by
  unfold m_X7_unit m_X8_unit
  have e1 : ∀ k : Int32 → Option (Int32 × (Nat → Int32) × Int32), ag tabL 5 0 k = k 0 := fun k => tl (w := 0) (by omega) k
  have e2 : ∀ k : Int32 → Option (Int32 × (Nat → Int32) × Int32), ag tabG 5 0 k = k 5 := fun k => tg (w := 0) (by omega) k
  rw [e1]
  rcases rng a1 (L := 0) (K := 5) (by omega) 0 5 rfl rfl (Or.inl rfl) with ⟨h1, h2⟩ | ⟨h1, h2, h3, -⟩
  · rw [h1, cl_s, if_00]
    refine ⟨(nI n, tr, -2), _, n, ?_, rfl, rfl, Nat.le_refl n, hn, rfl, rfl, hr⟩
    by_cases c : a1 < 0
    · rw [if_pos c]
    · rw [if_neg c, e2, if_neg (not_le_of (h2.resolve_left c))]
  rw [h1, cl_s, if_10, if_neg h2, e2, if_pos h3]
  by_cases c : nI n < (12 : Int32)
  · have hn' : n < 12 := by rwa [lt_l (k := 12) (by omega) (by omega)] at c
    have c' : ¬ nI n = (12 : Int32) := by rw [eq_l (k := 12) (by omega) (by omega)]; omega
    rw [if_pos c, if_neg c']
    unfold m_X2_addUnit
    have g1 : ∀ k : Int32 → Option (Int32 × (Nat → Int32) × Int32), ag tabL 5 2 k = k 0 := fun k => tl (w := 2) (by omega) k
    have g2 : ∀ k : Int32 → Option (Int32 × (Nat → Int32) × Int32), ag tabG 5 3 k = k 2000 := fun k => tg (w := 3) (by omega) k
    have p0 := fun tr v => put7 tr (a := 0) (u := n) (by omega) hn' v
    have p1 := fun tr v => put7 tr (a := 1) (u := n) (by omega) hn' v
    have p2 := fun tr v => put7 tr (a := 2) (u := n) (by omega) hn' v
    have p3 := fun tr v => put7 tr (a := 3) (u := n) (by omega) hn' v
    have p4 := fun tr v => put7 tr (a := 4) (u := n) (by omega) hn' v
    have p0 : ∀ tr v, m_X2_putTrait tr 0 (nI n) v = _ := p0
    have p1 : ∀ tr v, m_X2_putTrait tr 1 (nI n) v = _ := p1
    have p2 : ∀ tr v, m_X2_putTrait tr 2 (nI n) v = _ := p2
    have p3 : ∀ tr v, m_X2_putTrait tr 3 (nI n) v = _ := p3
    have p4 : ∀ tr v, m_X2_putTrait tr 4 (nI n) v = _ := p4
    simp only [p0, p1, p2, p3, p4, cl_s, g1, g2, au_n hn' (show 12 < 2147483648 by omega), nI_1]
    refine ⟨_, _, n + 1, rfl, rfl, ?_, by omega, by omega, rfl, rfl, fun u hu => ?_⟩
    · show nI n = nI (n + 1) - 1
      rw [n_sub1 (by omega)]; rfl
    · simp only
      by_cases q : u = n
      · subst q
        refine ⟨⟨?_, ?_, ?_, ?_, ?_⟩, ⟨1, by omega, ?_⟩, ⟨0, by omega, ?_⟩, ⟨2000, by omega, ?_⟩, Or.inl ?_⟩
        all_goals simp (disch := omega) only [upd_s, upd_n, Nat.mul_zero, Nat.zero_add, Nat.reduceMul]
        all_goals rfl
      · have := hr u (by omega)
        simp (disch := omega) only [upd_n, Nat.mul_zero, Nat.zero_add, Nat.reduceMul]
        exact this
  · have c' := lt_12 hn c
    rw [if_neg c, if_pos c']
    exact ⟨_, _, n, rfl, rfl, rfl, Nat.le_refl n, hn, rfl, rfl, hr⟩
theorem isSet8 {w : Nat} (hw : w < 5) (a : Int32) : ∃ K : Nat, ∃ L : Int, K ≤ 2000 ∧ (w = 1 → K ≤ 99) ∧ (w = 4 → K ≤ 5) ∧ (L = -1 → w = 4) ∧ ((m_X8_isSet (nI w) a = some 0 ∧ (a < tabL w ∨ tabG w < a)) ∨ (m_X8_isSet (nI w) a = some 1 ∧ ¬ a < tabL w ∧ a ≤ tabG w ∧ ((∃ k, k ≤ K ∧ a = nI k) ∨ (L = -1 ∧ a = -1)))) := by
  unfold m_X8_isSet
  rcases (show w = 0 ∨ w = 1 ∨ w = 2 ∨ w = 3 ∨ w = 4 by omega) with rfl | rfl | rfl | rfl | rfl
  · refine ⟨5, 0, by omega, by omega, by omega, by omega, ?_⟩
    rw [if_pos (show nI 0 = 0 from rfl)]
    rcases rng a (L := 0) (K := 5) (by omega) 0 5 rfl rfl (Or.inl rfl) with ⟨h1, h2⟩ | ⟨h1, h2⟩
    · rw [h1, cl_s, zg_0]; exact Or.inl ⟨rfl, h2⟩
    · rw [h1, cl_s, zg_1]; exact Or.inr ⟨rfl, h2⟩
  · refine ⟨99, 0, by omega, by omega, by omega, by omega, ?_⟩
    rw [if_neg (show ¬ nI 1 = 0 by decide), if_pos (show nI 1 = 1 from rfl)]
    rcases rng a (L := 0) (K := 99) (by omega) 0 99 rfl rfl (Or.inl rfl) with ⟨h1, h2⟩ | ⟨h1, h2⟩
    · rw [h1, cl_s, zg_0]; exact Or.inl ⟨rfl, h2⟩
    · rw [h1, cl_s, zg_1]; exact Or.inr ⟨rfl, h2⟩
  · refine ⟨2000, 0, by omega, by omega, by omega, by omega, ?_⟩
    rw [if_neg (show ¬ nI 2 = 0 by decide), if_neg (show ¬ nI 2 = 1 by decide), if_pos (show nI 2 = 2 from rfl)]
    rcases rng a (L := 0) (K := 2000) (by omega) 0 2000 rfl rfl (Or.inl rfl) with ⟨h1, h2⟩ | ⟨h1, h2⟩
    · rw [h1, cl_s, zg_0]; exact Or.inl ⟨rfl, h2⟩
    · rw [h1, cl_s, zg_1]; exact Or.inr ⟨rfl, h2⟩
  · refine ⟨2000, 0, by omega, by omega, by omega, by omega, ?_⟩
    rw [if_neg (show ¬ nI 3 = 0 by decide), if_neg (show ¬ nI 3 = 1 by decide), if_neg (show ¬ nI 3 = 2 by decide), if_pos (show nI 3 = 3 from rfl)]
    rcases rng a (L := 0) (K := 2000) (by omega) 0 2000 rfl rfl (Or.inl rfl) with ⟨h1, h2⟩ | ⟨h1, h2⟩
    · rw [h1, cl_s, zg_0]; exact Or.inl ⟨rfl, h2⟩
    · rw [h1, cl_s, zg_1]; exact Or.inr ⟨rfl, h2⟩
  · refine ⟨5, -1, by omega, by omega, by omega, by omega, ?_⟩
    rw [if_neg (show ¬ nI 4 = 0 by decide), if_neg (show ¬ nI 4 = 1 by decide), if_neg (show ¬ nI 4 = 2 by decide), if_neg (show ¬ nI 4 = 3 by decide)]
    rcases rng a (L := -1) (K := 5) (by omega) (-1) 5 rfl rfl (Or.inr rfl) with ⟨h1, h2⟩ | ⟨h1, h2⟩
    · rw [h1, cl_s, zg_0]; exact Or.inl ⟨rfl, h2⟩
    · rw [h1, cl_s, zg_1]; exact Or.inr ⟨rfl, h2⟩
theorem o_set {n : Nat} (hn : n ≤ 12) {tr kd th fm tm ph : Nat → Int32} (hr : RTr n tr kd th fm tm ph) (a1 a2 a3 : Int32) : ∃ r7 r8, m_X7_set (nI n) tr a1 a2 a3 = some r7 ∧ m_X8_set (nI n) kd th fm tm ph a1 a2 a3 = some r8 ∧ r7.2 = r8.2.2.2.2.2 ∧ RTr n r7.1 r8.1 r8.2.1 r8.2.2.1 r8.2.2.2.1 r8.2.2.2.2.1 := by
  unfold m_X7_set m_X8_set
  rcases unit_cases hn a1 with ⟨h1, h2⟩ | ⟨u, hu, rfl, h1, h2⟩
  · rw [h1, h2]; exact ⟨_, _, rfl, rfl, rfl, hr⟩
  rw [h1, h2, cl_s, cl_s, if_10, if_10]
  rcases in_cases a2 4 (by omega) with ⟨h3, h4⟩ | ⟨w, hw, rfl, h3⟩
  · have h3 : m_X8_in a2 0 4 = some 0 := h3
    rw [h3, cl_s, if_00]
    refine ⟨(tr, -1), _, ?_, rfl, rfl, hr⟩
    by_cases h5 : a2 < 0
    · rw [if_pos h5]
    · have h4 := h4.resolve_left h5
      have h4 : (4 : Int32) < a2 := h4
      have h6 : ¬ a2 < (5 : Int32) := fun q => by
        rw [Int32.lt_iff_toInt_lt] at h4 q
        have t5 : (5 : Int32).toInt = 5 := rfl
        have t6 : (4 : Int32).toInt = 4 := rfl
        omega
      rw [if_neg h5, if_neg h6]
  have h3 : m_X8_in (nI w) 0 4 = some 1 := h3
  have c1 : ¬ nI w < 0 := by rw [lt_l (k := 0) (by omega) (by omega)]; omega
  have c2 : nI w < (5 : Int32) := by rw [lt_l (k := 5) (by omega) (by omega)]; omega
  rw [h3, cl_s, if_10, if_neg c1, if_pos c2, tl (by omega)]
  obtain ⟨K, L, k1, k2, k3, k4, k5⟩ := isSet8 (w := w) (by omega) a3
  rcases k5 with ⟨h5, h6⟩ | ⟨h5, h6, h7, h8⟩
  · rw [h5, cl_s, if_00]
    refine ⟨(tr, -2), _, ?_, rfl, rfl, hr⟩
    by_cases c : a3 < tabL w
    · rw [if_pos c]
    · rw [if_neg c, tg (by omega), if_neg (not_le_of (h6.resolve_left c))]
  · obtain ⟨v, v1, v2⟩ := told_trait hr hu hn (w := w) (by omega)
    rw [h5, cl_s, if_10, if_neg h6, tg (by omega), if_pos h7, v1, v2, cl_s, cl_s, put7 tr (by omega) (by omega), cl_s]
    have hu12 : u < 12 := by omega
    unfold m_X8_lays
    rcases (show w = 0 ∨ w = 1 ∨ w = 2 ∨ w = 3 ∨ w = 4 by omega) with rfl | rfl | rfl | rfl | rfl
    · rw [if_pos (show nI 0 = 0 from rfl), au_n hu12 (by omega)]
      refine ⟨_, _, rfl, rfl, rfl, fun x hx => ?_⟩
      have := hr x hx
      simp (disch := omega) only [upd_n, Nat.mul_zero, Nat.zero_add]
      by_cases q : x = u
      · subst q; simp only [upd_s]; exact ⟨⟨trivial, this.1.2⟩, this.2⟩
      · simp only [upd_n q]; exact this
    · rw [if_neg (show ¬ nI 1 = 0 by decide), if_pos (show nI 1 = 1 from rfl), au_n hu12 (by omega)]
      refine ⟨_, _, rfl, rfl, rfl, fun x hx => ?_⟩
      have := hr x hx
      simp (disch := omega) only [upd_n, Nat.mul_one]
      by_cases q : x = u
      · subst q; simp (disch := omega) only [upd_s, upd_n]
        have h9 : ∃ k, k ≤ 99 ∧ a3 = nI k := by
          rcases h8 with ⟨k, q1, q2⟩ | ⟨q1, -⟩
          · exact ⟨k, by have := k2 rfl; omega, q2⟩
          · exact absurd (k4 q1) (by omega)
        exact ⟨⟨this.1.1, trivial, this.1.2.2⟩, h9, this.2.2⟩
      · simp (disch := omega) only [upd_n]; exact this
    · rw [if_neg (show ¬ nI 2 = 0 by decide), if_neg (show ¬ nI 2 = 1 by decide), if_pos (show nI 2 = 2 from rfl), au_n hu12 (by omega)]
      refine ⟨_, _, rfl, rfl, rfl, fun x hx => ?_⟩
      have := hr x hx
      simp (disch := omega) only [upd_n, Nat.reduceMul]
      by_cases q : x = u
      · subst q; simp (disch := omega) only [upd_s, upd_n]
        have h9 : ∃ k, k ≤ 2000 ∧ a3 = nI k := by
          rcases h8 with ⟨k, q1, q2⟩ | ⟨q1, -⟩
          · exact ⟨k, by omega, q2⟩
          · exact absurd (k4 q1) (by omega)
        exact ⟨⟨this.1.1, this.1.2.1, trivial, this.1.2.2.2⟩, this.2.1, h9, this.2.2.2⟩
      · simp (disch := omega) only [upd_n]; exact this
    · rw [if_neg (show ¬ nI 3 = 0 by decide), if_neg (show ¬ nI 3 = 1 by decide), if_neg (show ¬ nI 3 = 2 by decide), if_pos (show nI 3 = 3 from rfl), au_n hu12 (by omega)]
      refine ⟨_, _, rfl, rfl, rfl, fun x hx => ?_⟩
      have := hr x hx
      simp (disch := omega) only [upd_n, Nat.reduceMul]
      by_cases q : x = u
      · subst q; simp (disch := omega) only [upd_s, upd_n]
        have h9 : ∃ k, k ≤ 2000 ∧ a3 = nI k := by
          rcases h8 with ⟨k, q1, q2⟩ | ⟨q1, -⟩
          · exact ⟨k, by omega, q2⟩
          · exact absurd (k4 q1) (by omega)
        exact ⟨⟨this.1.1, this.1.2.1, this.1.2.2.1, trivial, this.1.2.2.2.2⟩, this.2.1, this.2.2.1, h9, this.2.2.2.2⟩
      · simp (disch := omega) only [upd_n]; exact this
    · rw [if_neg (show ¬ nI 4 = 0 by decide), if_neg (show ¬ nI 4 = 1 by decide), if_neg (show ¬ nI 4 = 2 by decide), if_neg (show ¬ nI 4 = 3 by decide), au_n hu12 (by omega)]
      refine ⟨_, _, rfl, rfl, rfl, fun x hx => ?_⟩
      have := hr x hx
      simp (disch := omega) only [upd_n, Nat.reduceMul]
      by_cases q : x = u
      · subst q; simp (disch := omega) only [upd_s, upd_n]
        have h9 : a3 = -1 ∨ ∃ k, k < 6 ∧ a3 = nI k := by
          rcases h8 with ⟨k, q1, q2⟩ | ⟨-, q1⟩
          · exact Or.inr ⟨k, by have := k3 rfl; omega, q2⟩
          · exact Or.inl q1
        exact ⟨⟨this.1.1, this.1.2.1, this.1.2.2.1, this.1.2.2.2.1, trivial⟩, this.2.1, this.2.2.1, this.2.2.2.1, h9⟩
      · simp (disch := omega) only [upd_n]; exact this
