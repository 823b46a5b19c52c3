/-! ===== sightings, events, ties left out ===== -/
theorem nar_b {x : Int32} (h : x = 0 ∨ x = 1) : vp_nar .boolean x = x := by
  unfold vp_nar
  rw [nar_z h]
theorem m3 (k w : Nat) : (3 : Int32) * nI k + nI w = nI (3 * k + w) := by
  show nI 3 * nI k + nI w = _
  rw [pk_mul, nI_add]
theorem m3_0 (k : Nat) : (3 : Int32) * nI k = nI (3 * k) := by
  show nI 3 * nI k = _
  rw [pk_mul]
theorem m2 (k w : Nat) : (2 : Int32) * nI k + nI w = nI (2 * k + w) := by
  show nI 2 * nI k + nI w = _
  rw [pk_mul, nI_add]
theorem m2_0 (k : Nat) : (2 : Int32) * nI k = nI (2 * k) := by
  show nI 2 * nI k = _
  rw [pk_mul]
theorem RSn_add {n s : Nat} (hs : s < 5) {sf ss si sn : Nat → Int32} (h : RSn n s sf ss si sn) {a b : Nat} {x : Int32} (ha : a < n) (hb : b < n) (hx : x = 0 ∨ x = 1) : RSn n (s + 1) (upd sf s (nI a)) (upd ss s (nI b)) (upd si s x) (upd (upd (upd sn (3 * s) (nI a)) (3 * s + 1) (nI b)) (3 * s + 2) x) := by
  refine ⟨fun k hk => ?_, fun k hk => ?_⟩
  · by_cases c : k = s
    · subst c; rw [upd_s]; exact hx
    · rw [upd_n c]; exact h.1 k hk
  · by_cases c : k = s
    · subst c
      rw [upd_n (show 3 * k ≠ 3 * k + 2 by omega), upd_n (show 3 * k ≠ 3 * k + 1 by omega), upd_s, upd_n (show 3 * k + 1 ≠ 3 * k + 2 by omega), upd_s, upd_s, upd_s, upd_s, upd_s]
      exact ⟨rfl, rfl, rfl, ⟨a, ha, rfl⟩, b, hb, rfl⟩
    · rw [upd_n (show 3 * k ≠ 3 * s + 2 by omega), upd_n (show 3 * k ≠ 3 * s + 1 by omega), upd_n (show 3 * k ≠ 3 * s by omega), upd_n (show 3 * k + 1 ≠ 3 * s + 2 by omega), upd_n (show 3 * k + 1 ≠ 3 * s + 1 by omega), upd_n (show 3 * k + 1 ≠ 3 * s by omega), upd_n (show 3 * k + 2 ≠ 3 * s + 2 by omega), upd_n (show 3 * k + 2 ≠ 3 * s + 1 by omega), upd_n (show 3 * k + 2 ≠ 3 * s by omega), upd_n c, upd_n c, upd_n c]
      exact h.2 k (by omega)
theorem o_see {n s : Nat} (hn : n ≤ 12) (hs : s ≤ 5) {sf ss si sn : Nat → Int32} (h : RSn n s sf ss si sn) (a1 a2 a3 : Int32) (h3 : a3 = 0 ∨ a3 = 1) : ∃ r7 r8 s2, m_X7_see (nI n) (nI s) sf ss si a1 a2 a3 = some r7 ∧ m_X8_see (nI n) sn (nI s) a1 a2 a3 = some r8 ∧ r7.2.2.2.2 = r8.2.2 ∧ s2 ≤ 5 ∧ r7.1 = nI s2 ∧ r8.2.1 = nI s2 ∧ RSn n s2 r7.2.1 r7.2.2.1 r7.2.2.2.1 r8.1 := by
  unfold m_X7_see m_X8_see
  by_cases c : a1 = -1
  · rw [if_pos c, if_pos c]
    exact ⟨_, _, 0, rfl, rfl, rfl, by omega, rfl, rfl, h.1, fun k hk => absurd hk (Nat.not_lt_zero k)⟩
  rw [if_neg c, if_neg c]
  rcases unit_cases hn a1 with ⟨h1, h2⟩ | ⟨u, hu, rfl, h1, h2⟩
  · rw [h1, h2]; exact ⟨_, _, s, rfl, rfl, rfl, hs, rfl, rfl, h⟩
  rw [h1, h2, cl_s, cl_s, if_10, if_10]
  rcases unit_cases hn a2 with ⟨h4, h5⟩ | ⟨v, hv, rfl, h4, h5⟩
  · rw [h4, h5]; exact ⟨_, _, s, rfl, rfl, rfl, hs, rfl, rfl, h⟩
  rw [h4, h5, cl_s, cl_s, if_10, if_10]
  by_cases c5 : s < 5
  · have d1 : nI s < (5 : Int32) := by rw [lt_l (k := 5) (by omega) (by omega)]; exact c5
    have d2 : ¬ nI s = (5 : Int32) := by rw [eq_l (k := 5) (by omega) (by omega)]; omega
    have e1 : (3 : Int32) * nI s + 1 = nI (3 * s + 1) := m3 s 1
    have e2 : (3 : Int32) * nI s + 2 = nI (3 * s + 2) := m3 s 2
    unfold m_X2_addSeen
    rw [if_pos d1, if_neg d2, e1, e2, m3_0, au_n (by omega) (by omega), au_n (by omega) (by omega), az_n (by omega) (by omega), au_n (by omega) (by omega), au_n (by omega) (by omega), cl_s, nar_b h3, nI_1]
    rcases h3 with rfl | rfl
    · rw [if_pos rfl, au_n (by omega) (by omega)]
      exact ⟨_, _, s + 1, rfl, rfl, rfl, by omega, rfl, rfl, RSn_add c5 h hu hv (Or.inl rfl)⟩
    · rw [if_neg (by decide), au_n (by omega) (by omega)]
      exact ⟨_, _, s + 1, rfl, rfl, rfl, by omega, rfl, rfl, RSn_add c5 h hu hv (Or.inr rfl)⟩
  · have d1 : ¬ nI s < (5 : Int32) := by rw [lt_l (k := 5) (by omega) (by omega)]; exact c5
    have d2 : nI s = (5 : Int32) := by rw [eq_l (k := 5) (by omega) (by omega)]; omega
    rw [if_neg d1, if_pos d2]
    exact ⟨_, _, s, rfl, rfl, rfl, hs, rfl, rfl, h⟩
/-- the sightings, as numbers -/
theorem sn_fun {n s : Nat} (hn : n ≤ 12) {sf ss si sn : Nat → Int32} (h : RSn n s sf ss si sn) : ∃ A B : Nat → Nat, ∀ k, k < s → sn (3 * k) = nI (A k) ∧ sn (3 * k + 1) = nI (B k) ∧ sn (3 * k + 2) = si k ∧ sf k = nI (A k) ∧ ss k = nI (B k) ∧ A k < n ∧ B k < n := by
  refine ⟨fun k => (sf k).toNatClampNeg, fun k => (ss k).toNatClampNeg, fun k hk => ?_⟩
  obtain ⟨q1, q2, q3, ⟨a, ha, q4⟩, b, hb, q5⟩ := h.2 k hk
  simp only [q1, q2, q3, q4, q5, n_cl (show a < 2147483648 by omega), n_cl (show b < 2147483648 by omega)]
  exact ⟨trivial, trivial, trivial, trivial, trivial, ha, hb⟩
def AGP (n t s : Nat) (up lo A B : Nat → Nat) (si : Nat → Int32) (b : Int32) : Prop := ∀ j, j < s → (PV (Ed t up lo b) n (A j) (B j) ↔ si j = 1)
theorem ag_bit {n t : Nat} (hn : n ≤ 12) {up lo : Nat → Nat} {b : Int32} {un av rc : Nat → Int32} (hW : WB n t up lo b un av rc) {x y : Nat} (hx : x < n) (hy : y < n) {z : Int32} (hz : z = 0 ∨ z = 1) : ((if bt (rc x) y = true then (1 : Int32) else 0) = z) ↔ (PV (Ed t up lo b) n x y ↔ z = 1) := by
  rw [← hW.2.2 x y hx (by omega)]
  rcases hz with rfl | rfl
  · by_cases c : bt (rc x) y = true
    · rw [if_pos c]
      exact ⟨fun q => absurd q (by decide), fun q => absurd (q.mp c) (by decide)⟩
    · rw [if_neg c]
      exact ⟨fun _ => ⟨fun q => absurd q c, fun q => absurd q (by decide)⟩, fun _ => rfl⟩
  · by_cases c : bt (rc x) y = true
    · rw [if_pos c]
      exact ⟨fun _ => ⟨fun _ => rfl, fun _ => c⟩, fun _ => rfl⟩
    · rw [if_neg c]
      exact ⟨fun q => absurd q (by decide), fun q => absurd (q.mpr rfl) c⟩
theorem agree7 {n t s : Nat} (hn : n ≤ 12) (hs : s ≤ 5) {up lo A B : Nat → Nat} {b : Int32} {un av rc sf ss si : Nat → Int32} (hW : WB n t up lo b un av rc) (h : ∀ k, k < s → sf k = nI (A k) ∧ ss k = nI (B k) ∧ A k < n ∧ B k < n ∧ (si k = 0 ∨ si k = 1)) : (AGP n t s up lo A B si b ∧ m_X5_agrees rc (nI s) sf ss si = some 1) ∨ (¬ AGP n t s up lo A B si b ∧ m_X5_agrees rc (nI s) sf ss si = some 0) := by
  unfold m_X5_agrees
  have key := lpe (fun f i (x : Unit) => m_X5_agrees_L2 (nI s) rc sf ss si f i (fun x2_2 => some (1 : Int32))) (fun _ => some 1) s (fun j _ => ∀ i, i < j → (PV (Ed t up lo b) n (A i) (B i) ↔ si i = 1)) (fun r => r = 0 ∧ ¬ AGP n t s up lo A B si b)
    (fun f j x hj hP => by
      obtain ⟨h1, h2, h3, h4, h5⟩ := h j hj
      have c0 : ¬ nI s ≤ nI j := by rw [n_le (by omega) (by omega)]; omega
      have ea : ∀ {β : Type} (f : Nat → Int32) (k : Int32 → Option β), ag f 5 (nI j) k = k (f j) := fun f k => ag_n (by omega) (by omega)
      have eb := ag_bit hn hW h3 h4 h5
      have est : ∀ k : Int32 → Option Int32, m_X5_agrees_L2 (nI s) rc sf ss si (f + 1) (nI j) k = if (if bt (rc (A j)) (B j) = true then (1 : Int32) else 0) = si j then m_X5_agrees_L2 (nI s) rc sf ss si f (nI (j + 1)) k else some 0 := fun k => by
        rw [m_X5_agrees_L2, if_neg c0, ea, h1, ag_n (by omega) (by omega), ea, h2, hb7 _ (by omega), cl_s, ea, nI_1]
      by_cases c : (if bt (rc (A j)) (B j) = true then (1 : Int32) else 0) = si j
      · left
        refine ⟨(), (est _).trans (if_pos c), fun i hi => ?_⟩
        by_cases q : i = j
        · subst q; exact eb.mp c
        · exact hP i (by omega)
      · right
        exact ⟨0, (est _).trans (if_neg c), rfl, fun q => c (eb.mpr (q j hj))⟩)
    (fun f x _ => by
      have c0 : nI s ≤ nI s := by rw [n_le (by omega) (by omega)]; omega
      rw [m_X5_agrees_L2, if_pos c0]) 0 () (by omega) (by omega) (fun i hi => absurd hi (Nat.not_lt_zero i))
  rcases key with ⟨x, q1, q2⟩ | ⟨r, q1, rfl, q2⟩
  · exact Or.inl ⟨q1, q2⟩
  · exact Or.inr ⟨q2, q1⟩
theorem agree8 {n t s : Nat} (hn : n ≤ 12) (hs : s ≤ 5) {up lo A B : Nat → Nat} {b : Int32} {un av rc si sn : Nat → Int32} (hW : WB n t up lo b un av rc) (h : ∀ k, k < s → sn (3 * k) = nI (A k) ∧ sn (3 * k + 1) = nI (B k) ∧ sn (3 * k + 2) = si k ∧ A k < n ∧ B k < n ∧ (si k = 0 ∨ si k = 1)) : (AGP n t s up lo A B si b ∧ m_X8_areSo rc sn (nI s) = some 1) ∨ (¬ AGP n t s up lo A B si b ∧ m_X8_areSo rc sn (nI s) = some 0) := by
  unfold m_X8_areSo
  obtain ⟨x, q1, q2⟩ := lpk (fun f i (x : Int32) => m_X8_areSo_L4 (nI s) rc sn f x i (fun x1_4 x2_4 => zg x1_4 (some x1_4))) (fun x => zg x (some x)) s (fun j x => (x = 1 ∧ ∀ i, i < j → (PV (Ed t up lo b) n (A i) (B i) ↔ si i = 1)) ∨ (x = 0 ∧ ¬ AGP n t s up lo A B si b)) (fun x => (x = 1 ∧ AGP n t s up lo A B si b) ∨ (x = 0 ∧ ¬ AGP n t s up lo A B si b))
    (fun f j x hj hP => by
      obtain ⟨h1, h2, h3, h4, h5, h6⟩ := h j hj
      have c0 : ¬ nI s ≤ nI j := by rw [n_le (by omega) (by omega)]; omega
      have e1 : (3 : Int32) * nI j + 1 = nI (3 * j + 1) := m3 j 1
      have e2 : (3 : Int32) * nI j + 2 = nI (3 * j + 2) := m3 j 2
      have eb := ag_bit hn hW h4 h5 h6
      rcases hP with ⟨rfl, hP⟩ | ⟨rfl, hP⟩
      · left
        have est : ∀ k : Int32 → Int32 → Option Int32, m_X8_areSo_L4 (nI s) rc sn (f + 1) 1 (nI j) k = if (if bt (rc (A j)) (B j) = true then (1 : Int32) else 0) = si j then m_X8_areSo_L4 (nI s) rc sn f 1 (nI (j + 1)) k else m_X8_areSo_L4 (nI s) rc sn f 0 (nI (j + 1)) k := fun k => by
          rw [m_X8_areSo_L4, if_neg c0, if_neg (show ¬ (1 : Int32) = 0 by decide), e1, e2, m3_0, ag_n (by omega) (by omega), h1, ag_n (by omega) (by omega), ag_n (by omega) (by omega), h2, ag_n (by omega) (by omega), h3, b_ask _ (by omega), nI_1]
        by_cases c : (if bt (rc (A j)) (B j) = true then (1 : Int32) else 0) = si j
        · refine ⟨1, (est _).trans (if_pos c), Or.inl ⟨rfl, fun i hi => ?_⟩⟩
          by_cases q : i = j
          · subst q; exact eb.mp c
          · exact hP i (by omega)
        · exact ⟨0, (est _).trans (if_neg c), Or.inr ⟨rfl, fun q => c (eb.mpr (q j hj))⟩⟩
      · right
        refine ⟨?_, Or.inr ⟨rfl, hP⟩⟩
        rw [m_X8_areSo_L4, if_neg c0, if_pos rfl])
    (fun f x hP => by
      have c0 : nI s ≤ nI s := by rw [n_le (by omega) (by omega)]; omega
      exact ⟨by rw [m_X8_areSo_L4, if_pos c0], hP⟩) 0 1 (by omega) (by omega) (Or.inl ⟨rfl, fun i hi => absurd hi (Nat.not_lt_zero i)⟩)
  rcases q1 with ⟨rfl, q1⟩ | ⟨rfl, q1⟩
  · exact Or.inl ⟨q1, q2.trans zg_1⟩
  · exact Or.inr ⟨q1, q2.trans zg_0⟩
theorem o_event {n e : Nat} (hn : n ≤ 12) (he : e ≤ 8) {ew eu ev : Nat → Int32} (h : REv n e ew eu ev) (a1 a2 : Int32) : ∃ r7 r8 e2, m_X7_event (nI n) (nI e) ew eu a1 a2 = some r7 ∧ m_X8_event (nI n) ev (nI e) a1 a2 = some r8 ∧ r7.2.2.2 = r8.2.2 ∧ e2 ≤ 8 ∧ r7.1 = nI e2 ∧ r8.2.1 = nI e2 ∧ REv n e2 r7.2.1 r7.2.2.1 r8.1 := by
  unfold m_X7_event m_X8_event
  by_cases c : a1 = -1
  · rw [if_pos c, if_pos c]
    exact ⟨_, _, 0, rfl, rfl, rfl, by omega, rfl, rfl, fun k hk => absurd hk (Nat.not_lt_zero k)⟩
  rw [if_neg c, if_neg c]
  rcases in_cases a1 3 (by omega) with ⟨h3, h4⟩ | ⟨w, hw, rfl, h3⟩
  · have h3 : m_X8_in a1 0 3 = some 0 := h3
    rw [h3, cl_s, if_00]
    by_cases h5 : a1 < 0
    · rw [if_pos h5]; exact ⟨_, _, e, rfl, rfl, rfl, he, rfl, rfl, h⟩
    · have h6 : (3 : Int32) < a1 := h4.resolve_left h5
      rw [if_neg h5, if_pos h6]; exact ⟨_, _, e, rfl, rfl, rfl, he, rfl, rfl, h⟩
  have h3 : m_X8_in (nI w) 0 3 = some 1 := h3
  have c1 : ¬ nI w < 0 := by rw [lt_l (k := 0) (by omega) (by omega)]; omega
  have c2 : ¬ (3 : Int32) < nI w := by
    show ¬ nI 3 < nI w
    rw [n_lt (by omega) (by omega)]; omega
  rw [h3, cl_s, if_10, if_neg c1, if_neg c2]
  rcases unit_cases hn a2 with ⟨h4, h5⟩ | ⟨v, hv, rfl, h4, h5⟩
  · rw [h4, h5]; exact ⟨_, _, e, rfl, rfl, rfl, he, rfl, rfl, h⟩
  rw [h4, h5, cl_s, cl_s, if_10, if_10]
  by_cases c5 : e < 8
  · have d1 : nI e < (8 : Int32) := by rw [lt_l (k := 8) (by omega) (by omega)]; exact c5
    have d2 : ¬ nI e = (8 : Int32) := by rw [eq_l (k := 8) (by omega) (by omega)]; omega
    have e1 : (2 : Int32) * nI e + 1 = nI (2 * e + 1) := m2 e 1
    unfold m_X2_addEvent
    rw [if_pos d1, if_neg d2, e1, m2_0, au_n (by omega) (by omega), au_n (by omega) (by omega), au_n (by omega) (by omega), au_n (by omega) (by omega), cl_s, nI_1]
    refine ⟨_, _, e + 1, rfl, rfl, rfl, by omega, rfl, rfl, fun k hk => ?_⟩
    simp only
    by_cases q : k = e
    · subst q
      rw [upd_n (show 2 * k ≠ 2 * k + 1 by omega), upd_s, upd_s, upd_s, upd_s]
      exact ⟨rfl, rfl, ⟨w, by omega, rfl⟩, v, hv, rfl⟩
    · rw [upd_n (show 2 * k ≠ 2 * e + 1 by omega), upd_n (show 2 * k ≠ 2 * e by omega), upd_n (show 2 * k + 1 ≠ 2 * e + 1 by omega), upd_n (show 2 * k + 1 ≠ 2 * e by omega), upd_n q, upd_n q]
      exact h k (by omega)
  · have d1 : ¬ nI e < (8 : Int32) := by rw [lt_l (k := 8) (by omega) (by omega)]; exact c5
    have d2 : nI e = (8 : Int32) := by rw [eq_l (k := 8) (by omega) (by omega)]; omega
    rw [if_neg d1, if_pos d2]
    exact ⟨_, _, e, rfl, rfl, rfl, he, rfl, rfl, h⟩
