/-! ===== how the two sides stand to each other ===== -/
def RTr (n : Nat) (tr kd th fm tm ph : Nat → Int32) : Prop := ∀ u, u < n → (kd u = tr u ∧ th u = tr (12 + u) ∧ fm u = tr (24 + u) ∧ tm u = tr (36 + u) ∧ ph u = tr (48 + u)) ∧ (∃ k, k ≤ 99 ∧ tr (12 + u) = nI k) ∧ (∃ k, k ≤ 2000 ∧ tr (24 + u) = nI k) ∧ (∃ k, k ≤ 2000 ∧ tr (36 + u) = nI k) ∧ (tr (48 + u) = -1 ∨ ∃ k, k < 6 ∧ tr (48 + u) = nI k)
def RTi (n t : Nat) (upr lwr ab bl : Nat → Int32) (up lo : Nat → Nat) : Prop := TI n t upr lwr up lo ∧ DT t up lo ∧ ∀ k, k < t → ab k = upr k ∧ bl k = lwr k
def RDg (n d : Nat) (dr dg : Nat → Int32) (dn : Nat → Nat) : Prop := (∀ k, k < d → dr k = nI (dn k) ∧ dg k = dr k ∧ dn k < n) ∧ ∀ i j, i < d → j < d → dn i = dn j → i = j
def RTy (hu hk tu tk : Nat → Int32) : Prop := ∀ k, k < 12 → tu k = hu k ∧ (¬ hu k = -1 → tk k = hk k)
def RSn (n s : Nat) (sf ss si sn : Nat → Int32) : Prop := (∀ k, k < 5 → si k = 0 ∨ si k = 1) ∧ ∀ k, k < s → sn (3 * k) = sf k ∧ sn (3 * k + 1) = ss k ∧ sn (3 * k + 2) = si k ∧ (∃ a, a < n ∧ sf k = nI a) ∧ ∃ a, a < n ∧ ss k = nI a
def REv (n e : Nat) (ew eu ev : Nat → Int32) : Prop := ∀ k, k < e → ev (2 * k) = ew k ∧ ev (2 * k + 1) = eu k ∧ (∃ w, w < 4 ∧ ew k = nI w) ∧ ∃ x, x < n ∧ eu k = nI x
def RNm (n t d s e : Nat) (fu ft fd fs fe eun et ed es ee : Int32) : Prop := (fu = nI n ∧ eun = nI n ∧ n ≤ 12) ∧ (ft = nI t ∧ et = nI t ∧ t ≤ 40) ∧ (fd = nI d ∧ ed = nI d) ∧ (fs = nI s ∧ es = nI s ∧ s ≤ 5) ∧ (fe = nI e ∧ ee = nI e ∧ e ≤ 8)
def RSite (fu ft fd fs fe : Int32) (tr upr lwr dr hu hk sf ss si ew eu : Nat → Int32) (eun et ed es ee : Int32) (kd th fm tm ph ab bl dg tu tk sn ev : Nat → Int32) : Prop := ∃ (n t d s e : Nat) (up lo dn : Nat → Nat), RNm n t d s e fu ft fd fs fe eun et ed es ee ∧ RTr n tr kd th fm tm ph ∧ RTi n t upr lwr ab bl up lo ∧ RDg n d dr dg dn ∧ RTy hu hk tu tk ∧ RSn n s sf ss si sn ∧ REv n e ew eu ev
theorem RDg_le {n d : Nat} {dr dg : Nat → Int32} {dn : Nat → Nat} (h : RDg n d dr dg dn) : d ≤ n := pigeon n d dn (fun k hk => (h.1 k hk).2.2) h.2
def RWords (ln : Int32) (tx : Nat → Int32) (el : Int32) (et : Nat → Int32) : Prop := ∃ L : Nat, L ≤ 100 ∧ ln = nI L ∧ el = nI L ∧ ∀ k, k < L → et k = tx k
def RSheet (ln : Int32) (by_ : Nat → Int32) (el : Int32) (ep : Nat → Int32) : Prop := ∃ L : Nat, L ≤ 160 ∧ ln = nI L ∧ el = nI L ∧ ∀ k, k < L → ep k = by_ k
def RReels (so le : Nat → Int32) (it : Nat → Int64) (es ez : Nat → Int32) (ec : Nat → Int64) : Prop := ∃ ln : Nat → Nat, ∀ t, t < 6 → es t = so t ∧ (so t = -1 ∨ ∃ k, k < 5 ∧ so t = nI k) ∧ le t = nI (ln t) ∧ ez t = nI (ln t) ∧ ln t ≤ 60 ∧ (so t = -1 → ln t = 0) ∧ ∀ i, i < ln t → ec (60 * t + i) = it (60 * t + i)
def vTab (k : Nat) : Int32 := ([111, 118, 101, 114, 32, 117, 110, 100, 101, 114, 99, 117, 116, 115, 32, 102, 105, 108, 108, 115, 106, 111, 105, 110, 115] : List Int32).getD k 0
def RVerbs (v : Nat → Int32) : Prop := ∀ k, k < 25 → v k = vTab k
/-! small things -/
theorem unit_cases {n : Nat} (hn : n ≤ 12) (a : Int32) : (m_X2_isUnit (nI n) a = some 0 ∧ m_X8_isUnit (nI n) a = some 0) ∨ ∃ j, j < n ∧ a = nI j ∧ m_X2_isUnit (nI n) a = some 1 ∧ m_X8_isUnit (nI n) a = some 1 := by
  unfold m_X2_isUnit m_X8_isUnit m_X8_in
  rcases pk_ix a (n := n) (by omega) with h | h | ⟨j, hj, rfl⟩
  · left
    rw [if_pos h, if_pos h]
    exact ⟨rfl, by rw [cl_s, zg_0]⟩
  · left
    have h0 : ¬ a < 0 := fun q => by
      rw [Int32.lt_iff_toInt_lt] at q
      rw [Int32.le_iff_toInt_le, nI_toInt (by omega)] at h
      have : (0 : Int32).toInt = 0 := rfl
      omega
    have h1 : nI n - 1 < a := by
      rw [Int32.lt_iff_toInt_lt]
      rw [Int32.le_iff_toInt_le, nI_toInt (by omega)] at h
      by_cases hn0 : n = 0
      · subst hn0
        have : (nI 0 - 1).toInt = -1 := by decide
        omega
      · rw [n_sub1 (by omega), nI_toInt (by omega)]
        omega
    rw [if_neg h0, if_pos h, if_neg h0, if_pos h1]
    exact ⟨rfl, by rw [cl_s, zg_0]⟩
  · right
    refine ⟨j, hj, rfl, ?_⟩
    have h0 : ¬ nI j < 0 := by rw [lt_l (k := 0) (by omega) (by omega)]; omega
    have h1 : ¬ nI n ≤ nI j := by rw [n_le (by omega) (by omega)]; omega
    have h2 : ¬ nI n - 1 < nI j := by rw [n_sub1 (by omega), n_lt (by omega) (by omega)]; omega
    rw [if_neg h0, if_neg h1, if_neg h0, if_neg h2]
    exact ⟨rfl, by rw [cl_s, zg_1]⟩
theorem in_cases (a : Int32) (K : Nat) (hK : K < 100000) : (m_X8_in a 0 (nI K) = some 0 ∧ (a < 0 ∨ nI K < a)) ∨ ∃ j, j ≤ K ∧ a = nI j ∧ m_X8_in a 0 (nI K) = some 1 := by
  unfold m_X8_in
  rcases pk_ix a (n := K + 1) (by omega) with h | h | ⟨j, hj, rfl⟩
  · left
    rw [if_pos h]
    exact ⟨rfl, Or.inl h⟩
  · left
    have h0 : ¬ a < 0 := fun q => by
      rw [Int32.lt_iff_toInt_lt] at q
      rw [Int32.le_iff_toInt_le, nI_toInt (by omega)] at h
      have : (0 : Int32).toInt = 0 := rfl
      omega
    have h1 : nI K < a := by
      rw [Int32.lt_iff_toInt_lt, nI_toInt (by omega)]
      rw [Int32.le_iff_toInt_le, nI_toInt (by omega)] at h
      omega
    rw [if_neg h0, if_pos h1]
    exact ⟨rfl, Or.inr h1⟩
  · right
    refine ⟨j, by omega, rfl, ?_⟩
    have h0 : ¬ nI j < 0 := by rw [lt_l (k := 0) (by omega) (by omega)]; omega
    have h1 : ¬ nI K < nI j := by rw [n_lt (by omega) (by omega)]; omega
    rw [if_neg h0, if_neg h1]
theorem not_le_of {a b : Int32} (h : b < a) : ¬ a ≤ b := fun q => by
  rw [Int32.lt_iff_toInt_lt] at h
  rw [Int32.le_iff_toInt_le] at q
  omega
theorem no_m1 {t : Nat} (ht : t ≤ 40) : ∀ k, k < t → nI k ≠ (-1 : Int32) := fun k hk q => by
  rw [n_m1 (by omega)] at q; exact q
/-- the webs of both, woven anew -/
theorem webs {n t : Nat} {upr lwr ab bl : Nat → Int32} {up lo : Nat → Nat} (hn : n ≤ 12) (ht : t ≤ 40) (h : RTi n t upr lwr ab bl up lo) (wu : Int32) (a1 a2 a3 b1 b2 b3 b4 : Nat → Int32) : ∃ un av rc un' ov' rd' rg', m_X7_woven (nI n) (nI t) upr lwr wu a1 a2 a3 = some (nI n, un, av, rc) ∧ m_X8_works_ (nI n) (nI t) ab bl b1 b2 b3 b4 = some (un', ov', rd', rg') ∧ WB n t up lo (-1) un av rc ∧ WB n t up lo (-1) un' ov' rd' ∧ (∀ u, u < 12 → un' u = un u) ∧ (∀ u, u < 12 → ov' u = av u) ∧ (∀ u, u < n → rd' u = rc u) ∧ ∀ c, c < n → rg' c = bs (fun v => bt (rd' v) c) n := by
  obtain ⟨hT, hd, he⟩ := h
  have hT8 : TI n t ab bl up lo := fun k hk => by
    rw [(he k hk).1, (he k hk).2]; exact hT k hk
  obtain ⟨un, av, rc, c1, c2⟩ := weave_spec hT hn ht (-1) wu a1 a2 a3
  obtain ⟨un', ov', rd', rg', d1, d2, d3⟩ := works_spec hT8 hn ht (-1) b1 b2 b3 b4
  have e := WB_un c1 d1
  refine ⟨un, av, rc, un', ov', rd', rg', ?_, ?_, c1, d1, e.1, e.2.1, e.2.2, d2⟩
  · unfold m_X7_woven
    rw [c2]; rfl
  · unfold m_X8_works_
    rw [d3]; rfl
theorem ru_congr {n : Nat} {un rc un' rd : Nat → Int32} (h1 : ∀ u, u < 12 → un' u = un u) (h2 : ∀ u, u < n → rd u = rc u) {u : Nat} (hu : u < 12) : ru n un' rd u = ru n un rc u := by
  unfold ru
  rw [cy_congr h2, h1 u hu]
  have e : orr rd (bt (un u)) n = orr rc (bt (un u)) n := by
    apply b_ext
    intro i hi
    apply Bool.eq_iff_iff.mpr
    rw [bt_orr, bt_orr]
    constructor
    · rintro ⟨w, q1, q2, q3⟩; exact ⟨w, q1, q2, by rw [← h2 w q1]; exact q3⟩
    · rintro ⟨w, q1, q2, q3⟩; exact ⟨w, q1, q2, by rw [h2 w q1]; exact q3⟩
  rw [e]
theorem dug7 {n d : Nat} (hn : n ≤ 12) {dr dg : Nat → Int32} {dn : Nat → Nat} (h : RDg n d dr dg dn) : ∃ z, m_X2_dugUnits (nI d) dr = some z ∧ m_X8_dugSet dg (nI d) = some z ∧ ∀ v, v < 32 → (bt z v = true ↔ ∃ k, k < d ∧ dn k = v) := by
  have hd := RDg_le h
  have step : ∀ (j : Nat) (s : Int32), j < d → (∀ v, v < 32 → (bt s v = true ↔ ∃ k, k < j ∧ dn k = v)) → ∀ v, v < 32 → (bt (s ||| ((1 : Int32) <<< (nI (dn j) &&& 31))) v = true ↔ ∃ k, k < j + 1 ∧ dn k = v) := by
    intro j s hj hs v hv
    have := (h.1 j hj).2.2
    rw [b_or, b_sh (by omega) hv, Bool.or_eq_true, hs v hv, decide_eq_true_eq]
    constructor
    · rintro (⟨k, q1, q2⟩ | rfl)
      · exact ⟨k, by omega, q2⟩
      · exact ⟨j, by omega, rfl⟩
    · rintro ⟨k, q1, q2⟩
      by_cases hq : k = j
      · subst hq; exact Or.inr q2.symm
      · exact Or.inl ⟨k, by omega, q2⟩
  obtain ⟨z, h1, h2⟩ := lpx (fun f i (a : Int32) => m_X2_dugUnits_L4 (nI d) dr f a i (fun x1_4 x2_4 => some x1_4)) (fun a => some a) d (fun j s => ∀ v, v < 32 → (bt s v = true ↔ ∃ k, k < j ∧ dn k = v))
    (fun f j s hj hs => ⟨_, by simp (disch := omega) only [m_X2_dugUnits_L4, n_le, Nat.not_le.mpr hj, if_false, ag_n, nI_1, lt_e, (h.1 j hj).1], step j s hj hs⟩)
    (fun f a _ => by simp (disch := omega) only [m_X2_dugUnits_L4, n_le, Nat.le_refl, if_true]) 0 0 (by omega) (by omega) (fun v hv => by
      rw [b_0]
      constructor
      · intro q; cases q
      · rintro ⟨k, q, -⟩; omega)
  obtain ⟨y, h3, h4⟩ := lpx (fun f i (a : Int32) => m_X8_dugSet_L4 (nI d) dg f a i (fun x1_4 x2_4 => some x1_4)) (fun a => some a) d (fun j s => ∀ v, v < 32 → (bt s v = true ↔ ∃ k, k < j ∧ dn k = v))
    (fun f j s hj hs => ⟨_, by simp (disch := omega) only [m_X8_dugSet_L4, n_le, Nat.not_le.mpr hj, if_false, ag_n, nI_1, lt_e, (h.1 j hj).2.1, (h.1 j hj).1], step j s hj hs⟩)
    (fun f a _ => by simp (disch := omega) only [m_X8_dugSet_L4, n_le, Nat.le_refl, if_true]) 0 0 (by omega) (by omega) (fun v hv => by
      rw [b_0]
      constructor
      · intro q; cases q
      · rintro ⟨k, q, -⟩; omega)
  have e : y = z := b_ext (fun v hv => Bool.eq_iff_iff.mpr ((h3 v hv).trans (h1 v hv).symm))
  subst e
  exact ⟨y, h2, h4, h1⟩
