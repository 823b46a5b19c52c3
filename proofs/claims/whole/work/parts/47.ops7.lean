/-! ===== digs and orders ===== -/
theorem RDg_add {n d : Nat} {dr dg : Nat → Int32} {dn : Nat → Nat} (h : RDg n d dr dg dn) {u : Nat} (hu : u < n) (hno : ∀ k, k < d → dn k ≠ u) : RDg n (d + 1) (upd dr d (nI u)) (upd dg d (nI u)) (fun k => if k = d then u else dn k) := by
  refine ⟨fun k hk => ?_, fun i j hi hj q => ?_⟩
  · by_cases c : k = d
    · subst c; simp only [upd_s, if_true]; exact ⟨trivial, trivial, hu⟩
    · simp only [upd_n c, if_neg c]; exact h.1 k (by omega)
  · simp only at q
    by_cases c1 : i = d
    · by_cases c2 : j = d
      · omega
      · rw [if_pos c1, if_neg c2] at q
        exact (hno j (by omega) q.symm).elim
    · by_cases c2 : j = d
      · rw [if_neg c1, if_pos c2] at q
        exact (hno i (by omega) q).elim
      · rw [if_neg c1, if_neg c2] at q
        exact h.2 i j (by omega) (by omega) q
theorem add_dug {n d : Nat} (hn : n ≤ 12) {dr dg : Nat → Int32} {dn : Nat → Nat} (h : RDg n d dr dg dn) {u : Nat} (hu : u < n) {z : Int32} (z3 : m_X2_isDug (nI d) dr (nI u) = some (if bt z u = true then 1 else 0)) (z4 : ∀ v, v < 32 → (bt z v = true ↔ ∃ k, k < d ∧ dn k = v)) : (bt z u = true ∧ m_X2_addDug (nI d) dr (nI u) = some (nI d, dr)) ∨ (¬ bt z u = true ∧ d < 12 ∧ m_X2_addDug (nI d) dr (nI u) = some (nI (d + 1), upd dr d (nI u)) ∧ RDg n (d + 1) (upd dr d (nI u)) (upd dg d (nI u)) (fun k => if k = d then u else dn k)) := by
  unfold m_X2_addDug
  by_cases hb : bt z u = true
  · left
    refine ⟨hb, ?_⟩
    by_cases c : (12 : Int32) ≤ nI d
    · rw [if_pos c]
    · rw [if_neg c, z3, cl_s, if_c, if_pos hb]
  · right
    have hno : ∀ k, k < d → dn k ≠ u := fun k hk q => hb ((z4 u (by omega)).mpr ⟨k, hk, q⟩)
    have h2 := RDg_add h hu hno
    have hd := RDg_le h2
    have c : ¬ (12 : Int32) ≤ nI d := by rw [l_le (k := 12) (by omega) (by omega)]; omega
    refine ⟨hb, by omega, ?_, h2⟩
    rw [if_neg c, z3, cl_s, if_c, if_neg hb, au_n (by omega) (by omega), nI_1]
theorem o_dig {n t d : Nat} (hn : n ≤ 12) (ht : t ≤ 40) {upr lwr ab bl dr dg : Nat → Int32} {up lo dn : Nat → Nat} (h : RTi n t upr lwr ab bl up lo) (hd : RDg n d dr dg dn) (wu : Int32) (w1 w2 w3 v1 v2 v3 v4 : Nat → Int32) (a1 : Int32) : ∃ r7 r8 d2 dn2, m_X7_dig (nI n) (nI t) (nI d) upr lwr dr wu w1 w2 w3 a1 = some r7 ∧ m_X8_dig (nI n) (nI t) ab bl dg (nI d) v1 v2 v3 v4 a1 = some r8 ∧ r7.2.2.2.2.2.2 = r8.2.2.2.2.2.2 ∧ r7.1 = nI d2 ∧ r8.2.1 = nI d2 ∧ RDg n d2 r7.2.1 r8.1 dn2 := by
  obtain ⟨un, av, rc, un', ov', rd', rg', k1, k2, k3, k4, k5, k6, k7, k8⟩ := webs hn ht h wu w1 w2 w3 v1 v2 v3 v4
  unfold m_X7_dig m_X8_dig
  rcases unit_cases hn a1 with ⟨h1, h2⟩ | ⟨u, hu, rfl, h1, h2⟩
  · rw [h1, h2]; exact ⟨_, _, d, dn, rfl, rfl, rfl, rfl, rfl, hd⟩
  have hu12 : u < 12 := by omega
  obtain ⟨z, z1, z2, z3, z4⟩ := isdug7 hn hd (u := u) (by omega)
  have hz8 := hb8 z (u := u) (by omega)
  rw [h1, h2, cl_s, cl_s, if_10, if_10]
  simp only [z3, k2, k1, z2, hz8, cl_s, if_c]
  by_cases hb : bt z u = true
  · rw [if_pos hb, if_pos hb]; exact ⟨_, _, d, dn, rfl, rfl, rfl, rfl, rfl, hd⟩
  rw [if_neg hb, if_neg hb]
  have hav : ov' u = av u := k6 u hu12
  have ea : ∀ {β : Type} (f : Nat → Int32) (k : Int32 → Option β), ag f 12 (nI u) k = k (f u) := fun f k => ag_n hu12 (by omega)
  simp only [ea, z1, cl_s, hav]
  by_cases c : (av u &&& (z ^^^ (-1))) = 0
  · rw [if_pos c, if_pos c]
    rcases add_dug hn hd hu z3 z4 with ⟨q, -⟩ | ⟨-, q1, q2, q3⟩
    · exact absurd q hb
    · rw [q2, cl_s, au_n q1 (by omega)]
      exact ⟨_, _, d + 1, _, rfl, rfl, (congrArg (fun x => x) (nI_1 d)).symm, rfl, nI_1 d, q3⟩
  · rw [if_neg c, if_neg c]
    exact ⟨_, _, d, dn, rfl, rfl, rfl, rfl, rfl, hd⟩
theorem o_lay {n d : Nat} (hn : n ≤ 12) {dr dg : Nat → Int32} {dn : Nat → Nat} (hd : RDg n d dr dg dn) : ∃ r7 r8 d2 dn2, m_X7_lay (nI d) dr = some r7 ∧ m_X8_lay dg (nI d) = some r8 ∧ r7.2 = r8.2 ∧ r7.1 = nI d2 ∧ r8.1 = nI d2 ∧ RDg n d2 dr dg dn2 := by
  have hdn := RDg_le hd
  unfold m_X7_lay m_X8_lay
  by_cases c : d = 0
  · subst c
    rw [if_pos (show nI 0 = 0 from rfl), if_pos (show nI 0 = 0 from rfl)]
    exact ⟨_, _, 0, dn, rfl, rfl, rfl, rfl, rfl, hd⟩
  · have c1 : ¬ nI d = 0 := by rw [eq_l (k := 0) (by omega) (by omega)]; exact c
    rw [if_neg c1, if_neg c1, n_sub1 (by omega), ag_n (by omega) (by omega), ag_n (by omega) (by omega)]
    exact ⟨_, _, d - 1, dn, rfl, rfl, ((hd.1 (d - 1) (by omega)).2.1).symm, rfl, rfl, fun k hk => hd.1 k (by omega), fun i j hi hj => hd.2 i j (by omega) (by omega)⟩
theorem o_dug {n d : Nat} (hn : n ≤ 12) {dr dg : Nat → Int32} {dn : Nat → Nat} (hd : RDg n d dr dg dn) (a1 : Int32) : ∃ r7 r8, m_X7_dug (nI d) dr a1 = some r7 ∧ m_X8_dug dg (nI d) a1 = some r8 ∧ r7 = r8 := by
  have hdn := RDg_le hd
  unfold m_X7_dug m_X8_dug
  by_cases c : 0 ≤ a1
  · rw [if_pos c, if_pos c]
    rcases pk_ix a1 (n := d) (by omega) with q | q | ⟨j, hj, rfl⟩
    · exfalso
      rw [Int32.lt_iff_toInt_lt] at q
      rw [Int32.le_iff_toInt_le] at c
      omega
    · rw [if_pos q, if_pos q]; exact ⟨_, _, rfl, rfl, rfl⟩
    · have c2 : ¬ nI d ≤ nI j := by rw [n_le (by omega) (by omega)]; omega
      rw [if_neg c2, if_neg c2, ag_n (by omega) (by omega), ag_n (by omega) (by omega)]
      exact ⟨_, _, rfl, rfl, (hd.1 j hj).2.1.symm⟩
  · rw [if_neg c, if_neg c]; exact ⟨_, _, rfl, rfl, rfl⟩
theorem free_cnt {n : Nat} : ∀ (d : Nat) (dn : Nat → Nat), (∀ k, k < d → dn k < n) → (∀ i j, i < d → j < d → dn i = dn j → i = j) → ∀ p : Nat → Bool, (∀ v, v < n → (p v = true ↔ ¬ ∃ k, k < d ∧ dn k = v)) → cn p n + d = n
  | 0, dn, _, _, p, hp => by
    rw [cn_congr (q := fun _ => true) (fun v hv => (hp v hv).mpr (fun ⟨k, hk, _⟩ => absurd hk (Nat.not_lt_zero k))), cn_all]; rfl
  | d + 1, dn, h1, h2, p, hp => by
    have ih := free_cnt d dn (fun k hk => h1 k (by omega)) (fun i j hi hj => h2 i j (by omega) (by omega)) (fun v => p v || decide (v = dn d)) (fun v hv => by
      show (p v || decide (v = dn d)) = true ↔ _
      rw [Bool.or_eq_true, hp v hv, decide_eq_true_eq]
      constructor
      · rintro (q | rfl)
        · rintro ⟨k, k1, k2⟩; exact q ⟨k, by omega, k2⟩
        · rintro ⟨k, k1, k2⟩; exact absurd (h2 k d (by omega) (by omega) k2) (by omega)
      · intro q
        by_cases c : v = dn d
        · exact Or.inr c
        · refine Or.inl ?_
          rintro ⟨k, k1, k2⟩
          by_cases c2 : k = d
          · subst c2; exact c k2.symm
          · exact q ⟨k, by omega, k2⟩)
    have hpd : p (dn d) = false := tt_of (fun q => (hp (dn d) (h1 d (by omega))).mp q ⟨d, by omega, rfl⟩)
    have := cn_add (p := p) (q := fun v => p v || decide (v = dn d)) (b := dn d) (c := true) (n := n) (h1 d (by omega)) hpd (fun v hv => by simp)
    rw [if_pos rfl] at this
    omega
theorem law_both {n t d : Nat} (hn : n ≤ 12) (ht : t ≤ 40) {upr lwr ab bl dr dg : Nat → Int32} {up lo dn : Nat → Nat} (h : RTi n t upr lwr ab bl up lo) (hd : RDg n d dr dg dn) (wu : Int32) (w1 w2 w3 v1 v2 v3 v4 : Nat → Int32) (tb : Nat → Int64) (bk : Nat → Int32) (left : Int32) (hw : WYS tb bk left) (ways : Nat → Int64) : ∃ un av rc tb' bk' left' un' ov' rd' rg' z ways' A, m_X7_lawfulOrders wu w1 w2 w3 tb bk left (nI n) (nI t) (nI d) upr lwr dr = some (nI n, un, av, rc, tb', bk', left', A) ∧ m_X8_works_ (nI n) (nI t) ab bl v1 v2 v3 v4 = some (un', ov', rd', rg') ∧ m_X8_dugSet dg (nI d) = some z ∧ m_X8_ordersFrom (nI n) ov' rd' ways z = some (ways', A) ∧ WYS tb' bk' left' ∧ (A = 0 ∨ ∃ c, A = lN c ∧ c ≤ 479001600 ∧ tb' (tN left') = lN c ∧ z = cmp n left' ∧ (∀ i, i < 32 → bt left' i = true → i < n) ∧ (∀ u, u < 12 → bk' u = hld ov' left' u) ∧ (∀ u, u < n → ∀ i, i < 32 → bt (ov' u) i = true → i < n) ∧ TB bk' left' tb' ∧ WT n ov' ways' ∧ cn (bt left') 12 + d = n) := by
  obtain ⟨un, av, rc, un', ov', rd', rg', k1, k2, k3, k4, k5, k6, k7, k8⟩ := webs hn ht h wu w1 w2 w3 v1 v2 v3 v4
  obtain ⟨z, z1, z2, z3⟩ := dug7 hn hd
  have hcy := cy_congr (n := n) (rc := rc) (rd := rd') k7
  have k1' : m_X5_weave wu w1 w2 w3 (nI n) (nI t) upr lwr (-1) = some (nI n, un, av, rc) := by
    obtain ⟨un2, av2, rc2, c1, c2⟩ := weave_spec h.1 hn ht (-1) wu w1 w2 w3
    unfold m_X7_woven at k1
    rw [c2] at k1 ⊢
    exact k1
  unfold m_X7_lawfulOrders m_X8_ordersFrom
  cases hc : cy n rc with
  | true =>
    refine ⟨un, av, rc, tb, bk, left, un', ov', rd', rg', z, ways, 0, ?_, k2, z2, ?_, hw, Or.inl rfl⟩
    · rw [k1', cl_s]
      simp only [cyc7 hn, cl_s, if_c, if_pos hc, if_10]
    · have hc2 : cy n rd' = true := hcy.trans hc
      rw [cyc8 hn, cl_s, if_c, if_pos hc2]
  | false =>
    have hcf : ¬ cy n rc = true := by rw [hc]; exact Bool.false_ne_true
    have hcf2 : ¬ cy n rd' = true := by rw [hcy, hc]; exact Bool.false_ne_true
    have hl : bs (fun _ => true) n &&& (z ^^^ (-1)) = cmp n z := rfl
    have hln : ∀ i, i < 32 → bt (cmp n z) i = true → i < n := cmp_in hn z
    have hlo : LO (cmp n z) := fun i h1 h2 => by
      cases hq : bt (cmp n z) i with
      | false => rfl
      | true => exact absurd (hln i h2 hq) (by omega)
    obtain ⟨tb', bk', n1, n2, n3⟩ := num7 tb bk av hw hlo
    obtain ⟨ways', m1, m2⟩ := cnt8 hn ov' ways
    have hzn : ∀ i, i < 32 → bt z i = true → i < n := fun i hi q => by
      obtain ⟨k, q1, q2⟩ := (z3 i hi).mp q
      rw [← q2]; exact (hd.1 k q1).2.2
    have hcc : z = cmp n (cmp n z) := b_ext (fun i hi => by
      rw [bt_cmp hn _ hi, bt_cmp hn _ hi]
      cases hq : bt z i with
      | false => simp
      | true => simp [hzn i hi hq])
    have hzlo : LO z := fun i h1 h2 => by
      cases hq : bt z i with
      | false => rfl
      | true => exact absurd (hzn i h2 hq) (by omega)
    have hab : ∀ u, u < n → ∀ i, i < 32 → bt (ov' u) i = true → i < n := fun u hu i hi q => (Ed_in h.1 _ _ ((k3.2.1 u i (by omega) hi).mp (by rw [← k6 u (by omega)]; exact q))).1
    have hbl : ∀ u, u < 12 → bk' u = hld ov' (cmp n z) u := fun u hu => by
      rw [n2 u hu]; unfold hld; rw [k6 u hu]
    obtain ⟨c, c1, c2⟩ := ways_num hlo n1 _ (cmp n z) rfl (fun i _ q => q)
    have hts := tab_same hn hln hbl hab n1 m1 _ (cmp n z) rfl (fun i _ q => q)
    rw [← hcc] at hts
    have hcn : cn (bt (cmp n z)) 12 ≤ 12 := cn_le _ 12
    refine ⟨un, av, rc, tb', bk', cmp n z, un', ov', rd', rg', z, ways', tb' (tN (cmp n z)), ?_, k2, z2, ?_, Or.inr ⟨hlo, n1⟩, Or.inr ⟨c, c2, ?_, c2, hcc, hln, hbl, hab, n1, m1, ?_⟩⟩
    · rw [k1', cl_s]
      simp only [cyc7 hn, cl_s, if_c, if_neg hcf, if_true]
      unfold m_X2_allUnits
      rw [cl_s, z1, cl_s, all_sh n hn, hl, n3, cl_s]
    · rw [cyc8 hn, cl_s, if_c, if_neg hcf2, m2, cl_s, ag_s hzlo, hts]
    · exact Nat.le_trans c1 (Nat.le_trans (fc_mono hcn) (Nat.le_of_eq fc12))
    · have e : cmp n z = bs (fun v => !bt z v) n := bs_eq (by omega) (fun v hv => bt_cmp hn z hv)
      rw [e, cn_bs hn]
      exact free_cnt d dn (fun k hk => (hd.1 k hk).2.2) hd.2 _ (fun v hv => by
        rw [Bool.not_eq_true', ← Bool.not_eq_true, z3 v (by omega)])
theorem o_orders {n t d : Nat} (hn : n ≤ 12) (ht : t ≤ 40) {upr lwr ab bl dr dg : Nat → Int32} {up lo dn : Nat → Nat} (h : RTi n t upr lwr ab bl up lo) (hd : RDg n d dr dg dn) (wu : Int32) (w1 w2 w3 v1 v2 v3 v4 : Nat → Int32) (tb : Nat → Int64) (bk : Nat → Int32) (left : Int32) (hw : WYS tb bk left) (ways : Nat → Int64) : ∃ r7 r8, m_X7_orders (nI n) (nI t) (nI d) upr lwr dr wu w1 w2 w3 tb bk left = some r7 ∧ m_X8_orders (nI n) (nI t) ab bl dg (nI d) v1 v2 v3 v4 ways = some r8 ∧ r7.2.2.2.2.2.2.2 = r8.2.2.2.2.2 ∧ WYS r7.2.2.2.2.1 r7.2.2.2.2.2.1 r7.2.2.2.2.2.2.1 := by
  obtain ⟨un, av, rc, tb', bk', left', un', ov', rd', rg', z, ways', A, q1, q2, q3, q4, q5, -⟩ := law_both hn ht h hd wu w1 w2 w3 v1 v2 v3 v4 tb bk left hw ways
  unfold m_X7_orders m_X8_orders
  rw [q1, q2, q3]
  simp only [cl_s, q4]
  exact ⟨_, _, rfl, rfl, rfl, q5⟩
theorem n_subn {n d : Nat} (h : d ≤ n) : nI n - nI d = nI (n - d) := by
  have : nI n = nI (n - d) + nI d := by rw [nI_add]; congr 1; omega
  rw [this, Int32.add_sub_cancel]
theorem lt_cases {N : Nat} (hN : N < 100000) (a : Int32) : (m_X8_in a 0 (nI N - 1) = some 0 ∧ (a < 0 ∨ ¬ a < nI N)) ∨ ∃ j, j < N ∧ a = nI j ∧ ¬ a < 0 ∧ a < nI N ∧ m_X8_in a 0 (nI N - 1) = some 1 := by
  unfold m_X8_in
  rcases pk_ix a (n := N) (by omega) with q | q | ⟨j, hj, rfl⟩
  · left; rw [if_pos q]; exact ⟨rfl, Or.inl q⟩
  · left
    have h0 : ¬ a < 0 := fun c => by
      rw [Int32.lt_iff_toInt_lt] at c
      rw [Int32.le_iff_toInt_le, nI_toInt (by omega)] at q
      have : (0 : Int32).toInt = 0 := rfl
      omega
    have h1 : nI N - 1 < a := by
      rw [Int32.lt_iff_toInt_lt]
      rw [Int32.le_iff_toInt_le, nI_toInt (by omega)] at q
      by_cases hn0 : N = 0
      · subst hn0
        have : (nI 0 - 1).toInt = -1 := by decide
        omega
      · rw [n_sub1 (by omega), nI_toInt (by omega)]
        omega
    rw [if_neg h0, if_pos h1]
    refine ⟨rfl, Or.inr (fun c => ?_)⟩
    rw [Int32.lt_iff_toInt_lt] at c
    rw [Int32.le_iff_toInt_le] at q
    omega
  · right
    have h0 : ¬ nI j < 0 := by rw [lt_l (k := 0) (by omega) (by omega)]; omega
    have h2 : ¬ nI N - 1 < nI j := by rw [n_sub1 (by omega), n_lt (by omega) (by omega)]; omega
    rw [if_neg h0, if_neg h2]
    exact ⟨j, hj, rfl, h0, by rw [n_lt (by omega) (by omega)]; exact hj, rfl⟩
theorem o_order {n t d : Nat} (hn : n ≤ 12) (ht : t ≤ 40) {upr lwr ab bl dr dg : Nat → Int32} {up lo dn : Nat → Nat} (h : RTi n t upr lwr ab bl up lo) (hd : RDg n d dr dg dn) (wu : Int32) (w1 w2 w3 v1 v2 v3 v4 : Nat → Int32) (tb : Nat → Int64) (bk : Nat → Int32) (left : Int32) (hw : WYS tb bk left) (ways : Nat → Int64) (a1 : Int64) (a2 : Int32) : ∃ r7 r8, m_X7_order (nI n) (nI t) (nI d) upr lwr dr wu w1 w2 w3 tb bk left a1 a2 = some r7 ∧ m_X8_order (nI n) (nI t) ab bl dg (nI d) v1 v2 v3 v4 ways a1 a2 = some r8 ∧ r7.2.2.2.2.2.2.2 = r8.2.2.2.2.2 ∧ WYS r7.2.2.2.2.1 r7.2.2.2.2.2.1 r7.2.2.2.2.2.2.1 := by
  obtain ⟨un, av, rc, tb', bk', left', un', ov', rd', rg', z, ways', A, q1, q2, q3, q4, q5, q6⟩ := law_both hn ht h hd wu w1 w2 w3 v1 v2 v3 v4 tb bk left hw ways
  have hdn := RDg_le hd
  unfold m_X7_order m_X8_order
  rw [q2, cl_s, q3, cl_s]
  by_cases c : lg_cmp a1 0 < 0
  · rw [if_pos c, if_pos c]; exact ⟨_, _, rfl, rfl, rfl, hw⟩
  rw [if_neg c, if_neg c, q1, cl_s]
  simp only [q4, cl_s]
  by_cases c1 : 0 ≤ lg_cmp a1 A
  · rw [if_pos c1, if_pos c1]; exact ⟨_, _, rfl, rfl, rfl, q5⟩
  rw [if_neg c1, if_neg c1, n_subn hdn]
  rcases q6 with rfl | ⟨C, e1, e2, e3, e4, e5, e6, e7, e8, e9, e10⟩
  · exfalso
    rw [lg_cmp_lt] at c
    rw [lg_cmp_ge] at c1
    rw [Int64.lt_iff_toInt_lt] at c
    rw [Int64.le_iff_toInt_le] at c1
    omega
  rcases lt_cases (N := n - d) (by omega) a2 with ⟨b1, b2⟩ | ⟨I, hI, rfl, b1, b2, b3⟩
  · rw [b1, cl_s, if_00]
    by_cases b3 : a2 < 0
    · rw [if_pos b3]; exact ⟨_, _, rfl, rfl, rfl, q5⟩
    · rw [if_neg b3, if_neg (b2.resolve_left b3)]; exact ⟨_, _, rfl, rfl, rfl, q5⟩
  rw [b3, cl_s, if_10, if_neg b1, if_pos b2]
  rw [lg_cmp_lt] at c
  obtain ⟨x, x1, rfl⟩ := pk_lOf c
  have hx : x < C := by
    rw [lg_cmp_ge, e1, pk_lLE (Nat.lt_of_le_of_lt e2 (by decide)) x1] at c1
    omega
  subst e4
  obtain ⟨r, r1, r2⟩ := ord_both hn e5 e6 e7 e8 (un', ov', rd', rg') (ways', A) (fun u _ => rfl) e9 (I := I) (by omega) (I + 1) 0 FU FU left' x C (-1) (by omega) (by show I + 1 < 5000; omega) (by show I + 1 < 5000; omega) (fun i _ q => q) (by omega) e3 e2 hx
  have r1 : m_X4_unitOfOrder tb' bk' left' (lN x) (nI I) = some r := r1
  have r2 : m_X8_order_L57 (nI n) (nI I) (un', ov', rd', rg') (ways', A) FU (cmp n left') (lN x) (-1) 0 (fun x4_57 x5_57 x7_57 x8_57 => some (un', ov', rd', rg', ways', x7_57)) = some (un', ov', rd', rg', ways', r) := r2
  rw [r1, cl_s, r2]
  exact ⟨_, _, rfl, rfl, rfl, q5⟩
