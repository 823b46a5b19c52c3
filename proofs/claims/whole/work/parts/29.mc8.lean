/-! ===== the reference's shown cycle: by distances ===== -/
/-- distances so far: real ones, and none too great for walks of at most r steps -/
def FA (E : Nat → Nat → Prop) (n f0 : Nat) (g : Nat → Nat) : Prop := ∀ u, u < n → 1 ≤ g u ∧ g u ≤ 99 ∧ (g u < 99 → WK E (g u) u f0)
def FB (E : Nat → Nat → Prop) (n f0 r : Nat) (g : Nat → Nat) : Prop := ∀ u, u < n → ∀ k, 1 ≤ k → k ≤ r → WK E k u f0 → g u ≤ k
theorem sh_17 {n t : Nat} {up lo : Nat → Nat} {b : Int32} {un ab rc : Nat → Int32} (hn : n ≤ 12) (hW : WB n t up lo b un ab rc) {f0 : Nat} (hf : f0 < n) (far : Nat → Int32) (k : Int32 → (Nat → Int32) → Option ((Nat → Int32) × (Nat → Int32) × Int32)) : ∃ far' g, FA (Ed t up lo b) n f0 g ∧ FB (Ed t up lo b) n f0 1 g ∧ (∀ u, u < n → far' u = nI (g u)) ∧ m_X8_shows_L17 (nI n) un (nI f0) FU 0 far k = k (nI n) far' := by
  obtain ⟨s, h1, h2⟩ := lpx (fun f i (s : Nat → Int32) => m_X8_shows_L17 (nI n) un (nI f0) f i s k) (fun s => k (nI n) s) n (fun j s => ∀ u, u < j → s u = nI (if bt (un u) f0 = true then 1 else 99))
    (fun f j s hj h => by
      by_cases hb : bt (un j) f0 = true
      · refine ⟨upd s j 1, by simp (disch := omega) only [m_X8_shows_L17, n_le, Nat.not_le.mpr hj, if_false, ag_n, nI_1, hb8, cl_s, if_c, if_10, if_00, if_true, Bool.false_eq_true, if_pos hb, au_n], fun u hu => ?_⟩
        by_cases hq : u = j
        · subst hq; rw [upd_s, if_pos hb]; rfl
        · rw [upd_n hq]; exact h u (by omega)
      · refine ⟨upd s j 99, by simp (disch := omega) only [m_X8_shows_L17, n_le, Nat.not_le.mpr hj, if_false, ag_n, nI_1, hb8, cl_s, if_c, if_10, if_00, if_true, Bool.false_eq_true, if_neg hb, au_n], fun u hu => ?_⟩
        by_cases hq : u = j
        · subst hq; rw [upd_s, if_neg hb]; rfl
        · rw [upd_n hq]; exact h u (by omega))
    (fun f s _ => by simp (disch := omega) only [m_X8_shows_L17, n_le, Nat.le_refl, if_true]) 0 far (by omega) (by omega) (fun u hu => by omega)
  refine ⟨s, fun u => if bt (un u) f0 = true then 1 else 99, fun u hu => ?_, fun u hu k hk1 hk2 hw => ?_, h1, h2⟩
  · by_cases hb : bt (un u) f0 = true
    · simp only [if_pos hb]
      exact ⟨by omega, by omega, fun _ => ⟨f0, (hW.1 u f0 (by omega) (by omega)).mp hb, rfl⟩⟩
    · simp only [if_neg hb]
      exact ⟨by omega, by omega, fun q => by omega⟩
  · have : k = 1 := by omega
    subst this
    obtain ⟨w, e, hw2⟩ := hw
    have hw2 : w = f0 := hw2
    subst hw2
    simp only [if_pos ((hW.1 u w (by omega) (by omega)).mpr e)]
    omega
/-- within one turn: distances only fall; u's row is done up to v -/
def FC (E : Nat → Nat → Prop) (n f0 u v : Nat) (g0 g : Nat → Nat) : Prop := FA E n f0 g ∧ (∀ x, x < n → g x ≤ g0 x) ∧ ∀ x y, x < n → E x y → (x < u ∨ (x = u ∧ y < v)) → g x ≤ g0 y + 1
theorem sh_79 {n t : Nat} {up lo : Nat → Nat} {b : Int32} {un ab rc : Nat → Int32} (hn : n ≤ 12) (hE : ∀ u v, Ed t up lo b u v → u < n ∧ v < n) (hW : WB n t up lo b un ab rc) {f0 u : Nat} (hf : f0 < n) (hu : u < n) {g0 : Nat → Nat} (far : Nat → Int32) (h0 : ∃ g, FC (Ed t up lo b) n f0 u 0 g0 g ∧ ∀ x, x < n → far x = nI (g x)) (k : Int32 → (Nat → Int32) → Option ((Nat → Int32) × (Nat → Int32) × Int32)) : ∃ far', (∃ g, FC (Ed t up lo b) n f0 (u + 1) 0 g0 g ∧ ∀ x, x < n → far' x = nI (g x)) ∧ m_X8_shows_L79 (nI n) un (nI u) FU 0 far k = k (nI n) far' := by
  obtain ⟨s, h1, h2⟩ := lpx (fun f i (s : Nat → Int32) => m_X8_shows_L79 (nI n) un (nI u) f i s k) (fun s => k (nI n) s) n (fun j s => ∃ g, FC (Ed t up lo b) n f0 u j g0 g ∧ ∀ x, x < n → s x = nI (g x))
    (fun f j s hj h => by
      obtain ⟨g, ⟨ha, hle, hd⟩, hs⟩ := h
      have hau := ha u hu
      have haj := ha j hj
      -- the value that is written
      have hput : ∀ y, y ≤ g u → (bt (un u) j = true → y ≤ g j + 1) → (y = g u ∨ (bt (un u) j = true ∧ y = g j + 1 ∧ y < g u)) → FC (Ed t up lo b) n f0 u (j + 1) g0 (fun x => if x = u then y else g x) := by
        intro y hy1 hy2 hy3
        refine ⟨fun x hx => ?_, fun x hx => ?_, fun x z hx he hc => ?_⟩
        · by_cases hq : x = u
          · subst hq
            simp only [if_true]
            rcases hy3 with q | ⟨q1, q2, q3⟩
            · subst q; exact hau
            · refine ⟨by omega, by omega, fun _ => ?_⟩
              subst q2
              have e := (hW.1 x j (by omega) (by omega)).mp q1
              exact ⟨j, e, haj.2.2 (by omega)⟩
          · simp only [if_neg hq]; exact ha x hx
        · by_cases hq : x = u
          · subst hq
            simp only [if_true]
            have := hle x hx
            omega
          · simp only [if_neg hq]; exact hle x hx
        · by_cases hq : x = u
          · subst hq
            simp only [if_true]
            by_cases hz : z = j
            · subst hz
              have e := (hW.1 x z (by omega) (by omega)).mpr he
              have := hy2 e
              have := hle z hj
              omega
            · have := hd x z hx he (by omega)
              omega
          · simp only [if_neg hq]
            exact hd x z hx he (by omega)
      by_cases hb : bt (un u) j = true
      · by_cases hc : g u ≤ g j + 1
        · refine ⟨upd s u (nI (g u)), by simp (disch := omega) only [m_X8_shows_L79, n_le, Nat.not_le.mpr hj, if_false, ag_n, nI_1, hb8, cl_s, if_c, if_10, if_00, if_true, Bool.false_eq_true, if_pos hb, au_n, hs u hu, hs j hj, if_pos hc], fun x => if x = u then g u else g x, hput (g u) (Nat.le_refl _) (fun _ => hc) (Or.inl rfl), fun x hx => ?_⟩
          by_cases hq : x = u
          · subst hq; simp only [upd_s, if_true]
          · simp only [upd_n hq, if_neg hq]; exact hs x hx
        · refine ⟨upd s u (nI (g j + 1)), by simp (disch := omega) only [m_X8_shows_L79, n_le, Nat.not_le.mpr hj, if_false, ag_n, nI_1, hb8, cl_s, if_c, if_10, if_00, if_true, Bool.false_eq_true, if_pos hb, au_n, hs u hu, hs j hj, if_neg hc], fun x => if x = u then g j + 1 else g x, hput (g j + 1) (by omega) (fun _ => Nat.le_refl _) (Or.inr ⟨hb, rfl, by omega⟩), fun x hx => ?_⟩
          by_cases hq : x = u
          · subst hq; simp only [upd_s, if_true]
          · simp only [upd_n hq, if_neg hq]; exact hs x hx
      · refine ⟨upd s u (nI (g u)), by simp (disch := omega) only [m_X8_shows_L79, n_le, Nat.not_le.mpr hj, if_false, ag_n, nI_1, hb8, cl_s, if_c, if_10, if_00, if_true, Bool.false_eq_true, if_neg hb, au_n, hs u hu], fun x => if x = u then g u else g x, hput (g u) (Nat.le_refl _) (fun q => absurd q hb) (Or.inl rfl), fun x hx => ?_⟩
        by_cases hq : x = u
        · subst hq; simp only [upd_s, if_true]
        · simp only [upd_n hq, if_neg hq]; exact hs x hx)
    (fun f s _ => by simp (disch := omega) only [m_X8_shows_L79, n_le, Nat.le_refl, if_true]) 0 far (by omega) (by omega) h0
  obtain ⟨g, ⟨ha, hle, hd⟩, hs⟩ := h1
  exact ⟨s, ⟨g, ⟨ha, hle, fun x y hx he hc => hd x y hx he (by have := (hE x y he).2; omega)⟩, hs⟩, h2⟩
theorem sh_68 {n t : Nat} {up lo : Nat → Nat} {b : Int32} {un ab rc : Nat → Int32} (hn : n ≤ 12) (hE : ∀ u v, Ed t up lo b u v → u < n ∧ v < n) (hW : WB n t up lo b un ab rc) {f0 r : Nat} (hf : f0 < n) (far : Nat → Int32) (h0 : ∃ g, FA (Ed t up lo b) n f0 g ∧ FB (Ed t up lo b) n f0 (r + 1) g ∧ ∀ x, x < n → far x = nI (g x)) (k : Int32 → (Nat → Int32) → Option ((Nat → Int32) × (Nat → Int32) × Int32)) : ∃ far', (∃ g, FA (Ed t up lo b) n f0 g ∧ FB (Ed t up lo b) n f0 (r + 1 + 1) g ∧ ∀ x, x < n → far' x = nI (g x)) ∧ m_X8_shows_L68 (nI n) un FU 0 far k = k (nI n) far' := by
  obtain ⟨g0, a1, a2, a3⟩ := h0
  obtain ⟨s, h1, h2⟩ := lpx (fun f i (s : Nat → Int32) => m_X8_shows_L68 (nI n) un f i s k) (fun s => k (nI n) s) n (fun j s => ∃ g, FC (Ed t up lo b) n f0 j 0 g0 g ∧ ∀ x, x < n → s x = nI (g x))
    (fun f j s hj h => by
      obtain ⟨r', q1, q2⟩ := sh_79 hn hE hW hf hj s h (fun _ y => m_X8_shows_L68 (nI n) un f (nI j + 1) y k)
      refine ⟨r', ?_, q1⟩
      simp (disch := omega) only [m_X8_shows_L68, n_le, Nat.not_le.mpr hj, if_false]
      rw [q2, nI_1])
    (fun f s _ => by simp (disch := omega) only [m_X8_shows_L68, n_le, Nat.le_refl, if_true]) 0 far (by omega) (by omega) ⟨g0, ⟨a1, fun x _ => Nat.le_refl _, fun x y _ _ q => by omega⟩, a3⟩
  obtain ⟨g, ⟨ha, hle, hd⟩, hs⟩ := h1
  refine ⟨s, ⟨g, ha, fun u hu k hk1 hk2 hw => ?_, hs⟩, h2⟩
  by_cases hk : k = 1
  · subst hk
    have := a2 u hu 1 (by omega) (by omega) hw
    have := hle u hu
    omega
  · obtain ⟨i, rfl⟩ : ∃ i, k = i + 1 := ⟨k - 1, by omega⟩
    obtain ⟨w, e, hw2⟩ := hw
    have b1 := a2 w (hE u w e).2 i (by omega) (by omega) hw2
    have b2 := hd u w hu e (by omega)
    omega
theorem sh_58 {n t : Nat} {up lo : Nat → Nat} {b : Int32} {un ab rc : Nat → Int32} (hn : n ≤ 12) (hE : ∀ u v, Ed t up lo b u v → u < n ∧ v < n) (hW : WB n t up lo b un ab rc) {f0 : Nat} (hf : f0 < n) (far : Nat → Int32) (h0 : ∃ g, FA (Ed t up lo b) n f0 g ∧ FB (Ed t up lo b) n f0 1 g ∧ ∀ x, x < n → far x = nI (g x)) (k : Int32 → (Nat → Int32) → Option ((Nat → Int32) × (Nat → Int32) × Int32)) : ∃ far', (∃ g, FA (Ed t up lo b) n f0 g ∧ FB (Ed t up lo b) n f0 (n + 1) g ∧ ∀ x, x < n → far' x = nI (g x)) ∧ m_X8_shows_L58 (nI n) un FU 0 far k = k (nI n) far' := by
  obtain ⟨s, h1, h2⟩ := lpx (fun f i (s : Nat → Int32) => m_X8_shows_L58 (nI n) un f i s k) (fun s => k (nI n) s) n (fun j s => ∃ g, FA (Ed t up lo b) n f0 g ∧ FB (Ed t up lo b) n f0 (j + 1) g ∧ ∀ x, x < n → s x = nI (g x))
    (fun f j s hj h => by
      obtain ⟨r', q1, q2⟩ := sh_68 (r := j) hn hE hW hf s h (fun _ y => m_X8_shows_L58 (nI n) un f (nI j + 1) y k)
      refine ⟨r', ?_, q1⟩
      simp (disch := omega) only [m_X8_shows_L58, n_le, Nat.not_le.mpr hj, if_false]
      rw [q2, nI_1])
    (fun f s _ => by simp (disch := omega) only [m_X8_shows_L58, n_le, Nat.le_refl, if_true]) 0 far (by omega) (by omega) h0
  exact ⟨s, h1, h2⟩
/-- the least of a kind, looked for from above -/
theorem sh_194 {n : Nat} (hn : n ≤ 12) (un far sh : Nat → Int32) {a ln i : Nat} (hi1 : 1 ≤ i) (hi : i < ln) (hln : ln ≤ 12) (ha : a < 12) (hsh : sh (i - 1) = nI a) (p : Nat → Bool) (hp : ∀ v, v < n → p v = (bt (un a) v && decide (far v = nI (ln - i)))) (k : Int32 → Int32 → Option ((Nat → Int32) × (Nat → Int32) × Int32)) : m_X8_shows_L194 un far (nI ln) (nI i) sh FU (-1) (nI n - 1) k = k (if ff p n < n then nI (ff p n) else -1) (-1) := by
  rw [n_subm]
  obtain ⟨s, h1, h2⟩ := lpd (fun f j (s : Int32) => m_X8_shows_L194 un far (nI ln) (nI i) sh f s j k) (fun s => k s (-1)) n (fun j s => (s = -1 ∧ ∀ v, j ≤ v → v < n → p v = false) ∨ ∃ v, j ≤ v ∧ v < n ∧ p v = true ∧ (∀ w, j ≤ w → w < v → p w = false) ∧ s = nI v)
    (fun f j s hj h => by
      have e1 := n_sub1 (n := i) (by omega)
      have e2 : nI ln - nI i = nI (ln - i) := pk_sub (by omega)
      have hpj := hp j hj
      have hkeep : p j = false → ((s = -1 ∧ ∀ v, j ≤ v → v < n → p v = false) ∨ ∃ v, j ≤ v ∧ v < n ∧ p v = true ∧ (∀ w, j ≤ w → w < v → p w = false) ∧ s = nI v) := by
        intro hf
        rcases h with ⟨q1, q2⟩ | ⟨v, q1, q2, q3, q4, q5⟩
        · refine Or.inl ⟨q1, fun v hv1 hv2 => ?_⟩
          by_cases hq : v = j
          · subst hq; exact hf
          · exact q2 v (by omega) hv2
        · refine Or.inr ⟨v, by omega, q2, q3, fun w hw1 hw2 => ?_, q5⟩
          by_cases hq : w = j
          · subst hq; exact hf
          · exact q4 w (by omega) hw2
      by_cases hb : bt (un a) j = true
      · by_cases hc : far j = nI (ln - i)
        · refine ⟨nI j, by simp (disch := omega) only [m_X8_shows_L194, lt_l (k := 0), Nat.not_lt_zero, if_false, e1, e2, ag_n, hsh, hb8, cl_s, if_c, if_10, if_00, if_true, Bool.false_eq_true, if_pos hb, if_pos hc], Or.inr ⟨j, Nat.le_refl j, hj, by rw [hpj, hb, hc]; simp, fun w h1 h2 => by omega, rfl⟩⟩
        · refine ⟨s, by simp (disch := omega) only [m_X8_shows_L194, lt_l (k := 0), Nat.not_lt_zero, if_false, e1, e2, ag_n, hsh, hb8, cl_s, if_c, if_10, if_00, if_true, Bool.false_eq_true, if_pos hb, if_neg hc], hkeep (by rw [hpj, hb]; simp [hc])⟩
      · refine ⟨s, by simp (disch := omega) only [m_X8_shows_L194, lt_l (k := 0), Nat.not_lt_zero, if_false, e1, e2, ag_n, hsh, hb8, cl_s, if_c, if_10, if_00, if_true, Bool.false_eq_true, if_neg hb], hkeep (by rw [hpj, tt_of hb]; rfl)⟩)
    (fun f s _ => by simp only [m_X8_shows_L194, if_pos m1_0]) (-1) (by omega) (Or.inl ⟨rfl, fun v h1 h2 => by omega⟩)
  have e : s = if ff p n < n then nI (ff p n) else -1 := by
    rcases h1 with ⟨q1, q2⟩ | ⟨v, q1, q2, q3, q4, q5⟩
    · rw [ff_none (p := p) (n := n) (fun i hi => q2 i (by omega) hi), if_neg (by omega)]; exact q1
    · rw [ff_at (p := p) (n := n) q2 (fun i hi => q4 i (by omega) hi) q3, if_pos q2]; exact q5
  rw [← e]
  exact h2
theorem show8 {n t : Nat} {up lo : Nat → Nat} {b : Int32} {un ab rc : Nat → Int32} (hn : n ≤ 12) (hE : ∀ u v, Ed t up lo b u v → u < n ∧ v < n) (hW : WB n t up lo b un ab rc) {f0 ln : Nat} (h0 : ∀ u, u < f0 → ¬ bt (rc u) u = true) (hf : f0 < n) (hff : bt (rc f0) f0 = true) (hl : LN (Ed t up lo b) f0 ln) (hln : ln ≤ n) {x : Nat → Nat} (hx : CP (Ed t up lo b) f0 ln ln x) (sh far : Nat → Int32) : ∃ sh' far', (∀ i, i < ln → sh' i = nI (x i)) ∧ m_X8_shows (nI n) un rc sh far = some (sh', far', nI ln) := by
  have hls := least8 (bs (fun u => bt (rc u) u) n)
  have hat : ff (bt (bs (fun u => bt (rc u) u) n)) 12 = f0 := by
    refine ff_at (by omega) (fun i hi => ?_) (by rw [bt_bs _ (by omega) n (by omega)]; simp [hf, hff])
    rw [bt_bs _ (by omega) n (by omega), tt_of (h0 i hi), Bool.and_false]
  rw [hat, if_pos (by omega)] at hls
  unfold m_X8_shows
  have hm1 : ¬ nI f0 = -1 := by rw [n_m1 (by omega)]; exact id
  rw [round8 hn, cl_s, hls, cl_s, if_neg hm1]
  obtain ⟨far1, g1, a1, a2, a3, a4⟩ := sh_17 hn hW hf far (fun x2_17 y_f_far_17 =>
  m_X8_shows_L58 (nI n) un FU (0 : Int32) y_f_far_17 fun x2_58 y_f_far_58 =>
  ag y_f_far_58 12 (nI f0) fun v_21 =>
  au sh 12 (0 : Int32) (nI f0) fun g_22 =>
  m_X8_shows_L178 (nI n) un y_f_far_58 v_21 FU (1 : Int32) g_22 fun x3_178 y_f_shown_178 =>
  some (y_f_shown_178, y_f_far_58, v_21))
  obtain ⟨far2, ⟨g, b1, b2, b3⟩, b4⟩ := sh_58 hn hE hW hf far1 ⟨g1, a1, a2, a3⟩ (fun x2_58 y_f_far_58 =>
  ag y_f_far_58 12 (nI f0) fun v_21 =>
  au sh 12 (0 : Int32) (nI f0) fun g_22 =>
  m_X8_shows_L178 (nI n) un y_f_far_58 v_21 FU (1 : Int32) g_22 fun x3_178 y_f_shown_178 =>
  some (y_f_shown_178, y_f_far_58, v_21))
  have hg0 : g f0 = ln := by
    have c1 := b2 f0 hf ln hl.1 (by omega) hl.2.1
    have c2 := (b1 f0 hf).2.2 (by omega)
    rcases Nat.lt_trichotomy (g f0) ln with q | q | q
    · exact absurd c2 (hl.2.2 (g f0) (b1 f0 hf).1 q)
    · exact q
    · omega
  have hgs : ∀ v, v < n → ∀ s, 1 ≤ s → s < ln → (g v = s ↔ MD (Ed t up lo b) f0 s v) := by
    intro v hv s hs1 hs2
    have c0 := b1 v hv
    constructor
    · intro e
      subst e
      have hw := c0.2.2 (by omega)
      refine ⟨hw, fun k hk hw2 => ?_⟩
      by_cases hk0 : k = 0
      · subst hk0
        have hw2 : v = f0 := hw2
        subst hw2
        omega
      · have := b2 v hv k (by omega) (by omega) hw2
        omega
    · rintro ⟨hw, hm⟩
      have c1 := b2 v hv s hs1 (by omega) hw
      rcases Nat.lt_trichotomy (g v) s with q | q | q
      · exact absurd (c0.2.2 (by omega)) (hm (g v) q)
      · exact q
      · omega
  rw [a4, b4, ag_n (by omega) (by omega), b3 f0 hf, hg0, au_l (j := 0) (by omega) (by omega)]
  obtain ⟨s, ⟨h3, h4⟩, h2⟩ := lpx (fun f i (s : Nat → Int32) => m_X8_shows_L178 (nI n) un far2 (nI ln) f i s (fun x3_178 y_f_shown_178 => some (y_f_shown_178, far2, nI ln))) (fun s => some (s, far2, nI ln)) ln
    (fun j s => 1 ≤ j ∧ ∀ i, i < j → s i = nI (x i))
    (fun f j s hj h => by
      obtain ⟨hj1, h1⟩ := h
      obtain ⟨⟨c1, c2⟩, c3⟩ := hx.2 j hj1 hj
      have hxa := (hE _ _ c1).1
      have hxb := (hE _ _ c1).2
      have hpv : ∀ v, v < n → ((bt (un (x (j - 1))) v && decide (far2 v = nI (ln - j))) = true ↔ Ed t up lo b (x (j - 1)) v ∧ MD (Ed t up lo b) f0 (ln - j) v) := by
        intro v hv
        rw [Bool.and_eq_true, decide_eq_true_eq, hW.1 _ v (by omega) (by omega), b3 v hv, n_eq (by have := (b1 v hv).2.1; omega) (by omega), hgs v hv (ln - j) (by omega) (by omega)]
      have hk := sh_194 hn un far2 s (a := x (j - 1)) hj1 hj (by omega) (by omega) (h1 (j - 1) (by omega)) (fun v => bt (un (x (j - 1))) v && decide (far2 v = nI (ln - j))) (fun v _ => rfl) (fun x4_194 x5_194 =>
    au s 12 (nI j) x4_194 fun g_28 =>
    m_X8_shows_L178 (nI n) un far2 (nI ln) f (nI j + (1 : Int32)) g_28 (fun x3_178 y_f_shown_178 => some (y_f_shown_178, far2, nI ln)))
      have hfe : ff (fun v => bt (un (x (j - 1))) v && decide (far2 v = nI (ln - j))) n = x j := by
        refine ff_at hxb (fun i hi => tt_of (fun q => c3 i hi ((hpv i (by omega)).mp q))) ((hpv _ hxb).mpr ⟨c1, c2⟩)
      rw [hfe, if_pos hxb] at hk
      refine ⟨upd s j (nI (x j)), ?_, by omega, fun i hi => ?_⟩
      · simp (disch := omega) only [m_X8_shows_L178, n_le, Nat.not_le.mpr hj, if_false]
        rw [hk, au_n (by omega) (by omega), nI_1]
      · by_cases hq : i = j
        · subst hq; exact upd_s
        · rw [upd_n hq]; exact h1 i (by omega))
    (fun f s _ => by simp (disch := omega) only [m_X8_shows_L178, n_le, Nat.le_refl, if_true]) 1 (upd sh 0 (nI f0)) hl.1 (by omega)
    ⟨Nat.le_refl 1, fun i hi => by
      have : i = 0 := by omega
      subst this
      rw [upd_s, hx.1]⟩
  exact ⟨s, far2, h4, h2⟩
theorem show8_no {n : Nat} (hn : n ≤ 12) (un rc sh far : Nat → Int32) (hc : cy n rc = false) : m_X8_shows (nI n) un rc sh far = some (sh, far, 0) := by
  unfold m_X8_shows
  have hls := least8 (bs (fun u => bt (rc u) u) n)
  have hz : bs (fun u => bt (rc u) u) n = 0 := by
    unfold cy at hc
    simpa using hc
  rw [ff_none (n := 12) (fun i hi => by rw [hz, b_0]), if_neg (by omega)] at hls
  rw [round8 hn, cl_s, hls, cl_s, if_pos rfl]
theorem show7_no {n : Nat} (hn : n ≤ 12) (un rc sh sb : Nat → Int32) (hc : cy n rc = false) : m_X5_showCycle (nI n) un rc sh sb = some (sh, sb, 0) := by
  unfold m_X5_showCycle
  rw [cyc7 hn, cl_s, if_c, if_neg (by rw [hc]; exact Bool.false_ne_true)]
