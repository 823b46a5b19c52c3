/-! ===== a sentence, in both ===== -/
theorem let_cases (v : Int32) : (m_X8_in v 97 108 = some 0 ∧ (v < 97 ∨ ¬ v ≤ 108)) ∨ ∃ a, a < 12 ∧ v - 97 = nI a ∧ m_X8_in v 97 108 = some 1 ∧ ¬ v < 97 ∧ v ≤ 108 := by
  unfold m_X8_in
  by_cases c1 : v < 97
  · rw [if_pos c1]; exact Or.inl ⟨rfl, Or.inl c1⟩
  rw [if_neg c1]
  by_cases c2 : (108 : Int32) < v
  · rw [if_pos c2]; exact Or.inl ⟨rfl, Or.inr (not_le_of c2)⟩
  rw [if_neg c2]
  right
  have hle : v ≤ 108 := by
    rw [Int32.lt_iff_toInt_lt] at c2
    rw [Int32.le_iff_toInt_le]; omega
  have h1 : 97 ≤ v.toInt := by
    rw [Int32.lt_iff_toInt_lt] at c1
    have : (97 : Int32).toInt = 97 := rfl
    omega
  have h2 : v.toInt ≤ 108 := by
    rw [Int32.le_iff_toInt_le] at hle
    have : (108 : Int32).toInt = 108 := rfl
    omega
  have hv : v = nI (v.toInt.toNat) := by
    rw [← Int32.toInt_inj, nI_toInt (by omega)]; omega
  refine ⟨v.toInt.toNat - 97, by omega, ?_, rfl, c1, hle⟩
  rw [hv]
  show nI v.toInt.toNat - nI 97 = _
  rw [n_subn (by omega), nI_toInt (by omega)]
  congr 1
def low (v : Int32) : Bool := decide (¬ v < 97 ∧ ¬ (122 : Int32) < v)
theorem low_8 (v : Int32) : m_X8_in v 97 122 = some (if low v = true then 1 else 0) := by
  unfold m_X8_in low
  by_cases c1 : v < 97
  · rw [if_pos c1, if_neg (by rw [decide_eq_true_eq]; exact fun q => q.1 c1)]
  rw [if_neg c1]
  by_cases c2 : (122 : Int32) < v
  · rw [if_pos c2, if_neg (by rw [decide_eq_true_eq]; exact fun q => q.2 c2)]
  · rw [if_neg c2, if_pos (by rw [decide_eq_true_eq]; exact ⟨c1, c2⟩)]
def hc (tx : Nat → Int32) (L p : Nat) : Int32 := if p < L then tx p else -1
theorem here8 {tx et : Nat → Int32} {L p : Nat} (he : ∀ k, k < L → et k = tx k) (hL : L ≤ 100) (hp : p ≤ L) : m_X8_here et (nI p) (nI L) = some (hc tx L p) := by
  unfold m_X8_here hc
  by_cases c : p < L
  · have c1 : ¬ nI L ≤ nI p := by rw [n_le (by omega) (by omega)]; omega
    rw [if_neg c1, if_pos c, ag_n (by omega) (by omega), he p c]
  · have c1 : nI L ≤ nI p := by rw [n_le (by omega) (by omega)]; omega
    rw [if_pos c1, if_neg c]
theorem flt1 : ∀ p, p < 101 → ¬ ((-100 : Int32) - nI p = 0) := by decide +kernel
theorem flt3 : ∀ p, p < 101 → ¬ ((-300 : Int32) - nI p = 0) := by decide +kernel
theorem tl_f (tx : Nat → Int32) (L at_ : Int32) {F : Int32} (h : ¬ F = 0) : m_X6_takeLetter tx L at_ F = some (at_, F, 0) := by
  unfold m_X6_takeLetter; rw [if_neg h]
theorem ts_f (tx : Nat → Int32) (L at_ c : Int32) {F : Int32} (h : ¬ F = 0) : m_X6_takeSign tx L at_ F c = some (at_, F) := by
  unfold m_X6_takeSign; rw [if_neg h]
theorem tv_f (tx : Nat → Int32) (L at_ : Int32) {F : Int32} (h : ¬ F = 0) : m_X6_takeVerb tx L at_ F = some (at_, F, 0) := by
  unfold m_X6_takeVerb; rw [if_neg h]
theorem letter_both {tx et : Nat → Int32} {L p : Nat} (he : ∀ k, k < L → et k = tx k) (hL : L ≤ 100) (hp : p ≤ L) (F : Int32) (sen : Nat → Int32) {i w : Nat} (hi : i < 8) (hw : w < 3) : (m_X6_takeLetter tx (nI L) (nI p) 0 = some (nI p, (-100 : Int32) - nI p, 0) ∧ m_X8_unitAt et (nI p) F sen (nI i) (nI w) (nI L) = some (nI p, (-100 : Int32) - nI p, sen, 0)) ∨ ∃ a, a < 12 ∧ p < L ∧ m_X6_takeLetter tx (nI L) (nI p) 0 = some (nI (p + 1), 0, nI a) ∧ m_X8_unitAt et (nI p) F sen (nI i) (nI w) (nI L) = some (nI (p + 1), F, upd sen (3 * i + w) (nI a), 1) := by
  unfold m_X6_takeLetter m_X8_unitAt
  rw [here8 he hL hp, cl_s, if_pos rfl]
  unfold hc
  by_cases c : p < L
  · have c1 : ¬ nI L ≤ nI p := by rw [n_le (by omega) (by omega)]; omega
    have e1 : nI p + 1 - 1 = nI p := Int32.add_sub_cancel _ _
    have ea : ∀ {β : Type} (k : Int32 → Option β), ag tx 100 (nI p) k = k (tx p) := fun k => ag_n (by omega) (by omega)
    rw [if_neg c1, if_pos c, ea, ea, e1, ea]
    rcases let_cases (tx p) with ⟨h1, h2⟩ | ⟨a, ha, h2, h3, h4, h5⟩
    · left
      rw [h1, cl_s, if_00]
      by_cases c2 : tx p < 97
      · rw [if_pos c2]; exact ⟨rfl, rfl⟩
      · rw [if_neg c2, if_neg (h2.resolve_left c2)]; exact ⟨rfl, rfl⟩
    · right
      have e2 : (3 : Int32) * nI i + nI w = nI (3 * i + w) := by
        show nI 3 * nI i + nI w = _
        rw [pk_mul, nI_add]
      rw [h3, cl_s, if_10, if_neg h4, if_pos h5, ag_n (by omega) (by omega), he p c, h2, e2, au_n (by omega) (by omega), nI_1]
      exact ⟨a, ha, c, rfl, rfl⟩
  · have c1 : nI L ≤ nI p := by rw [n_le (by omega) (by omega)]; omega
    left
    rw [if_pos c1, if_neg c]
    exact ⟨rfl, rfl⟩
theorem sign_both {tx et : Nat → Int32} {L p : Nat} (he : ∀ k, k < L → et k = tx k) (hL : L ≤ 100) (hp : p ≤ L) (F : Int32) : (m_X6_takeSign tx (nI L) (nI p) 0 32 = some (nI p, (-100 : Int32) - nI p) ∧ m_X8_blank et (nI p) F (nI L) = some (nI p, (-100 : Int32) - nI p, 0)) ∨ (p < L ∧ m_X6_takeSign tx (nI L) (nI p) 0 32 = some (nI (p + 1), 0) ∧ m_X8_blank et (nI p) F (nI L) = some (nI (p + 1), F, 1)) := by
  unfold m_X6_takeSign m_X8_blank
  rw [here8 he hL hp, cl_s, if_pos rfl]
  unfold hc
  by_cases c : p < L
  · have c1 : ¬ nI L ≤ nI p := by rw [n_le (by omega) (by omega)]; omega
    rw [if_neg c1, if_pos c, ag_n (by omega) (by omega)]
    by_cases c2 : tx p = 32
    · right
      rw [if_pos c2, if_pos c2, nI_1]; exact ⟨c, rfl, rfl⟩
    · left
      rw [if_neg c2, if_neg c2]; exact ⟨rfl, rfl⟩
  · have c1 : nI L ≤ nI p := by rw [n_le (by omega) (by omega)]; omega
    left
    rw [if_pos c1, if_neg c, if_neg (by decide)]
    exact ⟨rfl, rfl⟩
def wend (tx : Nat → Int32) (L p : Nat) : Nat := p + ff (fun i => !low (tx (p + i))) (L - p)
theorem wend_le {tx : Nat → Int32} {L p : Nat} (hp : p ≤ L) : p ≤ wend tx L p ∧ wend tx L p ≤ L := by
  unfold wend
  have := ff_le (fun i => !low (tx (p + i))) (L - p)
  omega
theorem wend_lo {tx : Nat → Int32} {L p j : Nat} (h1 : p ≤ j) (h2 : j < wend tx L p) : low (tx j) = true := by
  unfold wend at h2
  have := ff_no (fun i => !low (tx (p + i))) (L - p) (j - p) (by omega)
  rw [Bool.not_eq_false'] at this
  rwa [show p + (j - p) = j by omega] at this
theorem wend_hi {tx : Nat → Int32} {L p : Nat} (h : wend tx L p < L) : ¬ low (tx (wend tx L p)) = true := by
  unfold wend at h ⊢
  have := ff_yes (fun i => !low (tx (p + i))) (L - p) (by omega)
  rw [Bool.not_eq_true'] at this
  rw [this]; exact Bool.false_ne_true
theorem loop7 {tx : Nat → Int32} {L p : Nat} (hL : L ≤ 100) (hp : p ≤ L) (k : Int32 → Option (Int32 × Int32 × Int32)) : m_X6_takeVerb_L14 (nI L) tx FU (nI p) k = k (nI (wend tx L p)) := by
  have hw := wend_le (tx := tx) hp
  obtain ⟨s, -, q⟩ := lpk (fun f i (s : Unit) => m_X6_takeVerb_L14 (nI L) tx f i k) (fun _ => k (nI (wend tx L p))) L (fun j _ => p ≤ j ∧ j ≤ wend tx L p) (fun _ => True)
    (fun f j s hj hP => by
      have c1 : ¬ nI L ≤ nI j := by rw [n_le (by omega) (by omega)]; omega
      have ea : ∀ {β : Type} (k : Int32 → Option β), ag tx 100 (nI j) k = k (tx j) := fun k => ag_n (by omega) (by omega)
      by_cases c : j < wend tx L p
      · left
        have hl := wend_lo hP.1 c
        unfold low at hl
        rw [decide_eq_true_eq] at hl
        refine ⟨(), ?_, by omega, by omega⟩
        rw [m_X6_takeVerb_L14, if_neg c1, ea, if_neg hl.1, ea, if_neg hl.2, nI_1]
      · right
        have hje : j = wend tx L p := by omega
        have hl := wend_hi (tx := tx) (L := L) (p := p) (by omega)
        rw [← hje] at hl
        unfold low at hl
        rw [decide_eq_true_eq] at hl
        refine ⟨?_, trivial⟩
        rw [m_X6_takeVerb_L14, if_neg c1, ea, ea, ← hje]
        by_cases d1 : tx j < 97
        · rw [if_pos d1]
        · by_cases d2 : (122 : Int32) < tx j
          · rw [if_neg d1, if_pos d2]
          · exact absurd ⟨d1, d2⟩ hl)
    (fun f s hP => ⟨by
      have hje : L = wend tx L p := by omega
      have c1 : nI L ≤ nI L := by rw [n_le (by omega) (by omega)]; omega
      rw [m_X6_takeVerb_L14, if_pos c1, ← hje], trivial⟩) p () hp (by omega) ⟨Nat.le_refl p, hw.1⟩
  exact q
theorem loop8 {tx et : Nat → Int32} {L p : Nat} (he : ∀ k, k < L → et k = tx k) (hL : L ≤ 100) (hp : p ≤ L) (k : Int32 → Option (Int32 × Int32 × (Nat → Int32) × Int32)) : m_X8_verbAt_L5 et (nI L) FU (nI p) k = k (nI (wend tx L p)) := by
  have hw := wend_le (tx := tx) hp
  obtain ⟨s, -, q⟩ := lpk (fun f i (s : Unit) => m_X8_verbAt_L5 et (nI L) f i k) (fun _ => k (nI (wend tx L p))) L (fun j _ => p ≤ j ∧ j ≤ wend tx L p) (fun _ => True)
    (fun f j s hj hP => by
      have e0 : hc tx L j = tx j := by unfold hc; rw [if_pos hj]
      by_cases c : j < wend tx L p
      · left
        have hl := wend_lo hP.1 c
        refine ⟨(), ?_, by omega, by omega⟩
        rw [m_X8_verbAt_L5, here8 he hL (by omega), cl_s, e0, low_8, cl_s, if_c, if_pos hl, nI_1]
      · right
        have hje : j = wend tx L p := by omega
        have hl := wend_hi (tx := tx) (L := L) (p := p) (by omega)
        rw [← hje] at hl
        refine ⟨?_, trivial⟩
        rw [m_X8_verbAt_L5, here8 he hL (by omega), cl_s, e0, low_8, cl_s, if_c, if_neg hl, ← hje])
    (fun f s hP => ⟨by
      have hje : L = wend tx L p := by omega
      have e0 : hc tx L L = -1 := by unfold hc; rw [if_neg (Nat.lt_irrefl L)]
      have hl : ¬ low (-1) = true := by decide
      rw [m_X8_verbAt_L5, here8 he hL (Nat.le_refl L), cl_s, e0, low_8, cl_s, if_c, if_neg hl, ← hje], trivial⟩) p () hp (by omega) ⟨Nat.le_refl p, hw.1⟩
  exact q
theorem verb_both {tx et vb : Nat → Int32} {L p : Nat} (he : ∀ k, k < L → et k = tx k) (hv : RVerbs vb) (hL : L ≤ 100) (hp : p ≤ L) (F : Int32) (sen : Nat → Int32) {i : Nat} (hi : i < 8) : (∃ Q x r y sen', ¬ Q = 0 ∧ m_X6_takeVerb tx (nI L) (nI p) 0 = some (x, Q, r) ∧ m_X8_verbAt et (nI p) F sen vb (nI i) (nI L) = some (y, Q, sen', 0)) ∨ ∃ e v, p < e ∧ e ≤ L ∧ v < 5 ∧ m_X6_takeVerb tx (nI L) (nI p) 0 = some (nI e, 0, nI v) ∧ m_X8_verbAt et (nI p) F sen vb (nI i) (nI L) = some (nI e, F, upd sen (3 * i + 1) (nI v), 1) := by
  have hw := wend_le (tx := tx) hp
  unfold m_X6_takeVerb m_X8_verbAt
  rw [if_pos rfl, loop7 hL hp, loop8 he hL hp]
  obtain ⟨r, r1, r2⟩ := verb_7 tx hw.1 (Nat.le_trans hw.2 hL)
  obtain ⟨s, s1, s2⟩ := verb_8 he hv hw.1 hw.2 hL
  have hrs := VB_un r1 s1
  subst hrs
  rw [r2, cl_s]
  by_cases c : wend tx L p = p
  · have c1 : nI (wend tx L p) = nI p := by rw [c]
    rw [if_pos c1, if_pos c1]
    refine Or.inl ⟨(-100 : Int32) - nI p, nI (wend tx L p), r, nI p, sen, flt1 p (by omega), rfl, ?_⟩
    rw [c]
  have c1 : ¬ nI (wend tx L p) = nI p := by rw [n_eq (by omega) (by omega)]; exact c
  have e2 : (3 : Int32) * nI i + 1 = nI (3 * i + 1) := by
    show nI 3 * nI i + nI 1 = _
    rw [pk_mul, nI_add]
  rw [if_neg c1, if_neg c1, s2, cl_s, e2, au_n (by omega) (by omega)]
  rcases r1 with ⟨v, v1, v2, v3, rfl⟩ | ⟨v1, rfl⟩
  · have d1 : 0 ≤ nI v := by rw [l_le (k := 0) (by omega) (by omega)]; omega
    have d2 : ¬ nI v = -1 := by rw [n_m1 (by omega)]; exact id
    rw [if_pos d1, if_neg d2, if_neg d2]
    exact Or.inr ⟨wend tx L p, v, by omega, hw.2, v1, rfl, rfl⟩
  · rw [if_neg (show ¬ (0 : Int32) ≤ -1 by decide), if_pos rfl, if_pos rfl]
    exact Or.inl ⟨(-300 : Int32) - nI p, nI (wend tx L p), -1, nI (wend tx L p), upd sen (3 * i + 1) (-1), flt3 p (by omega), rfl, rfl⟩
