/-! ===== a sentence, whole ===== -/
theorem s7_f {tx fi ve se : Nat → Int32} {L i at0 x1 F1 l1 x2 F2 x3 F3 l3 x4 F4 x5 F5 l5 : Int32} (h1 : m_X6_takeLetter tx L at0 0 = some (x1, F1, l1)) (h2 : m_X6_takeSign tx L x1 F1 32 = some (x2, F2)) (h3 : m_X6_takeVerb tx L x2 F2 = some (x3, F3, l3)) (h4 : m_X6_takeSign tx L x3 F3 32 = some (x4, F4)) (h5 : m_X6_takeLetter tx L x4 F4 = some (x5, F5, l5)) (hF : ¬ F5 = 0) : m_X6_takeSentence tx L fi ve se i at0 0 = some (fi, ve, se, i, x5, F5) := by
  unfold m_X6_takeSentence
  rw [h1, cl_s]
  dsimp only
  rw [h2, cl_s]
  dsimp only
  rw [h3, cl_s]
  dsimp only
  rw [h4, cl_s]
  dsimp only
  rw [h5, cl_s]
  dsimp only
  rw [if_neg hF]
theorem s7_t {tx fi ve se : Nat → Int32} {L at0 x1 F1 l1 x2 F2 x3 F3 l3 x4 F4 x5 l5 : Int32} {i : Nat} (h1 : m_X6_takeLetter tx L at0 0 = some (x1, F1, l1)) (h2 : m_X6_takeSign tx L x1 F1 32 = some (x2, F2)) (h3 : m_X6_takeVerb tx L x2 F2 = some (x3, F3, l3)) (h4 : m_X6_takeSign tx L x3 F3 32 = some (x4, F4)) (h5 : m_X6_takeLetter tx L x4 F4 = some (x5, 0, l5)) (hi : i < 8) : m_X6_takeSentence tx L fi ve se (nI i) at0 0 = some (upd fi i l1, upd ve i l3, upd se i l5, nI (i + 1), x5, 0) := by
  have c8 : ¬ (8 : Int32) ≤ nI i := by rw [l_le (k := 8) (by omega) (by omega)]; omega
  unfold m_X6_takeSentence
  rw [h1, cl_s]
  dsimp only
  rw [h2, cl_s]
  dsimp only
  rw [h3, cl_s]
  dsimp only
  rw [h4, cl_s]
  dsimp only
  rw [h5, cl_s]
  dsimp only
  rw [if_pos rfl, if_neg c8, au_n hi (by omega), au_n hi (by omega), au_n hi (by omega), nI_1]
theorem s8_1 {et sen vb se1 : Nat → Int32} {at0 F i L x F1 : Int32} (h1 : m_X8_unitAt et at0 F sen i 0 L = some (x, F1, se1, 0)) : m_X8_sentence et at0 F sen vb i L = some (x, F1, se1, 0) := by
  unfold m_X8_sentence
  rw [h1, cl_s]
  dsimp only
  rw [if_pos rfl]
theorem s8_2 {et sen vb se1 : Nat → Int32} {at0 F i L x F1 x2 F2 : Int32} (h1 : m_X8_unitAt et at0 F sen i 0 L = some (x, F1, se1, 1)) (h2 : m_X8_blank et x F1 L = some (x2, F2, 0)) : m_X8_sentence et at0 F sen vb i L = some (x2, F2, se1, 0) := by
  unfold m_X8_sentence
  rw [h1, cl_s]
  dsimp only
  rw [if_neg (by decide), h2, cl_s]
  dsimp only
  rw [if_pos rfl]
theorem s8_3 {et sen vb se1 se3 : Nat → Int32} {at0 F i L x F1 x2 F2 x3 F3 : Int32} (h1 : m_X8_unitAt et at0 F sen i 0 L = some (x, F1, se1, 1)) (h2 : m_X8_blank et x F1 L = some (x2, F2, 1)) (h3 : m_X8_verbAt et x2 F2 se1 vb i L = some (x3, F3, se3, 0)) : m_X8_sentence et at0 F sen vb i L = some (x3, F3, se3, 0) := by
  unfold m_X8_sentence
  rw [h1, cl_s]
  dsimp only
  rw [if_neg (by decide), h2, cl_s]
  dsimp only
  rw [if_neg (by decide), h3, cl_s]
  dsimp only
  rw [if_pos rfl]
theorem s8_4 {et sen vb se1 se3 : Nat → Int32} {at0 F i L x F1 x2 F2 x3 F3 x4 F4 : Int32} (h1 : m_X8_unitAt et at0 F sen i 0 L = some (x, F1, se1, 1)) (h2 : m_X8_blank et x F1 L = some (x2, F2, 1)) (h3 : m_X8_verbAt et x2 F2 se1 vb i L = some (x3, F3, se3, 1)) (h4 : m_X8_blank et x3 F3 L = some (x4, F4, 0)) : m_X8_sentence et at0 F sen vb i L = some (x4, F4, se3, 0) := by
  unfold m_X8_sentence
  rw [h1, cl_s]
  dsimp only
  rw [if_neg (by decide), h2, cl_s]
  dsimp only
  rw [if_neg (by decide), h3, cl_s]
  dsimp only
  rw [if_neg (by decide), h4, cl_s]
  dsimp only
  rw [if_pos rfl]
theorem s8_5 {et sen vb se1 se3 se5 : Nat → Int32} {at0 F i L x F1 x2 F2 x3 F3 x4 F4 x5 F5 k : Int32} (h1 : m_X8_unitAt et at0 F sen i 0 L = some (x, F1, se1, 1)) (h2 : m_X8_blank et x F1 L = some (x2, F2, 1)) (h3 : m_X8_verbAt et x2 F2 se1 vb i L = some (x3, F3, se3, 1)) (h4 : m_X8_blank et x3 F3 L = some (x4, F4, 1)) (h5 : m_X8_unitAt et x4 F4 se3 i 2 L = some (x5, F5, se5, k)) (hk : k = 0 ∨ k = 1) : m_X8_sentence et at0 F sen vb i L = some (x5, F5, se5, k) := by
  unfold m_X8_sentence
  rw [h1, cl_s]
  dsimp only
  rw [if_neg (by decide), h2, cl_s]
  dsimp only
  rw [if_neg (by decide), h3, cl_s]
  dsimp only
  rw [if_neg (by decide), h4, cl_s]
  dsimp only
  rw [if_neg (by decide), h5, cl_s]
  dsimp only
  rcases hk with rfl | rfl
  · rw [if_pos rfl]
  · rw [if_neg (by decide)]
theorem sent_both {tx et vb : Nat → Int32} {L p : Nat} (he : ∀ k, k < L → et k = tx k) (hv : RVerbs vb) (hL : L ≤ 100) (hp : p ≤ L) (F : Int32) (sen fi ve se : Nat → Int32) {i : Nat} (hi : i < 8) : (∃ Q x y sen', ¬ Q = 0 ∧ m_X6_takeSentence tx (nI L) fi ve se (nI i) (nI p) 0 = some (fi, ve, se, nI i, x, Q) ∧ m_X8_sentence et (nI p) F sen vb (nI i) (nI L) = some (y, Q, sen', 0)) ∨ ∃ q a v b, q ≤ L ∧ a < 12 ∧ v < 5 ∧ b < 12 ∧ m_X6_takeSentence tx (nI L) fi ve se (nI i) (nI p) 0 = some (upd fi i (nI a), upd ve i (nI v), upd se i (nI b), nI (i + 1), nI q, 0) ∧ m_X8_sentence et (nI p) F sen vb (nI i) (nI L) = some (nI q, F, upd (upd (upd sen (3 * i) (nI a)) (3 * i + 1) (nI v)) (3 * i + 2) (nI b), 1) := by
  rcases letter_both he hL hp F sen hi (w := 0) (by omega) with ⟨h1, h2⟩ | ⟨a, ha, pL, h1, h2⟩
  · have hf := flt1 p (by omega)
    exact Or.inl ⟨(-100 : Int32) - nI p, nI p, nI p, sen, hf, s7_f h1 (ts_f _ _ _ _ hf) (tv_f _ _ _ hf) (ts_f _ _ _ _ hf) (tl_f _ _ _ hf) hf, s8_1 h2⟩
  rcases sign_both he hL (show p + 1 ≤ L by omega) F with ⟨h3, h4⟩ | ⟨pL2, h3, h4⟩
  · have hf := flt1 (p + 1) (by omega)
    exact Or.inl ⟨(-100 : Int32) - nI (p + 1), nI (p + 1), nI (p + 1), upd sen (3 * i + 0) (nI a), hf, s7_f h1 h3 (tv_f _ _ _ hf) (ts_f _ _ _ _ hf) (tl_f _ _ _ hf) hf, s8_2 h2 h4⟩
  rcases verb_both he hv hL (show p + 1 + 1 ≤ L by omega) F (upd sen (3 * i + 0) (nI a)) hi with ⟨Q, x, r, y, sen', hf, h5, h6⟩ | ⟨e, v, e1, e2, hv5, h5, h6⟩
  · exact Or.inl ⟨Q, x, y, sen', hf, s7_f h1 h3 h5 (ts_f _ _ _ _ hf) (tl_f _ _ _ hf) hf, s8_3 h2 h4 h6⟩
  rcases sign_both he hL e2 F with ⟨h7, h8⟩ | ⟨pL3, h7, h8⟩
  · have hf := flt1 e (by omega)
    exact Or.inl ⟨(-100 : Int32) - nI e, nI e, nI e, upd (upd sen (3 * i + 0) (nI a)) (3 * i + 1) (nI v), hf, s7_f h1 h3 h5 h7 (tl_f _ _ _ hf) hf, s8_4 h2 h4 h6 h8⟩
  rcases letter_both he hL (show e + 1 ≤ L by omega) F (upd (upd sen (3 * i + 0) (nI a)) (3 * i + 1) (nI v)) hi (w := 2) (by omega) with ⟨h9, h10⟩ | ⟨b, hb, pL4, h9, h10⟩
  · have hf := flt1 (e + 1) (by omega)
    exact Or.inl ⟨(-100 : Int32) - nI (e + 1), nI (e + 1), nI (e + 1), upd (upd sen (3 * i + 0) (nI a)) (3 * i + 1) (nI v), hf, s7_f h1 h3 h5 h7 h9 hf, s8_5 h2 h4 h6 h8 h10 (Or.inl rfl)⟩
  · exact Or.inr ⟨e + 1 + 1, a, v, b, by omega, ha, hv5, hb, s7_t h1 h3 h5 h7 h9 hi, s8_5 h2 h4 h6 h8 h10 (Or.inr rfl)⟩
