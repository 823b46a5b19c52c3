/-! ===== a site becomes another ===== -/
def SAME (N : Nat) (f g : Nat → Int32) : Prop := ∀ i, i < N → g i = f i
theorem cpy_same (f g : Nat → Int32) (N : Nat) : SAME N f (va_cpy f g 0 0 N) := fun i hi => by
  unfold va_cpy
  rw [if_pos ⟨Nat.zero_le i, by omega⟩]
  exact congrArg f (by omega)
theorem cpb_n {N : Nat} (hN : N < 1000) : cpb 0 0 (nI N) N N = true := by
  have c0 : ¬ nI N < 0 := by rw [lt_l (k := 0) (by omega) (by omega)]; omega
  have e0 : (0 : Int32).toNatClampNeg = 0 := rfl
  unfold cpb
  rw [e0, n_cl (by omega)]
  simp only [c0, show ¬ (0 : Int32) < 0 by decide, decide_false, Bool.not_false, Bool.true_and, Bool.and_eq_true, decide_eq_true_eq]
  omega
theorem copyRow (f g : Nat → Int32) {N : Nat} (hN : N < 1000) : ∃ h, SAME N f h ∧ m_X2_copyRow f g N N = some h := by
  unfold m_X2_copyRow
  refine ⟨va_cpy f g 0 0 N, cpy_same f g N, ?_⟩
  rw [ite_self, lt_e]
  show cpi f g N N 0 0 (nI N) _ = _
  unfold cpi
  have e0 : (0 : Int32).toNatClampNeg = 0 := rfl
  rw [if_pos (cpb_n hN), e0, n_cl (by omega)]
theorem becomes (u0 t0 d0 s0 e0 : Int32) (tr up lo dr hu hk sf ss si ew eu : Nat → Int32) (u1 t1 d1 s1 e1 : Int32) (ptr pup plo pdr phu phk psf pss psi pew peu : Nat → Int32) (hsi : ∀ k, k < 5 → psi k = 0 ∨ psi k = 1) : ∃ a b c d e f g h i j k, SAME 60 ptr a ∧ SAME 40 pup b ∧ SAME 40 plo c ∧ SAME 12 pdr d ∧ SAME 12 phu e ∧ SAME 12 phk f ∧ SAME 5 psf g ∧ SAME 5 pss h ∧ SAME 5 psi i ∧ SAME 8 pew j ∧ SAME 8 peu k ∧ m_X2_become u0 t0 d0 s0 e0 tr up lo dr hu hk sf ss si ew eu u1 t1 d1 s1 e1 ptr pup plo pdr phu phk psf pss psi pew peu = some (u1, t1, d1, s1, e1, a, b, c, d, e, f, g, h, i, j, k) := by
  obtain ⟨a, a1, a2⟩ := copyRow ptr tr (N := 60) (by omega)
  obtain ⟨b, b1, b2⟩ := copyRow pup up (N := 40) (by omega)
  obtain ⟨c, c1, c2⟩ := copyRow plo lo (N := 40) (by omega)
  obtain ⟨d, d1', d2⟩ := copyRow pdr dr (N := 12) (by omega)
  obtain ⟨e, e1', e2⟩ := copyRow phu hu (N := 12) (by omega)
  obtain ⟨f, f1, f2⟩ := copyRow phk hk (N := 12) (by omega)
  obtain ⟨g, g1, g2⟩ := copyRow psf sf (N := 5) (by omega)
  obtain ⟨h, h1, h2⟩ := copyRow pss ss (N := 5) (by omega)
  obtain ⟨j, j1, j2⟩ := copyRow pew ew (N := 8) (by omega)
  obtain ⟨k, k1, k2⟩ := copyRow peu eu (N := 8) (by omega)
  refine ⟨a, b, c, d, e, f, g, h, va_cpy psi si 0 0 5, j, k, a1, b1, c1, d1', e1', f1, g1, h1, cpy_same psi si 5, j1, k1, ?_⟩
  have z0 : (0 : Int32).toNatClampNeg = 0 := rfl
  have z5 : (5 : Int32).toNatClampNeg = 5 := rfl
  unfold m_X2_become
  rw [a2, cl_s, b2, cl_s, c2, cl_s, d2, cl_s, e2, cl_s, f2, cl_s, g2, cl_s, h2, cl_s]
  unfold cpz
  rw [z0, z5, if_pos ⟨cpb_n (N := 5) (by omega), fun i hi => by rw [Nat.zero_add]; exact hsi i hi⟩, j2]
  dsimp only
  rw [cl_s, k2, cl_s]
