/-! ===== MATHEMATICS: base ===== -/
def bt (x : Int32) (i : Nat) : Bool := x.toBitVec.getLsbD i
theorem b_ext {x y : Int32} (h : ∀ i, i < 32 → bt x i = bt y i) : x = y := Int32.toBitVec_inj.mp (BitVec.eq_of_getLsbD_eq (fun i hi => h i hi))
theorem b_or (x y : Int32) (i : Nat) : bt (x ||| y) i = (bt x i || bt y i) := by unfold bt; rw [Int32.toBitVec_or, BitVec.getLsbD_or]
theorem b_and (x y : Int32) (i : Nat) : bt (x &&& y) i = (bt x i && bt y i) := by unfold bt; rw [Int32.toBitVec_and, BitVec.getLsbD_and]
theorem b_xor (x y : Int32) (i : Nat) : bt (x ^^^ y) i = (bt x i ^^ bt y i) := by unfold bt; rw [Int32.toBitVec_xor, BitVec.getLsbD_xor]
theorem b_big {x : Int32} {i : Nat} (h : 32 ≤ i) : bt x i = false := BitVec.getLsbD_of_ge _ _ h
theorem b_m1 : ∀ i, i < 32 → bt (-1) i = true := by decide +kernel
theorem b_0 (i : Nat) : bt 0 i = false := BitVec.getLsbD_zero
theorem s_l : ∀ n, n < 32 → ((nI n &&& 31).toBitVec.smod 32).toNat = n := by decide +kernel
theorem b_shl (n : Nat) (hn : n < 32) (x : Int32) {i : Nat} (hi : i < 32) : bt (x <<< (nI n &&& 31)) i = (decide (n ≤ i) && bt x (i - n)) := by
  unfold bt
  rw [Int32.toBitVec_shiftLeft]
  show (x.toBitVec <<< ((nI n &&& 31).toBitVec.smod 32).toNat).getLsbD i = _
  rw [s_l n hn, BitVec.getLsbD_shiftLeft]
  rcases Nat.lt_or_ge i n with h | h
  · simp [h, Nat.not_le.mpr h]
  · simp [hi, h, Nat.not_lt.mpr h]
theorem b_sshr (n : Nat) (hn : n < 32) (x : Int32) {i : Nat} (hi : i < 32) : bt (x >>> (nI n &&& 31)) i = if n + i < 32 then bt x (n + i) else bt x 31 := by
  unfold bt
  rw [Int32.toBitVec_shiftRight]
  show (x.toBitVec.sshiftRight ((nI n &&& 31).toBitVec.smod 32).toNat).getLsbD i = _
  rw [s_l n hn, BitVec.getLsbD_sshiftRight, BitVec.msb_eq_getLsbD_last]
  simp [hi]
theorem b_one : ∀ i, i < 32 → bt 1 i = decide (i = 0) := by decide +kernel
theorem b_sh {u i : Nat} (hu : u < 32) (hi : i < 32) : bt ((1 : Int32) <<< (nI u &&& 31)) i = decide (i = u) := by
  rw [b_shl u hu 1 hi]
  by_cases h : u ≤ i
  · rw [b_one (i - u) (by omega)]
    by_cases h2 : i = u
    · subst h2; simp
    · simp [h, h2]; omega
  · simp [h]; omega
theorem b_not (x : Int32) {i : Nat} (hi : i < 32) : bt (x ^^^ (-1)) i = !bt x i := by
  rw [b_xor, b_m1 i hi]
  cases bt x i <;> rfl
/-- a bit is asked for -/
theorem b_ask (x : Int32) {u : Nat} (hu : u < 32) : ((x >>> (nI u &&& 31)) &&& (1 : Int32)) = if bt x u = true then 1 else 0 := by
  apply b_ext
  intro i hi
  rw [b_and, b_sshr u hu x hi, b_one i hi]
  by_cases h0 : i = 0
  · subst h0
    simp only [Nat.add_zero, hu, if_true, decide_true, Bool.and_true]
    cases bt x u
    · simp [b_0]
    · simp [b_one 0 (by omega)]
  · have h1 : decide (i = 0) = false := by simp [h0]
    rw [h1, Bool.and_false]
    by_cases hb : bt x u = true
    · rw [if_pos hb, b_one i hi, h1]
    · rw [if_neg hb, b_0]
theorem n_ne : ¬ ((1 : Int32) = 0) := by decide
theorem n_ne' : ¬ ((0 : Int32) = 1) := by decide
theorem hb7 (v : Int32) {u : Nat} (hu : u < 32) : m_X7_hasBit v (nI u) = some (if bt v u = true then 1 else 0) := by
  unfold m_X7_hasBit
  rw [b_ask v hu]
  by_cases h : bt v u = true
  · rw [if_pos h, if_pos rfl]
  · rw [if_neg h, if_neg n_ne']
theorem hb8 (v : Int32) {u : Nat} (hu : u < 32) : m_X8_has v (nI u) = some (if bt v u = true then 1 else 0) := by
  unfold m_X8_has
  rw [b_ask v hu]
  by_cases h : bt v u = true
  · rw [if_pos h, if_pos rfl]
  · rw [if_neg h, if_neg n_ne']
/-! numbers -/
theorem n_le {a b : Nat} (ha : a < 2147483648) (hb : b < 2147483648) : (nI a ≤ nI b) = (a ≤ b) := propext (nI_leI ha hb)
theorem n_lt {a b : Nat} (ha : a < 2147483648) (hb : b < 2147483648) : (nI a < nI b) = (a < b) := propext (nI_ltI ha hb)
theorem n_eq {a b : Nat} (ha : a < 2147483648) (hb : b < 2147483648) : (nI a = nI b) = (a = b) := propext (nI_eq ha hb)
theorem l_le {k b : Nat} (ha : k < 2147483648) (hb : b < 2147483648) : ((no_index (OfNat.ofNat k) : Int32) ≤ nI b) = (k ≤ b) := propext (nI_leI ha hb)
theorem le_l {a k : Nat} (ha : a < 2147483648) (hb : k < 2147483648) : (nI a ≤ (no_index (OfNat.ofNat k) : Int32)) = (a ≤ k) := propext (nI_leI ha hb)
theorem l_lt {k b : Nat} (ha : k < 2147483648) (hb : b < 2147483648) : ((no_index (OfNat.ofNat k) : Int32) < nI b) = (k < b) := propext (nI_ltI ha hb)
theorem lt_l {a k : Nat} (ha : a < 2147483648) (hb : k < 2147483648) : (nI a < (no_index (OfNat.ofNat k) : Int32)) = (a < k) := propext (nI_ltI ha hb)
theorem eq_l {a k : Nat} (ha : a < 2147483648) (hb : k < 2147483648) : (nI a = (no_index (OfNat.ofNat k) : Int32)) = (a = k) := propext (nI_eq ha hb)
theorem l_eq {a k : Nat} (ha : a < 2147483648) (hb : k < 2147483648) : ((no_index (OfNat.ofNat k) : Int32) = nI a) = (k = a) := propext (nI_eq hb ha)
theorem n_m1 {a : Nat} (ha : a < 2147483648) : (nI a = -1) = False := by
  refine propext ⟨fun h => ?_, False.elim⟩
  have h1 := nI_toInt (n := a) ha
  rw [h] at h1
  have h2 : (-1 : Int32).toInt = -1 := by decide
  omega
theorem m1_n {a : Nat} (ha : a < 2147483648) : (-1 = nI a) = False := propext ⟨fun h => by have := h.symm; rwa [n_m1 ha] at this, False.elim⟩
theorem m1_le {a : Nat} (ha : a < 2147483648) : ((-1 : Int32) ≤ nI a) = True := by
  refine propext ⟨fun _ => trivial, fun _ => ?_⟩
  rw [Int32.le_iff_toInt_le, nI_toInt ha]
  have h2 : (-1 : Int32).toInt = -1 := by decide
  omega
theorem n_cl {a : Nat} (ha : a < 2147483648) : (nI a).toNatClampNeg = a := nI_clamp ha
theorem inb_n {j n : Nat} (h : j < n) (hn : n < 2147483648) : inb (nI j) n = true := in_inb (vp_in_nI h hn)
/-! the words of the models -/
section
variable {α β : Type}
theorem ag_n {f : Nat → α} {n j : Nat} {k : α → Option β} (h : j < n) (hn : n < 2147483648) : ag f n (nI j) k = k (f j) := by
  unfold ag
  rw [if_pos (inb_n h hn), n_cl (by omega)]
theorem ag_l {f : Nat → α} {n j : Nat} {k : α → Option β} (h : j < n) (hn : n < 2147483648) : ag f n (no_index (OfNat.ofNat j) : Int32) k = k (f j) := ag_n h hn
theorem au_n {f : Nat → Int32} {n j : Nat} {x : Int32} {k : (Nat → Int32) → Option β} (h : j < n) (hn : n < 2147483648) : au f n (nI j) x k = k (upd f j x) := by
  unfold au
  rw [if_pos (inb_n h hn), n_cl (by omega)]
theorem au_l {f : Nat → Int32} {n j : Nat} {x : Int32} {k : (Nat → Int32) → Option β} (h : j < n) (hn : n < 2147483648) : au f n (no_index (OfNat.ofNat j) : Int32) x k = k (upd f j x) := au_n h hn
theorem al_n {f : Nat → Int64} {n j : Nat} {x : Int64} {k : (Nat → Int64) → Option β} (h : j < n) (hn : n < 2147483648) : al f n (nI j) x k = k (vp_updL f j x) := by
  unfold al
  rw [if_pos (inb_n h hn), n_cl (by omega)]
theorem al_l {f : Nat → Int64} {n j : Nat} {x : Int64} {k : (Nat → Int64) → Option β} (h : j < n) (hn : n < 2147483648) : al f n (no_index (OfNat.ofNat j) : Int32) x k = k (vp_updL f j x) := al_n h hn
theorem az_n {f : Nat → Int32} {n j : Nat} {x : Int32} {k : (Nat → Int32) → Option β} (h : j < n) (hn : n < 2147483648) : az f n (nI j) x k = k (upd f j (vp_nar .boolean x)) := by
  unfold az
  rw [if_pos (inb_n h hn), n_cl (by omega)]
theorem cl_s {a : α} {k : α → Option β} : cl (some a) k = k a := rfl
theorem lt_e {a : α} {k : α → Option β} : lt a k = k a := rfl
theorem jn_e {r : α → Option β} {b : (α → Option β) → Option β} : jn r b = b r := rfl
theorem zg_c {c : Prop} [Decidable c] {k : Option β} : zg (if c then 1 else 0) k = k := by
  unfold zg
  by_cases h : c
  · rw [if_pos h, if_pos (Or.inr rfl)]
  · rw [if_neg h, if_pos (Or.inl rfl)]
theorem zg_0 {k : Option β} : zg 0 k = k := if_pos (Or.inl rfl)
theorem zg_1 {k : Option β} : zg 1 k = k := if_pos (Or.inr rfl)
theorem if_c {c : Prop} [Decidable c] {a b : α} : (if (if c then (1 : Int32) else 0) = 0 then a else b) = if c then b else a := by
  by_cases h : c
  · rw [if_pos h, if_neg n_ne, if_pos h]
  · rw [if_neg h, if_pos rfl, if_neg h]
theorem if_10 {a b : α} : (if (1 : Int32) = 0 then a else b) = b := if_neg n_ne
theorem if_00 {a b : α} : (if (0 : Int32) = 0 then a else b) = a := if_pos rfl
end
/-! loops -/
theorem lpx {S B : Type} (L : Nat → Int32 → S → Option B) (R : S → Option B) (n : Nat) (P : Nat → S → Prop) (hs : ∀ f j s, j < n → P j s → ∃ s2, L (f + 1) (nI j) s = L f (nI (j + 1)) s2 ∧ P (j + 1) s2) (he : ∀ f s, P n s → L (f + 1) (nI n) s = R s) (i : Nat) (s : S) (hi : i ≤ n) (hn : n < 4999) (h : P i s) : ∃ s', P n s' ∧ L FU (nI i) s = R s' := by
  have key : ∀ m f i s, i + m = n → m < f → P i s → ∃ s', P n s' ∧ L f (nI i) s = R s' := by
    intro m
    induction m with
    | zero =>
      intro f i s h1 h2 h3
      obtain ⟨f, rfl⟩ : ∃ g, f = g + 1 := ⟨f - 1, by omega⟩
      have h4 : i = n := by omega
      subst h4
      exact ⟨s, h3, he f s h3⟩
    | succ m ih =>
      intro f i s h1 h2 h3
      obtain ⟨f, rfl⟩ : ∃ g, f = g + 1 := ⟨f - 1, by omega⟩
      obtain ⟨s2, h4, h5⟩ := hs f i s (by omega) h3
      obtain ⟨s', h6, h7⟩ := ih f (i + 1) s2 (by omega) (by omega) h5
      exact ⟨s', h6, h4.trans h7⟩
  exact key (n - i) FU i s (by omega) (by unfold FU; omega) h
theorem lpe {S B : Type} (L : Nat → Int32 → S → Option B) (R : S → Option B) (n : Nat) (P : Nat → S → Prop) (Q : B → Prop) (hs : ∀ f j s, j < n → P j s → (∃ s2, L (f + 1) (nI j) s = L f (nI (j + 1)) s2 ∧ P (j + 1) s2) ∨ ∃ r, L (f + 1) (nI j) s = some r ∧ Q r) (he : ∀ f s, P n s → L (f + 1) (nI n) s = R s) (i : Nat) (s : S) (hi : i ≤ n) (hn : n < 4999) (h : P i s) : (∃ s', P n s' ∧ L FU (nI i) s = R s') ∨ ∃ r, L FU (nI i) s = some r ∧ Q r := by
  have key : ∀ m f i s, i + m = n → m < f → P i s → (∃ s', P n s' ∧ L f (nI i) s = R s') ∨ ∃ r, L f (nI i) s = some r ∧ Q r := by
    intro m
    induction m with
    | zero =>
      intro f i s h1 h2 h3
      obtain ⟨f, rfl⟩ : ∃ g, f = g + 1 := ⟨f - 1, by omega⟩
      have h4 : i = n := by omega
      subst h4
      exact Or.inl ⟨s, h3, he f s h3⟩
    | succ m ih =>
      intro f i s h1 h2 h3
      obtain ⟨f, rfl⟩ : ∃ g, f = g + 1 := ⟨f - 1, by omega⟩
      rcases hs f i s (by omega) h3 with ⟨s2, h4, h5⟩ | ⟨r, h4, h5⟩
      · rcases ih f (i + 1) s2 (by omega) (by omega) h5 with ⟨s', h6, h7⟩ | ⟨r, h6, h7⟩
        · exact Or.inl ⟨s', h6, h4.trans h7⟩
        · exact Or.inr ⟨r, h4.trans h6, h7⟩
      · exact Or.inr ⟨r, h4, h5⟩
  exact key (n - i) FU i s (by omega) (by unfold FU; omega) h
/-- down to 0 -/
theorem lpd {S B : Type} (L : Nat → Int32 → S → Option B) (R : S → Option B) (n : Nat) (P : Nat → S → Prop) (hs : ∀ f j s, j < n → P (j + 1) s → ∃ s2, L (f + 1) (nI j) s = L f (nI j + (-1)) s2 ∧ P j s2) (he : ∀ f s, P 0 s → L (f + 1) (-1) s = R s) (s : S) (hn : n < 4999) (h : P n s) : ∃ s', P 0 s' ∧ L FU (nI n + (-1)) s = R s' := by
  have key : ∀ m f s, m < f → m ≤ n → P m s → ∃ s', P 0 s' ∧ L f (nI m + (-1)) s = R s' := by
    intro m
    induction m with
    | zero =>
      intro f s h2 _ h3
      obtain ⟨f, rfl⟩ : ∃ g, f = g + 1 := ⟨f - 1, by omega⟩
      have h4 : nI 0 + (-1) = -1 := by decide
      rw [h4]
      exact ⟨s, h3, he f s h3⟩
    | succ m ih =>
      intro f s h2 h1 h3
      obtain ⟨f, rfl⟩ : ∃ g, f = g + 1 := ⟨f - 1, by omega⟩
      rw [pk_m1]
      obtain ⟨s2, h4, h5⟩ := hs f m s (by omega) h3
      obtain ⟨s', h6, h7⟩ := ih f s2 (by omega) (by omega) h5
      exact ⟨s', h6, h4.trans h7⟩
  exact key n FU s (by unfold FU; omega) (Nat.le_refl n) h
theorem n_sub1 {n : Nat} (h : 0 < n) : nI n - 1 = nI (n - 1) := by
  obtain ⟨m, rfl⟩ : ∃ m, n = m + 1 := ⟨n - 1, by omega⟩
  exact nI_pred m
theorem n_subm (n : Nat) : nI n - 1 = nI n + (-1) := by
  rw [Int32.sub_eq_add_neg]
/-- a set of the numbers below n -/
def bs (p : Nat → Bool) : Nat → Int32
  | 0 => 0
  | n + 1 => if p n = true then bs p n ||| ((1 : Int32) <<< (nI n &&& 31)) else bs p n
theorem bt_bs (p : Nat → Bool) {v : Nat} (hv : v < 32) : ∀ n, n ≤ 32 → bt (bs p n) v = (decide (v < n) && p v)
  | 0, _ => by simp [bs, b_0]
  | n + 1, h => by
    unfold bs
    have ih := bt_bs p hv n (by omega)
    by_cases hp : p n = true
    · rw [if_pos hp, b_or, ih, b_sh (by omega) hv]
      by_cases h1 : v = n
      · subst h1; simp [hp]
      · have h2 : (v < n + 1) = (v < n) := propext ⟨fun _ => by omega, fun _ => by omega⟩
        simp [h1, h2]
    · rw [if_neg hp, ih]
      by_cases h1 : v = n
      · subst h1; simp [hp]
      · have h2 : (v < n + 1) = (v < n) := propext ⟨fun _ => by omega, fun _ => by omega⟩
        simp [h2]
theorem bs_eq {p : Nat → Bool} {n : Nat} {x : Int32} (hn : n ≤ 32) (h : ∀ v, v < 32 → bt x v = (decide (v < n) && p v)) : x = bs p n := b_ext (fun i hi => by rw [h i hi, bt_bs p hi n hn])
theorem bsl {B : Type} (L : Nat → Int32 → Int32 → Option B) (R : Int32 → Option B) (n : Nat) (p : Nat → Bool) (hn : n ≤ 32) (hs : ∀ f j a, j < n → L (f + 1) (nI j) a = L f (nI (j + 1)) (if p j = true then a ||| ((1 : Int32) <<< (nI j &&& 31)) else a)) (he : ∀ f a, L (f + 1) (nI n) a = R a) : L FU 0 0 = R (bs p n) := by
  obtain ⟨s', h1, h2⟩ := lpx L R n (fun j a => a = bs p j) (fun f j s hj h => ⟨_, hs f j s hj, by subst h; rfl⟩) (fun f s _ => he f s) 0 0 (Nat.zero_le n) (by omega) rfl
  subst h1
  exact h2
