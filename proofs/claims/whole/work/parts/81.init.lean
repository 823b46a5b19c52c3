/-! ===== what the constructors leave ===== -/
theorem in_X2 : ∃ r : (Nat → Int32) × (Nat → Int32), m_X2_init = some r ∧ ∀ k, k < 12 → r.1 k = -1 ∧ r.2 k = -1 := by
  obtain ⟨s, h1, h2⟩ := lpx (fun f i (s : (Nat → Int32) × (Nat → Int32)) => m_X2_init_L116 f i s.1 s.2 (fun x_116 y5_116 y6_116 => some (y5_116, y6_116))) (fun s => some s) 12 (fun j s => ∀ k, k < j → s.1 k = -1 ∧ s.2 k = -1)
    (fun f j s hj hP => by
      have c0 : ¬ (12 : Int32) ≤ nI j := by rw [l_le (k := 12) (by omega) (by omega)]; omega
      refine ⟨(upd s.1 j (-1), upd s.2 j (-1)), ?_, fun k hk => ?_⟩
      · rw [m_X2_init_L116, if_neg c0, au_n hj (by omega), au_n hj (by omega), nI_1]
      · by_cases c : k = j
        · subst c; simp only [upd_s]; exact ⟨trivial, trivial⟩
        · simp only [upd_n c]; exact hP k (by omega))
    (fun f s _ => by
      have c0 : (12 : Int32) ≤ nI 12 := by decide
      rw [m_X2_init_L116, if_pos c0]) 0 ((fun _ => 0), (fun _ => 0)) (by omega) (by omega) (fun k hk => absurd hk (Nat.not_lt_zero k))
  exact ⟨s, h2, h1⟩
theorem in_X0 : ∃ r : Nat → Int32, m_X0_init = some r ∧ ∀ k, k < 6 → r k = -1 := by
  obtain ⟨s, h1, h2⟩ := lpx (fun f i (s : Nat → Int32) => m_X0_init_L31 f i s (fun x_31 y1_31 => some y1_31)) (fun s => some s) 6 (fun j s => ∀ k, k < j → s k = -1)
    (fun f j s hj hP => by
      have c0 : ¬ (6 : Int32) ≤ nI j := by rw [l_le (k := 6) (by omega) (by omega)]; omega
      refine ⟨upd s j (-1), ?_, fun k hk => ?_⟩
      · rw [m_X0_init_L31, if_neg c0, au_n hj (by omega), nI_1]
      · by_cases c : k = j
        · subst c; rw [upd_s]
        · rw [upd_n c]; exact hP k (by omega))
    (fun f s _ => by
      have c0 : (6 : Int32) ≤ nI 6 := by decide
      rw [m_X0_init_L31, if_pos c0]) 0 (fun _ => 0) (by omega) (by omega) (fun k hk => absurd hk (Nat.not_lt_zero k))
  exact ⟨s, h2, h1⟩
theorem in_X7 : ∃ r : (Nat → Int32) × (Nat → Int32) × (Nat → Int32) × (Nat → Int32) × (Nat → Int32) × (Nat → Int32) × (Nat → Int32), m_X7_init = some r ∧ (∀ k, k < 12 → r.1 k = -1 ∧ r.2.1 k = -1) ∧ ∀ k, k < 6 → r.2.2.2.2.2.2 k = -1 := by
  obtain ⟨a, a1, a2⟩ := in_X2
  obtain ⟨b, b1, b2⟩ := in_X0
  refine ⟨(a.1, a.2, a.1, a.2, a.1, a.2, b), ?_, a2, b2⟩
  unfold m_X7_init m_X5_init m_X4_init m_X3_init m_X6_init m_X1_init
  rw [a1, b1]
  rfl
theorem in_8a (y : Nat → Int32) (k : Int32 → (Nat → Int32) → Option ((Nat → Int32) × (Nat → Int32) × (Nat → Int32))) : ∃ r : Nat → Int32, (∀ j, j < 6 → r j = -1) ∧ m_X8_init_L425 FU 0 y k = k (nI 6) r := by
  obtain ⟨s, h1, h2⟩ := lpx (fun f i (s : Nat → Int32) => m_X8_init_L425 f i s k) (fun s => k (nI 6) s) 6 (fun j s => ∀ k, k < j → s k = -1)
    (fun f j s hj hP => by
      have c0 : ¬ (6 : Int32) ≤ nI j := by rw [l_le (k := 6) (by omega) (by omega)]; omega
      refine ⟨upd s j (-1), ?_, fun k hk => ?_⟩
      · rw [m_X8_init_L425, if_neg c0, au_n hj (by omega), nI_1]
      · by_cases c : k = j
        · subst c; rw [upd_s]
        · rw [upd_n c]; exact hP k (by omega))
    (fun f s _ => by
      have c0 : (6 : Int32) ≤ nI 6 := by decide
      rw [m_X8_init_L425, if_pos c0]) 0 y (by omega) (by omega) (fun k hk => absurd hk (Nat.not_lt_zero k))
  exact ⟨s, h1, h2⟩
theorem in_8b (y : Nat → Int32) (k : Int32 → (Nat → Int32) → Option ((Nat → Int32) × (Nat → Int32) × (Nat → Int32))) : ∃ r : Nat → Int32, (∀ j, j < 12 → r j = -1) ∧ m_X8_init_L446 FU 0 y k = k (nI 12) r := by
  obtain ⟨s, h1, h2⟩ := lpx (fun f i (s : Nat → Int32) => m_X8_init_L446 f i s k) (fun s => k (nI 12) s) 12 (fun j s => ∀ k, k < j → s k = -1)
    (fun f j s hj hP => by
      have c0 : ¬ (12 : Int32) ≤ nI j := by rw [l_le (k := 12) (by omega) (by omega)]; omega
      refine ⟨upd s j (-1), ?_, fun k hk => ?_⟩
      · rw [m_X8_init_L446, if_neg c0, au_n hj (by omega), nI_1]
      · by_cases c : k = j
        · subst c; rw [upd_s]
        · rw [upd_n c]; exact hP k (by omega))
    (fun f s _ => by
      have c0 : (12 : Int32) ≤ nI 12 := by decide
      rw [m_X8_init_L446, if_pos c0]) 0 y (by omega) (by omega) (fun k hk => absurd hk (Nat.not_lt_zero k))
  exact ⟨s, h1, h2⟩
def vRow : Nat → Int32 := (upd (upd (upd (upd (upd (upd (upd (upd (upd (upd (upd (upd (upd (upd (upd (upd (upd (upd (upd (upd (upd (upd (upd (upd (upd (fun _ => (0 : Int32)) 0 (111 : Int32)) 1 (118 : Int32)) 2 (101 : Int32)) 3 (114 : Int32)) 4 (32 : Int32)) 5 (117 : Int32)) 6 (110 : Int32)) 7 (100 : Int32)) 8 (101 : Int32)) 9 (114 : Int32)) 10 (99 : Int32)) 11 (117 : Int32)) 12 (116 : Int32)) 13 (115 : Int32)) 14 (32 : Int32)) 15 (102 : Int32)) 16 (105 : Int32)) 17 (108 : Int32)) 18 (108 : Int32)) 19 (115 : Int32)) 20 (106 : Int32)) 21 (111 : Int32)) 22 (105 : Int32)) 23 (110 : Int32)) 24 (115 : Int32))
theorem in_v : RVerbs vRow := by
  unfold RVerbs
  decide +kernel
theorem au_25 {f : Nat → Int32} {w : Nat} (hw : w < 25) {x : Int32} {β : Type} (k : (Nat → Int32) → Option β) : au f 25 (nI w) x k = k (upd f w x) := au_n hw (by omega)
theorem in_X8 : ∃ r : (Nat → Int32) × (Nat → Int32) × (Nat → Int32), m_X8_init = some r ∧ (∀ k, k < 12 → r.1 k = -1) ∧ RVerbs r.2.1 ∧ ∀ k, k < 6 → r.2.2 k = -1 := by
  obtain ⟨c, c1, c2⟩ := in_8a (fun _ => (0 : Int32)) (fun x_425 y31_425 => m_X8_init_L446 FU (0 : Int32) (fun _ => (0 : Int32)) fun x_446 y17_446 => some (y17_446, vRow, y31_425))
  obtain ⟨a, a1, a2⟩ := in_8b (fun _ => (0 : Int32)) (fun x_446 y17_446 => some (y17_446, vRow, c))
  refine ⟨(a, vRow, c), ?_, a1, in_v, c1⟩
  unfold m_X8_init
  show au _ 25 (nI 0) _ _ = _
  rw [au_25 (by omega)]
  show au _ 25 (nI 1) _ _ = _
  rw [au_25 (by omega)]
  show au _ 25 (nI 2) _ _ = _
  rw [au_25 (by omega)]
  show au _ 25 (nI 3) _ _ = _
  rw [au_25 (by omega)]
  show au _ 25 (nI 4) _ _ = _
  rw [au_25 (by omega)]
  show au _ 25 (nI 5) _ _ = _
  rw [au_25 (by omega)]
  show au _ 25 (nI 6) _ _ = _
  rw [au_25 (by omega)]
  show au _ 25 (nI 7) _ _ = _
  rw [au_25 (by omega)]
  show au _ 25 (nI 8) _ _ = _
  rw [au_25 (by omega)]
  show au _ 25 (nI 9) _ _ = _
  rw [au_25 (by omega)]
  show au _ 25 (nI 10) _ _ = _
  rw [au_25 (by omega)]
  show au _ 25 (nI 11) _ _ = _
  rw [au_25 (by omega)]
  show au _ 25 (nI 12) _ _ = _
  rw [au_25 (by omega)]
  show au _ 25 (nI 13) _ _ = _
  rw [au_25 (by omega)]
  show au _ 25 (nI 14) _ _ = _
  rw [au_25 (by omega)]
  show au _ 25 (nI 15) _ _ = _
  rw [au_25 (by omega)]
  show au _ 25 (nI 16) _ _ = _
  rw [au_25 (by omega)]
  show au _ 25 (nI 17) _ _ = _
  rw [au_25 (by omega)]
  show au _ 25 (nI 18) _ _ = _
  rw [au_25 (by omega)]
  show au _ 25 (nI 19) _ _ = _
  rw [au_25 (by omega)]
  show au _ 25 (nI 20) _ _ = _
  rw [au_25 (by omega)]
  show au _ 25 (nI 21) _ _ = _
  rw [au_25 (by omega)]
  show au _ 25 (nI 22) _ _ = _
  rw [au_25 (by omega)]
  show au _ 25 (nI 23) _ _ = _
  rw [au_25 (by omega)]
  show au _ 25 (nI 24) _ _ = _
  rw [au_25 (by omega)]
  refine Eq.trans c2 ?_
  exact a2
theorem Rel_start {r7 : (Nat → Int32) × (Nat → Int32) × (Nat → Int32) × (Nat → Int32) × (Nat → Int32) × (Nat → Int32) × (Nat → Int32)} {r8 : (Nat → Int32) × (Nat → Int32) × (Nat → Int32)} (a1 : ∀ k, k < 12 → r7.1 k = -1 ∧ r7.2.1 k = -1) (a2 : ∀ k, k < 6 → r7.2.2.2.2.2.2 k = -1) (b1 : ∀ k, k < 12 → r8.1 k = -1) (b2 : RVerbs r8.2.1) (b3 : ∀ k, k < 6 → r8.2.2 k = -1) : Rel ((0 : Int32), (0 : Int32), (0 : Int32), (0 : Int32), (0 : Int32), (0 : Int32), (fun _ => (0 : Int32)), (fun _ => (0 : Int32)), (fun _ => (0 : Int32)), (fun _ => (0 : Int32)), r7.1, r7.2.1, (fun _ => (0 : Int32)), (fun _ => (0 : Int32)), (fun _ => (0 : Int32)), (fun _ => (0 : Int32)), (fun _ => (0 : Int32)), (0 : Int32), (0 : Int32), (0 : Int32), (0 : Int32), (0 : Int32), (fun _ => (0 : Int32)), (fun _ => (0 : Int32)), (fun _ => (0 : Int32)), (fun _ => (0 : Int32)), r7.2.2.1, r7.2.2.2.1, (fun _ => (0 : Int32)), (fun _ => (0 : Int32)), (fun _ => (0 : Int32)), (fun _ => (0 : Int32)), (fun _ => (0 : Int32)), (0 : Int32), (0 : Int32), (0 : Int32), (0 : Int32), (0 : Int32), (fun _ => (0 : Int32)), (fun _ => (0 : Int32)), (fun _ => (0 : Int32)), (fun _ => (0 : Int32)), r7.2.2.2.2.1, r7.2.2.2.2.2.1, (fun _ => (0 : Int32)), (fun _ => (0 : Int32)), (fun _ => (0 : Int32)), (fun _ => (0 : Int32)), (fun _ => (0 : Int32)), (0 : Int32), (fun _ => (0 : Int32)), (fun _ => (0 : Int32)), (fun _ => (0 : Int32)), (fun _ => (0 : Int32)), (fun _ => (0 : Int32)), (fun _ => (0 : Int32)), (-1 : Int32), (fun _ => (0 : Int64)), (fun _ => (0 : Int32)), (0 : Int32), (fun _ => (0 : Int32)), (0 : Int32), (0 : Int32), (0 : Int32), (0 : Int32), (fun _ => (0 : Int32)), (fun _ => (0 : Int32)), (fun _ => (0 : Int32)), (fun _ => (0 : Int32)), (0 : Int32), (fun _ => (0 : Int32)), r7.2.2.2.2.2.2, (fun _ => (0 : Int32)), (fun _ => (0 : Int64))) ((0 : Int32), (0 : Int32), (0 : Int32), (0 : Int32), (0 : Int32), (0 : Int32), (0 : Int32), (0 : Int32), (0 : Int32), (0 : Int32), (0 : Int32), (0 : Int32), (0 : Int32), (0 : Int32), (fun _ => (0 : Int32)), (fun _ => (0 : Int32)), (fun _ => (0 : Int32)), (fun _ => (0 : Int32)), (fun _ => (0 : Int32)), (fun _ => (0 : Int32)), (fun _ => (0 : Int32)), (fun _ => (0 : Int32)), (fun _ => (0 : Int32)), (fun _ => (0 : Int32)), (fun _ => (0 : Int32)), (fun _ => (0 : Int32)), (fun _ => (0 : Int32)), (fun _ => (0 : Int32)), (fun _ => (0 : Int32)), (fun _ => (0 : Int64)), r8.1, (fun _ => (0 : Int32)), (fun _ => (0 : Int32)), (fun _ => (0 : Int32)), r8.2.1, (fun _ => (0 : Int32)), (fun _ => (0 : Int32)), (fun _ => (0 : Int32)), (fun _ => (0 : Int32)), (fun _ => (0 : Int32)), (fun _ => (0 : Int32)), (fun _ => (0 : Int32)), (fun _ => (0 : Int32)), (fun _ => (0 : Int32)), r8.2.2, (fun _ => (0 : Int32)), (fun _ => (0 : Int64)), (fun _ => (0 : Int64))) := by
  refine Rel_of ⟨0, 0, 0, 0, 0, fun _ => 0, fun _ => 0, fun _ => 0, ⟨⟨rfl, rfl, Nat.zero_le 12⟩, ⟨rfl, rfl, Nat.zero_le 40⟩, ⟨rfl, rfl⟩, ⟨rfl, rfl, Nat.zero_le 5⟩, ⟨rfl, rfl, Nat.zero_le 8⟩⟩, fun k hk => absurd hk (Nat.not_lt_zero k), ⟨fun k hk => absurd hk (Nat.not_lt_zero k), fun i j hi => absurd hi (Nat.not_lt_zero i), fun k hk => absurd hk (Nat.not_lt_zero k)⟩, ⟨fun k hk => absurd hk (Nat.not_lt_zero k), fun i j hi => absurd hi (Nat.not_lt_zero i)⟩, fun k hk => ⟨(b1 k hk).trans (a1 k hk).1.symm, fun h => absurd (a1 k hk).1 h⟩, ⟨fun k hk => Or.inl rfl, fun k hk => absurd hk (Nat.not_lt_zero k)⟩, fun k hk => absurd hk (Nat.not_lt_zero k)⟩ (Or.inl ⟨rfl, rfl⟩) (Or.inl rfl) ⟨0, Nat.zero_le 100, rfl, rfl, fun k hk => absurd hk (Nat.not_lt_zero k)⟩ ⟨0, Nat.zero_le 160, rfl, rfl, fun k hk => absurd hk (Nat.not_lt_zero k)⟩ ⟨fun _ => 0, fun t ht => ⟨(b3 t ht).trans (a2 t ht).symm, Or.inl (a2 t ht), rfl, rfl, Nat.zero_le 60, fun _ => rfl, fun k hk => absurd hk (Nat.not_lt_zero k)⟩⟩ b2
