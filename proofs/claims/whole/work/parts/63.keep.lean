/-! ===== the kept row ===== -/
theorem carry_in {off sz np : Nat} (h : off + sz ≤ 240) (hs : sz ≤ np) (hn : np ≤ 40) (kept row : Nat → Int32) : ∃ kept', (∀ x, kept' x = if off ≤ x ∧ x < off + sz then row (x - off) else kept x) ∧ m_X8_carries kept row np (nI sz) (nI off) 0 = some (kept', row, nI (off + sz)) := by
  unfold m_X8_carries
  obtain ⟨s, q1, q2⟩ := lpx (fun f i (s : Nat → Int32) => m_X8_carries_L3 np (nI sz) (nI off) 0 f i s row (fun x5_3 y_f_kept_3 y_p1_row_3 => some (y_f_kept_3, y_p1_row_3, (nI off + nI sz)))) (fun s => some (s, row, nI off + nI sz)) sz (fun j s => ∀ x, s x = if off ≤ x ∧ x < off + j then row (x - off) else kept x)
    (fun f j s hj hP => by
      have c0 : ¬ nI sz ≤ nI j := by rw [n_le (by omega) (by omega)]; omega
      refine ⟨upd s (off + j) (row j), by rw [m_X8_carries_L3, if_neg c0, if_pos rfl, ag_n (by omega) (by omega), nI_add, au_n (by omega) (by omega), nI_1], fun x => ?_⟩
      by_cases c : x = off + j
      · subst c; rw [upd_s, if_pos (by omega)]; congr 1; omega
      · rw [upd_n c, hP x]
        by_cases d : off ≤ x ∧ x < off + j
        · rw [if_pos d, if_pos (by omega)]
        · rw [if_neg d, if_neg (by omega)])
    (fun f s _ => by
      have c0 : nI sz ≤ nI sz := by rw [n_le (by omega) (by omega)]; omega
      rw [m_X8_carries_L3, if_pos c0]) 0 kept (Nat.zero_le sz) (by omega) (fun x => by rw [if_neg (by omega)])
  refine ⟨s, q1, ?_⟩
  rw [nI_add] at q2
  refine Eq.trans ?_ q2
  rw [nI_add]
  rfl
theorem carry_out {off sz np : Nat} (h : off + sz ≤ 240) (hs : sz ≤ np) (hn : np ≤ 40) (kept row : Nat → Int32) : ∃ row', (∀ x, row' x = if x < sz then kept (off + x) else row x) ∧ m_X8_carries kept row np (nI sz) (nI off) 1 = some (kept, row', nI (off + sz)) := by
  unfold m_X8_carries
  obtain ⟨s, q1, q2⟩ := lpx (fun f i (s : Nat → Int32) => m_X8_carries_L3 np (nI sz) (nI off) 1 f i kept s (fun x5_3 y_f_kept_3 y_p1_row_3 => some (y_f_kept_3, y_p1_row_3, (nI off + nI sz)))) (fun s => some (kept, s, nI off + nI sz)) sz (fun j s => ∀ x, s x = if x < j then kept (off + x) else row x)
    (fun f j s hj hP => by
      have c0 : ¬ nI sz ≤ nI j := by rw [n_le (by omega) (by omega)]; omega
      refine ⟨upd s j (kept (off + j)), by rw [m_X8_carries_L3, if_neg c0, if_neg (by decide), nI_add, ag_n (by omega) (by omega), au_n (by omega) (by omega), nI_1], fun x => ?_⟩
      by_cases c : x = j
      · subst c; rw [upd_s, if_pos (by omega)]
      · rw [upd_n c, hP x]
        by_cases d : x < j
        · rw [if_pos d, if_pos (by omega)]
        · rw [if_neg d, if_neg (by omega)])
    (fun f s _ => by
      have c0 : nI sz ≤ nI sz := by rw [n_le (by omega) (by omega)]; omega
      rw [m_X8_carries_L3, if_pos c0]) 0 row (Nat.zero_le sz) (by omega) (fun x => by rw [if_neg (by omega)])
  refine ⟨s, q1, ?_⟩
  rw [nI_add] at q2
  refine Eq.trans ?_ q2
  rw [nI_add]
  rfl
