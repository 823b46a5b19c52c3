/-! ===== all rows into the kept row ===== -/
def KEPT (kept kd th fm tm ph dg ab bl tu tk sn ev nm : Nat → Int32) : Prop := (∀ i, i < 12 → kept (0 + i) = kd i) ∧ (∀ i, i < 12 → kept (12 + i) = th i) ∧ (∀ i, i < 12 → kept (24 + i) = fm i) ∧ (∀ i, i < 12 → kept (36 + i) = tm i) ∧ (∀ i, i < 12 → kept (48 + i) = ph i) ∧ (∀ i, i < 12 → kept (60 + i) = dg i) ∧ (∀ i, i < 40 → kept (72 + i) = ab i) ∧ (∀ i, i < 40 → kept (112 + i) = bl i) ∧ (∀ i, i < 12 → kept (152 + i) = tu i) ∧ (∀ i, i < 12 → kept (164 + i) = tk i) ∧ (∀ i, i < 15 → kept (176 + i) = sn i) ∧ (∀ i, i < 16 → kept (191 + i) = ev i) ∧ (∀ i, i < 5 → kept (207 + i) = nm i)
theorem keep_in (kept kd th fm tm ph dg ab bl tu tk sn ev nm : Nat → Int32) : ∃ kept', KEPT kept' kd th fm tm ph dg ab bl tu tk sn ev nm ∧ m_X8_carriesAll kd th fm tm ph ab bl dg tu tk sn ev kept nm 0 = some (kd, th, fm, tm, ph, ab, bl, dg, tu, tk, sn, ev, kept', nm) := by
  obtain ⟨c1, q1, e1⟩ := carry_in (off := 0) (sz := 12) (np := 12) (by omega) (by omega) (by omega) kept kd
  have e1 : m_X8_carries kept kd 12 12 0 0 = some (c1, kd, nI 12) := e1
  obtain ⟨c2, q2, e2⟩ := carry_in (off := 12) (sz := 12) (np := 12) (by omega) (by omega) (by omega) c1 th
  have e2 : m_X8_carries c1 th 12 12 (nI 12) 0 = some (c2, th, nI 24) := e2
  obtain ⟨c3, q3, e3⟩ := carry_in (off := 24) (sz := 12) (np := 12) (by omega) (by omega) (by omega) c2 fm
  have e3 : m_X8_carries c2 fm 12 12 (nI 24) 0 = some (c3, fm, nI 36) := e3
  obtain ⟨c4, q4, e4⟩ := carry_in (off := 36) (sz := 12) (np := 12) (by omega) (by omega) (by omega) c3 tm
  have e4 : m_X8_carries c3 tm 12 12 (nI 36) 0 = some (c4, tm, nI 48) := e4
  obtain ⟨c5, q5, e5⟩ := carry_in (off := 48) (sz := 12) (np := 12) (by omega) (by omega) (by omega) c4 ph
  have e5 : m_X8_carries c4 ph 12 12 (nI 48) 0 = some (c5, ph, nI 60) := e5
  obtain ⟨c6, q6, e6⟩ := carry_in (off := 60) (sz := 12) (np := 12) (by omega) (by omega) (by omega) c5 dg
  have e6 : m_X8_carries c5 dg 12 12 (nI 60) 0 = some (c6, dg, nI 72) := e6
  obtain ⟨c7, q7, e7⟩ := carry_in (off := 72) (sz := 40) (np := 40) (by omega) (by omega) (by omega) c6 ab
  have e7 : m_X8_carries c6 ab 40 40 (nI 72) 0 = some (c7, ab, nI 112) := e7
  obtain ⟨c8, q8, e8⟩ := carry_in (off := 112) (sz := 40) (np := 40) (by omega) (by omega) (by omega) c7 bl
  have e8 : m_X8_carries c7 bl 40 40 (nI 112) 0 = some (c8, bl, nI 152) := e8
  obtain ⟨c9, q9, e9⟩ := carry_in (off := 152) (sz := 12) (np := 12) (by omega) (by omega) (by omega) c8 tu
  have e9 : m_X8_carries c8 tu 12 12 (nI 152) 0 = some (c9, tu, nI 164) := e9
  obtain ⟨c10, q10, e10⟩ := carry_in (off := 164) (sz := 12) (np := 12) (by omega) (by omega) (by omega) c9 tk
  have e10 : m_X8_carries c9 tk 12 12 (nI 164) 0 = some (c10, tk, nI 176) := e10
  obtain ⟨c11, q11, e11⟩ := carry_in (off := 176) (sz := 15) (np := 15) (by omega) (by omega) (by omega) c10 sn
  have e11 : m_X8_carries c10 sn 15 15 (nI 176) 0 = some (c11, sn, nI 191) := e11
  obtain ⟨c12, q12, e12⟩ := carry_in (off := 191) (sz := 16) (np := 16) (by omega) (by omega) (by omega) c11 ev
  have e12 : m_X8_carries c11 ev 16 16 (nI 191) 0 = some (c12, ev, nI 207) := e12
  obtain ⟨c13, q13, e13⟩ := carry_in (off := 207) (sz := 5) (np := 5) (by omega) (by omega) (by omega) c12 nm
  have e13 : m_X8_carries c12 nm 5 5 (nI 207) 0 = some (c13, nm, nI 212) := e13
  refine ⟨c13, ⟨?_, ?_, ?_, ?_, ?_, ?_, ?_, ?_, ?_, ?_, ?_, ?_, ?_⟩, ?_⟩
  · intro i hi
    rw [q13, if_neg (by omega), q12, if_neg (by omega), q11, if_neg (by omega), q10, if_neg (by omega), q9, if_neg (by omega), q8, if_neg (by omega), q7, if_neg (by omega), q6, if_neg (by omega), q5, if_neg (by omega), q4, if_neg (by omega), q3, if_neg (by omega), q2, if_neg (by omega), q1, if_pos (by omega)]
    exact congrArg _ (Nat.add_sub_cancel_left _ _)
  · intro i hi
    rw [q13, if_neg (by omega), q12, if_neg (by omega), q11, if_neg (by omega), q10, if_neg (by omega), q9, if_neg (by omega), q8, if_neg (by omega), q7, if_neg (by omega), q6, if_neg (by omega), q5, if_neg (by omega), q4, if_neg (by omega), q3, if_neg (by omega), q2, if_pos (by omega)]
    exact congrArg _ (Nat.add_sub_cancel_left _ _)
  · intro i hi
    rw [q13, if_neg (by omega), q12, if_neg (by omega), q11, if_neg (by omega), q10, if_neg (by omega), q9, if_neg (by omega), q8, if_neg (by omega), q7, if_neg (by omega), q6, if_neg (by omega), q5, if_neg (by omega), q4, if_neg (by omega), q3, if_pos (by omega)]
    exact congrArg _ (Nat.add_sub_cancel_left _ _)
  · intro i hi
    rw [q13, if_neg (by omega), q12, if_neg (by omega), q11, if_neg (by omega), q10, if_neg (by omega), q9, if_neg (by omega), q8, if_neg (by omega), q7, if_neg (by omega), q6, if_neg (by omega), q5, if_neg (by omega), q4, if_pos (by omega)]
    exact congrArg _ (Nat.add_sub_cancel_left _ _)
  · intro i hi
    rw [q13, if_neg (by omega), q12, if_neg (by omega), q11, if_neg (by omega), q10, if_neg (by omega), q9, if_neg (by omega), q8, if_neg (by omega), q7, if_neg (by omega), q6, if_neg (by omega), q5, if_pos (by omega)]
    exact congrArg _ (Nat.add_sub_cancel_left _ _)
  · intro i hi
    rw [q13, if_neg (by omega), q12, if_neg (by omega), q11, if_neg (by omega), q10, if_neg (by omega), q9, if_neg (by omega), q8, if_neg (by omega), q7, if_neg (by omega), q6, if_pos (by omega)]
    exact congrArg _ (Nat.add_sub_cancel_left _ _)
  · intro i hi
    rw [q13, if_neg (by omega), q12, if_neg (by omega), q11, if_neg (by omega), q10, if_neg (by omega), q9, if_neg (by omega), q8, if_neg (by omega), q7, if_pos (by omega)]
    exact congrArg _ (Nat.add_sub_cancel_left _ _)
  · intro i hi
    rw [q13, if_neg (by omega), q12, if_neg (by omega), q11, if_neg (by omega), q10, if_neg (by omega), q9, if_neg (by omega), q8, if_pos (by omega)]
    exact congrArg _ (Nat.add_sub_cancel_left _ _)
  · intro i hi
    rw [q13, if_neg (by omega), q12, if_neg (by omega), q11, if_neg (by omega), q10, if_neg (by omega), q9, if_pos (by omega)]
    exact congrArg _ (Nat.add_sub_cancel_left _ _)
  · intro i hi
    rw [q13, if_neg (by omega), q12, if_neg (by omega), q11, if_neg (by omega), q10, if_pos (by omega)]
    exact congrArg _ (Nat.add_sub_cancel_left _ _)
  · intro i hi
    rw [q13, if_neg (by omega), q12, if_neg (by omega), q11, if_pos (by omega)]
    exact congrArg _ (Nat.add_sub_cancel_left _ _)
  · intro i hi
    rw [q13, if_neg (by omega), q12, if_pos (by omega)]
    exact congrArg _ (Nat.add_sub_cancel_left _ _)
  · intro i hi
    rw [q13, if_pos (by omega)]
    exact congrArg _ (Nat.add_sub_cancel_left _ _)
  · unfold m_X8_carriesAll
    rw [e1, cl_s]
    dsimp only
    rw [e2, cl_s]
    dsimp only
    rw [e3, cl_s]
    dsimp only
    rw [e4, cl_s]
    dsimp only
    rw [e5, cl_s]
    dsimp only
    rw [e6, cl_s]
    dsimp only
    rw [e7, cl_s]
    dsimp only
    rw [e8, cl_s]
    dsimp only
    rw [e9, cl_s]
    dsimp only
    rw [e10, cl_s]
    dsimp only
    rw [e11, cl_s]
    dsimp only
    rw [e12, cl_s]
    dsimp only
    rw [e13, cl_s]
theorem keep_out (kept kd th fm tm ph dg ab bl tu tk sn ev nm k_kd k_th k_fm k_tm k_ph k_dg k_ab k_bl k_tu k_tk k_sn k_ev k_nm : Nat → Int32) (h : KEPT kept k_kd k_th k_fm k_tm k_ph k_dg k_ab k_bl k_tu k_tk k_sn k_ev k_nm) : ∃ n_kd n_th n_fm n_tm n_ph n_dg n_ab n_bl n_tu n_tk n_sn n_ev n_nm, (∀ i, i < 12 → n_kd i = k_kd i) ∧ (∀ i, i < 12 → n_th i = k_th i) ∧ (∀ i, i < 12 → n_fm i = k_fm i) ∧ (∀ i, i < 12 → n_tm i = k_tm i) ∧ (∀ i, i < 12 → n_ph i = k_ph i) ∧ (∀ i, i < 12 → n_dg i = k_dg i) ∧ (∀ i, i < 40 → n_ab i = k_ab i) ∧ (∀ i, i < 40 → n_bl i = k_bl i) ∧ (∀ i, i < 12 → n_tu i = k_tu i) ∧ (∀ i, i < 12 → n_tk i = k_tk i) ∧ (∀ i, i < 15 → n_sn i = k_sn i) ∧ (∀ i, i < 16 → n_ev i = k_ev i) ∧ (∀ i, i < 5 → n_nm i = k_nm i) ∧ m_X8_carriesAll kd th fm tm ph ab bl dg tu tk sn ev kept nm 1 = some (n_kd, n_th, n_fm, n_tm, n_ph, n_ab, n_bl, n_dg, n_tu, n_tk, n_sn, n_ev, kept, n_nm) := by
  obtain ⟨h1, h2, h3, h4, h5, h6, h7, h8, h9, h10, h11, h12, h13⟩ := h
  obtain ⟨r1, q1, e1⟩ := carry_out (off := 0) (sz := 12) (np := 12) (by omega) (by omega) (by omega) kept kd
  have e1 : m_X8_carries kept kd 12 12 0 1 = some (kept, r1, nI 12) := e1
  obtain ⟨r2, q2, e2⟩ := carry_out (off := 12) (sz := 12) (np := 12) (by omega) (by omega) (by omega) kept th
  have e2 : m_X8_carries kept th 12 12 (nI 12) 1 = some (kept, r2, nI 24) := e2
  obtain ⟨r3, q3, e3⟩ := carry_out (off := 24) (sz := 12) (np := 12) (by omega) (by omega) (by omega) kept fm
  have e3 : m_X8_carries kept fm 12 12 (nI 24) 1 = some (kept, r3, nI 36) := e3
  obtain ⟨r4, q4, e4⟩ := carry_out (off := 36) (sz := 12) (np := 12) (by omega) (by omega) (by omega) kept tm
  have e4 : m_X8_carries kept tm 12 12 (nI 36) 1 = some (kept, r4, nI 48) := e4
  obtain ⟨r5, q5, e5⟩ := carry_out (off := 48) (sz := 12) (np := 12) (by omega) (by omega) (by omega) kept ph
  have e5 : m_X8_carries kept ph 12 12 (nI 48) 1 = some (kept, r5, nI 60) := e5
  obtain ⟨r6, q6, e6⟩ := carry_out (off := 60) (sz := 12) (np := 12) (by omega) (by omega) (by omega) kept dg
  have e6 : m_X8_carries kept dg 12 12 (nI 60) 1 = some (kept, r6, nI 72) := e6
  obtain ⟨r7, q7, e7⟩ := carry_out (off := 72) (sz := 40) (np := 40) (by omega) (by omega) (by omega) kept ab
  have e7 : m_X8_carries kept ab 40 40 (nI 72) 1 = some (kept, r7, nI 112) := e7
  obtain ⟨r8, q8, e8⟩ := carry_out (off := 112) (sz := 40) (np := 40) (by omega) (by omega) (by omega) kept bl
  have e8 : m_X8_carries kept bl 40 40 (nI 112) 1 = some (kept, r8, nI 152) := e8
  obtain ⟨r9, q9, e9⟩ := carry_out (off := 152) (sz := 12) (np := 12) (by omega) (by omega) (by omega) kept tu
  have e9 : m_X8_carries kept tu 12 12 (nI 152) 1 = some (kept, r9, nI 164) := e9
  obtain ⟨r10, q10, e10⟩ := carry_out (off := 164) (sz := 12) (np := 12) (by omega) (by omega) (by omega) kept tk
  have e10 : m_X8_carries kept tk 12 12 (nI 164) 1 = some (kept, r10, nI 176) := e10
  obtain ⟨r11, q11, e11⟩ := carry_out (off := 176) (sz := 15) (np := 15) (by omega) (by omega) (by omega) kept sn
  have e11 : m_X8_carries kept sn 15 15 (nI 176) 1 = some (kept, r11, nI 191) := e11
  obtain ⟨r12, q12, e12⟩ := carry_out (off := 191) (sz := 16) (np := 16) (by omega) (by omega) (by omega) kept ev
  have e12 : m_X8_carries kept ev 16 16 (nI 191) 1 = some (kept, r12, nI 207) := e12
  obtain ⟨r13, q13, e13⟩ := carry_out (off := 207) (sz := 5) (np := 5) (by omega) (by omega) (by omega) kept nm
  have e13 : m_X8_carries kept nm 5 5 (nI 207) 1 = some (kept, r13, nI 212) := e13
  refine ⟨r1, r2, r3, r4, r5, r6, r7, r8, r9, r10, r11, r12, r13, ?_, ?_, ?_, ?_, ?_, ?_, ?_, ?_, ?_, ?_, ?_, ?_, ?_, ?_⟩
  · intro i hi
    rw [q1, if_pos hi, h1 i hi]
  · intro i hi
    rw [q2, if_pos hi, h2 i hi]
  · intro i hi
    rw [q3, if_pos hi, h3 i hi]
  · intro i hi
    rw [q4, if_pos hi, h4 i hi]
  · intro i hi
    rw [q5, if_pos hi, h5 i hi]
  · intro i hi
    rw [q6, if_pos hi, h6 i hi]
  · intro i hi
    rw [q7, if_pos hi, h7 i hi]
  · intro i hi
    rw [q8, if_pos hi, h8 i hi]
  · intro i hi
    rw [q9, if_pos hi, h9 i hi]
  · intro i hi
    rw [q10, if_pos hi, h10 i hi]
  · intro i hi
    rw [q11, if_pos hi, h11 i hi]
  · intro i hi
    rw [q12, if_pos hi, h12 i hi]
  · intro i hi
    rw [q13, if_pos hi, h13 i hi]
  · unfold m_X8_carriesAll
    rw [e1, cl_s]
    dsimp only
    rw [e2, cl_s]
    dsimp only
    rw [e3, cl_s]
    dsimp only
    rw [e4, cl_s]
    dsimp only
    rw [e5, cl_s]
    dsimp only
    rw [e6, cl_s]
    dsimp only
    rw [e7, cl_s]
    dsimp only
    rw [e8, cl_s]
    dsimp only
    rw [e9, cl_s]
    dsimp only
    rw [e10, cl_s]
    dsimp only
    rw [e11, cl_s]
    dsimp only
    rw [e12, cl_s]
    dsimp only
    rw [e13, cl_s]
