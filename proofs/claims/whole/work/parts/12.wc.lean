set_option maxHeartbeats 0 in
set_option maxRecDepth 100000 in
theorem c_X8_in (G : GT) (l : Launch) (a_1 : Int32) (a_2 : Int32) (a_3 : Int32) {res : Int32} (hm : m_X8_in a_1 a_2 a_3 = some res) : CT G l yX8_in cX8_in 3 (some .boolean) 0 0 [.int a_1, .int a_2, .int a_3] [] [] (some (.int res)) := by
  refine ctZ (plainFor_of_name (by decide)) (Nat.le_of_ble_eq_true rfl) ?_
  intro p e s m below meth c A ls Q hx hb hml hown hts hK hG hA hP hD hS hl fin
  have hown : s.vm.findClass RX8 = some m.cls := hown
  have hl : lv_has ls 3 [(0, .int a_1), (1, .int a_2), (2, .int a_3)] := hl
  unfold m_X8_in at hm
  refine lv_iload_n hx hb dX8_in_0 rfl (lv_at hl 0 rfl) ?_
  refine lv_iload_n hx hb dX8_in_1 rfl (lv_at hl 1 rfl) ?_
  refine ic_lt (tgt := 14) hx hb dX8_in_2 (by decide) hm (fun hm => ?_) (fun hm => ?_)
  · refine lv_iconst (v := 0) hx hb dX8_in_14 (by decide) ?_
    cases hm
    exact fin _ _ _ _ dX8_in_15 (Or.inl rfl) hP hD hS
  refine lv_iload_n hx hb dX8_in_5 rfl (lv_at hl 0 rfl) ?_
  refine lv_iload_n hx hb dX8_in_6 rfl (lv_at hl 2 rfl) ?_
  refine ic_gt (tgt := 14) hx hb dX8_in_7 (by decide) hm (fun hm => ?_) (fun hm => ?_)
  · refine lv_iconst (v := 0) hx hb dX8_in_14 (by decide) ?_
    cases hm
    exact fin _ _ _ _ dX8_in_15 (Or.inl rfl) hP hD hS
  refine lv_iconst (v := 1) hx hb dX8_in_10 (by decide) ?_
  refine lv_goto (tgt := 15) hx hb dX8_in_11 (by decide) ?_
  cases hm
  exact fin _ _ _ _ dX8_in_15 (Or.inr rfl) hP hD hS
set_option maxHeartbeats 0 in
set_option maxRecDepth 100000 in
theorem c_X8_isUnit (G : GT) (l : Launch) (q_this : Nat) (f_thrown : Int32) (f_units : Int32) (q_kinds : Nat) (q_thicks : Nat) (q_froms : Nat) (q_tos : Nat) (q_phases : Nat) (f_ties : Int32) (q_aboves : Nat) (q_belows : Nat) (q_dug : Nat) (f_dugMany : Int32) (q_under : Nat) (q_over : Nat) (q_reached : Nat) (q_reaching : Nat) (q_levels : Nat) (q_shown : Nat) (q_far : Nat) (f_code : Int32) (f_cause : Int32) (f_last : Int32) (q_ways : Nat) (q_trayUnit : Nat) (q_trayKind : Nat) (q_text : Nat) (f_texted : Int32) (f_at : Int32) (f_fault : Int32) (q_sentences : Nat) (q_verbs : Nat) (q_paper : Nat) (f_papered : Int32) (q_seen : Nat) (f_seenMany : Int32) (q_events : Nat) (f_eventMany : Int32) (q_wasAbove : Nat) (q_wasBelow : Nat) (q_wasFrom : Nat) (q_wasTo : Nat) (q_kept : Nat) (q_numbers : Nat) (f_hasImage : Int32) (q_sorts : Nat) (q_sizes : Nat) (q_cells : Nat) (q_carried : Nat) (a_1 : Int32) {res : Int32} (hm : m_X8_isUnit f_units a_1 = some res) : CT G l yX8_isUnit cX8_isUnit 2 (some .boolean) 1 22 [.ref q_this, .int a_1] [(q_this, .inr (8, [.int f_thrown, .int f_units, .ref q_kinds, .ref q_thicks, .ref q_froms, .ref q_tos, .ref q_phases, .int f_ties, .ref q_aboves, .ref q_belows, .ref q_dug, .int f_dugMany, .ref q_under, .ref q_over, .ref q_reached, .ref q_reaching, .ref q_levels, .ref q_shown, .ref q_far, .int f_code, .int f_cause, .int f_last, .ref q_ways, .ref q_trayUnit, .ref q_trayKind, .ref q_text, .int f_texted, .int f_at, .int f_fault, .ref q_sentences, .ref q_verbs, .ref q_paper, .int f_papered, .ref q_seen, .int f_seenMany, .ref q_events, .int f_eventMany, .ref q_wasAbove, .ref q_wasBelow, .ref q_wasFrom, .ref q_wasTo, .ref q_kept, .ref q_numbers, .int f_hasImage, .ref q_sorts, .ref q_sizes, .ref q_cells, .ref q_carried]))] [(q_this, .inr (8, [.int f_thrown, .int f_units, .ref q_kinds, .ref q_thicks, .ref q_froms, .ref q_tos, .ref q_phases, .int f_ties, .ref q_aboves, .ref q_belows, .ref q_dug, .int f_dugMany, .ref q_under, .ref q_over, .ref q_reached, .ref q_reaching, .ref q_levels, .ref q_shown, .ref q_far, .int f_code, .int f_cause, .int f_last, .ref q_ways, .ref q_trayUnit, .ref q_trayKind, .ref q_text, .int f_texted, .int f_at, .int f_fault, .ref q_sentences, .ref q_verbs, .ref q_paper, .int f_papered, .ref q_seen, .int f_seenMany, .ref q_events, .int f_eventMany, .ref q_wasAbove, .ref q_wasBelow, .ref q_wasFrom, .ref q_wasTo, .ref q_kept, .ref q_numbers, .int f_hasImage, .ref q_sorts, .ref q_sizes, .ref q_cells, .ref q_carried]))] (some (.int res)) := by
  refine ctZ (plainFor_of_name (by decide)) (Nat.le_of_ble_eq_true rfl) ?_
  intro p e s m below meth c A ls Q hx hb hml hown hts hK hG hA hP hD hS hl fin
  have hown : s.vm.findClass RX8 = some m.cls := hown
  have hl : lv_has ls 2 [(0, .ref q_this), (1, .int a_1)] := hl
  unfold m_X8_isUnit at hm
  refine lv_iload_n hx hb dX8_isUnit_0 rfl (lv_at hl 1 rfl) ?_
  refine lv_iconst (v := 0) hx hb dX8_isUnit_1 (by decide) ?_
  refine lv_aload_n hx hb dX8_isUnit_2 rfl (lv_at hl 0 rfl) ?_
  refine gf_X8_119 (v := .int f_units) hx hb hts hown hK hP 0 rfl rfl dX8_isUnit_3 ?_
  refine lv_iconst (v := 1) hx hb dX8_isUnit_6 (by decide) ?_
  refine lv_isub hx hb dX8_isUnit_7 ?_
  obtain ⟨r_1, h_2, hm⟩ := cl_elim hm
  refine w_callS (As := [.int a_1, .int (0 : Int32), .int (f_units - (1 : Int32))]) (rest := []) (wr := [(q_this, .inr (8, [.int f_thrown, .int f_units, .ref q_kinds, .ref q_thicks, .ref q_froms, .ref q_tos, .ref q_phases, .int f_ties, .ref q_aboves, .ref q_belows, .ref q_dug, .int f_dugMany, .ref q_under, .ref q_over, .ref q_reached, .ref q_reaching, .ref q_levels, .ref q_shown, .ref q_far, .int f_code, .int f_cause, .int f_last, .ref q_ways, .ref q_trayUnit, .ref q_trayKind, .ref q_text, .int f_texted, .int f_at, .int f_fault, .ref q_sentences, .ref q_verbs, .ref q_paper, .int f_papered, .ref q_seen, .int f_seenMany, .ref q_events, .int f_eventMany, .ref q_wasAbove, .ref q_wasBelow, .ref q_wasFrom, .ref q_wasTo, .ref q_kept, .ref q_numbers, .int f_hasImage, .ref q_sorts, .ref q_sizes, .ref q_cells, .ref q_carried]))]) (W1 := [(q_this, .inr (8, [.int f_thrown, .int f_units, .ref q_kinds, .ref q_thicks, .ref q_froms, .ref q_tos, .ref q_phases, .int f_ties, .ref q_aboves, .ref q_belows, .ref q_dug, .int f_dugMany, .ref q_under, .ref q_over, .ref q_reached, .ref q_reaching, .ref q_levels, .ref q_shown, .ref q_far, .int f_code, .int f_cause, .int f_last, .ref q_ways, .ref q_trayUnit, .ref q_trayKind, .ref q_text, .int f_texted, .int f_at, .int f_fault, .ref q_sentences, .ref q_verbs, .ref q_paper, .int f_papered, .ref q_seen, .int f_seenMany, .ref q_events, .int f_eventMany, .ref q_wasAbove, .ref q_wasBelow, .ref q_wasFrom, .ref q_wasTo, .ref q_kept, .ref q_numbers, .int f_hasImage, .ref q_sorts, .ref q_sizes, .ref q_cells, .ref q_carried]))]) hx hb hml hown hts hK hG hP hD hS hA (c_X8_in G l a_1 (0 : Int32) (f_units - (1 : Int32)) h_2) kc_X8_in ks_X8_in bw1128 rfl hl.1 rfl (Nat.le_of_ble_eq_true rfl) dX8_isUnit_8 (Nat.le_of_ble_eq_true rfl) (Nat.le_of_ble_eq_true rfl) ⟨Nat.le_refl _, Nat.le_refl _⟩ [] [0] [0] rfl rfl rfl rfl (by decide) rfl rfl (fun H locs hP hD hS => ?_)
  obtain ⟨hz, hm⟩ := zg_elim hm
  cases hm
  exact fin _ _ _ _ dX8_isUnit_11 hz hP hD hS
set_option maxHeartbeats 0 in
set_option maxRecDepth 100000 in
theorem c_X8_areTwo (G : GT) (l : Launch) (q_this : Nat) (f_thrown : Int32) (f_units : Int32) (q_kinds : Nat) (q_thicks : Nat) (q_froms : Nat) (q_tos : Nat) (q_phases : Nat) (f_ties : Int32) (q_aboves : Nat) (q_belows : Nat) (q_dug : Nat) (f_dugMany : Int32) (q_under : Nat) (q_over : Nat) (q_reached : Nat) (q_reaching : Nat) (q_levels : Nat) (q_shown : Nat) (q_far : Nat) (f_code : Int32) (f_cause : Int32) (f_last : Int32) (q_ways : Nat) (q_trayUnit : Nat) (q_trayKind : Nat) (q_text : Nat) (f_texted : Int32) (f_at : Int32) (f_fault : Int32) (q_sentences : Nat) (q_verbs : Nat) (q_paper : Nat) (f_papered : Int32) (q_seen : Nat) (f_seenMany : Int32) (q_events : Nat) (f_eventMany : Int32) (q_wasAbove : Nat) (q_wasBelow : Nat) (q_wasFrom : Nat) (q_wasTo : Nat) (q_kept : Nat) (q_numbers : Nat) (f_hasImage : Int32) (q_sorts : Nat) (q_sizes : Nat) (q_cells : Nat) (q_carried : Nat) (a_1 : Int32) (a_2 : Int32) {res : Int32} (hm : m_X8_areTwo f_units a_1 a_2 = some res) : CT G l yX8_areTwo cX8_areTwo 3 (some .boolean) 2 43 [.ref q_this, .int a_1, .int a_2] [(q_this, .inr (8, [.int f_thrown, .int f_units, .ref q_kinds, .ref q_thicks, .ref q_froms, .ref q_tos, .ref q_phases, .int f_ties, .ref q_aboves, .ref q_belows, .ref q_dug, .int f_dugMany, .ref q_under, .ref q_over, .ref q_reached, .ref q_reaching, .ref q_levels, .ref q_shown, .ref q_far, .int f_code, .int f_cause, .int f_last, .ref q_ways, .ref q_trayUnit, .ref q_trayKind, .ref q_text, .int f_texted, .int f_at, .int f_fault, .ref q_sentences, .ref q_verbs, .ref q_paper, .int f_papered, .ref q_seen, .int f_seenMany, .ref q_events, .int f_eventMany, .ref q_wasAbove, .ref q_wasBelow, .ref q_wasFrom, .ref q_wasTo, .ref q_kept, .ref q_numbers, .int f_hasImage, .ref q_sorts, .ref q_sizes, .ref q_cells, .ref q_carried]))] [(q_this, .inr (8, [.int f_thrown, .int f_units, .ref q_kinds, .ref q_thicks, .ref q_froms, .ref q_tos, .ref q_phases, .int f_ties, .ref q_aboves, .ref q_belows, .ref q_dug, .int f_dugMany, .ref q_under, .ref q_over, .ref q_reached, .ref q_reaching, .ref q_levels, .ref q_shown, .ref q_far, .int f_code, .int f_cause, .int f_last, .ref q_ways, .ref q_trayUnit, .ref q_trayKind, .ref q_text, .int f_texted, .int f_at, .int f_fault, .ref q_sentences, .ref q_verbs, .ref q_paper, .int f_papered, .ref q_seen, .int f_seenMany, .ref q_events, .int f_eventMany, .ref q_wasAbove, .ref q_wasBelow, .ref q_wasFrom, .ref q_wasTo, .ref q_kept, .ref q_numbers, .int f_hasImage, .ref q_sorts, .ref q_sizes, .ref q_cells, .ref q_carried]))] (some (.int res)) := by
  refine ctZ (plainFor_of_name (by decide)) (Nat.le_of_ble_eq_true rfl) ?_
  intro p e s m below meth c A ls Q hx hb hml hown hts hK hG hA hP hD hS hl fin
  have hown : s.vm.findClass RX8 = some m.cls := hown
  have hl : lv_has ls 3 [(0, .ref q_this), (1, .int a_1), (2, .int a_2)] := hl
  unfold m_X8_areTwo at hm
  refine lv_aload_n hx hb dX8_areTwo_0 rfl (lv_at hl 0 rfl) ?_
  refine lv_iload_n hx hb dX8_areTwo_1 rfl (lv_at hl 1 rfl) ?_
  obtain ⟨r_1, h_2, hm⟩ := cl_elim hm
  refine w_callV (As := [.int a_1]) (rest := []) (wr := []) (W1 := [(q_this, .inr (8, [.int f_thrown, .int f_units, .ref q_kinds, .ref q_thicks, .ref q_froms, .ref q_tos, .ref q_phases, .int f_ties, .ref q_aboves, .ref q_belows, .ref q_dug, .int f_dugMany, .ref q_under, .ref q_over, .ref q_reached, .ref q_reaching, .ref q_levels, .ref q_shown, .ref q_far, .int f_code, .int f_cause, .int f_last, .ref q_ways, .ref q_trayUnit, .ref q_trayKind, .ref q_text, .int f_texted, .int f_at, .int f_fault, .ref q_sentences, .ref q_verbs, .ref q_paper, .int f_papered, .ref q_seen, .int f_seenMany, .ref q_events, .int f_eventMany, .ref q_wasAbove, .ref q_wasBelow, .ref q_wasFrom, .ref q_wasTo, .ref q_kept, .ref q_numbers, .int f_hasImage, .ref q_sorts, .ref q_sizes, .ref q_cells, .ref q_carried]))]) (ci := 8) (q0 := 0) hx hb hml hown hts hK hG hP hD hS hA (c_X8_isUnit G l q_this f_thrown f_units q_kinds q_thicks q_froms q_tos q_phases f_ties q_aboves q_belows q_dug f_dugMany q_under q_over q_reached q_reaching q_levels q_shown q_far f_code f_cause f_last q_ways q_trayUnit q_trayKind q_text f_texted f_at f_fault q_sentences q_verbs q_paper f_papered q_seen f_seenMany q_events f_eventMany q_wasAbove q_wasBelow q_wasFrom q_wasTo q_kept q_numbers f_hasImage q_sorts q_sizes q_cells q_carried a_1 h_2) kc_X8_isUnit ki_X8_isUnit bw1135 rfl rfl rfl hl.1 rfl (Nat.le_of_ble_eq_true rfl) dX8_areTwo_2 (Nat.le_of_ble_eq_true rfl) (Nat.le_of_ble_eq_true rfl) ⟨Nat.le_refl _, Nat.le_refl _⟩ [0] [] [0] rfl rfl rfl rfl (by decide) rfl rfl (fun H locs hP hD hS => ?_)
  refine if_eq (tgt := 25) hx hb dX8_areTwo_5 (by decide) hm (fun hm => ?_) (fun hm => ?_)
  · refine lv_iconst (v := 0) hx hb dX8_areTwo_25 (by decide) ?_
    cases hm
    exact fin _ _ _ _ dX8_areTwo_26 (Or.inl rfl) hP hD hS
  refine lv_aload_n hx hb dX8_areTwo_8 rfl (lv_at hl 0 rfl) ?_
  refine lv_iload_n hx hb dX8_areTwo_9 rfl (lv_at hl 2 rfl) ?_
  obtain ⟨r_3, h_4, hm⟩ := cl_elim hm
  refine w_callV (As := [.int a_2]) (rest := []) (wr := []) (W1 := [(q_this, .inr (8, [.int f_thrown, .int f_units, .ref q_kinds, .ref q_thicks, .ref q_froms, .ref q_tos, .ref q_phases, .int f_ties, .ref q_aboves, .ref q_belows, .ref q_dug, .int f_dugMany, .ref q_under, .ref q_over, .ref q_reached, .ref q_reaching, .ref q_levels, .ref q_shown, .ref q_far, .int f_code, .int f_cause, .int f_last, .ref q_ways, .ref q_trayUnit, .ref q_trayKind, .ref q_text, .int f_texted, .int f_at, .int f_fault, .ref q_sentences, .ref q_verbs, .ref q_paper, .int f_papered, .ref q_seen, .int f_seenMany, .ref q_events, .int f_eventMany, .ref q_wasAbove, .ref q_wasBelow, .ref q_wasFrom, .ref q_wasTo, .ref q_kept, .ref q_numbers, .int f_hasImage, .ref q_sorts, .ref q_sizes, .ref q_cells, .ref q_carried]))]) (ci := 8) (q0 := 0) hx hb hml hown hts hK hG hP hD hS hA (c_X8_isUnit G l q_this f_thrown f_units q_kinds q_thicks q_froms q_tos q_phases f_ties q_aboves q_belows q_dug f_dugMany q_under q_over q_reached q_reaching q_levels q_shown q_far f_code f_cause f_last q_ways q_trayUnit q_trayKind q_text f_texted f_at f_fault q_sentences q_verbs q_paper f_papered q_seen f_seenMany q_events f_eventMany q_wasAbove q_wasBelow q_wasFrom q_wasTo q_kept q_numbers f_hasImage q_sorts q_sizes q_cells q_carried a_2 h_4) kc_X8_isUnit ki_X8_isUnit bw1135 rfl rfl rfl hl.1 rfl (Nat.le_of_ble_eq_true rfl) dX8_areTwo_10 (Nat.le_of_ble_eq_true rfl) (Nat.le_of_ble_eq_true rfl) ⟨Nat.le_refl _, Nat.le_refl _⟩ [0] [] [0] rfl rfl rfl rfl (by decide) rfl rfl (fun H locs hP hD hS => ?_)
  refine if_eq (tgt := 25) hx hb dX8_areTwo_13 (by decide) hm (fun hm => ?_) (fun hm => ?_)
  · refine lv_iconst (v := 0) hx hb dX8_areTwo_25 (by decide) ?_
    cases hm
    exact fin _ _ _ _ dX8_areTwo_26 (Or.inl rfl) hP hD hS
  refine lv_iload_n hx hb dX8_areTwo_16 rfl (lv_at hl 1 rfl) ?_
  refine lv_iload_n hx hb dX8_areTwo_17 rfl (lv_at hl 2 rfl) ?_
  refine ic_eq (tgt := 25) hx hb dX8_areTwo_18 (by decide) hm (fun hm => ?_) (fun hm => ?_)
  · refine lv_iconst (v := 0) hx hb dX8_areTwo_25 (by decide) ?_
    cases hm
    exact fin _ _ _ _ dX8_areTwo_26 (Or.inl rfl) hP hD hS
  refine lv_iconst (v := 1) hx hb dX8_areTwo_21 (by decide) ?_
  refine lv_goto (tgt := 26) hx hb dX8_areTwo_22 (by decide) ?_
  cases hm
  exact fin _ _ _ _ dX8_areTwo_26 (Or.inr rfl) hP hD hS
set_option maxHeartbeats 0 in
set_option maxRecDepth 100000 in
theorem c_X8_isPhase (G : GT) (l : Launch) (a_1 : Int32) {res : Int32} (hm : m_X8_isPhase a_1 = some res) : CT G l yX8_isPhase cX8_isPhase 1 (some .boolean) 1 22 [.int a_1] [] [] (some (.int res)) := by
  refine ctZ (plainFor_of_name (by decide)) (Nat.le_of_ble_eq_true rfl) ?_
  intro p e s m below meth c A ls Q hx hb hml hown hts hK hG hA hP hD hS hl fin
  have hown : s.vm.findClass RX8 = some m.cls := hown
  have hl : lv_has ls 1 [(0, .int a_1)] := hl
  unfold m_X8_isPhase at hm
  refine lv_iload_n hx hb dX8_isPhase_0 rfl (lv_at hl 0 rfl) ?_
  refine lv_iconst (v := 0) hx hb dX8_isPhase_1 (by decide) ?_
  refine lv_iconst (v := 5) hx hb dX8_isPhase_2 (by decide) ?_
  obtain ⟨r_1, h_2, hm⟩ := cl_elim hm
  refine w_callS (As := [.int a_1, .int (0 : Int32), .int (5 : Int32)]) (rest := []) (wr := []) (W1 := []) hx hb hml hown hts hK hG hP hD hS hA (c_X8_in G l a_1 (0 : Int32) (5 : Int32) h_2) kc_X8_in ks_X8_in bw1128 rfl hl.1 rfl (Nat.le_of_ble_eq_true rfl) dX8_isPhase_3 (Nat.le_of_ble_eq_true rfl) (Nat.le_of_ble_eq_true rfl) ⟨Nat.le_refl _, Nat.le_refl _⟩ [] [] [] rfl rfl rfl rfl (by decide) rfl rfl (fun H locs hP hD hS => ?_)
  obtain ⟨hz, hm⟩ := zg_elim hm
  cases hm
  exact fin _ _ _ _ dX8_isPhase_6 hz hP hD hS
set_option maxHeartbeats 0 in
set_option maxRecDepth 100000 in
theorem c_X8_has (G : GT) (l : Launch) (a_1 : Int32) (a_2 : Int32) {res : Int32} (hm : m_X8_has a_1 a_2 = some res) : CT G l yX8_has cX8_has 2 (some .boolean) 0 0 [.int a_1, .int a_2] [] [] (some (.int res)) := by
  refine ctZ (plainFor_of_name (by decide)) (Nat.le_of_ble_eq_true rfl) ?_
  intro p e s m below meth c A ls Q hx hb hml hown hts hK hG hA hP hD hS hl fin
  have hown : s.vm.findClass RX8 = some m.cls := hown
  have hl : lv_has ls 2 [(0, .int a_1), (1, .int a_2)] := hl
  unfold m_X8_has at hm
  refine lv_iload_n hx hb dX8_has_0 rfl (lv_at hl 0 rfl) ?_
  refine lv_iload_n hx hb dX8_has_1 rfl (lv_at hl 1 rfl) ?_
  refine lv_ishr hx hb dX8_has_2 ?_
  refine lv_iconst (v := 1) hx hb dX8_has_3 (by decide) ?_
  refine lv_iand hx hb dX8_has_4 ?_
  refine lv_iconst (v := 1) hx hb dX8_has_5 (by decide) ?_
  refine ic_ne (tgt := 13) hx hb dX8_has_6 (by decide) hm (fun hm => ?_) (fun hm => ?_)
  · refine lv_iconst (v := 0) hx hb dX8_has_13 (by decide) ?_
    cases hm
    exact fin _ _ _ _ dX8_has_14 (Or.inl rfl) hP hD hS
  refine lv_iconst (v := 1) hx hb dX8_has_9 (by decide) ?_
  refine lv_goto (tgt := 14) hx hb dX8_has_10 (by decide) ?_
  cases hm
  exact fin _ _ _ _ dX8_has_14 (Or.inr rfl) hP hD hS
set_option maxHeartbeats 0 in
set_option maxRecDepth 100000 in
theorem c_X8_sizeOf (G : GT) (l : Launch) (a_1 : Int32) {res : Int32} (hm : m_X8_sizeOf a_1 = some res) : CT G l yX8_sizeOf cX8_sizeOf 3 (some .int) 0 0 [.int a_1] [] [] (some (.int res)) := by
  refine ctI (plainFor_of_name (by decide)) (Nat.le_of_ble_eq_true rfl) ?_
  intro p e s m below meth c A ls Q hx hb hml hown hts hK hG hA hP hD hS hl fin
  have hown : s.vm.findClass RX8 = some m.cls := hown
  have hl : lv_has ls 3 [(0, .int a_1)] := hl
  unfold m_X8_sizeOf at hm
  refine lv_iconst (v := 0) hx hb dX8_sizeOf_0 (by decide) ?_
  refine lv_istore_n (lv' := [(1, .int (0 : Int32)), (0, .int a_1)]) hx hb dX8_sizeOf_1 rfl hl (by decide) rfl (fun ls hl => ?_)
  refine lv_iconst (v := 0) hx hb dX8_sizeOf_2 (by decide) ?_
  refine lv_istore_n (lv' := [(2, .int (0 : Int32)), (1, .int (0 : Int32)), (0, .int a_1)]) hx hb dX8_sizeOf_3 rfl hl (by decide) rfl (fun ls hl => ?_)
  have hL_4 : ∀ (k_4 : Int32 → Int32 → Option Int32), (∀ (x1_4 : Int32) (x2_4 : Int32) (H : Heap) (locs : List Loc) (ls : Array Slot), k_4 x1_4 x2_4 = some res → va_P (gD G) vwCl [] H → va_D A [] → va_S A s.heap H locs → lv_has ls 3 [(1, .int x1_4)] → W p l e { frames := 0, cells := 0, slots := 0, locals := 0 } s m ([.int a_1] : List Value).toArray below meth c H locs 0 0 Q (F0 m 24 ls [])) → ∀ (n_4 : Nat) (x1_4 : Int32) (x2_4 : Int32) (H : Heap) (locs : List Loc) (ls : Array Slot), m_X8_sizeOf_L4 a_1 n_4 x1_4 x2_4 k_4 = some res → va_P (gD G) vwCl [] H → va_D A [] → va_S A s.heap H locs → lv_has ls 3 [(0, .int a_1), (1, .int x1_4), (2, .int x2_4)] → W p l e { frames := 0, cells := 0, slots := 0, locals := 0 } s m ([.int a_1] : List Value).toArray below meth c H locs 0 0 Q (F0 m 4 ls []) := by
    intro k_4 hk_4 n_4
    induction n_4 with
    | zero =>
      intro x1_4 x2_4 H locs ls hm
      rw [m_X8_sizeOf_L4] at hm
      cases hm
    | succ n_4 ih_4 =>
      intro x1_4 x2_4 H locs ls hm hP hD hS hl
      rw [m_X8_sizeOf_L4] at hm
      refine lv_iload_n hx hb dX8_sizeOf_4 rfl (lv_at hl 2 rfl) ?_
      refine lv_bipush (v := 12) hx hb dX8_sizeOf_5 (by decide) ?_
      refine ic_ge (tgt := 24) hx hb dX8_sizeOf_7 (by decide) hm (fun hm => ?_) (fun hm => ?_)
      · exact hk_4 x1_4 x2_4 _ _ _ hm hP hD hS (lv_sub hl [1] rfl)
      refine lv_iload_n hx hb dX8_sizeOf_10 rfl (lv_at hl 1 rfl) ?_
      refine lv_iload_n hx hb dX8_sizeOf_11 rfl (lv_at hl 0 rfl) ?_
      refine lv_iload_n hx hb dX8_sizeOf_12 rfl (lv_at hl 2 rfl) ?_
      refine lv_ishr hx hb dX8_sizeOf_13 ?_
      refine lv_iconst (v := 1) hx hb dX8_sizeOf_14 (by decide) ?_
      refine lv_iand hx hb dX8_sizeOf_15 ?_
      refine lv_iadd hx hb dX8_sizeOf_16 ?_
      refine nmi hm (fun v_1 hm => ?_)
      refine lv_istore_n (lv' := [(1, .int v_1), (0, .int a_1), (2, .int x2_4)]) hx hb dX8_sizeOf_17 rfl hl (by decide) rfl (fun ls hl => ?_)
      refine lv_iinc (v := (x2_4 + (1 : Int32))) (lv' := [(2, .int (x2_4 + (1 : Int32))), (1, .int v_1), (0, .int a_1)]) hx hb dX8_sizeOf_18 hl (k := 2) rfl rfl (by decide) rfl (fun ls hl => ?_)
      refine lv_goto (tgt := 4) hx hb dX8_sizeOf_21 (by decide) ?_
      exact ih_4 v_1 (x2_4 + (1 : Int32)) _ _ _ hm hP hD hS (lv_sub hl [2, 1, 0] rfl)
  refine hL_4 _ ?_ FU (0 : Int32) (0 : Int32) _ _ _ hm hP hD hS (lv_sub hl [2, 1, 0] rfl)
  intro x1_4 x2_4 H locs ls hm hP hD hS hl
  refine lv_iload_n hx hb dX8_sizeOf_24 rfl (lv_at hl 0 rfl) ?_
  cases hm
  exact fin _ _ _ _ dX8_sizeOf_25 hP hD hS
set_option maxHeartbeats 0 in
set_option maxRecDepth 100000 in
theorem c_X8_leastOf (G : GT) (l : Launch) (a_1 : Int32) {res : Int32} (hm : m_X8_leastOf a_1 = some res) : CT G l yX8_leastOf cX8_leastOf 2 (some .int) 1 21 [.int a_1] [] [] (some (.int res)) := by
  refine ctI (plainFor_of_name (by decide)) (Nat.le_of_ble_eq_true rfl) ?_
  intro p e s m below meth c A ls Q hx hb hml hown hts hK hG hA hP hD hS hl fin
  have hown : s.vm.findClass RX8 = some m.cls := hown
  have hl : lv_has ls 2 [(0, .int a_1)] := hl
  unfold m_X8_leastOf at hm
  refine lv_iconst (v := 0) hx hb dX8_leastOf_0 (by decide) ?_
  refine lv_istore_n (lv' := [(1, .int (0 : Int32)), (0, .int a_1)]) hx hb dX8_leastOf_1 rfl hl (by decide) rfl (fun ls hl => ?_)
  have hL_2 : ∀ (k_2 : Int32 → Option Int32), (∀ (x1_2 : Int32) (H : Heap) (locs : List Loc) (ls : Array Slot), k_2 x1_2 = some res → va_P (gD G) vwCl [] H → va_D A [] → va_S A s.heap H locs → lv_has ls 2 [] → W p l e { frames := 1, cells := 0, slots := 0, locals := 21 } s m ([.int a_1] : List Value).toArray below meth c H locs 0 0 Q (F0 m 24 ls [])) → ∀ (n_2 : Nat) (x1_2 : Int32) (H : Heap) (locs : List Loc) (ls : Array Slot), m_X8_leastOf_L2 a_1 n_2 x1_2 k_2 = some res → va_P (gD G) vwCl [] H → va_D A [] → va_S A s.heap H locs → lv_has ls 2 [(0, .int a_1), (1, .int x1_2)] → W p l e { frames := 1, cells := 0, slots := 0, locals := 21 } s m ([.int a_1] : List Value).toArray below meth c H locs 0 0 Q (F0 m 2 ls []) := by
    intro k_2 hk_2 n_2
    induction n_2 with
    | zero =>
      intro x1_2 H locs ls hm
      rw [m_X8_leastOf_L2] at hm
      cases hm
    | succ n_2 ih_2 =>
      intro x1_2 H locs ls hm hP hD hS hl
      rw [m_X8_leastOf_L2] at hm
      refine lv_iload_n hx hb dX8_leastOf_2 rfl (lv_at hl 1 rfl) ?_
      refine lv_bipush (v := 12) hx hb dX8_leastOf_3 (by decide) ?_
      refine ic_ge (tgt := 24) hx hb dX8_leastOf_5 (by decide) hm (fun hm => ?_) (fun hm => ?_)
      · exact hk_2 x1_2 _ _ _ hm hP hD hS (lv_sub hl [] rfl)
      refine lv_iload_n hx hb dX8_leastOf_8 rfl (lv_at hl 0 rfl) ?_
      refine lv_iload_n hx hb dX8_leastOf_9 rfl (lv_at hl 1 rfl) ?_
      obtain ⟨r_1, h_2, hm⟩ := cl_elim hm
      refine w_callS (As := [.int a_1, .int x1_2]) (rest := []) (wr := []) (W1 := []) hx hb hml hown hts hK hG hP hD hS hA (c_X8_has G l a_1 x1_2 h_2) kc_X8_has ks_X8_has bw1190 rfl hl.1 rfl (Nat.le_of_ble_eq_true rfl) dX8_leastOf_10 (Nat.le_of_ble_eq_true rfl) (Nat.le_of_ble_eq_true rfl) ⟨Nat.le_refl _, Nat.le_refl _⟩ [] [] [] rfl rfl rfl rfl (by decide) rfl rfl (fun H locs hP hD hS => ?_)
      refine if_eq (tgt := 18) hx hb dX8_leastOf_13 (by decide) hm (fun hm => ?_) (fun hm => ?_)
      · refine lv_iinc (v := (x1_2 + (1 : Int32))) (lv' := [(1, .int (x1_2 + (1 : Int32))), (0, .int a_1)]) hx hb dX8_leastOf_18 hl (k := 1) rfl rfl (by decide) rfl (fun ls hl => ?_)
        refine lv_goto (tgt := 2) hx hb dX8_leastOf_21 (by decide) ?_
        exact ih_2 (x1_2 + (1 : Int32)) _ _ _ hm hP hD hS (lv_sub hl [1, 0] rfl)
      refine lv_iload_n hx hb dX8_leastOf_16 rfl (lv_at hl 1 rfl) ?_
      cases hm
      exact fin _ _ _ _ dX8_leastOf_17 hP hD hS
  refine hL_2 _ ?_ FU (0 : Int32) _ _ _ hm hP hD hS (lv_sub hl [1, 0] rfl)
  intro x1_2 H locs ls hm hP hD hS hl
  refine lv_iconst (v := -1) hx hb dX8_leastOf_24 (by decide) ?_
  cases hm
  exact fin _ _ _ _ dX8_leastOf_25 hP hD hS
set_option maxHeartbeats 0 in
set_option maxRecDepth 100000 in
theorem c_X8_unit (G : GT) (l : Launch) (q_this : Nat) (f_thrown : Int32) (f_units : Int32) (f_ties : Int32) (q_aboves : Nat) (q_belows : Nat) (q_dug : Nat) (f_dugMany : Int32) (q_under : Nat) (q_over : Nat) (q_reached : Nat) (q_reaching : Nat) (q_levels : Nat) (q_shown : Nat) (q_far : Nat) (f_code : Int32) (f_cause : Int32) (f_last : Int32) (q_ways : Nat) (q_trayUnit : Nat) (q_trayKind : Nat) (q_text : Nat) (f_texted : Int32) (f_at : Int32) (f_fault : Int32) (q_sentences : Nat) (q_verbs : Nat) (q_paper : Nat) (f_papered : Int32) (q_seen : Nat) (f_seenMany : Int32) (q_events : Nat) (f_eventMany : Int32) (q_wasAbove : Nat) (q_wasBelow : Nat) (q_wasFrom : Nat) (q_wasTo : Nat) (q_kept : Nat) (q_numbers : Nat) (f_hasImage : Int32) (q_sorts : Nat) (q_sizes : Nat) (q_cells : Nat) (q_carried : Nat) (q_kinds : Nat) (f_kinds : (Nat → Int32)) (q_thicks : Nat) (f_thicks : (Nat → Int32)) (q_froms : Nat) (f_froms : (Nat → Int32)) (q_tos : Nat) (f_tos : (Nat → Int32)) (q_phases : Nat) (f_phases : (Nat → Int32)) (a_1 : Int32) {res : Int32 × (Nat → Int32) × (Nat → Int32) × (Nat → Int32) × (Nat → Int32) × (Nat → Int32) × Int32} (hm : m_X8_unit f_units f_kinds f_thicks f_froms f_tos f_phases a_1 = some res) : CT G l yX8_unit cX8_unit 2 (some .int) 1 22 [.ref q_this, .int a_1] [(q_this, .inr (8, [.int f_thrown, .int f_units, .ref q_kinds, .ref q_thicks, .ref q_froms, .ref q_tos, .ref q_phases, .int f_ties, .ref q_aboves, .ref q_belows, .ref q_dug, .int f_dugMany, .ref q_under, .ref q_over, .ref q_reached, .ref q_reaching, .ref q_levels, .ref q_shown, .ref q_far, .int f_code, .int f_cause, .int f_last, .ref q_ways, .ref q_trayUnit, .ref q_trayKind, .ref q_text, .int f_texted, .int f_at, .int f_fault, .ref q_sentences, .ref q_verbs, .ref q_paper, .int f_papered, .ref q_seen, .int f_seenMany, .ref q_events, .int f_eventMany, .ref q_wasAbove, .ref q_wasBelow, .ref q_wasFrom, .ref q_wasTo, .ref q_kept, .ref q_numbers, .int f_hasImage, .ref q_sorts, .ref q_sizes, .ref q_cells, .ref q_carried])), (q_kinds, .inl (gI G, 12, .inl f_kinds)), (q_thicks, .inl (gI G, 12, .inl f_thicks)), (q_froms, .inl (gI G, 12, .inl f_froms)), (q_tos, .inl (gI G, 12, .inl f_tos)), (q_phases, .inl (gI G, 12, .inl f_phases))] [(q_this, .inr (8, [.int f_thrown, .int res.1, .ref q_kinds, .ref q_thicks, .ref q_froms, .ref q_tos, .ref q_phases, .int f_ties, .ref q_aboves, .ref q_belows, .ref q_dug, .int f_dugMany, .ref q_under, .ref q_over, .ref q_reached, .ref q_reaching, .ref q_levels, .ref q_shown, .ref q_far, .int f_code, .int f_cause, .int f_last, .ref q_ways, .ref q_trayUnit, .ref q_trayKind, .ref q_text, .int f_texted, .int f_at, .int f_fault, .ref q_sentences, .ref q_verbs, .ref q_paper, .int f_papered, .ref q_seen, .int f_seenMany, .ref q_events, .int f_eventMany, .ref q_wasAbove, .ref q_wasBelow, .ref q_wasFrom, .ref q_wasTo, .ref q_kept, .ref q_numbers, .int f_hasImage, .ref q_sorts, .ref q_sizes, .ref q_cells, .ref q_carried])), (q_kinds, .inl (gI G, 12, .inl res.2.1)), (q_thicks, .inl (gI G, 12, .inl res.2.2.1)), (q_froms, .inl (gI G, 12, .inl res.2.2.2.1)), (q_tos, .inl (gI G, 12, .inl res.2.2.2.2.1)), (q_phases, .inl (gI G, 12, .inl res.2.2.2.2.2.1))] (some (.int res.2.2.2.2.2.2)) := by
  refine ctI (plainFor_of_name (by decide)) (Nat.le_of_ble_eq_true rfl) ?_
  intro p e s m below meth c A ls Q hx hb hml hown hts hK hG hA hP hD hS hl fin
  have hown : s.vm.findClass RX8 = some m.cls := hown
  have hl : lv_has ls 2 [(0, .ref q_this), (1, .int a_1)] := hl
  unfold m_X8_unit at hm
  refine lv_iload_n hx hb dX8_unit_0 rfl (lv_at hl 1 rfl) ?_
  refine lv_iconst (v := 0) hx hb dX8_unit_1 (by decide) ?_
  refine lv_iconst (v := 5) hx hb dX8_unit_2 (by decide) ?_
  obtain ⟨r_1, h_2, hm⟩ := cl_elim hm
  refine w_callS (As := [.int a_1, .int (0 : Int32), .int (5 : Int32)]) (rest := []) (wr := [(q_this, .inr (8, [.int f_thrown, .int f_units, .ref q_kinds, .ref q_thicks, .ref q_froms, .ref q_tos, .ref q_phases, .int f_ties, .ref q_aboves, .ref q_belows, .ref q_dug, .int f_dugMany, .ref q_under, .ref q_over, .ref q_reached, .ref q_reaching, .ref q_levels, .ref q_shown, .ref q_far, .int f_code, .int f_cause, .int f_last, .ref q_ways, .ref q_trayUnit, .ref q_trayKind, .ref q_text, .int f_texted, .int f_at, .int f_fault, .ref q_sentences, .ref q_verbs, .ref q_paper, .int f_papered, .ref q_seen, .int f_seenMany, .ref q_events, .int f_eventMany, .ref q_wasAbove, .ref q_wasBelow, .ref q_wasFrom, .ref q_wasTo, .ref q_kept, .ref q_numbers, .int f_hasImage, .ref q_sorts, .ref q_sizes, .ref q_cells, .ref q_carried])), (q_kinds, .inl (gI G, 12, .inl f_kinds)), (q_thicks, .inl (gI G, 12, .inl f_thicks)), (q_froms, .inl (gI G, 12, .inl f_froms)), (q_tos, .inl (gI G, 12, .inl f_tos)), (q_phases, .inl (gI G, 12, .inl f_phases))]) (W1 := [(q_this, .inr (8, [.int f_thrown, .int f_units, .ref q_kinds, .ref q_thicks, .ref q_froms, .ref q_tos, .ref q_phases, .int f_ties, .ref q_aboves, .ref q_belows, .ref q_dug, .int f_dugMany, .ref q_under, .ref q_over, .ref q_reached, .ref q_reaching, .ref q_levels, .ref q_shown, .ref q_far, .int f_code, .int f_cause, .int f_last, .ref q_ways, .ref q_trayUnit, .ref q_trayKind, .ref q_text, .int f_texted, .int f_at, .int f_fault, .ref q_sentences, .ref q_verbs, .ref q_paper, .int f_papered, .ref q_seen, .int f_seenMany, .ref q_events, .int f_eventMany, .ref q_wasAbove, .ref q_wasBelow, .ref q_wasFrom, .ref q_wasTo, .ref q_kept, .ref q_numbers, .int f_hasImage, .ref q_sorts, .ref q_sizes, .ref q_cells, .ref q_carried])), (q_kinds, .inl (gI G, 12, .inl f_kinds)), (q_thicks, .inl (gI G, 12, .inl f_thicks)), (q_froms, .inl (gI G, 12, .inl f_froms)), (q_tos, .inl (gI G, 12, .inl f_tos)), (q_phases, .inl (gI G, 12, .inl f_phases))]) hx hb hml hown hts hK hG hP hD hS hA (c_X8_in G l a_1 (0 : Int32) (5 : Int32) h_2) kc_X8_in ks_X8_in bw1128 rfl hl.1 rfl (Nat.le_of_ble_eq_true rfl) dX8_unit_3 (Nat.le_of_ble_eq_true rfl) (Nat.le_of_ble_eq_true rfl) ⟨Nat.le_refl _, Nat.le_refl _⟩ [] [0, 1, 2, 3, 4, 5] [0, 1, 2, 3, 4, 5] rfl rfl rfl rfl (by decide) rfl rfl (fun H locs hP hD hS => ?_)
  refine if_ne (tgt := 12) hx hb dX8_unit_6 (by decide) hm (fun hm => ?_) (fun hm => ?_)
  · refine lv_aload_n hx hb dX8_unit_12 rfl (lv_at hl 0 rfl) ?_
    refine gf_X8_119 (v := .int f_units) hx hb hts hown hK hP 0 rfl rfl dX8_unit_13 ?_
    refine lv_bipush (v := 12) hx hb dX8_unit_16 (by decide) ?_
    refine ic_ne (tgt := 24) hx hb dX8_unit_18 (by decide) hm (fun hm => ?_) (fun hm => ?_)
    · refine lv_aload_n hx hb dX8_unit_24 rfl (lv_at hl 0 rfl) ?_
      refine gf_X8_11 (v := .ref q_kinds) hx hb hts hown hK hP 0 rfl rfl dX8_unit_25 ?_
      refine lv_aload_n hx hb dX8_unit_28 rfl (lv_at hl 0 rfl) ?_
      refine gf_X8_119 (v := .int f_units) hx hb hts hown hK hP 0 rfl rfl dX8_unit_29 ?_
      refine lv_iload_n hx hb dX8_unit_32 rfl (lv_at hl 1 rfl) ?_
      refine w_iast hx hb hK hP hD hS 1 rfl hm dX8_unit_33 (fun g_3 => [(q_this, .inr (8, [.int f_thrown, .int f_units, .ref q_kinds, .ref q_thicks, .ref q_froms, .ref q_tos, .ref q_phases, .int f_ties, .ref q_aboves, .ref q_belows, .ref q_dug, .int f_dugMany, .ref q_under, .ref q_over, .ref q_reached, .ref q_reaching, .ref q_levels, .ref q_shown, .ref q_far, .int f_code, .int f_cause, .int f_last, .ref q_ways, .ref q_trayUnit, .ref q_trayKind, .ref q_text, .int f_texted, .int f_at, .int f_fault, .ref q_sentences, .ref q_verbs, .ref q_paper, .int f_papered, .ref q_seen, .int f_seenMany, .ref q_events, .int f_eventMany, .ref q_wasAbove, .ref q_wasBelow, .ref q_wasFrom, .ref q_wasTo, .ref q_kept, .ref q_numbers, .int f_hasImage, .ref q_sorts, .ref q_sizes, .ref q_cells, .ref q_carried])), (q_kinds, .inl (gI G, 12, .inl g_3)), (q_thicks, .inl (gI G, 12, .inl f_thicks)), (q_froms, .inl (gI G, 12, .inl f_froms)), (q_tos, .inl (gI G, 12, .inl f_tos)), (q_phases, .inl (gI G, 12, .inl f_phases))]) (fun _ => rfl) (fun g_3 H locs hm hP hD hS => ?_)
      refine lv_aload_n hx hb dX8_unit_34 rfl (lv_at hl 0 rfl) ?_
      refine gf_X8_15 (v := .ref q_thicks) hx hb hts hown hK hP 0 rfl rfl dX8_unit_35 ?_
      refine lv_aload_n hx hb dX8_unit_38 rfl (lv_at hl 0 rfl) ?_
      refine gf_X8_119 (v := .int f_units) hx hb hts hown hK hP 0 rfl rfl dX8_unit_39 ?_
      refine lv_iconst (v := 1) hx hb dX8_unit_42 (by decide) ?_
      refine w_iast hx hb hK hP hD hS 2 rfl hm dX8_unit_43 (fun g_4 => [(q_this, .inr (8, [.int f_thrown, .int f_units, .ref q_kinds, .ref q_thicks, .ref q_froms, .ref q_tos, .ref q_phases, .int f_ties, .ref q_aboves, .ref q_belows, .ref q_dug, .int f_dugMany, .ref q_under, .ref q_over, .ref q_reached, .ref q_reaching, .ref q_levels, .ref q_shown, .ref q_far, .int f_code, .int f_cause, .int f_last, .ref q_ways, .ref q_trayUnit, .ref q_trayKind, .ref q_text, .int f_texted, .int f_at, .int f_fault, .ref q_sentences, .ref q_verbs, .ref q_paper, .int f_papered, .ref q_seen, .int f_seenMany, .ref q_events, .int f_eventMany, .ref q_wasAbove, .ref q_wasBelow, .ref q_wasFrom, .ref q_wasTo, .ref q_kept, .ref q_numbers, .int f_hasImage, .ref q_sorts, .ref q_sizes, .ref q_cells, .ref q_carried])), (q_kinds, .inl (gI G, 12, .inl g_3)), (q_thicks, .inl (gI G, 12, .inl g_4)), (q_froms, .inl (gI G, 12, .inl f_froms)), (q_tos, .inl (gI G, 12, .inl f_tos)), (q_phases, .inl (gI G, 12, .inl f_phases))]) (fun _ => rfl) (fun g_4 H locs hm hP hD hS => ?_)
      refine lv_aload_n hx hb dX8_unit_44 rfl (lv_at hl 0 rfl) ?_
      refine gf_X8_18 (v := .ref q_froms) hx hb hts hown hK hP 0 rfl rfl dX8_unit_45 ?_
      refine lv_aload_n hx hb dX8_unit_48 rfl (lv_at hl 0 rfl) ?_
      refine gf_X8_119 (v := .int f_units) hx hb hts hown hK hP 0 rfl rfl dX8_unit_49 ?_
      refine lv_iconst (v := 0) hx hb dX8_unit_52 (by decide) ?_
      refine w_iast hx hb hK hP hD hS 3 rfl hm dX8_unit_53 (fun g_5 => [(q_this, .inr (8, [.int f_thrown, .int f_units, .ref q_kinds, .ref q_thicks, .ref q_froms, .ref q_tos, .ref q_phases, .int f_ties, .ref q_aboves, .ref q_belows, .ref q_dug, .int f_dugMany, .ref q_under, .ref q_over, .ref q_reached, .ref q_reaching, .ref q_levels, .ref q_shown, .ref q_far, .int f_code, .int f_cause, .int f_last, .ref q_ways, .ref q_trayUnit, .ref q_trayKind, .ref q_text, .int f_texted, .int f_at, .int f_fault, .ref q_sentences, .ref q_verbs, .ref q_paper, .int f_papered, .ref q_seen, .int f_seenMany, .ref q_events, .int f_eventMany, .ref q_wasAbove, .ref q_wasBelow, .ref q_wasFrom, .ref q_wasTo, .ref q_kept, .ref q_numbers, .int f_hasImage, .ref q_sorts, .ref q_sizes, .ref q_cells, .ref q_carried])), (q_kinds, .inl (gI G, 12, .inl g_3)), (q_thicks, .inl (gI G, 12, .inl g_4)), (q_froms, .inl (gI G, 12, .inl g_5)), (q_tos, .inl (gI G, 12, .inl f_tos)), (q_phases, .inl (gI G, 12, .inl f_phases))]) (fun _ => rfl) (fun g_5 H locs hm hP hD hS => ?_)
      refine lv_aload_n hx hb dX8_unit_54 rfl (lv_at hl 0 rfl) ?_
      refine gf_X8_21 (v := .ref q_tos) hx hb hts hown hK hP 0 rfl rfl dX8_unit_55 ?_
      refine lv_aload_n hx hb dX8_unit_58 rfl (lv_at hl 0 rfl) ?_
      refine gf_X8_119 (v := .int f_units) hx hb hts hown hK hP 0 rfl rfl dX8_unit_59 ?_
      refine lv_sipush (v := 2000) hx hb dX8_unit_62 (by decide) ?_
      refine w_iast hx hb hK hP hD hS 4 rfl hm dX8_unit_65 (fun g_6 => [(q_this, .inr (8, [.int f_thrown, .int f_units, .ref q_kinds, .ref q_thicks, .ref q_froms, .ref q_tos, .ref q_phases, .int f_ties, .ref q_aboves, .ref q_belows, .ref q_dug, .int f_dugMany, .ref q_under, .ref q_over, .ref q_reached, .ref q_reaching, .ref q_levels, .ref q_shown, .ref q_far, .int f_code, .int f_cause, .int f_last, .ref q_ways, .ref q_trayUnit, .ref q_trayKind, .ref q_text, .int f_texted, .int f_at, .int f_fault, .ref q_sentences, .ref q_verbs, .ref q_paper, .int f_papered, .ref q_seen, .int f_seenMany, .ref q_events, .int f_eventMany, .ref q_wasAbove, .ref q_wasBelow, .ref q_wasFrom, .ref q_wasTo, .ref q_kept, .ref q_numbers, .int f_hasImage, .ref q_sorts, .ref q_sizes, .ref q_cells, .ref q_carried])), (q_kinds, .inl (gI G, 12, .inl g_3)), (q_thicks, .inl (gI G, 12, .inl g_4)), (q_froms, .inl (gI G, 12, .inl g_5)), (q_tos, .inl (gI G, 12, .inl g_6)), (q_phases, .inl (gI G, 12, .inl f_phases))]) (fun _ => rfl) (fun g_6 H locs hm hP hD hS => ?_)
      refine lv_aload_n hx hb dX8_unit_66 rfl (lv_at hl 0 rfl) ?_
      refine gf_X8_24 (v := .ref q_phases) hx hb hts hown hK hP 0 rfl rfl dX8_unit_67 ?_
      refine lv_aload_n hx hb dX8_unit_70 rfl (lv_at hl 0 rfl) ?_
      refine gf_X8_119 (v := .int f_units) hx hb hts hown hK hP 0 rfl rfl dX8_unit_71 ?_
      refine lv_iconst (v := -1) hx hb dX8_unit_74 (by decide) ?_
      refine w_iast hx hb hK hP hD hS 5 rfl hm dX8_unit_75 (fun g_7 => [(q_this, .inr (8, [.int f_thrown, .int f_units, .ref q_kinds, .ref q_thicks, .ref q_froms, .ref q_tos, .ref q_phases, .int f_ties, .ref q_aboves, .ref q_belows, .ref q_dug, .int f_dugMany, .ref q_under, .ref q_over, .ref q_reached, .ref q_reaching, .ref q_levels, .ref q_shown, .ref q_far, .int f_code, .int f_cause, .int f_last, .ref q_ways, .ref q_trayUnit, .ref q_trayKind, .ref q_text, .int f_texted, .int f_at, .int f_fault, .ref q_sentences, .ref q_verbs, .ref q_paper, .int f_papered, .ref q_seen, .int f_seenMany, .ref q_events, .int f_eventMany, .ref q_wasAbove, .ref q_wasBelow, .ref q_wasFrom, .ref q_wasTo, .ref q_kept, .ref q_numbers, .int f_hasImage, .ref q_sorts, .ref q_sizes, .ref q_cells, .ref q_carried])), (q_kinds, .inl (gI G, 12, .inl g_3)), (q_thicks, .inl (gI G, 12, .inl g_4)), (q_froms, .inl (gI G, 12, .inl g_5)), (q_tos, .inl (gI G, 12, .inl g_6)), (q_phases, .inl (gI G, 12, .inl g_7))]) (fun _ => rfl) (fun g_7 H locs hm hP hD hS => ?_)
      refine lv_aload_n hx hb dX8_unit_76 rfl (lv_at hl 0 rfl) ?_
      refine lv_dup hx hb dX8_unit_77 rfl ?_
      refine gf_X8_119 (v := .int f_units) hx hb hts hown hK hP 0 rfl rfl dX8_unit_78 ?_
      refine lv_iconst (v := 1) hx hb dX8_unit_81 (by decide) ?_
      refine lv_iadd hx hb dX8_unit_82 ?_
      refine pf_X8_119 (W1 := [(q_this, .inr (8, [.int f_thrown, .int (f_units + (1 : Int32)), .ref q_kinds, .ref q_thicks, .ref q_froms, .ref q_tos, .ref q_phases, .int f_ties, .ref q_aboves, .ref q_belows, .ref q_dug, .int f_dugMany, .ref q_under, .ref q_over, .ref q_reached, .ref q_reaching, .ref q_levels, .ref q_shown, .ref q_far, .int f_code, .int f_cause, .int f_last, .ref q_ways, .ref q_trayUnit, .ref q_trayKind, .ref q_text, .int f_texted, .int f_at, .int f_fault, .ref q_sentences, .ref q_verbs, .ref q_paper, .int f_papered, .ref q_seen, .int f_seenMany, .ref q_events, .int f_eventMany, .ref q_wasAbove, .ref q_wasBelow, .ref q_wasFrom, .ref q_wasTo, .ref q_kept, .ref q_numbers, .int f_hasImage, .ref q_sorts, .ref q_sizes, .ref q_cells, .ref q_carried])), (q_kinds, .inl (gI G, 12, .inl g_3)), (q_thicks, .inl (gI G, 12, .inl g_4)), (q_froms, .inl (gI G, 12, .inl g_5)), (q_tos, .inl (gI G, 12, .inl g_6)), (q_phases, .inl (gI G, 12, .inl g_7))]) hx hb hts hown hK hP hD hS 0 rfl (Nat.le_of_ble_eq_true rfl) dX8_unit_83 rfl (fun H locs hP hD hS => ?_)
      refine lv_aload_n hx hb dX8_unit_86 rfl (lv_at hl 0 rfl) ?_
      refine gf_X8_119 (v := .int (f_units + (1 : Int32))) hx hb hts hown hK hP 0 rfl rfl dX8_unit_87 ?_
      refine lv_iconst (v := 1) hx hb dX8_unit_90 (by decide) ?_
      refine lv_isub hx hb dX8_unit_91 ?_
      cases hm
      exact fin _ _ _ _ dX8_unit_92 hP hD hS
    refine lv_bipush (v := -4) hx hb dX8_unit_21 (by decide) ?_
    cases hm
    exact fin _ _ _ _ dX8_unit_23 hP hD hS
  refine lv_bipush (v := -2) hx hb dX8_unit_9 (by decide) ?_
  cases hm
  exact fin _ _ _ _ dX8_unit_11 hP hD hS
set_option maxHeartbeats 0 in
set_option maxRecDepth 100000 in
theorem c_X8_isSet (G : GT) (l : Launch) (a_1 : Int32) (a_2 : Int32) {res : Int32} (hm : m_X8_isSet a_1 a_2 = some res) : CT G l yX8_isSet cX8_isSet 2 (some .boolean) 1 22 [.int a_1, .int a_2] [] [] (some (.int res)) := by
  refine ctZ (plainFor_of_name (by decide)) (Nat.le_of_ble_eq_true rfl) ?_
  intro p e s m below meth c A ls Q hx hb hml hown hts hK hG hA hP hD hS hl fin
  have hown : s.vm.findClass RX8 = some m.cls := hown
  have hl : lv_has ls 2 [(0, .int a_1), (1, .int a_2)] := hl
  unfold m_X8_isSet at hm
  refine lv_iload_n hx hb dX8_isSet_0 rfl (lv_at hl 0 rfl) ?_
  refine sw_in (tgt := 32) (off := 31) hx hb dX8_isSet_1 0 (by decide) (by decide) rfl (by decide) hm (fun hm => ?_) (fun n_s0 hm => ?_)
  · refine lv_iload_n hx hb dX8_isSet_32 rfl (lv_at hl 1 rfl) ?_
    refine lv_iconst (v := 0) hx hb dX8_isSet_33 (by decide) ?_
    refine lv_iconst (v := 5) hx hb dX8_isSet_34 (by decide) ?_
    obtain ⟨r_1, h_2, hm⟩ := cl_elim hm
    refine w_callS (As := [.int a_2, .int (0 : Int32), .int (5 : Int32)]) (rest := []) (wr := []) (W1 := []) hx hb hml hown hts hK hG hP hD hS hA (c_X8_in G l a_2 (0 : Int32) (5 : Int32) h_2) kc_X8_in ks_X8_in bw1128 rfl hl.1 rfl (Nat.le_of_ble_eq_true rfl) dX8_isSet_35 (Nat.le_of_ble_eq_true rfl) (Nat.le_of_ble_eq_true rfl) ⟨Nat.le_refl _, Nat.le_refl _⟩ [] [] [] rfl rfl rfl rfl (by decide) rfl rfl (fun H locs hP hD hS => ?_)
    obtain ⟨hz, hm⟩ := zg_elim hm
    cases hm
    exact fin _ _ _ _ dX8_isSet_38 hz hP hD hS
  refine sw_in (tgt := 39) (off := 38) hx hb dX8_isSet_1 1 (by decide) (by decide) rfl (by decide) hm (fun hm => ?_) (fun n_s1 hm => ?_)
  · refine lv_iload_n hx hb dX8_isSet_39 rfl (lv_at hl 1 rfl) ?_
    refine lv_iconst (v := 0) hx hb dX8_isSet_40 (by decide) ?_
    refine lv_bipush (v := 99) hx hb dX8_isSet_41 (by decide) ?_
    obtain ⟨r_3, h_4, hm⟩ := cl_elim hm
    refine w_callS (As := [.int a_2, .int (0 : Int32), .int (99 : Int32)]) (rest := []) (wr := []) (W1 := []) hx hb hml hown hts hK hG hP hD hS hA (c_X8_in G l a_2 (0 : Int32) (99 : Int32) h_4) kc_X8_in ks_X8_in bw1128 rfl hl.1 rfl (Nat.le_of_ble_eq_true rfl) dX8_isSet_43 (Nat.le_of_ble_eq_true rfl) (Nat.le_of_ble_eq_true rfl) ⟨Nat.le_refl _, Nat.le_refl _⟩ [] [] [] rfl rfl rfl rfl (by decide) rfl rfl (fun H locs hP hD hS => ?_)
    obtain ⟨hz, hm⟩ := zg_elim hm
    cases hm
    exact fin _ _ _ _ dX8_isSet_46 hz hP hD hS
  refine sw_in (tgt := 47) (off := 46) hx hb dX8_isSet_1 2 (by decide) (by decide) rfl (by decide) hm (fun hm => ?_) (fun n_s2 hm => ?_)
  · refine lv_iload_n hx hb dX8_isSet_47 rfl (lv_at hl 1 rfl) ?_
    refine lv_iconst (v := 0) hx hb dX8_isSet_48 (by decide) ?_
    refine lv_sipush (v := 2000) hx hb dX8_isSet_49 (by decide) ?_
    obtain ⟨r_5, h_6, hm⟩ := cl_elim hm
    refine w_callS (As := [.int a_2, .int (0 : Int32), .int (2000 : Int32)]) (rest := []) (wr := []) (W1 := []) hx hb hml hown hts hK hG hP hD hS hA (c_X8_in G l a_2 (0 : Int32) (2000 : Int32) h_6) kc_X8_in ks_X8_in bw1128 rfl hl.1 rfl (Nat.le_of_ble_eq_true rfl) dX8_isSet_52 (Nat.le_of_ble_eq_true rfl) (Nat.le_of_ble_eq_true rfl) ⟨Nat.le_refl _, Nat.le_refl _⟩ [] [] [] rfl rfl rfl rfl (by decide) rfl rfl (fun H locs hP hD hS => ?_)
    obtain ⟨hz, hm⟩ := zg_elim hm
    cases hm
    exact fin _ _ _ _ dX8_isSet_55 hz hP hD hS
  refine sw_in (tgt := 47) (off := 46) hx hb dX8_isSet_1 3 (by decide) (by decide) rfl (by decide) hm (fun hm => ?_) (fun n_s3 hm => ?_)
  · refine lv_iload_n hx hb dX8_isSet_47 rfl (lv_at hl 1 rfl) ?_
    refine lv_iconst (v := 0) hx hb dX8_isSet_48 (by decide) ?_
    refine lv_sipush (v := 2000) hx hb dX8_isSet_49 (by decide) ?_
    obtain ⟨r_7, h_8, hm⟩ := cl_elim hm
    refine w_callS (As := [.int a_2, .int (0 : Int32), .int (2000 : Int32)]) (rest := []) (wr := []) (W1 := []) hx hb hml hown hts hK hG hP hD hS hA (c_X8_in G l a_2 (0 : Int32) (2000 : Int32) h_8) kc_X8_in ks_X8_in bw1128 rfl hl.1 rfl (Nat.le_of_ble_eq_true rfl) dX8_isSet_52 (Nat.le_of_ble_eq_true rfl) (Nat.le_of_ble_eq_true rfl) ⟨Nat.le_refl _, Nat.le_refl _⟩ [] [] [] rfl rfl rfl rfl (by decide) rfl rfl (fun H locs hP hD hS => ?_)
    obtain ⟨hz, hm⟩ := zg_elim hm
    cases hm
    exact fin _ _ _ _ dX8_isSet_55 hz hP hD hS
  refine lv_tableOut (tgt := 56) hx hb dX8_isSet_1 (by have n_t0 := lv_neT (a := 0) n_s0 rfl; have n_t1 := lv_neT (a := 1) n_s1 rfl; have n_t2 := lv_neT (a := 2) n_s2 rfl; have n_t3 := lv_neT (a := 3) n_s3 rfl; omega) (by decide) ?_
  refine lv_iload_n hx hb dX8_isSet_56 rfl (lv_at hl 1 rfl) ?_
  refine lv_iconst (v := -1) hx hb dX8_isSet_57 (by decide) ?_
  refine lv_iconst (v := 5) hx hb dX8_isSet_58 (by decide) ?_
  obtain ⟨r_9, h_10, hm⟩ := cl_elim hm
  refine w_callS (As := [.int a_2, .int (-1 : Int32), .int (5 : Int32)]) (rest := []) (wr := []) (W1 := []) hx hb hml hown hts hK hG hP hD hS hA (c_X8_in G l a_2 (-1 : Int32) (5 : Int32) h_10) kc_X8_in ks_X8_in bw1128 rfl hl.1 rfl (Nat.le_of_ble_eq_true rfl) dX8_isSet_59 (Nat.le_of_ble_eq_true rfl) (Nat.le_of_ble_eq_true rfl) ⟨Nat.le_refl _, Nat.le_refl _⟩ [] [] [] rfl rfl rfl rfl (by decide) rfl rfl (fun H locs hP hD hS => ?_)
  obtain ⟨hz, hm⟩ := zg_elim hm
  cases hm
  exact fin _ _ _ _ dX8_isSet_62 hz hP hD hS
set_option maxHeartbeats 0 in
set_option maxRecDepth 100000 in
theorem c_X8_heldBy (G : GT) (l : Launch) (q_this : Nat) (f_thrown : Int32) (f_units : Int32) (f_ties : Int32) (q_aboves : Nat) (q_belows : Nat) (q_dug : Nat) (f_dugMany : Int32) (q_under : Nat) (q_over : Nat) (q_reached : Nat) (q_reaching : Nat) (q_levels : Nat) (q_shown : Nat) (q_far : Nat) (f_code : Int32) (f_cause : Int32) (f_last : Int32) (q_ways : Nat) (q_trayUnit : Nat) (q_trayKind : Nat) (q_text : Nat) (f_texted : Int32) (f_at : Int32) (f_fault : Int32) (q_sentences : Nat) (q_verbs : Nat) (q_paper : Nat) (f_papered : Int32) (q_seen : Nat) (f_seenMany : Int32) (q_events : Nat) (f_eventMany : Int32) (q_wasAbove : Nat) (q_wasBelow : Nat) (q_wasFrom : Nat) (q_wasTo : Nat) (q_kept : Nat) (q_numbers : Nat) (f_hasImage : Int32) (q_sorts : Nat) (q_sizes : Nat) (q_cells : Nat) (q_carried : Nat) (q_kinds : Nat) (f_kinds : (Nat → Int32)) (q_thicks : Nat) (f_thicks : (Nat → Int32)) (q_froms : Nat) (f_froms : (Nat → Int32)) (q_tos : Nat) (f_tos : (Nat → Int32)) (q_phases : Nat) (f_phases : (Nat → Int32)) (a_1 : Int32) (a_2 : Int32) {res : Int32} (hm : m_X8_heldBy f_kinds f_thicks f_froms f_tos f_phases a_1 a_2 = some res) : CT G l yX8_heldBy cX8_heldBy 3 (some .int) 0 0 [.ref q_this, .int a_1, .int a_2] [(q_this, .inr (8, [.int f_thrown, .int f_units, .ref q_kinds, .ref q_thicks, .ref q_froms, .ref q_tos, .ref q_phases, .int f_ties, .ref q_aboves, .ref q_belows, .ref q_dug, .int f_dugMany, .ref q_under, .ref q_over, .ref q_reached, .ref q_reaching, .ref q_levels, .ref q_shown, .ref q_far, .int f_code, .int f_cause, .int f_last, .ref q_ways, .ref q_trayUnit, .ref q_trayKind, .ref q_text, .int f_texted, .int f_at, .int f_fault, .ref q_sentences, .ref q_verbs, .ref q_paper, .int f_papered, .ref q_seen, .int f_seenMany, .ref q_events, .int f_eventMany, .ref q_wasAbove, .ref q_wasBelow, .ref q_wasFrom, .ref q_wasTo, .ref q_kept, .ref q_numbers, .int f_hasImage, .ref q_sorts, .ref q_sizes, .ref q_cells, .ref q_carried])), (q_kinds, .inl (gI G, 12, .inl f_kinds)), (q_thicks, .inl (gI G, 12, .inl f_thicks)), (q_froms, .inl (gI G, 12, .inl f_froms)), (q_tos, .inl (gI G, 12, .inl f_tos)), (q_phases, .inl (gI G, 12, .inl f_phases))] [(q_this, .inr (8, [.int f_thrown, .int f_units, .ref q_kinds, .ref q_thicks, .ref q_froms, .ref q_tos, .ref q_phases, .int f_ties, .ref q_aboves, .ref q_belows, .ref q_dug, .int f_dugMany, .ref q_under, .ref q_over, .ref q_reached, .ref q_reaching, .ref q_levels, .ref q_shown, .ref q_far, .int f_code, .int f_cause, .int f_last, .ref q_ways, .ref q_trayUnit, .ref q_trayKind, .ref q_text, .int f_texted, .int f_at, .int f_fault, .ref q_sentences, .ref q_verbs, .ref q_paper, .int f_papered, .ref q_seen, .int f_seenMany, .ref q_events, .int f_eventMany, .ref q_wasAbove, .ref q_wasBelow, .ref q_wasFrom, .ref q_wasTo, .ref q_kept, .ref q_numbers, .int f_hasImage, .ref q_sorts, .ref q_sizes, .ref q_cells, .ref q_carried])), (q_kinds, .inl (gI G, 12, .inl f_kinds)), (q_thicks, .inl (gI G, 12, .inl f_thicks)), (q_froms, .inl (gI G, 12, .inl f_froms)), (q_tos, .inl (gI G, 12, .inl f_tos)), (q_phases, .inl (gI G, 12, .inl f_phases))] (some (.int res)) := by
  refine ctI (plainFor_of_name (by decide)) (Nat.le_of_ble_eq_true rfl) ?_
  intro p e s m below meth c A ls Q hx hb hml hown hts hK hG hA hP hD hS hl fin
  have hown : s.vm.findClass RX8 = some m.cls := hown
  have hl : lv_has ls 3 [(0, .ref q_this), (1, .int a_1), (2, .int a_2)] := hl
  unfold m_X8_heldBy at hm
  refine lv_iload_n hx hb dX8_heldBy_0 rfl (lv_at hl 2 rfl) ?_
  refine sw_in (tgt := 32) (off := 31) hx hb dX8_heldBy_1 0 (by decide) (by decide) rfl (by decide) hm (fun hm => ?_) (fun n_s0 hm => ?_)
  · refine lv_aload_n hx hb dX8_heldBy_32 rfl (lv_at hl 0 rfl) ?_
    refine gf_X8_11 (v := .ref q_kinds) hx hb hts hown hK hP 0 rfl rfl dX8_heldBy_33 ?_
    refine lv_iload_n hx hb dX8_heldBy_36 rfl (lv_at hl 1 rfl) ?_
    refine w_iald hx hb hK hP 1 rfl hm dX8_heldBy_37 (fun v_1 hm => ?_)
    cases hm
    exact fin _ _ _ _ dX8_heldBy_38 hP hD hS
  refine sw_in (tgt := 39) (off := 38) hx hb dX8_heldBy_1 1 (by decide) (by decide) rfl (by decide) hm (fun hm => ?_) (fun n_s1 hm => ?_)
  · refine lv_aload_n hx hb dX8_heldBy_39 rfl (lv_at hl 0 rfl) ?_
    refine gf_X8_15 (v := .ref q_thicks) hx hb hts hown hK hP 0 rfl rfl dX8_heldBy_40 ?_
    refine lv_iload_n hx hb dX8_heldBy_43 rfl (lv_at hl 1 rfl) ?_
    refine w_iald hx hb hK hP 2 rfl hm dX8_heldBy_44 (fun v_2 hm => ?_)
    cases hm
    exact fin _ _ _ _ dX8_heldBy_45 hP hD hS
  refine sw_in (tgt := 46) (off := 45) hx hb dX8_heldBy_1 2 (by decide) (by decide) rfl (by decide) hm (fun hm => ?_) (fun n_s2 hm => ?_)
  · refine lv_aload_n hx hb dX8_heldBy_46 rfl (lv_at hl 0 rfl) ?_
    refine gf_X8_18 (v := .ref q_froms) hx hb hts hown hK hP 0 rfl rfl dX8_heldBy_47 ?_
    refine lv_iload_n hx hb dX8_heldBy_50 rfl (lv_at hl 1 rfl) ?_
    refine w_iald hx hb hK hP 3 rfl hm dX8_heldBy_51 (fun v_3 hm => ?_)
    cases hm
    exact fin _ _ _ _ dX8_heldBy_52 hP hD hS
  refine sw_in (tgt := 53) (off := 52) hx hb dX8_heldBy_1 3 (by decide) (by decide) rfl (by decide) hm (fun hm => ?_) (fun n_s3 hm => ?_)
  · refine lv_aload_n hx hb dX8_heldBy_53 rfl (lv_at hl 0 rfl) ?_
    refine gf_X8_21 (v := .ref q_tos) hx hb hts hown hK hP 0 rfl rfl dX8_heldBy_54 ?_
    refine lv_iload_n hx hb dX8_heldBy_57 rfl (lv_at hl 1 rfl) ?_
    refine w_iald hx hb hK hP 4 rfl hm dX8_heldBy_58 (fun v_4 hm => ?_)
    cases hm
    exact fin _ _ _ _ dX8_heldBy_59 hP hD hS
  refine lv_tableOut (tgt := 60) hx hb dX8_heldBy_1 (by have n_t0 := lv_neT (a := 0) n_s0 rfl; have n_t1 := lv_neT (a := 1) n_s1 rfl; have n_t2 := lv_neT (a := 2) n_s2 rfl; have n_t3 := lv_neT (a := 3) n_s3 rfl; omega) (by decide) ?_
  refine lv_aload_n hx hb dX8_heldBy_60 rfl (lv_at hl 0 rfl) ?_
  refine gf_X8_24 (v := .ref q_phases) hx hb hts hown hK hP 0 rfl rfl dX8_heldBy_61 ?_
  refine lv_iload_n hx hb dX8_heldBy_64 rfl (lv_at hl 1 rfl) ?_
  refine w_iald hx hb hK hP 5 rfl hm dX8_heldBy_65 (fun v_5 hm => ?_)
  refine lv_iconst (v := -1) hx hb dX8_heldBy_66 (by decide) ?_
  refine ic_ne (tgt := 75) hx hb dX8_heldBy_67 (by decide) hm (fun hm => ?_) (fun hm => ?_)
  · refine lv_aload_n hx hb dX8_heldBy_75 rfl (lv_at hl 0 rfl) ?_
    refine gf_X8_24 (v := .ref q_phases) hx hb hts hown hK hP 0 rfl rfl dX8_heldBy_76 ?_
    refine lv_iload_n hx hb dX8_heldBy_79 rfl (lv_at hl 1 rfl) ?_
    refine w_iald hx hb hK hP 5 rfl hm dX8_heldBy_80 (fun v_6 hm => ?_)
    cases hm
    exact fin _ _ _ _ dX8_heldBy_81 hP hD hS
  refine lv_bipush (v := -5) hx hb dX8_heldBy_70 (by decide) ?_
  refine lv_goto (tgt := 81) hx hb dX8_heldBy_72 (by decide) ?_
  cases hm
  exact fin _ _ _ _ dX8_heldBy_81 hP hD hS
set_option maxHeartbeats 0 in
set_option maxRecDepth 100000 in
theorem c_X8_lays (G : GT) (l : Launch) (q_this : Nat) (f_thrown : Int32) (f_units : Int32) (f_ties : Int32) (q_aboves : Nat) (q_belows : Nat) (q_dug : Nat) (f_dugMany : Int32) (q_under : Nat) (q_over : Nat) (q_reached : Nat) (q_reaching : Nat) (q_levels : Nat) (q_shown : Nat) (q_far : Nat) (f_code : Int32) (f_cause : Int32) (f_last : Int32) (q_ways : Nat) (q_trayUnit : Nat) (q_trayKind : Nat) (q_text : Nat) (f_texted : Int32) (f_at : Int32) (f_fault : Int32) (q_sentences : Nat) (q_verbs : Nat) (q_paper : Nat) (f_papered : Int32) (q_seen : Nat) (f_seenMany : Int32) (q_events : Nat) (f_eventMany : Int32) (q_wasAbove : Nat) (q_wasBelow : Nat) (q_wasFrom : Nat) (q_wasTo : Nat) (q_kept : Nat) (q_numbers : Nat) (f_hasImage : Int32) (q_sorts : Nat) (q_sizes : Nat) (q_cells : Nat) (q_carried : Nat) (q_kinds : Nat) (f_kinds : (Nat → Int32)) (q_thicks : Nat) (f_thicks : (Nat → Int32)) (q_froms : Nat) (f_froms : (Nat → Int32)) (q_tos : Nat) (f_tos : (Nat → Int32)) (q_phases : Nat) (f_phases : (Nat → Int32)) (a_1 : Int32) (a_2 : Int32) (a_3 : Int32) {res : (Nat → Int32) × (Nat → Int32) × (Nat → Int32) × (Nat → Int32) × (Nat → Int32)} (hm : m_X8_lays f_kinds f_thicks f_froms f_tos f_phases a_1 a_2 a_3 = some res) : CT G l yX8_lays cX8_lays 4 none 0 0 [.ref q_this, .int a_1, .int a_2, .int a_3] [(q_this, .inr (8, [.int f_thrown, .int f_units, .ref q_kinds, .ref q_thicks, .ref q_froms, .ref q_tos, .ref q_phases, .int f_ties, .ref q_aboves, .ref q_belows, .ref q_dug, .int f_dugMany, .ref q_under, .ref q_over, .ref q_reached, .ref q_reaching, .ref q_levels, .ref q_shown, .ref q_far, .int f_code, .int f_cause, .int f_last, .ref q_ways, .ref q_trayUnit, .ref q_trayKind, .ref q_text, .int f_texted, .int f_at, .int f_fault, .ref q_sentences, .ref q_verbs, .ref q_paper, .int f_papered, .ref q_seen, .int f_seenMany, .ref q_events, .int f_eventMany, .ref q_wasAbove, .ref q_wasBelow, .ref q_wasFrom, .ref q_wasTo, .ref q_kept, .ref q_numbers, .int f_hasImage, .ref q_sorts, .ref q_sizes, .ref q_cells, .ref q_carried])), (q_kinds, .inl (gI G, 12, .inl f_kinds)), (q_thicks, .inl (gI G, 12, .inl f_thicks)), (q_froms, .inl (gI G, 12, .inl f_froms)), (q_tos, .inl (gI G, 12, .inl f_tos)), (q_phases, .inl (gI G, 12, .inl f_phases))] [(q_this, .inr (8, [.int f_thrown, .int f_units, .ref q_kinds, .ref q_thicks, .ref q_froms, .ref q_tos, .ref q_phases, .int f_ties, .ref q_aboves, .ref q_belows, .ref q_dug, .int f_dugMany, .ref q_under, .ref q_over, .ref q_reached, .ref q_reaching, .ref q_levels, .ref q_shown, .ref q_far, .int f_code, .int f_cause, .int f_last, .ref q_ways, .ref q_trayUnit, .ref q_trayKind, .ref q_text, .int f_texted, .int f_at, .int f_fault, .ref q_sentences, .ref q_verbs, .ref q_paper, .int f_papered, .ref q_seen, .int f_seenMany, .ref q_events, .int f_eventMany, .ref q_wasAbove, .ref q_wasBelow, .ref q_wasFrom, .ref q_wasTo, .ref q_kept, .ref q_numbers, .int f_hasImage, .ref q_sorts, .ref q_sizes, .ref q_cells, .ref q_carried])), (q_kinds, .inl (gI G, 12, .inl res.1)), (q_thicks, .inl (gI G, 12, .inl res.2.1)), (q_froms, .inl (gI G, 12, .inl res.2.2.1)), (q_tos, .inl (gI G, 12, .inl res.2.2.2.1)), (q_phases, .inl (gI G, 12, .inl res.2.2.2.2))] none := by
  refine ctV (plainFor_of_name (by decide)) (Nat.le_of_ble_eq_true rfl) ?_
  intro p e s m below meth c A ls Q hx hb hml hown hts hK hG hA hP hD hS hl fin
  have hown : s.vm.findClass RX8 = some m.cls := hown
  have hl : lv_has ls 4 [(0, .ref q_this), (1, .int a_1), (2, .int a_2), (3, .int a_3)] := hl
  unfold m_X8_lays at hm
  refine lv_iload_n hx hb dX8_lays_0 rfl (lv_at hl 2 rfl) ?_
  refine sw_in (tgt := 32) (off := 31) hx hb dX8_lays_1 0 (by decide) (by decide) rfl (by decide) hm (fun hm => ?_) (fun n_s0 hm => ?_)
  · refine lv_aload_n hx hb dX8_lays_32 rfl (lv_at hl 0 rfl) ?_
    refine gf_X8_11 (v := .ref q_kinds) hx hb hts hown hK hP 0 rfl rfl dX8_lays_33 ?_
    refine lv_iload_n hx hb dX8_lays_36 rfl (lv_at hl 1 rfl) ?_
    refine lv_iload_n hx hb dX8_lays_37 rfl (lv_at hl 3 rfl) ?_
    refine w_iast hx hb hK hP hD hS 1 rfl hm dX8_lays_38 (fun g_1 => [(q_this, .inr (8, [.int f_thrown, .int f_units, .ref q_kinds, .ref q_thicks, .ref q_froms, .ref q_tos, .ref q_phases, .int f_ties, .ref q_aboves, .ref q_belows, .ref q_dug, .int f_dugMany, .ref q_under, .ref q_over, .ref q_reached, .ref q_reaching, .ref q_levels, .ref q_shown, .ref q_far, .int f_code, .int f_cause, .int f_last, .ref q_ways, .ref q_trayUnit, .ref q_trayKind, .ref q_text, .int f_texted, .int f_at, .int f_fault, .ref q_sentences, .ref q_verbs, .ref q_paper, .int f_papered, .ref q_seen, .int f_seenMany, .ref q_events, .int f_eventMany, .ref q_wasAbove, .ref q_wasBelow, .ref q_wasFrom, .ref q_wasTo, .ref q_kept, .ref q_numbers, .int f_hasImage, .ref q_sorts, .ref q_sizes, .ref q_cells, .ref q_carried])), (q_kinds, .inl (gI G, 12, .inl g_1)), (q_thicks, .inl (gI G, 12, .inl f_thicks)), (q_froms, .inl (gI G, 12, .inl f_froms)), (q_tos, .inl (gI G, 12, .inl f_tos)), (q_phases, .inl (gI G, 12, .inl f_phases))]) (fun _ => rfl) (fun g_1 H locs hm hP hD hS => ?_)
    refine lv_goto (tgt := 79) hx hb dX8_lays_39 (by decide) ?_
    cases hm
    exact fin _ _ _ _ dX8_lays_79 hP hD hS
  refine sw_in (tgt := 42) (off := 41) hx hb dX8_lays_1 1 (by decide) (by decide) rfl (by decide) hm (fun hm => ?_) (fun n_s1 hm => ?_)
  · refine lv_aload_n hx hb dX8_lays_42 rfl (lv_at hl 0 rfl) ?_
    refine gf_X8_15 (v := .ref q_thicks) hx hb hts hown hK hP 0 rfl rfl dX8_lays_43 ?_
    refine lv_iload_n hx hb dX8_lays_46 rfl (lv_at hl 1 rfl) ?_
    refine lv_iload_n hx hb dX8_lays_47 rfl (lv_at hl 3 rfl) ?_
    refine w_iast hx hb hK hP hD hS 2 rfl hm dX8_lays_48 (fun g_2 => [(q_this, .inr (8, [.int f_thrown, .int f_units, .ref q_kinds, .ref q_thicks, .ref q_froms, .ref q_tos, .ref q_phases, .int f_ties, .ref q_aboves, .ref q_belows, .ref q_dug, .int f_dugMany, .ref q_under, .ref q_over, .ref q_reached, .ref q_reaching, .ref q_levels, .ref q_shown, .ref q_far, .int f_code, .int f_cause, .int f_last, .ref q_ways, .ref q_trayUnit, .ref q_trayKind, .ref q_text, .int f_texted, .int f_at, .int f_fault, .ref q_sentences, .ref q_verbs, .ref q_paper, .int f_papered, .ref q_seen, .int f_seenMany, .ref q_events, .int f_eventMany, .ref q_wasAbove, .ref q_wasBelow, .ref q_wasFrom, .ref q_wasTo, .ref q_kept, .ref q_numbers, .int f_hasImage, .ref q_sorts, .ref q_sizes, .ref q_cells, .ref q_carried])), (q_kinds, .inl (gI G, 12, .inl f_kinds)), (q_thicks, .inl (gI G, 12, .inl g_2)), (q_froms, .inl (gI G, 12, .inl f_froms)), (q_tos, .inl (gI G, 12, .inl f_tos)), (q_phases, .inl (gI G, 12, .inl f_phases))]) (fun _ => rfl) (fun g_2 H locs hm hP hD hS => ?_)
    refine lv_goto (tgt := 79) hx hb dX8_lays_49 (by decide) ?_
    cases hm
    exact fin _ _ _ _ dX8_lays_79 hP hD hS
  refine sw_in (tgt := 52) (off := 51) hx hb dX8_lays_1 2 (by decide) (by decide) rfl (by decide) hm (fun hm => ?_) (fun n_s2 hm => ?_)
  · refine lv_aload_n hx hb dX8_lays_52 rfl (lv_at hl 0 rfl) ?_
    refine gf_X8_18 (v := .ref q_froms) hx hb hts hown hK hP 0 rfl rfl dX8_lays_53 ?_
    refine lv_iload_n hx hb dX8_lays_56 rfl (lv_at hl 1 rfl) ?_
    refine lv_iload_n hx hb dX8_lays_57 rfl (lv_at hl 3 rfl) ?_
    refine w_iast hx hb hK hP hD hS 3 rfl hm dX8_lays_58 (fun g_3 => [(q_this, .inr (8, [.int f_thrown, .int f_units, .ref q_kinds, .ref q_thicks, .ref q_froms, .ref q_tos, .ref q_phases, .int f_ties, .ref q_aboves, .ref q_belows, .ref q_dug, .int f_dugMany, .ref q_under, .ref q_over, .ref q_reached, .ref q_reaching, .ref q_levels, .ref q_shown, .ref q_far, .int f_code, .int f_cause, .int f_last, .ref q_ways, .ref q_trayUnit, .ref q_trayKind, .ref q_text, .int f_texted, .int f_at, .int f_fault, .ref q_sentences, .ref q_verbs, .ref q_paper, .int f_papered, .ref q_seen, .int f_seenMany, .ref q_events, .int f_eventMany, .ref q_wasAbove, .ref q_wasBelow, .ref q_wasFrom, .ref q_wasTo, .ref q_kept, .ref q_numbers, .int f_hasImage, .ref q_sorts, .ref q_sizes, .ref q_cells, .ref q_carried])), (q_kinds, .inl (gI G, 12, .inl f_kinds)), (q_thicks, .inl (gI G, 12, .inl f_thicks)), (q_froms, .inl (gI G, 12, .inl g_3)), (q_tos, .inl (gI G, 12, .inl f_tos)), (q_phases, .inl (gI G, 12, .inl f_phases))]) (fun _ => rfl) (fun g_3 H locs hm hP hD hS => ?_)
    refine lv_goto (tgt := 79) hx hb dX8_lays_59 (by decide) ?_
    cases hm
    exact fin _ _ _ _ dX8_lays_79 hP hD hS
  refine sw_in (tgt := 62) (off := 61) hx hb dX8_lays_1 3 (by decide) (by decide) rfl (by decide) hm (fun hm => ?_) (fun n_s3 hm => ?_)
  · refine lv_aload_n hx hb dX8_lays_62 rfl (lv_at hl 0 rfl) ?_
    refine gf_X8_21 (v := .ref q_tos) hx hb hts hown hK hP 0 rfl rfl dX8_lays_63 ?_
    refine lv_iload_n hx hb dX8_lays_66 rfl (lv_at hl 1 rfl) ?_
    refine lv_iload_n hx hb dX8_lays_67 rfl (lv_at hl 3 rfl) ?_
    refine w_iast hx hb hK hP hD hS 4 rfl hm dX8_lays_68 (fun g_4 => [(q_this, .inr (8, [.int f_thrown, .int f_units, .ref q_kinds, .ref q_thicks, .ref q_froms, .ref q_tos, .ref q_phases, .int f_ties, .ref q_aboves, .ref q_belows, .ref q_dug, .int f_dugMany, .ref q_under, .ref q_over, .ref q_reached, .ref q_reaching, .ref q_levels, .ref q_shown, .ref q_far, .int f_code, .int f_cause, .int f_last, .ref q_ways, .ref q_trayUnit, .ref q_trayKind, .ref q_text, .int f_texted, .int f_at, .int f_fault, .ref q_sentences, .ref q_verbs, .ref q_paper, .int f_papered, .ref q_seen, .int f_seenMany, .ref q_events, .int f_eventMany, .ref q_wasAbove, .ref q_wasBelow, .ref q_wasFrom, .ref q_wasTo, .ref q_kept, .ref q_numbers, .int f_hasImage, .ref q_sorts, .ref q_sizes, .ref q_cells, .ref q_carried])), (q_kinds, .inl (gI G, 12, .inl f_kinds)), (q_thicks, .inl (gI G, 12, .inl f_thicks)), (q_froms, .inl (gI G, 12, .inl f_froms)), (q_tos, .inl (gI G, 12, .inl g_4)), (q_phases, .inl (gI G, 12, .inl f_phases))]) (fun _ => rfl) (fun g_4 H locs hm hP hD hS => ?_)
    refine lv_goto (tgt := 79) hx hb dX8_lays_69 (by decide) ?_
    cases hm
    exact fin _ _ _ _ dX8_lays_79 hP hD hS
  refine lv_tableOut (tgt := 72) hx hb dX8_lays_1 (by have n_t0 := lv_neT (a := 0) n_s0 rfl; have n_t1 := lv_neT (a := 1) n_s1 rfl; have n_t2 := lv_neT (a := 2) n_s2 rfl; have n_t3 := lv_neT (a := 3) n_s3 rfl; omega) (by decide) ?_
  refine lv_aload_n hx hb dX8_lays_72 rfl (lv_at hl 0 rfl) ?_
  refine gf_X8_24 (v := .ref q_phases) hx hb hts hown hK hP 0 rfl rfl dX8_lays_73 ?_
  refine lv_iload_n hx hb dX8_lays_76 rfl (lv_at hl 1 rfl) ?_
  refine lv_iload_n hx hb dX8_lays_77 rfl (lv_at hl 3 rfl) ?_
  refine w_iast hx hb hK hP hD hS 5 rfl hm dX8_lays_78 (fun g_5 => [(q_this, .inr (8, [.int f_thrown, .int f_units, .ref q_kinds, .ref q_thicks, .ref q_froms, .ref q_tos, .ref q_phases, .int f_ties, .ref q_aboves, .ref q_belows, .ref q_dug, .int f_dugMany, .ref q_under, .ref q_over, .ref q_reached, .ref q_reaching, .ref q_levels, .ref q_shown, .ref q_far, .int f_code, .int f_cause, .int f_last, .ref q_ways, .ref q_trayUnit, .ref q_trayKind, .ref q_text, .int f_texted, .int f_at, .int f_fault, .ref q_sentences, .ref q_verbs, .ref q_paper, .int f_papered, .ref q_seen, .int f_seenMany, .ref q_events, .int f_eventMany, .ref q_wasAbove, .ref q_wasBelow, .ref q_wasFrom, .ref q_wasTo, .ref q_kept, .ref q_numbers, .int f_hasImage, .ref q_sorts, .ref q_sizes, .ref q_cells, .ref q_carried])), (q_kinds, .inl (gI G, 12, .inl f_kinds)), (q_thicks, .inl (gI G, 12, .inl f_thicks)), (q_froms, .inl (gI G, 12, .inl f_froms)), (q_tos, .inl (gI G, 12, .inl f_tos)), (q_phases, .inl (gI G, 12, .inl g_5))]) (fun _ => rfl) (fun g_5 H locs hm hP hD hS => ?_)
  cases hm
  exact fin _ _ _ _ dX8_lays_79 hP hD hS
set_option maxHeartbeats 0 in
set_option maxRecDepth 100000 in
theorem c_X8_set (G : GT) (l : Launch) (q_this : Nat) (f_thrown : Int32) (f_units : Int32) (f_ties : Int32) (q_aboves : Nat) (q_belows : Nat) (q_dug : Nat) (f_dugMany : Int32) (q_under : Nat) (q_over : Nat) (q_reached : Nat) (q_reaching : Nat) (q_levels : Nat) (q_shown : Nat) (q_far : Nat) (f_code : Int32) (f_cause : Int32) (f_last : Int32) (q_ways : Nat) (q_trayUnit : Nat) (q_trayKind : Nat) (q_text : Nat) (f_texted : Int32) (f_at : Int32) (f_fault : Int32) (q_sentences : Nat) (q_verbs : Nat) (q_paper : Nat) (f_papered : Int32) (q_seen : Nat) (f_seenMany : Int32) (q_events : Nat) (f_eventMany : Int32) (q_wasAbove : Nat) (q_wasBelow : Nat) (q_wasFrom : Nat) (q_wasTo : Nat) (q_kept : Nat) (q_numbers : Nat) (f_hasImage : Int32) (q_sorts : Nat) (q_sizes : Nat) (q_cells : Nat) (q_carried : Nat) (q_kinds : Nat) (f_kinds : (Nat → Int32)) (q_thicks : Nat) (f_thicks : (Nat → Int32)) (q_froms : Nat) (f_froms : (Nat → Int32)) (q_tos : Nat) (f_tos : (Nat → Int32)) (q_phases : Nat) (f_phases : (Nat → Int32)) (a_1 : Int32) (a_2 : Int32) (a_3 : Int32) {res : (Nat → Int32) × (Nat → Int32) × (Nat → Int32) × (Nat → Int32) × (Nat → Int32) × Int32} (hm : m_X8_set f_units f_kinds f_thicks f_froms f_tos f_phases a_1 a_2 a_3 = some res) : CT G l yX8_set cX8_set 5 (some .int) 2 43 [.ref q_this, .int a_1, .int a_2, .int a_3] [(q_this, .inr (8, [.int f_thrown, .int f_units, .ref q_kinds, .ref q_thicks, .ref q_froms, .ref q_tos, .ref q_phases, .int f_ties, .ref q_aboves, .ref q_belows, .ref q_dug, .int f_dugMany, .ref q_under, .ref q_over, .ref q_reached, .ref q_reaching, .ref q_levels, .ref q_shown, .ref q_far, .int f_code, .int f_cause, .int f_last, .ref q_ways, .ref q_trayUnit, .ref q_trayKind, .ref q_text, .int f_texted, .int f_at, .int f_fault, .ref q_sentences, .ref q_verbs, .ref q_paper, .int f_papered, .ref q_seen, .int f_seenMany, .ref q_events, .int f_eventMany, .ref q_wasAbove, .ref q_wasBelow, .ref q_wasFrom, .ref q_wasTo, .ref q_kept, .ref q_numbers, .int f_hasImage, .ref q_sorts, .ref q_sizes, .ref q_cells, .ref q_carried])), (q_kinds, .inl (gI G, 12, .inl f_kinds)), (q_thicks, .inl (gI G, 12, .inl f_thicks)), (q_froms, .inl (gI G, 12, .inl f_froms)), (q_tos, .inl (gI G, 12, .inl f_tos)), (q_phases, .inl (gI G, 12, .inl f_phases))] [(q_this, .inr (8, [.int f_thrown, .int f_units, .ref q_kinds, .ref q_thicks, .ref q_froms, .ref q_tos, .ref q_phases, .int f_ties, .ref q_aboves, .ref q_belows, .ref q_dug, .int f_dugMany, .ref q_under, .ref q_over, .ref q_reached, .ref q_reaching, .ref q_levels, .ref q_shown, .ref q_far, .int f_code, .int f_cause, .int f_last, .ref q_ways, .ref q_trayUnit, .ref q_trayKind, .ref q_text, .int f_texted, .int f_at, .int f_fault, .ref q_sentences, .ref q_verbs, .ref q_paper, .int f_papered, .ref q_seen, .int f_seenMany, .ref q_events, .int f_eventMany, .ref q_wasAbove, .ref q_wasBelow, .ref q_wasFrom, .ref q_wasTo, .ref q_kept, .ref q_numbers, .int f_hasImage, .ref q_sorts, .ref q_sizes, .ref q_cells, .ref q_carried])), (q_kinds, .inl (gI G, 12, .inl res.1)), (q_thicks, .inl (gI G, 12, .inl res.2.1)), (q_froms, .inl (gI G, 12, .inl res.2.2.1)), (q_tos, .inl (gI G, 12, .inl res.2.2.2.1)), (q_phases, .inl (gI G, 12, .inl res.2.2.2.2.1))] (some (.int res.2.2.2.2.2)) := by
  refine ctI (plainFor_of_name (by decide)) (Nat.le_of_ble_eq_true rfl) ?_
  intro p e s m below meth c A ls Q hx hb hml hown hts hK hG hA hP hD hS hl fin
  have hown : s.vm.findClass RX8 = some m.cls := hown
  have hl : lv_has ls 5 [(0, .ref q_this), (1, .int a_1), (2, .int a_2), (3, .int a_3)] := hl
  unfold m_X8_set at hm
  refine lv_aload_n hx hb dX8_set_0 rfl (lv_at hl 0 rfl) ?_
  refine lv_iload_n hx hb dX8_set_1 rfl (lv_at hl 1 rfl) ?_
  obtain ⟨r_1, h_2, hm⟩ := cl_elim hm
  refine w_callV (As := [.int a_1]) (rest := []) (wr := [(q_kinds, .inl (gI G, 12, .inl f_kinds)), (q_thicks, .inl (gI G, 12, .inl f_thicks)), (q_froms, .inl (gI G, 12, .inl f_froms)), (q_tos, .inl (gI G, 12, .inl f_tos)), (q_phases, .inl (gI G, 12, .inl f_phases))]) (W1 := [(q_this, .inr (8, [.int f_thrown, .int f_units, .ref q_kinds, .ref q_thicks, .ref q_froms, .ref q_tos, .ref q_phases, .int f_ties, .ref q_aboves, .ref q_belows, .ref q_dug, .int f_dugMany, .ref q_under, .ref q_over, .ref q_reached, .ref q_reaching, .ref q_levels, .ref q_shown, .ref q_far, .int f_code, .int f_cause, .int f_last, .ref q_ways, .ref q_trayUnit, .ref q_trayKind, .ref q_text, .int f_texted, .int f_at, .int f_fault, .ref q_sentences, .ref q_verbs, .ref q_paper, .int f_papered, .ref q_seen, .int f_seenMany, .ref q_events, .int f_eventMany, .ref q_wasAbove, .ref q_wasBelow, .ref q_wasFrom, .ref q_wasTo, .ref q_kept, .ref q_numbers, .int f_hasImage, .ref q_sorts, .ref q_sizes, .ref q_cells, .ref q_carried])), (q_kinds, .inl (gI G, 12, .inl f_kinds)), (q_thicks, .inl (gI G, 12, .inl f_thicks)), (q_froms, .inl (gI G, 12, .inl f_froms)), (q_tos, .inl (gI G, 12, .inl f_tos)), (q_phases, .inl (gI G, 12, .inl f_phases))]) (ci := 8) (q0 := 0) hx hb hml hown hts hK hG hP hD hS hA (c_X8_isUnit G l q_this f_thrown f_units q_kinds q_thicks q_froms q_tos q_phases f_ties q_aboves q_belows q_dug f_dugMany q_under q_over q_reached q_reaching q_levels q_shown q_far f_code f_cause f_last q_ways q_trayUnit q_trayKind q_text f_texted f_at f_fault q_sentences q_verbs q_paper f_papered q_seen f_seenMany q_events f_eventMany q_wasAbove q_wasBelow q_wasFrom q_wasTo q_kept q_numbers f_hasImage q_sorts q_sizes q_cells q_carried a_1 h_2) kc_X8_isUnit ki_X8_isUnit bw1135 rfl rfl rfl hl.1 rfl (Nat.le_of_ble_eq_true rfl) dX8_set_2 (Nat.le_of_ble_eq_true rfl) (Nat.le_of_ble_eq_true rfl) ⟨Nat.le_refl _, Nat.le_refl _⟩ [0] [1, 2, 3, 4, 5] [5, 0, 1, 2, 3, 4] rfl rfl rfl rfl (by decide) rfl rfl (fun H locs hP hD hS => ?_)
  refine if_eq (tgt := 17) hx hb dX8_set_5 (by decide) hm (fun hm => ?_) (fun hm => ?_)
  · refine lv_iconst (v := -1) hx hb dX8_set_17 (by decide) ?_
    cases hm
    exact fin _ _ _ _ dX8_set_18 hP hD hS
  refine lv_iload_n hx hb dX8_set_8 rfl (lv_at hl 2 rfl) ?_
  refine lv_iconst (v := 0) hx hb dX8_set_9 (by decide) ?_
  refine lv_iconst (v := 4) hx hb dX8_set_10 (by decide) ?_
  obtain ⟨r_3, h_4, hm⟩ := cl_elim hm
  refine w_callS (As := [.int a_2, .int (0 : Int32), .int (4 : Int32)]) (rest := []) (wr := [(q_this, .inr (8, [.int f_thrown, .int f_units, .ref q_kinds, .ref q_thicks, .ref q_froms, .ref q_tos, .ref q_phases, .int f_ties, .ref q_aboves, .ref q_belows, .ref q_dug, .int f_dugMany, .ref q_under, .ref q_over, .ref q_reached, .ref q_reaching, .ref q_levels, .ref q_shown, .ref q_far, .int f_code, .int f_cause, .int f_last, .ref q_ways, .ref q_trayUnit, .ref q_trayKind, .ref q_text, .int f_texted, .int f_at, .int f_fault, .ref q_sentences, .ref q_verbs, .ref q_paper, .int f_papered, .ref q_seen, .int f_seenMany, .ref q_events, .int f_eventMany, .ref q_wasAbove, .ref q_wasBelow, .ref q_wasFrom, .ref q_wasTo, .ref q_kept, .ref q_numbers, .int f_hasImage, .ref q_sorts, .ref q_sizes, .ref q_cells, .ref q_carried])), (q_kinds, .inl (gI G, 12, .inl f_kinds)), (q_thicks, .inl (gI G, 12, .inl f_thicks)), (q_froms, .inl (gI G, 12, .inl f_froms)), (q_tos, .inl (gI G, 12, .inl f_tos)), (q_phases, .inl (gI G, 12, .inl f_phases))]) (W1 := [(q_this, .inr (8, [.int f_thrown, .int f_units, .ref q_kinds, .ref q_thicks, .ref q_froms, .ref q_tos, .ref q_phases, .int f_ties, .ref q_aboves, .ref q_belows, .ref q_dug, .int f_dugMany, .ref q_under, .ref q_over, .ref q_reached, .ref q_reaching, .ref q_levels, .ref q_shown, .ref q_far, .int f_code, .int f_cause, .int f_last, .ref q_ways, .ref q_trayUnit, .ref q_trayKind, .ref q_text, .int f_texted, .int f_at, .int f_fault, .ref q_sentences, .ref q_verbs, .ref q_paper, .int f_papered, .ref q_seen, .int f_seenMany, .ref q_events, .int f_eventMany, .ref q_wasAbove, .ref q_wasBelow, .ref q_wasFrom, .ref q_wasTo, .ref q_kept, .ref q_numbers, .int f_hasImage, .ref q_sorts, .ref q_sizes, .ref q_cells, .ref q_carried])), (q_kinds, .inl (gI G, 12, .inl f_kinds)), (q_thicks, .inl (gI G, 12, .inl f_thicks)), (q_froms, .inl (gI G, 12, .inl f_froms)), (q_tos, .inl (gI G, 12, .inl f_tos)), (q_phases, .inl (gI G, 12, .inl f_phases))]) hx hb hml hown hts hK hG hP hD hS hA (c_X8_in G l a_2 (0 : Int32) (4 : Int32) h_4) kc_X8_in ks_X8_in bw1128 rfl hl.1 rfl (Nat.le_of_ble_eq_true rfl) dX8_set_11 (Nat.le_of_ble_eq_true rfl) (Nat.le_of_ble_eq_true rfl) ⟨Nat.le_refl _, Nat.le_refl _⟩ [] [0, 1, 2, 3, 4, 5] [0, 1, 2, 3, 4, 5] rfl rfl rfl rfl (by decide) rfl rfl (fun H locs hP hD hS => ?_)
  refine if_ne (tgt := 19) hx hb dX8_set_14 (by decide) hm (fun hm => ?_) (fun hm => ?_)
  · refine lv_iload_n hx hb dX8_set_19 rfl (lv_at hl 2 rfl) ?_
    refine lv_iload_n hx hb dX8_set_20 rfl (lv_at hl 3 rfl) ?_
    obtain ⟨r_5, h_6, hm⟩ := cl_elim hm
    refine w_callS (As := [.int a_2, .int a_3]) (rest := []) (wr := [(q_this, .inr (8, [.int f_thrown, .int f_units, .ref q_kinds, .ref q_thicks, .ref q_froms, .ref q_tos, .ref q_phases, .int f_ties, .ref q_aboves, .ref q_belows, .ref q_dug, .int f_dugMany, .ref q_under, .ref q_over, .ref q_reached, .ref q_reaching, .ref q_levels, .ref q_shown, .ref q_far, .int f_code, .int f_cause, .int f_last, .ref q_ways, .ref q_trayUnit, .ref q_trayKind, .ref q_text, .int f_texted, .int f_at, .int f_fault, .ref q_sentences, .ref q_verbs, .ref q_paper, .int f_papered, .ref q_seen, .int f_seenMany, .ref q_events, .int f_eventMany, .ref q_wasAbove, .ref q_wasBelow, .ref q_wasFrom, .ref q_wasTo, .ref q_kept, .ref q_numbers, .int f_hasImage, .ref q_sorts, .ref q_sizes, .ref q_cells, .ref q_carried])), (q_kinds, .inl (gI G, 12, .inl f_kinds)), (q_thicks, .inl (gI G, 12, .inl f_thicks)), (q_froms, .inl (gI G, 12, .inl f_froms)), (q_tos, .inl (gI G, 12, .inl f_tos)), (q_phases, .inl (gI G, 12, .inl f_phases))]) (W1 := [(q_this, .inr (8, [.int f_thrown, .int f_units, .ref q_kinds, .ref q_thicks, .ref q_froms, .ref q_tos, .ref q_phases, .int f_ties, .ref q_aboves, .ref q_belows, .ref q_dug, .int f_dugMany, .ref q_under, .ref q_over, .ref q_reached, .ref q_reaching, .ref q_levels, .ref q_shown, .ref q_far, .int f_code, .int f_cause, .int f_last, .ref q_ways, .ref q_trayUnit, .ref q_trayKind, .ref q_text, .int f_texted, .int f_at, .int f_fault, .ref q_sentences, .ref q_verbs, .ref q_paper, .int f_papered, .ref q_seen, .int f_seenMany, .ref q_events, .int f_eventMany, .ref q_wasAbove, .ref q_wasBelow, .ref q_wasFrom, .ref q_wasTo, .ref q_kept, .ref q_numbers, .int f_hasImage, .ref q_sorts, .ref q_sizes, .ref q_cells, .ref q_carried])), (q_kinds, .inl (gI G, 12, .inl f_kinds)), (q_thicks, .inl (gI G, 12, .inl f_thicks)), (q_froms, .inl (gI G, 12, .inl f_froms)), (q_tos, .inl (gI G, 12, .inl f_tos)), (q_phases, .inl (gI G, 12, .inl f_phases))]) hx hb hml hown hts hK hG hP hD hS hA (c_X8_isSet G l a_2 a_3 h_6) kc_X8_isSet ks_X8_isSet bw1139 rfl hl.1 rfl (Nat.le_of_ble_eq_true rfl) dX8_set_21 (Nat.le_of_ble_eq_true rfl) (Nat.le_of_ble_eq_true rfl) ⟨Nat.le_refl _, Nat.le_refl _⟩ [] [0, 1, 2, 3, 4, 5] [0, 1, 2, 3, 4, 5] rfl rfl rfl rfl (by decide) rfl rfl (fun H locs hP hD hS => ?_)
    refine if_ne (tgt := 30) hx hb dX8_set_24 (by decide) hm (fun hm => ?_) (fun hm => ?_)
    · refine lv_aload_n hx hb dX8_set_30 rfl (lv_at hl 0 rfl) ?_
      refine lv_iload_n hx hb dX8_set_31 rfl (lv_at hl 1 rfl) ?_
      refine lv_iload_n hx hb dX8_set_32 rfl (lv_at hl 2 rfl) ?_
      obtain ⟨r_7, h_8, hm⟩ := cl_elim hm
      refine w_callV (As := [.int a_1, .int a_2]) (rest := []) (wr := []) (W1 := [(q_this, .inr (8, [.int f_thrown, .int f_units, .ref q_kinds, .ref q_thicks, .ref q_froms, .ref q_tos, .ref q_phases, .int f_ties, .ref q_aboves, .ref q_belows, .ref q_dug, .int f_dugMany, .ref q_under, .ref q_over, .ref q_reached, .ref q_reaching, .ref q_levels, .ref q_shown, .ref q_far, .int f_code, .int f_cause, .int f_last, .ref q_ways, .ref q_trayUnit, .ref q_trayKind, .ref q_text, .int f_texted, .int f_at, .int f_fault, .ref q_sentences, .ref q_verbs, .ref q_paper, .int f_papered, .ref q_seen, .int f_seenMany, .ref q_events, .int f_eventMany, .ref q_wasAbove, .ref q_wasBelow, .ref q_wasFrom, .ref q_wasTo, .ref q_kept, .ref q_numbers, .int f_hasImage, .ref q_sorts, .ref q_sizes, .ref q_cells, .ref q_carried])), (q_kinds, .inl (gI G, 12, .inl f_kinds)), (q_thicks, .inl (gI G, 12, .inl f_thicks)), (q_froms, .inl (gI G, 12, .inl f_froms)), (q_tos, .inl (gI G, 12, .inl f_tos)), (q_phases, .inl (gI G, 12, .inl f_phases))]) (ci := 8) (q0 := 0) hx hb hml hown hts hK hG hP hD hS hA (c_X8_heldBy G l q_this f_thrown f_units f_ties q_aboves q_belows q_dug f_dugMany q_under q_over q_reached q_reaching q_levels q_shown q_far f_code f_cause f_last q_ways q_trayUnit q_trayKind q_text f_texted f_at f_fault q_sentences q_verbs q_paper f_papered q_seen f_seenMany q_events f_eventMany q_wasAbove q_wasBelow q_wasFrom q_wasTo q_kept q_numbers f_hasImage q_sorts q_sizes q_cells q_carried q_kinds f_kinds q_thicks f_thicks q_froms f_froms q_tos f_tos q_phases f_phases a_1 a_2 h_8) kc_X8_heldBy ki_X8_heldBy bw1142 rfl rfl rfl hl.1 rfl (Nat.le_of_ble_eq_true rfl) dX8_set_33 (Nat.le_of_ble_eq_true rfl) (Nat.le_of_ble_eq_true rfl) ⟨Nat.le_refl _, Nat.le_refl _⟩ [0, 1, 2, 3, 4, 5] [] [0, 1, 2, 3, 4, 5] rfl rfl rfl rfl (by decide) rfl rfl (fun H locs hP hD hS => ?_)
      refine lv_istore (lv' := [(4, .int r_7), (0, .ref q_this), (1, .int a_1), (2, .int a_2), (3, .int a_3)]) hx hb dX8_set_36 hl (by decide) rfl (fun ls hl => ?_)
      refine lv_aload_n hx hb dX8_set_38 rfl (lv_at hl 1 rfl) ?_
      refine lv_iload_n hx hb dX8_set_39 rfl (lv_at hl 2 rfl) ?_
      refine lv_iload_n hx hb dX8_set_40 rfl (lv_at hl 3 rfl) ?_
      refine lv_iload_n hx hb dX8_set_41 rfl (lv_at hl 4 rfl) ?_
      obtain ⟨r_9, h_10, hm⟩ := cl_elim hm
      refine w_callV (As := [.int a_1, .int a_2, .int a_3]) (rest := []) (wr := []) (W1 := [(q_this, .inr (8, [.int f_thrown, .int f_units, .ref q_kinds, .ref q_thicks, .ref q_froms, .ref q_tos, .ref q_phases, .int f_ties, .ref q_aboves, .ref q_belows, .ref q_dug, .int f_dugMany, .ref q_under, .ref q_over, .ref q_reached, .ref q_reaching, .ref q_levels, .ref q_shown, .ref q_far, .int f_code, .int f_cause, .int f_last, .ref q_ways, .ref q_trayUnit, .ref q_trayKind, .ref q_text, .int f_texted, .int f_at, .int f_fault, .ref q_sentences, .ref q_verbs, .ref q_paper, .int f_papered, .ref q_seen, .int f_seenMany, .ref q_events, .int f_eventMany, .ref q_wasAbove, .ref q_wasBelow, .ref q_wasFrom, .ref q_wasTo, .ref q_kept, .ref q_numbers, .int f_hasImage, .ref q_sorts, .ref q_sizes, .ref q_cells, .ref q_carried])), (q_kinds, .inl (gI G, 12, .inl r_9.1)), (q_thicks, .inl (gI G, 12, .inl r_9.2.1)), (q_froms, .inl (gI G, 12, .inl r_9.2.2.1)), (q_tos, .inl (gI G, 12, .inl r_9.2.2.2.1)), (q_phases, .inl (gI G, 12, .inl r_9.2.2.2.2))]) (ci := 8) (q0 := 0) hx hb hml hown hts hK hG hP hD hS hA (c_X8_lays G l q_this f_thrown f_units f_ties q_aboves q_belows q_dug f_dugMany q_under q_over q_reached q_reaching q_levels q_shown q_far f_code f_cause f_last q_ways q_trayUnit q_trayKind q_text f_texted f_at f_fault q_sentences q_verbs q_paper f_papered q_seen f_seenMany q_events f_eventMany q_wasAbove q_wasBelow q_wasFrom q_wasTo q_kept q_numbers f_hasImage q_sorts q_sizes q_cells q_carried q_kinds f_kinds q_thicks f_thicks q_froms f_froms q_tos f_tos q_phases f_phases a_1 a_2 a_3 h_10) kc_X8_lays ki_X8_lays bw1146 rfl rfl rfl hl.1 rfl (Nat.le_of_ble_eq_true rfl) dX8_set_42 (Nat.le_of_ble_eq_true rfl) (Nat.le_of_ble_eq_true rfl) ⟨Nat.le_refl _, Nat.le_refl _⟩ [0, 1, 2, 3, 4, 5] [] [0, 1, 2, 3, 4, 5] rfl rfl rfl rfl (by decide) rfl rfl (fun H locs hP hD hS => ?_)
      refine lv_iload hx hb dX8_set_45 (lv_at hl 0 rfl) ?_
      cases hm
      exact fin _ _ _ _ dX8_set_47 hP hD hS
    refine lv_bipush (v := -2) hx hb dX8_set_27 (by decide) ?_
    cases hm
    exact fin _ _ _ _ dX8_set_29 hP hD hS
  refine lv_iconst (v := -1) hx hb dX8_set_17 (by decide) ?_
  cases hm
  exact fin _ _ _ _ dX8_set_18 hP hD hS
