set_option maxHeartbeats 0 in
set_option maxRecDepth 100000 in
theorem c_X0_isTape (G : GT) (l : Launch) (q_this : Nat) (a_1 : Int32) {res : Int32} (hm : m_X0_isTape a_1 = some res) : CT G l yX0_isTape cX0_isTape 2 (some .boolean) 0 0 [.ref q_this, .int a_1] [] [] (some (.int res)) := by
  refine ctZ (G := G) (l := l) (y := yX0_isTape) (cc := cX0_isTape) (maxL := 2) (fr := 0) (lo := 0) (As := [.ref q_this, .int a_1]) (res := res) (fun res : Int32 => []) (fun res : Int32 => res) (plainFor_of_name (by decide)) (Nat.le_of_ble_eq_true rfl) ?_
  intro p e s m below meth c A ls Q hx hb hml hown hts hK hG hA hP hD hS hl fin
  have hown : s.vm.findClass RX0 = some m.cls := hown
  have hl : lv_has ls 2 [(0, .ref q_this), (1, .int a_1)] := hl
  unfold m_X0_isTape at hm
  refine lv_iload_n hx hb dX0_isTape_0 rfl (lv_at hl 1 rfl) ?_
  refine if_lt (tgt := 14) hx hb dX0_isTape_1 (by decide) hm (fun hm => ?_) (fun hm => ?_)
  · refine lv_iconst (v := 0) hx hb dX0_isTape_14 (by decide) ?_
    have hfin := fin _ _ ls _ _ (Option.some.inj hm) dX0_isTape_15 (Or.inl rfl) hP hD hS
    exact hfin
  refine lv_iload_n hx hb dX0_isTape_4 rfl (lv_at hl 1 rfl) ?_
  refine lv_bipush (v := 6) hx hb dX0_isTape_5 (by decide) ?_
  refine ic_ge (tgt := 14) hx hb dX0_isTape_7 (by decide) hm (fun hm => ?_) (fun hm => ?_)
  · refine lv_iconst (v := 0) hx hb dX0_isTape_14 (by decide) ?_
    have hfin := fin _ _ ls _ _ (Option.some.inj hm) dX0_isTape_15 (Or.inl rfl) hP hD hS
    exact hfin
  refine lv_iconst (v := 1) hx hb dX0_isTape_10 (by decide) ?_
  refine lv_goto (tgt := 15) hx hb dX0_isTape_11 (by decide) ?_
  have hfin := fin _ _ ls _ _ (Option.some.inj hm) dX0_isTape_15 (Or.inr rfl) hP hD hS
  exact hfin
set_option maxHeartbeats 0 in
set_option maxRecDepth 100000 in
theorem c_X0_isEmpty (G : GT) (l : Launch) (q_this : Nat) (q_length : Nat) (q_items : Nat) (q_sort : Nat) (f_sort : (Nat → Int32)) (a_1 : Int32) {res : Int32} (hm : m_X0_isEmpty f_sort a_1 = some res) : CT G l yX0_isEmpty cX0_isEmpty 2 (some .boolean) 0 0 [.ref q_this, .int a_1] [(q_this, .inr (0, [.ref q_sort, .ref q_length, .ref q_items])), (q_sort, .inl (gI G, 6, .inl f_sort))] [(q_this, .inr (0, [.ref q_sort, .ref q_length, .ref q_items])), (q_sort, .inl (gI G, 6, .inl f_sort))] (some (.int res)) := by
  refine ctZ (G := G) (l := l) (y := yX0_isEmpty) (cc := cX0_isEmpty) (maxL := 2) (fr := 0) (lo := 0) (As := [.ref q_this, .int a_1]) (res := res) (fun res : Int32 => [(q_this, .inr (0, [.ref q_sort, .ref q_length, .ref q_items])), (q_sort, .inl (gI G, 6, .inl f_sort))]) (fun res : Int32 => res) (plainFor_of_name (by decide)) (Nat.le_of_ble_eq_true rfl) ?_
  intro p e s m below meth c A ls Q hx hb hml hown hts hK hG hA hP hD hS hl fin
  have hown : s.vm.findClass RX0 = some m.cls := hown
  have hl : lv_has ls 2 [(0, .ref q_this), (1, .int a_1)] := hl
  unfold m_X0_isEmpty at hm
  refine lv_aload_n hx hb dX0_isEmpty_0 rfl (lv_at hl 0 rfl) ?_
  refine gf_X0_9 (v := .ref q_sort) hx hb hts hown hK hP 0 rfl rfl dX0_isEmpty_1 ?_
  refine lv_iload_n hx hb dX0_isEmpty_4 rfl (lv_at hl 1 rfl) ?_
  refine w_iald hx hb hK hP 1 rfl hm dX0_isEmpty_5 (fun v_1 hm => ?_)
  refine lv_iconst (v := -1) hx hb dX0_isEmpty_6 (by decide) ?_
  refine ic_ne (tgt := 14) hx hb dX0_isEmpty_7 (by decide) hm (fun hm => ?_) (fun hm => ?_)
  · refine lv_iconst (v := 0) hx hb dX0_isEmpty_14 (by decide) ?_
    have hfin := fin _ _ ls _ _ (Option.some.inj hm) dX0_isEmpty_15 (Or.inl rfl) hP hD hS
    exact hfin
  refine lv_iconst (v := 1) hx hb dX0_isEmpty_10 (by decide) ?_
  refine lv_goto (tgt := 15) hx hb dX0_isEmpty_11 (by decide) ?_
  have hfin := fin _ _ ls _ _ (Option.some.inj hm) dX0_isEmpty_15 (Or.inr rfl) hP hD hS
  exact hfin
set_option maxHeartbeats 0 in
set_option maxRecDepth 100000 in
theorem c_X0_hasPlace (G : GT) (l : Launch) (q_this : Nat) (q_sort : Nat) (q_items : Nat) (q_length : Nat) (f_length : (Nat → Int32)) (a_1 : Int32) (a_2 : Int32) (a_3 : Int32) {res : Int32} (hm : m_X0_hasPlace f_length a_1 a_2 a_3 = some res) : CT G l yX0_hasPlace cX0_hasPlace 4 (some .boolean) 0 0 [.ref q_this, .int a_1, .int a_2, .int a_3] [(q_this, .inr (0, [.ref q_sort, .ref q_length, .ref q_items])), (q_length, .inl (gI G, 6, .inl f_length))] [(q_this, .inr (0, [.ref q_sort, .ref q_length, .ref q_items])), (q_length, .inl (gI G, 6, .inl f_length))] (some (.int res)) := by
  refine ctZ (G := G) (l := l) (y := yX0_hasPlace) (cc := cX0_hasPlace) (maxL := 4) (fr := 0) (lo := 0) (As := [.ref q_this, .int a_1, .int a_2, .int a_3]) (res := res) (fun res : Int32 => [(q_this, .inr (0, [.ref q_sort, .ref q_length, .ref q_items])), (q_length, .inl (gI G, 6, .inl f_length))]) (fun res : Int32 => res) (plainFor_of_name (by decide)) (Nat.le_of_ble_eq_true rfl) ?_
  intro p e s m below meth c A ls Q hx hb hml hown hts hK hG hA hP hD hS hl fin
  have hown : s.vm.findClass RX0 = some m.cls := hown
  have hl : lv_has ls 4 [(0, .ref q_this), (1, .int a_1), (2, .int a_2), (3, .int a_3)] := hl
  unfold m_X0_hasPlace at hm
  refine lv_iload_n hx hb dX0_hasPlace_0 rfl (lv_at hl 2 rfl) ?_
  refine if_lt (tgt := 34) hx hb dX0_hasPlace_1 (by decide) hm (fun hm => ?_) (fun hm => ?_)
  · refine lv_iconst (v := 0) hx hb dX0_hasPlace_34 (by decide) ?_
    have hfin := fin _ _ ls _ _ (Option.some.inj hm) dX0_hasPlace_35 (Or.inl rfl) hP hD hS
    exact hfin
  refine lv_iload_n hx hb dX0_hasPlace_4 rfl (lv_at hl 3 rfl) ?_
  refine if_lt (tgt := 34) hx hb dX0_hasPlace_5 (by decide) hm (fun hm => ?_) (fun hm => ?_)
  · refine lv_iconst (v := 0) hx hb dX0_hasPlace_34 (by decide) ?_
    have hfin := fin _ _ ls _ _ (Option.some.inj hm) dX0_hasPlace_35 (Or.inl rfl) hP hD hS
    exact hfin
  refine lv_iload_n hx hb dX0_hasPlace_8 rfl (lv_at hl 3 rfl) ?_
  refine lv_aload_n hx hb dX0_hasPlace_9 rfl (lv_at hl 0 rfl) ?_
  refine gf_X0_15 (v := .ref q_length) hx hb hts hown hK hP 0 rfl rfl dX0_hasPlace_10 ?_
  refine lv_iload_n hx hb dX0_hasPlace_13 rfl (lv_at hl 1 rfl) ?_
  refine w_iald hx hb hK hP 1 rfl hm dX0_hasPlace_14 (fun v_1 hm => ?_)
  refine ic_gt (tgt := 34) hx hb dX0_hasPlace_15 (by decide) hm (fun hm => ?_) (fun hm => ?_)
  · refine lv_iconst (v := 0) hx hb dX0_hasPlace_34 (by decide) ?_
    have hfin := fin _ _ ls _ _ (Option.some.inj hm) dX0_hasPlace_35 (Or.inl rfl) hP hD hS
    exact hfin
  refine lv_iload_n hx hb dX0_hasPlace_18 rfl (lv_at hl 2 rfl) ?_
  refine lv_aload_n hx hb dX0_hasPlace_19 rfl (lv_at hl 0 rfl) ?_
  refine gf_X0_15 (v := .ref q_length) hx hb hts hown hK hP 0 rfl rfl dX0_hasPlace_20 ?_
  refine lv_iload_n hx hb dX0_hasPlace_23 rfl (lv_at hl 1 rfl) ?_
  refine w_iald hx hb hK hP 1 rfl hm dX0_hasPlace_24 (fun v_2 hm => ?_)
  refine lv_iload_n hx hb dX0_hasPlace_25 rfl (lv_at hl 3 rfl) ?_
  refine lv_isub hx hb dX0_hasPlace_26 ?_
  refine ic_gt (tgt := 34) hx hb dX0_hasPlace_27 (by decide) hm (fun hm => ?_) (fun hm => ?_)
  · refine lv_iconst (v := 0) hx hb dX0_hasPlace_34 (by decide) ?_
    have hfin := fin _ _ ls _ _ (Option.some.inj hm) dX0_hasPlace_35 (Or.inl rfl) hP hD hS
    exact hfin
  refine lv_iconst (v := 1) hx hb dX0_hasPlace_30 (by decide) ?_
  refine lv_goto (tgt := 35) hx hb dX0_hasPlace_31 (by decide) ?_
  have hfin := fin _ _ ls _ _ (Option.some.inj hm) dX0_hasPlace_35 (Or.inr rfl) hP hD hS
  exact hfin
set_option maxHeartbeats 0 in
set_option maxRecDepth 100000 in
theorem c_X0_clear (G : GT) (l : Launch) (q_this : Nat) (q_items : Nat) (q_sort : Nat) (f_sort : (Nat → Int32)) (q_length : Nat) (f_length : (Nat → Int32)) (a_1 : Int32) {res : (Nat → Int32) × (Nat → Int32)} (hm : m_X0_clear f_sort f_length a_1 = some res) : CT G l yX0_clear cX0_clear 2 none 0 0 [.ref q_this, .int a_1] [(q_this, .inr (0, [.ref q_sort, .ref q_length, .ref q_items])), (q_sort, .inl (gI G, 6, .inl f_sort)), (q_length, .inl (gI G, 6, .inl f_length))] [(q_this, .inr (0, [.ref q_sort, .ref q_length, .ref q_items])), (q_sort, .inl (gI G, 6, .inl res.1)), (q_length, .inl (gI G, 6, .inl res.2))] none := by
  refine ctV (G := G) (l := l) (y := yX0_clear) (cc := cX0_clear) (maxL := 2) (fr := 0) (lo := 0) (As := [.ref q_this, .int a_1]) (res := res) (fun res : (Nat → Int32) × (Nat → Int32) => [(q_this, .inr (0, [.ref q_sort, .ref q_length, .ref q_items])), (q_sort, .inl (gI G, 6, .inl res.1)), (q_length, .inl (gI G, 6, .inl res.2))]) (plainFor_of_name (by decide)) (Nat.le_of_ble_eq_true rfl) ?_
  intro p e s m below meth c A ls Q hx hb hml hown hts hK hG hA hP hD hS hl fin
  have hown : s.vm.findClass RX0 = some m.cls := hown
  have hl : lv_has ls 2 [(0, .ref q_this), (1, .int a_1)] := hl
  unfold m_X0_clear at hm
  refine lv_aload_n hx hb dX0_clear_0 rfl (lv_at hl 0 rfl) ?_
  refine gf_X0_9 (v := .ref q_sort) hx hb hts hown hK hP 0 rfl rfl dX0_clear_1 ?_
  refine lv_iload_n hx hb dX0_clear_4 rfl (lv_at hl 1 rfl) ?_
  refine lv_iconst (v := -1) hx hb dX0_clear_5 (by decide) ?_
  refine w_iast hx hb hK hP hD hS 1 rfl hm dX0_clear_6 (fun g_1 => [(q_this, .inr (0, [.ref q_sort, .ref q_length, .ref q_items])), (q_sort, .inl (gI G, 6, .inl g_1)), (q_length, .inl (gI G, 6, .inl f_length))]) (fun _ => rfl) (fun g_1 H locs hm hP hD hS => ?_)
  refine lv_aload_n hx hb dX0_clear_7 rfl (lv_at hl 0 rfl) ?_
  refine gf_X0_15 (v := .ref q_length) hx hb hts hown hK hP 0 rfl rfl dX0_clear_8 ?_
  refine lv_iload_n hx hb dX0_clear_11 rfl (lv_at hl 1 rfl) ?_
  refine lv_iconst (v := 0) hx hb dX0_clear_12 (by decide) ?_
  refine w_iast hx hb hK hP hD hS 2 rfl hm dX0_clear_13 (fun g_2 => [(q_this, .inr (0, [.ref q_sort, .ref q_length, .ref q_items])), (q_sort, .inl (gI G, 6, .inl g_1)), (q_length, .inl (gI G, 6, .inl g_2))]) (fun _ => rfl) (fun g_2 H locs hm hP hD hS => ?_)
  have hfin := fin _ _ ls _ _ (Option.some.inj hm) dX0_clear_14 hP hD hS
  exact hfin
set_option maxHeartbeats 0 in
set_option maxRecDepth 100000 in
theorem c_X0_make (G : GT) (l : Launch) (q_this : Nat) (q_sort : Nat) (f_sort : (Nat → Int32)) (q_length : Nat) (f_length : (Nat → Int32)) (q_items : Nat) (f_items : (Nat → Int64)) (a_1 : Int32) (a_2 : Int32) (a_3 : Int32) {res : (Nat → Int32) × (Nat → Int32) × (Nat → Int64)} (hm : m_X0_make f_sort f_length f_items a_1 a_2 a_3 = some res) : CT G l yX0_make cX0_make 5 none 0 0 [.ref q_this, .int a_1, .int a_2, .int a_3] [(q_this, .inr (0, [.ref q_sort, .ref q_length, .ref q_items])), (q_sort, .inl (gI G, 6, .inl f_sort)), (q_length, .inl (gI G, 6, .inl f_length)), (q_items, .inl (gJ G, 360, .inr (.inl f_items)))] [(q_this, .inr (0, [.ref q_sort, .ref q_length, .ref q_items])), (q_sort, .inl (gI G, 6, .inl res.1)), (q_length, .inl (gI G, 6, .inl res.2.1)), (q_items, .inl (gJ G, 360, .inr (.inl res.2.2)))] none := by
  refine ctV (G := G) (l := l) (y := yX0_make) (cc := cX0_make) (maxL := 5) (fr := 0) (lo := 0) (As := [.ref q_this, .int a_1, .int a_2, .int a_3]) (res := res) (fun res : (Nat → Int32) × (Nat → Int32) × (Nat → Int64) => [(q_this, .inr (0, [.ref q_sort, .ref q_length, .ref q_items])), (q_sort, .inl (gI G, 6, .inl res.1)), (q_length, .inl (gI G, 6, .inl res.2.1)), (q_items, .inl (gJ G, 360, .inr (.inl res.2.2)))]) (plainFor_of_name (by decide)) (Nat.le_of_ble_eq_true rfl) ?_
  intro p e s m below meth c A ls Q hx hb hml hown hts hK hG hA hP hD hS hl fin
  have hown : s.vm.findClass RX0 = some m.cls := hown
  have hl : lv_has ls 5 [(0, .ref q_this), (1, .int a_1), (2, .int a_2), (3, .int a_3)] := hl
  unfold m_X0_make at hm
  refine lv_aload_n hx hb dX0_make_0 rfl (lv_at hl 0 rfl) ?_
  refine gf_X0_9 (v := .ref q_sort) hx hb hts hown hK hP 0 rfl rfl dX0_make_1 ?_
  refine lv_iload_n hx hb dX0_make_4 rfl (lv_at hl 1 rfl) ?_
  refine lv_iload_n hx hb dX0_make_5 rfl (lv_at hl 2 rfl) ?_
  refine w_iast hx hb hK hP hD hS 1 rfl hm dX0_make_6 (fun g_1 => [(q_this, .inr (0, [.ref q_sort, .ref q_length, .ref q_items])), (q_sort, .inl (gI G, 6, .inl g_1)), (q_length, .inl (gI G, 6, .inl f_length)), (q_items, .inl (gJ G, 360, .inr (.inl f_items)))]) (fun _ => rfl) (fun g_1 H locs hm hP hD hS => ?_)
  refine lv_aload_n hx hb dX0_make_7 rfl (lv_at hl 0 rfl) ?_
  refine gf_X0_15 (v := .ref q_length) hx hb hts hown hK hP 0 rfl rfl dX0_make_8 ?_
  refine lv_iload_n hx hb dX0_make_11 rfl (lv_at hl 1 rfl) ?_
  refine lv_iload_n hx hb dX0_make_12 rfl (lv_at hl 3 rfl) ?_
  refine w_iast hx hb hK hP hD hS 2 rfl hm dX0_make_13 (fun g_2 => [(q_this, .inr (0, [.ref q_sort, .ref q_length, .ref q_items])), (q_sort, .inl (gI G, 6, .inl g_1)), (q_length, .inl (gI G, 6, .inl g_2)), (q_items, .inl (gJ G, 360, .inr (.inl f_items)))]) (fun _ => rfl) (fun g_2 H locs hm hP hD hS => ?_)
  refine lv_iconst (v := 0) hx hb dX0_make_14 (by decide) ?_
  refine lv_istore (lv' := [(4, .int (0 : Int32)), (0, .ref q_this), (1, .int a_1), (2, .int a_2), (3, .int a_3)]) hx hb dX0_make_15 hl (by decide) rfl (fun ls hl => ?_)
  have hL_17 : ∀ (k_17 : Int32 → (Nat → Int64) → Option ((Nat → Int32) × (Nat → Int32) × (Nat → Int64))), (∀ (x4_17 : Int32) (y_f_items_17 : (Nat → Int64)) (H : Heap) (locs : List Loc) (ls : Array Slot), k_17 x4_17 y_f_items_17 = some res → va_P (gD G) vwCl [(q_this, .inr (0, [.ref q_sort, .ref q_length, .ref q_items])), (q_sort, .inl (gI G, 6, .inl g_1)), (q_length, .inl (gI G, 6, .inl g_2)), (q_items, .inl (gJ G, 360, .inr (.inl y_f_items_17)))] H → va_D A [(q_this, .inr (0, [.ref q_sort, .ref q_length, .ref q_items])), (q_sort, .inl (gI G, 6, .inl g_1)), (q_length, .inl (gI G, 6, .inl g_2)), (q_items, .inl (gJ G, 360, .inr (.inl y_f_items_17)))] → va_S A s.heap H locs → lv_has ls 5 [] → W p l e { frames := 0, cells := 0, slots := 0, locals := 0 } s m ([.ref q_this, .int a_1, .int a_2, .int a_3] : List Value).toArray below meth c H locs 0 0 Q (F0 m 42 ls [])) → ∀ (n_17 : Nat) (x4_17 : Int32) (y_f_items_17 : (Nat → Int64)) (H : Heap) (locs : List Loc) (ls : Array Slot), m_X0_make_L17 a_1 a_3 n_17 x4_17 y_f_items_17 k_17 = some res → va_P (gD G) vwCl [(q_this, .inr (0, [.ref q_sort, .ref q_length, .ref q_items])), (q_sort, .inl (gI G, 6, .inl g_1)), (q_length, .inl (gI G, 6, .inl g_2)), (q_items, .inl (gJ G, 360, .inr (.inl y_f_items_17)))] H → va_D A [(q_this, .inr (0, [.ref q_sort, .ref q_length, .ref q_items])), (q_sort, .inl (gI G, 6, .inl g_1)), (q_length, .inl (gI G, 6, .inl g_2)), (q_items, .inl (gJ G, 360, .inr (.inl y_f_items_17)))] → va_S A s.heap H locs → lv_has ls 5 [(0, .ref q_this), (1, .int a_1), (3, .int a_3), (4, .int x4_17)] → W p l e { frames := 0, cells := 0, slots := 0, locals := 0 } s m ([.ref q_this, .int a_1, .int a_2, .int a_3] : List Value).toArray below meth c H locs 0 0 Q (F0 m 17 ls []) := by
    intro k_17 hk_17 n_17
    induction n_17 with
    | zero =>
      intro x4_17 y_f_items_17 H locs ls hm
      rw [m_X0_make_L17] at hm
      cases hm
    | succ n_17 ih_17 =>
      intro x4_17 y_f_items_17 H locs ls hm hP hD hS hl
      rw [m_X0_make_L17] at hm
      refine lv_iload hx hb dX0_make_17 (lv_at hl 3 rfl) ?_
      refine lv_iload_n hx hb dX0_make_19 rfl (lv_at hl 2 rfl) ?_
      refine ic_ge (tgt := 42) hx hb dX0_make_20 (by decide) hm (fun hm => ?_) (fun hm => ?_)
      · exact hk_17 x4_17 y_f_items_17 _ _ _ hm hP hD hS (lv_sub hl [] rfl)
      refine lv_aload_n hx hb dX0_make_23 rfl (lv_at hl 0 rfl) ?_
      refine gf_X0_18 (v := .ref q_items) hx hb hts hown hK hP 0 rfl rfl dX0_make_24 ?_
      refine lv_iload_n hx hb dX0_make_27 rfl (lv_at hl 1 rfl) ?_
      refine lv_bipush (v := 60) hx hb dX0_make_28 (by decide) ?_
      refine lv_imul hx hb dX0_make_30 ?_
      refine lv_iload hx hb dX0_make_31 (lv_at hl 3 rfl) ?_
      refine lv_iadd hx hb dX0_make_33 ?_
      refine lv_lconst (v := 0) hx hb dX0_make_34 (by decide) ?_
      refine w_last hx hb hK hP hD hS 3 rfl hm dX0_make_35 (fun g_3 => [(q_this, .inr (0, [.ref q_sort, .ref q_length, .ref q_items])), (q_sort, .inl (gI G, 6, .inl g_1)), (q_length, .inl (gI G, 6, .inl g_2)), (q_items, .inl (gJ G, 360, .inr (.inl g_3)))]) (fun _ => rfl) (fun g_3 H locs hm hP hD hS => ?_)
      refine lv_iinc (v := (x4_17 + (1 : Int32))) (lv' := [(4, .int (x4_17 + (1 : Int32))), (0, .ref q_this), (1, .int a_1), (3, .int a_3)]) hx hb dX0_make_36 hl (k := 3) rfl rfl (by decide) rfl (fun ls hl => ?_)
      refine lv_goto (tgt := 17) hx hb dX0_make_39 (by decide) ?_
      exact ih_17 (x4_17 + (1 : Int32)) g_3 _ _ _ hm hP hD hS (lv_sub hl [1, 2, 3, 0] rfl)
  refine hL_17 _ ?_ FU (0 : Int32) f_items _ _ _ hm hP hD hS (lv_sub hl [1, 2, 4, 0] rfl)
  intro x4_17 y_f_items_17 H locs ls hm hP hD hS hl
  have hfin := fin _ _ ls _ _ (Option.some.inj hm) dX0_make_42 hP hD hS
  exact hfin
set_option maxHeartbeats 0 in
set_option maxRecDepth 100000 in
theorem c_X0_at (G : GT) (l : Launch) (q_this : Nat) (q_sort : Nat) (q_length : Nat) (q_items : Nat) (f_items : (Nat → Int64)) (a_1 : Int32) (a_2 : Int32) {res : Int64} (hm : m_X0_at f_items a_1 a_2 = some res) : CT G l yX0_at cX0_at 3 (some .long) 0 0 [.ref q_this, .int a_1, .int a_2] [(q_this, .inr (0, [.ref q_sort, .ref q_length, .ref q_items])), (q_items, .inl (gJ G, 360, .inr (.inl f_items)))] [(q_this, .inr (0, [.ref q_sort, .ref q_length, .ref q_items])), (q_items, .inl (gJ G, 360, .inr (.inl f_items)))] (some (.long res)) := by
  refine ctJ (G := G) (l := l) (y := yX0_at) (cc := cX0_at) (maxL := 3) (fr := 0) (lo := 0) (As := [.ref q_this, .int a_1, .int a_2]) (res := res) (fun res : Int64 => [(q_this, .inr (0, [.ref q_sort, .ref q_length, .ref q_items])), (q_items, .inl (gJ G, 360, .inr (.inl f_items)))]) (fun res : Int64 => res) (plainFor_of_name (by decide)) (Nat.le_of_ble_eq_true rfl) ?_
  intro p e s m below meth c A ls Q hx hb hml hown hts hK hG hA hP hD hS hl fin
  have hown : s.vm.findClass RX0 = some m.cls := hown
  have hl : lv_has ls 3 [(0, .ref q_this), (1, .int a_1), (2, .int a_2)] := hl
  unfold m_X0_at at hm
  refine lv_aload_n hx hb dX0_at_0 rfl (lv_at hl 0 rfl) ?_
  refine gf_X0_18 (v := .ref q_items) hx hb hts hown hK hP 0 rfl rfl dX0_at_1 ?_
  refine lv_iload_n hx hb dX0_at_4 rfl (lv_at hl 1 rfl) ?_
  refine lv_bipush (v := 60) hx hb dX0_at_5 (by decide) ?_
  refine lv_imul hx hb dX0_at_7 ?_
  refine lv_iload_n hx hb dX0_at_8 rfl (lv_at hl 2 rfl) ?_
  refine lv_iadd hx hb dX0_at_9 ?_
  refine w_lald hx hb hK hP 1 rfl hm dX0_at_10 (fun v_1 hm => ?_)
  have hfin := fin _ _ ls _ _ (Option.some.inj hm) dX0_at_11 hP hD hS
  exact hfin
set_option maxHeartbeats 0 in
set_option maxRecDepth 100000 in
theorem c_X0_cutDown (G : GT) (l : Launch) (a_1 : Int32) (a_2 : Int64) {res : Int64} (hm : m_X0_cutDown a_1 a_2 = some res) : CT G l yX0_cutDown cX0_cutDown 3 (some .long) 0 0 [.int a_1, .long a_2] [] [] (some (.long res)) := by
  refine ctJ (G := G) (l := l) (y := yX0_cutDown) (cc := cX0_cutDown) (maxL := 3) (fr := 0) (lo := 0) (As := [.int a_1, .long a_2]) (res := res) (fun res : Int64 => []) (fun res : Int64 => res) (plainFor_of_name (by decide)) (Nat.le_of_ble_eq_true rfl) ?_
  intro p e s m below meth c A ls Q hx hb hml hown hts hK hG hA hP hD hS hl fin
  have hown : s.vm.findClass RX0 = some m.cls := hown
  have hl : lv_has ls 3 [(0, .int a_1), (1, .long a_2)] := hl
  unfold m_X0_cutDown at hm
  refine lv_iload_n hx hb dX0_cutDown_0 rfl (lv_at hl 0 rfl) ?_
  refine sw_in (tgt := 32) (off := 31) hx hb dX0_cutDown_1 0 (by decide) (by decide) rfl (by decide) hm (fun hm => ?_) (fun n_s0 hm => ?_)
  · refine lv_lload_n hx hb dX0_cutDown_32 rfl (lv_at hl 1 rfl) ?_
    refine lv_l2i hx hb dX0_cutDown_33 rfl ?_
    refine lv_i2b hx hb dX0_cutDown_34 rfl ?_
    refine lv_i2l hx hb dX0_cutDown_35 rfl ?_
    have hfin := fin _ _ ls _ _ (Option.some.inj hm) dX0_cutDown_36 hP hD hS
    exact hfin
  refine sw_in (tgt := 37) (off := 36) hx hb dX0_cutDown_1 1 (by decide) (by decide) rfl (by decide) hm (fun hm => ?_) (fun n_s1 hm => ?_)
  · refine lv_lload_n hx hb dX0_cutDown_37 rfl (lv_at hl 1 rfl) ?_
    refine lv_l2i hx hb dX0_cutDown_38 rfl ?_
    refine lv_i2s hx hb dX0_cutDown_39 rfl ?_
    refine lv_i2l hx hb dX0_cutDown_40 rfl ?_
    have hfin := fin _ _ ls _ _ (Option.some.inj hm) dX0_cutDown_41 hP hD hS
    exact hfin
  refine sw_in (tgt := 42) (off := 41) hx hb dX0_cutDown_1 2 (by decide) (by decide) rfl (by decide) hm (fun hm => ?_) (fun n_s2 hm => ?_)
  · refine lv_lload_n hx hb dX0_cutDown_42 rfl (lv_at hl 1 rfl) ?_
    refine lv_l2i hx hb dX0_cutDown_43 rfl ?_
    refine lv_i2l hx hb dX0_cutDown_44 rfl ?_
    have hfin := fin _ _ ls _ _ (Option.some.inj hm) dX0_cutDown_45 hP hD hS
    exact hfin
  refine sw_in (tgt := 46) (off := 45) hx hb dX0_cutDown_1 3 (by decide) (by decide) rfl (by decide) hm (fun hm => ?_) (fun n_s3 hm => ?_)
  · refine lv_lload_n hx hb dX0_cutDown_46 rfl (lv_at hl 1 rfl) ?_
    have hfin := fin _ _ ls _ _ (Option.some.inj hm) dX0_cutDown_47 hP hD hS
    exact hfin
  refine lv_tableOut (tgt := 48) hx hb dX0_cutDown_1 (by have n_t0 := lv_neT (a := 0) n_s0 rfl; have n_t1 := lv_neT (a := 1) n_s1 rfl; have n_t2 := lv_neT (a := 2) n_s2 rfl; have n_t3 := lv_neT (a := 3) n_s3 rfl; omega) (by decide) ?_
  refine lv_lload_n hx hb dX0_cutDown_48 rfl (lv_at hl 1 rfl) ?_
  refine lv_lconst (v := 0) hx hb dX0_cutDown_49 (by decide) ?_
  refine W.lcmp hx hb dX0_cutDown_50 ?_
  refine if_eq (tgt := 58) hx hb dX0_cutDown_51 (by decide) hm (fun hm => ?_) (fun hm => ?_)
  · refine lv_lconst (v := 0) hx hb dX0_cutDown_58 (by decide) ?_
    have hfin := fin _ _ ls _ _ (Option.some.inj hm) dX0_cutDown_59 hP hD hS
    exact hfin
  refine lv_lconst (v := 1) hx hb dX0_cutDown_54 (by decide) ?_
  refine lv_goto (tgt := 59) hx hb dX0_cutDown_55 (by decide) ?_
  have hfin := fin _ _ ls _ _ (Option.some.inj hm) dX0_cutDown_59 hP hD hS
  exact hfin
set_option maxHeartbeats 0 in
set_option maxRecDepth 100000 in
theorem c_X0_put (G : GT) (l : Launch) (q_this : Nat) (q_length : Nat) (q_sort : Nat) (f_sort : (Nat → Int32)) (q_items : Nat) (f_items : (Nat → Int64)) (a_1 : Int32) (a_2 : Int32) (a_3 : Int64) {res : (Nat → Int64)} (hm : m_X0_put f_sort f_items a_1 a_2 a_3 = some res) : CT G l yX0_put cX0_put 5 none 1 22 [.ref q_this, .int a_1, .int a_2, .long a_3] [(q_this, .inr (0, [.ref q_sort, .ref q_length, .ref q_items])), (q_sort, .inl (gI G, 6, .inl f_sort)), (q_items, .inl (gJ G, 360, .inr (.inl f_items)))] [(q_this, .inr (0, [.ref q_sort, .ref q_length, .ref q_items])), (q_sort, .inl (gI G, 6, .inl f_sort)), (q_items, .inl (gJ G, 360, .inr (.inl res)))] none := by
  refine ctV (G := G) (l := l) (y := yX0_put) (cc := cX0_put) (maxL := 5) (fr := 1) (lo := 22) (As := [.ref q_this, .int a_1, .int a_2, .long a_3]) (res := res) (fun res : (Nat → Int64) => [(q_this, .inr (0, [.ref q_sort, .ref q_length, .ref q_items])), (q_sort, .inl (gI G, 6, .inl f_sort)), (q_items, .inl (gJ G, 360, .inr (.inl res)))]) (plainFor_of_name (by decide)) (Nat.le_of_ble_eq_true rfl) ?_
  intro p e s m below meth c A ls Q hx hb hml hown hts hK hG hA hP hD hS hl fin
  have hown : s.vm.findClass RX0 = some m.cls := hown
  have hl : lv_has ls 5 [(0, .ref q_this), (1, .int a_1), (2, .int a_2), (3, .long a_3)] := hl
  unfold m_X0_put at hm
  refine lv_aload_n hx hb dX0_put_0 rfl (lv_at hl 0 rfl) ?_
  refine gf_X0_18 (v := .ref q_items) hx hb hts hown hK hP 0 rfl rfl dX0_put_1 ?_
  refine lv_iload_n hx hb dX0_put_4 rfl (lv_at hl 1 rfl) ?_
  refine lv_bipush (v := 60) hx hb dX0_put_5 (by decide) ?_
  refine lv_imul hx hb dX0_put_7 ?_
  refine lv_iload_n hx hb dX0_put_8 rfl (lv_at hl 2 rfl) ?_
  refine lv_iadd hx hb dX0_put_9 ?_
  refine lv_aload_n hx hb dX0_put_10 rfl (lv_at hl 0 rfl) ?_
  refine gf_X0_9 (v := .ref q_sort) hx hb hts hown hK hP 0 rfl rfl dX0_put_11 ?_
  refine lv_iload_n hx hb dX0_put_14 rfl (lv_at hl 1 rfl) ?_
  refine w_iald hx hb hK hP 1 rfl hm dX0_put_15 (fun v_1 hm => ?_)
  refine lv_lload_n hx hb dX0_put_16 rfl (lv_at hl 3 rfl) ?_
  obtain ⟨r_2, h_3, hm⟩ := cl_elim hm
  refine w_callS (As := [.int v_1, .long a_3]) (rest := [.int ((a_1 * (60 : Int32)) + a_2), .ref q_items]) (wr := [(q_this, .inr (0, [.ref q_sort, .ref q_length, .ref q_items])), (q_sort, .inl (gI G, 6, .inl f_sort)), (q_items, .inl (gJ G, 360, .inr (.inl f_items)))]) (W1 := [(q_this, .inr (0, [.ref q_sort, .ref q_length, .ref q_items])), (q_sort, .inl (gI G, 6, .inl f_sort)), (q_items, .inl (gJ G, 360, .inr (.inl f_items)))]) hx hb hml hown hts hK hG hP hD hS hA (c_X0_cutDown G l v_1 a_3 h_3) kc_X0_cutDown ks_X0_cutDown bw958 rfl hl.1 rfl (Nat.le_of_ble_eq_true rfl) dX0_put_17 (Nat.le_of_ble_eq_true rfl) (Nat.le_of_ble_eq_true rfl) ⟨Nat.le_refl _, Nat.le_refl _⟩ [] [0, 1, 2] [0, 1, 2] rfl rfl rfl rfl (by decide) rfl rfl (fun H locs hP hD hS => ?_)
  refine w_last hx hb hK hP hD hS 2 rfl hm dX0_put_20 (fun g_4 => [(q_this, .inr (0, [.ref q_sort, .ref q_length, .ref q_items])), (q_sort, .inl (gI G, 6, .inl f_sort)), (q_items, .inl (gJ G, 360, .inr (.inl g_4)))]) (fun _ => rfl) (fun g_4 H locs hm hP hD hS => ?_)
  have hfin := fin _ _ ls _ _ (Option.some.inj hm) dX0_put_21 hP hD hS
  exact hfin
set_option maxHeartbeats 0 in
set_option maxRecDepth 100000 in
theorem c_X0_move (G : GT) (l : Launch) (q_this : Nat) (q_sort : Nat) (q_length : Nat) (q_items : Nat) (f_items : (Nat → Int64)) (a_1 : Int32) (a_2 : Int32) (a_3 : Int32) (a_4 : Int32) (a_5 : Int32) {res : (Nat → Int64)} (hm : m_X0_move f_items a_1 a_2 a_3 a_4 a_5 = some res) : CT G l yX0_move cX0_move 6 none 1 18 [.ref q_this, .int a_1, .int a_2, .int a_3, .int a_4, .int a_5] [(q_this, .inr (0, [.ref q_sort, .ref q_length, .ref q_items])), (q_items, .inl (gJ G, 360, .inr (.inl f_items)))] [(q_this, .inr (0, [.ref q_sort, .ref q_length, .ref q_items])), (q_items, .inl (gJ G, 360, .inr (.inl res)))] none := by
  refine ctV (G := G) (l := l) (y := yX0_move) (cc := cX0_move) (maxL := 6) (fr := 1) (lo := 18) (As := [.ref q_this, .int a_1, .int a_2, .int a_3, .int a_4, .int a_5]) (res := res) (fun res : (Nat → Int64) => [(q_this, .inr (0, [.ref q_sort, .ref q_length, .ref q_items])), (q_items, .inl (gJ G, 360, .inr (.inl res)))]) (plainFor_of_name (by decide)) (Nat.le_of_ble_eq_true rfl) ?_
  intro p e s m below meth c A ls Q hx hb hml hown hts hK hG hA hP hD hS hl fin
  have hown : s.vm.findClass RX0 = some m.cls := hown
  have hl : lv_has ls 6 [(0, .ref q_this), (1, .int a_1), (2, .int a_2), (3, .int a_3), (4, .int a_4), (5, .int a_5)] := hl
  unfold m_X0_move at hm
  refine lv_aload_n hx hb dX0_move_0 rfl (lv_at hl 0 rfl) ?_
  refine gf_X0_18 (v := .ref q_items) hx hb hts hown hK hP 0 rfl rfl dX0_move_1 ?_
  refine lv_iload_n hx hb dX0_move_4 rfl (lv_at hl 1 rfl) ?_
  refine lv_bipush (v := 60) hx hb dX0_move_5 (by decide) ?_
  refine lv_imul hx hb dX0_move_7 ?_
  refine lv_iload_n hx hb dX0_move_8 rfl (lv_at hl 2 rfl) ?_
  refine lv_iadd hx hb dX0_move_9 ?_
  refine lv_aload_n hx hb dX0_move_10 rfl (lv_at hl 0 rfl) ?_
  refine gf_X0_18 (v := .ref q_items) hx hb hts hown hK hP 0 rfl rfl dX0_move_11 ?_
  refine lv_iload_n hx hb dX0_move_14 rfl (lv_at hl 3 rfl) ?_
  refine lv_bipush (v := 60) hx hb dX0_move_15 (by decide) ?_
  refine lv_imul hx hb dX0_move_17 ?_
  refine lv_iload hx hb dX0_move_18 (lv_at hl 4 rfl) ?_
  refine lv_iadd hx hb dX0_move_20 ?_
  refine lv_iload hx hb dX0_move_21 (lv_at hl 5 rfl) ?_
  refine w_copyl hx hb hml hl.1 hts hown bw973 bw893 bw892 bw93 hK hP hD hS 1 1 rfl rfl hm (Nat.le_of_ble_eq_true rfl) (by decide) dX0_move_23 (fun g_1 => [(q_this, .inr (0, [.ref q_sort, .ref q_length, .ref q_items])), (q_items, .inl (gJ G, 360, .inr (.inl g_1)))]) (fun _ => rfl) (fun g_1 H locs hm hP hD hS => ?_)
  have hfin := fin _ _ ls _ _ (Option.some.inj hm) dX0_move_26 hP hD hS
  exact hfin
set_option maxHeartbeats 0 in
set_option maxRecDepth 100000 in
theorem c_X1_write (G : GT) (l : Launch) (q_this : Nat) (f_length : Int32) (q_bytes : Nat) (f_bytes : (Nat → Int32)) (a_1 : Int32) {res : (Nat → Int32) × Int32} (hm : m_X1_write f_bytes f_length a_1 = some res) : CT G l yX1_write cX1_write 2 none 0 0 [.ref q_this, .int a_1] [(q_this, .inr (1, [.ref q_bytes, .int f_length])), (q_bytes, .inl (gI G, 160, .inl f_bytes))] [(q_this, .inr (1, [.ref q_bytes, .int res.2])), (q_bytes, .inl (gI G, 160, .inl res.1))] none := by
  refine ctV (G := G) (l := l) (y := yX1_write) (cc := cX1_write) (maxL := 2) (fr := 0) (lo := 0) (As := [.ref q_this, .int a_1]) (res := res) (fun res : (Nat → Int32) × Int32 => [(q_this, .inr (1, [.ref q_bytes, .int res.2])), (q_bytes, .inl (gI G, 160, .inl res.1))]) (plainFor_of_name (by decide)) (Nat.le_of_ble_eq_true rfl) ?_
  intro p e s m below meth c A ls Q hx hb hml hown hts hK hG hA hP hD hS hl fin
  have hown : s.vm.findClass RX1 = some m.cls := hown
  have hl : lv_has ls 2 [(0, .ref q_this), (1, .int a_1)] := hl
  unfold m_X1_write at hm
  refine lv_aload_n hx hb dX1_write_0 rfl (lv_at hl 0 rfl) ?_
  refine gf_X1_15 (v := .int f_length) hx hb hts hown hK hP 0 rfl rfl dX1_write_1 ?_
  refine lv_sipush (v := 160) hx hb dX1_write_4 (by decide) ?_
  refine ic_ge (tgt := 30) hx hb dX1_write_7 (by decide) hm (fun hm => ?_) (fun hm => ?_)
  · have hfin := fin _ _ ls _ _ (Option.some.inj hm) dX1_write_30 hP hD hS
    exact hfin
  refine lv_aload_n hx hb dX1_write_10 rfl (lv_at hl 0 rfl) ?_
  refine gf_X1_9 (v := .ref q_bytes) hx hb hts hown hK hP 0 rfl rfl dX1_write_11 ?_
  refine lv_aload_n hx hb dX1_write_14 rfl (lv_at hl 0 rfl) ?_
  refine gf_X1_15 (v := .int f_length) hx hb hts hown hK hP 0 rfl rfl dX1_write_15 ?_
  refine lv_iload_n hx hb dX1_write_18 rfl (lv_at hl 1 rfl) ?_
  refine w_iast hx hb hK hP hD hS 1 rfl hm dX1_write_19 (fun g_1 => [(q_this, .inr (1, [.ref q_bytes, .int f_length])), (q_bytes, .inl (gI G, 160, .inl g_1))]) (fun _ => rfl) (fun g_1 H locs hm hP hD hS => ?_)
  refine lv_aload_n hx hb dX1_write_20 rfl (lv_at hl 0 rfl) ?_
  refine lv_dup hx hb dX1_write_21 rfl ?_
  refine gf_X1_15 (v := .int f_length) hx hb hts hown hK hP 0 rfl rfl dX1_write_22 ?_
  refine lv_iconst (v := 1) hx hb dX1_write_25 (by decide) ?_
  refine lv_iadd hx hb dX1_write_26 ?_
  refine pf_X1_15 (W1 := [(q_this, .inr (1, [.ref q_bytes, .int (f_length + (1 : Int32))])), (q_bytes, .inl (gI G, 160, .inl g_1))]) hx hb hts hown hK hP hD hS 0 rfl (Nat.le_of_ble_eq_true rfl) dX1_write_27 rfl (fun H locs hP hD hS => ?_)
  have hfin := fin _ _ ls _ _ (Option.some.inj hm) dX1_write_30 hP hD hS
  exact hfin
set_option maxHeartbeats 0 in
set_option maxRecDepth 100000 in
theorem c_X1_writeUnit (G : GT) (l : Launch) (q_this : Nat) (f_length : Int32) (q_bytes : Nat) (f_bytes : (Nat → Int32)) (a_1 : Int32) {res : (Nat → Int32) × Int32} (hm : m_X1_writeUnit f_bytes f_length a_1 = some res) : CT G l yX1_writeUnit cX1_writeUnit 2 none 1 21 [.ref q_this, .int a_1] [(q_this, .inr (1, [.ref q_bytes, .int f_length])), (q_bytes, .inl (gI G, 160, .inl f_bytes))] [(q_this, .inr (1, [.ref q_bytes, .int res.2])), (q_bytes, .inl (gI G, 160, .inl res.1))] none := by
  refine ctV (G := G) (l := l) (y := yX1_writeUnit) (cc := cX1_writeUnit) (maxL := 2) (fr := 1) (lo := 21) (As := [.ref q_this, .int a_1]) (res := res) (fun res : (Nat → Int32) × Int32 => [(q_this, .inr (1, [.ref q_bytes, .int res.2])), (q_bytes, .inl (gI G, 160, .inl res.1))]) (plainFor_of_name (by decide)) (Nat.le_of_ble_eq_true rfl) ?_
  intro p e s m below meth c A ls Q hx hb hml hown hts hK hG hA hP hD hS hl fin
  have hown : s.vm.findClass RX1 = some m.cls := hown
  have hl : lv_has ls 2 [(0, .ref q_this), (1, .int a_1)] := hl
  unfold m_X1_writeUnit at hm
  refine lv_aload_n hx hb dX1_writeUnit_0 rfl (lv_at hl 0 rfl) ?_
  refine lv_bipush (v := 97) hx hb dX1_writeUnit_1 (by decide) ?_
  refine lv_iload_n hx hb dX1_writeUnit_3 rfl (lv_at hl 1 rfl) ?_
  refine lv_iadd hx hb dX1_writeUnit_4 ?_
  obtain ⟨r_1, h_2, hm⟩ := cl_elim hm
  refine w_callV (As := [.int ((97 : Int32) + a_1)]) (rest := []) (wr := []) (W1 := [(q_this, .inr (1, [.ref q_bytes, .int r_1.2])), (q_bytes, .inl (gI G, 160, .inl r_1.1))]) (ci := 1) (q0 := 0) hx hb hml hown hts hK hG hP hD hS hA (c_X1_write G l q_this f_length q_bytes f_bytes ((97 : Int32) + a_1) h_2) kc_X1_write ki_X1_write bw833 rfl rfl rfl hl.1 rfl (Nat.le_of_ble_eq_true rfl) dX1_writeUnit_5 (Nat.le_of_ble_eq_true rfl) (Nat.le_of_ble_eq_true rfl) ⟨Nat.le_refl _, Nat.le_refl _⟩ [0, 1] [] [0, 1] rfl rfl rfl rfl (by decide) rfl rfl (fun H locs hP hD hS => ?_)
  have hfin := fin _ _ ls _ _ (Option.some.inj hm) dX1_writeUnit_8 hP hD hS
  exact hfin
set_option maxHeartbeats 0 in
set_option maxRecDepth 100000 in
theorem c_X1_writeBetween (G : GT) (l : Launch) (q_this : Nat) (f_length : Int32) (q_bytes : Nat) (f_bytes : (Nat → Int32)) (a_1 : Int32) {res : (Nat → Int32) × Int32} (hm : m_X1_writeBetween f_bytes f_length a_1 = some res) : CT G l yX1_writeBetween cX1_writeBetween 2 none 1 21 [.ref q_this, .int a_1] [(q_this, .inr (1, [.ref q_bytes, .int f_length])), (q_bytes, .inl (gI G, 160, .inl f_bytes))] [(q_this, .inr (1, [.ref q_bytes, .int res.2])), (q_bytes, .inl (gI G, 160, .inl res.1))] none := by
  refine ctV (G := G) (l := l) (y := yX1_writeBetween) (cc := cX1_writeBetween) (maxL := 2) (fr := 1) (lo := 21) (As := [.ref q_this, .int a_1]) (res := res) (fun res : (Nat → Int32) × Int32 => [(q_this, .inr (1, [.ref q_bytes, .int res.2])), (q_bytes, .inl (gI G, 160, .inl res.1))]) (plainFor_of_name (by decide)) (Nat.le_of_ble_eq_true rfl) ?_
  intro p e s m below meth c A ls Q hx hb hml hown hts hK hG hA hP hD hS hl fin
  have hown : s.vm.findClass RX1 = some m.cls := hown
  have hl : lv_has ls 2 [(0, .ref q_this), (1, .int a_1)] := hl
  unfold m_X1_writeBetween at hm
  refine lv_aload_n hx hb dX1_writeBetween_0 rfl (lv_at hl 0 rfl) ?_
  refine gf_X1_15 (v := .int f_length) hx hb hts hown hK hP 0 rfl rfl dX1_writeBetween_1 ?_
  refine if_le (tgt := 12) hx hb dX1_writeBetween_4 (by decide) hm (fun hm => ?_) (fun hm => ?_)
  · have hfin := fin _ _ ls _ _ (Option.some.inj hm) dX1_writeBetween_12 hP hD hS
    exact hfin
  refine lv_aload_n hx hb dX1_writeBetween_7 rfl (lv_at hl 0 rfl) ?_
  refine lv_iload_n hx hb dX1_writeBetween_8 rfl (lv_at hl 1 rfl) ?_
  obtain ⟨r_1, h_2, hm⟩ := cl_elim hm
  refine w_callV (As := [.int a_1]) (rest := []) (wr := []) (W1 := [(q_this, .inr (1, [.ref q_bytes, .int r_1.2])), (q_bytes, .inl (gI G, 160, .inl r_1.1))]) (ci := 1) (q0 := 0) hx hb hml hown hts hK hG hP hD hS hA (c_X1_write G l q_this f_length q_bytes f_bytes a_1 h_2) kc_X1_write ki_X1_write bw833 rfl rfl rfl hl.1 rfl (Nat.le_of_ble_eq_true rfl) dX1_writeBetween_9 (Nat.le_of_ble_eq_true rfl) (Nat.le_of_ble_eq_true rfl) ⟨Nat.le_refl _, Nat.le_refl _⟩ [0, 1] [] [0, 1] rfl rfl rfl rfl (by decide) rfl rfl (fun H locs hP hD hS => ?_)
  have hfin := fin _ _ ls _ _ (Option.some.inj hm) dX1_writeBetween_12 hP hD hS
  exact hfin
set_option maxHeartbeats 0 in
set_option maxRecDepth 100000 in
theorem c_X5_selfReachers (G : GT) (l : Launch) (q_this : Nat) (f_units : Int32) (q_under : Nat) (q_above : Nat) (q_levelRow : Nat) (q_shown : Nat) (q_stepsBack : Nat) (q_reach : Nat) (f_reach : (Nat → Int32)) {res : Int32} (hm : m_X5_selfReachers f_units f_reach = some res) : CT G l yX5_selfReachers cX5_selfReachers 3 (some .int) 0 0 [.ref q_this] [(q_this, .inr (5, [.int f_units, .ref q_under, .ref q_above, .ref q_reach, .ref q_levelRow, .ref q_shown, .ref q_stepsBack])), (q_reach, .inl (gI G, 12, .inl f_reach))] [(q_this, .inr (5, [.int f_units, .ref q_under, .ref q_above, .ref q_reach, .ref q_levelRow, .ref q_shown, .ref q_stepsBack])), (q_reach, .inl (gI G, 12, .inl f_reach))] (some (.int res)) := by
  refine ctI (G := G) (l := l) (y := yX5_selfReachers) (cc := cX5_selfReachers) (maxL := 3) (fr := 0) (lo := 0) (As := [.ref q_this]) (res := res) (fun res : Int32 => [(q_this, .inr (5, [.int f_units, .ref q_under, .ref q_above, .ref q_reach, .ref q_levelRow, .ref q_shown, .ref q_stepsBack])), (q_reach, .inl (gI G, 12, .inl f_reach))]) (fun res : Int32 => res) (plainFor_of_name (by decide)) (Nat.le_of_ble_eq_true rfl) ?_
  intro p e s m below meth c A ls Q hx hb hml hown hts hK hG hA hP hD hS hl fin
  have hown : s.vm.findClass RX5 = some m.cls := hown
  have hl : lv_has ls 3 [(0, .ref q_this)] := hl
  unfold m_X5_selfReachers at hm
  refine lv_iconst (v := 0) hx hb dX5_selfReachers_0 (by decide) ?_
  refine lv_istore_n (lv' := [(1, .int (0 : Int32)), (0, .ref q_this)]) hx hb dX5_selfReachers_1 rfl hl (by decide) rfl (fun ls hl => ?_)
  refine lv_iconst (v := 0) hx hb dX5_selfReachers_2 (by decide) ?_
  refine lv_istore_n (lv' := [(2, .int (0 : Int32)), (1, .int (0 : Int32)), (0, .ref q_this)]) hx hb dX5_selfReachers_3 rfl hl (by decide) rfl (fun ls hl => ?_)
  have hL_4 : ∀ (k_4 : Int32 → Int32 → Option Int32), (∀ (x1_4 : Int32) (x2_4 : Int32) (H : Heap) (locs : List Loc) (ls : Array Slot), k_4 x1_4 x2_4 = some res → va_P (gD G) vwCl [(q_this, .inr (5, [.int f_units, .ref q_under, .ref q_above, .ref q_reach, .ref q_levelRow, .ref q_shown, .ref q_stepsBack])), (q_reach, .inl (gI G, 12, .inl f_reach))] H → va_D A [(q_this, .inr (5, [.int f_units, .ref q_under, .ref q_above, .ref q_reach, .ref q_levelRow, .ref q_shown, .ref q_stepsBack])), (q_reach, .inl (gI G, 12, .inl f_reach))] → va_S A s.heap H locs → lv_has ls 3 [(1, .int x1_4)] → W p l e { frames := 0, cells := 0, slots := 0, locals := 0 } s m ([.ref q_this] : List Value).toArray below meth c H locs 0 0 Q (F0 m 31 ls [])) → ∀ (n_4 : Nat) (x1_4 : Int32) (x2_4 : Int32) (H : Heap) (locs : List Loc) (ls : Array Slot), m_X5_selfReachers_L4 f_units f_reach n_4 x1_4 x2_4 k_4 = some res → va_P (gD G) vwCl [(q_this, .inr (5, [.int f_units, .ref q_under, .ref q_above, .ref q_reach, .ref q_levelRow, .ref q_shown, .ref q_stepsBack])), (q_reach, .inl (gI G, 12, .inl f_reach))] H → va_D A [(q_this, .inr (5, [.int f_units, .ref q_under, .ref q_above, .ref q_reach, .ref q_levelRow, .ref q_shown, .ref q_stepsBack])), (q_reach, .inl (gI G, 12, .inl f_reach))] → va_S A s.heap H locs → lv_has ls 3 [(0, .ref q_this), (1, .int x1_4), (2, .int x2_4)] → W p l e { frames := 0, cells := 0, slots := 0, locals := 0 } s m ([.ref q_this] : List Value).toArray below meth c H locs 0 0 Q (F0 m 4 ls []) := by
    intro k_4 hk_4 n_4
    induction n_4 with
    | zero =>
      intro x1_4 x2_4 H locs ls hm
      rw [m_X5_selfReachers_L4] at hm
      cases hm
    | succ n_4 ih_4 =>
      intro x1_4 x2_4 H locs ls hm hP hD hS hl
      rw [m_X5_selfReachers_L4] at hm
      refine lv_iload_n hx hb dX5_selfReachers_4 rfl (lv_at hl 2 rfl) ?_
      refine lv_aload_n hx hb dX5_selfReachers_5 rfl (lv_at hl 0 rfl) ?_
      refine gf_X5_9 (v := .int f_units) hx hb hts hown hK hP 0 rfl rfl dX5_selfReachers_6 ?_
      refine ic_ge (tgt := 31) hx hb dX5_selfReachers_9 (by decide) hm (fun hm => ?_) (fun hm => ?_)
      · exact hk_4 x1_4 x2_4 _ _ _ hm hP hD hS (lv_sub hl [1] rfl)
      refine lv_iload_n hx hb dX5_selfReachers_12 rfl (lv_at hl 1 rfl) ?_
      refine lv_aload_n hx hb dX5_selfReachers_13 rfl (lv_at hl 0 rfl) ?_
      refine gf_X5_22 (v := .ref q_reach) hx hb hts hown hK hP 0 rfl rfl dX5_selfReachers_14 ?_
      refine lv_iload_n hx hb dX5_selfReachers_17 rfl (lv_at hl 2 rfl) ?_
      refine w_iald hx hb hK hP 1 rfl hm dX5_selfReachers_18 (fun v_1 hm => ?_)
      refine lv_iconst (v := 1) hx hb dX5_selfReachers_19 (by decide) ?_
      refine lv_iload_n hx hb dX5_selfReachers_20 rfl (lv_at hl 2 rfl) ?_
      refine lv_ishl hx hb dX5_selfReachers_21 ?_
      refine lv_iand hx hb dX5_selfReachers_22 ?_
      refine lv_ior hx hb dX5_selfReachers_23 ?_
      refine nmi hm (fun v_2 hm => ?_)
      refine lv_istore_n (lv' := [(1, .int v_2), (0, .ref q_this), (2, .int x2_4)]) hx hb dX5_selfReachers_24 rfl hl (by decide) rfl (fun ls hl => ?_)
      refine lv_iinc (v := (x2_4 + (1 : Int32))) (lv' := [(2, .int (x2_4 + (1 : Int32))), (1, .int v_2), (0, .ref q_this)]) hx hb dX5_selfReachers_25 hl (k := 2) rfl rfl (by decide) rfl (fun ls hl => ?_)
      refine lv_goto (tgt := 4) hx hb dX5_selfReachers_28 (by decide) ?_
      exact ih_4 v_2 (x2_4 + (1 : Int32)) _ _ _ hm hP hD hS (lv_sub hl [2, 1, 0] rfl)
  refine hL_4 _ ?_ FU (0 : Int32) (0 : Int32) _ _ _ hm hP hD hS (lv_sub hl [2, 1, 0] rfl)
  intro x1_4 x2_4 H locs ls hm hP hD hS hl
  refine lv_iload_n hx hb dX5_selfReachers_31 rfl (lv_at hl 0 rfl) ?_
  have hfin := fin _ _ ls _ _ (Option.some.inj hm) dX5_selfReachers_32 hP hD hS
  exact hfin
set_option maxHeartbeats 0 in
set_option maxRecDepth 100000 in
theorem c_X5_hasCycle (G : GT) (l : Launch) (q_this : Nat) (f_units : Int32) (q_under : Nat) (q_above : Nat) (q_levelRow : Nat) (q_shown : Nat) (q_stepsBack : Nat) (q_reach : Nat) (f_reach : (Nat → Int32)) {res : Int32} (hm : m_X5_hasCycle f_units f_reach = some res) : CT G l yX5_hasCycle cX5_hasCycle 1 (some .boolean) 1 22 [.ref q_this] [(q_this, .inr (5, [.int f_units, .ref q_under, .ref q_above, .ref q_reach, .ref q_levelRow, .ref q_shown, .ref q_stepsBack])), (q_reach, .inl (gI G, 12, .inl f_reach))] [(q_this, .inr (5, [.int f_units, .ref q_under, .ref q_above, .ref q_reach, .ref q_levelRow, .ref q_shown, .ref q_stepsBack])), (q_reach, .inl (gI G, 12, .inl f_reach))] (some (.int res)) := by
  refine ctZ (G := G) (l := l) (y := yX5_hasCycle) (cc := cX5_hasCycle) (maxL := 1) (fr := 1) (lo := 22) (As := [.ref q_this]) (res := res) (fun res : Int32 => [(q_this, .inr (5, [.int f_units, .ref q_under, .ref q_above, .ref q_reach, .ref q_levelRow, .ref q_shown, .ref q_stepsBack])), (q_reach, .inl (gI G, 12, .inl f_reach))]) (fun res : Int32 => res) (plainFor_of_name (by decide)) (Nat.le_of_ble_eq_true rfl) ?_
  intro p e s m below meth c A ls Q hx hb hml hown hts hK hG hA hP hD hS hl fin
  have hown : s.vm.findClass RX5 = some m.cls := hown
  have hl : lv_has ls 1 [(0, .ref q_this)] := hl
  unfold m_X5_hasCycle at hm
  refine lv_aload_n hx hb dX5_hasCycle_0 rfl (lv_at hl 0 rfl) ?_
  obtain ⟨r_1, h_2, hm⟩ := cl_elim hm
  refine w_callV (As := []) (rest := []) (wr := []) (W1 := [(q_this, .inr (5, [.int f_units, .ref q_under, .ref q_above, .ref q_reach, .ref q_levelRow, .ref q_shown, .ref q_stepsBack])), (q_reach, .inl (gI G, 12, .inl f_reach))]) (ci := 5) (q0 := 0) hx hb hml hown hts hK hG hP hD hS hA (c_X5_selfReachers G l q_this f_units q_under q_above q_levelRow q_shown q_stepsBack q_reach f_reach h_2) kc_X5_selfReachers ki_X5_selfReachers bw451 rfl rfl rfl hl.1 rfl (Nat.le_of_ble_eq_true rfl) dX5_hasCycle_1 (Nat.le_of_ble_eq_true rfl) (Nat.le_of_ble_eq_true rfl) ⟨Nat.le_refl _, Nat.le_refl _⟩ [0, 1] [] [0, 1] rfl rfl rfl rfl (by decide) rfl rfl (fun H locs hP hD hS => ?_)
  refine if_eq (tgt := 11) hx hb dX5_hasCycle_4 (by decide) hm (fun hm => ?_) (fun hm => ?_)
  · refine lv_iconst (v := 0) hx hb dX5_hasCycle_11 (by decide) ?_
    have hfin := fin _ _ ls _ _ (Option.some.inj hm) dX5_hasCycle_12 (Or.inl rfl) hP hD hS
    exact hfin
  refine lv_iconst (v := 1) hx hb dX5_hasCycle_7 (by decide) ?_
  refine lv_goto (tgt := 12) hx hb dX5_hasCycle_8 (by decide) ?_
  have hfin := fin _ _ ls _ _ (Option.some.inj hm) dX5_hasCycle_12 (Or.inr rfl) hP hD hS
  exact hfin
set_option maxHeartbeats 0 in
set_option maxRecDepth 100000 in
theorem c_X7_hasBit (G : GT) (l : Launch) (a_1 : Int32) (a_2 : Int32) {res : Int32} (hm : m_X7_hasBit a_1 a_2 = some res) : CT G l yX7_hasBit cX7_hasBit 2 (some .boolean) 0 0 [.int a_1, .int a_2] [] [] (some (.int res)) := by
  refine ctZ (G := G) (l := l) (y := yX7_hasBit) (cc := cX7_hasBit) (maxL := 2) (fr := 0) (lo := 0) (As := [.int a_1, .int a_2]) (res := res) (fun res : Int32 => []) (fun res : Int32 => res) (plainFor_of_name (by decide)) (Nat.le_of_ble_eq_true rfl) ?_
  intro p e s m below meth c A ls Q hx hb hml hown hts hK hG hA hP hD hS hl fin
  have hown : s.vm.findClass RX7 = some m.cls := hown
  have hl : lv_has ls 2 [(0, .int a_1), (1, .int a_2)] := hl
  unfold m_X7_hasBit at hm
  refine lv_iload_n hx hb dX7_hasBit_0 rfl (lv_at hl 0 rfl) ?_
  refine lv_iload_n hx hb dX7_hasBit_1 rfl (lv_at hl 1 rfl) ?_
  refine lv_ishr hx hb dX7_hasBit_2 ?_
  refine lv_iconst (v := 1) hx hb dX7_hasBit_3 (by decide) ?_
  refine lv_iand hx hb dX7_hasBit_4 ?_
  refine lv_iconst (v := 1) hx hb dX7_hasBit_5 (by decide) ?_
  refine ic_ne (tgt := 13) hx hb dX7_hasBit_6 (by decide) hm (fun hm => ?_) (fun hm => ?_)
  · refine lv_iconst (v := 0) hx hb dX7_hasBit_13 (by decide) ?_
    have hfin := fin _ _ ls _ _ (Option.some.inj hm) dX7_hasBit_14 (Or.inl rfl) hP hD hS
    exact hfin
  refine lv_iconst (v := 1) hx hb dX7_hasBit_9 (by decide) ?_
  refine lv_goto (tgt := 14) hx hb dX7_hasBit_10 (by decide) ?_
  have hfin := fin _ _ ls _ _ (Option.some.inj hm) dX7_hasBit_14 (Or.inr rfl) hP hD hS
  exact hfin
set_option maxHeartbeats 0 in
set_option maxRecDepth 100000 in
theorem c_X5_reducedUnder (G : GT) (l : Launch) (q_this : Nat) (f_units : Int32) (q_above : Nat) (q_levelRow : Nat) (q_shown : Nat) (q_stepsBack : Nat) (q_under : Nat) (f_under : (Nat → Int32)) (q_reach : Nat) (f_reach : (Nat → Int32)) (a_1 : Int32) {res : Int32} (hm : m_X5_reducedUnder f_units f_under f_reach a_1 = some res) : CT G l yX5_reducedUnder cX5_reducedUnder 4 (some .int) 2 42 [.ref q_this, .int a_1] [(q_this, .inr (5, [.int f_units, .ref q_under, .ref q_above, .ref q_reach, .ref q_levelRow, .ref q_shown, .ref q_stepsBack])), (q_under, .inl (gI G, 12, .inl f_under)), (q_reach, .inl (gI G, 12, .inl f_reach))] [(q_this, .inr (5, [.int f_units, .ref q_under, .ref q_above, .ref q_reach, .ref q_levelRow, .ref q_shown, .ref q_stepsBack])), (q_under, .inl (gI G, 12, .inl f_under)), (q_reach, .inl (gI G, 12, .inl f_reach))] (some (.int res)) := by
  refine ctI (G := G) (l := l) (y := yX5_reducedUnder) (cc := cX5_reducedUnder) (maxL := 4) (fr := 2) (lo := 42) (As := [.ref q_this, .int a_1]) (res := res) (fun res : Int32 => [(q_this, .inr (5, [.int f_units, .ref q_under, .ref q_above, .ref q_reach, .ref q_levelRow, .ref q_shown, .ref q_stepsBack])), (q_under, .inl (gI G, 12, .inl f_under)), (q_reach, .inl (gI G, 12, .inl f_reach))]) (fun res : Int32 => res) (plainFor_of_name (by decide)) (Nat.le_of_ble_eq_true rfl) ?_
  intro p e s m below meth c A ls Q hx hb hml hown hts hK hG hA hP hD hS hl fin
  have hown : s.vm.findClass RX5 = some m.cls := hown
  have hl : lv_has ls 4 [(0, .ref q_this), (1, .int a_1)] := hl
  unfold m_X5_reducedUnder at hm
  refine lv_aload_n hx hb dX5_reducedUnder_0 rfl (lv_at hl 0 rfl) ?_
  obtain ⟨r_1, h_2, hm⟩ := cl_elim hm
  refine w_callV (As := []) (rest := []) (wr := [(q_under, .inl (gI G, 12, .inl f_under))]) (W1 := [(q_this, .inr (5, [.int f_units, .ref q_under, .ref q_above, .ref q_reach, .ref q_levelRow, .ref q_shown, .ref q_stepsBack])), (q_under, .inl (gI G, 12, .inl f_under)), (q_reach, .inl (gI G, 12, .inl f_reach))]) (ci := 5) (q0 := 0) hx hb hml hown hts hK hG hP hD hS hA (c_X5_hasCycle G l q_this f_units q_under q_above q_levelRow q_shown q_stepsBack q_reach f_reach h_2) kc_X5_hasCycle ki_X5_hasCycle bw447 rfl rfl rfl hl.1 rfl (Nat.le_of_ble_eq_true rfl) dX5_reducedUnder_1 (Nat.le_of_ble_eq_true rfl) (Nat.le_of_ble_eq_true rfl) ⟨Nat.le_refl _, Nat.le_refl _⟩ [0, 2] [1] [1, 0, 2] rfl rfl rfl rfl (by decide) rfl rfl (fun H locs hP hD hS => ?_)
  refine if_eq (tgt := 14) hx hb dX5_reducedUnder_4 (by decide) hm (fun hm => ?_) (fun hm => ?_)
  · refine lv_iconst (v := 0) hx hb dX5_reducedUnder_14 (by decide) ?_
    refine lv_istore_n (lv' := [(2, .int (0 : Int32)), (0, .ref q_this), (1, .int a_1)]) hx hb dX5_reducedUnder_15 rfl hl (by decide) rfl (fun ls hl => ?_)
    refine lv_iconst (v := 0) hx hb dX5_reducedUnder_16 (by decide) ?_
    refine lv_istore_n (lv' := [(3, .int (0 : Int32)), (2, .int (0 : Int32)), (0, .ref q_this), (1, .int a_1)]) hx hb dX5_reducedUnder_17 rfl hl (by decide) rfl (fun ls hl => ?_)
    have hL_18 : ∀ (k_18 : Int32 → Int32 → Option Int32), (∀ (x2_18 : Int32) (x3_18 : Int32) (H : Heap) (locs : List Loc) (ls : Array Slot), k_18 x2_18 x3_18 = some res → va_P (gD G) vwCl [(q_this, .inr (5, [.int f_units, .ref q_under, .ref q_above, .ref q_reach, .ref q_levelRow, .ref q_shown, .ref q_stepsBack])), (q_under, .inl (gI G, 12, .inl f_under)), (q_reach, .inl (gI G, 12, .inl f_reach))] H → va_D A [(q_this, .inr (5, [.int f_units, .ref q_under, .ref q_above, .ref q_reach, .ref q_levelRow, .ref q_shown, .ref q_stepsBack])), (q_under, .inl (gI G, 12, .inl f_under)), (q_reach, .inl (gI G, 12, .inl f_reach))] → va_S A s.heap H locs → lv_has ls 4 [(0, .ref q_this), (1, .int a_1), (2, .int x2_18)] → W p l e { frames := 2, cells := 0, slots := 0, locals := 42 } s m ([.ref q_this, .int a_1] : List Value).toArray below meth c H locs 0 0 Q (F0 m 54 ls [])) → ∀ (n_18 : Nat) (x2_18 : Int32) (x3_18 : Int32) (H : Heap) (locs : List Loc) (ls : Array Slot), m_X5_reducedUnder_L18 f_units f_under f_reach a_1 n_18 x2_18 x3_18 k_18 = some res → va_P (gD G) vwCl [(q_this, .inr (5, [.int f_units, .ref q_under, .ref q_above, .ref q_reach, .ref q_levelRow, .ref q_shown, .ref q_stepsBack])), (q_under, .inl (gI G, 12, .inl f_under)), (q_reach, .inl (gI G, 12, .inl f_reach))] H → va_D A [(q_this, .inr (5, [.int f_units, .ref q_under, .ref q_above, .ref q_reach, .ref q_levelRow, .ref q_shown, .ref q_stepsBack])), (q_under, .inl (gI G, 12, .inl f_under)), (q_reach, .inl (gI G, 12, .inl f_reach))] → va_S A s.heap H locs → lv_has ls 4 [(0, .ref q_this), (1, .int a_1), (2, .int x2_18), (3, .int x3_18)] → W p l e { frames := 2, cells := 0, slots := 0, locals := 42 } s m ([.ref q_this, .int a_1] : List Value).toArray below meth c H locs 0 0 Q (F0 m 18 ls []) := by
      intro k_18 hk_18 n_18
      induction n_18 with
      | zero =>
        intro x2_18 x3_18 H locs ls hm
        rw [m_X5_reducedUnder_L18] at hm
        cases hm
      | succ n_18 ih_18 =>
        intro x2_18 x3_18 H locs ls hm hP hD hS hl
        rw [m_X5_reducedUnder_L18] at hm
        refine lv_iload_n hx hb dX5_reducedUnder_18 rfl (lv_at hl 3 rfl) ?_
        refine lv_aload_n hx hb dX5_reducedUnder_19 rfl (lv_at hl 0 rfl) ?_
        refine gf_X5_9 (v := .int f_units) hx hb hts hown hK hP 0 rfl rfl dX5_reducedUnder_20 ?_
        refine ic_ge (tgt := 54) hx hb dX5_reducedUnder_23 (by decide) hm (fun hm => ?_) (fun hm => ?_)
        · exact hk_18 x2_18 x3_18 _ _ _ hm hP hD hS (lv_sub hl [0, 1, 2] rfl)
        refine lv_aload_n hx hb dX5_reducedUnder_26 rfl (lv_at hl 0 rfl) ?_
        refine gf_X5_15 (v := .ref q_under) hx hb hts hown hK hP 0 rfl rfl dX5_reducedUnder_27 ?_
        refine lv_iload_n hx hb dX5_reducedUnder_30 rfl (lv_at hl 1 rfl) ?_
        refine w_iald hx hb hK hP 1 rfl hm dX5_reducedUnder_31 (fun v_3 hm => ?_)
        refine lv_iload_n hx hb dX5_reducedUnder_32 rfl (lv_at hl 3 rfl) ?_
        obtain ⟨r_4, h_5, hm⟩ := cl_elim hm
        refine w_callN (As := [.int v_3, .int x3_18]) (rest := []) (wr := [(q_this, .inr (5, [.int f_units, .ref q_under, .ref q_above, .ref q_reach, .ref q_levelRow, .ref q_shown, .ref q_stepsBack])), (q_under, .inl (gI G, 12, .inl f_under)), (q_reach, .inl (gI G, 12, .inl f_reach))]) (W1 := [(q_this, .inr (5, [.int f_units, .ref q_under, .ref q_above, .ref q_reach, .ref q_levelRow, .ref q_shown, .ref q_stepsBack])), (q_under, .inl (gI G, 12, .inl f_under)), (q_reach, .inl (gI G, 12, .inl f_reach))]) (host := "DigOrder") hx hb hml hown hts hK hG hP hD hS hA (c_X7_hasBit G l v_3 x3_18 h_5) kc_X7_hasBit ks_X7_hasBit (by decide +kernel) rfl hl.1 rfl (Nat.le_of_ble_eq_true rfl) dX5_reducedUnder_33 (Nat.le_of_ble_eq_true rfl) (Nat.le_of_ble_eq_true rfl) ⟨Nat.le_refl _, Nat.le_refl _⟩ [] [0, 1, 2] [0, 1, 2] rfl rfl rfl rfl (by decide) rfl rfl (fun H locs hP hD hS => ?_)
        refine if_eq (tgt := 48) hx hb dX5_reducedUnder_36 (by decide) hm (fun hm => ?_) (fun hm => ?_)
        · refine lv_iinc (v := (x3_18 + (1 : Int32))) (lv' := [(3, .int (x3_18 + (1 : Int32))), (0, .ref q_this), (1, .int a_1), (2, .int x2_18)]) hx hb dX5_reducedUnder_48 hl (k := 3) rfl rfl (by decide) rfl (fun ls hl => ?_)
          refine lv_goto (tgt := 18) hx hb dX5_reducedUnder_51 (by decide) ?_
          exact ih_18 x2_18 (x3_18 + (1 : Int32)) _ _ _ hm hP hD hS (lv_sub hl [1, 2, 3, 0] rfl)
        refine lv_iload_n hx hb dX5_reducedUnder_39 rfl (lv_at hl 2 rfl) ?_
        refine lv_aload_n hx hb dX5_reducedUnder_40 rfl (lv_at hl 0 rfl) ?_
        refine gf_X5_22 (v := .ref q_reach) hx hb hts hown hK hP 0 rfl rfl dX5_reducedUnder_41 ?_
        refine lv_iload_n hx hb dX5_reducedUnder_44 rfl (lv_at hl 3 rfl) ?_
        refine w_iald hx hb hK hP 2 rfl hm dX5_reducedUnder_45 (fun v_6 hm => ?_)
        refine lv_ior hx hb dX5_reducedUnder_46 ?_
        refine lv_istore_n (lv' := [(2, .int (x2_18 ||| v_6)), (0, .ref q_this), (1, .int a_1), (3, .int x3_18)]) hx hb dX5_reducedUnder_47 rfl hl (by decide) rfl (fun ls hl => ?_)
        refine lv_iinc (v := (x3_18 + (1 : Int32))) (lv' := [(3, .int (x3_18 + (1 : Int32))), (2, .int (x2_18 ||| v_6)), (0, .ref q_this), (1, .int a_1)]) hx hb dX5_reducedUnder_48 hl (k := 3) rfl rfl (by decide) rfl (fun ls hl => ?_)
        refine lv_goto (tgt := 18) hx hb dX5_reducedUnder_51 (by decide) ?_
        exact ih_18 (x2_18 ||| v_6) (x3_18 + (1 : Int32)) _ _ _ hm hP hD hS (lv_sub hl [2, 3, 1, 0] rfl)
    refine hL_18 _ ?_ FU (0 : Int32) (0 : Int32) _ _ _ hm hP hD hS (lv_sub hl [2, 3, 1, 0] rfl)
    intro x2_18 x3_18 H locs ls hm hP hD hS hl
    refine lv_aload_n hx hb dX5_reducedUnder_54 rfl (lv_at hl 0 rfl) ?_
    refine gf_X5_15 (v := .ref q_under) hx hb hts hown hK hP 0 rfl rfl dX5_reducedUnder_55 ?_
    refine lv_iload_n hx hb dX5_reducedUnder_58 rfl (lv_at hl 1 rfl) ?_
    refine w_iald hx hb hK hP 1 rfl hm dX5_reducedUnder_59 (fun v_7 hm => ?_)
    refine lv_iload_n hx hb dX5_reducedUnder_60 rfl (lv_at hl 2 rfl) ?_
    refine lv_iconst (v := -1) hx hb dX5_reducedUnder_61 (by decide) ?_
    refine lv_ixor hx hb dX5_reducedUnder_62 ?_
    refine lv_iand hx hb dX5_reducedUnder_63 ?_
    have hfin := fin _ _ ls _ _ (Option.some.inj hm) dX5_reducedUnder_64 hP hD hS
    exact hfin
  refine lv_aload_n hx hb dX5_reducedUnder_7 rfl (lv_at hl 0 rfl) ?_
  refine gf_X5_15 (v := .ref q_under) hx hb hts hown hK hP 0 rfl rfl dX5_reducedUnder_8 ?_
  refine lv_iload_n hx hb dX5_reducedUnder_11 rfl (lv_at hl 1 rfl) ?_
  refine w_iald hx hb hK hP 1 rfl hm dX5_reducedUnder_12 (fun v_8 hm => ?_)
  have hfin := fin _ _ ls _ _ (Option.some.inj hm) dX5_reducedUnder_13 hP hD hS
  exact hfin
set_option maxHeartbeats 0 in
set_option maxRecDepth 100000 in
theorem c_X1_drawTies (G : GT) (l : Launch) (q_this : Nat) (f_length : Int32) (q_bytes : Nat) (f_bytes : (Nat → Int32)) (q_p1 : Nat) (p1_units : Int32) (q_p1_above : Nat) (q_p1_levelRow : Nat) (q_p1_shown : Nat) (q_p1_stepsBack : Nat) (q_p1_under : Nat) (p1_under : (Nat → Int32)) (q_p1_reach : Nat) (p1_reach : (Nat → Int32)) {res : (Nat → Int32) × Int32} (hm : m_X1_drawTies f_bytes f_length p1_units p1_under p1_reach = some res) : CT G l yX1_drawTies cX1_drawTies 5 none 3 65 [.ref q_this, .ref q_p1] [(q_this, .inr (1, [.ref q_bytes, .int f_length])), (q_bytes, .inl (gI G, 160, .inl f_bytes)), (q_p1, .inr (5, [.int p1_units, .ref q_p1_under, .ref q_p1_above, .ref q_p1_reach, .ref q_p1_levelRow, .ref q_p1_shown, .ref q_p1_stepsBack])), (q_p1_under, .inl (gI G, 12, .inl p1_under)), (q_p1_reach, .inl (gI G, 12, .inl p1_reach))] [(q_this, .inr (1, [.ref q_bytes, .int res.2])), (q_bytes, .inl (gI G, 160, .inl res.1)), (q_p1, .inr (5, [.int p1_units, .ref q_p1_under, .ref q_p1_above, .ref q_p1_reach, .ref q_p1_levelRow, .ref q_p1_shown, .ref q_p1_stepsBack])), (q_p1_under, .inl (gI G, 12, .inl p1_under)), (q_p1_reach, .inl (gI G, 12, .inl p1_reach))] none := by
  refine ctV (G := G) (l := l) (y := yX1_drawTies) (cc := cX1_drawTies) (maxL := 5) (fr := 3) (lo := 65) (As := [.ref q_this, .ref q_p1]) (res := res) (fun res : (Nat → Int32) × Int32 => [(q_this, .inr (1, [.ref q_bytes, .int res.2])), (q_bytes, .inl (gI G, 160, .inl res.1)), (q_p1, .inr (5, [.int p1_units, .ref q_p1_under, .ref q_p1_above, .ref q_p1_reach, .ref q_p1_levelRow, .ref q_p1_shown, .ref q_p1_stepsBack])), (q_p1_under, .inl (gI G, 12, .inl p1_under)), (q_p1_reach, .inl (gI G, 12, .inl p1_reach))]) (plainFor_of_name (by decide)) (Nat.le_of_ble_eq_true rfl) ?_
  intro p e s m below meth c A ls Q hx hb hml hown hts hK hG hA hP hD hS hl fin
  have hown : s.vm.findClass RX1 = some m.cls := hown
  have hl : lv_has ls 5 [(0, .ref q_this), (1, .ref q_p1)] := hl
  unfold m_X1_drawTies at hm
  refine lv_aload_n hx hb dX1_drawTies_0 rfl (lv_at hl 0 rfl) ?_
  refine lv_iconst (v := 0) hx hb dX1_drawTies_1 (by decide) ?_
  refine pf_X1_15 (W1 := [(q_this, .inr (1, [.ref q_bytes, .int (0 : Int32)])), (q_bytes, .inl (gI G, 160, .inl f_bytes)), (q_p1, .inr (5, [.int p1_units, .ref q_p1_under, .ref q_p1_above, .ref q_p1_reach, .ref q_p1_levelRow, .ref q_p1_shown, .ref q_p1_stepsBack])), (q_p1_under, .inl (gI G, 12, .inl p1_under)), (q_p1_reach, .inl (gI G, 12, .inl p1_reach))]) hx hb hts hown hK hP hD hS 0 rfl (Nat.le_of_ble_eq_true rfl) dX1_drawTies_2 rfl (fun H locs hP hD hS => ?_)
  refine lv_iconst (v := 0) hx hb dX1_drawTies_5 (by decide) ?_
  refine lv_istore_n (lv' := [(2, .int (0 : Int32)), (0, .ref q_this), (1, .ref q_p1)]) hx hb dX1_drawTies_6 rfl hl (by decide) rfl (fun ls hl => ?_)
  have hL_7 : ∀ (k_7 : Int32 → (Nat → Int32) → Int32 → Option ((Nat → Int32) × Int32)), (∀ (x2_7 : Int32) (y_f_bytes_7 : (Nat → Int32)) (y_f_length_7 : Int32) (H : Heap) (locs : List Loc) (ls : Array Slot), k_7 x2_7 y_f_bytes_7 y_f_length_7 = some res → va_P (gD G) vwCl [(q_this, .inr (1, [.ref q_bytes, .int y_f_length_7])), (q_bytes, .inl (gI G, 160, .inl y_f_bytes_7)), (q_p1, .inr (5, [.int p1_units, .ref q_p1_under, .ref q_p1_above, .ref q_p1_reach, .ref q_p1_levelRow, .ref q_p1_shown, .ref q_p1_stepsBack])), (q_p1_under, .inl (gI G, 12, .inl p1_under)), (q_p1_reach, .inl (gI G, 12, .inl p1_reach))] H → va_D A [(q_this, .inr (1, [.ref q_bytes, .int y_f_length_7])), (q_bytes, .inl (gI G, 160, .inl y_f_bytes_7)), (q_p1, .inr (5, [.int p1_units, .ref q_p1_under, .ref q_p1_above, .ref q_p1_reach, .ref q_p1_levelRow, .ref q_p1_shown, .ref q_p1_stepsBack])), (q_p1_under, .inl (gI G, 12, .inl p1_under)), (q_p1_reach, .inl (gI G, 12, .inl p1_reach))] → va_S A s.heap H locs → lv_has ls 5 [] → W p l e { frames := 3, cells := 0, slots := 0, locals := 65 } s m ([.ref q_this, .ref q_p1] : List Value).toArray below meth c H locs 0 0 Q (F0 m 77 ls [])) → ∀ (n_7 : Nat) (x2_7 : Int32) (y_f_bytes_7 : (Nat → Int32)) (y_f_length_7 : Int32) (H : Heap) (locs : List Loc) (ls : Array Slot), m_X1_drawTies_L7 p1_units p1_under p1_reach n_7 x2_7 y_f_bytes_7 y_f_length_7 k_7 = some res → va_P (gD G) vwCl [(q_this, .inr (1, [.ref q_bytes, .int y_f_length_7])), (q_bytes, .inl (gI G, 160, .inl y_f_bytes_7)), (q_p1, .inr (5, [.int p1_units, .ref q_p1_under, .ref q_p1_above, .ref q_p1_reach, .ref q_p1_levelRow, .ref q_p1_shown, .ref q_p1_stepsBack])), (q_p1_under, .inl (gI G, 12, .inl p1_under)), (q_p1_reach, .inl (gI G, 12, .inl p1_reach))] H → va_D A [(q_this, .inr (1, [.ref q_bytes, .int y_f_length_7])), (q_bytes, .inl (gI G, 160, .inl y_f_bytes_7)), (q_p1, .inr (5, [.int p1_units, .ref q_p1_under, .ref q_p1_above, .ref q_p1_reach, .ref q_p1_levelRow, .ref q_p1_shown, .ref q_p1_stepsBack])), (q_p1_under, .inl (gI G, 12, .inl p1_under)), (q_p1_reach, .inl (gI G, 12, .inl p1_reach))] → va_S A s.heap H locs → lv_has ls 5 [(0, .ref q_this), (1, .ref q_p1), (2, .int x2_7)] → W p l e { frames := 3, cells := 0, slots := 0, locals := 65 } s m ([.ref q_this, .ref q_p1] : List Value).toArray below meth c H locs 0 0 Q (F0 m 7 ls []) := by
    intro k_7 hk_7 n_7
    induction n_7 with
    | zero =>
      intro x2_7 y_f_bytes_7 y_f_length_7 H locs ls hm
      rw [m_X1_drawTies_L7] at hm
      cases hm
    | succ n_7 ih_7 =>
      intro x2_7 y_f_bytes_7 y_f_length_7 H locs ls hm hP hD hS hl
      rw [m_X1_drawTies_L7] at hm
      refine lv_iload_n hx hb dX1_drawTies_7 rfl (lv_at hl 2 rfl) ?_
      refine lv_aload_n hx hb dX1_drawTies_8 rfl (lv_at hl 1 rfl) ?_
      refine gf_X1_23 (v := .int p1_units) hx hb hts hown hK hP 2 rfl rfl dX1_drawTies_9 ?_
      refine ic_ge (tgt := 77) hx hb dX1_drawTies_12 (by decide) hm (fun hm => ?_) (fun hm => ?_)
      · exact hk_7 x2_7 y_f_bytes_7 y_f_length_7 _ _ _ hm hP hD hS (lv_sub hl [] rfl)
      refine lv_aload_n hx hb dX1_drawTies_15 rfl (lv_at hl 1 rfl) ?_
      refine lv_iload_n hx hb dX1_drawTies_16 rfl (lv_at hl 2 rfl) ?_
      obtain ⟨r_1, h_2, hm⟩ := cl_elim hm
      refine w_callV (As := [.int x2_7]) (rest := []) (wr := [(q_this, .inr (1, [.ref q_bytes, .int y_f_length_7])), (q_bytes, .inl (gI G, 160, .inl y_f_bytes_7))]) (W1 := [(q_this, .inr (1, [.ref q_bytes, .int y_f_length_7])), (q_bytes, .inl (gI G, 160, .inl y_f_bytes_7)), (q_p1, .inr (5, [.int p1_units, .ref q_p1_under, .ref q_p1_above, .ref q_p1_reach, .ref q_p1_levelRow, .ref q_p1_shown, .ref q_p1_stepsBack])), (q_p1_under, .inl (gI G, 12, .inl p1_under)), (q_p1_reach, .inl (gI G, 12, .inl p1_reach))]) (ci := 5) (q0 := 2) hx hb hml hown hts hK hG hP hD hS hA (c_X5_reducedUnder G l q_p1 p1_units q_p1_above q_p1_levelRow q_p1_shown q_p1_stepsBack q_p1_under p1_under q_p1_reach p1_reach x2_7 h_2) kc_X5_reducedUnder ki_X5_reducedUnder bw827 rfl rfl rfl hl.1 rfl (Nat.le_of_ble_eq_true rfl) dX1_drawTies_17 (Nat.le_of_ble_eq_true rfl) (Nat.le_of_ble_eq_true rfl) ⟨Nat.le_refl _, Nat.le_refl _⟩ [2, 3, 4] [0, 1] [0, 1, 2, 3, 4] rfl rfl rfl rfl (by decide) rfl rfl (fun H locs hP hD hS => ?_)
      refine lv_istore_n (lv' := [(3, .int r_1), (0, .ref q_this), (1, .ref q_p1), (2, .int x2_7)]) hx hb dX1_drawTies_20 rfl hl (by decide) rfl (fun ls hl => ?_)
      refine lv_iconst (v := 0) hx hb dX1_drawTies_21 (by decide) ?_
      refine lv_istore (lv' := [(4, .int (0 : Int32)), (3, .int r_1), (0, .ref q_this), (1, .ref q_p1), (2, .int x2_7)]) hx hb dX1_drawTies_22 hl (by decide) rfl (fun ls hl => ?_)
      have hL_24 : ∀ (k_24 : Int32 → (Nat → Int32) → Int32 → Option ((Nat → Int32) × Int32)), (∀ (x4_24 : Int32) (y_f_bytes_24 : (Nat → Int32)) (y_f_length_24 : Int32) (H : Heap) (locs : List Loc) (ls : Array Slot), k_24 x4_24 y_f_bytes_24 y_f_length_24 = some res → va_P (gD G) vwCl [(q_this, .inr (1, [.ref q_bytes, .int y_f_length_24])), (q_bytes, .inl (gI G, 160, .inl y_f_bytes_24)), (q_p1, .inr (5, [.int p1_units, .ref q_p1_under, .ref q_p1_above, .ref q_p1_reach, .ref q_p1_levelRow, .ref q_p1_shown, .ref q_p1_stepsBack])), (q_p1_under, .inl (gI G, 12, .inl p1_under)), (q_p1_reach, .inl (gI G, 12, .inl p1_reach))] H → va_D A [(q_this, .inr (1, [.ref q_bytes, .int y_f_length_24])), (q_bytes, .inl (gI G, 160, .inl y_f_bytes_24)), (q_p1, .inr (5, [.int p1_units, .ref q_p1_under, .ref q_p1_above, .ref q_p1_reach, .ref q_p1_levelRow, .ref q_p1_shown, .ref q_p1_stepsBack])), (q_p1_under, .inl (gI G, 12, .inl p1_under)), (q_p1_reach, .inl (gI G, 12, .inl p1_reach))] → va_S A s.heap H locs → lv_has ls 5 [(0, .ref q_this), (1, .ref q_p1), (2, .int x2_7)] → W p l e { frames := 3, cells := 0, slots := 0, locals := 65 } s m ([.ref q_this, .ref q_p1] : List Value).toArray below meth c H locs 0 0 Q (F0 m 71 ls [])) → ∀ (n_24 : Nat) (x4_24 : Int32) (y_f_bytes_24 : (Nat → Int32)) (y_f_length_24 : Int32) (H : Heap) (locs : List Loc) (ls : Array Slot), m_X1_drawTies_L24 p1_units x2_7 r_1 n_24 x4_24 y_f_bytes_24 y_f_length_24 k_24 = some res → va_P (gD G) vwCl [(q_this, .inr (1, [.ref q_bytes, .int y_f_length_24])), (q_bytes, .inl (gI G, 160, .inl y_f_bytes_24)), (q_p1, .inr (5, [.int p1_units, .ref q_p1_under, .ref q_p1_above, .ref q_p1_reach, .ref q_p1_levelRow, .ref q_p1_shown, .ref q_p1_stepsBack])), (q_p1_under, .inl (gI G, 12, .inl p1_under)), (q_p1_reach, .inl (gI G, 12, .inl p1_reach))] H → va_D A [(q_this, .inr (1, [.ref q_bytes, .int y_f_length_24])), (q_bytes, .inl (gI G, 160, .inl y_f_bytes_24)), (q_p1, .inr (5, [.int p1_units, .ref q_p1_under, .ref q_p1_above, .ref q_p1_reach, .ref q_p1_levelRow, .ref q_p1_shown, .ref q_p1_stepsBack])), (q_p1_under, .inl (gI G, 12, .inl p1_under)), (q_p1_reach, .inl (gI G, 12, .inl p1_reach))] → va_S A s.heap H locs → lv_has ls 5 [(0, .ref q_this), (1, .ref q_p1), (2, .int x2_7), (3, .int r_1), (4, .int x4_24)] → W p l e { frames := 3, cells := 0, slots := 0, locals := 65 } s m ([.ref q_this, .ref q_p1] : List Value).toArray below meth c H locs 0 0 Q (F0 m 24 ls []) := by
        intro k_24 hk_24 n_24
        induction n_24 with
        | zero =>
          intro x4_24 y_f_bytes_24 y_f_length_24 H locs ls hm
          rw [m_X1_drawTies_L24] at hm
          cases hm
        | succ n_24 ih_24 =>
          intro x4_24 y_f_bytes_24 y_f_length_24 H locs ls hm hP hD hS hl
          rw [m_X1_drawTies_L24] at hm
          refine lv_iload hx hb dX1_drawTies_24 (lv_at hl 4 rfl) ?_
          refine lv_aload_n hx hb dX1_drawTies_26 rfl (lv_at hl 1 rfl) ?_
          refine gf_X1_23 (v := .int p1_units) hx hb hts hown hK hP 2 rfl rfl dX1_drawTies_27 ?_
          refine ic_ge (tgt := 71) hx hb dX1_drawTies_30 (by decide) hm (fun hm => ?_) (fun hm => ?_)
          · exact hk_24 x4_24 y_f_bytes_24 y_f_length_24 _ _ _ hm hP hD hS (lv_sub hl [0, 1, 2] rfl)
          refine lv_iload_n hx hb dX1_drawTies_33 rfl (lv_at hl 3 rfl) ?_
          refine lv_iload hx hb dX1_drawTies_34 (lv_at hl 4 rfl) ?_
          obtain ⟨r_3, h_4, hm⟩ := cl_elim hm
          refine w_callN (As := [.int r_1, .int x4_24]) (rest := []) (wr := [(q_this, .inr (1, [.ref q_bytes, .int y_f_length_24])), (q_bytes, .inl (gI G, 160, .inl y_f_bytes_24)), (q_p1, .inr (5, [.int p1_units, .ref q_p1_under, .ref q_p1_above, .ref q_p1_reach, .ref q_p1_levelRow, .ref q_p1_shown, .ref q_p1_stepsBack])), (q_p1_under, .inl (gI G, 12, .inl p1_under)), (q_p1_reach, .inl (gI G, 12, .inl p1_reach))]) (W1 := [(q_this, .inr (1, [.ref q_bytes, .int y_f_length_24])), (q_bytes, .inl (gI G, 160, .inl y_f_bytes_24)), (q_p1, .inr (5, [.int p1_units, .ref q_p1_under, .ref q_p1_above, .ref q_p1_reach, .ref q_p1_levelRow, .ref q_p1_shown, .ref q_p1_stepsBack])), (q_p1_under, .inl (gI G, 12, .inl p1_under)), (q_p1_reach, .inl (gI G, 12, .inl p1_reach))]) (host := "DigOrder") hx hb hml hown hts hK hG hP hD hS hA (c_X7_hasBit G l r_1 x4_24 h_4) kc_X7_hasBit ks_X7_hasBit (by decide +kernel) rfl hl.1 rfl (Nat.le_of_ble_eq_true rfl) dX1_drawTies_36 (Nat.le_of_ble_eq_true rfl) (Nat.le_of_ble_eq_true rfl) ⟨Nat.le_refl _, Nat.le_refl _⟩ [] [0, 1, 2, 3, 4] [0, 1, 2, 3, 4] rfl rfl rfl rfl (by decide) rfl rfl (fun H locs hP hD hS => ?_)
          refine if_eq (tgt := 65) hx hb dX1_drawTies_39 (by decide) hm (fun hm => ?_) (fun hm => ?_)
          · refine lv_iinc (v := (x4_24 + (1 : Int32))) (lv' := [(4, .int (x4_24 + (1 : Int32))), (0, .ref q_this), (1, .ref q_p1), (2, .int x2_7), (3, .int r_1)]) hx hb dX1_drawTies_65 hl (k := 4) rfl rfl (by decide) rfl (fun ls hl => ?_)
            refine lv_goto (tgt := 24) hx hb dX1_drawTies_68 (by decide) ?_
            exact ih_24 (x4_24 + (1 : Int32)) y_f_bytes_24 y_f_length_24 _ _ _ hm hP hD hS (lv_sub hl [1, 2, 3, 4, 0] rfl)
          refine lv_aload_n hx hb dX1_drawTies_42 rfl (lv_at hl 0 rfl) ?_
          refine lv_bipush (v := 59) hx hb dX1_drawTies_43 (by decide) ?_
          obtain ⟨r_5, h_6, hm⟩ := cl_elim hm
          refine w_callV (As := [.int (59 : Int32)]) (rest := []) (wr := [(q_p1, .inr (5, [.int p1_units, .ref q_p1_under, .ref q_p1_above, .ref q_p1_reach, .ref q_p1_levelRow, .ref q_p1_shown, .ref q_p1_stepsBack])), (q_p1_under, .inl (gI G, 12, .inl p1_under)), (q_p1_reach, .inl (gI G, 12, .inl p1_reach))]) (W1 := [(q_this, .inr (1, [.ref q_bytes, .int r_5.2])), (q_bytes, .inl (gI G, 160, .inl r_5.1)), (q_p1, .inr (5, [.int p1_units, .ref q_p1_under, .ref q_p1_above, .ref q_p1_reach, .ref q_p1_levelRow, .ref q_p1_shown, .ref q_p1_stepsBack])), (q_p1_under, .inl (gI G, 12, .inl p1_under)), (q_p1_reach, .inl (gI G, 12, .inl p1_reach))]) (ci := 1) (q0 := 0) hx hb hml hown hts hK hG hP hD hS hA (c_X1_writeBetween G l q_this y_f_length_24 q_bytes y_f_bytes_24 (59 : Int32) h_6) kc_X1_writeBetween ki_X1_writeBetween bw829 rfl rfl rfl hl.1 rfl (Nat.le_of_ble_eq_true rfl) dX1_drawTies_45 (Nat.le_of_ble_eq_true rfl) (Nat.le_of_ble_eq_true rfl) ⟨Nat.le_refl _, Nat.le_refl _⟩ [0, 1] [2, 3, 4] [3, 4, 0, 1, 2] rfl rfl rfl rfl (by decide) rfl rfl (fun H locs hP hD hS => ?_)
          refine lv_aload_n hx hb dX1_drawTies_48 rfl (lv_at hl 0 rfl) ?_
          refine lv_iload_n hx hb dX1_drawTies_49 rfl (lv_at hl 2 rfl) ?_
          obtain ⟨r_7, h_8, hm⟩ := cl_elim hm
          refine w_callV (As := [.int x2_7]) (rest := []) (wr := [(q_p1, .inr (5, [.int p1_units, .ref q_p1_under, .ref q_p1_above, .ref q_p1_reach, .ref q_p1_levelRow, .ref q_p1_shown, .ref q_p1_stepsBack])), (q_p1_under, .inl (gI G, 12, .inl p1_under)), (q_p1_reach, .inl (gI G, 12, .inl p1_reach))]) (W1 := [(q_this, .inr (1, [.ref q_bytes, .int r_7.2])), (q_bytes, .inl (gI G, 160, .inl r_7.1)), (q_p1, .inr (5, [.int p1_units, .ref q_p1_under, .ref q_p1_above, .ref q_p1_reach, .ref q_p1_levelRow, .ref q_p1_shown, .ref q_p1_stepsBack])), (q_p1_under, .inl (gI G, 12, .inl p1_under)), (q_p1_reach, .inl (gI G, 12, .inl p1_reach))]) (ci := 1) (q0 := 0) hx hb hml hown hts hK hG hP hD hS hA (c_X1_writeUnit G l q_this r_5.2 q_bytes r_5.1 x2_7 h_8) kc_X1_writeUnit ki_X1_writeUnit bw837 rfl rfl rfl hl.1 rfl (Nat.le_of_ble_eq_true rfl) dX1_drawTies_50 (Nat.le_of_ble_eq_true rfl) (Nat.le_of_ble_eq_true rfl) ⟨Nat.le_refl _, Nat.le_refl _⟩ [0, 1] [2, 3, 4] [3, 4, 0, 1, 2] rfl rfl rfl rfl (by decide) rfl rfl (fun H locs hP hD hS => ?_)
          refine lv_aload_n hx hb dX1_drawTies_53 rfl (lv_at hl 0 rfl) ?_
          refine lv_bipush (v := 62) hx hb dX1_drawTies_54 (by decide) ?_
          obtain ⟨r_9, h_10, hm⟩ := cl_elim hm
          refine w_callV (As := [.int (62 : Int32)]) (rest := []) (wr := [(q_p1, .inr (5, [.int p1_units, .ref q_p1_under, .ref q_p1_above, .ref q_p1_reach, .ref q_p1_levelRow, .ref q_p1_shown, .ref q_p1_stepsBack])), (q_p1_under, .inl (gI G, 12, .inl p1_under)), (q_p1_reach, .inl (gI G, 12, .inl p1_reach))]) (W1 := [(q_this, .inr (1, [.ref q_bytes, .int r_9.2])), (q_bytes, .inl (gI G, 160, .inl r_9.1)), (q_p1, .inr (5, [.int p1_units, .ref q_p1_under, .ref q_p1_above, .ref q_p1_reach, .ref q_p1_levelRow, .ref q_p1_shown, .ref q_p1_stepsBack])), (q_p1_under, .inl (gI G, 12, .inl p1_under)), (q_p1_reach, .inl (gI G, 12, .inl p1_reach))]) (ci := 1) (q0 := 0) hx hb hml hown hts hK hG hP hD hS hA (c_X1_write G l q_this r_7.2 q_bytes r_7.1 (62 : Int32) h_10) kc_X1_write ki_X1_write bw833 rfl rfl rfl hl.1 rfl (Nat.le_of_ble_eq_true rfl) dX1_drawTies_56 (Nat.le_of_ble_eq_true rfl) (Nat.le_of_ble_eq_true rfl) ⟨Nat.le_refl _, Nat.le_refl _⟩ [0, 1] [2, 3, 4] [3, 4, 0, 1, 2] rfl rfl rfl rfl (by decide) rfl rfl (fun H locs hP hD hS => ?_)
          refine lv_aload_n hx hb dX1_drawTies_59 rfl (lv_at hl 0 rfl) ?_
          refine lv_iload hx hb dX1_drawTies_60 (lv_at hl 4 rfl) ?_
          obtain ⟨r_11, h_12, hm⟩ := cl_elim hm
          refine w_callV (As := [.int x4_24]) (rest := []) (wr := [(q_p1, .inr (5, [.int p1_units, .ref q_p1_under, .ref q_p1_above, .ref q_p1_reach, .ref q_p1_levelRow, .ref q_p1_shown, .ref q_p1_stepsBack])), (q_p1_under, .inl (gI G, 12, .inl p1_under)), (q_p1_reach, .inl (gI G, 12, .inl p1_reach))]) (W1 := [(q_this, .inr (1, [.ref q_bytes, .int r_11.2])), (q_bytes, .inl (gI G, 160, .inl r_11.1)), (q_p1, .inr (5, [.int p1_units, .ref q_p1_under, .ref q_p1_above, .ref q_p1_reach, .ref q_p1_levelRow, .ref q_p1_shown, .ref q_p1_stepsBack])), (q_p1_under, .inl (gI G, 12, .inl p1_under)), (q_p1_reach, .inl (gI G, 12, .inl p1_reach))]) (ci := 1) (q0 := 0) hx hb hml hown hts hK hG hP hD hS hA (c_X1_writeUnit G l q_this r_9.2 q_bytes r_9.1 x4_24 h_12) kc_X1_writeUnit ki_X1_writeUnit bw837 rfl rfl rfl hl.1 rfl (Nat.le_of_ble_eq_true rfl) dX1_drawTies_62 (Nat.le_of_ble_eq_true rfl) (Nat.le_of_ble_eq_true rfl) ⟨Nat.le_refl _, Nat.le_refl _⟩ [0, 1] [2, 3, 4] [3, 4, 0, 1, 2] rfl rfl rfl rfl (by decide) rfl rfl (fun H locs hP hD hS => ?_)
          refine lv_iinc (v := (x4_24 + (1 : Int32))) (lv' := [(4, .int (x4_24 + (1 : Int32))), (0, .ref q_this), (1, .ref q_p1), (2, .int x2_7), (3, .int r_1)]) hx hb dX1_drawTies_65 hl (k := 4) rfl rfl (by decide) rfl (fun ls hl => ?_)
          refine lv_goto (tgt := 24) hx hb dX1_drawTies_68 (by decide) ?_
          exact ih_24 (x4_24 + (1 : Int32)) r_11.1 r_11.2 _ _ _ hm hP hD hS (lv_sub hl [1, 2, 3, 4, 0] rfl)
      refine hL_24 _ ?_ FU (0 : Int32) y_f_bytes_7 y_f_length_7 _ _ _ hm hP hD hS (lv_sub hl [2, 3, 4, 1, 0] rfl)
      intro x4_24 y_f_bytes_24 y_f_length_24 H locs ls hm hP hD hS hl
      refine lv_iinc (v := (x2_7 + (1 : Int32))) (lv' := [(2, .int (x2_7 + (1 : Int32))), (0, .ref q_this), (1, .ref q_p1)]) hx hb dX1_drawTies_71 hl (k := 2) rfl rfl (by decide) rfl (fun ls hl => ?_)
      refine lv_goto (tgt := 7) hx hb dX1_drawTies_74 (by decide) ?_
      exact ih_7 (x2_7 + (1 : Int32)) y_f_bytes_24 y_f_length_24 _ _ _ hm hP hD hS (lv_sub hl [1, 2, 0] rfl)
  refine hL_7 _ ?_ FU (0 : Int32) f_bytes (0 : Int32) _ _ _ hm hP hD hS (lv_sub hl [1, 2, 0] rfl)
  intro x2_7 y_f_bytes_7 y_f_length_7 H locs ls hm hP hD hS hl
  have hfin := fin _ _ ls _ _ (Option.some.inj hm) dX1_drawTies_77 hP hD hS
  exact hfin
set_option maxHeartbeats 0 in
set_option maxRecDepth 100000 in
theorem c_X5_rankLevels (G : GT) (l : Launch) (q_this : Nat) (f_units : Int32) (q_above : Nat) (q_reach : Nat) (q_shown : Nat) (q_stepsBack : Nat) (q_under : Nat) (f_under : (Nat → Int32)) (q_levelRow : Nat) (f_levelRow : (Nat → Int32)) {res : (Nat → Int32) × Int32} (hm : m_X5_rankLevels f_units f_under f_levelRow = some res) : CT G l yX5_rankLevels cX5_rankLevels 6 (some .int) 1 21 [.ref q_this] [(q_this, .inr (5, [.int f_units, .ref q_under, .ref q_above, .ref q_reach, .ref q_levelRow, .ref q_shown, .ref q_stepsBack])), (q_under, .inl (gI G, 12, .inl f_under)), (q_levelRow, .inl (gI G, 12, .inl f_levelRow))] [(q_this, .inr (5, [.int f_units, .ref q_under, .ref q_above, .ref q_reach, .ref q_levelRow, .ref q_shown, .ref q_stepsBack])), (q_under, .inl (gI G, 12, .inl f_under)), (q_levelRow, .inl (gI G, 12, .inl res.1))] (some (.int res.2)) := by
  refine ctI (G := G) (l := l) (y := yX5_rankLevels) (cc := cX5_rankLevels) (maxL := 6) (fr := 1) (lo := 21) (As := [.ref q_this]) (res := res) (fun res : (Nat → Int32) × Int32 => [(q_this, .inr (5, [.int f_units, .ref q_under, .ref q_above, .ref q_reach, .ref q_levelRow, .ref q_shown, .ref q_stepsBack])), (q_under, .inl (gI G, 12, .inl f_under)), (q_levelRow, .inl (gI G, 12, .inl res.1))]) (fun res : (Nat → Int32) × Int32 => res.2) (plainFor_of_name (by decide)) (Nat.le_of_ble_eq_true rfl) ?_
  intro p e s m below meth c A ls Q hx hb hml hown hts hK hG hA hP hD hS hl fin
  have hown : s.vm.findClass RX5 = some m.cls := hown
  have hl : lv_has ls 6 [(0, .ref q_this)] := hl
  unfold m_X5_rankLevels at hm
  refine lv_iconst (v := 1) hx hb dX5_rankLevels_0 (by decide) ?_
  refine lv_aload_n hx hb dX5_rankLevels_1 rfl (lv_at hl 0 rfl) ?_
  refine gf_X5_9 (v := .int f_units) hx hb hts hown hK hP 0 rfl rfl dX5_rankLevels_2 ?_
  refine lv_ishl hx hb dX5_rankLevels_5 ?_
  refine lv_iconst (v := 1) hx hb dX5_rankLevels_6 (by decide) ?_
  refine lv_isub hx hb dX5_rankLevels_7 ?_
  refine nmi hm (fun v_1 hm => ?_)
  refine lv_istore_n (lv' := [(1, .int v_1), (0, .ref q_this)]) hx hb dX5_rankLevels_8 rfl hl (by decide) rfl (fun ls hl => ?_)
  refine lv_iconst (v := 0) hx hb dX5_rankLevels_9 (by decide) ?_
  refine lv_istore_n (lv' := [(2, .int (0 : Int32)), (1, .int v_1), (0, .ref q_this)]) hx hb dX5_rankLevels_10 rfl hl (by decide) rfl (fun ls hl => ?_)
  refine lv_iconst (v := 0) hx hb dX5_rankLevels_11 (by decide) ?_
  refine lv_istore_n (lv' := [(3, .int (0 : Int32)), (2, .int (0 : Int32)), (1, .int v_1), (0, .ref q_this)]) hx hb dX5_rankLevels_12 rfl hl (by decide) rfl (fun ls hl => ?_)
  have hL_13 : ∀ (k_13 : Int32 → Int32 → Int32 → (Nat → Int32) → Option ((Nat → Int32) × Int32)), (∀ (x1_13 : Int32) (x2_13 : Int32) (x3_13 : Int32) (y_f_levelRow_13 : (Nat → Int32)) (H : Heap) (locs : List Loc) (ls : Array Slot), k_13 x1_13 x2_13 x3_13 y_f_levelRow_13 = some res → va_P (gD G) vwCl [(q_this, .inr (5, [.int f_units, .ref q_under, .ref q_above, .ref q_reach, .ref q_levelRow, .ref q_shown, .ref q_stepsBack])), (q_under, .inl (gI G, 12, .inl f_under)), (q_levelRow, .inl (gI G, 12, .inl y_f_levelRow_13))] H → va_D A [(q_this, .inr (5, [.int f_units, .ref q_under, .ref q_above, .ref q_reach, .ref q_levelRow, .ref q_shown, .ref q_stepsBack])), (q_under, .inl (gI G, 12, .inl f_under)), (q_levelRow, .inl (gI G, 12, .inl y_f_levelRow_13))] → va_S A s.heap H locs → lv_has ls 6 [(2, .int x2_13)] → W p l e { frames := 1, cells := 0, slots := 0, locals := 21 } s m ([.ref q_this] : List Value).toArray below meth c H locs 0 0 Q (F0 m 100 ls [])) → ∀ (n_13 : Nat) (x1_13 : Int32) (x2_13 : Int32) (x3_13 : Int32) (y_f_levelRow_13 : (Nat → Int32)) (H : Heap) (locs : List Loc) (ls : Array Slot), m_X5_rankLevels_L13 f_units f_under n_13 x1_13 x2_13 x3_13 y_f_levelRow_13 k_13 = some res → va_P (gD G) vwCl [(q_this, .inr (5, [.int f_units, .ref q_under, .ref q_above, .ref q_reach, .ref q_levelRow, .ref q_shown, .ref q_stepsBack])), (q_under, .inl (gI G, 12, .inl f_under)), (q_levelRow, .inl (gI G, 12, .inl y_f_levelRow_13))] H → va_D A [(q_this, .inr (5, [.int f_units, .ref q_under, .ref q_above, .ref q_reach, .ref q_levelRow, .ref q_shown, .ref q_stepsBack])), (q_under, .inl (gI G, 12, .inl f_under)), (q_levelRow, .inl (gI G, 12, .inl y_f_levelRow_13))] → va_S A s.heap H locs → lv_has ls 6 [(0, .ref q_this), (1, .int x1_13), (2, .int x2_13), (3, .int x3_13)] → W p l e { frames := 1, cells := 0, slots := 0, locals := 21 } s m ([.ref q_this] : List Value).toArray below meth c H locs 0 0 Q (F0 m 13 ls []) := by
    intro k_13 hk_13 n_13
    induction n_13 with
    | zero =>
      intro x1_13 x2_13 x3_13 y_f_levelRow_13 H locs ls hm
      rw [m_X5_rankLevels_L13] at hm
      cases hm
    | succ n_13 ih_13 =>
      intro x1_13 x2_13 x3_13 y_f_levelRow_13 H locs ls hm hP hD hS hl
      rw [m_X5_rankLevels_L13] at hm
      refine lv_iload_n hx hb dX5_rankLevels_13 rfl (lv_at hl 3 rfl) ?_
      refine lv_aload_n hx hb dX5_rankLevels_14 rfl (lv_at hl 0 rfl) ?_
      refine gf_X5_9 (v := .int f_units) hx hb hts hown hK hP 0 rfl rfl dX5_rankLevels_15 ?_
      refine ic_ge (tgt := 100) hx hb dX5_rankLevels_18 (by decide) hm (fun hm => ?_) (fun hm => ?_)
      · exact hk_13 x1_13 x2_13 x3_13 y_f_levelRow_13 _ _ _ hm hP hD hS (lv_sub hl [2] rfl)
      refine lv_iload_n hx hb dX5_rankLevels_21 rfl (lv_at hl 1 rfl) ?_
      refine if_eq (tgt := 100) hx hb dX5_rankLevels_22 (by decide) hm (fun hm => ?_) (fun hm => ?_)
      · exact hk_13 x1_13 x2_13 x3_13 y_f_levelRow_13 _ _ _ hm hP hD hS (lv_sub hl [2] rfl)
      refine lv_iconst (v := 0) hx hb dX5_rankLevels_25 (by decide) ?_
      refine lv_istore (lv' := [(4, .int (0 : Int32)), (0, .ref q_this), (1, .int x1_13), (2, .int x2_13), (3, .int x3_13)]) hx hb dX5_rankLevels_26 hl (by decide) rfl (fun ls hl => ?_)
      refine lv_iconst (v := 0) hx hb dX5_rankLevels_28 (by decide) ?_
      refine lv_istore (lv' := [(5, .int (0 : Int32)), (4, .int (0 : Int32)), (0, .ref q_this), (1, .int x1_13), (2, .int x2_13), (3, .int x3_13)]) hx hb dX5_rankLevels_29 hl (by decide) rfl (fun ls hl => ?_)
      have hL_31 : ∀ (k_31 : Int32 → Int32 → (Nat → Int32) → Option ((Nat → Int32) × Int32)), (∀ (x4_31 : Int32) (x5_31 : Int32) (y_f_levelRow_31 : (Nat → Int32)) (H : Heap) (locs : List Loc) (ls : Array Slot), k_31 x4_31 x5_31 y_f_levelRow_31 = some res → va_P (gD G) vwCl [(q_this, .inr (5, [.int f_units, .ref q_under, .ref q_above, .ref q_reach, .ref q_levelRow, .ref q_shown, .ref q_stepsBack])), (q_under, .inl (gI G, 12, .inl f_under)), (q_levelRow, .inl (gI G, 12, .inl y_f_levelRow_31))] H → va_D A [(q_this, .inr (5, [.int f_units, .ref q_under, .ref q_above, .ref q_reach, .ref q_levelRow, .ref q_shown, .ref q_stepsBack])), (q_under, .inl (gI G, 12, .inl f_under)), (q_levelRow, .inl (gI G, 12, .inl y_f_levelRow_31))] → va_S A s.heap H locs → lv_has ls 6 [(0, .ref q_this), (1, .int x1_13), (2, .int x2_13), (3, .int x3_13), (4, .int x4_31)] → W p l e { frames := 1, cells := 0, slots := 0, locals := 21 } s m ([.ref q_this] : List Value).toArray below meth c H locs 0 0 Q (F0 m 84 ls [])) → ∀ (n_31 : Nat) (x4_31 : Int32) (x5_31 : Int32) (y_f_levelRow_31 : (Nat → Int32)) (H : Heap) (locs : List Loc) (ls : Array Slot), m_X5_rankLevels_L31 f_units f_under x1_13 x2_13 n_31 x4_31 x5_31 y_f_levelRow_31 k_31 = some res → va_P (gD G) vwCl [(q_this, .inr (5, [.int f_units, .ref q_under, .ref q_above, .ref q_reach, .ref q_levelRow, .ref q_shown, .ref q_stepsBack])), (q_under, .inl (gI G, 12, .inl f_under)), (q_levelRow, .inl (gI G, 12, .inl y_f_levelRow_31))] H → va_D A [(q_this, .inr (5, [.int f_units, .ref q_under, .ref q_above, .ref q_reach, .ref q_levelRow, .ref q_shown, .ref q_stepsBack])), (q_under, .inl (gI G, 12, .inl f_under)), (q_levelRow, .inl (gI G, 12, .inl y_f_levelRow_31))] → va_S A s.heap H locs → lv_has ls 6 [(0, .ref q_this), (1, .int x1_13), (2, .int x2_13), (3, .int x3_13), (4, .int x4_31), (5, .int x5_31)] → W p l e { frames := 1, cells := 0, slots := 0, locals := 21 } s m ([.ref q_this] : List Value).toArray below meth c H locs 0 0 Q (F0 m 31 ls []) := by
        intro k_31 hk_31 n_31
        induction n_31 with
        | zero =>
          intro x4_31 x5_31 y_f_levelRow_31 H locs ls hm
          rw [m_X5_rankLevels_L31] at hm
          cases hm
        | succ n_31 ih_31 =>
          intro x4_31 x5_31 y_f_levelRow_31 H locs ls hm hP hD hS hl
          rw [m_X5_rankLevels_L31] at hm
          refine lv_iload hx hb dX5_rankLevels_31 (lv_at hl 5 rfl) ?_
          refine lv_aload_n hx hb dX5_rankLevels_33 rfl (lv_at hl 0 rfl) ?_
          refine gf_X5_9 (v := .int f_units) hx hb hts hown hK hP 0 rfl rfl dX5_rankLevels_34 ?_
          refine ic_ge (tgt := 84) hx hb dX5_rankLevels_37 (by decide) hm (fun hm => ?_) (fun hm => ?_)
          · exact hk_31 x4_31 x5_31 y_f_levelRow_31 _ _ _ hm hP hD hS (lv_sub hl [0, 1, 2, 3, 4] rfl)
          refine lv_iload_n hx hb dX5_rankLevels_40 rfl (lv_at hl 1 rfl) ?_
          refine lv_iload hx hb dX5_rankLevels_41 (lv_at hl 5 rfl) ?_
          obtain ⟨r_2, h_3, hm⟩ := cl_elim hm
          refine w_callN (As := [.int x1_13, .int x5_31]) (rest := []) (wr := [(q_this, .inr (5, [.int f_units, .ref q_under, .ref q_above, .ref q_reach, .ref q_levelRow, .ref q_shown, .ref q_stepsBack])), (q_under, .inl (gI G, 12, .inl f_under)), (q_levelRow, .inl (gI G, 12, .inl y_f_levelRow_31))]) (W1 := [(q_this, .inr (5, [.int f_units, .ref q_under, .ref q_above, .ref q_reach, .ref q_levelRow, .ref q_shown, .ref q_stepsBack])), (q_under, .inl (gI G, 12, .inl f_under)), (q_levelRow, .inl (gI G, 12, .inl y_f_levelRow_31))]) (host := "DigOrder") hx hb hml hown hts hK hG hP hD hS hA (c_X7_hasBit G l x1_13 x5_31 h_3) kc_X7_hasBit ks_X7_hasBit (by decide +kernel) rfl hl.1 rfl (Nat.le_of_ble_eq_true rfl) dX5_rankLevels_43 (Nat.le_of_ble_eq_true rfl) (Nat.le_of_ble_eq_true rfl) ⟨Nat.le_refl _, Nat.le_refl _⟩ [] [0, 1, 2] [0, 1, 2] rfl rfl rfl rfl (by decide) rfl rfl (fun H locs hP hD hS => ?_)
          refine if_eq (tgt := 78) hx hb dX5_rankLevels_46 (by decide) hm (fun hm => ?_) (fun hm => ?_)
          · refine lv_iinc (v := (x5_31 + (1 : Int32))) (lv' := [(5, .int (x5_31 + (1 : Int32))), (0, .ref q_this), (1, .int x1_13), (2, .int x2_13), (3, .int x3_13), (4, .int x4_31)]) hx hb dX5_rankLevels_78 hl (k := 5) rfl rfl (by decide) rfl (fun ls hl => ?_)
            refine lv_goto (tgt := 31) hx hb dX5_rankLevels_81 (by decide) ?_
            exact ih_31 x4_31 (x5_31 + (1 : Int32)) y_f_levelRow_31 _ _ _ hm hP hD hS (lv_sub hl [1, 2, 3, 4, 5, 0] rfl)
          refine lv_aload_n hx hb dX5_rankLevels_49 rfl (lv_at hl 0 rfl) ?_
          refine gf_X5_15 (v := .ref q_under) hx hb hts hown hK hP 0 rfl rfl dX5_rankLevels_50 ?_
          refine lv_iload hx hb dX5_rankLevels_53 (lv_at hl 5 rfl) ?_
          refine w_iald hx hb hK hP 1 rfl hm dX5_rankLevels_55 (fun v_4 hm => ?_)
          refine lv_iload_n hx hb dX5_rankLevels_56 rfl (lv_at hl 1 rfl) ?_
          refine lv_iand hx hb dX5_rankLevels_57 ?_
          refine if_ne (tgt := 78) hx hb dX5_rankLevels_58 (by decide) hm (fun hm => ?_) (fun hm => ?_)
          · refine lv_iinc (v := (x5_31 + (1 : Int32))) (lv' := [(5, .int (x5_31 + (1 : Int32))), (0, .ref q_this), (1, .int x1_13), (2, .int x2_13), (3, .int x3_13), (4, .int x4_31)]) hx hb dX5_rankLevels_78 hl (k := 5) rfl rfl (by decide) rfl (fun ls hl => ?_)
            refine lv_goto (tgt := 31) hx hb dX5_rankLevels_81 (by decide) ?_
            exact ih_31 x4_31 (x5_31 + (1 : Int32)) y_f_levelRow_31 _ _ _ hm hP hD hS (lv_sub hl [1, 2, 3, 4, 5, 0] rfl)
          refine lv_iload hx hb dX5_rankLevels_61 (lv_at hl 4 rfl) ?_
          refine lv_iconst (v := 1) hx hb dX5_rankLevels_63 (by decide) ?_
          refine lv_iload hx hb dX5_rankLevels_64 (lv_at hl 5 rfl) ?_
          refine lv_ishl hx hb dX5_rankLevels_66 ?_
          refine lv_ior hx hb dX5_rankLevels_67 ?_
          refine nmi hm (fun v_5 hm => ?_)
          refine lv_istore (lv' := [(4, .int v_5), (0, .ref q_this), (1, .int x1_13), (2, .int x2_13), (3, .int x3_13), (5, .int x5_31)]) hx hb dX5_rankLevels_68 hl (by decide) rfl (fun ls hl => ?_)
          refine lv_aload_n hx hb dX5_rankLevels_70 rfl (lv_at hl 1 rfl) ?_
          refine gf_X5_25 (v := .ref q_levelRow) hx hb hts hown hK hP 0 rfl rfl dX5_rankLevels_71 ?_
          refine lv_iload hx hb dX5_rankLevels_74 (lv_at hl 5 rfl) ?_
          refine lv_iload_n hx hb dX5_rankLevels_76 rfl (lv_at hl 3 rfl) ?_
          refine w_iast hx hb hK hP hD hS 2 rfl hm dX5_rankLevels_77 (fun g_6 => [(q_this, .inr (5, [.int f_units, .ref q_under, .ref q_above, .ref q_reach, .ref q_levelRow, .ref q_shown, .ref q_stepsBack])), (q_under, .inl (gI G, 12, .inl f_under)), (q_levelRow, .inl (gI G, 12, .inl g_6))]) (fun _ => rfl) (fun g_6 H locs hm hP hD hS => ?_)
          refine lv_iinc (v := (x5_31 + (1 : Int32))) (lv' := [(5, .int (x5_31 + (1 : Int32))), (4, .int v_5), (0, .ref q_this), (1, .int x1_13), (2, .int x2_13), (3, .int x3_13)]) hx hb dX5_rankLevels_78 hl (k := 5) rfl rfl (by decide) rfl (fun ls hl => ?_)
          refine lv_goto (tgt := 31) hx hb dX5_rankLevels_81 (by decide) ?_
          exact ih_31 v_5 (x5_31 + (1 : Int32)) g_6 _ _ _ hm hP hD hS (lv_sub hl [2, 3, 4, 5, 1, 0] rfl)
      refine hL_31 _ ?_ FU (0 : Int32) (0 : Int32) y_f_levelRow_13 _ _ _ hm hP hD hS (lv_sub hl [2, 3, 4, 5, 1, 0] rfl)
      intro x4_31 x5_31 y_f_levelRow_31 H locs ls hm hP hD hS hl
      refine lv_iload_n hx hb dX5_rankLevels_84 rfl (lv_at hl 1 rfl) ?_
      refine lv_iload hx hb dX5_rankLevels_85 (lv_at hl 4 rfl) ?_
      refine lv_iconst (v := -1) hx hb dX5_rankLevels_87 (by decide) ?_
      refine lv_ixor hx hb dX5_rankLevels_88 ?_
      refine lv_iand hx hb dX5_rankLevels_89 ?_
      refine nmi hm (fun v_7 hm => ?_)
      refine lv_istore_n (lv' := [(1, .int v_7), (0, .ref q_this), (2, .int x2_13), (3, .int x3_13), (4, .int x4_31)]) hx hb dX5_rankLevels_90 rfl hl (by decide) rfl (fun ls hl => ?_)
      refine lv_iinc (v := (x2_13 + (1 : Int32))) (lv' := [(2, .int (x2_13 + (1 : Int32))), (1, .int v_7), (0, .ref q_this), (3, .int x3_13), (4, .int x4_31)]) hx hb dX5_rankLevels_91 hl (k := 2) rfl rfl (by decide) rfl (fun ls hl => ?_)
      refine lv_iinc (v := (x3_13 + (1 : Int32))) (lv' := [(3, .int (x3_13 + (1 : Int32))), (2, .int (x2_13 + (1 : Int32))), (1, .int v_7), (0, .ref q_this), (4, .int x4_31)]) hx hb dX5_rankLevels_94 hl (k := 3) rfl rfl (by decide) rfl (fun ls hl => ?_)
      refine lv_goto (tgt := 13) hx hb dX5_rankLevels_97 (by decide) ?_
      exact ih_13 v_7 (x2_13 + (1 : Int32)) (x3_13 + (1 : Int32)) y_f_levelRow_31 _ _ _ hm hP hD hS (lv_sub hl [3, 2, 1, 0] rfl)
  refine hL_13 _ ?_ FU v_1 (0 : Int32) (0 : Int32) f_levelRow _ _ _ hm hP hD hS (lv_sub hl [3, 2, 1, 0] rfl)
  intro x1_13 x2_13 x3_13 y_f_levelRow_13 H locs ls hm hP hD hS hl
  refine lv_iload_n hx hb dX5_rankLevels_100 rfl (lv_at hl 0 rfl) ?_
  have hfin := fin _ _ ls _ _ (Option.some.inj hm) dX5_rankLevels_101 hP hD hS
  exact hfin
set_option maxHeartbeats 0 in
set_option maxRecDepth 100000 in
theorem c_X1_drawLevels (G : GT) (l : Launch) (q_this : Nat) (f_length : Int32) (q_bytes : Nat) (f_bytes : (Nat → Int32)) (q_p1 : Nat) (p1_units : Int32) (q_p1_above : Nat) (q_p1_reach : Nat) (q_p1_shown : Nat) (q_p1_stepsBack : Nat) (q_p1_under : Nat) (p1_under : (Nat → Int32)) (q_p1_levelRow : Nat) (p1_levelRow : (Nat → Int32)) {res : (Nat → Int32) × Int32 × (Nat → Int32)} (hm : m_X1_drawLevels f_bytes f_length p1_units p1_under p1_levelRow = some res) : CT G l yX1_drawLevels cX1_drawLevels 4 none 2 46 [.ref q_this, .ref q_p1] [(q_this, .inr (1, [.ref q_bytes, .int f_length])), (q_bytes, .inl (gI G, 160, .inl f_bytes)), (q_p1, .inr (5, [.int p1_units, .ref q_p1_under, .ref q_p1_above, .ref q_p1_reach, .ref q_p1_levelRow, .ref q_p1_shown, .ref q_p1_stepsBack])), (q_p1_under, .inl (gI G, 12, .inl p1_under)), (q_p1_levelRow, .inl (gI G, 12, .inl p1_levelRow))] [(q_this, .inr (1, [.ref q_bytes, .int res.2.1])), (q_bytes, .inl (gI G, 160, .inl res.1)), (q_p1, .inr (5, [.int p1_units, .ref q_p1_under, .ref q_p1_above, .ref q_p1_reach, .ref q_p1_levelRow, .ref q_p1_shown, .ref q_p1_stepsBack])), (q_p1_under, .inl (gI G, 12, .inl p1_under)), (q_p1_levelRow, .inl (gI G, 12, .inl res.2.2))] none := by
  refine ctV (G := G) (l := l) (y := yX1_drawLevels) (cc := cX1_drawLevels) (maxL := 4) (fr := 2) (lo := 46) (As := [.ref q_this, .ref q_p1]) (res := res) (fun res : (Nat → Int32) × Int32 × (Nat → Int32) => [(q_this, .inr (1, [.ref q_bytes, .int res.2.1])), (q_bytes, .inl (gI G, 160, .inl res.1)), (q_p1, .inr (5, [.int p1_units, .ref q_p1_under, .ref q_p1_above, .ref q_p1_reach, .ref q_p1_levelRow, .ref q_p1_shown, .ref q_p1_stepsBack])), (q_p1_under, .inl (gI G, 12, .inl p1_under)), (q_p1_levelRow, .inl (gI G, 12, .inl res.2.2))]) (plainFor_of_name (by decide)) (Nat.le_of_ble_eq_true rfl) ?_
  intro p e s m below meth c A ls Q hx hb hml hown hts hK hG hA hP hD hS hl fin
  have hown : s.vm.findClass RX1 = some m.cls := hown
  have hl : lv_has ls 4 [(0, .ref q_this), (1, .ref q_p1)] := hl
  unfold m_X1_drawLevels at hm
  refine lv_aload_n hx hb dX1_drawLevels_0 rfl (lv_at hl 0 rfl) ?_
  refine lv_iconst (v := 0) hx hb dX1_drawLevels_1 (by decide) ?_
  refine pf_X1_15 (W1 := [(q_this, .inr (1, [.ref q_bytes, .int (0 : Int32)])), (q_bytes, .inl (gI G, 160, .inl f_bytes)), (q_p1, .inr (5, [.int p1_units, .ref q_p1_under, .ref q_p1_above, .ref q_p1_reach, .ref q_p1_levelRow, .ref q_p1_shown, .ref q_p1_stepsBack])), (q_p1_under, .inl (gI G, 12, .inl p1_under)), (q_p1_levelRow, .inl (gI G, 12, .inl p1_levelRow))]) hx hb hts hown hK hP hD hS 0 rfl (Nat.le_of_ble_eq_true rfl) dX1_drawLevels_2 rfl (fun H locs hP hD hS => ?_)
  refine lv_aload_n hx hb dX1_drawLevels_5 rfl (lv_at hl 1 rfl) ?_
  obtain ⟨r_1, h_2, hm⟩ := cl_elim hm
  refine w_callV (As := []) (rest := []) (wr := [(q_this, .inr (1, [.ref q_bytes, .int (0 : Int32)])), (q_bytes, .inl (gI G, 160, .inl f_bytes))]) (W1 := [(q_this, .inr (1, [.ref q_bytes, .int (0 : Int32)])), (q_bytes, .inl (gI G, 160, .inl f_bytes)), (q_p1, .inr (5, [.int p1_units, .ref q_p1_under, .ref q_p1_above, .ref q_p1_reach, .ref q_p1_levelRow, .ref q_p1_shown, .ref q_p1_stepsBack])), (q_p1_under, .inl (gI G, 12, .inl p1_under)), (q_p1_levelRow, .inl (gI G, 12, .inl r_1.1))]) (ci := 5) (q0 := 2) hx hb hml hown hts hK hG hP hD hS hA (c_X5_rankLevels G l q_p1 p1_units q_p1_above q_p1_reach q_p1_shown q_p1_stepsBack q_p1_under p1_under q_p1_levelRow p1_levelRow h_2) kc_X5_rankLevels ki_X5_rankLevels bw850 rfl rfl rfl hl.1 rfl (Nat.le_of_ble_eq_true rfl) dX1_drawLevels_6 (Nat.le_of_ble_eq_true rfl) (Nat.le_of_ble_eq_true rfl) ⟨Nat.le_refl _, Nat.le_refl _⟩ [2, 3, 4] [0, 1] [0, 1, 2, 3, 4] rfl rfl rfl rfl (by decide) rfl rfl (fun H locs hP hD hS => ?_)
  refine lv_iconst (v := 1) hx hb dX1_drawLevels_9 (by decide) ?_
  refine lv_isub hx hb dX1_drawLevels_10 ?_
  refine lv_istore_n (lv' := [(2, .int (r_1.2 - (1 : Int32))), (0, .ref q_this), (1, .ref q_p1)]) hx hb dX1_drawLevels_11 rfl hl (by decide) rfl (fun ls hl => ?_)
  have hL_12 : ∀ (k_12 : Int32 → (Nat → Int32) → Int32 → Option ((Nat → Int32) × Int32 × (Nat → Int32))), (∀ (x2_12 : Int32) (y_f_bytes_12 : (Nat → Int32)) (y_f_length_12 : Int32) (H : Heap) (locs : List Loc) (ls : Array Slot), k_12 x2_12 y_f_bytes_12 y_f_length_12 = some res → va_P (gD G) vwCl [(q_this, .inr (1, [.ref q_bytes, .int y_f_length_12])), (q_bytes, .inl (gI G, 160, .inl y_f_bytes_12)), (q_p1, .inr (5, [.int p1_units, .ref q_p1_under, .ref q_p1_above, .ref q_p1_reach, .ref q_p1_levelRow, .ref q_p1_shown, .ref q_p1_stepsBack])), (q_p1_under, .inl (gI G, 12, .inl p1_under)), (q_p1_levelRow, .inl (gI G, 12, .inl r_1.1))] H → va_D A [(q_this, .inr (1, [.ref q_bytes, .int y_f_length_12])), (q_bytes, .inl (gI G, 160, .inl y_f_bytes_12)), (q_p1, .inr (5, [.int p1_units, .ref q_p1_under, .ref q_p1_above, .ref q_p1_reach, .ref q_p1_levelRow, .ref q_p1_shown, .ref q_p1_stepsBack])), (q_p1_under, .inl (gI G, 12, .inl p1_under)), (q_p1_levelRow, .inl (gI G, 12, .inl r_1.1))] → va_S A s.heap H locs → lv_has ls 4 [] → W p l e { frames := 2, cells := 0, slots := 0, locals := 46 } s m ([.ref q_this, .ref q_p1] : List Value).toArray below meth c H locs 0 0 Q (F0 m 59 ls [])) → ∀ (n_12 : Nat) (x2_12 : Int32) (y_f_bytes_12 : (Nat → Int32)) (y_f_length_12 : Int32) (H : Heap) (locs : List Loc) (ls : Array Slot), m_X1_drawLevels_L12 p1_units r_1 n_12 x2_12 y_f_bytes_12 y_f_length_12 k_12 = some res → va_P (gD G) vwCl [(q_this, .inr (1, [.ref q_bytes, .int y_f_length_12])), (q_bytes, .inl (gI G, 160, .inl y_f_bytes_12)), (q_p1, .inr (5, [.int p1_units, .ref q_p1_under, .ref q_p1_above, .ref q_p1_reach, .ref q_p1_levelRow, .ref q_p1_shown, .ref q_p1_stepsBack])), (q_p1_under, .inl (gI G, 12, .inl p1_under)), (q_p1_levelRow, .inl (gI G, 12, .inl r_1.1))] H → va_D A [(q_this, .inr (1, [.ref q_bytes, .int y_f_length_12])), (q_bytes, .inl (gI G, 160, .inl y_f_bytes_12)), (q_p1, .inr (5, [.int p1_units, .ref q_p1_under, .ref q_p1_above, .ref q_p1_reach, .ref q_p1_levelRow, .ref q_p1_shown, .ref q_p1_stepsBack])), (q_p1_under, .inl (gI G, 12, .inl p1_under)), (q_p1_levelRow, .inl (gI G, 12, .inl r_1.1))] → va_S A s.heap H locs → lv_has ls 4 [(0, .ref q_this), (1, .ref q_p1), (2, .int x2_12)] → W p l e { frames := 2, cells := 0, slots := 0, locals := 46 } s m ([.ref q_this, .ref q_p1] : List Value).toArray below meth c H locs 0 0 Q (F0 m 12 ls []) := by
    intro k_12 hk_12 n_12
    induction n_12 with
    | zero =>
      intro x2_12 y_f_bytes_12 y_f_length_12 H locs ls hm
      rw [m_X1_drawLevels_L12] at hm
      cases hm
    | succ n_12 ih_12 =>
      intro x2_12 y_f_bytes_12 y_f_length_12 H locs ls hm hP hD hS hl
      rw [m_X1_drawLevels_L12] at hm
      refine lv_iload_n hx hb dX1_drawLevels_12 rfl (lv_at hl 2 rfl) ?_
      refine if_lt (tgt := 59) hx hb dX1_drawLevels_13 (by decide) hm (fun hm => ?_) (fun hm => ?_)
      · exact hk_12 x2_12 y_f_bytes_12 y_f_length_12 _ _ _ hm hP hD hS (lv_sub hl [] rfl)
      refine lv_aload_n hx hb dX1_drawLevels_16 rfl (lv_at hl 0 rfl) ?_
      refine lv_bipush (v := 124) hx hb dX1_drawLevels_17 (by decide) ?_
      obtain ⟨r_3, h_4, hm⟩ := cl_elim hm
      refine w_callV (As := [.int (124 : Int32)]) (rest := []) (wr := [(q_p1, .inr (5, [.int p1_units, .ref q_p1_under, .ref q_p1_above, .ref q_p1_reach, .ref q_p1_levelRow, .ref q_p1_shown, .ref q_p1_stepsBack])), (q_p1_under, .inl (gI G, 12, .inl p1_under)), (q_p1_levelRow, .inl (gI G, 12, .inl r_1.1))]) (W1 := [(q_this, .inr (1, [.ref q_bytes, .int r_3.2])), (q_bytes, .inl (gI G, 160, .inl r_3.1)), (q_p1, .inr (5, [.int p1_units, .ref q_p1_under, .ref q_p1_above, .ref q_p1_reach, .ref q_p1_levelRow, .ref q_p1_shown, .ref q_p1_stepsBack])), (q_p1_under, .inl (gI G, 12, .inl p1_under)), (q_p1_levelRow, .inl (gI G, 12, .inl r_1.1))]) (ci := 1) (q0 := 0) hx hb hml hown hts hK hG hP hD hS hA (c_X1_writeBetween G l q_this y_f_length_12 q_bytes y_f_bytes_12 (124 : Int32) h_4) kc_X1_writeBetween ki_X1_writeBetween bw829 rfl rfl rfl hl.1 rfl (Nat.le_of_ble_eq_true rfl) dX1_drawLevels_19 (Nat.le_of_ble_eq_true rfl) (Nat.le_of_ble_eq_true rfl) ⟨Nat.le_refl _, Nat.le_refl _⟩ [0, 1] [2, 3, 4] [3, 4, 0, 1, 2] rfl rfl rfl rfl (by decide) rfl rfl (fun H locs hP hD hS => ?_)
      refine lv_iconst (v := 0) hx hb dX1_drawLevels_22 (by decide) ?_
      refine lv_istore_n (lv' := [(3, .int (0 : Int32)), (0, .ref q_this), (1, .ref q_p1), (2, .int x2_12)]) hx hb dX1_drawLevels_23 rfl hl (by decide) rfl (fun ls hl => ?_)
      have hL_24 : ∀ (k_24 : Int32 → (Nat → Int32) → Int32 → Option ((Nat → Int32) × Int32 × (Nat → Int32))), (∀ (x3_24 : Int32) (y_f_bytes_24 : (Nat → Int32)) (y_f_length_24 : Int32) (H : Heap) (locs : List Loc) (ls : Array Slot), k_24 x3_24 y_f_bytes_24 y_f_length_24 = some res → va_P (gD G) vwCl [(q_this, .inr (1, [.ref q_bytes, .int y_f_length_24])), (q_bytes, .inl (gI G, 160, .inl y_f_bytes_24)), (q_p1, .inr (5, [.int p1_units, .ref q_p1_under, .ref q_p1_above, .ref q_p1_reach, .ref q_p1_levelRow, .ref q_p1_shown, .ref q_p1_stepsBack])), (q_p1_under, .inl (gI G, 12, .inl p1_under)), (q_p1_levelRow, .inl (gI G, 12, .inl r_1.1))] H → va_D A [(q_this, .inr (1, [.ref q_bytes, .int y_f_length_24])), (q_bytes, .inl (gI G, 160, .inl y_f_bytes_24)), (q_p1, .inr (5, [.int p1_units, .ref q_p1_under, .ref q_p1_above, .ref q_p1_reach, .ref q_p1_levelRow, .ref q_p1_shown, .ref q_p1_stepsBack])), (q_p1_under, .inl (gI G, 12, .inl p1_under)), (q_p1_levelRow, .inl (gI G, 12, .inl r_1.1))] → va_S A s.heap H locs → lv_has ls 4 [(0, .ref q_this), (1, .ref q_p1), (2, .int x2_12)] → W p l e { frames := 2, cells := 0, slots := 0, locals := 46 } s m ([.ref q_this, .ref q_p1] : List Value).toArray below meth c H locs 0 0 Q (F0 m 53 ls [])) → ∀ (n_24 : Nat) (x3_24 : Int32) (y_f_bytes_24 : (Nat → Int32)) (y_f_length_24 : Int32) (H : Heap) (locs : List Loc) (ls : Array Slot), m_X1_drawLevels_L24 p1_units r_1 x2_12 n_24 x3_24 y_f_bytes_24 y_f_length_24 k_24 = some res → va_P (gD G) vwCl [(q_this, .inr (1, [.ref q_bytes, .int y_f_length_24])), (q_bytes, .inl (gI G, 160, .inl y_f_bytes_24)), (q_p1, .inr (5, [.int p1_units, .ref q_p1_under, .ref q_p1_above, .ref q_p1_reach, .ref q_p1_levelRow, .ref q_p1_shown, .ref q_p1_stepsBack])), (q_p1_under, .inl (gI G, 12, .inl p1_under)), (q_p1_levelRow, .inl (gI G, 12, .inl r_1.1))] H → va_D A [(q_this, .inr (1, [.ref q_bytes, .int y_f_length_24])), (q_bytes, .inl (gI G, 160, .inl y_f_bytes_24)), (q_p1, .inr (5, [.int p1_units, .ref q_p1_under, .ref q_p1_above, .ref q_p1_reach, .ref q_p1_levelRow, .ref q_p1_shown, .ref q_p1_stepsBack])), (q_p1_under, .inl (gI G, 12, .inl p1_under)), (q_p1_levelRow, .inl (gI G, 12, .inl r_1.1))] → va_S A s.heap H locs → lv_has ls 4 [(0, .ref q_this), (1, .ref q_p1), (2, .int x2_12), (3, .int x3_24)] → W p l e { frames := 2, cells := 0, slots := 0, locals := 46 } s m ([.ref q_this, .ref q_p1] : List Value).toArray below meth c H locs 0 0 Q (F0 m 24 ls []) := by
        intro k_24 hk_24 n_24
        induction n_24 with
        | zero =>
          intro x3_24 y_f_bytes_24 y_f_length_24 H locs ls hm
          rw [m_X1_drawLevels_L24] at hm
          cases hm
        | succ n_24 ih_24 =>
          intro x3_24 y_f_bytes_24 y_f_length_24 H locs ls hm hP hD hS hl
          rw [m_X1_drawLevels_L24] at hm
          refine lv_iload_n hx hb dX1_drawLevels_24 rfl (lv_at hl 3 rfl) ?_
          refine lv_aload_n hx hb dX1_drawLevels_25 rfl (lv_at hl 1 rfl) ?_
          refine gf_X1_23 (v := .int p1_units) hx hb hts hown hK hP 2 rfl rfl dX1_drawLevels_26 ?_
          refine ic_ge (tgt := 53) hx hb dX1_drawLevels_29 (by decide) hm (fun hm => ?_) (fun hm => ?_)
          · exact hk_24 x3_24 y_f_bytes_24 y_f_length_24 _ _ _ hm hP hD hS (lv_sub hl [0, 1, 2] rfl)
          refine lv_aload_n hx hb dX1_drawLevels_32 rfl (lv_at hl 1 rfl) ?_
          refine gf_X1_46 (v := .ref q_p1_levelRow) hx hb hts hown hK hP 2 rfl rfl dX1_drawLevels_33 ?_
          refine lv_iload_n hx hb dX1_drawLevels_36 rfl (lv_at hl 3 rfl) ?_
          refine w_iald hx hb hK hP 4 rfl hm dX1_drawLevels_37 (fun v_5 hm => ?_)
          refine lv_iload_n hx hb dX1_drawLevels_38 rfl (lv_at hl 2 rfl) ?_
          refine ic_ne (tgt := 47) hx hb dX1_drawLevels_39 (by decide) hm (fun hm => ?_) (fun hm => ?_)
          · refine lv_iinc (v := (x3_24 + (1 : Int32))) (lv' := [(3, .int (x3_24 + (1 : Int32))), (0, .ref q_this), (1, .ref q_p1), (2, .int x2_12)]) hx hb dX1_drawLevels_47 hl (k := 3) rfl rfl (by decide) rfl (fun ls hl => ?_)
            refine lv_goto (tgt := 24) hx hb dX1_drawLevels_50 (by decide) ?_
            exact ih_24 (x3_24 + (1 : Int32)) y_f_bytes_24 y_f_length_24 _ _ _ hm hP hD hS (lv_sub hl [1, 2, 3, 0] rfl)
          refine lv_aload_n hx hb dX1_drawLevels_42 rfl (lv_at hl 0 rfl) ?_
          refine lv_iload_n hx hb dX1_drawLevels_43 rfl (lv_at hl 3 rfl) ?_
          obtain ⟨r_6, h_7, hm⟩ := cl_elim hm
          refine w_callV (As := [.int x3_24]) (rest := []) (wr := [(q_p1, .inr (5, [.int p1_units, .ref q_p1_under, .ref q_p1_above, .ref q_p1_reach, .ref q_p1_levelRow, .ref q_p1_shown, .ref q_p1_stepsBack])), (q_p1_under, .inl (gI G, 12, .inl p1_under)), (q_p1_levelRow, .inl (gI G, 12, .inl r_1.1))]) (W1 := [(q_this, .inr (1, [.ref q_bytes, .int r_6.2])), (q_bytes, .inl (gI G, 160, .inl r_6.1)), (q_p1, .inr (5, [.int p1_units, .ref q_p1_under, .ref q_p1_above, .ref q_p1_reach, .ref q_p1_levelRow, .ref q_p1_shown, .ref q_p1_stepsBack])), (q_p1_under, .inl (gI G, 12, .inl p1_under)), (q_p1_levelRow, .inl (gI G, 12, .inl r_1.1))]) (ci := 1) (q0 := 0) hx hb hml hown hts hK hG hP hD hS hA (c_X1_writeUnit G l q_this y_f_length_24 q_bytes y_f_bytes_24 x3_24 h_7) kc_X1_writeUnit ki_X1_writeUnit bw837 rfl rfl rfl hl.1 rfl (Nat.le_of_ble_eq_true rfl) dX1_drawLevels_44 (Nat.le_of_ble_eq_true rfl) (Nat.le_of_ble_eq_true rfl) ⟨Nat.le_refl _, Nat.le_refl _⟩ [0, 1] [2, 3, 4] [3, 4, 0, 1, 2] rfl rfl rfl rfl (by decide) rfl rfl (fun H locs hP hD hS => ?_)
          refine lv_iinc (v := (x3_24 + (1 : Int32))) (lv' := [(3, .int (x3_24 + (1 : Int32))), (0, .ref q_this), (1, .ref q_p1), (2, .int x2_12)]) hx hb dX1_drawLevels_47 hl (k := 3) rfl rfl (by decide) rfl (fun ls hl => ?_)
          refine lv_goto (tgt := 24) hx hb dX1_drawLevels_50 (by decide) ?_
          exact ih_24 (x3_24 + (1 : Int32)) r_6.1 r_6.2 _ _ _ hm hP hD hS (lv_sub hl [1, 2, 3, 0] rfl)
      refine hL_24 _ ?_ FU (0 : Int32) r_3.1 r_3.2 _ _ _ hm hP hD hS (lv_sub hl [1, 2, 3, 0] rfl)
      intro x3_24 y_f_bytes_24 y_f_length_24 H locs ls hm hP hD hS hl
      refine lv_iinc (v := (x2_12 + (-1 : Int32))) (lv' := [(2, .int (x2_12 + (-1 : Int32))), (0, .ref q_this), (1, .ref q_p1)]) hx hb dX1_drawLevels_53 hl (k := 2) rfl rfl (by decide) rfl (fun ls hl => ?_)
      refine lv_goto (tgt := 12) hx hb dX1_drawLevels_56 (by decide) ?_
      exact ih_12 (x2_12 + (-1 : Int32)) y_f_bytes_24 y_f_length_24 _ _ _ hm hP hD hS (lv_sub hl [1, 2, 0] rfl)
  refine hL_12 _ ?_ FU (r_1.2 - (1 : Int32)) f_bytes (0 : Int32) _ _ _ hm hP hD hS (lv_sub hl [1, 2, 0] rfl)
  intro x2_12 y_f_bytes_12 y_f_length_12 H locs ls hm hP hD hS hl
  have hfin := fin _ _ ls _ _ (Option.some.inj hm) dX1_drawLevels_59 hP hD hS
  exact hfin
set_option maxHeartbeats 0 in
set_option maxRecDepth 100000 in
theorem c_X5_leastOf (G : GT) (l : Launch) (a_1 : Int32) {res : Int32} (hm : m_X5_leastOf a_1 = some res) : CT G l yX5_leastOf cX5_leastOf 2 (some .int) 1 21 [.int a_1] [] [] (some (.int res)) := by
  refine ctI (G := G) (l := l) (y := yX5_leastOf) (cc := cX5_leastOf) (maxL := 2) (fr := 1) (lo := 21) (As := [.int a_1]) (res := res) (fun res : Int32 => []) (fun res : Int32 => res) (plainFor_of_name (by decide)) (Nat.le_of_ble_eq_true rfl) ?_
  intro p e s m below meth c A ls Q hx hb hml hown hts hK hG hA hP hD hS hl fin
  have hown : s.vm.findClass RX5 = some m.cls := hown
  have hl : lv_has ls 2 [(0, .int a_1)] := hl
  unfold m_X5_leastOf at hm
  refine lv_iconst (v := 0) hx hb dX5_leastOf_0 (by decide) ?_
  refine lv_istore_n (lv' := [(1, .int (0 : Int32)), (0, .int a_1)]) hx hb dX5_leastOf_1 rfl hl (by decide) rfl (fun ls hl => ?_)
  have hL_2 : ∀ (k_2 : Int32 → Option Int32), (∀ (x1_2 : Int32) (H : Heap) (locs : List Loc) (ls : Array Slot), k_2 x1_2 = some res → va_P (gD G) vwCl [] H → va_D A [] → va_S A s.heap H locs → lv_has ls 2 [] → W p l e { frames := 1, cells := 0, slots := 0, locals := 21 } s m ([.int a_1] : List Value).toArray below meth c H locs 0 0 Q (F0 m 24 ls [])) → ∀ (n_2 : Nat) (x1_2 : Int32) (H : Heap) (locs : List Loc) (ls : Array Slot), m_X5_leastOf_L2 a_1 n_2 x1_2 k_2 = some res → va_P (gD G) vwCl [] H → va_D A [] → va_S A s.heap H locs → lv_has ls 2 [(0, .int a_1), (1, .int x1_2)] → W p l e { frames := 1, cells := 0, slots := 0, locals := 21 } s m ([.int a_1] : List Value).toArray below meth c H locs 0 0 Q (F0 m 2 ls []) := by
    intro k_2 hk_2 n_2
    induction n_2 with
    | zero =>
      intro x1_2 H locs ls hm
      rw [m_X5_leastOf_L2] at hm
      cases hm
    | succ n_2 ih_2 =>
      intro x1_2 H locs ls hm hP hD hS hl
      rw [m_X5_leastOf_L2] at hm
      refine lv_iload_n hx hb dX5_leastOf_2 rfl (lv_at hl 1 rfl) ?_
      refine lv_bipush (v := 12) hx hb dX5_leastOf_3 (by decide) ?_
      refine ic_ge (tgt := 24) hx hb dX5_leastOf_5 (by decide) hm (fun hm => ?_) (fun hm => ?_)
      · exact hk_2 x1_2 _ _ _ hm hP hD hS (lv_sub hl [] rfl)
      refine lv_iload_n hx hb dX5_leastOf_8 rfl (lv_at hl 0 rfl) ?_
      refine lv_iload_n hx hb dX5_leastOf_9 rfl (lv_at hl 1 rfl) ?_
      obtain ⟨r_1, h_2, hm⟩ := cl_elim hm
      refine w_callN (As := [.int a_1, .int x1_2]) (rest := []) (wr := []) (W1 := []) (host := "DigOrder") hx hb hml hown hts hK hG hP hD hS hA (c_X7_hasBit G l a_1 x1_2 h_2) kc_X7_hasBit ks_X7_hasBit (by decide +kernel) rfl hl.1 rfl (Nat.le_of_ble_eq_true rfl) dX5_leastOf_10 (Nat.le_of_ble_eq_true rfl) (Nat.le_of_ble_eq_true rfl) ⟨Nat.le_refl _, Nat.le_refl _⟩ [] [] [] rfl rfl rfl rfl (by decide) rfl rfl (fun H locs hP hD hS => ?_)
      refine if_eq (tgt := 18) hx hb dX5_leastOf_13 (by decide) hm (fun hm => ?_) (fun hm => ?_)
      · refine lv_iinc (v := (x1_2 + (1 : Int32))) (lv' := [(1, .int (x1_2 + (1 : Int32))), (0, .int a_1)]) hx hb dX5_leastOf_18 hl (k := 1) rfl rfl (by decide) rfl (fun ls hl => ?_)
        refine lv_goto (tgt := 2) hx hb dX5_leastOf_21 (by decide) ?_
        exact ih_2 (x1_2 + (1 : Int32)) _ _ _ hm hP hD hS (lv_sub hl [1, 0] rfl)
      refine lv_iload_n hx hb dX5_leastOf_16 rfl (lv_at hl 1 rfl) ?_
      have hfin := fin _ _ ls _ _ (Option.some.inj hm) dX5_leastOf_17 hP hD hS
      exact hfin
  refine hL_2 _ ?_ FU (0 : Int32) _ _ _ hm hP hD hS (lv_sub hl [1, 0] rfl)
  intro x1_2 H locs ls hm hP hD hS hl
  refine lv_iconst (v := 0) hx hb dX5_leastOf_24 (by decide) ?_
  have hfin := fin _ _ ls _ _ (Option.some.inj hm) dX5_leastOf_25 hP hD hS
  exact hfin
set_option maxHeartbeats 0 in
set_option maxRecDepth 100000 in
theorem c_X5_rightAbove (G : GT) (l : Launch) (q_this : Nat) (f_units : Int32) (q_above : Nat) (q_reach : Nat) (q_levelRow : Nat) (q_shown : Nat) (q_stepsBack : Nat) (q_under : Nat) (f_under : (Nat → Int32)) (a_1 : Int32) {res : Int32} (hm : m_X5_rightAbove f_units f_under a_1 = some res) : CT G l yX5_rightAbove cX5_rightAbove 4 (some .int) 0 0 [.ref q_this, .int a_1] [(q_this, .inr (5, [.int f_units, .ref q_under, .ref q_above, .ref q_reach, .ref q_levelRow, .ref q_shown, .ref q_stepsBack])), (q_under, .inl (gI G, 12, .inl f_under))] [(q_this, .inr (5, [.int f_units, .ref q_under, .ref q_above, .ref q_reach, .ref q_levelRow, .ref q_shown, .ref q_stepsBack])), (q_under, .inl (gI G, 12, .inl f_under))] (some (.int res)) := by
  refine ctI (G := G) (l := l) (y := yX5_rightAbove) (cc := cX5_rightAbove) (maxL := 4) (fr := 0) (lo := 0) (As := [.ref q_this, .int a_1]) (res := res) (fun res : Int32 => [(q_this, .inr (5, [.int f_units, .ref q_under, .ref q_above, .ref q_reach, .ref q_levelRow, .ref q_shown, .ref q_stepsBack])), (q_under, .inl (gI G, 12, .inl f_under))]) (fun res : Int32 => res) (plainFor_of_name (by decide)) (Nat.le_of_ble_eq_true rfl) ?_
  intro p e s m below meth c A ls Q hx hb hml hown hts hK hG hA hP hD hS hl fin
  have hown : s.vm.findClass RX5 = some m.cls := hown
  have hl : lv_has ls 4 [(0, .ref q_this), (1, .int a_1)] := hl
  unfold m_X5_rightAbove at hm
  refine lv_iconst (v := 0) hx hb dX5_rightAbove_0 (by decide) ?_
  refine lv_istore_n (lv' := [(2, .int (0 : Int32)), (0, .ref q_this), (1, .int a_1)]) hx hb dX5_rightAbove_1 rfl hl (by decide) rfl (fun ls hl => ?_)
  refine lv_iconst (v := 0) hx hb dX5_rightAbove_2 (by decide) ?_
  refine lv_istore_n (lv' := [(3, .int (0 : Int32)), (2, .int (0 : Int32)), (0, .ref q_this), (1, .int a_1)]) hx hb dX5_rightAbove_3 rfl hl (by decide) rfl (fun ls hl => ?_)
  have hL_4 : ∀ (k_4 : Int32 → Int32 → Option Int32), (∀ (x2_4 : Int32) (x3_4 : Int32) (H : Heap) (locs : List Loc) (ls : Array Slot), k_4 x2_4 x3_4 = some res → va_P (gD G) vwCl [(q_this, .inr (5, [.int f_units, .ref q_under, .ref q_above, .ref q_reach, .ref q_levelRow, .ref q_shown, .ref q_stepsBack])), (q_under, .inl (gI G, 12, .inl f_under))] H → va_D A [(q_this, .inr (5, [.int f_units, .ref q_under, .ref q_above, .ref q_reach, .ref q_levelRow, .ref q_shown, .ref q_stepsBack])), (q_under, .inl (gI G, 12, .inl f_under))] → va_S A s.heap H locs → lv_has ls 4 [(2, .int x2_4)] → W p l e { frames := 0, cells := 0, slots := 0, locals := 0 } s m ([.ref q_this, .int a_1] : List Value).toArray below meth c H locs 0 0 Q (F0 m 35 ls [])) → ∀ (n_4 : Nat) (x2_4 : Int32) (x3_4 : Int32) (H : Heap) (locs : List Loc) (ls : Array Slot), m_X5_rightAbove_L4 f_units f_under a_1 n_4 x2_4 x3_4 k_4 = some res → va_P (gD G) vwCl [(q_this, .inr (5, [.int f_units, .ref q_under, .ref q_above, .ref q_reach, .ref q_levelRow, .ref q_shown, .ref q_stepsBack])), (q_under, .inl (gI G, 12, .inl f_under))] H → va_D A [(q_this, .inr (5, [.int f_units, .ref q_under, .ref q_above, .ref q_reach, .ref q_levelRow, .ref q_shown, .ref q_stepsBack])), (q_under, .inl (gI G, 12, .inl f_under))] → va_S A s.heap H locs → lv_has ls 4 [(0, .ref q_this), (1, .int a_1), (2, .int x2_4), (3, .int x3_4)] → W p l e { frames := 0, cells := 0, slots := 0, locals := 0 } s m ([.ref q_this, .int a_1] : List Value).toArray below meth c H locs 0 0 Q (F0 m 4 ls []) := by
    intro k_4 hk_4 n_4
    induction n_4 with
    | zero =>
      intro x2_4 x3_4 H locs ls hm
      rw [m_X5_rightAbove_L4] at hm
      cases hm
    | succ n_4 ih_4 =>
      intro x2_4 x3_4 H locs ls hm hP hD hS hl
      rw [m_X5_rightAbove_L4] at hm
      refine lv_iload_n hx hb dX5_rightAbove_4 rfl (lv_at hl 3 rfl) ?_
      refine lv_aload_n hx hb dX5_rightAbove_5 rfl (lv_at hl 0 rfl) ?_
      refine gf_X5_9 (v := .int f_units) hx hb hts hown hK hP 0 rfl rfl dX5_rightAbove_6 ?_
      refine ic_ge (tgt := 35) hx hb dX5_rightAbove_9 (by decide) hm (fun hm => ?_) (fun hm => ?_)
      · exact hk_4 x2_4 x3_4 _ _ _ hm hP hD hS (lv_sub hl [2] rfl)
      refine lv_aload_n hx hb dX5_rightAbove_12 rfl (lv_at hl 0 rfl) ?_
      refine gf_X5_15 (v := .ref q_under) hx hb hts hown hK hP 0 rfl rfl dX5_rightAbove_13 ?_
      refine lv_iload_n hx hb dX5_rightAbove_16 rfl (lv_at hl 3 rfl) ?_
      refine w_iald hx hb hK hP 1 rfl hm dX5_rightAbove_17 (fun v_1 hm => ?_)
      refine lv_iload_n hx hb dX5_rightAbove_18 rfl (lv_at hl 1 rfl) ?_
      refine lv_iand hx hb dX5_rightAbove_19 ?_
      refine if_eq (tgt := 29) hx hb dX5_rightAbove_20 (by decide) hm (fun hm => ?_) (fun hm => ?_)
      · refine lv_iinc (v := (x3_4 + (1 : Int32))) (lv' := [(3, .int (x3_4 + (1 : Int32))), (0, .ref q_this), (1, .int a_1), (2, .int x2_4)]) hx hb dX5_rightAbove_29 hl (k := 3) rfl rfl (by decide) rfl (fun ls hl => ?_)
        refine lv_goto (tgt := 4) hx hb dX5_rightAbove_32 (by decide) ?_
        exact ih_4 x2_4 (x3_4 + (1 : Int32)) _ _ _ hm hP hD hS (lv_sub hl [1, 2, 3, 0] rfl)
      refine lv_iload_n hx hb dX5_rightAbove_23 rfl (lv_at hl 2 rfl) ?_
      refine lv_iconst (v := 1) hx hb dX5_rightAbove_24 (by decide) ?_
      refine lv_iload_n hx hb dX5_rightAbove_25 rfl (lv_at hl 3 rfl) ?_
      refine lv_ishl hx hb dX5_rightAbove_26 ?_
      refine lv_ior hx hb dX5_rightAbove_27 ?_
      refine nmi hm (fun v_2 hm => ?_)
      refine lv_istore_n (lv' := [(2, .int v_2), (0, .ref q_this), (1, .int a_1), (3, .int x3_4)]) hx hb dX5_rightAbove_28 rfl hl (by decide) rfl (fun ls hl => ?_)
      refine lv_iinc (v := (x3_4 + (1 : Int32))) (lv' := [(3, .int (x3_4 + (1 : Int32))), (2, .int v_2), (0, .ref q_this), (1, .int a_1)]) hx hb dX5_rightAbove_29 hl (k := 3) rfl rfl (by decide) rfl (fun ls hl => ?_)
      refine lv_goto (tgt := 4) hx hb dX5_rightAbove_32 (by decide) ?_
      exact ih_4 v_2 (x3_4 + (1 : Int32)) _ _ _ hm hP hD hS (lv_sub hl [2, 3, 1, 0] rfl)
  refine hL_4 _ ?_ FU (0 : Int32) (0 : Int32) _ _ _ hm hP hD hS (lv_sub hl [2, 3, 1, 0] rfl)
  intro x2_4 x3_4 H locs ls hm hP hD hS hl
  refine lv_iload_n hx hb dX5_rightAbove_35 rfl (lv_at hl 0 rfl) ?_
  have hfin := fin _ _ ls _ _ (Option.some.inj hm) dX5_rightAbove_36 hP hD hS
  exact hfin
set_option maxHeartbeats 0 in
set_option maxRecDepth 100000 in
theorem c_X5_stepsRound (G : GT) (l : Launch) (q_this : Nat) (f_units : Int32) (q_above : Nat) (q_reach : Nat) (q_levelRow : Nat) (q_shown : Nat) (q_under : Nat) (f_under : (Nat → Int32)) (q_stepsBack : Nat) (f_stepsBack : (Nat → Int32)) (a_1 : Int32) {res : (Nat → Int32) × Int32} (hm : m_X5_stepsRound f_units f_under f_stepsBack a_1 = some res) : CT G l yX5_stepsRound cX5_stepsRound 4 (some .int) 1 23 [.ref q_this, .int a_1] [(q_this, .inr (5, [.int f_units, .ref q_under, .ref q_above, .ref q_reach, .ref q_levelRow, .ref q_shown, .ref q_stepsBack])), (q_under, .inl (gI G, 12, .inl f_under)), (q_stepsBack, .inl (gI G, 13, .inl f_stepsBack))] [(q_this, .inr (5, [.int f_units, .ref q_under, .ref q_above, .ref q_reach, .ref q_levelRow, .ref q_shown, .ref q_stepsBack])), (q_under, .inl (gI G, 12, .inl f_under)), (q_stepsBack, .inl (gI G, 13, .inl res.1))] (some (.int res.2)) := by
  refine ctI (G := G) (l := l) (y := yX5_stepsRound) (cc := cX5_stepsRound) (maxL := 4) (fr := 1) (lo := 23) (As := [.ref q_this, .int a_1]) (res := res) (fun res : (Nat → Int32) × Int32 => [(q_this, .inr (5, [.int f_units, .ref q_under, .ref q_above, .ref q_reach, .ref q_levelRow, .ref q_shown, .ref q_stepsBack])), (q_under, .inl (gI G, 12, .inl f_under)), (q_stepsBack, .inl (gI G, 13, .inl res.1))]) (fun res : (Nat → Int32) × Int32 => res.2) (plainFor_of_name (by decide)) (Nat.le_of_ble_eq_true rfl) ?_
  intro p e s m below meth c A ls Q hx hb hml hown hts hK hG hA hP hD hS hl fin
  have hown : s.vm.findClass RX5 = some m.cls := hown
  have hl : lv_has ls 4 [(0, .ref q_this), (1, .int a_1)] := hl
  unfold m_X5_stepsRound at hm
  refine lv_iconst (v := 1) hx hb dX5_stepsRound_0 (by decide) ?_
  refine lv_iload_n hx hb dX5_stepsRound_1 rfl (lv_at hl 1 rfl) ?_
  refine lv_ishl hx hb dX5_stepsRound_2 ?_
  refine nmi hm (fun v_1 hm => ?_)
  refine lv_istore_n (lv' := [(2, .int v_1), (0, .ref q_this), (1, .int a_1)]) hx hb dX5_stepsRound_3 rfl hl (by decide) rfl (fun ls hl => ?_)
  refine lv_aload_n hx hb dX5_stepsRound_4 rfl (lv_at hl 1 rfl) ?_
  refine gf_X5_31 (v := .ref q_stepsBack) hx hb hts hown hK hP 0 rfl rfl dX5_stepsRound_5 ?_
  refine lv_iconst (v := 0) hx hb dX5_stepsRound_8 (by decide) ?_
  refine lv_iload_n hx hb dX5_stepsRound_9 rfl (lv_at hl 0 rfl) ?_
  refine w_iast hx hb hK hP hD hS 2 rfl hm dX5_stepsRound_10 (fun g_2 => [(q_this, .inr (5, [.int f_units, .ref q_under, .ref q_above, .ref q_reach, .ref q_levelRow, .ref q_shown, .ref q_stepsBack])), (q_under, .inl (gI G, 12, .inl f_under)), (q_stepsBack, .inl (gI G, 13, .inl g_2))]) (fun _ => rfl) (fun g_2 H locs hm hP hD hS => ?_)
  refine lv_iconst (v := 1) hx hb dX5_stepsRound_11 (by decide) ?_
  refine lv_istore_n (lv' := [(3, .int (1 : Int32)), (2, .int v_1), (0, .ref q_this), (1, .int a_1)]) hx hb dX5_stepsRound_12 rfl hl (by decide) rfl (fun ls hl => ?_)
  have hL_13 : ∀ (k_13 : Int32 → Int32 → (Nat → Int32) → Option ((Nat → Int32) × Int32)), (∀ (x2_13 : Int32) (x3_13 : Int32) (y_f_stepsBack_13 : (Nat → Int32)) (H : Heap) (locs : List Loc) (ls : Array Slot), k_13 x2_13 x3_13 y_f_stepsBack_13 = some res → va_P (gD G) vwCl [(q_this, .inr (5, [.int f_units, .ref q_under, .ref q_above, .ref q_reach, .ref q_levelRow, .ref q_shown, .ref q_stepsBack])), (q_under, .inl (gI G, 12, .inl f_under)), (q_stepsBack, .inl (gI G, 13, .inl y_f_stepsBack_13))] H → va_D A [(q_this, .inr (5, [.int f_units, .ref q_under, .ref q_above, .ref q_reach, .ref q_levelRow, .ref q_shown, .ref q_stepsBack])), (q_under, .inl (gI G, 12, .inl f_under)), (q_stepsBack, .inl (gI G, 13, .inl y_f_stepsBack_13))] → va_S A s.heap H locs → lv_has ls 4 [] → W p l e { frames := 1, cells := 0, slots := 0, locals := 23 } s m ([.ref q_this, .int a_1] : List Value).toArray below meth c H locs 0 0 Q (F0 m 78 ls [])) → ∀ (n_13 : Nat) (x2_13 : Int32) (x3_13 : Int32) (y_f_stepsBack_13 : (Nat → Int32)) (H : Heap) (locs : List Loc) (ls : Array Slot), m_X5_stepsRound_L13 f_units f_under a_1 n_13 x2_13 x3_13 y_f_stepsBack_13 k_13 = some res → va_P (gD G) vwCl [(q_this, .inr (5, [.int f_units, .ref q_under, .ref q_above, .ref q_reach, .ref q_levelRow, .ref q_shown, .ref q_stepsBack])), (q_under, .inl (gI G, 12, .inl f_under)), (q_stepsBack, .inl (gI G, 13, .inl y_f_stepsBack_13))] H → va_D A [(q_this, .inr (5, [.int f_units, .ref q_under, .ref q_above, .ref q_reach, .ref q_levelRow, .ref q_shown, .ref q_stepsBack])), (q_under, .inl (gI G, 12, .inl f_under)), (q_stepsBack, .inl (gI G, 13, .inl y_f_stepsBack_13))] → va_S A s.heap H locs → lv_has ls 4 [(0, .ref q_this), (1, .int a_1), (2, .int x2_13), (3, .int x3_13)] → W p l e { frames := 1, cells := 0, slots := 0, locals := 23 } s m ([.ref q_this, .int a_1] : List Value).toArray below meth c H locs 0 0 Q (F0 m 13 ls []) := by
    intro k_13 hk_13 n_13
    induction n_13 with
    | zero =>
      intro x2_13 x3_13 y_f_stepsBack_13 H locs ls hm
      rw [m_X5_stepsRound_L13] at hm
      cases hm
    | succ n_13 ih_13 =>
      intro x2_13 x3_13 y_f_stepsBack_13 H locs ls hm hP hD hS hl
      rw [m_X5_stepsRound_L13] at hm
      refine lv_iload_n hx hb dX5_stepsRound_13 rfl (lv_at hl 3 rfl) ?_
      refine lv_aload_n hx hb dX5_stepsRound_14 rfl (lv_at hl 0 rfl) ?_
      refine gf_X5_9 (v := .int f_units) hx hb hts hown hK hP 0 rfl rfl dX5_stepsRound_15 ?_
      refine ic_gt (tgt := 78) hx hb dX5_stepsRound_18 (by decide) hm (fun hm => ?_) (fun hm => ?_)
      · exact hk_13 x2_13 x3_13 y_f_stepsBack_13 _ _ _ hm hP hD hS (lv_sub hl [] rfl)
      refine lv_aload_n hx hb dX5_stepsRound_21 rfl (lv_at hl 0 rfl) ?_
      refine gf_X5_15 (v := .ref q_under) hx hb hts hown hK hP 0 rfl rfl dX5_stepsRound_22 ?_
      refine lv_iload_n hx hb dX5_stepsRound_25 rfl (lv_at hl 1 rfl) ?_
      refine w_iald hx hb hK hP 1 rfl hm dX5_stepsRound_26 (fun v_3 hm => ?_)
      refine lv_aload_n hx hb dX5_stepsRound_27 rfl (lv_at hl 0 rfl) ?_
      refine gf_X5_31 (v := .ref q_stepsBack) hx hb hts hown hK hP 0 rfl rfl dX5_stepsRound_28 ?_
      refine lv_iload_n hx hb dX5_stepsRound_31 rfl (lv_at hl 3 rfl) ?_
      refine lv_iconst (v := 1) hx hb dX5_stepsRound_32 (by decide) ?_
      refine lv_isub hx hb dX5_stepsRound_33 ?_
      refine w_iald hx hb hK hP 2 rfl hm dX5_stepsRound_34 (fun v_4 hm => ?_)
      refine lv_iand hx hb dX5_stepsRound_35 ?_
      refine if_eq (tgt := 41) hx hb dX5_stepsRound_36 (by decide) hm (fun hm => ?_) (fun hm => ?_)
      · refine lv_aload_n hx hb dX5_stepsRound_41 rfl (lv_at hl 0 rfl) ?_
        refine gf_X5_31 (v := .ref q_stepsBack) hx hb hts hown hK hP 0 rfl rfl dX5_stepsRound_42 ?_
        refine lv_iload_n hx hb dX5_stepsRound_45 rfl (lv_at hl 3 rfl) ?_
        refine lv_aload_n hx hb dX5_stepsRound_46 rfl (lv_at hl 0 rfl) ?_
        refine lv_aload_n hx hb dX5_stepsRound_47 rfl (lv_at hl 0 rfl) ?_
        refine gf_X5_31 (v := .ref q_stepsBack) hx hb hts hown hK hP 0 rfl rfl dX5_stepsRound_48 ?_
        refine lv_iload_n hx hb dX5_stepsRound_51 rfl (lv_at hl 3 rfl) ?_
        refine lv_iconst (v := 1) hx hb dX5_stepsRound_52 (by decide) ?_
        refine lv_isub hx hb dX5_stepsRound_53 ?_
        refine w_iald hx hb hK hP 2 rfl hm dX5_stepsRound_54 (fun v_5 hm => ?_)
        obtain ⟨r_6, h_7, hm⟩ := cl_elim hm
        refine w_callV (As := [.int v_5]) (rest := [.int x3_13, .ref q_stepsBack]) (wr := [(q_stepsBack, .inl (gI G, 13, .inl y_f_stepsBack_13))]) (W1 := [(q_this, .inr (5, [.int f_units, .ref q_under, .ref q_above, .ref q_reach, .ref q_levelRow, .ref q_shown, .ref q_stepsBack])), (q_under, .inl (gI G, 12, .inl f_under)), (q_stepsBack, .inl (gI G, 13, .inl y_f_stepsBack_13))]) (ci := 5) (q0 := 0) hx hb hml hown hts hK hG hP hD hS hA (c_X5_rightAbove G l q_this f_units q_above q_reach q_levelRow q_shown q_stepsBack q_under f_under v_5 h_7) kc_X5_rightAbove ki_X5_rightAbove bw501 rfl rfl rfl hl.1 rfl (Nat.le_of_ble_eq_true rfl) dX5_stepsRound_55 (Nat.le_of_ble_eq_true rfl) (Nat.le_of_ble_eq_true rfl) ⟨Nat.le_refl _, Nat.le_refl _⟩ [0, 1] [2] [1, 2, 0] rfl rfl rfl rfl (by decide) rfl rfl (fun H locs hP hD hS => ?_)
        refine lv_iload_n hx hb dX5_stepsRound_58 rfl (lv_at hl 2 rfl) ?_
        refine lv_iconst (v := -1) hx hb dX5_stepsRound_59 (by decide) ?_
        refine lv_ixor hx hb dX5_stepsRound_60 ?_
        refine lv_iand hx hb dX5_stepsRound_61 ?_
        refine w_iast hx hb hK hP hD hS 2 rfl hm dX5_stepsRound_62 (fun g_8 => [(q_this, .inr (5, [.int f_units, .ref q_under, .ref q_above, .ref q_reach, .ref q_levelRow, .ref q_shown, .ref q_stepsBack])), (q_under, .inl (gI G, 12, .inl f_under)), (q_stepsBack, .inl (gI G, 13, .inl g_8))]) (fun _ => rfl) (fun g_8 H locs hm hP hD hS => ?_)
        refine lv_iload_n hx hb dX5_stepsRound_63 rfl (lv_at hl 2 rfl) ?_
        refine lv_aload_n hx hb dX5_stepsRound_64 rfl (lv_at hl 0 rfl) ?_
        refine gf_X5_31 (v := .ref q_stepsBack) hx hb hts hown hK hP 0 rfl rfl dX5_stepsRound_65 ?_
        refine lv_iload_n hx hb dX5_stepsRound_68 rfl (lv_at hl 3 rfl) ?_
        refine w_iald hx hb hK hP 2 rfl hm dX5_stepsRound_69 (fun v_9 hm => ?_)
        refine lv_ior hx hb dX5_stepsRound_70 ?_
        refine lv_istore_n (lv' := [(2, .int (x2_13 ||| v_9)), (0, .ref q_this), (1, .int a_1), (3, .int x3_13)]) hx hb dX5_stepsRound_71 rfl hl (by decide) rfl (fun ls hl => ?_)
        refine lv_iinc (v := (x3_13 + (1 : Int32))) (lv' := [(3, .int (x3_13 + (1 : Int32))), (2, .int (x2_13 ||| v_9)), (0, .ref q_this), (1, .int a_1)]) hx hb dX5_stepsRound_72 hl (k := 3) rfl rfl (by decide) rfl (fun ls hl => ?_)
        refine lv_goto (tgt := 13) hx hb dX5_stepsRound_75 (by decide) ?_
        exact ih_13 (x2_13 ||| v_9) (x3_13 + (1 : Int32)) g_8 _ _ _ hm hP hD hS (lv_sub hl [2, 3, 1, 0] rfl)
      refine lv_iload_n hx hb dX5_stepsRound_39 rfl (lv_at hl 3 rfl) ?_
      have hfin := fin _ _ ls _ _ (Option.some.inj hm) dX5_stepsRound_40 hP hD hS
      exact hfin
  refine hL_13 _ ?_ FU v_1 (1 : Int32) g_2 _ _ _ hm hP hD hS (lv_sub hl [2, 3, 1, 0] rfl)
  intro x2_13 x3_13 y_f_stepsBack_13 H locs ls hm hP hD hS hl
  refine lv_iconst (v := 0) hx hb dX5_stepsRound_78 (by decide) ?_
  have hfin := fin _ _ ls _ _ (Option.some.inj hm) dX5_stepsRound_79 hP hD hS
  exact hfin
set_option maxHeartbeats 0 in
set_option maxRecDepth 100000 in
theorem c_X5_showCycle (G : GT) (l : Launch) (q_this : Nat) (f_units : Int32) (q_above : Nat) (q_levelRow : Nat) (q_under : Nat) (f_under : (Nat → Int32)) (q_reach : Nat) (f_reach : (Nat → Int32)) (q_shown : Nat) (f_shown : (Nat → Int32)) (q_stepsBack : Nat) (f_stepsBack : (Nat → Int32)) {res : (Nat → Int32) × (Nat → Int32) × Int32} (hm : m_X5_showCycle f_units f_under f_reach f_shown f_stepsBack = some res) : CT G l yX5_showCycle cX5_showCycle 4 (some .int) 2 46 [.ref q_this] [(q_this, .inr (5, [.int f_units, .ref q_under, .ref q_above, .ref q_reach, .ref q_levelRow, .ref q_shown, .ref q_stepsBack])), (q_under, .inl (gI G, 12, .inl f_under)), (q_reach, .inl (gI G, 12, .inl f_reach)), (q_shown, .inl (gI G, 12, .inl f_shown)), (q_stepsBack, .inl (gI G, 13, .inl f_stepsBack))] [(q_this, .inr (5, [.int f_units, .ref q_under, .ref q_above, .ref q_reach, .ref q_levelRow, .ref q_shown, .ref q_stepsBack])), (q_under, .inl (gI G, 12, .inl f_under)), (q_reach, .inl (gI G, 12, .inl f_reach)), (q_shown, .inl (gI G, 12, .inl res.1)), (q_stepsBack, .inl (gI G, 13, .inl res.2.1))] (some (.int res.2.2)) := by
  refine ctI (G := G) (l := l) (y := yX5_showCycle) (cc := cX5_showCycle) (maxL := 4) (fr := 2) (lo := 46) (As := [.ref q_this]) (res := res) (fun res : (Nat → Int32) × (Nat → Int32) × Int32 => [(q_this, .inr (5, [.int f_units, .ref q_under, .ref q_above, .ref q_reach, .ref q_levelRow, .ref q_shown, .ref q_stepsBack])), (q_under, .inl (gI G, 12, .inl f_under)), (q_reach, .inl (gI G, 12, .inl f_reach)), (q_shown, .inl (gI G, 12, .inl res.1)), (q_stepsBack, .inl (gI G, 13, .inl res.2.1))]) (fun res : (Nat → Int32) × (Nat → Int32) × Int32 => res.2.2) (plainFor_of_name (by decide)) (Nat.le_of_ble_eq_true rfl) ?_
  intro p e s m below meth c A ls Q hx hb hml hown hts hK hG hA hP hD hS hl fin
  have hown : s.vm.findClass RX5 = some m.cls := hown
  have hl : lv_has ls 4 [(0, .ref q_this)] := hl
  unfold m_X5_showCycle at hm
  refine lv_aload_n hx hb dX5_showCycle_0 rfl (lv_at hl 0 rfl) ?_
  obtain ⟨r_1, h_2, hm⟩ := cl_elim hm
  refine w_callV (As := []) (rest := []) (wr := [(q_under, .inl (gI G, 12, .inl f_under)), (q_shown, .inl (gI G, 12, .inl f_shown)), (q_stepsBack, .inl (gI G, 13, .inl f_stepsBack))]) (W1 := [(q_this, .inr (5, [.int f_units, .ref q_under, .ref q_above, .ref q_reach, .ref q_levelRow, .ref q_shown, .ref q_stepsBack])), (q_under, .inl (gI G, 12, .inl f_under)), (q_reach, .inl (gI G, 12, .inl f_reach)), (q_shown, .inl (gI G, 12, .inl f_shown)), (q_stepsBack, .inl (gI G, 13, .inl f_stepsBack))]) (ci := 5) (q0 := 0) hx hb hml hown hts hK hG hP hD hS hA (c_X5_hasCycle G l q_this f_units q_under q_above q_levelRow q_shown q_stepsBack q_reach f_reach h_2) kc_X5_hasCycle ki_X5_hasCycle bw447 rfl rfl rfl hl.1 rfl (Nat.le_of_ble_eq_true rfl) dX5_showCycle_1 (Nat.le_of_ble_eq_true rfl) (Nat.le_of_ble_eq_true rfl) ⟨Nat.le_refl _, Nat.le_refl _⟩ [0, 2] [1, 3, 4] [3, 0, 4, 1, 2] rfl rfl rfl rfl (by decide) rfl rfl (fun H locs hP hD hS => ?_)
  refine if_ne (tgt := 9) hx hb dX5_showCycle_4 (by decide) hm (fun hm => ?_) (fun hm => ?_)
  · refine lv_aload_n hx hb dX5_showCycle_9 rfl (lv_at hl 0 rfl) ?_
    obtain ⟨r_3, h_4, hm⟩ := cl_elim hm
    refine w_callV (As := []) (rest := []) (wr := [(q_under, .inl (gI G, 12, .inl f_under)), (q_shown, .inl (gI G, 12, .inl f_shown)), (q_stepsBack, .inl (gI G, 13, .inl f_stepsBack))]) (W1 := [(q_this, .inr (5, [.int f_units, .ref q_under, .ref q_above, .ref q_reach, .ref q_levelRow, .ref q_shown, .ref q_stepsBack])), (q_under, .inl (gI G, 12, .inl f_under)), (q_reach, .inl (gI G, 12, .inl f_reach)), (q_shown, .inl (gI G, 12, .inl f_shown)), (q_stepsBack, .inl (gI G, 13, .inl f_stepsBack))]) (ci := 5) (q0 := 0) hx hb hml hown hts hK hG hP hD hS hA (c_X5_selfReachers G l q_this f_units q_under q_above q_levelRow q_shown q_stepsBack q_reach f_reach h_4) kc_X5_selfReachers ki_X5_selfReachers bw451 rfl rfl rfl hl.1 rfl (Nat.le_of_ble_eq_true rfl) dX5_showCycle_10 (Nat.le_of_ble_eq_true rfl) (Nat.le_of_ble_eq_true rfl) ⟨Nat.le_refl _, Nat.le_refl _⟩ [0, 2] [1, 3, 4] [3, 0, 4, 1, 2] rfl rfl rfl rfl (by decide) rfl rfl (fun H locs hP hD hS => ?_)
    obtain ⟨r_5, h_6, hm⟩ := cl_elim hm
    refine w_callS (As := [.int r_3]) (rest := []) (wr := [(q_this, .inr (5, [.int f_units, .ref q_under, .ref q_above, .ref q_reach, .ref q_levelRow, .ref q_shown, .ref q_stepsBack])), (q_under, .inl (gI G, 12, .inl f_under)), (q_reach, .inl (gI G, 12, .inl f_reach)), (q_shown, .inl (gI G, 12, .inl f_shown)), (q_stepsBack, .inl (gI G, 13, .inl f_stepsBack))]) (W1 := [(q_this, .inr (5, [.int f_units, .ref q_under, .ref q_above, .ref q_reach, .ref q_levelRow, .ref q_shown, .ref q_stepsBack])), (q_under, .inl (gI G, 12, .inl f_under)), (q_reach, .inl (gI G, 12, .inl f_reach)), (q_shown, .inl (gI G, 12, .inl f_shown)), (q_stepsBack, .inl (gI G, 13, .inl f_stepsBack))]) hx hb hml hown hts hK hG hP hD hS hA (c_X5_leastOf G l r_3 h_6) kc_X5_leastOf ks_X5_leastOf bw494 rfl hl.1 rfl (Nat.le_of_ble_eq_true rfl) dX5_showCycle_13 (Nat.le_of_ble_eq_true rfl) (Nat.le_of_ble_eq_true rfl) ⟨Nat.le_refl _, Nat.le_refl _⟩ [] [0, 1, 2, 3, 4] [0, 1, 2, 3, 4] rfl rfl rfl rfl (by decide) rfl rfl (fun H locs hP hD hS => ?_)
    refine lv_istore_n (lv' := [(1, .int r_5), (0, .ref q_this)]) hx hb dX5_showCycle_16 rfl hl (by decide) rfl (fun ls hl => ?_)
    refine lv_aload_n hx hb dX5_showCycle_17 rfl (lv_at hl 1 rfl) ?_
    refine lv_iload_n hx hb dX5_showCycle_18 rfl (lv_at hl 0 rfl) ?_
    obtain ⟨r_7, h_8, hm⟩ := cl_elim hm
    refine w_callV (As := [.int r_5]) (rest := []) (wr := [(q_reach, .inl (gI G, 12, .inl f_reach)), (q_shown, .inl (gI G, 12, .inl f_shown))]) (W1 := [(q_this, .inr (5, [.int f_units, .ref q_under, .ref q_above, .ref q_reach, .ref q_levelRow, .ref q_shown, .ref q_stepsBack])), (q_under, .inl (gI G, 12, .inl f_under)), (q_reach, .inl (gI G, 12, .inl f_reach)), (q_shown, .inl (gI G, 12, .inl f_shown)), (q_stepsBack, .inl (gI G, 13, .inl r_7.1))]) (ci := 5) (q0 := 0) hx hb hml hown hts hK hG hP hD hS hA (c_X5_stepsRound G l q_this f_units q_above q_reach q_levelRow q_shown q_under f_under q_stepsBack f_stepsBack r_5 h_8) kc_X5_stepsRound ki_X5_stepsRound bw497 rfl rfl rfl hl.1 rfl (Nat.le_of_ble_eq_true rfl) dX5_showCycle_19 (Nat.le_of_ble_eq_true rfl) (Nat.le_of_ble_eq_true rfl) ⟨Nat.le_refl _, Nat.le_refl _⟩ [0, 1, 4] [2, 3] [2, 3, 0, 1, 4] rfl rfl rfl rfl (by decide) rfl rfl (fun H locs hP hD hS => ?_)
    refine lv_istore_n (lv' := [(2, .int r_7.2), (1, .int r_5), (0, .ref q_this)]) hx hb dX5_showCycle_22 rfl hl (by decide) rfl (fun ls hl => ?_)
    refine lv_aload_n hx hb dX5_showCycle_23 rfl (lv_at hl 2 rfl) ?_
    refine gf_X5_28 (v := .ref q_shown) hx hb hts hown hK hP 0 rfl rfl dX5_showCycle_24 ?_
    refine lv_iconst (v := 0) hx hb dX5_showCycle_27 (by decide) ?_
    refine lv_iload_n hx hb dX5_showCycle_28 rfl (lv_at hl 1 rfl) ?_
    refine w_iast hx hb hK hP hD hS 3 rfl hm dX5_showCycle_29 (fun g_9 => [(q_this, .inr (5, [.int f_units, .ref q_under, .ref q_above, .ref q_reach, .ref q_levelRow, .ref q_shown, .ref q_stepsBack])), (q_under, .inl (gI G, 12, .inl f_under)), (q_reach, .inl (gI G, 12, .inl f_reach)), (q_shown, .inl (gI G, 12, .inl g_9)), (q_stepsBack, .inl (gI G, 13, .inl r_7.1))]) (fun _ => rfl) (fun g_9 H locs hm hP hD hS => ?_)
    refine lv_iconst (v := 1) hx hb dX5_showCycle_30 (by decide) ?_
    refine lv_istore_n (lv' := [(3, .int (1 : Int32)), (2, .int r_7.2), (1, .int r_5), (0, .ref q_this)]) hx hb dX5_showCycle_31 rfl hl (by decide) rfl (fun ls hl => ?_)
    have hL_32 : ∀ (k_32 : Int32 → Int32 → (Nat → Int32) → Option ((Nat → Int32) × (Nat → Int32) × Int32)), (∀ (x1_32 : Int32) (x3_32 : Int32) (y_f_shown_32 : (Nat → Int32)) (H : Heap) (locs : List Loc) (ls : Array Slot), k_32 x1_32 x3_32 y_f_shown_32 = some res → va_P (gD G) vwCl [(q_this, .inr (5, [.int f_units, .ref q_under, .ref q_above, .ref q_reach, .ref q_levelRow, .ref q_shown, .ref q_stepsBack])), (q_under, .inl (gI G, 12, .inl f_under)), (q_reach, .inl (gI G, 12, .inl f_reach)), (q_shown, .inl (gI G, 12, .inl y_f_shown_32)), (q_stepsBack, .inl (gI G, 13, .inl r_7.1))] H → va_D A [(q_this, .inr (5, [.int f_units, .ref q_under, .ref q_above, .ref q_reach, .ref q_levelRow, .ref q_shown, .ref q_stepsBack])), (q_under, .inl (gI G, 12, .inl f_under)), (q_reach, .inl (gI G, 12, .inl f_reach)), (q_shown, .inl (gI G, 12, .inl y_f_shown_32)), (q_stepsBack, .inl (gI G, 13, .inl r_7.1))] → va_S A s.heap H locs → lv_has ls 4 [(2, .int r_7.2)] → W p l e { frames := 2, cells := 0, slots := 0, locals := 46 } s m ([.ref q_this] : List Value).toArray below meth c H locs 0 0 Q (F0 m 69 ls [])) → ∀ (n_32 : Nat) (x1_32 : Int32) (x3_32 : Int32) (y_f_shown_32 : (Nat → Int32)) (H : Heap) (locs : List Loc) (ls : Array Slot), m_X5_showCycle_L32 f_under r_7 n_32 x1_32 x3_32 y_f_shown_32 k_32 = some res → va_P (gD G) vwCl [(q_this, .inr (5, [.int f_units, .ref q_under, .ref q_above, .ref q_reach, .ref q_levelRow, .ref q_shown, .ref q_stepsBack])), (q_under, .inl (gI G, 12, .inl f_under)), (q_reach, .inl (gI G, 12, .inl f_reach)), (q_shown, .inl (gI G, 12, .inl y_f_shown_32)), (q_stepsBack, .inl (gI G, 13, .inl r_7.1))] H → va_D A [(q_this, .inr (5, [.int f_units, .ref q_under, .ref q_above, .ref q_reach, .ref q_levelRow, .ref q_shown, .ref q_stepsBack])), (q_under, .inl (gI G, 12, .inl f_under)), (q_reach, .inl (gI G, 12, .inl f_reach)), (q_shown, .inl (gI G, 12, .inl y_f_shown_32)), (q_stepsBack, .inl (gI G, 13, .inl r_7.1))] → va_S A s.heap H locs → lv_has ls 4 [(0, .ref q_this), (1, .int x1_32), (2, .int r_7.2), (3, .int x3_32)] → W p l e { frames := 2, cells := 0, slots := 0, locals := 46 } s m ([.ref q_this] : List Value).toArray below meth c H locs 0 0 Q (F0 m 32 ls []) := by
      intro k_32 hk_32 n_32
      induction n_32 with
      | zero =>
        intro x1_32 x3_32 y_f_shown_32 H locs ls hm
        rw [m_X5_showCycle_L32] at hm
        cases hm
      | succ n_32 ih_32 =>
        intro x1_32 x3_32 y_f_shown_32 H locs ls hm hP hD hS hl
        rw [m_X5_showCycle_L32] at hm
        refine lv_iload_n hx hb dX5_showCycle_32 rfl (lv_at hl 3 rfl) ?_
        refine lv_iload_n hx hb dX5_showCycle_33 rfl (lv_at hl 2 rfl) ?_
        refine ic_ge (tgt := 69) hx hb dX5_showCycle_34 (by decide) hm (fun hm => ?_) (fun hm => ?_)
        · exact hk_32 x1_32 x3_32 y_f_shown_32 _ _ _ hm hP hD hS (lv_sub hl [2] rfl)
        refine lv_aload_n hx hb dX5_showCycle_37 rfl (lv_at hl 0 rfl) ?_
        refine gf_X5_15 (v := .ref q_under) hx hb hts hown hK hP 0 rfl rfl dX5_showCycle_38 ?_
        refine lv_iload_n hx hb dX5_showCycle_41 rfl (lv_at hl 1 rfl) ?_
        refine w_iald hx hb hK hP 1 rfl hm dX5_showCycle_42 (fun v_10 hm => ?_)
        refine lv_aload_n hx hb dX5_showCycle_43 rfl (lv_at hl 0 rfl) ?_
        refine gf_X5_31 (v := .ref q_stepsBack) hx hb hts hown hK hP 0 rfl rfl dX5_showCycle_44 ?_
        refine lv_iload_n hx hb dX5_showCycle_47 rfl (lv_at hl 2 rfl) ?_
        refine lv_iload_n hx hb dX5_showCycle_48 rfl (lv_at hl 3 rfl) ?_
        refine lv_isub hx hb dX5_showCycle_49 ?_
        refine w_iald hx hb hK hP 4 rfl hm dX5_showCycle_50 (fun v_11 hm => ?_)
        refine lv_iand hx hb dX5_showCycle_51 ?_
        obtain ⟨r_12, h_13, hm⟩ := cl_elim hm
        refine w_callS (As := [.int (v_10 &&& v_11)]) (rest := []) (wr := [(q_this, .inr (5, [.int f_units, .ref q_under, .ref q_above, .ref q_reach, .ref q_levelRow, .ref q_shown, .ref q_stepsBack])), (q_under, .inl (gI G, 12, .inl f_under)), (q_reach, .inl (gI G, 12, .inl f_reach)), (q_shown, .inl (gI G, 12, .inl y_f_shown_32)), (q_stepsBack, .inl (gI G, 13, .inl r_7.1))]) (W1 := [(q_this, .inr (5, [.int f_units, .ref q_under, .ref q_above, .ref q_reach, .ref q_levelRow, .ref q_shown, .ref q_stepsBack])), (q_under, .inl (gI G, 12, .inl f_under)), (q_reach, .inl (gI G, 12, .inl f_reach)), (q_shown, .inl (gI G, 12, .inl y_f_shown_32)), (q_stepsBack, .inl (gI G, 13, .inl r_7.1))]) hx hb hml hown hts hK hG hP hD hS hA (c_X5_leastOf G l (v_10 &&& v_11) h_13) kc_X5_leastOf ks_X5_leastOf bw494 rfl hl.1 rfl (Nat.le_of_ble_eq_true rfl) dX5_showCycle_52 (Nat.le_of_ble_eq_true rfl) (Nat.le_of_ble_eq_true rfl) ⟨Nat.le_refl _, Nat.le_refl _⟩ [] [0, 1, 2, 3, 4] [0, 1, 2, 3, 4] rfl rfl rfl rfl (by decide) rfl rfl (fun H locs hP hD hS => ?_)
        refine lv_istore_n (lv' := [(1, .int r_12), (0, .ref q_this), (2, .int r_7.2), (3, .int x3_32)]) hx hb dX5_showCycle_55 rfl hl (by decide) rfl (fun ls hl => ?_)
        refine lv_aload_n hx hb dX5_showCycle_56 rfl (lv_at hl 1 rfl) ?_
        refine gf_X5_28 (v := .ref q_shown) hx hb hts hown hK hP 0 rfl rfl dX5_showCycle_57 ?_
        refine lv_iload_n hx hb dX5_showCycle_60 rfl (lv_at hl 3 rfl) ?_
        refine lv_iload_n hx hb dX5_showCycle_61 rfl (lv_at hl 0 rfl) ?_
        refine w_iast hx hb hK hP hD hS 3 rfl hm dX5_showCycle_62 (fun g_14 => [(q_this, .inr (5, [.int f_units, .ref q_under, .ref q_above, .ref q_reach, .ref q_levelRow, .ref q_shown, .ref q_stepsBack])), (q_under, .inl (gI G, 12, .inl f_under)), (q_reach, .inl (gI G, 12, .inl f_reach)), (q_shown, .inl (gI G, 12, .inl g_14)), (q_stepsBack, .inl (gI G, 13, .inl r_7.1))]) (fun _ => rfl) (fun g_14 H locs hm hP hD hS => ?_)
        refine lv_iinc (v := (x3_32 + (1 : Int32))) (lv' := [(3, .int (x3_32 + (1 : Int32))), (1, .int r_12), (0, .ref q_this), (2, .int r_7.2)]) hx hb dX5_showCycle_63 hl (k := 3) rfl rfl (by decide) rfl (fun ls hl => ?_)
        refine lv_goto (tgt := 32) hx hb dX5_showCycle_66 (by decide) ?_
        exact ih_32 r_12 (x3_32 + (1 : Int32)) g_14 _ _ _ hm hP hD hS (lv_sub hl [2, 1, 3, 0] rfl)
    refine hL_32 _ ?_ FU r_5 (1 : Int32) g_9 _ _ _ hm hP hD hS (lv_sub hl [3, 2, 1, 0] rfl)
    intro x1_32 x3_32 y_f_shown_32 H locs ls hm hP hD hS hl
    refine lv_iload_n hx hb dX5_showCycle_69 rfl (lv_at hl 0 rfl) ?_
    have hfin := fin _ _ ls _ _ (Option.some.inj hm) dX5_showCycle_70 hP hD hS
    exact hfin
  refine lv_iconst (v := 0) hx hb dX5_showCycle_7 (by decide) ?_
  have hfin := fin _ _ ls _ _ (Option.some.inj hm) dX5_showCycle_8 hP hD hS
  exact hfin
set_option maxHeartbeats 0 in
set_option maxRecDepth 100000 in
theorem c_X1_drawCycle (G : GT) (l : Launch) (q_this : Nat) (f_length : Int32) (q_bytes : Nat) (f_bytes : (Nat → Int32)) (q_p1 : Nat) (p1_units : Int32) (q_p1_above : Nat) (q_p1_levelRow : Nat) (q_p1_under : Nat) (p1_under : (Nat → Int32)) (q_p1_reach : Nat) (p1_reach : (Nat → Int32)) (q_p1_shown : Nat) (p1_shown : (Nat → Int32)) (q_p1_stepsBack : Nat) (p1_stepsBack : (Nat → Int32)) {res : (Nat → Int32) × Int32 × (Nat → Int32) × (Nat → Int32)} (hm : m_X1_drawCycle f_bytes f_length p1_units p1_under p1_reach p1_shown p1_stepsBack = some res) : CT G l yX1_drawCycle cX1_drawCycle 4 none 3 69 [.ref q_this, .ref q_p1] [(q_this, .inr (1, [.ref q_bytes, .int f_length])), (q_bytes, .inl (gI G, 160, .inl f_bytes)), (q_p1, .inr (5, [.int p1_units, .ref q_p1_under, .ref q_p1_above, .ref q_p1_reach, .ref q_p1_levelRow, .ref q_p1_shown, .ref q_p1_stepsBack])), (q_p1_under, .inl (gI G, 12, .inl p1_under)), (q_p1_reach, .inl (gI G, 12, .inl p1_reach)), (q_p1_shown, .inl (gI G, 12, .inl p1_shown)), (q_p1_stepsBack, .inl (gI G, 13, .inl p1_stepsBack))] [(q_this, .inr (1, [.ref q_bytes, .int res.2.1])), (q_bytes, .inl (gI G, 160, .inl res.1)), (q_p1, .inr (5, [.int p1_units, .ref q_p1_under, .ref q_p1_above, .ref q_p1_reach, .ref q_p1_levelRow, .ref q_p1_shown, .ref q_p1_stepsBack])), (q_p1_under, .inl (gI G, 12, .inl p1_under)), (q_p1_reach, .inl (gI G, 12, .inl p1_reach)), (q_p1_shown, .inl (gI G, 12, .inl res.2.2.1)), (q_p1_stepsBack, .inl (gI G, 13, .inl res.2.2.2))] none := by
  refine ctV (G := G) (l := l) (y := yX1_drawCycle) (cc := cX1_drawCycle) (maxL := 4) (fr := 3) (lo := 69) (As := [.ref q_this, .ref q_p1]) (res := res) (fun res : (Nat → Int32) × Int32 × (Nat → Int32) × (Nat → Int32) => [(q_this, .inr (1, [.ref q_bytes, .int res.2.1])), (q_bytes, .inl (gI G, 160, .inl res.1)), (q_p1, .inr (5, [.int p1_units, .ref q_p1_under, .ref q_p1_above, .ref q_p1_reach, .ref q_p1_levelRow, .ref q_p1_shown, .ref q_p1_stepsBack])), (q_p1_under, .inl (gI G, 12, .inl p1_under)), (q_p1_reach, .inl (gI G, 12, .inl p1_reach)), (q_p1_shown, .inl (gI G, 12, .inl res.2.2.1)), (q_p1_stepsBack, .inl (gI G, 13, .inl res.2.2.2))]) (plainFor_of_name (by decide)) (Nat.le_of_ble_eq_true rfl) ?_
  intro p e s m below meth c A ls Q hx hb hml hown hts hK hG hA hP hD hS hl fin
  have hown : s.vm.findClass RX1 = some m.cls := hown
  have hl : lv_has ls 4 [(0, .ref q_this), (1, .ref q_p1)] := hl
  unfold m_X1_drawCycle at hm
  refine lv_aload_n hx hb dX1_drawCycle_0 rfl (lv_at hl 0 rfl) ?_
  refine lv_iconst (v := 0) hx hb dX1_drawCycle_1 (by decide) ?_
  refine pf_X1_15 (W1 := [(q_this, .inr (1, [.ref q_bytes, .int (0 : Int32)])), (q_bytes, .inl (gI G, 160, .inl f_bytes)), (q_p1, .inr (5, [.int p1_units, .ref q_p1_under, .ref q_p1_above, .ref q_p1_reach, .ref q_p1_levelRow, .ref q_p1_shown, .ref q_p1_stepsBack])), (q_p1_under, .inl (gI G, 12, .inl p1_under)), (q_p1_reach, .inl (gI G, 12, .inl p1_reach)), (q_p1_shown, .inl (gI G, 12, .inl p1_shown)), (q_p1_stepsBack, .inl (gI G, 13, .inl p1_stepsBack))]) hx hb hts hown hK hP hD hS 0 rfl (Nat.le_of_ble_eq_true rfl) dX1_drawCycle_2 rfl (fun H locs hP hD hS => ?_)
  refine lv_aload_n hx hb dX1_drawCycle_5 rfl (lv_at hl 1 rfl) ?_
  obtain ⟨r_1, h_2, hm⟩ := cl_elim hm
  refine w_callV (As := []) (rest := []) (wr := [(q_this, .inr (1, [.ref q_bytes, .int (0 : Int32)])), (q_bytes, .inl (gI G, 160, .inl f_bytes))]) (W1 := [(q_this, .inr (1, [.ref q_bytes, .int (0 : Int32)])), (q_bytes, .inl (gI G, 160, .inl f_bytes)), (q_p1, .inr (5, [.int p1_units, .ref q_p1_under, .ref q_p1_above, .ref q_p1_reach, .ref q_p1_levelRow, .ref q_p1_shown, .ref q_p1_stepsBack])), (q_p1_under, .inl (gI G, 12, .inl p1_under)), (q_p1_reach, .inl (gI G, 12, .inl p1_reach)), (q_p1_shown, .inl (gI G, 12, .inl r_1.1)), (q_p1_stepsBack, .inl (gI G, 13, .inl r_1.2.1))]) (ci := 5) (q0 := 2) hx hb hml hown hts hK hG hP hD hS hA (c_X5_showCycle G l q_p1 p1_units q_p1_above q_p1_levelRow q_p1_under p1_under q_p1_reach p1_reach q_p1_shown p1_shown q_p1_stepsBack p1_stepsBack h_2) kc_X5_showCycle ki_X5_showCycle bw845 rfl rfl rfl hl.1 rfl (Nat.le_of_ble_eq_true rfl) dX1_drawCycle_6 (Nat.le_of_ble_eq_true rfl) (Nat.le_of_ble_eq_true rfl) ⟨Nat.le_refl _, Nat.le_refl _⟩ [2, 3, 4, 5, 6] [0, 1] [0, 1, 2, 3, 4, 5, 6] rfl rfl rfl rfl (by decide) rfl rfl (fun H locs hP hD hS => ?_)
  refine lv_istore_n (lv' := [(2, .int r_1.2.2), (0, .ref q_this), (1, .ref q_p1)]) hx hb dX1_drawCycle_9 rfl hl (by decide) rfl (fun ls hl => ?_)
  refine lv_iconst (v := 0) hx hb dX1_drawCycle_10 (by decide) ?_
  refine lv_istore_n (lv' := [(3, .int (0 : Int32)), (2, .int r_1.2.2), (0, .ref q_this), (1, .ref q_p1)]) hx hb dX1_drawCycle_11 rfl hl (by decide) rfl (fun ls hl => ?_)
  have hL_12 : ∀ (k_12 : Int32 → (Nat → Int32) → Int32 → Option ((Nat → Int32) × Int32 × (Nat → Int32) × (Nat → Int32))), (∀ (x3_12 : Int32) (y_f_bytes_12 : (Nat → Int32)) (y_f_length_12 : Int32) (H : Heap) (locs : List Loc) (ls : Array Slot), k_12 x3_12 y_f_bytes_12 y_f_length_12 = some res → va_P (gD G) vwCl [(q_this, .inr (1, [.ref q_bytes, .int y_f_length_12])), (q_bytes, .inl (gI G, 160, .inl y_f_bytes_12)), (q_p1, .inr (5, [.int p1_units, .ref q_p1_under, .ref q_p1_above, .ref q_p1_reach, .ref q_p1_levelRow, .ref q_p1_shown, .ref q_p1_stepsBack])), (q_p1_under, .inl (gI G, 12, .inl p1_under)), (q_p1_reach, .inl (gI G, 12, .inl p1_reach)), (q_p1_shown, .inl (gI G, 12, .inl r_1.1)), (q_p1_stepsBack, .inl (gI G, 13, .inl r_1.2.1))] H → va_D A [(q_this, .inr (1, [.ref q_bytes, .int y_f_length_12])), (q_bytes, .inl (gI G, 160, .inl y_f_bytes_12)), (q_p1, .inr (5, [.int p1_units, .ref q_p1_under, .ref q_p1_above, .ref q_p1_reach, .ref q_p1_levelRow, .ref q_p1_shown, .ref q_p1_stepsBack])), (q_p1_under, .inl (gI G, 12, .inl p1_under)), (q_p1_reach, .inl (gI G, 12, .inl p1_reach)), (q_p1_shown, .inl (gI G, 12, .inl r_1.1)), (q_p1_stepsBack, .inl (gI G, 13, .inl r_1.2.1))] → va_S A s.heap H locs → lv_has ls 4 [(0, .ref q_this), (1, .ref q_p1)] → W p l e { frames := 3, cells := 0, slots := 0, locals := 69 } s m ([.ref q_this, .ref q_p1] : List Value).toArray below meth c H locs 0 0 Q (F0 m 39 ls [])) → ∀ (n_12 : Nat) (x3_12 : Int32) (y_f_bytes_12 : (Nat → Int32)) (y_f_length_12 : Int32) (H : Heap) (locs : List Loc) (ls : Array Slot), m_X1_drawCycle_L12 r_1 n_12 x3_12 y_f_bytes_12 y_f_length_12 k_12 = some res → va_P (gD G) vwCl [(q_this, .inr (1, [.ref q_bytes, .int y_f_length_12])), (q_bytes, .inl (gI G, 160, .inl y_f_bytes_12)), (q_p1, .inr (5, [.int p1_units, .ref q_p1_under, .ref q_p1_above, .ref q_p1_reach, .ref q_p1_levelRow, .ref q_p1_shown, .ref q_p1_stepsBack])), (q_p1_under, .inl (gI G, 12, .inl p1_under)), (q_p1_reach, .inl (gI G, 12, .inl p1_reach)), (q_p1_shown, .inl (gI G, 12, .inl r_1.1)), (q_p1_stepsBack, .inl (gI G, 13, .inl r_1.2.1))] H → va_D A [(q_this, .inr (1, [.ref q_bytes, .int y_f_length_12])), (q_bytes, .inl (gI G, 160, .inl y_f_bytes_12)), (q_p1, .inr (5, [.int p1_units, .ref q_p1_under, .ref q_p1_above, .ref q_p1_reach, .ref q_p1_levelRow, .ref q_p1_shown, .ref q_p1_stepsBack])), (q_p1_under, .inl (gI G, 12, .inl p1_under)), (q_p1_reach, .inl (gI G, 12, .inl p1_reach)), (q_p1_shown, .inl (gI G, 12, .inl r_1.1)), (q_p1_stepsBack, .inl (gI G, 13, .inl r_1.2.1))] → va_S A s.heap H locs → lv_has ls 4 [(0, .ref q_this), (1, .ref q_p1), (2, .int r_1.2.2), (3, .int x3_12)] → W p l e { frames := 3, cells := 0, slots := 0, locals := 69 } s m ([.ref q_this, .ref q_p1] : List Value).toArray below meth c H locs 0 0 Q (F0 m 12 ls []) := by
    intro k_12 hk_12 n_12
    induction n_12 with
    | zero =>
      intro x3_12 y_f_bytes_12 y_f_length_12 H locs ls hm
      rw [m_X1_drawCycle_L12] at hm
      cases hm
    | succ n_12 ih_12 =>
      intro x3_12 y_f_bytes_12 y_f_length_12 H locs ls hm hP hD hS hl
      rw [m_X1_drawCycle_L12] at hm
      refine lv_iload_n hx hb dX1_drawCycle_12 rfl (lv_at hl 3 rfl) ?_
      refine lv_iload_n hx hb dX1_drawCycle_13 rfl (lv_at hl 2 rfl) ?_
      refine ic_ge (tgt := 39) hx hb dX1_drawCycle_14 (by decide) hm (fun hm => ?_) (fun hm => ?_)
      · exact hk_12 x3_12 y_f_bytes_12 y_f_length_12 _ _ _ hm hP hD hS (lv_sub hl [0, 1] rfl)
      refine lv_aload_n hx hb dX1_drawCycle_17 rfl (lv_at hl 0 rfl) ?_
      refine lv_aload_n hx hb dX1_drawCycle_18 rfl (lv_at hl 1 rfl) ?_
      refine gf_X1_52 (v := .ref q_p1_shown) hx hb hts hown hK hP 2 rfl rfl dX1_drawCycle_19 ?_
      refine lv_iload_n hx hb dX1_drawCycle_22 rfl (lv_at hl 3 rfl) ?_
      refine w_iald hx hb hK hP 5 rfl hm dX1_drawCycle_23 (fun v_3 hm => ?_)
      obtain ⟨r_4, h_5, hm⟩ := cl_elim hm
      refine w_callV (As := [.int v_3]) (rest := []) (wr := [(q_p1, .inr (5, [.int p1_units, .ref q_p1_under, .ref q_p1_above, .ref q_p1_reach, .ref q_p1_levelRow, .ref q_p1_shown, .ref q_p1_stepsBack])), (q_p1_under, .inl (gI G, 12, .inl p1_under)), (q_p1_reach, .inl (gI G, 12, .inl p1_reach)), (q_p1_shown, .inl (gI G, 12, .inl r_1.1)), (q_p1_stepsBack, .inl (gI G, 13, .inl r_1.2.1))]) (W1 := [(q_this, .inr (1, [.ref q_bytes, .int r_4.2])), (q_bytes, .inl (gI G, 160, .inl r_4.1)), (q_p1, .inr (5, [.int p1_units, .ref q_p1_under, .ref q_p1_above, .ref q_p1_reach, .ref q_p1_levelRow, .ref q_p1_shown, .ref q_p1_stepsBack])), (q_p1_under, .inl (gI G, 12, .inl p1_under)), (q_p1_reach, .inl (gI G, 12, .inl p1_reach)), (q_p1_shown, .inl (gI G, 12, .inl r_1.1)), (q_p1_stepsBack, .inl (gI G, 13, .inl r_1.2.1))]) (ci := 1) (q0 := 0) hx hb hml hown hts hK hG hP hD hS hA (c_X1_writeUnit G l q_this y_f_length_12 q_bytes y_f_bytes_12 v_3 h_5) kc_X1_writeUnit ki_X1_writeUnit bw837 rfl rfl rfl hl.1 rfl (Nat.le_of_ble_eq_true rfl) dX1_drawCycle_24 (Nat.le_of_ble_eq_true rfl) (Nat.le_of_ble_eq_true rfl) ⟨Nat.le_refl _, Nat.le_refl _⟩ [0, 1] [2, 3, 4, 5, 6] [5, 6, 0, 1, 2, 3, 4] rfl rfl rfl rfl (by decide) rfl rfl (fun H locs hP hD hS => ?_)
      refine lv_aload_n hx hb dX1_drawCycle_27 rfl (lv_at hl 0 rfl) ?_
      refine lv_bipush (v := 62) hx hb dX1_drawCycle_28 (by decide) ?_
      obtain ⟨r_6, h_7, hm⟩ := cl_elim hm
      refine w_callV (As := [.int (62 : Int32)]) (rest := []) (wr := [(q_p1, .inr (5, [.int p1_units, .ref q_p1_under, .ref q_p1_above, .ref q_p1_reach, .ref q_p1_levelRow, .ref q_p1_shown, .ref q_p1_stepsBack])), (q_p1_under, .inl (gI G, 12, .inl p1_under)), (q_p1_reach, .inl (gI G, 12, .inl p1_reach)), (q_p1_shown, .inl (gI G, 12, .inl r_1.1)), (q_p1_stepsBack, .inl (gI G, 13, .inl r_1.2.1))]) (W1 := [(q_this, .inr (1, [.ref q_bytes, .int r_6.2])), (q_bytes, .inl (gI G, 160, .inl r_6.1)), (q_p1, .inr (5, [.int p1_units, .ref q_p1_under, .ref q_p1_above, .ref q_p1_reach, .ref q_p1_levelRow, .ref q_p1_shown, .ref q_p1_stepsBack])), (q_p1_under, .inl (gI G, 12, .inl p1_under)), (q_p1_reach, .inl (gI G, 12, .inl p1_reach)), (q_p1_shown, .inl (gI G, 12, .inl r_1.1)), (q_p1_stepsBack, .inl (gI G, 13, .inl r_1.2.1))]) (ci := 1) (q0 := 0) hx hb hml hown hts hK hG hP hD hS hA (c_X1_write G l q_this r_4.2 q_bytes r_4.1 (62 : Int32) h_7) kc_X1_write ki_X1_write bw833 rfl rfl rfl hl.1 rfl (Nat.le_of_ble_eq_true rfl) dX1_drawCycle_30 (Nat.le_of_ble_eq_true rfl) (Nat.le_of_ble_eq_true rfl) ⟨Nat.le_refl _, Nat.le_refl _⟩ [0, 1] [2, 3, 4, 5, 6] [5, 6, 0, 1, 2, 3, 4] rfl rfl rfl rfl (by decide) rfl rfl (fun H locs hP hD hS => ?_)
      refine lv_iinc (v := (x3_12 + (1 : Int32))) (lv' := [(3, .int (x3_12 + (1 : Int32))), (0, .ref q_this), (1, .ref q_p1), (2, .int r_1.2.2)]) hx hb dX1_drawCycle_33 hl (k := 3) rfl rfl (by decide) rfl (fun ls hl => ?_)
      refine lv_goto (tgt := 12) hx hb dX1_drawCycle_36 (by decide) ?_
      exact ih_12 (x3_12 + (1 : Int32)) r_6.1 r_6.2 _ _ _ hm hP hD hS (lv_sub hl [1, 2, 3, 0] rfl)
  refine hL_12 _ ?_ FU (0 : Int32) f_bytes (0 : Int32) _ _ _ hm hP hD hS (lv_sub hl [2, 3, 1, 0] rfl)
  intro x3_12 y_f_bytes_12 y_f_length_12 H locs ls hm hP hD hS hl
  refine lv_aload_n hx hb dX1_drawCycle_39 rfl (lv_at hl 0 rfl) ?_
  refine lv_aload_n hx hb dX1_drawCycle_40 rfl (lv_at hl 1 rfl) ?_
  refine gf_X1_52 (v := .ref q_p1_shown) hx hb hts hown hK hP 2 rfl rfl dX1_drawCycle_41 ?_
  refine lv_iconst (v := 0) hx hb dX1_drawCycle_44 (by decide) ?_
  refine w_iald hx hb hK hP 5 rfl hm dX1_drawCycle_45 (fun v_8 hm => ?_)
  obtain ⟨r_9, h_10, hm⟩ := cl_elim hm
  refine w_callV (As := [.int v_8]) (rest := []) (wr := [(q_p1, .inr (5, [.int p1_units, .ref q_p1_under, .ref q_p1_above, .ref q_p1_reach, .ref q_p1_levelRow, .ref q_p1_shown, .ref q_p1_stepsBack])), (q_p1_under, .inl (gI G, 12, .inl p1_under)), (q_p1_reach, .inl (gI G, 12, .inl p1_reach)), (q_p1_shown, .inl (gI G, 12, .inl r_1.1)), (q_p1_stepsBack, .inl (gI G, 13, .inl r_1.2.1))]) (W1 := [(q_this, .inr (1, [.ref q_bytes, .int r_9.2])), (q_bytes, .inl (gI G, 160, .inl r_9.1)), (q_p1, .inr (5, [.int p1_units, .ref q_p1_under, .ref q_p1_above, .ref q_p1_reach, .ref q_p1_levelRow, .ref q_p1_shown, .ref q_p1_stepsBack])), (q_p1_under, .inl (gI G, 12, .inl p1_under)), (q_p1_reach, .inl (gI G, 12, .inl p1_reach)), (q_p1_shown, .inl (gI G, 12, .inl r_1.1)), (q_p1_stepsBack, .inl (gI G, 13, .inl r_1.2.1))]) (ci := 1) (q0 := 0) hx hb hml hown hts hK hG hP hD hS hA (c_X1_writeUnit G l q_this y_f_length_12 q_bytes y_f_bytes_12 v_8 h_10) kc_X1_writeUnit ki_X1_writeUnit bw837 rfl rfl rfl hl.1 rfl (Nat.le_of_ble_eq_true rfl) dX1_drawCycle_46 (Nat.le_of_ble_eq_true rfl) (Nat.le_of_ble_eq_true rfl) ⟨Nat.le_refl _, Nat.le_refl _⟩ [0, 1] [2, 3, 4, 5, 6] [5, 6, 0, 1, 2, 3, 4] rfl rfl rfl rfl (by decide) rfl rfl (fun H locs hP hD hS => ?_)
  have hfin := fin _ _ ls _ _ (Option.some.inj hm) dX1_drawCycle_49 hP hD hS
  exact hfin
set_option maxHeartbeats 0 in
set_option maxRecDepth 100000 in
theorem c_X2_isUnit (G : GT) (l : Launch) (q_this : Nat) (f_units : Int32) (f_ties : Int32) (f_digs : Int32) (f_sights : Int32) (f_events : Int32) (q_traits : Nat) (q_upper : Nat) (q_lower : Nat) (q_digRow : Nat) (q_heldUnit : Nat) (q_heldKind : Nat) (q_seenFirst : Nat) (q_seenSecond : Nat) (q_seenIs : Nat) (q_eventWhat : Nat) (q_eventUnit : Nat) (a_1 : Int32) {res : Int32} (hm : m_X2_isUnit f_units a_1 = some res) : CT G l yX2_isUnit cX2_isUnit 2 (some .boolean) 0 0 [.ref q_this, .int a_1] [(q_this, .inr (2, [.int f_units, .int f_ties, .int f_digs, .int f_sights, .int f_events, .ref q_traits, .ref q_upper, .ref q_lower, .ref q_digRow, .ref q_heldUnit, .ref q_heldKind, .ref q_seenFirst, .ref q_seenSecond, .ref q_seenIs, .ref q_eventWhat, .ref q_eventUnit]))] [(q_this, .inr (2, [.int f_units, .int f_ties, .int f_digs, .int f_sights, .int f_events, .ref q_traits, .ref q_upper, .ref q_lower, .ref q_digRow, .ref q_heldUnit, .ref q_heldKind, .ref q_seenFirst, .ref q_seenSecond, .ref q_seenIs, .ref q_eventWhat, .ref q_eventUnit]))] (some (.int res)) := by
  refine ctZ (G := G) (l := l) (y := yX2_isUnit) (cc := cX2_isUnit) (maxL := 2) (fr := 0) (lo := 0) (As := [.ref q_this, .int a_1]) (res := res) (fun res : Int32 => [(q_this, .inr (2, [.int f_units, .int f_ties, .int f_digs, .int f_sights, .int f_events, .ref q_traits, .ref q_upper, .ref q_lower, .ref q_digRow, .ref q_heldUnit, .ref q_heldKind, .ref q_seenFirst, .ref q_seenSecond, .ref q_seenIs, .ref q_eventWhat, .ref q_eventUnit]))]) (fun res : Int32 => res) (plainFor_of_name (by decide)) (Nat.le_of_ble_eq_true rfl) ?_
  intro p e s m below meth c A ls Q hx hb hml hown hts hK hG hA hP hD hS hl fin
  have hown : s.vm.findClass RX2 = some m.cls := hown
  have hl : lv_has ls 2 [(0, .ref q_this), (1, .int a_1)] := hl
  unfold m_X2_isUnit at hm
  refine lv_iload_n hx hb dX2_isUnit_0 rfl (lv_at hl 1 rfl) ?_
  refine if_lt (tgt := 16) hx hb dX2_isUnit_1 (by decide) hm (fun hm => ?_) (fun hm => ?_)
  · refine lv_iconst (v := 0) hx hb dX2_isUnit_16 (by decide) ?_
    have hfin := fin _ _ ls _ _ (Option.some.inj hm) dX2_isUnit_17 (Or.inl rfl) hP hD hS
    exact hfin
  refine lv_iload_n hx hb dX2_isUnit_4 rfl (lv_at hl 1 rfl) ?_
  refine lv_aload_n hx hb dX2_isUnit_5 rfl (lv_at hl 0 rfl) ?_
  refine gf_X2_9 (v := .int f_units) hx hb hts hown hK hP 0 rfl rfl dX2_isUnit_6 ?_
  refine ic_ge (tgt := 16) hx hb dX2_isUnit_9 (by decide) hm (fun hm => ?_) (fun hm => ?_)
  · refine lv_iconst (v := 0) hx hb dX2_isUnit_16 (by decide) ?_
    have hfin := fin _ _ ls _ _ (Option.some.inj hm) dX2_isUnit_17 (Or.inl rfl) hP hD hS
    exact hfin
  refine lv_iconst (v := 1) hx hb dX2_isUnit_12 (by decide) ?_
  refine lv_goto (tgt := 17) hx hb dX2_isUnit_13 (by decide) ?_
  have hfin := fin _ _ ls _ _ (Option.some.inj hm) dX2_isUnit_17 (Or.inr rfl) hP hD hS
  exact hfin
set_option maxHeartbeats 0 in
set_option maxRecDepth 100000 in
theorem c_X2_allUnits (G : GT) (l : Launch) (q_this : Nat) (f_units : Int32) (f_ties : Int32) (f_digs : Int32) (f_sights : Int32) (f_events : Int32) (q_traits : Nat) (q_upper : Nat) (q_lower : Nat) (q_digRow : Nat) (q_heldUnit : Nat) (q_heldKind : Nat) (q_seenFirst : Nat) (q_seenSecond : Nat) (q_seenIs : Nat) (q_eventWhat : Nat) (q_eventUnit : Nat) {res : Int32} (hm : m_X2_allUnits f_units = some res) : CT G l yX2_allUnits cX2_allUnits 1 (some .int) 0 0 [.ref q_this] [(q_this, .inr (2, [.int f_units, .int f_ties, .int f_digs, .int f_sights, .int f_events, .ref q_traits, .ref q_upper, .ref q_lower, .ref q_digRow, .ref q_heldUnit, .ref q_heldKind, .ref q_seenFirst, .ref q_seenSecond, .ref q_seenIs, .ref q_eventWhat, .ref q_eventUnit]))] [(q_this, .inr (2, [.int f_units, .int f_ties, .int f_digs, .int f_sights, .int f_events, .ref q_traits, .ref q_upper, .ref q_lower, .ref q_digRow, .ref q_heldUnit, .ref q_heldKind, .ref q_seenFirst, .ref q_seenSecond, .ref q_seenIs, .ref q_eventWhat, .ref q_eventUnit]))] (some (.int res)) := by
  refine ctI (G := G) (l := l) (y := yX2_allUnits) (cc := cX2_allUnits) (maxL := 1) (fr := 0) (lo := 0) (As := [.ref q_this]) (res := res) (fun res : Int32 => [(q_this, .inr (2, [.int f_units, .int f_ties, .int f_digs, .int f_sights, .int f_events, .ref q_traits, .ref q_upper, .ref q_lower, .ref q_digRow, .ref q_heldUnit, .ref q_heldKind, .ref q_seenFirst, .ref q_seenSecond, .ref q_seenIs, .ref q_eventWhat, .ref q_eventUnit]))]) (fun res : Int32 => res) (plainFor_of_name (by decide)) (Nat.le_of_ble_eq_true rfl) ?_
  intro p e s m below meth c A ls Q hx hb hml hown hts hK hG hA hP hD hS hl fin
  have hown : s.vm.findClass RX2 = some m.cls := hown
  have hl : lv_has ls 1 [(0, .ref q_this)] := hl
  unfold m_X2_allUnits at hm
  refine lv_iconst (v := 1) hx hb dX2_allUnits_0 (by decide) ?_
  refine lv_aload_n hx hb dX2_allUnits_1 rfl (lv_at hl 0 rfl) ?_
  refine gf_X2_9 (v := .int f_units) hx hb hts hown hK hP 0 rfl rfl dX2_allUnits_2 ?_
  refine lv_ishl hx hb dX2_allUnits_5 ?_
  refine lv_iconst (v := 1) hx hb dX2_allUnits_6 (by decide) ?_
  refine lv_isub hx hb dX2_allUnits_7 ?_
  have hfin := fin _ _ ls _ _ (Option.some.inj hm) dX2_allUnits_8 hP hD hS
  exact hfin
set_option maxHeartbeats 0 in
set_option maxRecDepth 100000 in
theorem c_X2_trait (G : GT) (l : Launch) (q_this : Nat) (f_units : Int32) (f_ties : Int32) (f_digs : Int32) (f_sights : Int32) (f_events : Int32) (q_upper : Nat) (q_lower : Nat) (q_digRow : Nat) (q_heldUnit : Nat) (q_heldKind : Nat) (q_seenFirst : Nat) (q_seenSecond : Nat) (q_seenIs : Nat) (q_eventWhat : Nat) (q_eventUnit : Nat) (q_traits : Nat) (f_traits : (Nat → Int32)) (a_1 : Int32) (a_2 : Int32) {res : Int32} (hm : m_X2_trait f_traits a_1 a_2 = some res) : CT G l yX2_trait cX2_trait 3 (some .int) 0 0 [.ref q_this, .int a_1, .int a_2] [(q_this, .inr (2, [.int f_units, .int f_ties, .int f_digs, .int f_sights, .int f_events, .ref q_traits, .ref q_upper, .ref q_lower, .ref q_digRow, .ref q_heldUnit, .ref q_heldKind, .ref q_seenFirst, .ref q_seenSecond, .ref q_seenIs, .ref q_eventWhat, .ref q_eventUnit])), (q_traits, .inl (gI G, 60, .inl f_traits))] [(q_this, .inr (2, [.int f_units, .int f_ties, .int f_digs, .int f_sights, .int f_events, .ref q_traits, .ref q_upper, .ref q_lower, .ref q_digRow, .ref q_heldUnit, .ref q_heldKind, .ref q_seenFirst, .ref q_seenSecond, .ref q_seenIs, .ref q_eventWhat, .ref q_eventUnit])), (q_traits, .inl (gI G, 60, .inl f_traits))] (some (.int res)) := by
  refine ctI (G := G) (l := l) (y := yX2_trait) (cc := cX2_trait) (maxL := 3) (fr := 0) (lo := 0) (As := [.ref q_this, .int a_1, .int a_2]) (res := res) (fun res : Int32 => [(q_this, .inr (2, [.int f_units, .int f_ties, .int f_digs, .int f_sights, .int f_events, .ref q_traits, .ref q_upper, .ref q_lower, .ref q_digRow, .ref q_heldUnit, .ref q_heldKind, .ref q_seenFirst, .ref q_seenSecond, .ref q_seenIs, .ref q_eventWhat, .ref q_eventUnit])), (q_traits, .inl (gI G, 60, .inl f_traits))]) (fun res : Int32 => res) (plainFor_of_name (by decide)) (Nat.le_of_ble_eq_true rfl) ?_
  intro p e s m below meth c A ls Q hx hb hml hown hts hK hG hA hP hD hS hl fin
  have hown : s.vm.findClass RX2 = some m.cls := hown
  have hl : lv_has ls 3 [(0, .ref q_this), (1, .int a_1), (2, .int a_2)] := hl
  unfold m_X2_trait at hm
  refine lv_aload_n hx hb dX2_trait_0 rfl (lv_at hl 0 rfl) ?_
  refine gf_X2_27 (v := .ref q_traits) hx hb hts hown hK hP 0 rfl rfl dX2_trait_1 ?_
  refine lv_iload_n hx hb dX2_trait_4 rfl (lv_at hl 1 rfl) ?_
  refine lv_bipush (v := 12) hx hb dX2_trait_5 (by decide) ?_
  refine lv_imul hx hb dX2_trait_7 ?_
  refine lv_iload_n hx hb dX2_trait_8 rfl (lv_at hl 2 rfl) ?_
  refine lv_iadd hx hb dX2_trait_9 ?_
  refine w_iald hx hb hK hP 1 rfl hm dX2_trait_10 (fun v_1 hm => ?_)
  have hfin := fin _ _ ls _ _ (Option.some.inj hm) dX2_trait_11 hP hD hS
  exact hfin
set_option maxHeartbeats 0 in
set_option maxRecDepth 100000 in
theorem c_X2_putTrait (G : GT) (l : Launch) (q_this : Nat) (f_units : Int32) (f_ties : Int32) (f_digs : Int32) (f_sights : Int32) (f_events : Int32) (q_upper : Nat) (q_lower : Nat) (q_digRow : Nat) (q_heldUnit : Nat) (q_heldKind : Nat) (q_seenFirst : Nat) (q_seenSecond : Nat) (q_seenIs : Nat) (q_eventWhat : Nat) (q_eventUnit : Nat) (q_traits : Nat) (f_traits : (Nat → Int32)) (a_1 : Int32) (a_2 : Int32) (a_3 : Int32) {res : (Nat → Int32)} (hm : m_X2_putTrait f_traits a_1 a_2 a_3 = some res) : CT G l yX2_putTrait cX2_putTrait 4 none 0 0 [.ref q_this, .int a_1, .int a_2, .int a_3] [(q_this, .inr (2, [.int f_units, .int f_ties, .int f_digs, .int f_sights, .int f_events, .ref q_traits, .ref q_upper, .ref q_lower, .ref q_digRow, .ref q_heldUnit, .ref q_heldKind, .ref q_seenFirst, .ref q_seenSecond, .ref q_seenIs, .ref q_eventWhat, .ref q_eventUnit])), (q_traits, .inl (gI G, 60, .inl f_traits))] [(q_this, .inr (2, [.int f_units, .int f_ties, .int f_digs, .int f_sights, .int f_events, .ref q_traits, .ref q_upper, .ref q_lower, .ref q_digRow, .ref q_heldUnit, .ref q_heldKind, .ref q_seenFirst, .ref q_seenSecond, .ref q_seenIs, .ref q_eventWhat, .ref q_eventUnit])), (q_traits, .inl (gI G, 60, .inl res))] none := by
  refine ctV (G := G) (l := l) (y := yX2_putTrait) (cc := cX2_putTrait) (maxL := 4) (fr := 0) (lo := 0) (As := [.ref q_this, .int a_1, .int a_2, .int a_3]) (res := res) (fun res : (Nat → Int32) => [(q_this, .inr (2, [.int f_units, .int f_ties, .int f_digs, .int f_sights, .int f_events, .ref q_traits, .ref q_upper, .ref q_lower, .ref q_digRow, .ref q_heldUnit, .ref q_heldKind, .ref q_seenFirst, .ref q_seenSecond, .ref q_seenIs, .ref q_eventWhat, .ref q_eventUnit])), (q_traits, .inl (gI G, 60, .inl res))]) (plainFor_of_name (by decide)) (Nat.le_of_ble_eq_true rfl) ?_
  intro p e s m below meth c A ls Q hx hb hml hown hts hK hG hA hP hD hS hl fin
  have hown : s.vm.findClass RX2 = some m.cls := hown
  have hl : lv_has ls 4 [(0, .ref q_this), (1, .int a_1), (2, .int a_2), (3, .int a_3)] := hl
  unfold m_X2_putTrait at hm
  refine lv_aload_n hx hb dX2_putTrait_0 rfl (lv_at hl 0 rfl) ?_
  refine gf_X2_27 (v := .ref q_traits) hx hb hts hown hK hP 0 rfl rfl dX2_putTrait_1 ?_
  refine lv_iload_n hx hb dX2_putTrait_4 rfl (lv_at hl 1 rfl) ?_
  refine lv_bipush (v := 12) hx hb dX2_putTrait_5 (by decide) ?_
  refine lv_imul hx hb dX2_putTrait_7 ?_
  refine lv_iload_n hx hb dX2_putTrait_8 rfl (lv_at hl 2 rfl) ?_
  refine lv_iadd hx hb dX2_putTrait_9 ?_
  refine lv_iload_n hx hb dX2_putTrait_10 rfl (lv_at hl 3 rfl) ?_
  refine w_iast hx hb hK hP hD hS 1 rfl hm dX2_putTrait_11 (fun g_1 => [(q_this, .inr (2, [.int f_units, .int f_ties, .int f_digs, .int f_sights, .int f_events, .ref q_traits, .ref q_upper, .ref q_lower, .ref q_digRow, .ref q_heldUnit, .ref q_heldKind, .ref q_seenFirst, .ref q_seenSecond, .ref q_seenIs, .ref q_eventWhat, .ref q_eventUnit])), (q_traits, .inl (gI G, 60, .inl g_1))]) (fun _ => rfl) (fun g_1 H locs hm hP hD hS => ?_)
  have hfin := fin _ _ ls _ _ (Option.some.inj hm) dX2_putTrait_12 hP hD hS
  exact hfin
set_option maxHeartbeats 0 in
set_option maxRecDepth 100000 in
theorem c_X2_addUnit (G : GT) (l : Launch) (q_this : Nat) (f_units : Int32) (f_ties : Int32) (f_digs : Int32) (f_sights : Int32) (f_events : Int32) (q_upper : Nat) (q_lower : Nat) (q_digRow : Nat) (q_heldUnit : Nat) (q_heldKind : Nat) (q_seenFirst : Nat) (q_seenSecond : Nat) (q_seenIs : Nat) (q_eventWhat : Nat) (q_eventUnit : Nat) (q_traits : Nat) (f_traits : (Nat → Int32)) (a_1 : Int32) {res : Int32 × (Nat → Int32) × Int32} (hm : m_X2_addUnit f_units f_traits a_1 = some res) : CT G l yX2_addUnit cX2_addUnit 3 (some .int) 1 23 [.ref q_this, .int a_1] [(q_this, .inr (2, [.int f_units, .int f_ties, .int f_digs, .int f_sights, .int f_events, .ref q_traits, .ref q_upper, .ref q_lower, .ref q_digRow, .ref q_heldUnit, .ref q_heldKind, .ref q_seenFirst, .ref q_seenSecond, .ref q_seenIs, .ref q_eventWhat, .ref q_eventUnit])), (q_traits, .inl (gI G, 60, .inl f_traits))] [(q_this, .inr (2, [.int res.1, .int f_ties, .int f_digs, .int f_sights, .int f_events, .ref q_traits, .ref q_upper, .ref q_lower, .ref q_digRow, .ref q_heldUnit, .ref q_heldKind, .ref q_seenFirst, .ref q_seenSecond, .ref q_seenIs, .ref q_eventWhat, .ref q_eventUnit])), (q_traits, .inl (gI G, 60, .inl res.2.1))] (some (.int res.2.2)) := by
  refine ctI (G := G) (l := l) (y := yX2_addUnit) (cc := cX2_addUnit) (maxL := 3) (fr := 1) (lo := 23) (As := [.ref q_this, .int a_1]) (res := res) (fun res : Int32 × (Nat → Int32) × Int32 => [(q_this, .inr (2, [.int res.1, .int f_ties, .int f_digs, .int f_sights, .int f_events, .ref q_traits, .ref q_upper, .ref q_lower, .ref q_digRow, .ref q_heldUnit, .ref q_heldKind, .ref q_seenFirst, .ref q_seenSecond, .ref q_seenIs, .ref q_eventWhat, .ref q_eventUnit])), (q_traits, .inl (gI G, 60, .inl res.2.1))]) (fun res : Int32 × (Nat → Int32) × Int32 => res.2.2) (plainFor_of_name (by decide)) (Nat.le_of_ble_eq_true rfl) ?_
  intro p e s m below meth c A ls Q hx hb hml hown hts hK hG hA hP hD hS hl fin
  have hown : s.vm.findClass RX2 = some m.cls := hown
  have hl : lv_has ls 3 [(0, .ref q_this), (1, .int a_1)] := hl
  unfold m_X2_addUnit at hm
  refine lv_aload_n hx hb dX2_addUnit_0 rfl (lv_at hl 0 rfl) ?_
  refine gf_X2_9 (v := .int f_units) hx hb hts hown hK hP 0 rfl rfl dX2_addUnit_1 ?_
  refine lv_istore_n (lv' := [(2, .int f_units), (0, .ref q_this), (1, .int a_1)]) hx hb dX2_addUnit_4 rfl hl (by decide) rfl (fun ls hl => ?_)
  refine lv_aload_n hx hb dX2_addUnit_5 rfl (lv_at hl 1 rfl) ?_
  refine lv_dup hx hb dX2_addUnit_6 rfl ?_
  refine gf_X2_9 (v := .int f_units) hx hb hts hown hK hP 0 rfl rfl dX2_addUnit_7 ?_
  refine lv_iconst (v := 1) hx hb dX2_addUnit_10 (by decide) ?_
  refine lv_iadd hx hb dX2_addUnit_11 ?_
  refine pf_X2_9 (W1 := [(q_this, .inr (2, [.int (f_units + (1 : Int32)), .int f_ties, .int f_digs, .int f_sights, .int f_events, .ref q_traits, .ref q_upper, .ref q_lower, .ref q_digRow, .ref q_heldUnit, .ref q_heldKind, .ref q_seenFirst, .ref q_seenSecond, .ref q_seenIs, .ref q_eventWhat, .ref q_eventUnit])), (q_traits, .inl (gI G, 60, .inl f_traits))]) hx hb hts hown hK hP hD hS 0 rfl (Nat.le_of_ble_eq_true rfl) dX2_addUnit_12 rfl (fun H locs hP hD hS => ?_)
  refine lv_aload_n hx hb dX2_addUnit_15 rfl (lv_at hl 1 rfl) ?_
  refine lv_iconst (v := 0) hx hb dX2_addUnit_16 (by decide) ?_
  refine lv_iload_n hx hb dX2_addUnit_17 rfl (lv_at hl 0 rfl) ?_
  refine lv_iload_n hx hb dX2_addUnit_18 rfl (lv_at hl 2 rfl) ?_
  obtain ⟨r_1, h_2, hm⟩ := cl_elim hm
  refine w_callV (As := [.int (0 : Int32), .int f_units, .int a_1]) (rest := []) (wr := []) (W1 := [(q_this, .inr (2, [.int (f_units + (1 : Int32)), .int f_ties, .int f_digs, .int f_sights, .int f_events, .ref q_traits, .ref q_upper, .ref q_lower, .ref q_digRow, .ref q_heldUnit, .ref q_heldKind, .ref q_seenFirst, .ref q_seenSecond, .ref q_seenIs, .ref q_eventWhat, .ref q_eventUnit])), (q_traits, .inl (gI G, 60, .inl r_1))]) (ci := 2) (q0 := 0) hx hb hml hown hts hK hG hP hD hS hA (c_X2_putTrait G l q_this (f_units + (1 : Int32)) f_ties f_digs f_sights f_events q_upper q_lower q_digRow q_heldUnit q_heldKind q_seenFirst q_seenSecond q_seenIs q_eventWhat q_eventUnit q_traits f_traits (0 : Int32) f_units a_1 h_2) kc_X2_putTrait ki_X2_putTrait bw360 rfl rfl rfl hl.1 rfl (Nat.le_of_ble_eq_true rfl) dX2_addUnit_19 (Nat.le_of_ble_eq_true rfl) (Nat.le_of_ble_eq_true rfl) ⟨Nat.le_refl _, Nat.le_refl _⟩ [0, 1] [] [0, 1] rfl rfl rfl rfl (by decide) rfl rfl (fun H locs hP hD hS => ?_)
  refine lv_aload_n hx hb dX2_addUnit_22 rfl (lv_at hl 1 rfl) ?_
  refine lv_iconst (v := 1) hx hb dX2_addUnit_23 (by decide) ?_
  refine lv_iload_n hx hb dX2_addUnit_24 rfl (lv_at hl 0 rfl) ?_
  refine lv_iconst (v := 1) hx hb dX2_addUnit_25 (by decide) ?_
  obtain ⟨r_3, h_4, hm⟩ := cl_elim hm
  refine w_callV (As := [.int (1 : Int32), .int f_units, .int (1 : Int32)]) (rest := []) (wr := []) (W1 := [(q_this, .inr (2, [.int (f_units + (1 : Int32)), .int f_ties, .int f_digs, .int f_sights, .int f_events, .ref q_traits, .ref q_upper, .ref q_lower, .ref q_digRow, .ref q_heldUnit, .ref q_heldKind, .ref q_seenFirst, .ref q_seenSecond, .ref q_seenIs, .ref q_eventWhat, .ref q_eventUnit])), (q_traits, .inl (gI G, 60, .inl r_3))]) (ci := 2) (q0 := 0) hx hb hml hown hts hK hG hP hD hS hA (c_X2_putTrait G l q_this (f_units + (1 : Int32)) f_ties f_digs f_sights f_events q_upper q_lower q_digRow q_heldUnit q_heldKind q_seenFirst q_seenSecond q_seenIs q_eventWhat q_eventUnit q_traits r_1 (1 : Int32) f_units (1 : Int32) h_4) kc_X2_putTrait ki_X2_putTrait bw360 rfl rfl rfl hl.1 rfl (Nat.le_of_ble_eq_true rfl) dX2_addUnit_26 (Nat.le_of_ble_eq_true rfl) (Nat.le_of_ble_eq_true rfl) ⟨Nat.le_refl _, Nat.le_refl _⟩ [0, 1] [] [0, 1] rfl rfl rfl rfl (by decide) rfl rfl (fun H locs hP hD hS => ?_)
  refine lv_aload_n hx hb dX2_addUnit_29 rfl (lv_at hl 1 rfl) ?_
  refine lv_iconst (v := 2) hx hb dX2_addUnit_30 (by decide) ?_
  refine lv_iload_n hx hb dX2_addUnit_31 rfl (lv_at hl 0 rfl) ?_
  refine w_gstNL (host := "DigOrder") hx hb hG hS hown (by decide +kernel) dX2_addUnit_32 ?_
  refine lv_iconst (v := 2) hx hb dX2_addUnit_35 (by decide) ?_
  refine w_tabL hx hb hG hS hm dX2_addUnit_36 (fun v_5 hm => ?_)
  obtain ⟨r_6, h_7, hm⟩ := cl_elim hm
  refine w_callV (As := [.int (2 : Int32), .int f_units, .int v_5]) (rest := []) (wr := []) (W1 := [(q_this, .inr (2, [.int (f_units + (1 : Int32)), .int f_ties, .int f_digs, .int f_sights, .int f_events, .ref q_traits, .ref q_upper, .ref q_lower, .ref q_digRow, .ref q_heldUnit, .ref q_heldKind, .ref q_seenFirst, .ref q_seenSecond, .ref q_seenIs, .ref q_eventWhat, .ref q_eventUnit])), (q_traits, .inl (gI G, 60, .inl r_6))]) (ci := 2) (q0 := 0) hx hb hml hown hts hK hG hP hD hS hA (c_X2_putTrait G l q_this (f_units + (1 : Int32)) f_ties f_digs f_sights f_events q_upper q_lower q_digRow q_heldUnit q_heldKind q_seenFirst q_seenSecond q_seenIs q_eventWhat q_eventUnit q_traits r_3 (2 : Int32) f_units v_5 h_7) kc_X2_putTrait ki_X2_putTrait bw360 rfl rfl rfl hl.1 rfl (Nat.le_of_ble_eq_true rfl) dX2_addUnit_37 (Nat.le_of_ble_eq_true rfl) (Nat.le_of_ble_eq_true rfl) ⟨Nat.le_refl _, Nat.le_refl _⟩ [0, 1] [] [0, 1] rfl rfl rfl rfl (by decide) rfl rfl (fun H locs hP hD hS => ?_)
  refine lv_aload_n hx hb dX2_addUnit_40 rfl (lv_at hl 1 rfl) ?_
  refine lv_iconst (v := 3) hx hb dX2_addUnit_41 (by decide) ?_
  refine lv_iload_n hx hb dX2_addUnit_42 rfl (lv_at hl 0 rfl) ?_
  refine w_gstNG (host := "DigOrder") hx hb hG hS hown (by decide +kernel) dX2_addUnit_43 ?_
  refine lv_iconst (v := 3) hx hb dX2_addUnit_46 (by decide) ?_
  refine w_tabG hx hb hG hS hm dX2_addUnit_47 (fun v_8 hm => ?_)
  obtain ⟨r_9, h_10, hm⟩ := cl_elim hm
  refine w_callV (As := [.int (3 : Int32), .int f_units, .int v_8]) (rest := []) (wr := []) (W1 := [(q_this, .inr (2, [.int (f_units + (1 : Int32)), .int f_ties, .int f_digs, .int f_sights, .int f_events, .ref q_traits, .ref q_upper, .ref q_lower, .ref q_digRow, .ref q_heldUnit, .ref q_heldKind, .ref q_seenFirst, .ref q_seenSecond, .ref q_seenIs, .ref q_eventWhat, .ref q_eventUnit])), (q_traits, .inl (gI G, 60, .inl r_9))]) (ci := 2) (q0 := 0) hx hb hml hown hts hK hG hP hD hS hA (c_X2_putTrait G l q_this (f_units + (1 : Int32)) f_ties f_digs f_sights f_events q_upper q_lower q_digRow q_heldUnit q_heldKind q_seenFirst q_seenSecond q_seenIs q_eventWhat q_eventUnit q_traits r_6 (3 : Int32) f_units v_8 h_10) kc_X2_putTrait ki_X2_putTrait bw360 rfl rfl rfl hl.1 rfl (Nat.le_of_ble_eq_true rfl) dX2_addUnit_48 (Nat.le_of_ble_eq_true rfl) (Nat.le_of_ble_eq_true rfl) ⟨Nat.le_refl _, Nat.le_refl _⟩ [0, 1] [] [0, 1] rfl rfl rfl rfl (by decide) rfl rfl (fun H locs hP hD hS => ?_)
  refine lv_aload_n hx hb dX2_addUnit_51 rfl (lv_at hl 1 rfl) ?_
  refine lv_iconst (v := 4) hx hb dX2_addUnit_52 (by decide) ?_
  refine lv_iload_n hx hb dX2_addUnit_53 rfl (lv_at hl 0 rfl) ?_
  refine lv_iconst (v := -1) hx hb dX2_addUnit_54 (by decide) ?_
  obtain ⟨r_11, h_12, hm⟩ := cl_elim hm
  refine w_callV (As := [.int (4 : Int32), .int f_units, .int (-1 : Int32)]) (rest := []) (wr := []) (W1 := [(q_this, .inr (2, [.int (f_units + (1 : Int32)), .int f_ties, .int f_digs, .int f_sights, .int f_events, .ref q_traits, .ref q_upper, .ref q_lower, .ref q_digRow, .ref q_heldUnit, .ref q_heldKind, .ref q_seenFirst, .ref q_seenSecond, .ref q_seenIs, .ref q_eventWhat, .ref q_eventUnit])), (q_traits, .inl (gI G, 60, .inl r_11))]) (ci := 2) (q0 := 0) hx hb hml hown hts hK hG hP hD hS hA (c_X2_putTrait G l q_this (f_units + (1 : Int32)) f_ties f_digs f_sights f_events q_upper q_lower q_digRow q_heldUnit q_heldKind q_seenFirst q_seenSecond q_seenIs q_eventWhat q_eventUnit q_traits r_9 (4 : Int32) f_units (-1 : Int32) h_12) kc_X2_putTrait ki_X2_putTrait bw360 rfl rfl rfl hl.1 rfl (Nat.le_of_ble_eq_true rfl) dX2_addUnit_55 (Nat.le_of_ble_eq_true rfl) (Nat.le_of_ble_eq_true rfl) ⟨Nat.le_refl _, Nat.le_refl _⟩ [0, 1] [] [0, 1] rfl rfl rfl rfl (by decide) rfl rfl (fun H locs hP hD hS => ?_)
  refine lv_iload_n hx hb dX2_addUnit_58 rfl (lv_at hl 0 rfl) ?_
  have hfin := fin _ _ ls _ _ (Option.some.inj hm) dX2_addUnit_59 hP hD hS
  exact hfin
set_option maxHeartbeats 0 in
set_option maxRecDepth 100000 in
theorem c_X2_unitsOfPhase (G : GT) (l : Launch) (q_this : Nat) (f_units : Int32) (f_ties : Int32) (f_digs : Int32) (f_sights : Int32) (f_events : Int32) (q_upper : Nat) (q_lower : Nat) (q_digRow : Nat) (q_heldUnit : Nat) (q_heldKind : Nat) (q_seenFirst : Nat) (q_seenSecond : Nat) (q_seenIs : Nat) (q_eventWhat : Nat) (q_eventUnit : Nat) (q_traits : Nat) (f_traits : (Nat → Int32)) (a_1 : Int32) {res : Int32} (hm : m_X2_unitsOfPhase f_units f_traits a_1 = some res) : CT G l yX2_unitsOfPhase cX2_unitsOfPhase 4 (some .int) 1 22 [.ref q_this, .int a_1] [(q_this, .inr (2, [.int f_units, .int f_ties, .int f_digs, .int f_sights, .int f_events, .ref q_traits, .ref q_upper, .ref q_lower, .ref q_digRow, .ref q_heldUnit, .ref q_heldKind, .ref q_seenFirst, .ref q_seenSecond, .ref q_seenIs, .ref q_eventWhat, .ref q_eventUnit])), (q_traits, .inl (gI G, 60, .inl f_traits))] [(q_this, .inr (2, [.int f_units, .int f_ties, .int f_digs, .int f_sights, .int f_events, .ref q_traits, .ref q_upper, .ref q_lower, .ref q_digRow, .ref q_heldUnit, .ref q_heldKind, .ref q_seenFirst, .ref q_seenSecond, .ref q_seenIs, .ref q_eventWhat, .ref q_eventUnit])), (q_traits, .inl (gI G, 60, .inl f_traits))] (some (.int res)) := by
  refine ctI (G := G) (l := l) (y := yX2_unitsOfPhase) (cc := cX2_unitsOfPhase) (maxL := 4) (fr := 1) (lo := 22) (As := [.ref q_this, .int a_1]) (res := res) (fun res : Int32 => [(q_this, .inr (2, [.int f_units, .int f_ties, .int f_digs, .int f_sights, .int f_events, .ref q_traits, .ref q_upper, .ref q_lower, .ref q_digRow, .ref q_heldUnit, .ref q_heldKind, .ref q_seenFirst, .ref q_seenSecond, .ref q_seenIs, .ref q_eventWhat, .ref q_eventUnit])), (q_traits, .inl (gI G, 60, .inl f_traits))]) (fun res : Int32 => res) (plainFor_of_name (by decide)) (Nat.le_of_ble_eq_true rfl) ?_
  intro p e s m below meth c A ls Q hx hb hml hown hts hK hG hA hP hD hS hl fin
  have hown : s.vm.findClass RX2 = some m.cls := hown
  have hl : lv_has ls 4 [(0, .ref q_this), (1, .int a_1)] := hl
  unfold m_X2_unitsOfPhase at hm
  refine lv_iconst (v := 0) hx hb dX2_unitsOfPhase_0 (by decide) ?_
  refine lv_istore_n (lv' := [(2, .int (0 : Int32)), (0, .ref q_this), (1, .int a_1)]) hx hb dX2_unitsOfPhase_1 rfl hl (by decide) rfl (fun ls hl => ?_)
  refine lv_iconst (v := 0) hx hb dX2_unitsOfPhase_2 (by decide) ?_
  refine lv_istore_n (lv' := [(3, .int (0 : Int32)), (2, .int (0 : Int32)), (0, .ref q_this), (1, .int a_1)]) hx hb dX2_unitsOfPhase_3 rfl hl (by decide) rfl (fun ls hl => ?_)
  have hL_4 : ∀ (k_4 : Int32 → Int32 → Option Int32), (∀ (x2_4 : Int32) (x3_4 : Int32) (H : Heap) (locs : List Loc) (ls : Array Slot), k_4 x2_4 x3_4 = some res → va_P (gD G) vwCl [(q_this, .inr (2, [.int f_units, .int f_ties, .int f_digs, .int f_sights, .int f_events, .ref q_traits, .ref q_upper, .ref q_lower, .ref q_digRow, .ref q_heldUnit, .ref q_heldKind, .ref q_seenFirst, .ref q_seenSecond, .ref q_seenIs, .ref q_eventWhat, .ref q_eventUnit])), (q_traits, .inl (gI G, 60, .inl f_traits))] H → va_D A [(q_this, .inr (2, [.int f_units, .int f_ties, .int f_digs, .int f_sights, .int f_events, .ref q_traits, .ref q_upper, .ref q_lower, .ref q_digRow, .ref q_heldUnit, .ref q_heldKind, .ref q_seenFirst, .ref q_seenSecond, .ref q_seenIs, .ref q_eventWhat, .ref q_eventUnit])), (q_traits, .inl (gI G, 60, .inl f_traits))] → va_S A s.heap H locs → lv_has ls 4 [(2, .int x2_4)] → W p l e { frames := 1, cells := 0, slots := 0, locals := 22 } s m ([.ref q_this, .int a_1] : List Value).toArray below meth c H locs 0 0 Q (F0 m 34 ls [])) → ∀ (n_4 : Nat) (x2_4 : Int32) (x3_4 : Int32) (H : Heap) (locs : List Loc) (ls : Array Slot), m_X2_unitsOfPhase_L4 f_units f_traits a_1 n_4 x2_4 x3_4 k_4 = some res → va_P (gD G) vwCl [(q_this, .inr (2, [.int f_units, .int f_ties, .int f_digs, .int f_sights, .int f_events, .ref q_traits, .ref q_upper, .ref q_lower, .ref q_digRow, .ref q_heldUnit, .ref q_heldKind, .ref q_seenFirst, .ref q_seenSecond, .ref q_seenIs, .ref q_eventWhat, .ref q_eventUnit])), (q_traits, .inl (gI G, 60, .inl f_traits))] H → va_D A [(q_this, .inr (2, [.int f_units, .int f_ties, .int f_digs, .int f_sights, .int f_events, .ref q_traits, .ref q_upper, .ref q_lower, .ref q_digRow, .ref q_heldUnit, .ref q_heldKind, .ref q_seenFirst, .ref q_seenSecond, .ref q_seenIs, .ref q_eventWhat, .ref q_eventUnit])), (q_traits, .inl (gI G, 60, .inl f_traits))] → va_S A s.heap H locs → lv_has ls 4 [(0, .ref q_this), (1, .int a_1), (2, .int x2_4), (3, .int x3_4)] → W p l e { frames := 1, cells := 0, slots := 0, locals := 22 } s m ([.ref q_this, .int a_1] : List Value).toArray below meth c H locs 0 0 Q (F0 m 4 ls []) := by
    intro k_4 hk_4 n_4
    induction n_4 with
    | zero =>
      intro x2_4 x3_4 H locs ls hm
      rw [m_X2_unitsOfPhase_L4] at hm
      cases hm
    | succ n_4 ih_4 =>
      intro x2_4 x3_4 H locs ls hm hP hD hS hl
      rw [m_X2_unitsOfPhase_L4] at hm
      refine lv_iload_n hx hb dX2_unitsOfPhase_4 rfl (lv_at hl 3 rfl) ?_
      refine lv_aload_n hx hb dX2_unitsOfPhase_5 rfl (lv_at hl 0 rfl) ?_
      refine gf_X2_9 (v := .int f_units) hx hb hts hown hK hP 0 rfl rfl dX2_unitsOfPhase_6 ?_
      refine ic_ge (tgt := 34) hx hb dX2_unitsOfPhase_9 (by decide) hm (fun hm => ?_) (fun hm => ?_)
      · exact hk_4 x2_4 x3_4 _ _ _ hm hP hD hS (lv_sub hl [2] rfl)
      refine lv_aload_n hx hb dX2_unitsOfPhase_12 rfl (lv_at hl 0 rfl) ?_
      refine lv_iconst (v := 4) hx hb dX2_unitsOfPhase_13 (by decide) ?_
      refine lv_iload_n hx hb dX2_unitsOfPhase_14 rfl (lv_at hl 3 rfl) ?_
      obtain ⟨r_1, h_2, hm⟩ := cl_elim hm
      refine w_callV (As := [.int (4 : Int32), .int x3_4]) (rest := []) (wr := []) (W1 := [(q_this, .inr (2, [.int f_units, .int f_ties, .int f_digs, .int f_sights, .int f_events, .ref q_traits, .ref q_upper, .ref q_lower, .ref q_digRow, .ref q_heldUnit, .ref q_heldKind, .ref q_seenFirst, .ref q_seenSecond, .ref q_seenIs, .ref q_eventWhat, .ref q_eventUnit])), (q_traits, .inl (gI G, 60, .inl f_traits))]) (ci := 2) (q0 := 0) hx hb hml hown hts hK hG hP hD hS hA (c_X2_trait G l q_this f_units f_ties f_digs f_sights f_events q_upper q_lower q_digRow q_heldUnit q_heldKind q_seenFirst q_seenSecond q_seenIs q_eventWhat q_eventUnit q_traits f_traits (4 : Int32) x3_4 h_2) kc_X2_trait ki_X2_trait bw476 rfl rfl rfl hl.1 rfl (Nat.le_of_ble_eq_true rfl) dX2_unitsOfPhase_15 (Nat.le_of_ble_eq_true rfl) (Nat.le_of_ble_eq_true rfl) ⟨Nat.le_refl _, Nat.le_refl _⟩ [0, 1] [] [0, 1] rfl rfl rfl rfl (by decide) rfl rfl (fun H locs hP hD hS => ?_)
      refine lv_iload_n hx hb dX2_unitsOfPhase_18 rfl (lv_at hl 1 rfl) ?_
      refine ic_ne (tgt := 28) hx hb dX2_unitsOfPhase_19 (by decide) hm (fun hm => ?_) (fun hm => ?_)
      · refine lv_iinc (v := (x3_4 + (1 : Int32))) (lv' := [(3, .int (x3_4 + (1 : Int32))), (0, .ref q_this), (1, .int a_1), (2, .int x2_4)]) hx hb dX2_unitsOfPhase_28 hl (k := 3) rfl rfl (by decide) rfl (fun ls hl => ?_)
        refine lv_goto (tgt := 4) hx hb dX2_unitsOfPhase_31 (by decide) ?_
        exact ih_4 x2_4 (x3_4 + (1 : Int32)) _ _ _ hm hP hD hS (lv_sub hl [1, 2, 3, 0] rfl)
      refine lv_iload_n hx hb dX2_unitsOfPhase_22 rfl (lv_at hl 2 rfl) ?_
      refine lv_iconst (v := 1) hx hb dX2_unitsOfPhase_23 (by decide) ?_
      refine lv_iload_n hx hb dX2_unitsOfPhase_24 rfl (lv_at hl 3 rfl) ?_
      refine lv_ishl hx hb dX2_unitsOfPhase_25 ?_
      refine lv_ior hx hb dX2_unitsOfPhase_26 ?_
      refine nmi hm (fun v_3 hm => ?_)
      refine lv_istore_n (lv' := [(2, .int v_3), (0, .ref q_this), (1, .int a_1), (3, .int x3_4)]) hx hb dX2_unitsOfPhase_27 rfl hl (by decide) rfl (fun ls hl => ?_)
      refine lv_iinc (v := (x3_4 + (1 : Int32))) (lv' := [(3, .int (x3_4 + (1 : Int32))), (2, .int v_3), (0, .ref q_this), (1, .int a_1)]) hx hb dX2_unitsOfPhase_28 hl (k := 3) rfl rfl (by decide) rfl (fun ls hl => ?_)
      refine lv_goto (tgt := 4) hx hb dX2_unitsOfPhase_31 (by decide) ?_
      exact ih_4 v_3 (x3_4 + (1 : Int32)) _ _ _ hm hP hD hS (lv_sub hl [2, 3, 1, 0] rfl)
  refine hL_4 _ ?_ FU (0 : Int32) (0 : Int32) _ _ _ hm hP hD hS (lv_sub hl [2, 3, 1, 0] rfl)
  intro x2_4 x3_4 H locs ls hm hP hD hS hl
  refine lv_iload_n hx hb dX2_unitsOfPhase_34 rfl (lv_at hl 0 rfl) ?_
  have hfin := fin _ _ ls _ _ (Option.some.inj hm) dX2_unitsOfPhase_35 hP hD hS
  exact hfin
set_option maxHeartbeats 0 in
set_option maxRecDepth 100000 in
theorem c_X2_tieNumber (G : GT) (l : Launch) (q_this : Nat) (f_units : Int32) (f_ties : Int32) (f_digs : Int32) (f_sights : Int32) (f_events : Int32) (q_traits : Nat) (q_digRow : Nat) (q_heldUnit : Nat) (q_heldKind : Nat) (q_seenFirst : Nat) (q_seenSecond : Nat) (q_seenIs : Nat) (q_eventWhat : Nat) (q_eventUnit : Nat) (q_upper : Nat) (f_upper : (Nat → Int32)) (q_lower : Nat) (f_lower : (Nat → Int32)) (a_1 : Int32) (a_2 : Int32) {res : Int32} (hm : m_X2_tieNumber f_ties f_upper f_lower a_1 a_2 = some res) : CT G l yX2_tieNumber cX2_tieNumber 4 (some .int) 0 0 [.ref q_this, .int a_1, .int a_2] [(q_this, .inr (2, [.int f_units, .int f_ties, .int f_digs, .int f_sights, .int f_events, .ref q_traits, .ref q_upper, .ref q_lower, .ref q_digRow, .ref q_heldUnit, .ref q_heldKind, .ref q_seenFirst, .ref q_seenSecond, .ref q_seenIs, .ref q_eventWhat, .ref q_eventUnit])), (q_upper, .inl (gI G, 40, .inl f_upper)), (q_lower, .inl (gI G, 40, .inl f_lower))] [(q_this, .inr (2, [.int f_units, .int f_ties, .int f_digs, .int f_sights, .int f_events, .ref q_traits, .ref q_upper, .ref q_lower, .ref q_digRow, .ref q_heldUnit, .ref q_heldKind, .ref q_seenFirst, .ref q_seenSecond, .ref q_seenIs, .ref q_eventWhat, .ref q_eventUnit])), (q_upper, .inl (gI G, 40, .inl f_upper)), (q_lower, .inl (gI G, 40, .inl f_lower))] (some (.int res)) := by
  refine ctI (G := G) (l := l) (y := yX2_tieNumber) (cc := cX2_tieNumber) (maxL := 4) (fr := 0) (lo := 0) (As := [.ref q_this, .int a_1, .int a_2]) (res := res) (fun res : Int32 => [(q_this, .inr (2, [.int f_units, .int f_ties, .int f_digs, .int f_sights, .int f_events, .ref q_traits, .ref q_upper, .ref q_lower, .ref q_digRow, .ref q_heldUnit, .ref q_heldKind, .ref q_seenFirst, .ref q_seenSecond, .ref q_seenIs, .ref q_eventWhat, .ref q_eventUnit])), (q_upper, .inl (gI G, 40, .inl f_upper)), (q_lower, .inl (gI G, 40, .inl f_lower))]) (fun res : Int32 => res) (plainFor_of_name (by decide)) (Nat.le_of_ble_eq_true rfl) ?_
  intro p e s m below meth c A ls Q hx hb hml hown hts hK hG hA hP hD hS hl fin
  have hown : s.vm.findClass RX2 = some m.cls := hown
  have hl : lv_has ls 4 [(0, .ref q_this), (1, .int a_1), (2, .int a_2)] := hl
  unfold m_X2_tieNumber at hm
  refine lv_iconst (v := 0) hx hb dX2_tieNumber_0 (by decide) ?_
  refine lv_istore_n (lv' := [(3, .int (0 : Int32)), (0, .ref q_this), (1, .int a_1), (2, .int a_2)]) hx hb dX2_tieNumber_1 rfl hl (by decide) rfl (fun ls hl => ?_)
  have hL_2 : ∀ (k_2 : Int32 → Option Int32), (∀ (x3_2 : Int32) (H : Heap) (locs : List Loc) (ls : Array Slot), k_2 x3_2 = some res → va_P (gD G) vwCl [(q_this, .inr (2, [.int f_units, .int f_ties, .int f_digs, .int f_sights, .int f_events, .ref q_traits, .ref q_upper, .ref q_lower, .ref q_digRow, .ref q_heldUnit, .ref q_heldKind, .ref q_seenFirst, .ref q_seenSecond, .ref q_seenIs, .ref q_eventWhat, .ref q_eventUnit])), (q_upper, .inl (gI G, 40, .inl f_upper)), (q_lower, .inl (gI G, 40, .inl f_lower))] H → va_D A [(q_this, .inr (2, [.int f_units, .int f_ties, .int f_digs, .int f_sights, .int f_events, .ref q_traits, .ref q_upper, .ref q_lower, .ref q_digRow, .ref q_heldUnit, .ref q_heldKind, .ref q_seenFirst, .ref q_seenSecond, .ref q_seenIs, .ref q_eventWhat, .ref q_eventUnit])), (q_upper, .inl (gI G, 40, .inl f_upper)), (q_lower, .inl (gI G, 40, .inl f_lower))] → va_S A s.heap H locs → lv_has ls 4 [] → W p l e { frames := 0, cells := 0, slots := 0, locals := 0 } s m ([.ref q_this, .int a_1, .int a_2] : List Value).toArray below meth c H locs 0 0 Q (F0 m 38 ls [])) → ∀ (n_2 : Nat) (x3_2 : Int32) (H : Heap) (locs : List Loc) (ls : Array Slot), m_X2_tieNumber_L2 f_ties f_upper f_lower a_1 a_2 n_2 x3_2 k_2 = some res → va_P (gD G) vwCl [(q_this, .inr (2, [.int f_units, .int f_ties, .int f_digs, .int f_sights, .int f_events, .ref q_traits, .ref q_upper, .ref q_lower, .ref q_digRow, .ref q_heldUnit, .ref q_heldKind, .ref q_seenFirst, .ref q_seenSecond, .ref q_seenIs, .ref q_eventWhat, .ref q_eventUnit])), (q_upper, .inl (gI G, 40, .inl f_upper)), (q_lower, .inl (gI G, 40, .inl f_lower))] H → va_D A [(q_this, .inr (2, [.int f_units, .int f_ties, .int f_digs, .int f_sights, .int f_events, .ref q_traits, .ref q_upper, .ref q_lower, .ref q_digRow, .ref q_heldUnit, .ref q_heldKind, .ref q_seenFirst, .ref q_seenSecond, .ref q_seenIs, .ref q_eventWhat, .ref q_eventUnit])), (q_upper, .inl (gI G, 40, .inl f_upper)), (q_lower, .inl (gI G, 40, .inl f_lower))] → va_S A s.heap H locs → lv_has ls 4 [(0, .ref q_this), (1, .int a_1), (2, .int a_2), (3, .int x3_2)] → W p l e { frames := 0, cells := 0, slots := 0, locals := 0 } s m ([.ref q_this, .int a_1, .int a_2] : List Value).toArray below meth c H locs 0 0 Q (F0 m 2 ls []) := by
    intro k_2 hk_2 n_2
    induction n_2 with
    | zero =>
      intro x3_2 H locs ls hm
      rw [m_X2_tieNumber_L2] at hm
      cases hm
    | succ n_2 ih_2 =>
      intro x3_2 H locs ls hm hP hD hS hl
      rw [m_X2_tieNumber_L2] at hm
      refine lv_iload_n hx hb dX2_tieNumber_2 rfl (lv_at hl 3 rfl) ?_
      refine lv_aload_n hx hb dX2_tieNumber_3 rfl (lv_at hl 0 rfl) ?_
      refine gf_X2_15 (v := .int f_ties) hx hb hts hown hK hP 0 rfl rfl dX2_tieNumber_4 ?_
      refine ic_ge (tgt := 38) hx hb dX2_tieNumber_7 (by decide) hm (fun hm => ?_) (fun hm => ?_)
      · exact hk_2 x3_2 _ _ _ hm hP hD hS (lv_sub hl [] rfl)
      refine lv_aload_n hx hb dX2_tieNumber_10 rfl (lv_at hl 0 rfl) ?_
      refine gf_X2_31 (v := .ref q_upper) hx hb hts hown hK hP 0 rfl rfl dX2_tieNumber_11 ?_
      refine lv_iload_n hx hb dX2_tieNumber_14 rfl (lv_at hl 3 rfl) ?_
      refine w_iald hx hb hK hP 1 rfl hm dX2_tieNumber_15 (fun v_1 hm => ?_)
      refine lv_iload_n hx hb dX2_tieNumber_16 rfl (lv_at hl 1 rfl) ?_
      refine ic_ne (tgt := 32) hx hb dX2_tieNumber_17 (by decide) hm (fun hm => ?_) (fun hm => ?_)
      · refine lv_iinc (v := (x3_2 + (1 : Int32))) (lv' := [(3, .int (x3_2 + (1 : Int32))), (0, .ref q_this), (1, .int a_1), (2, .int a_2)]) hx hb dX2_tieNumber_32 hl (k := 3) rfl rfl (by decide) rfl (fun ls hl => ?_)
        refine lv_goto (tgt := 2) hx hb dX2_tieNumber_35 (by decide) ?_
        exact ih_2 (x3_2 + (1 : Int32)) _ _ _ hm hP hD hS (lv_sub hl [1, 2, 3, 0] rfl)
      refine lv_aload_n hx hb dX2_tieNumber_20 rfl (lv_at hl 0 rfl) ?_
      refine gf_X2_34 (v := .ref q_lower) hx hb hts hown hK hP 0 rfl rfl dX2_tieNumber_21 ?_
      refine lv_iload_n hx hb dX2_tieNumber_24 rfl (lv_at hl 3 rfl) ?_
      refine w_iald hx hb hK hP 2 rfl hm dX2_tieNumber_25 (fun v_2 hm => ?_)
      refine lv_iload_n hx hb dX2_tieNumber_26 rfl (lv_at hl 2 rfl) ?_
      refine ic_ne (tgt := 32) hx hb dX2_tieNumber_27 (by decide) hm (fun hm => ?_) (fun hm => ?_)
      · refine lv_iinc (v := (x3_2 + (1 : Int32))) (lv' := [(3, .int (x3_2 + (1 : Int32))), (0, .ref q_this), (1, .int a_1), (2, .int a_2)]) hx hb dX2_tieNumber_32 hl (k := 3) rfl rfl (by decide) rfl (fun ls hl => ?_)
        refine lv_goto (tgt := 2) hx hb dX2_tieNumber_35 (by decide) ?_
        exact ih_2 (x3_2 + (1 : Int32)) _ _ _ hm hP hD hS (lv_sub hl [1, 2, 3, 0] rfl)
      refine lv_iload_n hx hb dX2_tieNumber_30 rfl (lv_at hl 3 rfl) ?_
      have hfin := fin _ _ ls _ _ (Option.some.inj hm) dX2_tieNumber_31 hP hD hS
      exact hfin
  refine hL_2 _ ?_ FU (0 : Int32) _ _ _ hm hP hD hS (lv_sub hl [1, 2, 3, 0] rfl)
  intro x3_2 H locs ls hm hP hD hS hl
  refine lv_iconst (v := -1) hx hb dX2_tieNumber_38 (by decide) ?_
  have hfin := fin _ _ ls _ _ (Option.some.inj hm) dX2_tieNumber_39 hP hD hS
  exact hfin
set_option maxHeartbeats 0 in
set_option maxRecDepth 100000 in
theorem c_X2_tieTold (G : GT) (l : Launch) (q_this : Nat) (f_units : Int32) (f_ties : Int32) (f_digs : Int32) (f_sights : Int32) (f_events : Int32) (q_traits : Nat) (q_digRow : Nat) (q_heldUnit : Nat) (q_heldKind : Nat) (q_seenFirst : Nat) (q_seenSecond : Nat) (q_seenIs : Nat) (q_eventWhat : Nat) (q_eventUnit : Nat) (q_upper : Nat) (f_upper : (Nat → Int32)) (q_lower : Nat) (f_lower : (Nat → Int32)) (a_1 : Int32) {res : Int32} (hm : m_X2_tieTold f_upper f_lower a_1 = some res) : CT G l yX2_tieTold cX2_tieTold 2 (some .int) 0 0 [.ref q_this, .int a_1] [(q_this, .inr (2, [.int f_units, .int f_ties, .int f_digs, .int f_sights, .int f_events, .ref q_traits, .ref q_upper, .ref q_lower, .ref q_digRow, .ref q_heldUnit, .ref q_heldKind, .ref q_seenFirst, .ref q_seenSecond, .ref q_seenIs, .ref q_eventWhat, .ref q_eventUnit])), (q_upper, .inl (gI G, 40, .inl f_upper)), (q_lower, .inl (gI G, 40, .inl f_lower))] [(q_this, .inr (2, [.int f_units, .int f_ties, .int f_digs, .int f_sights, .int f_events, .ref q_traits, .ref q_upper, .ref q_lower, .ref q_digRow, .ref q_heldUnit, .ref q_heldKind, .ref q_seenFirst, .ref q_seenSecond, .ref q_seenIs, .ref q_eventWhat, .ref q_eventUnit])), (q_upper, .inl (gI G, 40, .inl f_upper)), (q_lower, .inl (gI G, 40, .inl f_lower))] (some (.int res)) := by
  refine ctI (G := G) (l := l) (y := yX2_tieTold) (cc := cX2_tieTold) (maxL := 2) (fr := 0) (lo := 0) (As := [.ref q_this, .int a_1]) (res := res) (fun res : Int32 => [(q_this, .inr (2, [.int f_units, .int f_ties, .int f_digs, .int f_sights, .int f_events, .ref q_traits, .ref q_upper, .ref q_lower, .ref q_digRow, .ref q_heldUnit, .ref q_heldKind, .ref q_seenFirst, .ref q_seenSecond, .ref q_seenIs, .ref q_eventWhat, .ref q_eventUnit])), (q_upper, .inl (gI G, 40, .inl f_upper)), (q_lower, .inl (gI G, 40, .inl f_lower))]) (fun res : Int32 => res) (plainFor_of_name (by decide)) (Nat.le_of_ble_eq_true rfl) ?_
  intro p e s m below meth c A ls Q hx hb hml hown hts hK hG hA hP hD hS hl fin
  have hown : s.vm.findClass RX2 = some m.cls := hown
  have hl : lv_has ls 2 [(0, .ref q_this), (1, .int a_1)] := hl
  unfold m_X2_tieTold at hm
  refine lv_bipush (v := 100) hx hb dX2_tieTold_0 (by decide) ?_
  refine lv_aload_n hx hb dX2_tieTold_2 rfl (lv_at hl 0 rfl) ?_
  refine gf_X2_31 (v := .ref q_upper) hx hb hts hown hK hP 0 rfl rfl dX2_tieTold_3 ?_
  refine lv_iload_n hx hb dX2_tieTold_6 rfl (lv_at hl 1 rfl) ?_
  refine w_iald hx hb hK hP 1 rfl hm dX2_tieTold_7 (fun v_1 hm => ?_)
  refine lv_imul hx hb dX2_tieTold_8 ?_
  refine lv_aload_n hx hb dX2_tieTold_9 rfl (lv_at hl 0 rfl) ?_
  refine gf_X2_34 (v := .ref q_lower) hx hb hts hown hK hP 0 rfl rfl dX2_tieTold_10 ?_
  refine lv_iload_n hx hb dX2_tieTold_13 rfl (lv_at hl 1 rfl) ?_
  refine w_iald hx hb hK hP 2 rfl hm dX2_tieTold_14 (fun v_2 hm => ?_)
  refine lv_iadd hx hb dX2_tieTold_15 ?_
  have hfin := fin _ _ ls _ _ (Option.some.inj hm) dX2_tieTold_16 hP hD hS
  exact hfin
set_option maxHeartbeats 0 in
set_option maxRecDepth 100000 in
theorem c_X2_addTie (G : GT) (l : Launch) (q_this : Nat) (f_units : Int32) (f_ties : Int32) (f_digs : Int32) (f_sights : Int32) (f_events : Int32) (q_traits : Nat) (q_digRow : Nat) (q_heldUnit : Nat) (q_heldKind : Nat) (q_seenFirst : Nat) (q_seenSecond : Nat) (q_seenIs : Nat) (q_eventWhat : Nat) (q_eventUnit : Nat) (q_upper : Nat) (f_upper : (Nat → Int32)) (q_lower : Nat) (f_lower : (Nat → Int32)) (a_1 : Int32) (a_2 : Int32) {res : Int32 × (Nat → Int32) × (Nat → Int32)} (hm : m_X2_addTie f_ties f_upper f_lower a_1 a_2 = some res) : CT G l yX2_addTie cX2_addTie 3 none 0 0 [.ref q_this, .int a_1, .int a_2] [(q_this, .inr (2, [.int f_units, .int f_ties, .int f_digs, .int f_sights, .int f_events, .ref q_traits, .ref q_upper, .ref q_lower, .ref q_digRow, .ref q_heldUnit, .ref q_heldKind, .ref q_seenFirst, .ref q_seenSecond, .ref q_seenIs, .ref q_eventWhat, .ref q_eventUnit])), (q_upper, .inl (gI G, 40, .inl f_upper)), (q_lower, .inl (gI G, 40, .inl f_lower))] [(q_this, .inr (2, [.int f_units, .int res.1, .int f_digs, .int f_sights, .int f_events, .ref q_traits, .ref q_upper, .ref q_lower, .ref q_digRow, .ref q_heldUnit, .ref q_heldKind, .ref q_seenFirst, .ref q_seenSecond, .ref q_seenIs, .ref q_eventWhat, .ref q_eventUnit])), (q_upper, .inl (gI G, 40, .inl res.2.1)), (q_lower, .inl (gI G, 40, .inl res.2.2))] none := by
  refine ctV (G := G) (l := l) (y := yX2_addTie) (cc := cX2_addTie) (maxL := 3) (fr := 0) (lo := 0) (As := [.ref q_this, .int a_1, .int a_2]) (res := res) (fun res : Int32 × (Nat → Int32) × (Nat → Int32) => [(q_this, .inr (2, [.int f_units, .int res.1, .int f_digs, .int f_sights, .int f_events, .ref q_traits, .ref q_upper, .ref q_lower, .ref q_digRow, .ref q_heldUnit, .ref q_heldKind, .ref q_seenFirst, .ref q_seenSecond, .ref q_seenIs, .ref q_eventWhat, .ref q_eventUnit])), (q_upper, .inl (gI G, 40, .inl res.2.1)), (q_lower, .inl (gI G, 40, .inl res.2.2))]) (plainFor_of_name (by decide)) (Nat.le_of_ble_eq_true rfl) ?_
  intro p e s m below meth c A ls Q hx hb hml hown hts hK hG hA hP hD hS hl fin
  have hown : s.vm.findClass RX2 = some m.cls := hown
  have hl : lv_has ls 3 [(0, .ref q_this), (1, .int a_1), (2, .int a_2)] := hl
  unfold m_X2_addTie at hm
  refine lv_aload_n hx hb dX2_addTie_0 rfl (lv_at hl 0 rfl) ?_
  refine gf_X2_31 (v := .ref q_upper) hx hb hts hown hK hP 0 rfl rfl dX2_addTie_1 ?_
  refine lv_aload_n hx hb dX2_addTie_4 rfl (lv_at hl 0 rfl) ?_
  refine gf_X2_15 (v := .int f_ties) hx hb hts hown hK hP 0 rfl rfl dX2_addTie_5 ?_
  refine lv_iload_n hx hb dX2_addTie_8 rfl (lv_at hl 1 rfl) ?_
  refine w_iast hx hb hK hP hD hS 1 rfl hm dX2_addTie_9 (fun g_1 => [(q_this, .inr (2, [.int f_units, .int f_ties, .int f_digs, .int f_sights, .int f_events, .ref q_traits, .ref q_upper, .ref q_lower, .ref q_digRow, .ref q_heldUnit, .ref q_heldKind, .ref q_seenFirst, .ref q_seenSecond, .ref q_seenIs, .ref q_eventWhat, .ref q_eventUnit])), (q_upper, .inl (gI G, 40, .inl g_1)), (q_lower, .inl (gI G, 40, .inl f_lower))]) (fun _ => rfl) (fun g_1 H locs hm hP hD hS => ?_)
  refine lv_aload_n hx hb dX2_addTie_10 rfl (lv_at hl 0 rfl) ?_
  refine gf_X2_34 (v := .ref q_lower) hx hb hts hown hK hP 0 rfl rfl dX2_addTie_11 ?_
  refine lv_aload_n hx hb dX2_addTie_14 rfl (lv_at hl 0 rfl) ?_
  refine gf_X2_15 (v := .int f_ties) hx hb hts hown hK hP 0 rfl rfl dX2_addTie_15 ?_
  refine lv_iload_n hx hb dX2_addTie_18 rfl (lv_at hl 2 rfl) ?_
  refine w_iast hx hb hK hP hD hS 2 rfl hm dX2_addTie_19 (fun g_2 => [(q_this, .inr (2, [.int f_units, .int f_ties, .int f_digs, .int f_sights, .int f_events, .ref q_traits, .ref q_upper, .ref q_lower, .ref q_digRow, .ref q_heldUnit, .ref q_heldKind, .ref q_seenFirst, .ref q_seenSecond, .ref q_seenIs, .ref q_eventWhat, .ref q_eventUnit])), (q_upper, .inl (gI G, 40, .inl g_1)), (q_lower, .inl (gI G, 40, .inl g_2))]) (fun _ => rfl) (fun g_2 H locs hm hP hD hS => ?_)
  refine lv_aload_n hx hb dX2_addTie_20 rfl (lv_at hl 0 rfl) ?_
  refine lv_dup hx hb dX2_addTie_21 rfl ?_
  refine gf_X2_15 (v := .int f_ties) hx hb hts hown hK hP 0 rfl rfl dX2_addTie_22 ?_
  refine lv_iconst (v := 1) hx hb dX2_addTie_25 (by decide) ?_
  refine lv_iadd hx hb dX2_addTie_26 ?_
  refine pf_X2_15 (W1 := [(q_this, .inr (2, [.int f_units, .int (f_ties + (1 : Int32)), .int f_digs, .int f_sights, .int f_events, .ref q_traits, .ref q_upper, .ref q_lower, .ref q_digRow, .ref q_heldUnit, .ref q_heldKind, .ref q_seenFirst, .ref q_seenSecond, .ref q_seenIs, .ref q_eventWhat, .ref q_eventUnit])), (q_upper, .inl (gI G, 40, .inl g_1)), (q_lower, .inl (gI G, 40, .inl g_2))]) hx hb hts hown hK hP hD hS 0 rfl (Nat.le_of_ble_eq_true rfl) dX2_addTie_27 rfl (fun H locs hP hD hS => ?_)
  have hfin := fin _ _ ls _ _ (Option.some.inj hm) dX2_addTie_30 hP hD hS
  exact hfin
set_option maxHeartbeats 0 in
set_option maxRecDepth 100000 in
theorem c_X2_dropTie (G : GT) (l : Launch) (q_this : Nat) (f_units : Int32) (f_ties : Int32) (f_digs : Int32) (f_sights : Int32) (f_events : Int32) (q_traits : Nat) (q_digRow : Nat) (q_heldUnit : Nat) (q_heldKind : Nat) (q_seenFirst : Nat) (q_seenSecond : Nat) (q_seenIs : Nat) (q_eventWhat : Nat) (q_eventUnit : Nat) (q_upper : Nat) (f_upper : (Nat → Int32)) (q_lower : Nat) (f_lower : (Nat → Int32)) (a_1 : Int32) {res : Int32 × (Nat → Int32) × (Nat → Int32)} (hm : m_X2_dropTie f_ties f_upper f_lower a_1 = some res) : CT G l yX2_dropTie cX2_dropTie 3 none 0 0 [.ref q_this, .int a_1] [(q_this, .inr (2, [.int f_units, .int f_ties, .int f_digs, .int f_sights, .int f_events, .ref q_traits, .ref q_upper, .ref q_lower, .ref q_digRow, .ref q_heldUnit, .ref q_heldKind, .ref q_seenFirst, .ref q_seenSecond, .ref q_seenIs, .ref q_eventWhat, .ref q_eventUnit])), (q_upper, .inl (gI G, 40, .inl f_upper)), (q_lower, .inl (gI G, 40, .inl f_lower))] [(q_this, .inr (2, [.int f_units, .int res.1, .int f_digs, .int f_sights, .int f_events, .ref q_traits, .ref q_upper, .ref q_lower, .ref q_digRow, .ref q_heldUnit, .ref q_heldKind, .ref q_seenFirst, .ref q_seenSecond, .ref q_seenIs, .ref q_eventWhat, .ref q_eventUnit])), (q_upper, .inl (gI G, 40, .inl res.2.1)), (q_lower, .inl (gI G, 40, .inl res.2.2))] none := by
  refine ctV (G := G) (l := l) (y := yX2_dropTie) (cc := cX2_dropTie) (maxL := 3) (fr := 0) (lo := 0) (As := [.ref q_this, .int a_1]) (res := res) (fun res : Int32 × (Nat → Int32) × (Nat → Int32) => [(q_this, .inr (2, [.int f_units, .int res.1, .int f_digs, .int f_sights, .int f_events, .ref q_traits, .ref q_upper, .ref q_lower, .ref q_digRow, .ref q_heldUnit, .ref q_heldKind, .ref q_seenFirst, .ref q_seenSecond, .ref q_seenIs, .ref q_eventWhat, .ref q_eventUnit])), (q_upper, .inl (gI G, 40, .inl res.2.1)), (q_lower, .inl (gI G, 40, .inl res.2.2))]) (plainFor_of_name (by decide)) (Nat.le_of_ble_eq_true rfl) ?_
  intro p e s m below meth c A ls Q hx hb hml hown hts hK hG hA hP hD hS hl fin
  have hown : s.vm.findClass RX2 = some m.cls := hown
  have hl : lv_has ls 3 [(0, .ref q_this), (1, .int a_1)] := hl
  unfold m_X2_dropTie at hm
  refine lv_aload_n hx hb dX2_dropTie_0 rfl (lv_at hl 0 rfl) ?_
  refine lv_dup hx hb dX2_dropTie_1 rfl ?_
  refine gf_X2_15 (v := .int f_ties) hx hb hts hown hK hP 0 rfl rfl dX2_dropTie_2 ?_
  refine lv_iconst (v := 1) hx hb dX2_dropTie_5 (by decide) ?_
  refine lv_isub hx hb dX2_dropTie_6 ?_
  refine pf_X2_15 (W1 := [(q_this, .inr (2, [.int f_units, .int (f_ties - (1 : Int32)), .int f_digs, .int f_sights, .int f_events, .ref q_traits, .ref q_upper, .ref q_lower, .ref q_digRow, .ref q_heldUnit, .ref q_heldKind, .ref q_seenFirst, .ref q_seenSecond, .ref q_seenIs, .ref q_eventWhat, .ref q_eventUnit])), (q_upper, .inl (gI G, 40, .inl f_upper)), (q_lower, .inl (gI G, 40, .inl f_lower))]) hx hb hts hown hK hP hD hS 0 rfl (Nat.le_of_ble_eq_true rfl) dX2_dropTie_7 rfl (fun H locs hP hD hS => ?_)
  refine lv_iload_n hx hb dX2_dropTie_10 rfl (lv_at hl 1 rfl) ?_
  refine lv_istore_n (lv' := [(2, .int a_1), (0, .ref q_this), (1, .int a_1)]) hx hb dX2_dropTie_11 rfl hl (by decide) rfl (fun ls hl => ?_)
  have hL_12 : ∀ (k_12 : Int32 → (Nat → Int32) → (Nat → Int32) → Option (Int32 × (Nat → Int32) × (Nat → Int32))), (∀ (x2_12 : Int32) (y_f_upper_12 : (Nat → Int32)) (y_f_lower_12 : (Nat → Int32)) (H : Heap) (locs : List Loc) (ls : Array Slot), k_12 x2_12 y_f_upper_12 y_f_lower_12 = some res → va_P (gD G) vwCl [(q_this, .inr (2, [.int f_units, .int (f_ties - (1 : Int32)), .int f_digs, .int f_sights, .int f_events, .ref q_traits, .ref q_upper, .ref q_lower, .ref q_digRow, .ref q_heldUnit, .ref q_heldKind, .ref q_seenFirst, .ref q_seenSecond, .ref q_seenIs, .ref q_eventWhat, .ref q_eventUnit])), (q_upper, .inl (gI G, 40, .inl y_f_upper_12)), (q_lower, .inl (gI G, 40, .inl y_f_lower_12))] H → va_D A [(q_this, .inr (2, [.int f_units, .int (f_ties - (1 : Int32)), .int f_digs, .int f_sights, .int f_events, .ref q_traits, .ref q_upper, .ref q_lower, .ref q_digRow, .ref q_heldUnit, .ref q_heldKind, .ref q_seenFirst, .ref q_seenSecond, .ref q_seenIs, .ref q_eventWhat, .ref q_eventUnit])), (q_upper, .inl (gI G, 40, .inl y_f_upper_12)), (q_lower, .inl (gI G, 40, .inl y_f_lower_12))] → va_S A s.heap H locs → lv_has ls 3 [] → W p l e { frames := 0, cells := 0, slots := 0, locals := 0 } s m ([.ref q_this, .int a_1] : List Value).toArray below meth c H locs 0 0 Q (F0 m 54 ls [])) → ∀ (n_12 : Nat) (x2_12 : Int32) (y_f_upper_12 : (Nat → Int32)) (y_f_lower_12 : (Nat → Int32)) (H : Heap) (locs : List Loc) (ls : Array Slot), m_X2_dropTie_L12 f_ties n_12 x2_12 y_f_upper_12 y_f_lower_12 k_12 = some res → va_P (gD G) vwCl [(q_this, .inr (2, [.int f_units, .int (f_ties - (1 : Int32)), .int f_digs, .int f_sights, .int f_events, .ref q_traits, .ref q_upper, .ref q_lower, .ref q_digRow, .ref q_heldUnit, .ref q_heldKind, .ref q_seenFirst, .ref q_seenSecond, .ref q_seenIs, .ref q_eventWhat, .ref q_eventUnit])), (q_upper, .inl (gI G, 40, .inl y_f_upper_12)), (q_lower, .inl (gI G, 40, .inl y_f_lower_12))] H → va_D A [(q_this, .inr (2, [.int f_units, .int (f_ties - (1 : Int32)), .int f_digs, .int f_sights, .int f_events, .ref q_traits, .ref q_upper, .ref q_lower, .ref q_digRow, .ref q_heldUnit, .ref q_heldKind, .ref q_seenFirst, .ref q_seenSecond, .ref q_seenIs, .ref q_eventWhat, .ref q_eventUnit])), (q_upper, .inl (gI G, 40, .inl y_f_upper_12)), (q_lower, .inl (gI G, 40, .inl y_f_lower_12))] → va_S A s.heap H locs → lv_has ls 3 [(0, .ref q_this), (2, .int x2_12)] → W p l e { frames := 0, cells := 0, slots := 0, locals := 0 } s m ([.ref q_this, .int a_1] : List Value).toArray below meth c H locs 0 0 Q (F0 m 12 ls []) := by
    intro k_12 hk_12 n_12
    induction n_12 with
    | zero =>
      intro x2_12 y_f_upper_12 y_f_lower_12 H locs ls hm
      rw [m_X2_dropTie_L12] at hm
      cases hm
    | succ n_12 ih_12 =>
      intro x2_12 y_f_upper_12 y_f_lower_12 H locs ls hm hP hD hS hl
      rw [m_X2_dropTie_L12] at hm
      refine lv_iload_n hx hb dX2_dropTie_12 rfl (lv_at hl 1 rfl) ?_
      refine lv_aload_n hx hb dX2_dropTie_13 rfl (lv_at hl 0 rfl) ?_
      refine gf_X2_15 (v := .int (f_ties - (1 : Int32))) hx hb hts hown hK hP 0 rfl rfl dX2_dropTie_14 ?_
      refine ic_ge (tgt := 54) hx hb dX2_dropTie_17 (by decide) hm (fun hm => ?_) (fun hm => ?_)
      · exact hk_12 x2_12 y_f_upper_12 y_f_lower_12 _ _ _ hm hP hD hS (lv_sub hl [] rfl)
      refine lv_aload_n hx hb dX2_dropTie_20 rfl (lv_at hl 0 rfl) ?_
      refine gf_X2_31 (v := .ref q_upper) hx hb hts hown hK hP 0 rfl rfl dX2_dropTie_21 ?_
      refine lv_iload_n hx hb dX2_dropTie_24 rfl (lv_at hl 1 rfl) ?_
      refine lv_aload_n hx hb dX2_dropTie_25 rfl (lv_at hl 0 rfl) ?_
      refine gf_X2_31 (v := .ref q_upper) hx hb hts hown hK hP 0 rfl rfl dX2_dropTie_26 ?_
      refine lv_iload_n hx hb dX2_dropTie_29 rfl (lv_at hl 1 rfl) ?_
      refine lv_iconst (v := 1) hx hb dX2_dropTie_30 (by decide) ?_
      refine lv_iadd hx hb dX2_dropTie_31 ?_
      refine w_iald hx hb hK hP 1 rfl hm dX2_dropTie_32 (fun v_1 hm => ?_)
      refine w_iast hx hb hK hP hD hS 1 rfl hm dX2_dropTie_33 (fun g_2 => [(q_this, .inr (2, [.int f_units, .int (f_ties - (1 : Int32)), .int f_digs, .int f_sights, .int f_events, .ref q_traits, .ref q_upper, .ref q_lower, .ref q_digRow, .ref q_heldUnit, .ref q_heldKind, .ref q_seenFirst, .ref q_seenSecond, .ref q_seenIs, .ref q_eventWhat, .ref q_eventUnit])), (q_upper, .inl (gI G, 40, .inl g_2)), (q_lower, .inl (gI G, 40, .inl y_f_lower_12))]) (fun _ => rfl) (fun g_2 H locs hm hP hD hS => ?_)
      refine lv_aload_n hx hb dX2_dropTie_34 rfl (lv_at hl 0 rfl) ?_
      refine gf_X2_34 (v := .ref q_lower) hx hb hts hown hK hP 0 rfl rfl dX2_dropTie_35 ?_
      refine lv_iload_n hx hb dX2_dropTie_38 rfl (lv_at hl 1 rfl) ?_
      refine lv_aload_n hx hb dX2_dropTie_39 rfl (lv_at hl 0 rfl) ?_
      refine gf_X2_34 (v := .ref q_lower) hx hb hts hown hK hP 0 rfl rfl dX2_dropTie_40 ?_
      refine lv_iload_n hx hb dX2_dropTie_43 rfl (lv_at hl 1 rfl) ?_
      refine lv_iconst (v := 1) hx hb dX2_dropTie_44 (by decide) ?_
      refine lv_iadd hx hb dX2_dropTie_45 ?_
      refine w_iald hx hb hK hP 2 rfl hm dX2_dropTie_46 (fun v_3 hm => ?_)
      refine w_iast hx hb hK hP hD hS 2 rfl hm dX2_dropTie_47 (fun g_4 => [(q_this, .inr (2, [.int f_units, .int (f_ties - (1 : Int32)), .int f_digs, .int f_sights, .int f_events, .ref q_traits, .ref q_upper, .ref q_lower, .ref q_digRow, .ref q_heldUnit, .ref q_heldKind, .ref q_seenFirst, .ref q_seenSecond, .ref q_seenIs, .ref q_eventWhat, .ref q_eventUnit])), (q_upper, .inl (gI G, 40, .inl g_2)), (q_lower, .inl (gI G, 40, .inl g_4))]) (fun _ => rfl) (fun g_4 H locs hm hP hD hS => ?_)
      refine lv_iinc (v := (x2_12 + (1 : Int32))) (lv' := [(2, .int (x2_12 + (1 : Int32))), (0, .ref q_this)]) hx hb dX2_dropTie_48 hl (k := 1) rfl rfl (by decide) rfl (fun ls hl => ?_)
      refine lv_goto (tgt := 12) hx hb dX2_dropTie_51 (by decide) ?_
      exact ih_12 (x2_12 + (1 : Int32)) g_2 g_4 _ _ _ hm hP hD hS (lv_sub hl [1, 0] rfl)
  refine hL_12 _ ?_ FU a_1 f_upper f_lower _ _ _ hm hP hD hS (lv_sub hl [1, 0] rfl)
  intro x2_12 y_f_upper_12 y_f_lower_12 H locs ls hm hP hD hS hl
  have hfin := fin _ _ ls _ _ (Option.some.inj hm) dX2_dropTie_54 hP hD hS
  exact hfin
set_option maxHeartbeats 0 in
set_option maxRecDepth 100000 in
theorem c_X2_dropTiesFrom (G : GT) (l : Launch) (q_this : Nat) (f_units : Int32) (f_ties : Int32) (f_digs : Int32) (f_sights : Int32) (f_events : Int32) (q_traits : Nat) (q_digRow : Nat) (q_heldUnit : Nat) (q_heldKind : Nat) (q_seenFirst : Nat) (q_seenSecond : Nat) (q_seenIs : Nat) (q_eventWhat : Nat) (q_eventUnit : Nat) (q_upper : Nat) (f_upper : (Nat → Int32)) (q_lower : Nat) (f_lower : (Nat → Int32)) (a_1 : Int32) {res : Int32 × (Nat → Int32) × (Nat → Int32)} (hm : m_X2_dropTiesFrom f_ties f_upper f_lower a_1 = some res) : CT G l yX2_dropTiesFrom cX2_dropTiesFrom 3 none 1 22 [.ref q_this, .int a_1] [(q_this, .inr (2, [.int f_units, .int f_ties, .int f_digs, .int f_sights, .int f_events, .ref q_traits, .ref q_upper, .ref q_lower, .ref q_digRow, .ref q_heldUnit, .ref q_heldKind, .ref q_seenFirst, .ref q_seenSecond, .ref q_seenIs, .ref q_eventWhat, .ref q_eventUnit])), (q_upper, .inl (gI G, 40, .inl f_upper)), (q_lower, .inl (gI G, 40, .inl f_lower))] [(q_this, .inr (2, [.int f_units, .int res.1, .int f_digs, .int f_sights, .int f_events, .ref q_traits, .ref q_upper, .ref q_lower, .ref q_digRow, .ref q_heldUnit, .ref q_heldKind, .ref q_seenFirst, .ref q_seenSecond, .ref q_seenIs, .ref q_eventWhat, .ref q_eventUnit])), (q_upper, .inl (gI G, 40, .inl res.2.1)), (q_lower, .inl (gI G, 40, .inl res.2.2))] none := by
  refine ctV (G := G) (l := l) (y := yX2_dropTiesFrom) (cc := cX2_dropTiesFrom) (maxL := 3) (fr := 1) (lo := 22) (As := [.ref q_this, .int a_1]) (res := res) (fun res : Int32 × (Nat → Int32) × (Nat → Int32) => [(q_this, .inr (2, [.int f_units, .int res.1, .int f_digs, .int f_sights, .int f_events, .ref q_traits, .ref q_upper, .ref q_lower, .ref q_digRow, .ref q_heldUnit, .ref q_heldKind, .ref q_seenFirst, .ref q_seenSecond, .ref q_seenIs, .ref q_eventWhat, .ref q_eventUnit])), (q_upper, .inl (gI G, 40, .inl res.2.1)), (q_lower, .inl (gI G, 40, .inl res.2.2))]) (plainFor_of_name (by decide)) (Nat.le_of_ble_eq_true rfl) ?_
  intro p e s m below meth c A ls Q hx hb hml hown hts hK hG hA hP hD hS hl fin
  have hown : s.vm.findClass RX2 = some m.cls := hown
  have hl : lv_has ls 3 [(0, .ref q_this), (1, .int a_1)] := hl
  unfold m_X2_dropTiesFrom at hm
  refine lv_aload_n hx hb dX2_dropTiesFrom_0 rfl (lv_at hl 0 rfl) ?_
  refine gf_X2_15 (v := .int f_ties) hx hb hts hown hK hP 0 rfl rfl dX2_dropTiesFrom_1 ?_
  refine lv_iconst (v := 1) hx hb dX2_dropTiesFrom_4 (by decide) ?_
  refine lv_isub hx hb dX2_dropTiesFrom_5 ?_
  refine lv_istore_n (lv' := [(2, .int (f_ties - (1 : Int32))), (0, .ref q_this), (1, .int a_1)]) hx hb dX2_dropTiesFrom_6 rfl hl (by decide) rfl (fun ls hl => ?_)
  have hL_7 : ∀ (k_7 : Int32 → Int32 → (Nat → Int32) → (Nat → Int32) → Option (Int32 × (Nat → Int32) × (Nat → Int32))), (∀ (x2_7 : Int32) (y_f_ties_7 : Int32) (y_f_upper_7 : (Nat → Int32)) (y_f_lower_7 : (Nat → Int32)) (H : Heap) (locs : List Loc) (ls : Array Slot), k_7 x2_7 y_f_ties_7 y_f_upper_7 y_f_lower_7 = some res → va_P (gD G) vwCl [(q_this, .inr (2, [.int f_units, .int y_f_ties_7, .int f_digs, .int f_sights, .int f_events, .ref q_traits, .ref q_upper, .ref q_lower, .ref q_digRow, .ref q_heldUnit, .ref q_heldKind, .ref q_seenFirst, .ref q_seenSecond, .ref q_seenIs, .ref q_eventWhat, .ref q_eventUnit])), (q_upper, .inl (gI G, 40, .inl y_f_upper_7)), (q_lower, .inl (gI G, 40, .inl y_f_lower_7))] H → va_D A [(q_this, .inr (2, [.int f_units, .int y_f_ties_7, .int f_digs, .int f_sights, .int f_events, .ref q_traits, .ref q_upper, .ref q_lower, .ref q_digRow, .ref q_heldUnit, .ref q_heldKind, .ref q_seenFirst, .ref q_seenSecond, .ref q_seenIs, .ref q_eventWhat, .ref q_eventUnit])), (q_upper, .inl (gI G, 40, .inl y_f_upper_7)), (q_lower, .inl (gI G, 40, .inl y_f_lower_7))] → va_S A s.heap H locs → lv_has ls 3 [] → W p l e { frames := 1, cells := 0, slots := 0, locals := 22 } s m ([.ref q_this, .int a_1] : List Value).toArray below meth c H locs 0 0 Q (F0 m 32 ls [])) → ∀ (n_7 : Nat) (x2_7 : Int32) (y_f_ties_7 : Int32) (y_f_upper_7 : (Nat → Int32)) (y_f_lower_7 : (Nat → Int32)) (H : Heap) (locs : List Loc) (ls : Array Slot), m_X2_dropTiesFrom_L7 a_1 n_7 x2_7 y_f_ties_7 y_f_upper_7 y_f_lower_7 k_7 = some res → va_P (gD G) vwCl [(q_this, .inr (2, [.int f_units, .int y_f_ties_7, .int f_digs, .int f_sights, .int f_events, .ref q_traits, .ref q_upper, .ref q_lower, .ref q_digRow, .ref q_heldUnit, .ref q_heldKind, .ref q_seenFirst, .ref q_seenSecond, .ref q_seenIs, .ref q_eventWhat, .ref q_eventUnit])), (q_upper, .inl (gI G, 40, .inl y_f_upper_7)), (q_lower, .inl (gI G, 40, .inl y_f_lower_7))] H → va_D A [(q_this, .inr (2, [.int f_units, .int y_f_ties_7, .int f_digs, .int f_sights, .int f_events, .ref q_traits, .ref q_upper, .ref q_lower, .ref q_digRow, .ref q_heldUnit, .ref q_heldKind, .ref q_seenFirst, .ref q_seenSecond, .ref q_seenIs, .ref q_eventWhat, .ref q_eventUnit])), (q_upper, .inl (gI G, 40, .inl y_f_upper_7)), (q_lower, .inl (gI G, 40, .inl y_f_lower_7))] → va_S A s.heap H locs → lv_has ls 3 [(0, .ref q_this), (1, .int a_1), (2, .int x2_7)] → W p l e { frames := 1, cells := 0, slots := 0, locals := 22 } s m ([.ref q_this, .int a_1] : List Value).toArray below meth c H locs 0 0 Q (F0 m 7 ls []) := by
    intro k_7 hk_7 n_7
    induction n_7 with
    | zero =>
      intro x2_7 y_f_ties_7 y_f_upper_7 y_f_lower_7 H locs ls hm
      rw [m_X2_dropTiesFrom_L7] at hm
      cases hm
    | succ n_7 ih_7 =>
      intro x2_7 y_f_ties_7 y_f_upper_7 y_f_lower_7 H locs ls hm hP hD hS hl
      rw [m_X2_dropTiesFrom_L7] at hm
      refine lv_iload_n hx hb dX2_dropTiesFrom_7 rfl (lv_at hl 2 rfl) ?_
      refine if_lt (tgt := 32) hx hb dX2_dropTiesFrom_8 (by decide) hm (fun hm => ?_) (fun hm => ?_)
      · exact hk_7 x2_7 y_f_ties_7 y_f_upper_7 y_f_lower_7 _ _ _ hm hP hD hS (lv_sub hl [] rfl)
      refine lv_aload_n hx hb dX2_dropTiesFrom_11 rfl (lv_at hl 0 rfl) ?_
      refine gf_X2_31 (v := .ref q_upper) hx hb hts hown hK hP 0 rfl rfl dX2_dropTiesFrom_12 ?_
      refine lv_iload_n hx hb dX2_dropTiesFrom_15 rfl (lv_at hl 2 rfl) ?_
      refine w_iald hx hb hK hP 1 rfl hm dX2_dropTiesFrom_16 (fun v_1 hm => ?_)
      refine lv_iload_n hx hb dX2_dropTiesFrom_17 rfl (lv_at hl 1 rfl) ?_
      refine ic_ne (tgt := 26) hx hb dX2_dropTiesFrom_18 (by decide) hm (fun hm => ?_) (fun hm => ?_)
      · refine lv_iinc (v := (x2_7 + (-1 : Int32))) (lv' := [(2, .int (x2_7 + (-1 : Int32))), (0, .ref q_this), (1, .int a_1)]) hx hb dX2_dropTiesFrom_26 hl (k := 2) rfl rfl (by decide) rfl (fun ls hl => ?_)
        refine lv_goto (tgt := 7) hx hb dX2_dropTiesFrom_29 (by decide) ?_
        exact ih_7 (x2_7 + (-1 : Int32)) y_f_ties_7 y_f_upper_7 y_f_lower_7 _ _ _ hm hP hD hS (lv_sub hl [1, 2, 0] rfl)
      refine lv_aload_n hx hb dX2_dropTiesFrom_21 rfl (lv_at hl 0 rfl) ?_
      refine lv_iload_n hx hb dX2_dropTiesFrom_22 rfl (lv_at hl 2 rfl) ?_
      obtain ⟨r_2, h_3, hm⟩ := cl_elim hm
      refine w_callV (As := [.int x2_7]) (rest := []) (wr := []) (W1 := [(q_this, .inr (2, [.int f_units, .int r_2.1, .int f_digs, .int f_sights, .int f_events, .ref q_traits, .ref q_upper, .ref q_lower, .ref q_digRow, .ref q_heldUnit, .ref q_heldKind, .ref q_seenFirst, .ref q_seenSecond, .ref q_seenIs, .ref q_eventWhat, .ref q_eventUnit])), (q_upper, .inl (gI G, 40, .inl r_2.2.1)), (q_lower, .inl (gI G, 40, .inl r_2.2.2))]) (ci := 2) (q0 := 0) hx hb hml hown hts hK hG hP hD hS hA (c_X2_dropTie G l q_this f_units y_f_ties_7 f_digs f_sights f_events q_traits q_digRow q_heldUnit q_heldKind q_seenFirst q_seenSecond q_seenIs q_eventWhat q_eventUnit q_upper y_f_upper_7 q_lower y_f_lower_7 x2_7 h_3) kc_X2_dropTie ki_X2_dropTie bw903 rfl rfl rfl hl.1 rfl (Nat.le_of_ble_eq_true rfl) dX2_dropTiesFrom_23 (Nat.le_of_ble_eq_true rfl) (Nat.le_of_ble_eq_true rfl) ⟨Nat.le_refl _, Nat.le_refl _⟩ [0, 1, 2] [] [0, 1, 2] rfl rfl rfl rfl (by decide) rfl rfl (fun H locs hP hD hS => ?_)
      refine lv_iinc (v := (x2_7 + (-1 : Int32))) (lv' := [(2, .int (x2_7 + (-1 : Int32))), (0, .ref q_this), (1, .int a_1)]) hx hb dX2_dropTiesFrom_26 hl (k := 2) rfl rfl (by decide) rfl (fun ls hl => ?_)
      refine lv_goto (tgt := 7) hx hb dX2_dropTiesFrom_29 (by decide) ?_
      exact ih_7 (x2_7 + (-1 : Int32)) r_2.1 r_2.2.1 r_2.2.2 _ _ _ hm hP hD hS (lv_sub hl [1, 2, 0] rfl)
  refine hL_7 _ ?_ FU (f_ties - (1 : Int32)) f_ties f_upper f_lower _ _ _ hm hP hD hS (lv_sub hl [1, 2, 0] rfl)
  intro x2_7 y_f_ties_7 y_f_upper_7 y_f_lower_7 H locs ls hm hP hD hS hl
  have hfin := fin _ _ ls _ _ (Option.some.inj hm) dX2_dropTiesFrom_32 hP hD hS
  exact hfin
set_option maxHeartbeats 0 in
set_option maxRecDepth 100000 in
theorem c_X2_dugUnits (G : GT) (l : Launch) (q_this : Nat) (f_units : Int32) (f_ties : Int32) (f_digs : Int32) (f_sights : Int32) (f_events : Int32) (q_traits : Nat) (q_upper : Nat) (q_lower : Nat) (q_heldUnit : Nat) (q_heldKind : Nat) (q_seenFirst : Nat) (q_seenSecond : Nat) (q_seenIs : Nat) (q_eventWhat : Nat) (q_eventUnit : Nat) (q_digRow : Nat) (f_digRow : (Nat → Int32)) {res : Int32} (hm : m_X2_dugUnits f_digs f_digRow = some res) : CT G l yX2_dugUnits cX2_dugUnits 3 (some .int) 0 0 [.ref q_this] [(q_this, .inr (2, [.int f_units, .int f_ties, .int f_digs, .int f_sights, .int f_events, .ref q_traits, .ref q_upper, .ref q_lower, .ref q_digRow, .ref q_heldUnit, .ref q_heldKind, .ref q_seenFirst, .ref q_seenSecond, .ref q_seenIs, .ref q_eventWhat, .ref q_eventUnit])), (q_digRow, .inl (gI G, 12, .inl f_digRow))] [(q_this, .inr (2, [.int f_units, .int f_ties, .int f_digs, .int f_sights, .int f_events, .ref q_traits, .ref q_upper, .ref q_lower, .ref q_digRow, .ref q_heldUnit, .ref q_heldKind, .ref q_seenFirst, .ref q_seenSecond, .ref q_seenIs, .ref q_eventWhat, .ref q_eventUnit])), (q_digRow, .inl (gI G, 12, .inl f_digRow))] (some (.int res)) := by
  refine ctI (G := G) (l := l) (y := yX2_dugUnits) (cc := cX2_dugUnits) (maxL := 3) (fr := 0) (lo := 0) (As := [.ref q_this]) (res := res) (fun res : Int32 => [(q_this, .inr (2, [.int f_units, .int f_ties, .int f_digs, .int f_sights, .int f_events, .ref q_traits, .ref q_upper, .ref q_lower, .ref q_digRow, .ref q_heldUnit, .ref q_heldKind, .ref q_seenFirst, .ref q_seenSecond, .ref q_seenIs, .ref q_eventWhat, .ref q_eventUnit])), (q_digRow, .inl (gI G, 12, .inl f_digRow))]) (fun res : Int32 => res) (plainFor_of_name (by decide)) (Nat.le_of_ble_eq_true rfl) ?_
  intro p e s m below meth c A ls Q hx hb hml hown hts hK hG hA hP hD hS hl fin
  have hown : s.vm.findClass RX2 = some m.cls := hown
  have hl : lv_has ls 3 [(0, .ref q_this)] := hl
  unfold m_X2_dugUnits at hm
  refine lv_iconst (v := 0) hx hb dX2_dugUnits_0 (by decide) ?_
  refine lv_istore_n (lv' := [(1, .int (0 : Int32)), (0, .ref q_this)]) hx hb dX2_dugUnits_1 rfl hl (by decide) rfl (fun ls hl => ?_)
  refine lv_iconst (v := 0) hx hb dX2_dugUnits_2 (by decide) ?_
  refine lv_istore_n (lv' := [(2, .int (0 : Int32)), (1, .int (0 : Int32)), (0, .ref q_this)]) hx hb dX2_dugUnits_3 rfl hl (by decide) rfl (fun ls hl => ?_)
  have hL_4 : ∀ (k_4 : Int32 → Int32 → Option Int32), (∀ (x1_4 : Int32) (x2_4 : Int32) (H : Heap) (locs : List Loc) (ls : Array Slot), k_4 x1_4 x2_4 = some res → va_P (gD G) vwCl [(q_this, .inr (2, [.int f_units, .int f_ties, .int f_digs, .int f_sights, .int f_events, .ref q_traits, .ref q_upper, .ref q_lower, .ref q_digRow, .ref q_heldUnit, .ref q_heldKind, .ref q_seenFirst, .ref q_seenSecond, .ref q_seenIs, .ref q_eventWhat, .ref q_eventUnit])), (q_digRow, .inl (gI G, 12, .inl f_digRow))] H → va_D A [(q_this, .inr (2, [.int f_units, .int f_ties, .int f_digs, .int f_sights, .int f_events, .ref q_traits, .ref q_upper, .ref q_lower, .ref q_digRow, .ref q_heldUnit, .ref q_heldKind, .ref q_seenFirst, .ref q_seenSecond, .ref q_seenIs, .ref q_eventWhat, .ref q_eventUnit])), (q_digRow, .inl (gI G, 12, .inl f_digRow))] → va_S A s.heap H locs → lv_has ls 3 [(1, .int x1_4)] → W p l e { frames := 0, cells := 0, slots := 0, locals := 0 } s m ([.ref q_this] : List Value).toArray below meth c H locs 0 0 Q (F0 m 29 ls [])) → ∀ (n_4 : Nat) (x1_4 : Int32) (x2_4 : Int32) (H : Heap) (locs : List Loc) (ls : Array Slot), m_X2_dugUnits_L4 f_digs f_digRow n_4 x1_4 x2_4 k_4 = some res → va_P (gD G) vwCl [(q_this, .inr (2, [.int f_units, .int f_ties, .int f_digs, .int f_sights, .int f_events, .ref q_traits, .ref q_upper, .ref q_lower, .ref q_digRow, .ref q_heldUnit, .ref q_heldKind, .ref q_seenFirst, .ref q_seenSecond, .ref q_seenIs, .ref q_eventWhat, .ref q_eventUnit])), (q_digRow, .inl (gI G, 12, .inl f_digRow))] H → va_D A [(q_this, .inr (2, [.int f_units, .int f_ties, .int f_digs, .int f_sights, .int f_events, .ref q_traits, .ref q_upper, .ref q_lower, .ref q_digRow, .ref q_heldUnit, .ref q_heldKind, .ref q_seenFirst, .ref q_seenSecond, .ref q_seenIs, .ref q_eventWhat, .ref q_eventUnit])), (q_digRow, .inl (gI G, 12, .inl f_digRow))] → va_S A s.heap H locs → lv_has ls 3 [(0, .ref q_this), (1, .int x1_4), (2, .int x2_4)] → W p l e { frames := 0, cells := 0, slots := 0, locals := 0 } s m ([.ref q_this] : List Value).toArray below meth c H locs 0 0 Q (F0 m 4 ls []) := by
    intro k_4 hk_4 n_4
    induction n_4 with
    | zero =>
      intro x1_4 x2_4 H locs ls hm
      rw [m_X2_dugUnits_L4] at hm
      cases hm
    | succ n_4 ih_4 =>
      intro x1_4 x2_4 H locs ls hm hP hD hS hl
      rw [m_X2_dugUnits_L4] at hm
      refine lv_iload_n hx hb dX2_dugUnits_4 rfl (lv_at hl 2 rfl) ?_
      refine lv_aload_n hx hb dX2_dugUnits_5 rfl (lv_at hl 0 rfl) ?_
      refine gf_X2_18 (v := .int f_digs) hx hb hts hown hK hP 0 rfl rfl dX2_dugUnits_6 ?_
      refine ic_ge (tgt := 29) hx hb dX2_dugUnits_9 (by decide) hm (fun hm => ?_) (fun hm => ?_)
      · exact hk_4 x1_4 x2_4 _ _ _ hm hP hD hS (lv_sub hl [1] rfl)
      refine lv_iload_n hx hb dX2_dugUnits_12 rfl (lv_at hl 1 rfl) ?_
      refine lv_iconst (v := 1) hx hb dX2_dugUnits_13 (by decide) ?_
      refine lv_aload_n hx hb dX2_dugUnits_14 rfl (lv_at hl 0 rfl) ?_
      refine gf_X2_37 (v := .ref q_digRow) hx hb hts hown hK hP 0 rfl rfl dX2_dugUnits_15 ?_
      refine lv_iload_n hx hb dX2_dugUnits_18 rfl (lv_at hl 2 rfl) ?_
      refine w_iald hx hb hK hP 1 rfl hm dX2_dugUnits_19 (fun v_1 hm => ?_)
      refine lv_ishl hx hb dX2_dugUnits_20 ?_
      refine lv_ior hx hb dX2_dugUnits_21 ?_
      refine nmi hm (fun v_2 hm => ?_)
      refine lv_istore_n (lv' := [(1, .int v_2), (0, .ref q_this), (2, .int x2_4)]) hx hb dX2_dugUnits_22 rfl hl (by decide) rfl (fun ls hl => ?_)
      refine lv_iinc (v := (x2_4 + (1 : Int32))) (lv' := [(2, .int (x2_4 + (1 : Int32))), (1, .int v_2), (0, .ref q_this)]) hx hb dX2_dugUnits_23 hl (k := 2) rfl rfl (by decide) rfl (fun ls hl => ?_)
      refine lv_goto (tgt := 4) hx hb dX2_dugUnits_26 (by decide) ?_
      exact ih_4 v_2 (x2_4 + (1 : Int32)) _ _ _ hm hP hD hS (lv_sub hl [2, 1, 0] rfl)
  refine hL_4 _ ?_ FU (0 : Int32) (0 : Int32) _ _ _ hm hP hD hS (lv_sub hl [2, 1, 0] rfl)
  intro x1_4 x2_4 H locs ls hm hP hD hS hl
  refine lv_iload_n hx hb dX2_dugUnits_29 rfl (lv_at hl 0 rfl) ?_
  have hfin := fin _ _ ls _ _ (Option.some.inj hm) dX2_dugUnits_30 hP hD hS
  exact hfin
set_option maxHeartbeats 0 in
set_option maxRecDepth 100000 in
theorem c_X2_isDug (G : GT) (l : Launch) (q_this : Nat) (f_units : Int32) (f_ties : Int32) (f_digs : Int32) (f_sights : Int32) (f_events : Int32) (q_traits : Nat) (q_upper : Nat) (q_lower : Nat) (q_heldUnit : Nat) (q_heldKind : Nat) (q_seenFirst : Nat) (q_seenSecond : Nat) (q_seenIs : Nat) (q_eventWhat : Nat) (q_eventUnit : Nat) (q_digRow : Nat) (f_digRow : (Nat → Int32)) (a_1 : Int32) {res : Int32} (hm : m_X2_isDug f_digs f_digRow a_1 = some res) : CT G l yX2_isDug cX2_isDug 2 (some .boolean) 1 22 [.ref q_this, .int a_1] [(q_this, .inr (2, [.int f_units, .int f_ties, .int f_digs, .int f_sights, .int f_events, .ref q_traits, .ref q_upper, .ref q_lower, .ref q_digRow, .ref q_heldUnit, .ref q_heldKind, .ref q_seenFirst, .ref q_seenSecond, .ref q_seenIs, .ref q_eventWhat, .ref q_eventUnit])), (q_digRow, .inl (gI G, 12, .inl f_digRow))] [(q_this, .inr (2, [.int f_units, .int f_ties, .int f_digs, .int f_sights, .int f_events, .ref q_traits, .ref q_upper, .ref q_lower, .ref q_digRow, .ref q_heldUnit, .ref q_heldKind, .ref q_seenFirst, .ref q_seenSecond, .ref q_seenIs, .ref q_eventWhat, .ref q_eventUnit])), (q_digRow, .inl (gI G, 12, .inl f_digRow))] (some (.int res)) := by
  refine ctZ (G := G) (l := l) (y := yX2_isDug) (cc := cX2_isDug) (maxL := 2) (fr := 1) (lo := 22) (As := [.ref q_this, .int a_1]) (res := res) (fun res : Int32 => [(q_this, .inr (2, [.int f_units, .int f_ties, .int f_digs, .int f_sights, .int f_events, .ref q_traits, .ref q_upper, .ref q_lower, .ref q_digRow, .ref q_heldUnit, .ref q_heldKind, .ref q_seenFirst, .ref q_seenSecond, .ref q_seenIs, .ref q_eventWhat, .ref q_eventUnit])), (q_digRow, .inl (gI G, 12, .inl f_digRow))]) (fun res : Int32 => res) (plainFor_of_name (by decide)) (Nat.le_of_ble_eq_true rfl) ?_
  intro p e s m below meth c A ls Q hx hb hml hown hts hK hG hA hP hD hS hl fin
  have hown : s.vm.findClass RX2 = some m.cls := hown
  have hl : lv_has ls 2 [(0, .ref q_this), (1, .int a_1)] := hl
  unfold m_X2_isDug at hm
  refine lv_aload_n hx hb dX2_isDug_0 rfl (lv_at hl 0 rfl) ?_
  obtain ⟨r_1, h_2, hm⟩ := cl_elim hm
  refine w_callV (As := []) (rest := []) (wr := []) (W1 := [(q_this, .inr (2, [.int f_units, .int f_ties, .int f_digs, .int f_sights, .int f_events, .ref q_traits, .ref q_upper, .ref q_lower, .ref q_digRow, .ref q_heldUnit, .ref q_heldKind, .ref q_seenFirst, .ref q_seenSecond, .ref q_seenIs, .ref q_eventWhat, .ref q_eventUnit])), (q_digRow, .inl (gI G, 12, .inl f_digRow))]) (ci := 2) (q0 := 0) hx hb hml hown hts hK hG hP hD hS hA (c_X2_dugUnits G l q_this f_units f_ties f_digs f_sights f_events q_traits q_upper q_lower q_heldUnit q_heldKind q_seenFirst q_seenSecond q_seenIs q_eventWhat q_eventUnit q_digRow f_digRow h_2) kc_X2_dugUnits ki_X2_dugUnits bw391 rfl rfl rfl hl.1 rfl (Nat.le_of_ble_eq_true rfl) dX2_isDug_1 (Nat.le_of_ble_eq_true rfl) (Nat.le_of_ble_eq_true rfl) ⟨Nat.le_refl _, Nat.le_refl _⟩ [0, 1] [] [0, 1] rfl rfl rfl rfl (by decide) rfl rfl (fun H locs hP hD hS => ?_)
  refine lv_iload_n hx hb dX2_isDug_4 rfl (lv_at hl 1 rfl) ?_
  obtain ⟨r_3, h_4, hm⟩ := cl_elim hm
  refine w_callN (As := [.int r_1, .int a_1]) (rest := []) (wr := [(q_this, .inr (2, [.int f_units, .int f_ties, .int f_digs, .int f_sights, .int f_events, .ref q_traits, .ref q_upper, .ref q_lower, .ref q_digRow, .ref q_heldUnit, .ref q_heldKind, .ref q_seenFirst, .ref q_seenSecond, .ref q_seenIs, .ref q_eventWhat, .ref q_eventUnit])), (q_digRow, .inl (gI G, 12, .inl f_digRow))]) (W1 := [(q_this, .inr (2, [.int f_units, .int f_ties, .int f_digs, .int f_sights, .int f_events, .ref q_traits, .ref q_upper, .ref q_lower, .ref q_digRow, .ref q_heldUnit, .ref q_heldKind, .ref q_seenFirst, .ref q_seenSecond, .ref q_seenIs, .ref q_eventWhat, .ref q_eventUnit])), (q_digRow, .inl (gI G, 12, .inl f_digRow))]) (host := "DigOrder") hx hb hml hown hts hK hG hP hD hS hA (c_X7_hasBit G l r_1 a_1 h_4) kc_X7_hasBit ks_X7_hasBit (by decide +kernel) rfl hl.1 rfl (Nat.le_of_ble_eq_true rfl) dX2_isDug_5 (Nat.le_of_ble_eq_true rfl) (Nat.le_of_ble_eq_true rfl) ⟨Nat.le_refl _, Nat.le_refl _⟩ [] [0, 1] [0, 1] rfl rfl rfl rfl (by decide) rfl rfl (fun H locs hP hD hS => ?_)
  obtain ⟨hz, hm⟩ := zg_elim hm
  have hfin := fin _ _ ls _ _ (Option.some.inj hm) dX2_isDug_8 hz hP hD hS
  exact hfin
set_option maxHeartbeats 0 in
set_option maxRecDepth 100000 in
theorem c_X2_addDug (G : GT) (l : Launch) (q_this : Nat) (f_units : Int32) (f_ties : Int32) (f_digs : Int32) (f_sights : Int32) (f_events : Int32) (q_traits : Nat) (q_upper : Nat) (q_lower : Nat) (q_heldUnit : Nat) (q_heldKind : Nat) (q_seenFirst : Nat) (q_seenSecond : Nat) (q_seenIs : Nat) (q_eventWhat : Nat) (q_eventUnit : Nat) (q_digRow : Nat) (f_digRow : (Nat → Int32)) (a_1 : Int32) {res : Int32 × (Nat → Int32)} (hm : m_X2_addDug f_digs f_digRow a_1 = some res) : CT G l yX2_addDug cX2_addDug 2 none 2 43 [.ref q_this, .int a_1] [(q_this, .inr (2, [.int f_units, .int f_ties, .int f_digs, .int f_sights, .int f_events, .ref q_traits, .ref q_upper, .ref q_lower, .ref q_digRow, .ref q_heldUnit, .ref q_heldKind, .ref q_seenFirst, .ref q_seenSecond, .ref q_seenIs, .ref q_eventWhat, .ref q_eventUnit])), (q_digRow, .inl (gI G, 12, .inl f_digRow))] [(q_this, .inr (2, [.int f_units, .int f_ties, .int res.1, .int f_sights, .int f_events, .ref q_traits, .ref q_upper, .ref q_lower, .ref q_digRow, .ref q_heldUnit, .ref q_heldKind, .ref q_seenFirst, .ref q_seenSecond, .ref q_seenIs, .ref q_eventWhat, .ref q_eventUnit])), (q_digRow, .inl (gI G, 12, .inl res.2))] none := by
  refine ctV (G := G) (l := l) (y := yX2_addDug) (cc := cX2_addDug) (maxL := 2) (fr := 2) (lo := 43) (As := [.ref q_this, .int a_1]) (res := res) (fun res : Int32 × (Nat → Int32) => [(q_this, .inr (2, [.int f_units, .int f_ties, .int res.1, .int f_sights, .int f_events, .ref q_traits, .ref q_upper, .ref q_lower, .ref q_digRow, .ref q_heldUnit, .ref q_heldKind, .ref q_seenFirst, .ref q_seenSecond, .ref q_seenIs, .ref q_eventWhat, .ref q_eventUnit])), (q_digRow, .inl (gI G, 12, .inl res.2))]) (plainFor_of_name (by decide)) (Nat.le_of_ble_eq_true rfl) ?_
  intro p e s m below meth c A ls Q hx hb hml hown hts hK hG hA hP hD hS hl fin
  have hown : s.vm.findClass RX2 = some m.cls := hown
  have hl : lv_has ls 2 [(0, .ref q_this), (1, .int a_1)] := hl
  unfold m_X2_addDug at hm
  refine lv_aload_n hx hb dX2_addDug_0 rfl (lv_at hl 0 rfl) ?_
  refine gf_X2_18 (v := .int f_digs) hx hb hts hown hK hP 0 rfl rfl dX2_addDug_1 ?_
  refine lv_bipush (v := 12) hx hb dX2_addDug_4 (by decide) ?_
  refine ic_ge (tgt := 37) hx hb dX2_addDug_6 (by decide) hm (fun hm => ?_) (fun hm => ?_)
  · have hfin := fin _ _ ls _ _ (Option.some.inj hm) dX2_addDug_37 hP hD hS
    exact hfin
  refine lv_aload_n hx hb dX2_addDug_9 rfl (lv_at hl 0 rfl) ?_
  refine lv_iload_n hx hb dX2_addDug_10 rfl (lv_at hl 1 rfl) ?_
  obtain ⟨r_1, h_2, hm⟩ := cl_elim hm
  refine w_callV (As := [.int a_1]) (rest := []) (wr := []) (W1 := [(q_this, .inr (2, [.int f_units, .int f_ties, .int f_digs, .int f_sights, .int f_events, .ref q_traits, .ref q_upper, .ref q_lower, .ref q_digRow, .ref q_heldUnit, .ref q_heldKind, .ref q_seenFirst, .ref q_seenSecond, .ref q_seenIs, .ref q_eventWhat, .ref q_eventUnit])), (q_digRow, .inl (gI G, 12, .inl f_digRow))]) (ci := 2) (q0 := 0) hx hb hml hown hts hK hG hP hD hS hA (c_X2_isDug G l q_this f_units f_ties f_digs f_sights f_events q_traits q_upper q_lower q_heldUnit q_heldKind q_seenFirst q_seenSecond q_seenIs q_eventWhat q_eventUnit q_digRow f_digRow a_1 h_2) kc_X2_isDug ki_X2_isDug bw656 rfl rfl rfl hl.1 rfl (Nat.le_of_ble_eq_true rfl) dX2_addDug_11 (Nat.le_of_ble_eq_true rfl) (Nat.le_of_ble_eq_true rfl) ⟨Nat.le_refl _, Nat.le_refl _⟩ [0, 1] [] [0, 1] rfl rfl rfl rfl (by decide) rfl rfl (fun H locs hP hD hS => ?_)
  refine if_ne (tgt := 37) hx hb dX2_addDug_14 (by decide) hm (fun hm => ?_) (fun hm => ?_)
  · have hfin := fin _ _ ls _ _ (Option.some.inj hm) dX2_addDug_37 hP hD hS
    exact hfin
  refine lv_aload_n hx hb dX2_addDug_17 rfl (lv_at hl 0 rfl) ?_
  refine gf_X2_37 (v := .ref q_digRow) hx hb hts hown hK hP 0 rfl rfl dX2_addDug_18 ?_
  refine lv_aload_n hx hb dX2_addDug_21 rfl (lv_at hl 0 rfl) ?_
  refine gf_X2_18 (v := .int f_digs) hx hb hts hown hK hP 0 rfl rfl dX2_addDug_22 ?_
  refine lv_iload_n hx hb dX2_addDug_25 rfl (lv_at hl 1 rfl) ?_
  refine w_iast hx hb hK hP hD hS 1 rfl hm dX2_addDug_26 (fun g_3 => [(q_this, .inr (2, [.int f_units, .int f_ties, .int f_digs, .int f_sights, .int f_events, .ref q_traits, .ref q_upper, .ref q_lower, .ref q_digRow, .ref q_heldUnit, .ref q_heldKind, .ref q_seenFirst, .ref q_seenSecond, .ref q_seenIs, .ref q_eventWhat, .ref q_eventUnit])), (q_digRow, .inl (gI G, 12, .inl g_3))]) (fun _ => rfl) (fun g_3 H locs hm hP hD hS => ?_)
  refine lv_aload_n hx hb dX2_addDug_27 rfl (lv_at hl 0 rfl) ?_
  refine lv_dup hx hb dX2_addDug_28 rfl ?_
  refine gf_X2_18 (v := .int f_digs) hx hb hts hown hK hP 0 rfl rfl dX2_addDug_29 ?_
  refine lv_iconst (v := 1) hx hb dX2_addDug_32 (by decide) ?_
  refine lv_iadd hx hb dX2_addDug_33 ?_
  refine pf_X2_18 (W1 := [(q_this, .inr (2, [.int f_units, .int f_ties, .int (f_digs + (1 : Int32)), .int f_sights, .int f_events, .ref q_traits, .ref q_upper, .ref q_lower, .ref q_digRow, .ref q_heldUnit, .ref q_heldKind, .ref q_seenFirst, .ref q_seenSecond, .ref q_seenIs, .ref q_eventWhat, .ref q_eventUnit])), (q_digRow, .inl (gI G, 12, .inl g_3))]) hx hb hts hown hK hP hD hS 0 rfl (Nat.le_of_ble_eq_true rfl) dX2_addDug_34 rfl (fun H locs hP hD hS => ?_)
  have hfin := fin _ _ ls _ _ (Option.some.inj hm) dX2_addDug_37 hP hD hS
  exact hfin
set_option maxHeartbeats 0 in
set_option maxRecDepth 100000 in
theorem c_X2_addSeen (G : GT) (l : Launch) (q_this : Nat) (f_units : Int32) (f_ties : Int32) (f_digs : Int32) (f_sights : Int32) (f_events : Int32) (q_traits : Nat) (q_upper : Nat) (q_lower : Nat) (q_digRow : Nat) (q_heldUnit : Nat) (q_heldKind : Nat) (q_eventWhat : Nat) (q_eventUnit : Nat) (q_seenFirst : Nat) (f_seenFirst : (Nat → Int32)) (q_seenSecond : Nat) (f_seenSecond : (Nat → Int32)) (q_seenIs : Nat) (f_seenIs : (Nat → Int32)) (a_1 : Int32) (a_2 : Int32) (a_3 : Int32) {res : Int32 × (Nat → Int32) × (Nat → Int32) × (Nat → Int32)} (hm : m_X2_addSeen f_sights f_seenFirst f_seenSecond f_seenIs a_1 a_2 a_3 = some res) : CT G l yX2_addSeen cX2_addSeen 4 none 0 0 [.ref q_this, .int a_1, .int a_2, .int a_3] [(q_this, .inr (2, [.int f_units, .int f_ties, .int f_digs, .int f_sights, .int f_events, .ref q_traits, .ref q_upper, .ref q_lower, .ref q_digRow, .ref q_heldUnit, .ref q_heldKind, .ref q_seenFirst, .ref q_seenSecond, .ref q_seenIs, .ref q_eventWhat, .ref q_eventUnit])), (q_seenFirst, .inl (gI G, 5, .inl f_seenFirst)), (q_seenSecond, .inl (gI G, 5, .inl f_seenSecond)), (q_seenIs, .inl (gZ G, 5, .inl f_seenIs))] [(q_this, .inr (2, [.int f_units, .int f_ties, .int f_digs, .int res.1, .int f_events, .ref q_traits, .ref q_upper, .ref q_lower, .ref q_digRow, .ref q_heldUnit, .ref q_heldKind, .ref q_seenFirst, .ref q_seenSecond, .ref q_seenIs, .ref q_eventWhat, .ref q_eventUnit])), (q_seenFirst, .inl (gI G, 5, .inl res.2.1)), (q_seenSecond, .inl (gI G, 5, .inl res.2.2.1)), (q_seenIs, .inl (gZ G, 5, .inl res.2.2.2))] none := by
  refine ctV (G := G) (l := l) (y := yX2_addSeen) (cc := cX2_addSeen) (maxL := 4) (fr := 0) (lo := 0) (As := [.ref q_this, .int a_1, .int a_2, .int a_3]) (res := res) (fun res : Int32 × (Nat → Int32) × (Nat → Int32) × (Nat → Int32) => [(q_this, .inr (2, [.int f_units, .int f_ties, .int f_digs, .int res.1, .int f_events, .ref q_traits, .ref q_upper, .ref q_lower, .ref q_digRow, .ref q_heldUnit, .ref q_heldKind, .ref q_seenFirst, .ref q_seenSecond, .ref q_seenIs, .ref q_eventWhat, .ref q_eventUnit])), (q_seenFirst, .inl (gI G, 5, .inl res.2.1)), (q_seenSecond, .inl (gI G, 5, .inl res.2.2.1)), (q_seenIs, .inl (gZ G, 5, .inl res.2.2.2))]) (plainFor_of_name (by decide)) (Nat.le_of_ble_eq_true rfl) ?_
  intro p e s m below meth c A ls Q hx hb hml hown hts hK hG hA hP hD hS hl fin
  have hown : s.vm.findClass RX2 = some m.cls := hown
  have hl : lv_has ls 4 [(0, .ref q_this), (1, .int a_1), (2, .int a_2), (3, .int a_3)] := hl
  unfold m_X2_addSeen at hm
  refine lv_aload_n hx hb dX2_addSeen_0 rfl (lv_at hl 0 rfl) ?_
  refine gf_X2_46 (v := .ref q_seenFirst) hx hb hts hown hK hP 0 rfl rfl dX2_addSeen_1 ?_
  refine lv_aload_n hx hb dX2_addSeen_4 rfl (lv_at hl 0 rfl) ?_
  refine gf_X2_21 (v := .int f_sights) hx hb hts hown hK hP 0 rfl rfl dX2_addSeen_5 ?_
  refine lv_iload_n hx hb dX2_addSeen_8 rfl (lv_at hl 1 rfl) ?_
  refine w_iast hx hb hK hP hD hS 1 rfl hm dX2_addSeen_9 (fun g_1 => [(q_this, .inr (2, [.int f_units, .int f_ties, .int f_digs, .int f_sights, .int f_events, .ref q_traits, .ref q_upper, .ref q_lower, .ref q_digRow, .ref q_heldUnit, .ref q_heldKind, .ref q_seenFirst, .ref q_seenSecond, .ref q_seenIs, .ref q_eventWhat, .ref q_eventUnit])), (q_seenFirst, .inl (gI G, 5, .inl g_1)), (q_seenSecond, .inl (gI G, 5, .inl f_seenSecond)), (q_seenIs, .inl (gZ G, 5, .inl f_seenIs))]) (fun _ => rfl) (fun g_1 H locs hm hP hD hS => ?_)
  refine lv_aload_n hx hb dX2_addSeen_10 rfl (lv_at hl 0 rfl) ?_
  refine gf_X2_49 (v := .ref q_seenSecond) hx hb hts hown hK hP 0 rfl rfl dX2_addSeen_11 ?_
  refine lv_aload_n hx hb dX2_addSeen_14 rfl (lv_at hl 0 rfl) ?_
  refine gf_X2_21 (v := .int f_sights) hx hb hts hown hK hP 0 rfl rfl dX2_addSeen_15 ?_
  refine lv_iload_n hx hb dX2_addSeen_18 rfl (lv_at hl 2 rfl) ?_
  refine w_iast hx hb hK hP hD hS 2 rfl hm dX2_addSeen_19 (fun g_2 => [(q_this, .inr (2, [.int f_units, .int f_ties, .int f_digs, .int f_sights, .int f_events, .ref q_traits, .ref q_upper, .ref q_lower, .ref q_digRow, .ref q_heldUnit, .ref q_heldKind, .ref q_seenFirst, .ref q_seenSecond, .ref q_seenIs, .ref q_eventWhat, .ref q_eventUnit])), (q_seenFirst, .inl (gI G, 5, .inl g_1)), (q_seenSecond, .inl (gI G, 5, .inl g_2)), (q_seenIs, .inl (gZ G, 5, .inl f_seenIs))]) (fun _ => rfl) (fun g_2 H locs hm hP hD hS => ?_)
  refine lv_aload_n hx hb dX2_addSeen_20 rfl (lv_at hl 0 rfl) ?_
  refine gf_X2_52 (v := .ref q_seenIs) hx hb hts hown hK hP 0 rfl rfl dX2_addSeen_21 ?_
  refine lv_aload_n hx hb dX2_addSeen_24 rfl (lv_at hl 0 rfl) ?_
  refine gf_X2_21 (v := .int f_sights) hx hb hts hown hK hP 0 rfl rfl dX2_addSeen_25 ?_
  refine lv_iload_n hx hb dX2_addSeen_28 rfl (lv_at hl 3 rfl) ?_
  refine w_zast hx hb hK hP hD hS 3 rfl hm dX2_addSeen_29 (fun g_3 => [(q_this, .inr (2, [.int f_units, .int f_ties, .int f_digs, .int f_sights, .int f_events, .ref q_traits, .ref q_upper, .ref q_lower, .ref q_digRow, .ref q_heldUnit, .ref q_heldKind, .ref q_seenFirst, .ref q_seenSecond, .ref q_seenIs, .ref q_eventWhat, .ref q_eventUnit])), (q_seenFirst, .inl (gI G, 5, .inl g_1)), (q_seenSecond, .inl (gI G, 5, .inl g_2)), (q_seenIs, .inl (gZ G, 5, .inl g_3))]) (fun _ => rfl) (fun g_3 H locs hm hP hD hS => ?_)
  refine lv_aload_n hx hb dX2_addSeen_30 rfl (lv_at hl 0 rfl) ?_
  refine lv_dup hx hb dX2_addSeen_31 rfl ?_
  refine gf_X2_21 (v := .int f_sights) hx hb hts hown hK hP 0 rfl rfl dX2_addSeen_32 ?_
  refine lv_iconst (v := 1) hx hb dX2_addSeen_35 (by decide) ?_
  refine lv_iadd hx hb dX2_addSeen_36 ?_
  refine pf_X2_21 (W1 := [(q_this, .inr (2, [.int f_units, .int f_ties, .int f_digs, .int (f_sights + (1 : Int32)), .int f_events, .ref q_traits, .ref q_upper, .ref q_lower, .ref q_digRow, .ref q_heldUnit, .ref q_heldKind, .ref q_seenFirst, .ref q_seenSecond, .ref q_seenIs, .ref q_eventWhat, .ref q_eventUnit])), (q_seenFirst, .inl (gI G, 5, .inl g_1)), (q_seenSecond, .inl (gI G, 5, .inl g_2)), (q_seenIs, .inl (gZ G, 5, .inl g_3))]) hx hb hts hown hK hP hD hS 0 rfl (Nat.le_of_ble_eq_true rfl) dX2_addSeen_37 rfl (fun H locs hP hD hS => ?_)
  have hfin := fin _ _ ls _ _ (Option.some.inj hm) dX2_addSeen_40 hP hD hS
  exact hfin
set_option maxHeartbeats 0 in
set_option maxRecDepth 100000 in
theorem c_X2_addEvent (G : GT) (l : Launch) (q_this : Nat) (f_units : Int32) (f_ties : Int32) (f_digs : Int32) (f_sights : Int32) (f_events : Int32) (q_traits : Nat) (q_upper : Nat) (q_lower : Nat) (q_digRow : Nat) (q_heldUnit : Nat) (q_heldKind : Nat) (q_seenFirst : Nat) (q_seenSecond : Nat) (q_seenIs : Nat) (q_eventWhat : Nat) (f_eventWhat : (Nat → Int32)) (q_eventUnit : Nat) (f_eventUnit : (Nat → Int32)) (a_1 : Int32) (a_2 : Int32) {res : Int32 × (Nat → Int32) × (Nat → Int32)} (hm : m_X2_addEvent f_events f_eventWhat f_eventUnit a_1 a_2 = some res) : CT G l yX2_addEvent cX2_addEvent 3 none 0 0 [.ref q_this, .int a_1, .int a_2] [(q_this, .inr (2, [.int f_units, .int f_ties, .int f_digs, .int f_sights, .int f_events, .ref q_traits, .ref q_upper, .ref q_lower, .ref q_digRow, .ref q_heldUnit, .ref q_heldKind, .ref q_seenFirst, .ref q_seenSecond, .ref q_seenIs, .ref q_eventWhat, .ref q_eventUnit])), (q_eventWhat, .inl (gI G, 8, .inl f_eventWhat)), (q_eventUnit, .inl (gI G, 8, .inl f_eventUnit))] [(q_this, .inr (2, [.int f_units, .int f_ties, .int f_digs, .int f_sights, .int res.1, .ref q_traits, .ref q_upper, .ref q_lower, .ref q_digRow, .ref q_heldUnit, .ref q_heldKind, .ref q_seenFirst, .ref q_seenSecond, .ref q_seenIs, .ref q_eventWhat, .ref q_eventUnit])), (q_eventWhat, .inl (gI G, 8, .inl res.2.1)), (q_eventUnit, .inl (gI G, 8, .inl res.2.2))] none := by
  refine ctV (G := G) (l := l) (y := yX2_addEvent) (cc := cX2_addEvent) (maxL := 3) (fr := 0) (lo := 0) (As := [.ref q_this, .int a_1, .int a_2]) (res := res) (fun res : Int32 × (Nat → Int32) × (Nat → Int32) => [(q_this, .inr (2, [.int f_units, .int f_ties, .int f_digs, .int f_sights, .int res.1, .ref q_traits, .ref q_upper, .ref q_lower, .ref q_digRow, .ref q_heldUnit, .ref q_heldKind, .ref q_seenFirst, .ref q_seenSecond, .ref q_seenIs, .ref q_eventWhat, .ref q_eventUnit])), (q_eventWhat, .inl (gI G, 8, .inl res.2.1)), (q_eventUnit, .inl (gI G, 8, .inl res.2.2))]) (plainFor_of_name (by decide)) (Nat.le_of_ble_eq_true rfl) ?_
  intro p e s m below meth c A ls Q hx hb hml hown hts hK hG hA hP hD hS hl fin
  have hown : s.vm.findClass RX2 = some m.cls := hown
  have hl : lv_has ls 3 [(0, .ref q_this), (1, .int a_1), (2, .int a_2)] := hl
  unfold m_X2_addEvent at hm
  refine lv_aload_n hx hb dX2_addEvent_0 rfl (lv_at hl 0 rfl) ?_
  refine gf_X2_56 (v := .ref q_eventWhat) hx hb hts hown hK hP 0 rfl rfl dX2_addEvent_1 ?_
  refine lv_aload_n hx hb dX2_addEvent_4 rfl (lv_at hl 0 rfl) ?_
  refine gf_X2_24 (v := .int f_events) hx hb hts hown hK hP 0 rfl rfl dX2_addEvent_5 ?_
  refine lv_iload_n hx hb dX2_addEvent_8 rfl (lv_at hl 1 rfl) ?_
  refine w_iast hx hb hK hP hD hS 1 rfl hm dX2_addEvent_9 (fun g_1 => [(q_this, .inr (2, [.int f_units, .int f_ties, .int f_digs, .int f_sights, .int f_events, .ref q_traits, .ref q_upper, .ref q_lower, .ref q_digRow, .ref q_heldUnit, .ref q_heldKind, .ref q_seenFirst, .ref q_seenSecond, .ref q_seenIs, .ref q_eventWhat, .ref q_eventUnit])), (q_eventWhat, .inl (gI G, 8, .inl g_1)), (q_eventUnit, .inl (gI G, 8, .inl f_eventUnit))]) (fun _ => rfl) (fun g_1 H locs hm hP hD hS => ?_)
  refine lv_aload_n hx hb dX2_addEvent_10 rfl (lv_at hl 0 rfl) ?_
  refine gf_X2_59 (v := .ref q_eventUnit) hx hb hts hown hK hP 0 rfl rfl dX2_addEvent_11 ?_
  refine lv_aload_n hx hb dX2_addEvent_14 rfl (lv_at hl 0 rfl) ?_
  refine gf_X2_24 (v := .int f_events) hx hb hts hown hK hP 0 rfl rfl dX2_addEvent_15 ?_
  refine lv_iload_n hx hb dX2_addEvent_18 rfl (lv_at hl 2 rfl) ?_
  refine w_iast hx hb hK hP hD hS 2 rfl hm dX2_addEvent_19 (fun g_2 => [(q_this, .inr (2, [.int f_units, .int f_ties, .int f_digs, .int f_sights, .int f_events, .ref q_traits, .ref q_upper, .ref q_lower, .ref q_digRow, .ref q_heldUnit, .ref q_heldKind, .ref q_seenFirst, .ref q_seenSecond, .ref q_seenIs, .ref q_eventWhat, .ref q_eventUnit])), (q_eventWhat, .inl (gI G, 8, .inl g_1)), (q_eventUnit, .inl (gI G, 8, .inl g_2))]) (fun _ => rfl) (fun g_2 H locs hm hP hD hS => ?_)
  refine lv_aload_n hx hb dX2_addEvent_20 rfl (lv_at hl 0 rfl) ?_
  refine lv_dup hx hb dX2_addEvent_21 rfl ?_
  refine gf_X2_24 (v := .int f_events) hx hb hts hown hK hP 0 rfl rfl dX2_addEvent_22 ?_
  refine lv_iconst (v := 1) hx hb dX2_addEvent_25 (by decide) ?_
  refine lv_iadd hx hb dX2_addEvent_26 ?_
  refine pf_X2_24 (W1 := [(q_this, .inr (2, [.int f_units, .int f_ties, .int f_digs, .int f_sights, .int (f_events + (1 : Int32)), .ref q_traits, .ref q_upper, .ref q_lower, .ref q_digRow, .ref q_heldUnit, .ref q_heldKind, .ref q_seenFirst, .ref q_seenSecond, .ref q_seenIs, .ref q_eventWhat, .ref q_eventUnit])), (q_eventWhat, .inl (gI G, 8, .inl g_1)), (q_eventUnit, .inl (gI G, 8, .inl g_2))]) hx hb hts hown hK hP hD hS 0 rfl (Nat.le_of_ble_eq_true rfl) dX2_addEvent_27 rfl (fun H locs hP hD hS => ?_)
  have hfin := fin _ _ ls _ _ (Option.some.inj hm) dX2_addEvent_30 hP hD hS
  exact hfin
set_option maxHeartbeats 0 in
set_option maxRecDepth 100000 in
theorem c_X2_happen (G : GT) (l : Launch) (q_this : Nat) (f_units : Int32) (f_ties : Int32) (f_digs : Int32) (f_sights : Int32) (f_events : Int32) (q_heldUnit : Nat) (q_heldKind : Nat) (q_seenFirst : Nat) (q_seenSecond : Nat) (q_seenIs : Nat) (q_traits : Nat) (f_traits : (Nat → Int32)) (q_upper : Nat) (f_upper : (Nat → Int32)) (q_lower : Nat) (f_lower : (Nat → Int32)) (q_digRow : Nat) (f_digRow : (Nat → Int32)) (q_eventWhat : Nat) (f_eventWhat : (Nat → Int32)) (q_eventUnit : Nat) (f_eventUnit : (Nat → Int32)) {res : Int32 × Int32 × (Nat → Int32) × (Nat → Int32) × (Nat → Int32) × (Nat → Int32)} (hm : m_X2_happen f_ties f_digs f_events f_traits f_upper f_lower f_digRow f_eventWhat f_eventUnit = some res) : CT G l yX2_happen cX2_happen 3 none 3 64 [.ref q_this] [(q_this, .inr (2, [.int f_units, .int f_ties, .int f_digs, .int f_sights, .int f_events, .ref q_traits, .ref q_upper, .ref q_lower, .ref q_digRow, .ref q_heldUnit, .ref q_heldKind, .ref q_seenFirst, .ref q_seenSecond, .ref q_seenIs, .ref q_eventWhat, .ref q_eventUnit])), (q_traits, .inl (gI G, 60, .inl f_traits)), (q_upper, .inl (gI G, 40, .inl f_upper)), (q_lower, .inl (gI G, 40, .inl f_lower)), (q_digRow, .inl (gI G, 12, .inl f_digRow)), (q_eventWhat, .inl (gI G, 8, .inl f_eventWhat)), (q_eventUnit, .inl (gI G, 8, .inl f_eventUnit))] [(q_this, .inr (2, [.int f_units, .int res.1, .int res.2.1, .int f_sights, .int f_events, .ref q_traits, .ref q_upper, .ref q_lower, .ref q_digRow, .ref q_heldUnit, .ref q_heldKind, .ref q_seenFirst, .ref q_seenSecond, .ref q_seenIs, .ref q_eventWhat, .ref q_eventUnit])), (q_traits, .inl (gI G, 60, .inl res.2.2.1)), (q_upper, .inl (gI G, 40, .inl res.2.2.2.1)), (q_lower, .inl (gI G, 40, .inl res.2.2.2.2.1)), (q_digRow, .inl (gI G, 12, .inl res.2.2.2.2.2)), (q_eventWhat, .inl (gI G, 8, .inl f_eventWhat)), (q_eventUnit, .inl (gI G, 8, .inl f_eventUnit))] none := by
  refine ctV (G := G) (l := l) (y := yX2_happen) (cc := cX2_happen) (maxL := 3) (fr := 3) (lo := 64) (As := [.ref q_this]) (res := res) (fun res : Int32 × Int32 × (Nat → Int32) × (Nat → Int32) × (Nat → Int32) × (Nat → Int32) => [(q_this, .inr (2, [.int f_units, .int res.1, .int res.2.1, .int f_sights, .int f_events, .ref q_traits, .ref q_upper, .ref q_lower, .ref q_digRow, .ref q_heldUnit, .ref q_heldKind, .ref q_seenFirst, .ref q_seenSecond, .ref q_seenIs, .ref q_eventWhat, .ref q_eventUnit])), (q_traits, .inl (gI G, 60, .inl res.2.2.1)), (q_upper, .inl (gI G, 40, .inl res.2.2.2.1)), (q_lower, .inl (gI G, 40, .inl res.2.2.2.2.1)), (q_digRow, .inl (gI G, 12, .inl res.2.2.2.2.2)), (q_eventWhat, .inl (gI G, 8, .inl f_eventWhat)), (q_eventUnit, .inl (gI G, 8, .inl f_eventUnit))]) (plainFor_of_name (by decide)) (Nat.le_of_ble_eq_true rfl) ?_
  intro p e s m below meth c A ls Q hx hb hml hown hts hK hG hA hP hD hS hl fin
  have hown : s.vm.findClass RX2 = some m.cls := hown
  have hl : lv_has ls 3 [(0, .ref q_this)] := hl
  unfold m_X2_happen at hm
  refine lv_iconst (v := 0) hx hb dX2_happen_0 (by decide) ?_
  refine lv_istore_n (lv' := [(1, .int (0 : Int32)), (0, .ref q_this)]) hx hb dX2_happen_1 rfl hl (by decide) rfl (fun ls hl => ?_)
  have hL_2 : ∀ (k_2 : Int32 → Int32 → Int32 → (Nat → Int32) → (Nat → Int32) → (Nat → Int32) → (Nat → Int32) → Option (Int32 × Int32 × (Nat → Int32) × (Nat → Int32) × (Nat → Int32) × (Nat → Int32))), (∀ (x1_2 : Int32) (y_f_ties_2 : Int32) (y_f_digs_2 : Int32) (y_f_traits_2 : (Nat → Int32)) (y_f_upper_2 : (Nat → Int32)) (y_f_lower_2 : (Nat → Int32)) (y_f_digRow_2 : (Nat → Int32)) (H : Heap) (locs : List Loc) (ls : Array Slot), k_2 x1_2 y_f_ties_2 y_f_digs_2 y_f_traits_2 y_f_upper_2 y_f_lower_2 y_f_digRow_2 = some res → va_P (gD G) vwCl [(q_this, .inr (2, [.int f_units, .int y_f_ties_2, .int y_f_digs_2, .int f_sights, .int f_events, .ref q_traits, .ref q_upper, .ref q_lower, .ref q_digRow, .ref q_heldUnit, .ref q_heldKind, .ref q_seenFirst, .ref q_seenSecond, .ref q_seenIs, .ref q_eventWhat, .ref q_eventUnit])), (q_traits, .inl (gI G, 60, .inl y_f_traits_2)), (q_upper, .inl (gI G, 40, .inl y_f_upper_2)), (q_lower, .inl (gI G, 40, .inl y_f_lower_2)), (q_digRow, .inl (gI G, 12, .inl y_f_digRow_2)), (q_eventWhat, .inl (gI G, 8, .inl f_eventWhat)), (q_eventUnit, .inl (gI G, 8, .inl f_eventUnit))] H → va_D A [(q_this, .inr (2, [.int f_units, .int y_f_ties_2, .int y_f_digs_2, .int f_sights, .int f_events, .ref q_traits, .ref q_upper, .ref q_lower, .ref q_digRow, .ref q_heldUnit, .ref q_heldKind, .ref q_seenFirst, .ref q_seenSecond, .ref q_seenIs, .ref q_eventWhat, .ref q_eventUnit])), (q_traits, .inl (gI G, 60, .inl y_f_traits_2)), (q_upper, .inl (gI G, 40, .inl y_f_upper_2)), (q_lower, .inl (gI G, 40, .inl y_f_lower_2)), (q_digRow, .inl (gI G, 12, .inl y_f_digRow_2)), (q_eventWhat, .inl (gI G, 8, .inl f_eventWhat)), (q_eventUnit, .inl (gI G, 8, .inl f_eventUnit))] → va_S A s.heap H locs → lv_has ls 3 [] → W p l e { frames := 3, cells := 0, slots := 0, locals := 64 } s m ([.ref q_this] : List Value).toArray below meth c H locs 0 0 Q (F0 m 91 ls [])) → ∀ (n_2 : Nat) (x1_2 : Int32) (y_f_ties_2 : Int32) (y_f_digs_2 : Int32) (y_f_traits_2 : (Nat → Int32)) (y_f_upper_2 : (Nat → Int32)) (y_f_lower_2 : (Nat → Int32)) (y_f_digRow_2 : (Nat → Int32)) (H : Heap) (locs : List Loc) (ls : Array Slot), m_X2_happen_L2 f_events f_eventWhat f_eventUnit n_2 x1_2 y_f_ties_2 y_f_digs_2 y_f_traits_2 y_f_upper_2 y_f_lower_2 y_f_digRow_2 k_2 = some res → va_P (gD G) vwCl [(q_this, .inr (2, [.int f_units, .int y_f_ties_2, .int y_f_digs_2, .int f_sights, .int f_events, .ref q_traits, .ref q_upper, .ref q_lower, .ref q_digRow, .ref q_heldUnit, .ref q_heldKind, .ref q_seenFirst, .ref q_seenSecond, .ref q_seenIs, .ref q_eventWhat, .ref q_eventUnit])), (q_traits, .inl (gI G, 60, .inl y_f_traits_2)), (q_upper, .inl (gI G, 40, .inl y_f_upper_2)), (q_lower, .inl (gI G, 40, .inl y_f_lower_2)), (q_digRow, .inl (gI G, 12, .inl y_f_digRow_2)), (q_eventWhat, .inl (gI G, 8, .inl f_eventWhat)), (q_eventUnit, .inl (gI G, 8, .inl f_eventUnit))] H → va_D A [(q_this, .inr (2, [.int f_units, .int y_f_ties_2, .int y_f_digs_2, .int f_sights, .int f_events, .ref q_traits, .ref q_upper, .ref q_lower, .ref q_digRow, .ref q_heldUnit, .ref q_heldKind, .ref q_seenFirst, .ref q_seenSecond, .ref q_seenIs, .ref q_eventWhat, .ref q_eventUnit])), (q_traits, .inl (gI G, 60, .inl y_f_traits_2)), (q_upper, .inl (gI G, 40, .inl y_f_upper_2)), (q_lower, .inl (gI G, 40, .inl y_f_lower_2)), (q_digRow, .inl (gI G, 12, .inl y_f_digRow_2)), (q_eventWhat, .inl (gI G, 8, .inl f_eventWhat)), (q_eventUnit, .inl (gI G, 8, .inl f_eventUnit))] → va_S A s.heap H locs → lv_has ls 3 [(0, .ref q_this), (1, .int x1_2)] → W p l e { frames := 3, cells := 0, slots := 0, locals := 64 } s m ([.ref q_this] : List Value).toArray below meth c H locs 0 0 Q (F0 m 2 ls []) := by
    intro k_2 hk_2 n_2
    induction n_2 with
    | zero =>
      intro x1_2 y_f_ties_2 y_f_digs_2 y_f_traits_2 y_f_upper_2 y_f_lower_2 y_f_digRow_2 H locs ls hm
      rw [m_X2_happen_L2] at hm
      cases hm
    | succ n_2 ih_2 =>
      intro x1_2 y_f_ties_2 y_f_digs_2 y_f_traits_2 y_f_upper_2 y_f_lower_2 y_f_digRow_2 H locs ls hm hP hD hS hl
      rw [m_X2_happen_L2] at hm
      refine lv_iload_n hx hb dX2_happen_2 rfl (lv_at hl 1 rfl) ?_
      refine lv_aload_n hx hb dX2_happen_3 rfl (lv_at hl 0 rfl) ?_
      refine gf_X2_24 (v := .int f_events) hx hb hts hown hK hP 0 rfl rfl dX2_happen_4 ?_
      refine ic_ge (tgt := 91) hx hb dX2_happen_7 (by decide) hm (fun hm => ?_) (fun hm => ?_)
      · exact hk_2 x1_2 y_f_ties_2 y_f_digs_2 y_f_traits_2 y_f_upper_2 y_f_lower_2 y_f_digRow_2 _ _ _ hm hP hD hS (lv_sub hl [] rfl)
      refine lv_aload_n hx hb dX2_happen_10 rfl (lv_at hl 0 rfl) ?_
      refine gf_X2_59 (v := .ref q_eventUnit) hx hb hts hown hK hP 0 rfl rfl dX2_happen_11 ?_
      refine lv_iload_n hx hb dX2_happen_14 rfl (lv_at hl 1 rfl) ?_
      refine w_iald hx hb hK hP 6 rfl hm dX2_happen_15 (fun v_1 hm => ?_)
      refine lv_istore_n (lv' := [(2, .int v_1), (0, .ref q_this), (1, .int x1_2)]) hx hb dX2_happen_16 rfl hl (by decide) rfl (fun ls hl => ?_)
      refine lv_aload_n hx hb dX2_happen_17 rfl (lv_at hl 1 rfl) ?_
      refine gf_X2_56 (v := .ref q_eventWhat) hx hb hts hown hK hP 0 rfl rfl dX2_happen_18 ?_
      refine lv_iload_n hx hb dX2_happen_21 rfl (lv_at hl 2 rfl) ?_
      refine w_iald hx hb hK hP 5 rfl hm dX2_happen_22 (fun v_2 hm => ?_)
      refine sw_in (tgt := 48) (off := 25) hx hb dX2_happen_23 0 (by decide) (by decide) rfl (by decide) hm (fun hm => ?_) (fun n_s0 hm => ?_)
      · refine lv_aload_n hx hb dX2_happen_48 rfl (lv_at hl 1 rfl) ?_
        refine lv_iload_n hx hb dX2_happen_49 rfl (lv_at hl 0 rfl) ?_
        obtain ⟨r_3, h_4, hm⟩ := cl_elim hm
        refine w_callV (As := [.int v_1]) (rest := []) (wr := [(q_traits, .inl (gI G, 60, .inl y_f_traits_2)), (q_upper, .inl (gI G, 40, .inl y_f_upper_2)), (q_lower, .inl (gI G, 40, .inl y_f_lower_2)), (q_eventWhat, .inl (gI G, 8, .inl f_eventWhat)), (q_eventUnit, .inl (gI G, 8, .inl f_eventUnit))]) (W1 := [(q_this, .inr (2, [.int f_units, .int y_f_ties_2, .int r_3.1, .int f_sights, .int f_events, .ref q_traits, .ref q_upper, .ref q_lower, .ref q_digRow, .ref q_heldUnit, .ref q_heldKind, .ref q_seenFirst, .ref q_seenSecond, .ref q_seenIs, .ref q_eventWhat, .ref q_eventUnit])), (q_traits, .inl (gI G, 60, .inl y_f_traits_2)), (q_upper, .inl (gI G, 40, .inl y_f_upper_2)), (q_lower, .inl (gI G, 40, .inl y_f_lower_2)), (q_digRow, .inl (gI G, 12, .inl r_3.2)), (q_eventWhat, .inl (gI G, 8, .inl f_eventWhat)), (q_eventUnit, .inl (gI G, 8, .inl f_eventUnit))]) (ci := 2) (q0 := 0) hx hb hml hown hts hK hG hP hD hS hA (c_X2_addDug G l q_this f_units y_f_ties_2 y_f_digs_2 f_sights f_events q_traits q_upper q_lower q_heldUnit q_heldKind q_seenFirst q_seenSecond q_seenIs q_eventWhat q_eventUnit q_digRow y_f_digRow_2 v_1 h_4) kc_X2_addDug ki_X2_addDug bw898 rfl rfl rfl hl.1 rfl (Nat.le_of_ble_eq_true rfl) dX2_happen_50 (Nat.le_of_ble_eq_true rfl) (Nat.le_of_ble_eq_true rfl) ⟨Nat.le_refl _, Nat.le_refl _⟩ [0, 4] [1, 2, 3, 5, 6] [5, 0, 1, 2, 6, 3, 4] rfl rfl rfl rfl (by decide) rfl rfl (fun H locs hP hD hS => ?_)
        refine lv_goto (tgt := 85) hx hb dX2_happen_53 (by decide) ?_
        refine lv_iinc (v := (x1_2 + (1 : Int32))) (lv' := [(1, .int (x1_2 + (1 : Int32))), (2, .int v_1), (0, .ref q_this)]) hx hb dX2_happen_85 hl (k := 2) rfl rfl (by decide) rfl (fun ls hl => ?_)
        refine lv_goto (tgt := 2) hx hb dX2_happen_88 (by decide) ?_
        exact ih_2 (x1_2 + (1 : Int32)) y_f_ties_2 r_3.1 y_f_traits_2 y_f_upper_2 y_f_lower_2 r_3.2 _ _ _ hm hP hD hS (lv_sub hl [2, 0] rfl)
      refine sw_in (tgt := 56) (off := 33) hx hb dX2_happen_23 1 (by decide) (by decide) rfl (by decide) hm (fun hm => ?_) (fun n_s1 hm => ?_)
      · refine lv_aload_n hx hb dX2_happen_56 rfl (lv_at hl 1 rfl) ?_
        refine lv_iload_n hx hb dX2_happen_57 rfl (lv_at hl 0 rfl) ?_
        obtain ⟨r_5, h_6, hm⟩ := cl_elim hm
        refine w_callV (As := [.int v_1]) (rest := []) (wr := [(q_traits, .inl (gI G, 60, .inl y_f_traits_2)), (q_digRow, .inl (gI G, 12, .inl y_f_digRow_2)), (q_eventWhat, .inl (gI G, 8, .inl f_eventWhat)), (q_eventUnit, .inl (gI G, 8, .inl f_eventUnit))]) (W1 := [(q_this, .inr (2, [.int f_units, .int r_5.1, .int y_f_digs_2, .int f_sights, .int f_events, .ref q_traits, .ref q_upper, .ref q_lower, .ref q_digRow, .ref q_heldUnit, .ref q_heldKind, .ref q_seenFirst, .ref q_seenSecond, .ref q_seenIs, .ref q_eventWhat, .ref q_eventUnit])), (q_traits, .inl (gI G, 60, .inl y_f_traits_2)), (q_upper, .inl (gI G, 40, .inl r_5.2.1)), (q_lower, .inl (gI G, 40, .inl r_5.2.2)), (q_digRow, .inl (gI G, 12, .inl y_f_digRow_2)), (q_eventWhat, .inl (gI G, 8, .inl f_eventWhat)), (q_eventUnit, .inl (gI G, 8, .inl f_eventUnit))]) (ci := 2) (q0 := 0) hx hb hml hown hts hK hG hP hD hS hA (c_X2_dropTiesFrom G l q_this f_units y_f_ties_2 y_f_digs_2 f_sights f_events q_traits q_digRow q_heldUnit q_heldKind q_seenFirst q_seenSecond q_seenIs q_eventWhat q_eventUnit q_upper y_f_upper_2 q_lower y_f_lower_2 v_1 h_6) kc_X2_dropTiesFrom ki_X2_dropTiesFrom bw899 rfl rfl rfl hl.1 rfl (Nat.le_of_ble_eq_true rfl) dX2_happen_58 (Nat.le_of_ble_eq_true rfl) (Nat.le_of_ble_eq_true rfl) ⟨Nat.le_refl _, Nat.le_refl _⟩ [0, 2, 3] [1, 4, 5, 6] [4, 0, 5, 6, 1, 2, 3] rfl rfl rfl rfl (by decide) rfl rfl (fun H locs hP hD hS => ?_)
        refine lv_goto (tgt := 85) hx hb dX2_happen_61 (by decide) ?_
        refine lv_iinc (v := (x1_2 + (1 : Int32))) (lv' := [(1, .int (x1_2 + (1 : Int32))), (2, .int v_1), (0, .ref q_this)]) hx hb dX2_happen_85 hl (k := 2) rfl rfl (by decide) rfl (fun ls hl => ?_)
        refine lv_goto (tgt := 2) hx hb dX2_happen_88 (by decide) ?_
        exact ih_2 (x1_2 + (1 : Int32)) r_5.1 y_f_digs_2 y_f_traits_2 r_5.2.1 r_5.2.2 y_f_digRow_2 _ _ _ hm hP hD hS (lv_sub hl [2, 0] rfl)
      refine sw_in (tgt := 64) (off := 41) hx hb dX2_happen_23 2 (by decide) (by decide) rfl (by decide) hm (fun hm => ?_) (fun n_s2 hm => ?_)
      · refine lv_aload_n hx hb dX2_happen_64 rfl (lv_at hl 1 rfl) ?_
        refine lv_iconst (v := 2) hx hb dX2_happen_65 (by decide) ?_
        refine lv_iload_n hx hb dX2_happen_66 rfl (lv_at hl 0 rfl) ?_
        refine lv_sipush (v := 1000) hx hb dX2_happen_67 (by decide) ?_
        obtain ⟨r_7, h_8, hm⟩ := cl_elim hm
        refine w_callV (As := [.int (2 : Int32), .int v_1, .int (1000 : Int32)]) (rest := []) (wr := [(q_upper, .inl (gI G, 40, .inl y_f_upper_2)), (q_lower, .inl (gI G, 40, .inl y_f_lower_2)), (q_digRow, .inl (gI G, 12, .inl y_f_digRow_2)), (q_eventWhat, .inl (gI G, 8, .inl f_eventWhat)), (q_eventUnit, .inl (gI G, 8, .inl f_eventUnit))]) (W1 := [(q_this, .inr (2, [.int f_units, .int y_f_ties_2, .int y_f_digs_2, .int f_sights, .int f_events, .ref q_traits, .ref q_upper, .ref q_lower, .ref q_digRow, .ref q_heldUnit, .ref q_heldKind, .ref q_seenFirst, .ref q_seenSecond, .ref q_seenIs, .ref q_eventWhat, .ref q_eventUnit])), (q_traits, .inl (gI G, 60, .inl r_7)), (q_upper, .inl (gI G, 40, .inl y_f_upper_2)), (q_lower, .inl (gI G, 40, .inl y_f_lower_2)), (q_digRow, .inl (gI G, 12, .inl y_f_digRow_2)), (q_eventWhat, .inl (gI G, 8, .inl f_eventWhat)), (q_eventUnit, .inl (gI G, 8, .inl f_eventUnit))]) (ci := 2) (q0 := 0) hx hb hml hown hts hK hG hP hD hS hA (c_X2_putTrait G l q_this f_units y_f_ties_2 y_f_digs_2 f_sights f_events q_upper q_lower q_digRow q_heldUnit q_heldKind q_seenFirst q_seenSecond q_seenIs q_eventWhat q_eventUnit q_traits y_f_traits_2 (2 : Int32) v_1 (1000 : Int32) h_8) kc_X2_putTrait ki_X2_putTrait bw360 rfl rfl rfl hl.1 rfl (Nat.le_of_ble_eq_true rfl) dX2_happen_70 (Nat.le_of_ble_eq_true rfl) (Nat.le_of_ble_eq_true rfl) ⟨Nat.le_refl _, Nat.le_refl _⟩ [0, 1] [2, 3, 4, 5, 6] [5, 6, 0, 1, 2, 3, 4] rfl rfl rfl rfl (by decide) rfl rfl (fun H locs hP hD hS => ?_)
        refine lv_goto (tgt := 85) hx hb dX2_happen_73 (by decide) ?_
        refine lv_iinc (v := (x1_2 + (1 : Int32))) (lv' := [(1, .int (x1_2 + (1 : Int32))), (2, .int v_1), (0, .ref q_this)]) hx hb dX2_happen_85 hl (k := 2) rfl rfl (by decide) rfl (fun ls hl => ?_)
        refine lv_goto (tgt := 2) hx hb dX2_happen_88 (by decide) ?_
        exact ih_2 (x1_2 + (1 : Int32)) y_f_ties_2 y_f_digs_2 r_7 y_f_upper_2 y_f_lower_2 y_f_digRow_2 _ _ _ hm hP hD hS (lv_sub hl [2, 0] rfl)
      refine lv_tableOut (tgt := 76) hx hb dX2_happen_23 (by have n_t0 := lv_neT (a := 0) n_s0 rfl; have n_t1 := lv_neT (a := 1) n_s1 rfl; have n_t2 := lv_neT (a := 2) n_s2 rfl; omega) (by decide) ?_
      refine lv_aload_n hx hb dX2_happen_76 rfl (lv_at hl 1 rfl) ?_
      refine lv_iconst (v := 3) hx hb dX2_happen_77 (by decide) ?_
      refine lv_iload_n hx hb dX2_happen_78 rfl (lv_at hl 0 rfl) ?_
      refine lv_sipush (v := 1000) hx hb dX2_happen_79 (by decide) ?_
      obtain ⟨r_9, h_10, hm⟩ := cl_elim hm
      refine w_callV (As := [.int (3 : Int32), .int v_1, .int (1000 : Int32)]) (rest := []) (wr := [(q_upper, .inl (gI G, 40, .inl y_f_upper_2)), (q_lower, .inl (gI G, 40, .inl y_f_lower_2)), (q_digRow, .inl (gI G, 12, .inl y_f_digRow_2)), (q_eventWhat, .inl (gI G, 8, .inl f_eventWhat)), (q_eventUnit, .inl (gI G, 8, .inl f_eventUnit))]) (W1 := [(q_this, .inr (2, [.int f_units, .int y_f_ties_2, .int y_f_digs_2, .int f_sights, .int f_events, .ref q_traits, .ref q_upper, .ref q_lower, .ref q_digRow, .ref q_heldUnit, .ref q_heldKind, .ref q_seenFirst, .ref q_seenSecond, .ref q_seenIs, .ref q_eventWhat, .ref q_eventUnit])), (q_traits, .inl (gI G, 60, .inl r_9)), (q_upper, .inl (gI G, 40, .inl y_f_upper_2)), (q_lower, .inl (gI G, 40, .inl y_f_lower_2)), (q_digRow, .inl (gI G, 12, .inl y_f_digRow_2)), (q_eventWhat, .inl (gI G, 8, .inl f_eventWhat)), (q_eventUnit, .inl (gI G, 8, .inl f_eventUnit))]) (ci := 2) (q0 := 0) hx hb hml hown hts hK hG hP hD hS hA (c_X2_putTrait G l q_this f_units y_f_ties_2 y_f_digs_2 f_sights f_events q_upper q_lower q_digRow q_heldUnit q_heldKind q_seenFirst q_seenSecond q_seenIs q_eventWhat q_eventUnit q_traits y_f_traits_2 (3 : Int32) v_1 (1000 : Int32) h_10) kc_X2_putTrait ki_X2_putTrait bw360 rfl rfl rfl hl.1 rfl (Nat.le_of_ble_eq_true rfl) dX2_happen_82 (Nat.le_of_ble_eq_true rfl) (Nat.le_of_ble_eq_true rfl) ⟨Nat.le_refl _, Nat.le_refl _⟩ [0, 1] [2, 3, 4, 5, 6] [5, 6, 0, 1, 2, 3, 4] rfl rfl rfl rfl (by decide) rfl rfl (fun H locs hP hD hS => ?_)
      refine lv_iinc (v := (x1_2 + (1 : Int32))) (lv' := [(1, .int (x1_2 + (1 : Int32))), (2, .int v_1), (0, .ref q_this)]) hx hb dX2_happen_85 hl (k := 2) rfl rfl (by decide) rfl (fun ls hl => ?_)
      refine lv_goto (tgt := 2) hx hb dX2_happen_88 (by decide) ?_
      exact ih_2 (x1_2 + (1 : Int32)) y_f_ties_2 y_f_digs_2 r_9 y_f_upper_2 y_f_lower_2 y_f_digRow_2 _ _ _ hm hP hD hS (lv_sub hl [2, 0] rfl)
  refine hL_2 _ ?_ FU (0 : Int32) f_ties f_digs f_traits f_upper f_lower f_digRow _ _ _ hm hP hD hS (lv_sub hl [1, 0] rfl)
  intro x1_2 y_f_ties_2 y_f_digs_2 y_f_traits_2 y_f_upper_2 y_f_lower_2 y_f_digRow_2 H locs ls hm hP hD hS hl
  have hfin := fin _ _ ls _ _ (Option.some.inj hm) dX2_happen_91 hP hD hS
  exact hfin
set_option maxHeartbeats 0 in
set_option maxRecDepth 100000 in
theorem c_X2_copyRow (G : GT) (l : Launch) (q_p1 : Nat) (p1_row : (Nat → Int32)) (q_p2 : Nat) (p2_row : (Nat → Int32)) (n_p1 : Nat) (n_p2 : Nat) {res : (Nat → Int32)} (hm : m_X2_copyRow p1_row p2_row n_p1 n_p2 = some res) : CT G l yX2_copyRow cX2_copyRow 2 none 1 18 [.ref q_p1, .ref q_p2] [(q_p1, .inl (gI G, n_p1, .inl p1_row)), (q_p2, .inl (gI G, n_p2, .inl p2_row))] [(q_p1, .inl (gI G, n_p1, .inl p1_row)), (q_p2, .inl (gI G, n_p2, .inl res))] none := by
  refine ctV (G := G) (l := l) (y := yX2_copyRow) (cc := cX2_copyRow) (maxL := 2) (fr := 1) (lo := 18) (As := [.ref q_p1, .ref q_p2]) (res := res) (fun res : (Nat → Int32) => [(q_p1, .inl (gI G, n_p1, .inl p1_row)), (q_p2, .inl (gI G, n_p2, .inl res))]) (plainFor_of_name (by decide)) (Nat.le_of_ble_eq_true rfl) ?_
  intro p e s m below meth c A ls Q hx hb hml hown hts hK hG hA hP hD hS hl fin
  have hown : s.vm.findClass RX2 = some m.cls := hown
  have hl : lv_has ls 2 [(0, .ref q_p1), (1, .ref q_p2)] := hl
  unfold m_X2_copyRow at hm
  refine lv_aload_n hx hb dX2_copyRow_0 rfl (lv_at hl 0 rfl) ?_
  refine lv_iconst (v := 0) hx hb dX2_copyRow_1 (by decide) ?_
  refine lv_aload_n hx hb dX2_copyRow_2 rfl (lv_at hl 1 rfl) ?_
  refine lv_iconst (v := 0) hx hb dX2_copyRow_3 (by decide) ?_
  refine lv_aload_n hx hb dX2_copyRow_4 rfl (lv_at hl 0 rfl) ?_
  refine va_alen (D := gD G) (tys := gT G) (v := (Int32.ofNat n_p1)) hx hb hK hP 0 0 rfl rfl rfl dX2_copyRow_5 ?_
  refine lv_aload_n hx hb dX2_copyRow_6 rfl (lv_at hl 1 rfl) ?_
  refine va_alen (D := gD G) (tys := gT G) (v := (Int32.ofNat n_p2)) hx hb hK hP 1 0 rfl rfl rfl dX2_copyRow_7 ?_
  refine w_min hx hb hml hl.1 hts hown bw890 bw584 bw86 bw585 (Nat.le_of_ble_eq_true rfl) (Nat.le_of_ble_eq_true rfl) ⟨Nat.le_refl _, Nat.le_refl _⟩ dX2_copyRow_8 hm (fun v_1 hm => ?_)
  refine w_copyi hx hb hml hl.1 hts hown bw891 bw893 bw892 bw93 hK hP hD hS 0 1 rfl rfl hm (Nat.le_of_ble_eq_true rfl) (by decide) dX2_copyRow_11 (fun g_2 => [(q_p1, .inl (gI G, n_p1, .inl p1_row)), (q_p2, .inl (gI G, n_p2, .inl g_2))]) (fun _ => rfl) (fun g_2 H locs hm hP hD hS => ?_)
  have hfin := fin _ _ ls _ _ (Option.some.inj hm) dX2_copyRow_14 hP hD hS
  exact hfin
set_option maxHeartbeats 0 in
set_option maxRecDepth 100000 in
theorem c_X2_become (G : GT) (l : Launch) (q_this : Nat) (f_units : Int32) (f_ties : Int32) (f_digs : Int32) (f_sights : Int32) (f_events : Int32) (q_traits : Nat) (f_traits : (Nat → Int32)) (q_upper : Nat) (f_upper : (Nat → Int32)) (q_lower : Nat) (f_lower : (Nat → Int32)) (q_digRow : Nat) (f_digRow : (Nat → Int32)) (q_heldUnit : Nat) (f_heldUnit : (Nat → Int32)) (q_heldKind : Nat) (f_heldKind : (Nat → Int32)) (q_seenFirst : Nat) (f_seenFirst : (Nat → Int32)) (q_seenSecond : Nat) (f_seenSecond : (Nat → Int32)) (q_seenIs : Nat) (f_seenIs : (Nat → Int32)) (q_eventWhat : Nat) (f_eventWhat : (Nat → Int32)) (q_eventUnit : Nat) (f_eventUnit : (Nat → Int32)) (q_p1 : Nat) (p1_units : Int32) (p1_ties : Int32) (p1_digs : Int32) (p1_sights : Int32) (p1_events : Int32) (q_p1_traits : Nat) (p1_traits : (Nat → Int32)) (q_p1_upper : Nat) (p1_upper : (Nat → Int32)) (q_p1_lower : Nat) (p1_lower : (Nat → Int32)) (q_p1_digRow : Nat) (p1_digRow : (Nat → Int32)) (q_p1_heldUnit : Nat) (p1_heldUnit : (Nat → Int32)) (q_p1_heldKind : Nat) (p1_heldKind : (Nat → Int32)) (q_p1_seenFirst : Nat) (p1_seenFirst : (Nat → Int32)) (q_p1_seenSecond : Nat) (p1_seenSecond : (Nat → Int32)) (q_p1_seenIs : Nat) (p1_seenIs : (Nat → Int32)) (q_p1_eventWhat : Nat) (p1_eventWhat : (Nat → Int32)) (q_p1_eventUnit : Nat) (p1_eventUnit : (Nat → Int32)) {res : Int32 × Int32 × Int32 × Int32 × Int32 × (Nat → Int32) × (Nat → Int32) × (Nat → Int32) × (Nat → Int32) × (Nat → Int32) × (Nat → Int32) × (Nat → Int32) × (Nat → Int32) × (Nat → Int32) × (Nat → Int32) × (Nat → Int32)} (hm : m_X2_become f_units f_ties f_digs f_sights f_events f_traits f_upper f_lower f_digRow f_heldUnit f_heldKind f_seenFirst f_seenSecond f_seenIs f_eventWhat f_eventUnit p1_units p1_ties p1_digs p1_sights p1_events p1_traits p1_upper p1_lower p1_digRow p1_heldUnit p1_heldKind p1_seenFirst p1_seenSecond p1_seenIs p1_eventWhat p1_eventUnit = some res) : CT G l yX2_become cX2_become 2 none 2 39 [.ref q_this, .ref q_p1] [(q_this, .inr (2, [.int f_units, .int f_ties, .int f_digs, .int f_sights, .int f_events, .ref q_traits, .ref q_upper, .ref q_lower, .ref q_digRow, .ref q_heldUnit, .ref q_heldKind, .ref q_seenFirst, .ref q_seenSecond, .ref q_seenIs, .ref q_eventWhat, .ref q_eventUnit])), (q_traits, .inl (gI G, 60, .inl f_traits)), (q_upper, .inl (gI G, 40, .inl f_upper)), (q_lower, .inl (gI G, 40, .inl f_lower)), (q_digRow, .inl (gI G, 12, .inl f_digRow)), (q_heldUnit, .inl (gI G, 12, .inl f_heldUnit)), (q_heldKind, .inl (gI G, 12, .inl f_heldKind)), (q_seenFirst, .inl (gI G, 5, .inl f_seenFirst)), (q_seenSecond, .inl (gI G, 5, .inl f_seenSecond)), (q_seenIs, .inl (gZ G, 5, .inl f_seenIs)), (q_eventWhat, .inl (gI G, 8, .inl f_eventWhat)), (q_eventUnit, .inl (gI G, 8, .inl f_eventUnit)), (q_p1, .inr (2, [.int p1_units, .int p1_ties, .int p1_digs, .int p1_sights, .int p1_events, .ref q_p1_traits, .ref q_p1_upper, .ref q_p1_lower, .ref q_p1_digRow, .ref q_p1_heldUnit, .ref q_p1_heldKind, .ref q_p1_seenFirst, .ref q_p1_seenSecond, .ref q_p1_seenIs, .ref q_p1_eventWhat, .ref q_p1_eventUnit])), (q_p1_traits, .inl (gI G, 60, .inl p1_traits)), (q_p1_upper, .inl (gI G, 40, .inl p1_upper)), (q_p1_lower, .inl (gI G, 40, .inl p1_lower)), (q_p1_digRow, .inl (gI G, 12, .inl p1_digRow)), (q_p1_heldUnit, .inl (gI G, 12, .inl p1_heldUnit)), (q_p1_heldKind, .inl (gI G, 12, .inl p1_heldKind)), (q_p1_seenFirst, .inl (gI G, 5, .inl p1_seenFirst)), (q_p1_seenSecond, .inl (gI G, 5, .inl p1_seenSecond)), (q_p1_seenIs, .inl (gZ G, 5, .inl p1_seenIs)), (q_p1_eventWhat, .inl (gI G, 8, .inl p1_eventWhat)), (q_p1_eventUnit, .inl (gI G, 8, .inl p1_eventUnit))] [(q_this, .inr (2, [.int res.1, .int res.2.1, .int res.2.2.1, .int res.2.2.2.1, .int res.2.2.2.2.1, .ref q_traits, .ref q_upper, .ref q_lower, .ref q_digRow, .ref q_heldUnit, .ref q_heldKind, .ref q_seenFirst, .ref q_seenSecond, .ref q_seenIs, .ref q_eventWhat, .ref q_eventUnit])), (q_traits, .inl (gI G, 60, .inl res.2.2.2.2.2.1)), (q_upper, .inl (gI G, 40, .inl res.2.2.2.2.2.2.1)), (q_lower, .inl (gI G, 40, .inl res.2.2.2.2.2.2.2.1)), (q_digRow, .inl (gI G, 12, .inl res.2.2.2.2.2.2.2.2.1)), (q_heldUnit, .inl (gI G, 12, .inl res.2.2.2.2.2.2.2.2.2.1)), (q_heldKind, .inl (gI G, 12, .inl res.2.2.2.2.2.2.2.2.2.2.1)), (q_seenFirst, .inl (gI G, 5, .inl res.2.2.2.2.2.2.2.2.2.2.2.1)), (q_seenSecond, .inl (gI G, 5, .inl res.2.2.2.2.2.2.2.2.2.2.2.2.1)), (q_seenIs, .inl (gZ G, 5, .inl res.2.2.2.2.2.2.2.2.2.2.2.2.2.1)), (q_eventWhat, .inl (gI G, 8, .inl res.2.2.2.2.2.2.2.2.2.2.2.2.2.2.1)), (q_eventUnit, .inl (gI G, 8, .inl res.2.2.2.2.2.2.2.2.2.2.2.2.2.2.2)), (q_p1, .inr (2, [.int p1_units, .int p1_ties, .int p1_digs, .int p1_sights, .int p1_events, .ref q_p1_traits, .ref q_p1_upper, .ref q_p1_lower, .ref q_p1_digRow, .ref q_p1_heldUnit, .ref q_p1_heldKind, .ref q_p1_seenFirst, .ref q_p1_seenSecond, .ref q_p1_seenIs, .ref q_p1_eventWhat, .ref q_p1_eventUnit])), (q_p1_traits, .inl (gI G, 60, .inl p1_traits)), (q_p1_upper, .inl (gI G, 40, .inl p1_upper)), (q_p1_lower, .inl (gI G, 40, .inl p1_lower)), (q_p1_digRow, .inl (gI G, 12, .inl p1_digRow)), (q_p1_heldUnit, .inl (gI G, 12, .inl p1_heldUnit)), (q_p1_heldKind, .inl (gI G, 12, .inl p1_heldKind)), (q_p1_seenFirst, .inl (gI G, 5, .inl p1_seenFirst)), (q_p1_seenSecond, .inl (gI G, 5, .inl p1_seenSecond)), (q_p1_seenIs, .inl (gZ G, 5, .inl p1_seenIs)), (q_p1_eventWhat, .inl (gI G, 8, .inl p1_eventWhat)), (q_p1_eventUnit, .inl (gI G, 8, .inl p1_eventUnit))] none := by
  refine ctV (G := G) (l := l) (y := yX2_become) (cc := cX2_become) (maxL := 2) (fr := 2) (lo := 39) (As := [.ref q_this, .ref q_p1]) (res := res) (fun res : Int32 × Int32 × Int32 × Int32 × Int32 × (Nat → Int32) × (Nat → Int32) × (Nat → Int32) × (Nat → Int32) × (Nat → Int32) × (Nat → Int32) × (Nat → Int32) × (Nat → Int32) × (Nat → Int32) × (Nat → Int32) × (Nat → Int32) => [(q_this, .inr (2, [.int res.1, .int res.2.1, .int res.2.2.1, .int res.2.2.2.1, .int res.2.2.2.2.1, .ref q_traits, .ref q_upper, .ref q_lower, .ref q_digRow, .ref q_heldUnit, .ref q_heldKind, .ref q_seenFirst, .ref q_seenSecond, .ref q_seenIs, .ref q_eventWhat, .ref q_eventUnit])), (q_traits, .inl (gI G, 60, .inl res.2.2.2.2.2.1)), (q_upper, .inl (gI G, 40, .inl res.2.2.2.2.2.2.1)), (q_lower, .inl (gI G, 40, .inl res.2.2.2.2.2.2.2.1)), (q_digRow, .inl (gI G, 12, .inl res.2.2.2.2.2.2.2.2.1)), (q_heldUnit, .inl (gI G, 12, .inl res.2.2.2.2.2.2.2.2.2.1)), (q_heldKind, .inl (gI G, 12, .inl res.2.2.2.2.2.2.2.2.2.2.1)), (q_seenFirst, .inl (gI G, 5, .inl res.2.2.2.2.2.2.2.2.2.2.2.1)), (q_seenSecond, .inl (gI G, 5, .inl res.2.2.2.2.2.2.2.2.2.2.2.2.1)), (q_seenIs, .inl (gZ G, 5, .inl res.2.2.2.2.2.2.2.2.2.2.2.2.2.1)), (q_eventWhat, .inl (gI G, 8, .inl res.2.2.2.2.2.2.2.2.2.2.2.2.2.2.1)), (q_eventUnit, .inl (gI G, 8, .inl res.2.2.2.2.2.2.2.2.2.2.2.2.2.2.2)), (q_p1, .inr (2, [.int p1_units, .int p1_ties, .int p1_digs, .int p1_sights, .int p1_events, .ref q_p1_traits, .ref q_p1_upper, .ref q_p1_lower, .ref q_p1_digRow, .ref q_p1_heldUnit, .ref q_p1_heldKind, .ref q_p1_seenFirst, .ref q_p1_seenSecond, .ref q_p1_seenIs, .ref q_p1_eventWhat, .ref q_p1_eventUnit])), (q_p1_traits, .inl (gI G, 60, .inl p1_traits)), (q_p1_upper, .inl (gI G, 40, .inl p1_upper)), (q_p1_lower, .inl (gI G, 40, .inl p1_lower)), (q_p1_digRow, .inl (gI G, 12, .inl p1_digRow)), (q_p1_heldUnit, .inl (gI G, 12, .inl p1_heldUnit)), (q_p1_heldKind, .inl (gI G, 12, .inl p1_heldKind)), (q_p1_seenFirst, .inl (gI G, 5, .inl p1_seenFirst)), (q_p1_seenSecond, .inl (gI G, 5, .inl p1_seenSecond)), (q_p1_seenIs, .inl (gZ G, 5, .inl p1_seenIs)), (q_p1_eventWhat, .inl (gI G, 8, .inl p1_eventWhat)), (q_p1_eventUnit, .inl (gI G, 8, .inl p1_eventUnit))]) (plainFor_of_name (by decide)) (Nat.le_of_ble_eq_true rfl) ?_
  intro p e s m below meth c A ls Q hx hb hml hown hts hK hG hA hP hD hS hl fin
  have hown : s.vm.findClass RX2 = some m.cls := hown
  have hl : lv_has ls 2 [(0, .ref q_this), (1, .ref q_p1)] := hl
  unfold m_X2_become at hm
  refine lv_aload_n hx hb dX2_become_0 rfl (lv_at hl 0 rfl) ?_
  refine lv_aload_n hx hb dX2_become_1 rfl (lv_at hl 1 rfl) ?_
  refine gf_X2_9 (v := .int p1_units) hx hb hts hown hK hP 12 rfl rfl dX2_become_2 ?_
  refine pf_X2_9 (W1 := [(q_this, .inr (2, [.int p1_units, .int f_ties, .int f_digs, .int f_sights, .int f_events, .ref q_traits, .ref q_upper, .ref q_lower, .ref q_digRow, .ref q_heldUnit, .ref q_heldKind, .ref q_seenFirst, .ref q_seenSecond, .ref q_seenIs, .ref q_eventWhat, .ref q_eventUnit])), (q_traits, .inl (gI G, 60, .inl f_traits)), (q_upper, .inl (gI G, 40, .inl f_upper)), (q_lower, .inl (gI G, 40, .inl f_lower)), (q_digRow, .inl (gI G, 12, .inl f_digRow)), (q_heldUnit, .inl (gI G, 12, .inl f_heldUnit)), (q_heldKind, .inl (gI G, 12, .inl f_heldKind)), (q_seenFirst, .inl (gI G, 5, .inl f_seenFirst)), (q_seenSecond, .inl (gI G, 5, .inl f_seenSecond)), (q_seenIs, .inl (gZ G, 5, .inl f_seenIs)), (q_eventWhat, .inl (gI G, 8, .inl f_eventWhat)), (q_eventUnit, .inl (gI G, 8, .inl f_eventUnit)), (q_p1, .inr (2, [.int p1_units, .int p1_ties, .int p1_digs, .int p1_sights, .int p1_events, .ref q_p1_traits, .ref q_p1_upper, .ref q_p1_lower, .ref q_p1_digRow, .ref q_p1_heldUnit, .ref q_p1_heldKind, .ref q_p1_seenFirst, .ref q_p1_seenSecond, .ref q_p1_seenIs, .ref q_p1_eventWhat, .ref q_p1_eventUnit])), (q_p1_traits, .inl (gI G, 60, .inl p1_traits)), (q_p1_upper, .inl (gI G, 40, .inl p1_upper)), (q_p1_lower, .inl (gI G, 40, .inl p1_lower)), (q_p1_digRow, .inl (gI G, 12, .inl p1_digRow)), (q_p1_heldUnit, .inl (gI G, 12, .inl p1_heldUnit)), (q_p1_heldKind, .inl (gI G, 12, .inl p1_heldKind)), (q_p1_seenFirst, .inl (gI G, 5, .inl p1_seenFirst)), (q_p1_seenSecond, .inl (gI G, 5, .inl p1_seenSecond)), (q_p1_seenIs, .inl (gZ G, 5, .inl p1_seenIs)), (q_p1_eventWhat, .inl (gI G, 8, .inl p1_eventWhat)), (q_p1_eventUnit, .inl (gI G, 8, .inl p1_eventUnit))]) hx hb hts hown hK hP hD hS 0 rfl (Nat.le_of_ble_eq_true rfl) dX2_become_5 rfl (fun H locs hP hD hS => ?_)
  refine lv_aload_n hx hb dX2_become_8 rfl (lv_at hl 0 rfl) ?_
  refine lv_aload_n hx hb dX2_become_9 rfl (lv_at hl 1 rfl) ?_
  refine gf_X2_15 (v := .int p1_ties) hx hb hts hown hK hP 12 rfl rfl dX2_become_10 ?_
  refine pf_X2_15 (W1 := [(q_this, .inr (2, [.int p1_units, .int p1_ties, .int f_digs, .int f_sights, .int f_events, .ref q_traits, .ref q_upper, .ref q_lower, .ref q_digRow, .ref q_heldUnit, .ref q_heldKind, .ref q_seenFirst, .ref q_seenSecond, .ref q_seenIs, .ref q_eventWhat, .ref q_eventUnit])), (q_traits, .inl (gI G, 60, .inl f_traits)), (q_upper, .inl (gI G, 40, .inl f_upper)), (q_lower, .inl (gI G, 40, .inl f_lower)), (q_digRow, .inl (gI G, 12, .inl f_digRow)), (q_heldUnit, .inl (gI G, 12, .inl f_heldUnit)), (q_heldKind, .inl (gI G, 12, .inl f_heldKind)), (q_seenFirst, .inl (gI G, 5, .inl f_seenFirst)), (q_seenSecond, .inl (gI G, 5, .inl f_seenSecond)), (q_seenIs, .inl (gZ G, 5, .inl f_seenIs)), (q_eventWhat, .inl (gI G, 8, .inl f_eventWhat)), (q_eventUnit, .inl (gI G, 8, .inl f_eventUnit)), (q_p1, .inr (2, [.int p1_units, .int p1_ties, .int p1_digs, .int p1_sights, .int p1_events, .ref q_p1_traits, .ref q_p1_upper, .ref q_p1_lower, .ref q_p1_digRow, .ref q_p1_heldUnit, .ref q_p1_heldKind, .ref q_p1_seenFirst, .ref q_p1_seenSecond, .ref q_p1_seenIs, .ref q_p1_eventWhat, .ref q_p1_eventUnit])), (q_p1_traits, .inl (gI G, 60, .inl p1_traits)), (q_p1_upper, .inl (gI G, 40, .inl p1_upper)), (q_p1_lower, .inl (gI G, 40, .inl p1_lower)), (q_p1_digRow, .inl (gI G, 12, .inl p1_digRow)), (q_p1_heldUnit, .inl (gI G, 12, .inl p1_heldUnit)), (q_p1_heldKind, .inl (gI G, 12, .inl p1_heldKind)), (q_p1_seenFirst, .inl (gI G, 5, .inl p1_seenFirst)), (q_p1_seenSecond, .inl (gI G, 5, .inl p1_seenSecond)), (q_p1_seenIs, .inl (gZ G, 5, .inl p1_seenIs)), (q_p1_eventWhat, .inl (gI G, 8, .inl p1_eventWhat)), (q_p1_eventUnit, .inl (gI G, 8, .inl p1_eventUnit))]) hx hb hts hown hK hP hD hS 0 rfl (Nat.le_of_ble_eq_true rfl) dX2_become_13 rfl (fun H locs hP hD hS => ?_)
  refine lv_aload_n hx hb dX2_become_16 rfl (lv_at hl 0 rfl) ?_
  refine lv_aload_n hx hb dX2_become_17 rfl (lv_at hl 1 rfl) ?_
  refine gf_X2_18 (v := .int p1_digs) hx hb hts hown hK hP 12 rfl rfl dX2_become_18 ?_
  refine pf_X2_18 (W1 := [(q_this, .inr (2, [.int p1_units, .int p1_ties, .int p1_digs, .int f_sights, .int f_events, .ref q_traits, .ref q_upper, .ref q_lower, .ref q_digRow, .ref q_heldUnit, .ref q_heldKind, .ref q_seenFirst, .ref q_seenSecond, .ref q_seenIs, .ref q_eventWhat, .ref q_eventUnit])), (q_traits, .inl (gI G, 60, .inl f_traits)), (q_upper, .inl (gI G, 40, .inl f_upper)), (q_lower, .inl (gI G, 40, .inl f_lower)), (q_digRow, .inl (gI G, 12, .inl f_digRow)), (q_heldUnit, .inl (gI G, 12, .inl f_heldUnit)), (q_heldKind, .inl (gI G, 12, .inl f_heldKind)), (q_seenFirst, .inl (gI G, 5, .inl f_seenFirst)), (q_seenSecond, .inl (gI G, 5, .inl f_seenSecond)), (q_seenIs, .inl (gZ G, 5, .inl f_seenIs)), (q_eventWhat, .inl (gI G, 8, .inl f_eventWhat)), (q_eventUnit, .inl (gI G, 8, .inl f_eventUnit)), (q_p1, .inr (2, [.int p1_units, .int p1_ties, .int p1_digs, .int p1_sights, .int p1_events, .ref q_p1_traits, .ref q_p1_upper, .ref q_p1_lower, .ref q_p1_digRow, .ref q_p1_heldUnit, .ref q_p1_heldKind, .ref q_p1_seenFirst, .ref q_p1_seenSecond, .ref q_p1_seenIs, .ref q_p1_eventWhat, .ref q_p1_eventUnit])), (q_p1_traits, .inl (gI G, 60, .inl p1_traits)), (q_p1_upper, .inl (gI G, 40, .inl p1_upper)), (q_p1_lower, .inl (gI G, 40, .inl p1_lower)), (q_p1_digRow, .inl (gI G, 12, .inl p1_digRow)), (q_p1_heldUnit, .inl (gI G, 12, .inl p1_heldUnit)), (q_p1_heldKind, .inl (gI G, 12, .inl p1_heldKind)), (q_p1_seenFirst, .inl (gI G, 5, .inl p1_seenFirst)), (q_p1_seenSecond, .inl (gI G, 5, .inl p1_seenSecond)), (q_p1_seenIs, .inl (gZ G, 5, .inl p1_seenIs)), (q_p1_eventWhat, .inl (gI G, 8, .inl p1_eventWhat)), (q_p1_eventUnit, .inl (gI G, 8, .inl p1_eventUnit))]) hx hb hts hown hK hP hD hS 0 rfl (Nat.le_of_ble_eq_true rfl) dX2_become_21 rfl (fun H locs hP hD hS => ?_)
  refine lv_aload_n hx hb dX2_become_24 rfl (lv_at hl 0 rfl) ?_
  refine lv_aload_n hx hb dX2_become_25 rfl (lv_at hl 1 rfl) ?_
  refine gf_X2_21 (v := .int p1_sights) hx hb hts hown hK hP 12 rfl rfl dX2_become_26 ?_
  refine pf_X2_21 (W1 := [(q_this, .inr (2, [.int p1_units, .int p1_ties, .int p1_digs, .int p1_sights, .int f_events, .ref q_traits, .ref q_upper, .ref q_lower, .ref q_digRow, .ref q_heldUnit, .ref q_heldKind, .ref q_seenFirst, .ref q_seenSecond, .ref q_seenIs, .ref q_eventWhat, .ref q_eventUnit])), (q_traits, .inl (gI G, 60, .inl f_traits)), (q_upper, .inl (gI G, 40, .inl f_upper)), (q_lower, .inl (gI G, 40, .inl f_lower)), (q_digRow, .inl (gI G, 12, .inl f_digRow)), (q_heldUnit, .inl (gI G, 12, .inl f_heldUnit)), (q_heldKind, .inl (gI G, 12, .inl f_heldKind)), (q_seenFirst, .inl (gI G, 5, .inl f_seenFirst)), (q_seenSecond, .inl (gI G, 5, .inl f_seenSecond)), (q_seenIs, .inl (gZ G, 5, .inl f_seenIs)), (q_eventWhat, .inl (gI G, 8, .inl f_eventWhat)), (q_eventUnit, .inl (gI G, 8, .inl f_eventUnit)), (q_p1, .inr (2, [.int p1_units, .int p1_ties, .int p1_digs, .int p1_sights, .int p1_events, .ref q_p1_traits, .ref q_p1_upper, .ref q_p1_lower, .ref q_p1_digRow, .ref q_p1_heldUnit, .ref q_p1_heldKind, .ref q_p1_seenFirst, .ref q_p1_seenSecond, .ref q_p1_seenIs, .ref q_p1_eventWhat, .ref q_p1_eventUnit])), (q_p1_traits, .inl (gI G, 60, .inl p1_traits)), (q_p1_upper, .inl (gI G, 40, .inl p1_upper)), (q_p1_lower, .inl (gI G, 40, .inl p1_lower)), (q_p1_digRow, .inl (gI G, 12, .inl p1_digRow)), (q_p1_heldUnit, .inl (gI G, 12, .inl p1_heldUnit)), (q_p1_heldKind, .inl (gI G, 12, .inl p1_heldKind)), (q_p1_seenFirst, .inl (gI G, 5, .inl p1_seenFirst)), (q_p1_seenSecond, .inl (gI G, 5, .inl p1_seenSecond)), (q_p1_seenIs, .inl (gZ G, 5, .inl p1_seenIs)), (q_p1_eventWhat, .inl (gI G, 8, .inl p1_eventWhat)), (q_p1_eventUnit, .inl (gI G, 8, .inl p1_eventUnit))]) hx hb hts hown hK hP hD hS 0 rfl (Nat.le_of_ble_eq_true rfl) dX2_become_29 rfl (fun H locs hP hD hS => ?_)
  refine lv_aload_n hx hb dX2_become_32 rfl (lv_at hl 0 rfl) ?_
  refine lv_aload_n hx hb dX2_become_33 rfl (lv_at hl 1 rfl) ?_
  refine gf_X2_24 (v := .int p1_events) hx hb hts hown hK hP 12 rfl rfl dX2_become_34 ?_
  refine pf_X2_24 (W1 := [(q_this, .inr (2, [.int p1_units, .int p1_ties, .int p1_digs, .int p1_sights, .int p1_events, .ref q_traits, .ref q_upper, .ref q_lower, .ref q_digRow, .ref q_heldUnit, .ref q_heldKind, .ref q_seenFirst, .ref q_seenSecond, .ref q_seenIs, .ref q_eventWhat, .ref q_eventUnit])), (q_traits, .inl (gI G, 60, .inl f_traits)), (q_upper, .inl (gI G, 40, .inl f_upper)), (q_lower, .inl (gI G, 40, .inl f_lower)), (q_digRow, .inl (gI G, 12, .inl f_digRow)), (q_heldUnit, .inl (gI G, 12, .inl f_heldUnit)), (q_heldKind, .inl (gI G, 12, .inl f_heldKind)), (q_seenFirst, .inl (gI G, 5, .inl f_seenFirst)), (q_seenSecond, .inl (gI G, 5, .inl f_seenSecond)), (q_seenIs, .inl (gZ G, 5, .inl f_seenIs)), (q_eventWhat, .inl (gI G, 8, .inl f_eventWhat)), (q_eventUnit, .inl (gI G, 8, .inl f_eventUnit)), (q_p1, .inr (2, [.int p1_units, .int p1_ties, .int p1_digs, .int p1_sights, .int p1_events, .ref q_p1_traits, .ref q_p1_upper, .ref q_p1_lower, .ref q_p1_digRow, .ref q_p1_heldUnit, .ref q_p1_heldKind, .ref q_p1_seenFirst, .ref q_p1_seenSecond, .ref q_p1_seenIs, .ref q_p1_eventWhat, .ref q_p1_eventUnit])), (q_p1_traits, .inl (gI G, 60, .inl p1_traits)), (q_p1_upper, .inl (gI G, 40, .inl p1_upper)), (q_p1_lower, .inl (gI G, 40, .inl p1_lower)), (q_p1_digRow, .inl (gI G, 12, .inl p1_digRow)), (q_p1_heldUnit, .inl (gI G, 12, .inl p1_heldUnit)), (q_p1_heldKind, .inl (gI G, 12, .inl p1_heldKind)), (q_p1_seenFirst, .inl (gI G, 5, .inl p1_seenFirst)), (q_p1_seenSecond, .inl (gI G, 5, .inl p1_seenSecond)), (q_p1_seenIs, .inl (gZ G, 5, .inl p1_seenIs)), (q_p1_eventWhat, .inl (gI G, 8, .inl p1_eventWhat)), (q_p1_eventUnit, .inl (gI G, 8, .inl p1_eventUnit))]) hx hb hts hown hK hP hD hS 0 rfl (Nat.le_of_ble_eq_true rfl) dX2_become_37 rfl (fun H locs hP hD hS => ?_)
  refine lv_aload_n hx hb dX2_become_40 rfl (lv_at hl 1 rfl) ?_
  refine gf_X2_27 (v := .ref q_p1_traits) hx hb hts hown hK hP 12 rfl rfl dX2_become_41 ?_
  refine lv_aload_n hx hb dX2_become_44 rfl (lv_at hl 0 rfl) ?_
  refine gf_X2_27 (v := .ref q_traits) hx hb hts hown hK hP 0 rfl rfl dX2_become_45 ?_
  obtain ⟨r_1, h_2, hm⟩ := cl_elim hm
  refine w_callS (As := [.ref q_p1_traits, .ref q_traits]) (rest := []) (wr := [(q_this, .inr (2, [.int p1_units, .int p1_ties, .int p1_digs, .int p1_sights, .int p1_events, .ref q_traits, .ref q_upper, .ref q_lower, .ref q_digRow, .ref q_heldUnit, .ref q_heldKind, .ref q_seenFirst, .ref q_seenSecond, .ref q_seenIs, .ref q_eventWhat, .ref q_eventUnit])), (q_upper, .inl (gI G, 40, .inl f_upper)), (q_lower, .inl (gI G, 40, .inl f_lower)), (q_digRow, .inl (gI G, 12, .inl f_digRow)), (q_heldUnit, .inl (gI G, 12, .inl f_heldUnit)), (q_heldKind, .inl (gI G, 12, .inl f_heldKind)), (q_seenFirst, .inl (gI G, 5, .inl f_seenFirst)), (q_seenSecond, .inl (gI G, 5, .inl f_seenSecond)), (q_seenIs, .inl (gZ G, 5, .inl f_seenIs)), (q_eventWhat, .inl (gI G, 8, .inl f_eventWhat)), (q_eventUnit, .inl (gI G, 8, .inl f_eventUnit)), (q_p1, .inr (2, [.int p1_units, .int p1_ties, .int p1_digs, .int p1_sights, .int p1_events, .ref q_p1_traits, .ref q_p1_upper, .ref q_p1_lower, .ref q_p1_digRow, .ref q_p1_heldUnit, .ref q_p1_heldKind, .ref q_p1_seenFirst, .ref q_p1_seenSecond, .ref q_p1_seenIs, .ref q_p1_eventWhat, .ref q_p1_eventUnit])), (q_p1_upper, .inl (gI G, 40, .inl p1_upper)), (q_p1_lower, .inl (gI G, 40, .inl p1_lower)), (q_p1_digRow, .inl (gI G, 12, .inl p1_digRow)), (q_p1_heldUnit, .inl (gI G, 12, .inl p1_heldUnit)), (q_p1_heldKind, .inl (gI G, 12, .inl p1_heldKind)), (q_p1_seenFirst, .inl (gI G, 5, .inl p1_seenFirst)), (q_p1_seenSecond, .inl (gI G, 5, .inl p1_seenSecond)), (q_p1_seenIs, .inl (gZ G, 5, .inl p1_seenIs)), (q_p1_eventWhat, .inl (gI G, 8, .inl p1_eventWhat)), (q_p1_eventUnit, .inl (gI G, 8, .inl p1_eventUnit))]) (W1 := [(q_this, .inr (2, [.int p1_units, .int p1_ties, .int p1_digs, .int p1_sights, .int p1_events, .ref q_traits, .ref q_upper, .ref q_lower, .ref q_digRow, .ref q_heldUnit, .ref q_heldKind, .ref q_seenFirst, .ref q_seenSecond, .ref q_seenIs, .ref q_eventWhat, .ref q_eventUnit])), (q_traits, .inl (gI G, 60, .inl r_1)), (q_upper, .inl (gI G, 40, .inl f_upper)), (q_lower, .inl (gI G, 40, .inl f_lower)), (q_digRow, .inl (gI G, 12, .inl f_digRow)), (q_heldUnit, .inl (gI G, 12, .inl f_heldUnit)), (q_heldKind, .inl (gI G, 12, .inl f_heldKind)), (q_seenFirst, .inl (gI G, 5, .inl f_seenFirst)), (q_seenSecond, .inl (gI G, 5, .inl f_seenSecond)), (q_seenIs, .inl (gZ G, 5, .inl f_seenIs)), (q_eventWhat, .inl (gI G, 8, .inl f_eventWhat)), (q_eventUnit, .inl (gI G, 8, .inl f_eventUnit)), (q_p1, .inr (2, [.int p1_units, .int p1_ties, .int p1_digs, .int p1_sights, .int p1_events, .ref q_p1_traits, .ref q_p1_upper, .ref q_p1_lower, .ref q_p1_digRow, .ref q_p1_heldUnit, .ref q_p1_heldKind, .ref q_p1_seenFirst, .ref q_p1_seenSecond, .ref q_p1_seenIs, .ref q_p1_eventWhat, .ref q_p1_eventUnit])), (q_p1_traits, .inl (gI G, 60, .inl p1_traits)), (q_p1_upper, .inl (gI G, 40, .inl p1_upper)), (q_p1_lower, .inl (gI G, 40, .inl p1_lower)), (q_p1_digRow, .inl (gI G, 12, .inl p1_digRow)), (q_p1_heldUnit, .inl (gI G, 12, .inl p1_heldUnit)), (q_p1_heldKind, .inl (gI G, 12, .inl p1_heldKind)), (q_p1_seenFirst, .inl (gI G, 5, .inl p1_seenFirst)), (q_p1_seenSecond, .inl (gI G, 5, .inl p1_seenSecond)), (q_p1_seenIs, .inl (gZ G, 5, .inl p1_seenIs)), (q_p1_eventWhat, .inl (gI G, 8, .inl p1_eventWhat)), (q_p1_eventUnit, .inl (gI G, 8, .inl p1_eventUnit))]) hx hb hml hown hts hK hG hP hD hS hA (c_X2_copyRow G l q_p1_traits p1_traits q_traits f_traits 60 60 h_2) kc_X2_copyRow ks_X2_copyRow bw887 rfl hl.1 rfl (Nat.le_of_ble_eq_true rfl) dX2_become_48 (Nat.le_of_ble_eq_true rfl) (Nat.le_of_ble_eq_true rfl) ⟨Nat.le_refl _, Nat.le_refl _⟩ [13, 1] [0, 2, 3, 4, 5, 6, 7, 8, 9, 10, 11, 12, 14, 15, 16, 17, 18, 19, 20, 21, 22, 23] [0, 23, 1, 2, 3, 4, 5, 6, 7, 8, 9, 10, 11, 22, 12, 13, 14, 15, 16, 17, 18, 19, 20, 21] rfl rfl rfl rfl (by decide) rfl rfl (fun H locs hP hD hS => ?_)
  refine lv_aload_n hx hb dX2_become_51 rfl (lv_at hl 1 rfl) ?_
  refine gf_X2_31 (v := .ref q_p1_upper) hx hb hts hown hK hP 12 rfl rfl dX2_become_52 ?_
  refine lv_aload_n hx hb dX2_become_55 rfl (lv_at hl 0 rfl) ?_
  refine gf_X2_31 (v := .ref q_upper) hx hb hts hown hK hP 0 rfl rfl dX2_become_56 ?_
  obtain ⟨r_3, h_4, hm⟩ := cl_elim hm
  refine w_callS (As := [.ref q_p1_upper, .ref q_upper]) (rest := []) (wr := [(q_this, .inr (2, [.int p1_units, .int p1_ties, .int p1_digs, .int p1_sights, .int p1_events, .ref q_traits, .ref q_upper, .ref q_lower, .ref q_digRow, .ref q_heldUnit, .ref q_heldKind, .ref q_seenFirst, .ref q_seenSecond, .ref q_seenIs, .ref q_eventWhat, .ref q_eventUnit])), (q_traits, .inl (gI G, 60, .inl r_1)), (q_lower, .inl (gI G, 40, .inl f_lower)), (q_digRow, .inl (gI G, 12, .inl f_digRow)), (q_heldUnit, .inl (gI G, 12, .inl f_heldUnit)), (q_heldKind, .inl (gI G, 12, .inl f_heldKind)), (q_seenFirst, .inl (gI G, 5, .inl f_seenFirst)), (q_seenSecond, .inl (gI G, 5, .inl f_seenSecond)), (q_seenIs, .inl (gZ G, 5, .inl f_seenIs)), (q_eventWhat, .inl (gI G, 8, .inl f_eventWhat)), (q_eventUnit, .inl (gI G, 8, .inl f_eventUnit)), (q_p1, .inr (2, [.int p1_units, .int p1_ties, .int p1_digs, .int p1_sights, .int p1_events, .ref q_p1_traits, .ref q_p1_upper, .ref q_p1_lower, .ref q_p1_digRow, .ref q_p1_heldUnit, .ref q_p1_heldKind, .ref q_p1_seenFirst, .ref q_p1_seenSecond, .ref q_p1_seenIs, .ref q_p1_eventWhat, .ref q_p1_eventUnit])), (q_p1_traits, .inl (gI G, 60, .inl p1_traits)), (q_p1_lower, .inl (gI G, 40, .inl p1_lower)), (q_p1_digRow, .inl (gI G, 12, .inl p1_digRow)), (q_p1_heldUnit, .inl (gI G, 12, .inl p1_heldUnit)), (q_p1_heldKind, .inl (gI G, 12, .inl p1_heldKind)), (q_p1_seenFirst, .inl (gI G, 5, .inl p1_seenFirst)), (q_p1_seenSecond, .inl (gI G, 5, .inl p1_seenSecond)), (q_p1_seenIs, .inl (gZ G, 5, .inl p1_seenIs)), (q_p1_eventWhat, .inl (gI G, 8, .inl p1_eventWhat)), (q_p1_eventUnit, .inl (gI G, 8, .inl p1_eventUnit))]) (W1 := [(q_this, .inr (2, [.int p1_units, .int p1_ties, .int p1_digs, .int p1_sights, .int p1_events, .ref q_traits, .ref q_upper, .ref q_lower, .ref q_digRow, .ref q_heldUnit, .ref q_heldKind, .ref q_seenFirst, .ref q_seenSecond, .ref q_seenIs, .ref q_eventWhat, .ref q_eventUnit])), (q_traits, .inl (gI G, 60, .inl r_1)), (q_upper, .inl (gI G, 40, .inl r_3)), (q_lower, .inl (gI G, 40, .inl f_lower)), (q_digRow, .inl (gI G, 12, .inl f_digRow)), (q_heldUnit, .inl (gI G, 12, .inl f_heldUnit)), (q_heldKind, .inl (gI G, 12, .inl f_heldKind)), (q_seenFirst, .inl (gI G, 5, .inl f_seenFirst)), (q_seenSecond, .inl (gI G, 5, .inl f_seenSecond)), (q_seenIs, .inl (gZ G, 5, .inl f_seenIs)), (q_eventWhat, .inl (gI G, 8, .inl f_eventWhat)), (q_eventUnit, .inl (gI G, 8, .inl f_eventUnit)), (q_p1, .inr (2, [.int p1_units, .int p1_ties, .int p1_digs, .int p1_sights, .int p1_events, .ref q_p1_traits, .ref q_p1_upper, .ref q_p1_lower, .ref q_p1_digRow, .ref q_p1_heldUnit, .ref q_p1_heldKind, .ref q_p1_seenFirst, .ref q_p1_seenSecond, .ref q_p1_seenIs, .ref q_p1_eventWhat, .ref q_p1_eventUnit])), (q_p1_traits, .inl (gI G, 60, .inl p1_traits)), (q_p1_upper, .inl (gI G, 40, .inl p1_upper)), (q_p1_lower, .inl (gI G, 40, .inl p1_lower)), (q_p1_digRow, .inl (gI G, 12, .inl p1_digRow)), (q_p1_heldUnit, .inl (gI G, 12, .inl p1_heldUnit)), (q_p1_heldKind, .inl (gI G, 12, .inl p1_heldKind)), (q_p1_seenFirst, .inl (gI G, 5, .inl p1_seenFirst)), (q_p1_seenSecond, .inl (gI G, 5, .inl p1_seenSecond)), (q_p1_seenIs, .inl (gZ G, 5, .inl p1_seenIs)), (q_p1_eventWhat, .inl (gI G, 8, .inl p1_eventWhat)), (q_p1_eventUnit, .inl (gI G, 8, .inl p1_eventUnit))]) hx hb hml hown hts hK hG hP hD hS hA (c_X2_copyRow G l q_p1_upper p1_upper q_upper f_upper 40 40 h_4) kc_X2_copyRow ks_X2_copyRow bw887 rfl hl.1 rfl (Nat.le_of_ble_eq_true rfl) dX2_become_59 (Nat.le_of_ble_eq_true rfl) (Nat.le_of_ble_eq_true rfl) ⟨Nat.le_refl _, Nat.le_refl _⟩ [14, 2] [0, 1, 3, 4, 5, 6, 7, 8, 9, 10, 11, 12, 13, 15, 16, 17, 18, 19, 20, 21, 22, 23] [0, 1, 23, 2, 3, 4, 5, 6, 7, 8, 9, 10, 11, 12, 22, 13, 14, 15, 16, 17, 18, 19, 20, 21] rfl rfl rfl rfl (by decide) rfl rfl (fun H locs hP hD hS => ?_)
  refine lv_aload_n hx hb dX2_become_62 rfl (lv_at hl 1 rfl) ?_
  refine gf_X2_34 (v := .ref q_p1_lower) hx hb hts hown hK hP 12 rfl rfl dX2_become_63 ?_
  refine lv_aload_n hx hb dX2_become_66 rfl (lv_at hl 0 rfl) ?_
  refine gf_X2_34 (v := .ref q_lower) hx hb hts hown hK hP 0 rfl rfl dX2_become_67 ?_
  obtain ⟨r_5, h_6, hm⟩ := cl_elim hm
  refine w_callS (As := [.ref q_p1_lower, .ref q_lower]) (rest := []) (wr := [(q_this, .inr (2, [.int p1_units, .int p1_ties, .int p1_digs, .int p1_sights, .int p1_events, .ref q_traits, .ref q_upper, .ref q_lower, .ref q_digRow, .ref q_heldUnit, .ref q_heldKind, .ref q_seenFirst, .ref q_seenSecond, .ref q_seenIs, .ref q_eventWhat, .ref q_eventUnit])), (q_traits, .inl (gI G, 60, .inl r_1)), (q_upper, .inl (gI G, 40, .inl r_3)), (q_digRow, .inl (gI G, 12, .inl f_digRow)), (q_heldUnit, .inl (gI G, 12, .inl f_heldUnit)), (q_heldKind, .inl (gI G, 12, .inl f_heldKind)), (q_seenFirst, .inl (gI G, 5, .inl f_seenFirst)), (q_seenSecond, .inl (gI G, 5, .inl f_seenSecond)), (q_seenIs, .inl (gZ G, 5, .inl f_seenIs)), (q_eventWhat, .inl (gI G, 8, .inl f_eventWhat)), (q_eventUnit, .inl (gI G, 8, .inl f_eventUnit)), (q_p1, .inr (2, [.int p1_units, .int p1_ties, .int p1_digs, .int p1_sights, .int p1_events, .ref q_p1_traits, .ref q_p1_upper, .ref q_p1_lower, .ref q_p1_digRow, .ref q_p1_heldUnit, .ref q_p1_heldKind, .ref q_p1_seenFirst, .ref q_p1_seenSecond, .ref q_p1_seenIs, .ref q_p1_eventWhat, .ref q_p1_eventUnit])), (q_p1_traits, .inl (gI G, 60, .inl p1_traits)), (q_p1_upper, .inl (gI G, 40, .inl p1_upper)), (q_p1_digRow, .inl (gI G, 12, .inl p1_digRow)), (q_p1_heldUnit, .inl (gI G, 12, .inl p1_heldUnit)), (q_p1_heldKind, .inl (gI G, 12, .inl p1_heldKind)), (q_p1_seenFirst, .inl (gI G, 5, .inl p1_seenFirst)), (q_p1_seenSecond, .inl (gI G, 5, .inl p1_seenSecond)), (q_p1_seenIs, .inl (gZ G, 5, .inl p1_seenIs)), (q_p1_eventWhat, .inl (gI G, 8, .inl p1_eventWhat)), (q_p1_eventUnit, .inl (gI G, 8, .inl p1_eventUnit))]) (W1 := [(q_this, .inr (2, [.int p1_units, .int p1_ties, .int p1_digs, .int p1_sights, .int p1_events, .ref q_traits, .ref q_upper, .ref q_lower, .ref q_digRow, .ref q_heldUnit, .ref q_heldKind, .ref q_seenFirst, .ref q_seenSecond, .ref q_seenIs, .ref q_eventWhat, .ref q_eventUnit])), (q_traits, .inl (gI G, 60, .inl r_1)), (q_upper, .inl (gI G, 40, .inl r_3)), (q_lower, .inl (gI G, 40, .inl r_5)), (q_digRow, .inl (gI G, 12, .inl f_digRow)), (q_heldUnit, .inl (gI G, 12, .inl f_heldUnit)), (q_heldKind, .inl (gI G, 12, .inl f_heldKind)), (q_seenFirst, .inl (gI G, 5, .inl f_seenFirst)), (q_seenSecond, .inl (gI G, 5, .inl f_seenSecond)), (q_seenIs, .inl (gZ G, 5, .inl f_seenIs)), (q_eventWhat, .inl (gI G, 8, .inl f_eventWhat)), (q_eventUnit, .inl (gI G, 8, .inl f_eventUnit)), (q_p1, .inr (2, [.int p1_units, .int p1_ties, .int p1_digs, .int p1_sights, .int p1_events, .ref q_p1_traits, .ref q_p1_upper, .ref q_p1_lower, .ref q_p1_digRow, .ref q_p1_heldUnit, .ref q_p1_heldKind, .ref q_p1_seenFirst, .ref q_p1_seenSecond, .ref q_p1_seenIs, .ref q_p1_eventWhat, .ref q_p1_eventUnit])), (q_p1_traits, .inl (gI G, 60, .inl p1_traits)), (q_p1_upper, .inl (gI G, 40, .inl p1_upper)), (q_p1_lower, .inl (gI G, 40, .inl p1_lower)), (q_p1_digRow, .inl (gI G, 12, .inl p1_digRow)), (q_p1_heldUnit, .inl (gI G, 12, .inl p1_heldUnit)), (q_p1_heldKind, .inl (gI G, 12, .inl p1_heldKind)), (q_p1_seenFirst, .inl (gI G, 5, .inl p1_seenFirst)), (q_p1_seenSecond, .inl (gI G, 5, .inl p1_seenSecond)), (q_p1_seenIs, .inl (gZ G, 5, .inl p1_seenIs)), (q_p1_eventWhat, .inl (gI G, 8, .inl p1_eventWhat)), (q_p1_eventUnit, .inl (gI G, 8, .inl p1_eventUnit))]) hx hb hml hown hts hK hG hP hD hS hA (c_X2_copyRow G l q_p1_lower p1_lower q_lower f_lower 40 40 h_6) kc_X2_copyRow ks_X2_copyRow bw887 rfl hl.1 rfl (Nat.le_of_ble_eq_true rfl) dX2_become_70 (Nat.le_of_ble_eq_true rfl) (Nat.le_of_ble_eq_true rfl) ⟨Nat.le_refl _, Nat.le_refl _⟩ [15, 3] [0, 1, 2, 4, 5, 6, 7, 8, 9, 10, 11, 12, 13, 14, 16, 17, 18, 19, 20, 21, 22, 23] [0, 1, 2, 23, 3, 4, 5, 6, 7, 8, 9, 10, 11, 12, 13, 22, 14, 15, 16, 17, 18, 19, 20, 21] rfl rfl rfl rfl (by decide) rfl rfl (fun H locs hP hD hS => ?_)
  refine lv_aload_n hx hb dX2_become_73 rfl (lv_at hl 1 rfl) ?_
  refine gf_X2_37 (v := .ref q_p1_digRow) hx hb hts hown hK hP 12 rfl rfl dX2_become_74 ?_
  refine lv_aload_n hx hb dX2_become_77 rfl (lv_at hl 0 rfl) ?_
  refine gf_X2_37 (v := .ref q_digRow) hx hb hts hown hK hP 0 rfl rfl dX2_become_78 ?_
  obtain ⟨r_7, h_8, hm⟩ := cl_elim hm
  refine w_callS (As := [.ref q_p1_digRow, .ref q_digRow]) (rest := []) (wr := [(q_this, .inr (2, [.int p1_units, .int p1_ties, .int p1_digs, .int p1_sights, .int p1_events, .ref q_traits, .ref q_upper, .ref q_lower, .ref q_digRow, .ref q_heldUnit, .ref q_heldKind, .ref q_seenFirst, .ref q_seenSecond, .ref q_seenIs, .ref q_eventWhat, .ref q_eventUnit])), (q_traits, .inl (gI G, 60, .inl r_1)), (q_upper, .inl (gI G, 40, .inl r_3)), (q_lower, .inl (gI G, 40, .inl r_5)), (q_heldUnit, .inl (gI G, 12, .inl f_heldUnit)), (q_heldKind, .inl (gI G, 12, .inl f_heldKind)), (q_seenFirst, .inl (gI G, 5, .inl f_seenFirst)), (q_seenSecond, .inl (gI G, 5, .inl f_seenSecond)), (q_seenIs, .inl (gZ G, 5, .inl f_seenIs)), (q_eventWhat, .inl (gI G, 8, .inl f_eventWhat)), (q_eventUnit, .inl (gI G, 8, .inl f_eventUnit)), (q_p1, .inr (2, [.int p1_units, .int p1_ties, .int p1_digs, .int p1_sights, .int p1_events, .ref q_p1_traits, .ref q_p1_upper, .ref q_p1_lower, .ref q_p1_digRow, .ref q_p1_heldUnit, .ref q_p1_heldKind, .ref q_p1_seenFirst, .ref q_p1_seenSecond, .ref q_p1_seenIs, .ref q_p1_eventWhat, .ref q_p1_eventUnit])), (q_p1_traits, .inl (gI G, 60, .inl p1_traits)), (q_p1_upper, .inl (gI G, 40, .inl p1_upper)), (q_p1_lower, .inl (gI G, 40, .inl p1_lower)), (q_p1_heldUnit, .inl (gI G, 12, .inl p1_heldUnit)), (q_p1_heldKind, .inl (gI G, 12, .inl p1_heldKind)), (q_p1_seenFirst, .inl (gI G, 5, .inl p1_seenFirst)), (q_p1_seenSecond, .inl (gI G, 5, .inl p1_seenSecond)), (q_p1_seenIs, .inl (gZ G, 5, .inl p1_seenIs)), (q_p1_eventWhat, .inl (gI G, 8, .inl p1_eventWhat)), (q_p1_eventUnit, .inl (gI G, 8, .inl p1_eventUnit))]) (W1 := [(q_this, .inr (2, [.int p1_units, .int p1_ties, .int p1_digs, .int p1_sights, .int p1_events, .ref q_traits, .ref q_upper, .ref q_lower, .ref q_digRow, .ref q_heldUnit, .ref q_heldKind, .ref q_seenFirst, .ref q_seenSecond, .ref q_seenIs, .ref q_eventWhat, .ref q_eventUnit])), (q_traits, .inl (gI G, 60, .inl r_1)), (q_upper, .inl (gI G, 40, .inl r_3)), (q_lower, .inl (gI G, 40, .inl r_5)), (q_digRow, .inl (gI G, 12, .inl r_7)), (q_heldUnit, .inl (gI G, 12, .inl f_heldUnit)), (q_heldKind, .inl (gI G, 12, .inl f_heldKind)), (q_seenFirst, .inl (gI G, 5, .inl f_seenFirst)), (q_seenSecond, .inl (gI G, 5, .inl f_seenSecond)), (q_seenIs, .inl (gZ G, 5, .inl f_seenIs)), (q_eventWhat, .inl (gI G, 8, .inl f_eventWhat)), (q_eventUnit, .inl (gI G, 8, .inl f_eventUnit)), (q_p1, .inr (2, [.int p1_units, .int p1_ties, .int p1_digs, .int p1_sights, .int p1_events, .ref q_p1_traits, .ref q_p1_upper, .ref q_p1_lower, .ref q_p1_digRow, .ref q_p1_heldUnit, .ref q_p1_heldKind, .ref q_p1_seenFirst, .ref q_p1_seenSecond, .ref q_p1_seenIs, .ref q_p1_eventWhat, .ref q_p1_eventUnit])), (q_p1_traits, .inl (gI G, 60, .inl p1_traits)), (q_p1_upper, .inl (gI G, 40, .inl p1_upper)), (q_p1_lower, .inl (gI G, 40, .inl p1_lower)), (q_p1_digRow, .inl (gI G, 12, .inl p1_digRow)), (q_p1_heldUnit, .inl (gI G, 12, .inl p1_heldUnit)), (q_p1_heldKind, .inl (gI G, 12, .inl p1_heldKind)), (q_p1_seenFirst, .inl (gI G, 5, .inl p1_seenFirst)), (q_p1_seenSecond, .inl (gI G, 5, .inl p1_seenSecond)), (q_p1_seenIs, .inl (gZ G, 5, .inl p1_seenIs)), (q_p1_eventWhat, .inl (gI G, 8, .inl p1_eventWhat)), (q_p1_eventUnit, .inl (gI G, 8, .inl p1_eventUnit))]) hx hb hml hown hts hK hG hP hD hS hA (c_X2_copyRow G l q_p1_digRow p1_digRow q_digRow f_digRow 12 12 h_8) kc_X2_copyRow ks_X2_copyRow bw887 rfl hl.1 rfl (Nat.le_of_ble_eq_true rfl) dX2_become_81 (Nat.le_of_ble_eq_true rfl) (Nat.le_of_ble_eq_true rfl) ⟨Nat.le_refl _, Nat.le_refl _⟩ [16, 4] [0, 1, 2, 3, 5, 6, 7, 8, 9, 10, 11, 12, 13, 14, 15, 17, 18, 19, 20, 21, 22, 23] [0, 1, 2, 3, 23, 4, 5, 6, 7, 8, 9, 10, 11, 12, 13, 14, 22, 15, 16, 17, 18, 19, 20, 21] rfl rfl rfl rfl (by decide) rfl rfl (fun H locs hP hD hS => ?_)
  refine lv_aload_n hx hb dX2_become_84 rfl (lv_at hl 1 rfl) ?_
  refine gf_X2_40 (v := .ref q_p1_heldUnit) hx hb hts hown hK hP 12 rfl rfl dX2_become_85 ?_
  refine lv_aload_n hx hb dX2_become_88 rfl (lv_at hl 0 rfl) ?_
  refine gf_X2_40 (v := .ref q_heldUnit) hx hb hts hown hK hP 0 rfl rfl dX2_become_89 ?_
  obtain ⟨r_9, h_10, hm⟩ := cl_elim hm
  refine w_callS (As := [.ref q_p1_heldUnit, .ref q_heldUnit]) (rest := []) (wr := [(q_this, .inr (2, [.int p1_units, .int p1_ties, .int p1_digs, .int p1_sights, .int p1_events, .ref q_traits, .ref q_upper, .ref q_lower, .ref q_digRow, .ref q_heldUnit, .ref q_heldKind, .ref q_seenFirst, .ref q_seenSecond, .ref q_seenIs, .ref q_eventWhat, .ref q_eventUnit])), (q_traits, .inl (gI G, 60, .inl r_1)), (q_upper, .inl (gI G, 40, .inl r_3)), (q_lower, .inl (gI G, 40, .inl r_5)), (q_digRow, .inl (gI G, 12, .inl r_7)), (q_heldKind, .inl (gI G, 12, .inl f_heldKind)), (q_seenFirst, .inl (gI G, 5, .inl f_seenFirst)), (q_seenSecond, .inl (gI G, 5, .inl f_seenSecond)), (q_seenIs, .inl (gZ G, 5, .inl f_seenIs)), (q_eventWhat, .inl (gI G, 8, .inl f_eventWhat)), (q_eventUnit, .inl (gI G, 8, .inl f_eventUnit)), (q_p1, .inr (2, [.int p1_units, .int p1_ties, .int p1_digs, .int p1_sights, .int p1_events, .ref q_p1_traits, .ref q_p1_upper, .ref q_p1_lower, .ref q_p1_digRow, .ref q_p1_heldUnit, .ref q_p1_heldKind, .ref q_p1_seenFirst, .ref q_p1_seenSecond, .ref q_p1_seenIs, .ref q_p1_eventWhat, .ref q_p1_eventUnit])), (q_p1_traits, .inl (gI G, 60, .inl p1_traits)), (q_p1_upper, .inl (gI G, 40, .inl p1_upper)), (q_p1_lower, .inl (gI G, 40, .inl p1_lower)), (q_p1_digRow, .inl (gI G, 12, .inl p1_digRow)), (q_p1_heldKind, .inl (gI G, 12, .inl p1_heldKind)), (q_p1_seenFirst, .inl (gI G, 5, .inl p1_seenFirst)), (q_p1_seenSecond, .inl (gI G, 5, .inl p1_seenSecond)), (q_p1_seenIs, .inl (gZ G, 5, .inl p1_seenIs)), (q_p1_eventWhat, .inl (gI G, 8, .inl p1_eventWhat)), (q_p1_eventUnit, .inl (gI G, 8, .inl p1_eventUnit))]) (W1 := [(q_this, .inr (2, [.int p1_units, .int p1_ties, .int p1_digs, .int p1_sights, .int p1_events, .ref q_traits, .ref q_upper, .ref q_lower, .ref q_digRow, .ref q_heldUnit, .ref q_heldKind, .ref q_seenFirst, .ref q_seenSecond, .ref q_seenIs, .ref q_eventWhat, .ref q_eventUnit])), (q_traits, .inl (gI G, 60, .inl r_1)), (q_upper, .inl (gI G, 40, .inl r_3)), (q_lower, .inl (gI G, 40, .inl r_5)), (q_digRow, .inl (gI G, 12, .inl r_7)), (q_heldUnit, .inl (gI G, 12, .inl r_9)), (q_heldKind, .inl (gI G, 12, .inl f_heldKind)), (q_seenFirst, .inl (gI G, 5, .inl f_seenFirst)), (q_seenSecond, .inl (gI G, 5, .inl f_seenSecond)), (q_seenIs, .inl (gZ G, 5, .inl f_seenIs)), (q_eventWhat, .inl (gI G, 8, .inl f_eventWhat)), (q_eventUnit, .inl (gI G, 8, .inl f_eventUnit)), (q_p1, .inr (2, [.int p1_units, .int p1_ties, .int p1_digs, .int p1_sights, .int p1_events, .ref q_p1_traits, .ref q_p1_upper, .ref q_p1_lower, .ref q_p1_digRow, .ref q_p1_heldUnit, .ref q_p1_heldKind, .ref q_p1_seenFirst, .ref q_p1_seenSecond, .ref q_p1_seenIs, .ref q_p1_eventWhat, .ref q_p1_eventUnit])), (q_p1_traits, .inl (gI G, 60, .inl p1_traits)), (q_p1_upper, .inl (gI G, 40, .inl p1_upper)), (q_p1_lower, .inl (gI G, 40, .inl p1_lower)), (q_p1_digRow, .inl (gI G, 12, .inl p1_digRow)), (q_p1_heldUnit, .inl (gI G, 12, .inl p1_heldUnit)), (q_p1_heldKind, .inl (gI G, 12, .inl p1_heldKind)), (q_p1_seenFirst, .inl (gI G, 5, .inl p1_seenFirst)), (q_p1_seenSecond, .inl (gI G, 5, .inl p1_seenSecond)), (q_p1_seenIs, .inl (gZ G, 5, .inl p1_seenIs)), (q_p1_eventWhat, .inl (gI G, 8, .inl p1_eventWhat)), (q_p1_eventUnit, .inl (gI G, 8, .inl p1_eventUnit))]) hx hb hml hown hts hK hG hP hD hS hA (c_X2_copyRow G l q_p1_heldUnit p1_heldUnit q_heldUnit f_heldUnit 12 12 h_10) kc_X2_copyRow ks_X2_copyRow bw887 rfl hl.1 rfl (Nat.le_of_ble_eq_true rfl) dX2_become_92 (Nat.le_of_ble_eq_true rfl) (Nat.le_of_ble_eq_true rfl) ⟨Nat.le_refl _, Nat.le_refl _⟩ [17, 5] [0, 1, 2, 3, 4, 6, 7, 8, 9, 10, 11, 12, 13, 14, 15, 16, 18, 19, 20, 21, 22, 23] [0, 1, 2, 3, 4, 23, 5, 6, 7, 8, 9, 10, 11, 12, 13, 14, 15, 22, 16, 17, 18, 19, 20, 21] rfl rfl rfl rfl (by decide) rfl rfl (fun H locs hP hD hS => ?_)
  refine lv_aload_n hx hb dX2_become_95 rfl (lv_at hl 1 rfl) ?_
  refine gf_X2_43 (v := .ref q_p1_heldKind) hx hb hts hown hK hP 12 rfl rfl dX2_become_96 ?_
  refine lv_aload_n hx hb dX2_become_99 rfl (lv_at hl 0 rfl) ?_
  refine gf_X2_43 (v := .ref q_heldKind) hx hb hts hown hK hP 0 rfl rfl dX2_become_100 ?_
  obtain ⟨r_11, h_12, hm⟩ := cl_elim hm
  refine w_callS (As := [.ref q_p1_heldKind, .ref q_heldKind]) (rest := []) (wr := [(q_this, .inr (2, [.int p1_units, .int p1_ties, .int p1_digs, .int p1_sights, .int p1_events, .ref q_traits, .ref q_upper, .ref q_lower, .ref q_digRow, .ref q_heldUnit, .ref q_heldKind, .ref q_seenFirst, .ref q_seenSecond, .ref q_seenIs, .ref q_eventWhat, .ref q_eventUnit])), (q_traits, .inl (gI G, 60, .inl r_1)), (q_upper, .inl (gI G, 40, .inl r_3)), (q_lower, .inl (gI G, 40, .inl r_5)), (q_digRow, .inl (gI G, 12, .inl r_7)), (q_heldUnit, .inl (gI G, 12, .inl r_9)), (q_seenFirst, .inl (gI G, 5, .inl f_seenFirst)), (q_seenSecond, .inl (gI G, 5, .inl f_seenSecond)), (q_seenIs, .inl (gZ G, 5, .inl f_seenIs)), (q_eventWhat, .inl (gI G, 8, .inl f_eventWhat)), (q_eventUnit, .inl (gI G, 8, .inl f_eventUnit)), (q_p1, .inr (2, [.int p1_units, .int p1_ties, .int p1_digs, .int p1_sights, .int p1_events, .ref q_p1_traits, .ref q_p1_upper, .ref q_p1_lower, .ref q_p1_digRow, .ref q_p1_heldUnit, .ref q_p1_heldKind, .ref q_p1_seenFirst, .ref q_p1_seenSecond, .ref q_p1_seenIs, .ref q_p1_eventWhat, .ref q_p1_eventUnit])), (q_p1_traits, .inl (gI G, 60, .inl p1_traits)), (q_p1_upper, .inl (gI G, 40, .inl p1_upper)), (q_p1_lower, .inl (gI G, 40, .inl p1_lower)), (q_p1_digRow, .inl (gI G, 12, .inl p1_digRow)), (q_p1_heldUnit, .inl (gI G, 12, .inl p1_heldUnit)), (q_p1_seenFirst, .inl (gI G, 5, .inl p1_seenFirst)), (q_p1_seenSecond, .inl (gI G, 5, .inl p1_seenSecond)), (q_p1_seenIs, .inl (gZ G, 5, .inl p1_seenIs)), (q_p1_eventWhat, .inl (gI G, 8, .inl p1_eventWhat)), (q_p1_eventUnit, .inl (gI G, 8, .inl p1_eventUnit))]) (W1 := [(q_this, .inr (2, [.int p1_units, .int p1_ties, .int p1_digs, .int p1_sights, .int p1_events, .ref q_traits, .ref q_upper, .ref q_lower, .ref q_digRow, .ref q_heldUnit, .ref q_heldKind, .ref q_seenFirst, .ref q_seenSecond, .ref q_seenIs, .ref q_eventWhat, .ref q_eventUnit])), (q_traits, .inl (gI G, 60, .inl r_1)), (q_upper, .inl (gI G, 40, .inl r_3)), (q_lower, .inl (gI G, 40, .inl r_5)), (q_digRow, .inl (gI G, 12, .inl r_7)), (q_heldUnit, .inl (gI G, 12, .inl r_9)), (q_heldKind, .inl (gI G, 12, .inl r_11)), (q_seenFirst, .inl (gI G, 5, .inl f_seenFirst)), (q_seenSecond, .inl (gI G, 5, .inl f_seenSecond)), (q_seenIs, .inl (gZ G, 5, .inl f_seenIs)), (q_eventWhat, .inl (gI G, 8, .inl f_eventWhat)), (q_eventUnit, .inl (gI G, 8, .inl f_eventUnit)), (q_p1, .inr (2, [.int p1_units, .int p1_ties, .int p1_digs, .int p1_sights, .int p1_events, .ref q_p1_traits, .ref q_p1_upper, .ref q_p1_lower, .ref q_p1_digRow, .ref q_p1_heldUnit, .ref q_p1_heldKind, .ref q_p1_seenFirst, .ref q_p1_seenSecond, .ref q_p1_seenIs, .ref q_p1_eventWhat, .ref q_p1_eventUnit])), (q_p1_traits, .inl (gI G, 60, .inl p1_traits)), (q_p1_upper, .inl (gI G, 40, .inl p1_upper)), (q_p1_lower, .inl (gI G, 40, .inl p1_lower)), (q_p1_digRow, .inl (gI G, 12, .inl p1_digRow)), (q_p1_heldUnit, .inl (gI G, 12, .inl p1_heldUnit)), (q_p1_heldKind, .inl (gI G, 12, .inl p1_heldKind)), (q_p1_seenFirst, .inl (gI G, 5, .inl p1_seenFirst)), (q_p1_seenSecond, .inl (gI G, 5, .inl p1_seenSecond)), (q_p1_seenIs, .inl (gZ G, 5, .inl p1_seenIs)), (q_p1_eventWhat, .inl (gI G, 8, .inl p1_eventWhat)), (q_p1_eventUnit, .inl (gI G, 8, .inl p1_eventUnit))]) hx hb hml hown hts hK hG hP hD hS hA (c_X2_copyRow G l q_p1_heldKind p1_heldKind q_heldKind f_heldKind 12 12 h_12) kc_X2_copyRow ks_X2_copyRow bw887 rfl hl.1 rfl (Nat.le_of_ble_eq_true rfl) dX2_become_103 (Nat.le_of_ble_eq_true rfl) (Nat.le_of_ble_eq_true rfl) ⟨Nat.le_refl _, Nat.le_refl _⟩ [18, 6] [0, 1, 2, 3, 4, 5, 7, 8, 9, 10, 11, 12, 13, 14, 15, 16, 17, 19, 20, 21, 22, 23] [0, 1, 2, 3, 4, 5, 23, 6, 7, 8, 9, 10, 11, 12, 13, 14, 15, 16, 22, 17, 18, 19, 20, 21] rfl rfl rfl rfl (by decide) rfl rfl (fun H locs hP hD hS => ?_)
  refine lv_aload_n hx hb dX2_become_106 rfl (lv_at hl 1 rfl) ?_
  refine gf_X2_46 (v := .ref q_p1_seenFirst) hx hb hts hown hK hP 12 rfl rfl dX2_become_107 ?_
  refine lv_aload_n hx hb dX2_become_110 rfl (lv_at hl 0 rfl) ?_
  refine gf_X2_46 (v := .ref q_seenFirst) hx hb hts hown hK hP 0 rfl rfl dX2_become_111 ?_
  obtain ⟨r_13, h_14, hm⟩ := cl_elim hm
  refine w_callS (As := [.ref q_p1_seenFirst, .ref q_seenFirst]) (rest := []) (wr := [(q_this, .inr (2, [.int p1_units, .int p1_ties, .int p1_digs, .int p1_sights, .int p1_events, .ref q_traits, .ref q_upper, .ref q_lower, .ref q_digRow, .ref q_heldUnit, .ref q_heldKind, .ref q_seenFirst, .ref q_seenSecond, .ref q_seenIs, .ref q_eventWhat, .ref q_eventUnit])), (q_traits, .inl (gI G, 60, .inl r_1)), (q_upper, .inl (gI G, 40, .inl r_3)), (q_lower, .inl (gI G, 40, .inl r_5)), (q_digRow, .inl (gI G, 12, .inl r_7)), (q_heldUnit, .inl (gI G, 12, .inl r_9)), (q_heldKind, .inl (gI G, 12, .inl r_11)), (q_seenSecond, .inl (gI G, 5, .inl f_seenSecond)), (q_seenIs, .inl (gZ G, 5, .inl f_seenIs)), (q_eventWhat, .inl (gI G, 8, .inl f_eventWhat)), (q_eventUnit, .inl (gI G, 8, .inl f_eventUnit)), (q_p1, .inr (2, [.int p1_units, .int p1_ties, .int p1_digs, .int p1_sights, .int p1_events, .ref q_p1_traits, .ref q_p1_upper, .ref q_p1_lower, .ref q_p1_digRow, .ref q_p1_heldUnit, .ref q_p1_heldKind, .ref q_p1_seenFirst, .ref q_p1_seenSecond, .ref q_p1_seenIs, .ref q_p1_eventWhat, .ref q_p1_eventUnit])), (q_p1_traits, .inl (gI G, 60, .inl p1_traits)), (q_p1_upper, .inl (gI G, 40, .inl p1_upper)), (q_p1_lower, .inl (gI G, 40, .inl p1_lower)), (q_p1_digRow, .inl (gI G, 12, .inl p1_digRow)), (q_p1_heldUnit, .inl (gI G, 12, .inl p1_heldUnit)), (q_p1_heldKind, .inl (gI G, 12, .inl p1_heldKind)), (q_p1_seenSecond, .inl (gI G, 5, .inl p1_seenSecond)), (q_p1_seenIs, .inl (gZ G, 5, .inl p1_seenIs)), (q_p1_eventWhat, .inl (gI G, 8, .inl p1_eventWhat)), (q_p1_eventUnit, .inl (gI G, 8, .inl p1_eventUnit))]) (W1 := [(q_this, .inr (2, [.int p1_units, .int p1_ties, .int p1_digs, .int p1_sights, .int p1_events, .ref q_traits, .ref q_upper, .ref q_lower, .ref q_digRow, .ref q_heldUnit, .ref q_heldKind, .ref q_seenFirst, .ref q_seenSecond, .ref q_seenIs, .ref q_eventWhat, .ref q_eventUnit])), (q_traits, .inl (gI G, 60, .inl r_1)), (q_upper, .inl (gI G, 40, .inl r_3)), (q_lower, .inl (gI G, 40, .inl r_5)), (q_digRow, .inl (gI G, 12, .inl r_7)), (q_heldUnit, .inl (gI G, 12, .inl r_9)), (q_heldKind, .inl (gI G, 12, .inl r_11)), (q_seenFirst, .inl (gI G, 5, .inl r_13)), (q_seenSecond, .inl (gI G, 5, .inl f_seenSecond)), (q_seenIs, .inl (gZ G, 5, .inl f_seenIs)), (q_eventWhat, .inl (gI G, 8, .inl f_eventWhat)), (q_eventUnit, .inl (gI G, 8, .inl f_eventUnit)), (q_p1, .inr (2, [.int p1_units, .int p1_ties, .int p1_digs, .int p1_sights, .int p1_events, .ref q_p1_traits, .ref q_p1_upper, .ref q_p1_lower, .ref q_p1_digRow, .ref q_p1_heldUnit, .ref q_p1_heldKind, .ref q_p1_seenFirst, .ref q_p1_seenSecond, .ref q_p1_seenIs, .ref q_p1_eventWhat, .ref q_p1_eventUnit])), (q_p1_traits, .inl (gI G, 60, .inl p1_traits)), (q_p1_upper, .inl (gI G, 40, .inl p1_upper)), (q_p1_lower, .inl (gI G, 40, .inl p1_lower)), (q_p1_digRow, .inl (gI G, 12, .inl p1_digRow)), (q_p1_heldUnit, .inl (gI G, 12, .inl p1_heldUnit)), (q_p1_heldKind, .inl (gI G, 12, .inl p1_heldKind)), (q_p1_seenFirst, .inl (gI G, 5, .inl p1_seenFirst)), (q_p1_seenSecond, .inl (gI G, 5, .inl p1_seenSecond)), (q_p1_seenIs, .inl (gZ G, 5, .inl p1_seenIs)), (q_p1_eventWhat, .inl (gI G, 8, .inl p1_eventWhat)), (q_p1_eventUnit, .inl (gI G, 8, .inl p1_eventUnit))]) hx hb hml hown hts hK hG hP hD hS hA (c_X2_copyRow G l q_p1_seenFirst p1_seenFirst q_seenFirst f_seenFirst 5 5 h_14) kc_X2_copyRow ks_X2_copyRow bw887 rfl hl.1 rfl (Nat.le_of_ble_eq_true rfl) dX2_become_114 (Nat.le_of_ble_eq_true rfl) (Nat.le_of_ble_eq_true rfl) ⟨Nat.le_refl _, Nat.le_refl _⟩ [19, 7] [0, 1, 2, 3, 4, 5, 6, 8, 9, 10, 11, 12, 13, 14, 15, 16, 17, 18, 20, 21, 22, 23] [0, 1, 2, 3, 4, 5, 6, 23, 7, 8, 9, 10, 11, 12, 13, 14, 15, 16, 17, 22, 18, 19, 20, 21] rfl rfl rfl rfl (by decide) rfl rfl (fun H locs hP hD hS => ?_)
  refine lv_aload_n hx hb dX2_become_117 rfl (lv_at hl 1 rfl) ?_
  refine gf_X2_49 (v := .ref q_p1_seenSecond) hx hb hts hown hK hP 12 rfl rfl dX2_become_118 ?_
  refine lv_aload_n hx hb dX2_become_121 rfl (lv_at hl 0 rfl) ?_
  refine gf_X2_49 (v := .ref q_seenSecond) hx hb hts hown hK hP 0 rfl rfl dX2_become_122 ?_
  obtain ⟨r_15, h_16, hm⟩ := cl_elim hm
  refine w_callS (As := [.ref q_p1_seenSecond, .ref q_seenSecond]) (rest := []) (wr := [(q_this, .inr (2, [.int p1_units, .int p1_ties, .int p1_digs, .int p1_sights, .int p1_events, .ref q_traits, .ref q_upper, .ref q_lower, .ref q_digRow, .ref q_heldUnit, .ref q_heldKind, .ref q_seenFirst, .ref q_seenSecond, .ref q_seenIs, .ref q_eventWhat, .ref q_eventUnit])), (q_traits, .inl (gI G, 60, .inl r_1)), (q_upper, .inl (gI G, 40, .inl r_3)), (q_lower, .inl (gI G, 40, .inl r_5)), (q_digRow, .inl (gI G, 12, .inl r_7)), (q_heldUnit, .inl (gI G, 12, .inl r_9)), (q_heldKind, .inl (gI G, 12, .inl r_11)), (q_seenFirst, .inl (gI G, 5, .inl r_13)), (q_seenIs, .inl (gZ G, 5, .inl f_seenIs)), (q_eventWhat, .inl (gI G, 8, .inl f_eventWhat)), (q_eventUnit, .inl (gI G, 8, .inl f_eventUnit)), (q_p1, .inr (2, [.int p1_units, .int p1_ties, .int p1_digs, .int p1_sights, .int p1_events, .ref q_p1_traits, .ref q_p1_upper, .ref q_p1_lower, .ref q_p1_digRow, .ref q_p1_heldUnit, .ref q_p1_heldKind, .ref q_p1_seenFirst, .ref q_p1_seenSecond, .ref q_p1_seenIs, .ref q_p1_eventWhat, .ref q_p1_eventUnit])), (q_p1_traits, .inl (gI G, 60, .inl p1_traits)), (q_p1_upper, .inl (gI G, 40, .inl p1_upper)), (q_p1_lower, .inl (gI G, 40, .inl p1_lower)), (q_p1_digRow, .inl (gI G, 12, .inl p1_digRow)), (q_p1_heldUnit, .inl (gI G, 12, .inl p1_heldUnit)), (q_p1_heldKind, .inl (gI G, 12, .inl p1_heldKind)), (q_p1_seenFirst, .inl (gI G, 5, .inl p1_seenFirst)), (q_p1_seenIs, .inl (gZ G, 5, .inl p1_seenIs)), (q_p1_eventWhat, .inl (gI G, 8, .inl p1_eventWhat)), (q_p1_eventUnit, .inl (gI G, 8, .inl p1_eventUnit))]) (W1 := [(q_this, .inr (2, [.int p1_units, .int p1_ties, .int p1_digs, .int p1_sights, .int p1_events, .ref q_traits, .ref q_upper, .ref q_lower, .ref q_digRow, .ref q_heldUnit, .ref q_heldKind, .ref q_seenFirst, .ref q_seenSecond, .ref q_seenIs, .ref q_eventWhat, .ref q_eventUnit])), (q_traits, .inl (gI G, 60, .inl r_1)), (q_upper, .inl (gI G, 40, .inl r_3)), (q_lower, .inl (gI G, 40, .inl r_5)), (q_digRow, .inl (gI G, 12, .inl r_7)), (q_heldUnit, .inl (gI G, 12, .inl r_9)), (q_heldKind, .inl (gI G, 12, .inl r_11)), (q_seenFirst, .inl (gI G, 5, .inl r_13)), (q_seenSecond, .inl (gI G, 5, .inl r_15)), (q_seenIs, .inl (gZ G, 5, .inl f_seenIs)), (q_eventWhat, .inl (gI G, 8, .inl f_eventWhat)), (q_eventUnit, .inl (gI G, 8, .inl f_eventUnit)), (q_p1, .inr (2, [.int p1_units, .int p1_ties, .int p1_digs, .int p1_sights, .int p1_events, .ref q_p1_traits, .ref q_p1_upper, .ref q_p1_lower, .ref q_p1_digRow, .ref q_p1_heldUnit, .ref q_p1_heldKind, .ref q_p1_seenFirst, .ref q_p1_seenSecond, .ref q_p1_seenIs, .ref q_p1_eventWhat, .ref q_p1_eventUnit])), (q_p1_traits, .inl (gI G, 60, .inl p1_traits)), (q_p1_upper, .inl (gI G, 40, .inl p1_upper)), (q_p1_lower, .inl (gI G, 40, .inl p1_lower)), (q_p1_digRow, .inl (gI G, 12, .inl p1_digRow)), (q_p1_heldUnit, .inl (gI G, 12, .inl p1_heldUnit)), (q_p1_heldKind, .inl (gI G, 12, .inl p1_heldKind)), (q_p1_seenFirst, .inl (gI G, 5, .inl p1_seenFirst)), (q_p1_seenSecond, .inl (gI G, 5, .inl p1_seenSecond)), (q_p1_seenIs, .inl (gZ G, 5, .inl p1_seenIs)), (q_p1_eventWhat, .inl (gI G, 8, .inl p1_eventWhat)), (q_p1_eventUnit, .inl (gI G, 8, .inl p1_eventUnit))]) hx hb hml hown hts hK hG hP hD hS hA (c_X2_copyRow G l q_p1_seenSecond p1_seenSecond q_seenSecond f_seenSecond 5 5 h_16) kc_X2_copyRow ks_X2_copyRow bw887 rfl hl.1 rfl (Nat.le_of_ble_eq_true rfl) dX2_become_125 (Nat.le_of_ble_eq_true rfl) (Nat.le_of_ble_eq_true rfl) ⟨Nat.le_refl _, Nat.le_refl _⟩ [20, 8] [0, 1, 2, 3, 4, 5, 6, 7, 9, 10, 11, 12, 13, 14, 15, 16, 17, 18, 19, 21, 22, 23] [0, 1, 2, 3, 4, 5, 6, 7, 23, 8, 9, 10, 11, 12, 13, 14, 15, 16, 17, 18, 22, 19, 20, 21] rfl rfl rfl rfl (by decide) rfl rfl (fun H locs hP hD hS => ?_)
  refine lv_aload_n hx hb dX2_become_128 rfl (lv_at hl 1 rfl) ?_
  refine gf_X2_52 (v := .ref q_p1_seenIs) hx hb hts hown hK hP 12 rfl rfl dX2_become_129 ?_
  refine lv_iconst (v := 0) hx hb dX2_become_132 (by decide) ?_
  refine lv_aload_n hx hb dX2_become_133 rfl (lv_at hl 0 rfl) ?_
  refine gf_X2_52 (v := .ref q_seenIs) hx hb hts hown hK hP 0 rfl rfl dX2_become_134 ?_
  refine lv_iconst (v := 0) hx hb dX2_become_137 (by decide) ?_
  refine lv_iconst (v := 5) hx hb dX2_become_138 (by decide) ?_
  refine w_copyz hx hb hml hl.1 hts hown bw891 bw893 bw892 bw93 hK hP hD hS 21 9 rfl rfl hm (Nat.le_of_ble_eq_true rfl) (by decide) dX2_become_139 (fun g_17 => [(q_this, .inr (2, [.int p1_units, .int p1_ties, .int p1_digs, .int p1_sights, .int p1_events, .ref q_traits, .ref q_upper, .ref q_lower, .ref q_digRow, .ref q_heldUnit, .ref q_heldKind, .ref q_seenFirst, .ref q_seenSecond, .ref q_seenIs, .ref q_eventWhat, .ref q_eventUnit])), (q_traits, .inl (gI G, 60, .inl r_1)), (q_upper, .inl (gI G, 40, .inl r_3)), (q_lower, .inl (gI G, 40, .inl r_5)), (q_digRow, .inl (gI G, 12, .inl r_7)), (q_heldUnit, .inl (gI G, 12, .inl r_9)), (q_heldKind, .inl (gI G, 12, .inl r_11)), (q_seenFirst, .inl (gI G, 5, .inl r_13)), (q_seenSecond, .inl (gI G, 5, .inl r_15)), (q_seenIs, .inl (gZ G, 5, .inl g_17)), (q_eventWhat, .inl (gI G, 8, .inl f_eventWhat)), (q_eventUnit, .inl (gI G, 8, .inl f_eventUnit)), (q_p1, .inr (2, [.int p1_units, .int p1_ties, .int p1_digs, .int p1_sights, .int p1_events, .ref q_p1_traits, .ref q_p1_upper, .ref q_p1_lower, .ref q_p1_digRow, .ref q_p1_heldUnit, .ref q_p1_heldKind, .ref q_p1_seenFirst, .ref q_p1_seenSecond, .ref q_p1_seenIs, .ref q_p1_eventWhat, .ref q_p1_eventUnit])), (q_p1_traits, .inl (gI G, 60, .inl p1_traits)), (q_p1_upper, .inl (gI G, 40, .inl p1_upper)), (q_p1_lower, .inl (gI G, 40, .inl p1_lower)), (q_p1_digRow, .inl (gI G, 12, .inl p1_digRow)), (q_p1_heldUnit, .inl (gI G, 12, .inl p1_heldUnit)), (q_p1_heldKind, .inl (gI G, 12, .inl p1_heldKind)), (q_p1_seenFirst, .inl (gI G, 5, .inl p1_seenFirst)), (q_p1_seenSecond, .inl (gI G, 5, .inl p1_seenSecond)), (q_p1_seenIs, .inl (gZ G, 5, .inl p1_seenIs)), (q_p1_eventWhat, .inl (gI G, 8, .inl p1_eventWhat)), (q_p1_eventUnit, .inl (gI G, 8, .inl p1_eventUnit))]) (fun _ => rfl) (fun g_17 H locs hm hP hD hS => ?_)
  refine lv_aload_n hx hb dX2_become_142 rfl (lv_at hl 1 rfl) ?_
  refine gf_X2_56 (v := .ref q_p1_eventWhat) hx hb hts hown hK hP 12 rfl rfl dX2_become_143 ?_
  refine lv_aload_n hx hb dX2_become_146 rfl (lv_at hl 0 rfl) ?_
  refine gf_X2_56 (v := .ref q_eventWhat) hx hb hts hown hK hP 0 rfl rfl dX2_become_147 ?_
  obtain ⟨r_18, h_19, hm⟩ := cl_elim hm
  refine w_callS (As := [.ref q_p1_eventWhat, .ref q_eventWhat]) (rest := []) (wr := [(q_this, .inr (2, [.int p1_units, .int p1_ties, .int p1_digs, .int p1_sights, .int p1_events, .ref q_traits, .ref q_upper, .ref q_lower, .ref q_digRow, .ref q_heldUnit, .ref q_heldKind, .ref q_seenFirst, .ref q_seenSecond, .ref q_seenIs, .ref q_eventWhat, .ref q_eventUnit])), (q_traits, .inl (gI G, 60, .inl r_1)), (q_upper, .inl (gI G, 40, .inl r_3)), (q_lower, .inl (gI G, 40, .inl r_5)), (q_digRow, .inl (gI G, 12, .inl r_7)), (q_heldUnit, .inl (gI G, 12, .inl r_9)), (q_heldKind, .inl (gI G, 12, .inl r_11)), (q_seenFirst, .inl (gI G, 5, .inl r_13)), (q_seenSecond, .inl (gI G, 5, .inl r_15)), (q_seenIs, .inl (gZ G, 5, .inl g_17)), (q_eventUnit, .inl (gI G, 8, .inl f_eventUnit)), (q_p1, .inr (2, [.int p1_units, .int p1_ties, .int p1_digs, .int p1_sights, .int p1_events, .ref q_p1_traits, .ref q_p1_upper, .ref q_p1_lower, .ref q_p1_digRow, .ref q_p1_heldUnit, .ref q_p1_heldKind, .ref q_p1_seenFirst, .ref q_p1_seenSecond, .ref q_p1_seenIs, .ref q_p1_eventWhat, .ref q_p1_eventUnit])), (q_p1_traits, .inl (gI G, 60, .inl p1_traits)), (q_p1_upper, .inl (gI G, 40, .inl p1_upper)), (q_p1_lower, .inl (gI G, 40, .inl p1_lower)), (q_p1_digRow, .inl (gI G, 12, .inl p1_digRow)), (q_p1_heldUnit, .inl (gI G, 12, .inl p1_heldUnit)), (q_p1_heldKind, .inl (gI G, 12, .inl p1_heldKind)), (q_p1_seenFirst, .inl (gI G, 5, .inl p1_seenFirst)), (q_p1_seenSecond, .inl (gI G, 5, .inl p1_seenSecond)), (q_p1_seenIs, .inl (gZ G, 5, .inl p1_seenIs)), (q_p1_eventUnit, .inl (gI G, 8, .inl p1_eventUnit))]) (W1 := [(q_this, .inr (2, [.int p1_units, .int p1_ties, .int p1_digs, .int p1_sights, .int p1_events, .ref q_traits, .ref q_upper, .ref q_lower, .ref q_digRow, .ref q_heldUnit, .ref q_heldKind, .ref q_seenFirst, .ref q_seenSecond, .ref q_seenIs, .ref q_eventWhat, .ref q_eventUnit])), (q_traits, .inl (gI G, 60, .inl r_1)), (q_upper, .inl (gI G, 40, .inl r_3)), (q_lower, .inl (gI G, 40, .inl r_5)), (q_digRow, .inl (gI G, 12, .inl r_7)), (q_heldUnit, .inl (gI G, 12, .inl r_9)), (q_heldKind, .inl (gI G, 12, .inl r_11)), (q_seenFirst, .inl (gI G, 5, .inl r_13)), (q_seenSecond, .inl (gI G, 5, .inl r_15)), (q_seenIs, .inl (gZ G, 5, .inl g_17)), (q_eventWhat, .inl (gI G, 8, .inl r_18)), (q_eventUnit, .inl (gI G, 8, .inl f_eventUnit)), (q_p1, .inr (2, [.int p1_units, .int p1_ties, .int p1_digs, .int p1_sights, .int p1_events, .ref q_p1_traits, .ref q_p1_upper, .ref q_p1_lower, .ref q_p1_digRow, .ref q_p1_heldUnit, .ref q_p1_heldKind, .ref q_p1_seenFirst, .ref q_p1_seenSecond, .ref q_p1_seenIs, .ref q_p1_eventWhat, .ref q_p1_eventUnit])), (q_p1_traits, .inl (gI G, 60, .inl p1_traits)), (q_p1_upper, .inl (gI G, 40, .inl p1_upper)), (q_p1_lower, .inl (gI G, 40, .inl p1_lower)), (q_p1_digRow, .inl (gI G, 12, .inl p1_digRow)), (q_p1_heldUnit, .inl (gI G, 12, .inl p1_heldUnit)), (q_p1_heldKind, .inl (gI G, 12, .inl p1_heldKind)), (q_p1_seenFirst, .inl (gI G, 5, .inl p1_seenFirst)), (q_p1_seenSecond, .inl (gI G, 5, .inl p1_seenSecond)), (q_p1_seenIs, .inl (gZ G, 5, .inl p1_seenIs)), (q_p1_eventWhat, .inl (gI G, 8, .inl p1_eventWhat)), (q_p1_eventUnit, .inl (gI G, 8, .inl p1_eventUnit))]) hx hb hml hown hts hK hG hP hD hS hA (c_X2_copyRow G l q_p1_eventWhat p1_eventWhat q_eventWhat f_eventWhat 8 8 h_19) kc_X2_copyRow ks_X2_copyRow bw887 rfl hl.1 rfl (Nat.le_of_ble_eq_true rfl) dX2_become_150 (Nat.le_of_ble_eq_true rfl) (Nat.le_of_ble_eq_true rfl) ⟨Nat.le_refl _, Nat.le_refl _⟩ [22, 10] [0, 1, 2, 3, 4, 5, 6, 7, 8, 9, 11, 12, 13, 14, 15, 16, 17, 18, 19, 20, 21, 23] [0, 1, 2, 3, 4, 5, 6, 7, 8, 9, 23, 10, 11, 12, 13, 14, 15, 16, 17, 18, 19, 20, 22, 21] rfl rfl rfl rfl (by decide) rfl rfl (fun H locs hP hD hS => ?_)
  refine lv_aload_n hx hb dX2_become_153 rfl (lv_at hl 1 rfl) ?_
  refine gf_X2_59 (v := .ref q_p1_eventUnit) hx hb hts hown hK hP 12 rfl rfl dX2_become_154 ?_
  refine lv_aload_n hx hb dX2_become_157 rfl (lv_at hl 0 rfl) ?_
  refine gf_X2_59 (v := .ref q_eventUnit) hx hb hts hown hK hP 0 rfl rfl dX2_become_158 ?_
  obtain ⟨r_20, h_21, hm⟩ := cl_elim hm
  refine w_callS (As := [.ref q_p1_eventUnit, .ref q_eventUnit]) (rest := []) (wr := [(q_this, .inr (2, [.int p1_units, .int p1_ties, .int p1_digs, .int p1_sights, .int p1_events, .ref q_traits, .ref q_upper, .ref q_lower, .ref q_digRow, .ref q_heldUnit, .ref q_heldKind, .ref q_seenFirst, .ref q_seenSecond, .ref q_seenIs, .ref q_eventWhat, .ref q_eventUnit])), (q_traits, .inl (gI G, 60, .inl r_1)), (q_upper, .inl (gI G, 40, .inl r_3)), (q_lower, .inl (gI G, 40, .inl r_5)), (q_digRow, .inl (gI G, 12, .inl r_7)), (q_heldUnit, .inl (gI G, 12, .inl r_9)), (q_heldKind, .inl (gI G, 12, .inl r_11)), (q_seenFirst, .inl (gI G, 5, .inl r_13)), (q_seenSecond, .inl (gI G, 5, .inl r_15)), (q_seenIs, .inl (gZ G, 5, .inl g_17)), (q_eventWhat, .inl (gI G, 8, .inl r_18)), (q_p1, .inr (2, [.int p1_units, .int p1_ties, .int p1_digs, .int p1_sights, .int p1_events, .ref q_p1_traits, .ref q_p1_upper, .ref q_p1_lower, .ref q_p1_digRow, .ref q_p1_heldUnit, .ref q_p1_heldKind, .ref q_p1_seenFirst, .ref q_p1_seenSecond, .ref q_p1_seenIs, .ref q_p1_eventWhat, .ref q_p1_eventUnit])), (q_p1_traits, .inl (gI G, 60, .inl p1_traits)), (q_p1_upper, .inl (gI G, 40, .inl p1_upper)), (q_p1_lower, .inl (gI G, 40, .inl p1_lower)), (q_p1_digRow, .inl (gI G, 12, .inl p1_digRow)), (q_p1_heldUnit, .inl (gI G, 12, .inl p1_heldUnit)), (q_p1_heldKind, .inl (gI G, 12, .inl p1_heldKind)), (q_p1_seenFirst, .inl (gI G, 5, .inl p1_seenFirst)), (q_p1_seenSecond, .inl (gI G, 5, .inl p1_seenSecond)), (q_p1_seenIs, .inl (gZ G, 5, .inl p1_seenIs)), (q_p1_eventWhat, .inl (gI G, 8, .inl p1_eventWhat))]) (W1 := [(q_this, .inr (2, [.int p1_units, .int p1_ties, .int p1_digs, .int p1_sights, .int p1_events, .ref q_traits, .ref q_upper, .ref q_lower, .ref q_digRow, .ref q_heldUnit, .ref q_heldKind, .ref q_seenFirst, .ref q_seenSecond, .ref q_seenIs, .ref q_eventWhat, .ref q_eventUnit])), (q_traits, .inl (gI G, 60, .inl r_1)), (q_upper, .inl (gI G, 40, .inl r_3)), (q_lower, .inl (gI G, 40, .inl r_5)), (q_digRow, .inl (gI G, 12, .inl r_7)), (q_heldUnit, .inl (gI G, 12, .inl r_9)), (q_heldKind, .inl (gI G, 12, .inl r_11)), (q_seenFirst, .inl (gI G, 5, .inl r_13)), (q_seenSecond, .inl (gI G, 5, .inl r_15)), (q_seenIs, .inl (gZ G, 5, .inl g_17)), (q_eventWhat, .inl (gI G, 8, .inl r_18)), (q_eventUnit, .inl (gI G, 8, .inl r_20)), (q_p1, .inr (2, [.int p1_units, .int p1_ties, .int p1_digs, .int p1_sights, .int p1_events, .ref q_p1_traits, .ref q_p1_upper, .ref q_p1_lower, .ref q_p1_digRow, .ref q_p1_heldUnit, .ref q_p1_heldKind, .ref q_p1_seenFirst, .ref q_p1_seenSecond, .ref q_p1_seenIs, .ref q_p1_eventWhat, .ref q_p1_eventUnit])), (q_p1_traits, .inl (gI G, 60, .inl p1_traits)), (q_p1_upper, .inl (gI G, 40, .inl p1_upper)), (q_p1_lower, .inl (gI G, 40, .inl p1_lower)), (q_p1_digRow, .inl (gI G, 12, .inl p1_digRow)), (q_p1_heldUnit, .inl (gI G, 12, .inl p1_heldUnit)), (q_p1_heldKind, .inl (gI G, 12, .inl p1_heldKind)), (q_p1_seenFirst, .inl (gI G, 5, .inl p1_seenFirst)), (q_p1_seenSecond, .inl (gI G, 5, .inl p1_seenSecond)), (q_p1_seenIs, .inl (gZ G, 5, .inl p1_seenIs)), (q_p1_eventWhat, .inl (gI G, 8, .inl p1_eventWhat)), (q_p1_eventUnit, .inl (gI G, 8, .inl p1_eventUnit))]) hx hb hml hown hts hK hG hP hD hS hA (c_X2_copyRow G l q_p1_eventUnit p1_eventUnit q_eventUnit f_eventUnit 8 8 h_21) kc_X2_copyRow ks_X2_copyRow bw887 rfl hl.1 rfl (Nat.le_of_ble_eq_true rfl) dX2_become_161 (Nat.le_of_ble_eq_true rfl) (Nat.le_of_ble_eq_true rfl) ⟨Nat.le_refl _, Nat.le_refl _⟩ [23, 11] [0, 1, 2, 3, 4, 5, 6, 7, 8, 9, 10, 12, 13, 14, 15, 16, 17, 18, 19, 20, 21, 22] [0, 1, 2, 3, 4, 5, 6, 7, 8, 9, 10, 23, 11, 12, 13, 14, 15, 16, 17, 18, 19, 20, 21, 22] rfl rfl rfl rfl (by decide) rfl rfl (fun H locs hP hD hS => ?_)
  have hfin := fin _ _ ls _ _ (Option.some.inj hm) dX2_become_164 hP hD hS
  exact hfin
set_option maxHeartbeats 0 in
set_option maxRecDepth 100000 in
theorem c_X3_write (G : GT) (l : Launch) (q_this : Nat) (f_size : Int32) (q_numbers : Nat) (f_numbers : (Nat → Int32)) (a_1 : Int32) (a_2 : Int32) (a_3 : Int32) {res : (Nat → Int32) × Int32} (hm : m_X3_write f_numbers f_size a_1 a_2 a_3 = some res) : CT G l yX3_write cX3_write 4 none 0 0 [.ref q_this, .int a_1, .int a_2, .int a_3] [(q_this, .inr (3, [.ref q_numbers, .int f_size])), (q_numbers, .inl (gI G, 3, .inl f_numbers))] [(q_this, .inr (3, [.ref q_numbers, .int res.2])), (q_numbers, .inl (gI G, 3, .inl res.1))] none := by
  refine ctV (G := G) (l := l) (y := yX3_write) (cc := cX3_write) (maxL := 4) (fr := 0) (lo := 0) (As := [.ref q_this, .int a_1, .int a_2, .int a_3]) (res := res) (fun res : (Nat → Int32) × Int32 => [(q_this, .inr (3, [.ref q_numbers, .int res.2])), (q_numbers, .inl (gI G, 3, .inl res.1))]) (plainFor_of_name (by decide)) (Nat.le_of_ble_eq_true rfl) ?_
  intro p e s m below meth c A ls Q hx hb hml hown hts hK hG hA hP hD hS hl fin
  have hown : s.vm.findClass RX3 = some m.cls := hown
  have hl : lv_has ls 4 [(0, .ref q_this), (1, .int a_1), (2, .int a_2), (3, .int a_3)] := hl
  unfold m_X3_write at hm
  refine lv_aload_n hx hb dX3_write_0 rfl (lv_at hl 0 rfl) ?_
  refine gf_X3_9 (v := .ref q_numbers) hx hb hts hown hK hP 0 rfl rfl dX3_write_1 ?_
  refine lv_iconst (v := 0) hx hb dX3_write_4 (by decide) ?_
  refine lv_iload_n hx hb dX3_write_5 rfl (lv_at hl 1 rfl) ?_
  refine w_iast hx hb hK hP hD hS 1 rfl hm dX3_write_6 (fun g_1 => [(q_this, .inr (3, [.ref q_numbers, .int f_size])), (q_numbers, .inl (gI G, 3, .inl g_1))]) (fun _ => rfl) (fun g_1 H locs hm hP hD hS => ?_)
  refine lv_aload_n hx hb dX3_write_7 rfl (lv_at hl 0 rfl) ?_
  refine gf_X3_9 (v := .ref q_numbers) hx hb hts hown hK hP 0 rfl rfl dX3_write_8 ?_
  refine lv_iconst (v := 1) hx hb dX3_write_11 (by decide) ?_
  refine lv_iload_n hx hb dX3_write_12 rfl (lv_at hl 2 rfl) ?_
  refine w_iast hx hb hK hP hD hS 1 rfl hm dX3_write_13 (fun g_2 => [(q_this, .inr (3, [.ref q_numbers, .int f_size])), (q_numbers, .inl (gI G, 3, .inl g_2))]) (fun _ => rfl) (fun g_2 H locs hm hP hD hS => ?_)
  refine lv_aload_n hx hb dX3_write_14 rfl (lv_at hl 0 rfl) ?_
  refine gf_X3_9 (v := .ref q_numbers) hx hb hts hown hK hP 0 rfl rfl dX3_write_15 ?_
  refine lv_iconst (v := 2) hx hb dX3_write_18 (by decide) ?_
  refine lv_iload_n hx hb dX3_write_19 rfl (lv_at hl 3 rfl) ?_
  refine w_iast hx hb hK hP hD hS 1 rfl hm dX3_write_20 (fun g_3 => [(q_this, .inr (3, [.ref q_numbers, .int f_size])), (q_numbers, .inl (gI G, 3, .inl g_3))]) (fun _ => rfl) (fun g_3 H locs hm hP hD hS => ?_)
  refine lv_aload_n hx hb dX3_write_21 rfl (lv_at hl 0 rfl) ?_
  refine lv_iconst (v := 3) hx hb dX3_write_22 (by decide) ?_
  refine pf_X3_15 (W1 := [(q_this, .inr (3, [.ref q_numbers, .int (3 : Int32)])), (q_numbers, .inl (gI G, 3, .inl g_3))]) hx hb hts hown hK hP hD hS 0 rfl (Nat.le_of_ble_eq_true rfl) dX3_write_23 rfl (fun H locs hP hD hS => ?_)
  have hfin := fin _ _ ls _ _ (Option.some.inj hm) dX3_write_26 hP hD hS
  exact hfin
set_option maxHeartbeats 0 in
set_option maxRecDepth 100000 in
theorem c_X7_isCut (G : GT) (l : Launch) (a_1 : Int32) {res : Int32} (hm : m_X7_isCut a_1 = some res) : CT G l yX7_isCut cX7_isCut 1 (some .boolean) 0 0 [.int a_1] [] [] (some (.int res)) := by
  refine ctZ (G := G) (l := l) (y := yX7_isCut) (cc := cX7_isCut) (maxL := 1) (fr := 0) (lo := 0) (As := [.int a_1]) (res := res) (fun res : Int32 => []) (fun res : Int32 => res) (plainFor_of_name (by decide)) (Nat.le_of_ble_eq_true rfl) ?_
  intro p e s m below meth c A ls Q hx hb hml hown hts hK hG hA hP hD hS hl fin
  have hown : s.vm.findClass RX7 = some m.cls := hown
  have hl : lv_has ls 1 [(0, .int a_1)] := hl
  unfold m_X7_isCut at hm
  refine lv_iload_n hx hb dX7_isCut_0 rfl (lv_at hl 0 rfl) ?_
  refine lv_iconst (v := 1) hx hb dX7_isCut_1 (by decide) ?_
  refine ic_eq (tgt := 10) hx hb dX7_isCut_2 (by decide) hm (fun hm => ?_) (fun hm => ?_)
  · refine lv_iconst (v := 1) hx hb dX7_isCut_10 (by decide) ?_
    refine lv_goto (tgt := 15) hx hb dX7_isCut_11 (by decide) ?_
    have hfin := fin _ _ ls _ _ (Option.some.inj hm) dX7_isCut_15 (Or.inr rfl) hP hD hS
    exact hfin
  refine lv_iload_n hx hb dX7_isCut_5 rfl (lv_at hl 0 rfl) ?_
  refine lv_iconst (v := 4) hx hb dX7_isCut_6 (by decide) ?_
  refine ic_ne (tgt := 14) hx hb dX7_isCut_7 (by decide) hm (fun hm => ?_) (fun hm => ?_)
  · refine lv_iconst (v := 0) hx hb dX7_isCut_14 (by decide) ?_
    have hfin := fin _ _ ls _ _ (Option.some.inj hm) dX7_isCut_15 (Or.inl rfl) hP hD hS
    exact hfin
  refine lv_iconst (v := 1) hx hb dX7_isCut_10 (by decide) ?_
  refine lv_goto (tgt := 15) hx hb dX7_isCut_11 (by decide) ?_
  have hfin := fin _ _ ls _ _ (Option.some.inj hm) dX7_isCut_15 (Or.inr rfl) hP hD hS
  exact hfin
set_option maxHeartbeats 0 in
set_option maxRecDepth 100000 in
theorem c_X7_isFill (G : GT) (l : Launch) (a_1 : Int32) {res : Int32} (hm : m_X7_isFill a_1 = some res) : CT G l yX7_isFill cX7_isFill 1 (some .boolean) 0 0 [.int a_1] [] [] (some (.int res)) := by
  refine ctZ (G := G) (l := l) (y := yX7_isFill) (cc := cX7_isFill) (maxL := 1) (fr := 0) (lo := 0) (As := [.int a_1]) (res := res) (fun res : Int32 => []) (fun res : Int32 => res) (plainFor_of_name (by decide)) (Nat.le_of_ble_eq_true rfl) ?_
  intro p e s m below meth c A ls Q hx hb hml hown hts hK hG hA hP hD hS hl fin
  have hown : s.vm.findClass RX7 = some m.cls := hown
  have hl : lv_has ls 1 [(0, .int a_1)] := hl
  unfold m_X7_isFill at hm
  refine lv_iload_n hx hb dX7_isFill_0 rfl (lv_at hl 0 rfl) ?_
  refine lv_iconst (v := 2) hx hb dX7_isFill_1 (by decide) ?_
  refine ic_eq (tgt := 10) hx hb dX7_isFill_2 (by decide) hm (fun hm => ?_) (fun hm => ?_)
  · refine lv_iconst (v := 1) hx hb dX7_isFill_10 (by decide) ?_
    refine lv_goto (tgt := 15) hx hb dX7_isFill_11 (by decide) ?_
    have hfin := fin _ _ ls _ _ (Option.some.inj hm) dX7_isFill_15 (Or.inr rfl) hP hD hS
    exact hfin
  refine lv_iload_n hx hb dX7_isFill_5 rfl (lv_at hl 0 rfl) ?_
  refine lv_iconst (v := 5) hx hb dX7_isFill_6 (by decide) ?_
  refine ic_ne (tgt := 14) hx hb dX7_isFill_7 (by decide) hm (fun hm => ?_) (fun hm => ?_)
  · refine lv_iconst (v := 0) hx hb dX7_isFill_14 (by decide) ?_
    have hfin := fin _ _ ls _ _ (Option.some.inj hm) dX7_isFill_15 (Or.inl rfl) hP hD hS
    exact hfin
  refine lv_iconst (v := 1) hx hb dX7_isFill_10 (by decide) ?_
  refine lv_goto (tgt := 15) hx hb dX7_isFill_11 (by decide) ?_
  have hfin := fin _ _ ls _ _ (Option.some.inj hm) dX7_isFill_15 (Or.inr rfl) hP hD hS
  exact hfin
set_option maxHeartbeats 0 in
set_option maxRecDepth 100000 in
theorem c_X3_findsBareFill (G : GT) (l : Launch) (q_this : Nat) (f_size : Int32) (q_numbers : Nat) (f_numbers : (Nat → Int32)) (q_p1 : Nat) (p1_units : Int32) (p1_ties : Int32) (p1_digs : Int32) (p1_sights : Int32) (p1_events : Int32) (q_p1_upper : Nat) (q_p1_lower : Nat) (q_p1_digRow : Nat) (q_p1_heldUnit : Nat) (q_p1_heldKind : Nat) (q_p1_seenFirst : Nat) (q_p1_seenSecond : Nat) (q_p1_seenIs : Nat) (q_p1_eventWhat : Nat) (q_p1_eventUnit : Nat) (q_p1_traits : Nat) (p1_traits : (Nat → Int32)) (q_p2 : Nat) (p2_units : Int32) (q_p2_above : Nat) (q_p2_levelRow : Nat) (q_p2_shown : Nat) (q_p2_stepsBack : Nat) (q_p2_under : Nat) (p2_under : (Nat → Int32)) (q_p2_reach : Nat) (p2_reach : (Nat → Int32)) {res : (Nat → Int32) × Int32 × Int32} (hm : m_X3_findsBareFill f_numbers f_size p1_units p1_traits p2_units p2_under p2_reach = some res) : CT G l yX3_findsBareFill cX3_findsBareFill 5 (some .boolean) 3 65 [.ref q_this, .ref q_p1, .ref q_p2] [(q_this, .inr (3, [.ref q_numbers, .int f_size])), (q_numbers, .inl (gI G, 3, .inl f_numbers)), (q_p1, .inr (2, [.int p1_units, .int p1_ties, .int p1_digs, .int p1_sights, .int p1_events, .ref q_p1_traits, .ref q_p1_upper, .ref q_p1_lower, .ref q_p1_digRow, .ref q_p1_heldUnit, .ref q_p1_heldKind, .ref q_p1_seenFirst, .ref q_p1_seenSecond, .ref q_p1_seenIs, .ref q_p1_eventWhat, .ref q_p1_eventUnit])), (q_p1_traits, .inl (gI G, 60, .inl p1_traits)), (q_p2, .inr (5, [.int p2_units, .ref q_p2_under, .ref q_p2_above, .ref q_p2_reach, .ref q_p2_levelRow, .ref q_p2_shown, .ref q_p2_stepsBack])), (q_p2_under, .inl (gI G, 12, .inl p2_under)), (q_p2_reach, .inl (gI G, 12, .inl p2_reach))] [(q_this, .inr (3, [.ref q_numbers, .int res.2.1])), (q_numbers, .inl (gI G, 3, .inl res.1)), (q_p1, .inr (2, [.int p1_units, .int p1_ties, .int p1_digs, .int p1_sights, .int p1_events, .ref q_p1_traits, .ref q_p1_upper, .ref q_p1_lower, .ref q_p1_digRow, .ref q_p1_heldUnit, .ref q_p1_heldKind, .ref q_p1_seenFirst, .ref q_p1_seenSecond, .ref q_p1_seenIs, .ref q_p1_eventWhat, .ref q_p1_eventUnit])), (q_p1_traits, .inl (gI G, 60, .inl p1_traits)), (q_p2, .inr (5, [.int p2_units, .ref q_p2_under, .ref q_p2_above, .ref q_p2_reach, .ref q_p2_levelRow, .ref q_p2_shown, .ref q_p2_stepsBack])), (q_p2_under, .inl (gI G, 12, .inl p2_under)), (q_p2_reach, .inl (gI G, 12, .inl p2_reach))] (some (.int res.2.2)) := by
  refine ctZ (G := G) (l := l) (y := yX3_findsBareFill) (cc := cX3_findsBareFill) (maxL := 5) (fr := 3) (lo := 65) (As := [.ref q_this, .ref q_p1, .ref q_p2]) (res := res) (fun res : (Nat → Int32) × Int32 × Int32 => [(q_this, .inr (3, [.ref q_numbers, .int res.2.1])), (q_numbers, .inl (gI G, 3, .inl res.1)), (q_p1, .inr (2, [.int p1_units, .int p1_ties, .int p1_digs, .int p1_sights, .int p1_events, .ref q_p1_traits, .ref q_p1_upper, .ref q_p1_lower, .ref q_p1_digRow, .ref q_p1_heldUnit, .ref q_p1_heldKind, .ref q_p1_seenFirst, .ref q_p1_seenSecond, .ref q_p1_seenIs, .ref q_p1_eventWhat, .ref q_p1_eventUnit])), (q_p1_traits, .inl (gI G, 60, .inl p1_traits)), (q_p2, .inr (5, [.int p2_units, .ref q_p2_under, .ref q_p2_above, .ref q_p2_reach, .ref q_p2_levelRow, .ref q_p2_shown, .ref q_p2_stepsBack])), (q_p2_under, .inl (gI G, 12, .inl p2_under)), (q_p2_reach, .inl (gI G, 12, .inl p2_reach))]) (fun res : (Nat → Int32) × Int32 × Int32 => res.2.2) (plainFor_of_name (by decide)) (Nat.le_of_ble_eq_true rfl) ?_
  intro p e s m below meth c A ls Q hx hb hml hown hts hK hG hA hP hD hS hl fin
  have hown : s.vm.findClass RX3 = some m.cls := hown
  have hl : lv_has ls 5 [(0, .ref q_this), (1, .ref q_p1), (2, .ref q_p2)] := hl
  unfold m_X3_findsBareFill at hm
  refine lv_iconst (v := 0) hx hb dX3_findsBareFill_0 (by decide) ?_
  refine lv_istore_n (lv' := [(3, .int (0 : Int32)), (0, .ref q_this), (1, .ref q_p1), (2, .ref q_p2)]) hx hb dX3_findsBareFill_1 rfl hl (by decide) rfl (fun ls hl => ?_)
  refine lv_iconst (v := 0) hx hb dX3_findsBareFill_2 (by decide) ?_
  refine lv_istore (lv' := [(4, .int (0 : Int32)), (3, .int (0 : Int32)), (0, .ref q_this), (1, .ref q_p1), (2, .ref q_p2)]) hx hb dX3_findsBareFill_3 hl (by decide) rfl (fun ls hl => ?_)
  have hL_5 : ∀ (k_5 : Int32 → Int32 → Option ((Nat → Int32) × Int32 × Int32)), (∀ (x3_5 : Int32) (x4_5 : Int32) (H : Heap) (locs : List Loc) (ls : Array Slot), k_5 x3_5 x4_5 = some res → va_P (gD G) vwCl [(q_this, .inr (3, [.ref q_numbers, .int f_size])), (q_numbers, .inl (gI G, 3, .inl f_numbers)), (q_p1, .inr (2, [.int p1_units, .int p1_ties, .int p1_digs, .int p1_sights, .int p1_events, .ref q_p1_traits, .ref q_p1_upper, .ref q_p1_lower, .ref q_p1_digRow, .ref q_p1_heldUnit, .ref q_p1_heldKind, .ref q_p1_seenFirst, .ref q_p1_seenSecond, .ref q_p1_seenIs, .ref q_p1_eventWhat, .ref q_p1_eventUnit])), (q_p1_traits, .inl (gI G, 60, .inl p1_traits)), (q_p2, .inr (5, [.int p2_units, .ref q_p2_under, .ref q_p2_above, .ref q_p2_reach, .ref q_p2_levelRow, .ref q_p2_shown, .ref q_p2_stepsBack])), (q_p2_under, .inl (gI G, 12, .inl p2_under)), (q_p2_reach, .inl (gI G, 12, .inl p2_reach))] H → va_D A [(q_this, .inr (3, [.ref q_numbers, .int f_size])), (q_numbers, .inl (gI G, 3, .inl f_numbers)), (q_p1, .inr (2, [.int p1_units, .int p1_ties, .int p1_digs, .int p1_sights, .int p1_events, .ref q_p1_traits, .ref q_p1_upper, .ref q_p1_lower, .ref q_p1_digRow, .ref q_p1_heldUnit, .ref q_p1_heldKind, .ref q_p1_seenFirst, .ref q_p1_seenSecond, .ref q_p1_seenIs, .ref q_p1_eventWhat, .ref q_p1_eventUnit])), (q_p1_traits, .inl (gI G, 60, .inl p1_traits)), (q_p2, .inr (5, [.int p2_units, .ref q_p2_under, .ref q_p2_above, .ref q_p2_reach, .ref q_p2_levelRow, .ref q_p2_shown, .ref q_p2_stepsBack])), (q_p2_under, .inl (gI G, 12, .inl p2_under)), (q_p2_reach, .inl (gI G, 12, .inl p2_reach))] → va_S A s.heap H locs → lv_has ls 5 [(0, .ref q_this), (1, .ref q_p1), (2, .ref q_p2), (3, .int x3_5)] → W p l e { frames := 3, cells := 0, slots := 0, locals := 65 } s m ([.ref q_this, .ref q_p1, .ref q_p2] : List Value).toArray below meth c H locs 0 0 Q (F0 m 40 ls [])) → ∀ (n_5 : Nat) (x3_5 : Int32) (x4_5 : Int32) (H : Heap) (locs : List Loc) (ls : Array Slot), m_X3_findsBareFill_L5 p1_units p1_traits n_5 x3_5 x4_5 k_5 = some res → va_P (gD G) vwCl [(q_this, .inr (3, [.ref q_numbers, .int f_size])), (q_numbers, .inl (gI G, 3, .inl f_numbers)), (q_p1, .inr (2, [.int p1_units, .int p1_ties, .int p1_digs, .int p1_sights, .int p1_events, .ref q_p1_traits, .ref q_p1_upper, .ref q_p1_lower, .ref q_p1_digRow, .ref q_p1_heldUnit, .ref q_p1_heldKind, .ref q_p1_seenFirst, .ref q_p1_seenSecond, .ref q_p1_seenIs, .ref q_p1_eventWhat, .ref q_p1_eventUnit])), (q_p1_traits, .inl (gI G, 60, .inl p1_traits)), (q_p2, .inr (5, [.int p2_units, .ref q_p2_under, .ref q_p2_above, .ref q_p2_reach, .ref q_p2_levelRow, .ref q_p2_shown, .ref q_p2_stepsBack])), (q_p2_under, .inl (gI G, 12, .inl p2_under)), (q_p2_reach, .inl (gI G, 12, .inl p2_reach))] H → va_D A [(q_this, .inr (3, [.ref q_numbers, .int f_size])), (q_numbers, .inl (gI G, 3, .inl f_numbers)), (q_p1, .inr (2, [.int p1_units, .int p1_ties, .int p1_digs, .int p1_sights, .int p1_events, .ref q_p1_traits, .ref q_p1_upper, .ref q_p1_lower, .ref q_p1_digRow, .ref q_p1_heldUnit, .ref q_p1_heldKind, .ref q_p1_seenFirst, .ref q_p1_seenSecond, .ref q_p1_seenIs, .ref q_p1_eventWhat, .ref q_p1_eventUnit])), (q_p1_traits, .inl (gI G, 60, .inl p1_traits)), (q_p2, .inr (5, [.int p2_units, .ref q_p2_under, .ref q_p2_above, .ref q_p2_reach, .ref q_p2_levelRow, .ref q_p2_shown, .ref q_p2_stepsBack])), (q_p2_under, .inl (gI G, 12, .inl p2_under)), (q_p2_reach, .inl (gI G, 12, .inl p2_reach))] → va_S A s.heap H locs → lv_has ls 5 [(0, .ref q_this), (1, .ref q_p1), (2, .ref q_p2), (3, .int x3_5), (4, .int x4_5)] → W p l e { frames := 3, cells := 0, slots := 0, locals := 65 } s m ([.ref q_this, .ref q_p1, .ref q_p2] : List Value).toArray below meth c H locs 0 0 Q (F0 m 5 ls []) := by
    intro k_5 hk_5 n_5
    induction n_5 with
    | zero =>
      intro x3_5 x4_5 H locs ls hm
      rw [m_X3_findsBareFill_L5] at hm
      cases hm
    | succ n_5 ih_5 =>
      intro x3_5 x4_5 H locs ls hm hP hD hS hl
      rw [m_X3_findsBareFill_L5] at hm
      refine lv_iload hx hb dX3_findsBareFill_5 (lv_at hl 4 rfl) ?_
      refine lv_aload_n hx hb dX3_findsBareFill_7 rfl (lv_at hl 1 rfl) ?_
      refine gf_X3_46 (v := .int p1_units) hx hb hts hown hK hP 2 rfl rfl dX3_findsBareFill_8 ?_
      refine ic_ge (tgt := 40) hx hb dX3_findsBareFill_11 (by decide) hm (fun hm => ?_) (fun hm => ?_)
      · exact hk_5 x3_5 x4_5 _ _ _ hm hP hD hS (lv_sub hl [0, 1, 2, 3] rfl)
      refine lv_aload_n hx hb dX3_findsBareFill_14 rfl (lv_at hl 1 rfl) ?_
      refine lv_iconst (v := 0) hx hb dX3_findsBareFill_15 (by decide) ?_
      refine lv_iload hx hb dX3_findsBareFill_16 (lv_at hl 4 rfl) ?_
      obtain ⟨r_1, h_2, hm⟩ := cl_elim hm
      refine w_callV (As := [.int (0 : Int32), .int x4_5]) (rest := []) (wr := [(q_this, .inr (3, [.ref q_numbers, .int f_size])), (q_numbers, .inl (gI G, 3, .inl f_numbers)), (q_p2, .inr (5, [.int p2_units, .ref q_p2_under, .ref q_p2_above, .ref q_p2_reach, .ref q_p2_levelRow, .ref q_p2_shown, .ref q_p2_stepsBack])), (q_p2_under, .inl (gI G, 12, .inl p2_under)), (q_p2_reach, .inl (gI G, 12, .inl p2_reach))]) (W1 := [(q_this, .inr (3, [.ref q_numbers, .int f_size])), (q_numbers, .inl (gI G, 3, .inl f_numbers)), (q_p1, .inr (2, [.int p1_units, .int p1_ties, .int p1_digs, .int p1_sights, .int p1_events, .ref q_p1_traits, .ref q_p1_upper, .ref q_p1_lower, .ref q_p1_digRow, .ref q_p1_heldUnit, .ref q_p1_heldKind, .ref q_p1_seenFirst, .ref q_p1_seenSecond, .ref q_p1_seenIs, .ref q_p1_eventWhat, .ref q_p1_eventUnit])), (q_p1_traits, .inl (gI G, 60, .inl p1_traits)), (q_p2, .inr (5, [.int p2_units, .ref q_p2_under, .ref q_p2_above, .ref q_p2_reach, .ref q_p2_levelRow, .ref q_p2_shown, .ref q_p2_stepsBack])), (q_p2_under, .inl (gI G, 12, .inl p2_under)), (q_p2_reach, .inl (gI G, 12, .inl p2_reach))]) (ci := 2) (q0 := 2) hx hb hml hown hts hK hG hP hD hS hA (c_X2_trait G l q_p1 p1_units p1_ties p1_digs p1_sights p1_events q_p1_upper q_p1_lower q_p1_digRow q_p1_heldUnit q_p1_heldKind q_p1_seenFirst q_p1_seenSecond q_p1_seenIs q_p1_eventWhat q_p1_eventUnit q_p1_traits p1_traits (0 : Int32) x4_5 h_2) kc_X2_trait ki_X2_trait bw539 rfl rfl rfl hl.1 rfl (Nat.le_of_ble_eq_true rfl) dX3_findsBareFill_18 (Nat.le_of_ble_eq_true rfl) (Nat.le_of_ble_eq_true rfl) ⟨Nat.le_refl _, Nat.le_refl _⟩ [2, 3] [0, 1, 4, 5, 6] [0, 1, 5, 6, 2, 3, 4] rfl rfl rfl rfl (by decide) rfl rfl (fun H locs hP hD hS => ?_)
      obtain ⟨r_3, h_4, hm⟩ := cl_elim hm
      refine w_callN (As := [.int r_1]) (rest := []) (wr := [(q_this, .inr (3, [.ref q_numbers, .int f_size])), (q_numbers, .inl (gI G, 3, .inl f_numbers)), (q_p1, .inr (2, [.int p1_units, .int p1_ties, .int p1_digs, .int p1_sights, .int p1_events, .ref q_p1_traits, .ref q_p1_upper, .ref q_p1_lower, .ref q_p1_digRow, .ref q_p1_heldUnit, .ref q_p1_heldKind, .ref q_p1_seenFirst, .ref q_p1_seenSecond, .ref q_p1_seenIs, .ref q_p1_eventWhat, .ref q_p1_eventUnit])), (q_p1_traits, .inl (gI G, 60, .inl p1_traits)), (q_p2, .inr (5, [.int p2_units, .ref q_p2_under, .ref q_p2_above, .ref q_p2_reach, .ref q_p2_levelRow, .ref q_p2_shown, .ref q_p2_stepsBack])), (q_p2_under, .inl (gI G, 12, .inl p2_under)), (q_p2_reach, .inl (gI G, 12, .inl p2_reach))]) (W1 := [(q_this, .inr (3, [.ref q_numbers, .int f_size])), (q_numbers, .inl (gI G, 3, .inl f_numbers)), (q_p1, .inr (2, [.int p1_units, .int p1_ties, .int p1_digs, .int p1_sights, .int p1_events, .ref q_p1_traits, .ref q_p1_upper, .ref q_p1_lower, .ref q_p1_digRow, .ref q_p1_heldUnit, .ref q_p1_heldKind, .ref q_p1_seenFirst, .ref q_p1_seenSecond, .ref q_p1_seenIs, .ref q_p1_eventWhat, .ref q_p1_eventUnit])), (q_p1_traits, .inl (gI G, 60, .inl p1_traits)), (q_p2, .inr (5, [.int p2_units, .ref q_p2_under, .ref q_p2_above, .ref q_p2_reach, .ref q_p2_levelRow, .ref q_p2_shown, .ref q_p2_stepsBack])), (q_p2_under, .inl (gI G, 12, .inl p2_under)), (q_p2_reach, .inl (gI G, 12, .inl p2_reach))]) (host := "DigOrder") hx hb hml hown hts hK hG hP hD hS hA (c_X7_isCut G l r_1 h_4) kc_X7_isCut ks_X7_isCut (by decide +kernel) rfl hl.1 rfl (Nat.le_of_ble_eq_true rfl) dX3_findsBareFill_21 (Nat.le_of_ble_eq_true rfl) (Nat.le_of_ble_eq_true rfl) ⟨Nat.le_refl _, Nat.le_refl _⟩ [] [0, 1, 2, 3, 4, 5, 6] [0, 1, 2, 3, 4, 5, 6] rfl rfl rfl rfl (by decide) rfl rfl (fun H locs hP hD hS => ?_)
      refine if_eq (tgt := 34) hx hb dX3_findsBareFill_24 (by decide) hm (fun hm => ?_) (fun hm => ?_)
      · refine lv_iinc (v := (x4_5 + (1 : Int32))) (lv' := [(4, .int (x4_5 + (1 : Int32))), (0, .ref q_this), (1, .ref q_p1), (2, .ref q_p2), (3, .int x3_5)]) hx hb dX3_findsBareFill_34 hl (k := 4) rfl rfl (by decide) rfl (fun ls hl => ?_)
        refine lv_goto (tgt := 5) hx hb dX3_findsBareFill_37 (by decide) ?_
        exact ih_5 x3_5 (x4_5 + (1 : Int32)) _ _ _ hm hP hD hS (lv_sub hl [1, 2, 3, 4, 0] rfl)
      refine lv_iload_n hx hb dX3_findsBareFill_27 rfl (lv_at hl 3 rfl) ?_
      refine lv_iconst (v := 1) hx hb dX3_findsBareFill_28 (by decide) ?_
      refine lv_iload hx hb dX3_findsBareFill_29 (lv_at hl 4 rfl) ?_
      refine lv_ishl hx hb dX3_findsBareFill_31 ?_
      refine lv_ior hx hb dX3_findsBareFill_32 ?_
      refine nmi hm (fun v_5 hm => ?_)
      refine lv_istore_n (lv' := [(3, .int v_5), (0, .ref q_this), (1, .ref q_p1), (2, .ref q_p2), (4, .int x4_5)]) hx hb dX3_findsBareFill_33 rfl hl (by decide) rfl (fun ls hl => ?_)
      refine lv_iinc (v := (x4_5 + (1 : Int32))) (lv' := [(4, .int (x4_5 + (1 : Int32))), (3, .int v_5), (0, .ref q_this), (1, .ref q_p1), (2, .ref q_p2)]) hx hb dX3_findsBareFill_34 hl (k := 4) rfl rfl (by decide) rfl (fun ls hl => ?_)
      refine lv_goto (tgt := 5) hx hb dX3_findsBareFill_37 (by decide) ?_
      exact ih_5 v_5 (x4_5 + (1 : Int32)) _ _ _ hm hP hD hS (lv_sub hl [2, 3, 4, 1, 0] rfl)
  refine hL_5 _ ?_ FU (0 : Int32) (0 : Int32) _ _ _ hm hP hD hS (lv_sub hl [2, 3, 4, 1, 0] rfl)
  intro x3_5 x4_5 H locs ls hm hP hD hS hl
  refine lv_iconst (v := 0) hx hb dX3_findsBareFill_40 (by decide) ?_
  refine lv_istore (lv' := [(4, .int (0 : Int32)), (0, .ref q_this), (1, .ref q_p1), (2, .ref q_p2), (3, .int x3_5)]) hx hb dX3_findsBareFill_41 hl (by decide) rfl (fun ls hl => ?_)
  have hL_43 : ∀ (k_43 : Int32 → Option ((Nat → Int32) × Int32 × Int32)), (∀ (x4_43 : Int32) (H : Heap) (locs : List Loc) (ls : Array Slot), k_43 x4_43 = some res → va_P (gD G) vwCl [(q_this, .inr (3, [.ref q_numbers, .int f_size])), (q_numbers, .inl (gI G, 3, .inl f_numbers)), (q_p1, .inr (2, [.int p1_units, .int p1_ties, .int p1_digs, .int p1_sights, .int p1_events, .ref q_p1_traits, .ref q_p1_upper, .ref q_p1_lower, .ref q_p1_digRow, .ref q_p1_heldUnit, .ref q_p1_heldKind, .ref q_p1_seenFirst, .ref q_p1_seenSecond, .ref q_p1_seenIs, .ref q_p1_eventWhat, .ref q_p1_eventUnit])), (q_p1_traits, .inl (gI G, 60, .inl p1_traits)), (q_p2, .inr (5, [.int p2_units, .ref q_p2_under, .ref q_p2_above, .ref q_p2_reach, .ref q_p2_levelRow, .ref q_p2_shown, .ref q_p2_stepsBack])), (q_p2_under, .inl (gI G, 12, .inl p2_under)), (q_p2_reach, .inl (gI G, 12, .inl p2_reach))] H → va_D A [(q_this, .inr (3, [.ref q_numbers, .int f_size])), (q_numbers, .inl (gI G, 3, .inl f_numbers)), (q_p1, .inr (2, [.int p1_units, .int p1_ties, .int p1_digs, .int p1_sights, .int p1_events, .ref q_p1_traits, .ref q_p1_upper, .ref q_p1_lower, .ref q_p1_digRow, .ref q_p1_heldUnit, .ref q_p1_heldKind, .ref q_p1_seenFirst, .ref q_p1_seenSecond, .ref q_p1_seenIs, .ref q_p1_eventWhat, .ref q_p1_eventUnit])), (q_p1_traits, .inl (gI G, 60, .inl p1_traits)), (q_p2, .inr (5, [.int p2_units, .ref q_p2_under, .ref q_p2_above, .ref q_p2_reach, .ref q_p2_levelRow, .ref q_p2_shown, .ref q_p2_stepsBack])), (q_p2_under, .inl (gI G, 12, .inl p2_under)), (q_p2_reach, .inl (gI G, 12, .inl p2_reach))] → va_S A s.heap H locs → lv_has ls 5 [] → W p l e { frames := 3, cells := 0, slots := 0, locals := 65 } s m ([.ref q_this, .ref q_p1, .ref q_p2] : List Value).toArray below meth c H locs 0 0 Q (F0 m 97 ls [])) → ∀ (n_43 : Nat) (x4_43 : Int32) (H : Heap) (locs : List Loc) (ls : Array Slot), m_X3_findsBareFill_L43 f_size p1_units p2_units f_numbers p1_traits p2_under p2_reach x3_5 n_43 x4_43 k_43 = some res → va_P (gD G) vwCl [(q_this, .inr (3, [.ref q_numbers, .int f_size])), (q_numbers, .inl (gI G, 3, .inl f_numbers)), (q_p1, .inr (2, [.int p1_units, .int p1_ties, .int p1_digs, .int p1_sights, .int p1_events, .ref q_p1_traits, .ref q_p1_upper, .ref q_p1_lower, .ref q_p1_digRow, .ref q_p1_heldUnit, .ref q_p1_heldKind, .ref q_p1_seenFirst, .ref q_p1_seenSecond, .ref q_p1_seenIs, .ref q_p1_eventWhat, .ref q_p1_eventUnit])), (q_p1_traits, .inl (gI G, 60, .inl p1_traits)), (q_p2, .inr (5, [.int p2_units, .ref q_p2_under, .ref q_p2_above, .ref q_p2_reach, .ref q_p2_levelRow, .ref q_p2_shown, .ref q_p2_stepsBack])), (q_p2_under, .inl (gI G, 12, .inl p2_under)), (q_p2_reach, .inl (gI G, 12, .inl p2_reach))] H → va_D A [(q_this, .inr (3, [.ref q_numbers, .int f_size])), (q_numbers, .inl (gI G, 3, .inl f_numbers)), (q_p1, .inr (2, [.int p1_units, .int p1_ties, .int p1_digs, .int p1_sights, .int p1_events, .ref q_p1_traits, .ref q_p1_upper, .ref q_p1_lower, .ref q_p1_digRow, .ref q_p1_heldUnit, .ref q_p1_heldKind, .ref q_p1_seenFirst, .ref q_p1_seenSecond, .ref q_p1_seenIs, .ref q_p1_eventWhat, .ref q_p1_eventUnit])), (q_p1_traits, .inl (gI G, 60, .inl p1_traits)), (q_p2, .inr (5, [.int p2_units, .ref q_p2_under, .ref q_p2_above, .ref q_p2_reach, .ref q_p2_levelRow, .ref q_p2_shown, .ref q_p2_stepsBack])), (q_p2_under, .inl (gI G, 12, .inl p2_under)), (q_p2_reach, .inl (gI G, 12, .inl p2_reach))] → va_S A s.heap H locs → lv_has ls 5 [(0, .ref q_this), (1, .ref q_p1), (2, .ref q_p2), (3, .int x3_5), (4, .int x4_43)] → W p l e { frames := 3, cells := 0, slots := 0, locals := 65 } s m ([.ref q_this, .ref q_p1, .ref q_p2] : List Value).toArray below meth c H locs 0 0 Q (F0 m 43 ls []) := by
    intro k_43 hk_43 n_43
    induction n_43 with
    | zero =>
      intro x4_43 H locs ls hm
      rw [m_X3_findsBareFill_L43] at hm
      cases hm
    | succ n_43 ih_43 =>
      intro x4_43 H locs ls hm hP hD hS hl
      rw [m_X3_findsBareFill_L43] at hm
      refine lv_iload hx hb dX3_findsBareFill_43 (lv_at hl 4 rfl) ?_
      refine lv_aload_n hx hb dX3_findsBareFill_45 rfl (lv_at hl 1 rfl) ?_
      refine gf_X3_46 (v := .int p1_units) hx hb hts hown hK hP 2 rfl rfl dX3_findsBareFill_46 ?_
      refine ic_ge (tgt := 97) hx hb dX3_findsBareFill_49 (by decide) hm (fun hm => ?_) (fun hm => ?_)
      · exact hk_43 x4_43 _ _ _ hm hP hD hS (lv_sub hl [] rfl)
      refine lv_aload_n hx hb dX3_findsBareFill_52 rfl (lv_at hl 1 rfl) ?_
      refine lv_iconst (v := 0) hx hb dX3_findsBareFill_53 (by decide) ?_
      refine lv_iload hx hb dX3_findsBareFill_54 (lv_at hl 4 rfl) ?_
      obtain ⟨r_6, h_7, hm⟩ := cl_elim hm
      refine w_callV (As := [.int (0 : Int32), .int x4_43]) (rest := []) (wr := [(q_this, .inr (3, [.ref q_numbers, .int f_size])), (q_numbers, .inl (gI G, 3, .inl f_numbers)), (q_p2, .inr (5, [.int p2_units, .ref q_p2_under, .ref q_p2_above, .ref q_p2_reach, .ref q_p2_levelRow, .ref q_p2_shown, .ref q_p2_stepsBack])), (q_p2_under, .inl (gI G, 12, .inl p2_under)), (q_p2_reach, .inl (gI G, 12, .inl p2_reach))]) (W1 := [(q_this, .inr (3, [.ref q_numbers, .int f_size])), (q_numbers, .inl (gI G, 3, .inl f_numbers)), (q_p1, .inr (2, [.int p1_units, .int p1_ties, .int p1_digs, .int p1_sights, .int p1_events, .ref q_p1_traits, .ref q_p1_upper, .ref q_p1_lower, .ref q_p1_digRow, .ref q_p1_heldUnit, .ref q_p1_heldKind, .ref q_p1_seenFirst, .ref q_p1_seenSecond, .ref q_p1_seenIs, .ref q_p1_eventWhat, .ref q_p1_eventUnit])), (q_p1_traits, .inl (gI G, 60, .inl p1_traits)), (q_p2, .inr (5, [.int p2_units, .ref q_p2_under, .ref q_p2_above, .ref q_p2_reach, .ref q_p2_levelRow, .ref q_p2_shown, .ref q_p2_stepsBack])), (q_p2_under, .inl (gI G, 12, .inl p2_under)), (q_p2_reach, .inl (gI G, 12, .inl p2_reach))]) (ci := 2) (q0 := 2) hx hb hml hown hts hK hG hP hD hS hA (c_X2_trait G l q_p1 p1_units p1_ties p1_digs p1_sights p1_events q_p1_upper q_p1_lower q_p1_digRow q_p1_heldUnit q_p1_heldKind q_p1_seenFirst q_p1_seenSecond q_p1_seenIs q_p1_eventWhat q_p1_eventUnit q_p1_traits p1_traits (0 : Int32) x4_43 h_7) kc_X2_trait ki_X2_trait bw539 rfl rfl rfl hl.1 rfl (Nat.le_of_ble_eq_true rfl) dX3_findsBareFill_56 (Nat.le_of_ble_eq_true rfl) (Nat.le_of_ble_eq_true rfl) ⟨Nat.le_refl _, Nat.le_refl _⟩ [2, 3] [0, 1, 4, 5, 6] [0, 1, 5, 6, 2, 3, 4] rfl rfl rfl rfl (by decide) rfl rfl (fun H locs hP hD hS => ?_)
      obtain ⟨r_8, h_9, hm⟩ := cl_elim hm
      refine w_callN (As := [.int r_6]) (rest := []) (wr := [(q_this, .inr (3, [.ref q_numbers, .int f_size])), (q_numbers, .inl (gI G, 3, .inl f_numbers)), (q_p1, .inr (2, [.int p1_units, .int p1_ties, .int p1_digs, .int p1_sights, .int p1_events, .ref q_p1_traits, .ref q_p1_upper, .ref q_p1_lower, .ref q_p1_digRow, .ref q_p1_heldUnit, .ref q_p1_heldKind, .ref q_p1_seenFirst, .ref q_p1_seenSecond, .ref q_p1_seenIs, .ref q_p1_eventWhat, .ref q_p1_eventUnit])), (q_p1_traits, .inl (gI G, 60, .inl p1_traits)), (q_p2, .inr (5, [.int p2_units, .ref q_p2_under, .ref q_p2_above, .ref q_p2_reach, .ref q_p2_levelRow, .ref q_p2_shown, .ref q_p2_stepsBack])), (q_p2_under, .inl (gI G, 12, .inl p2_under)), (q_p2_reach, .inl (gI G, 12, .inl p2_reach))]) (W1 := [(q_this, .inr (3, [.ref q_numbers, .int f_size])), (q_numbers, .inl (gI G, 3, .inl f_numbers)), (q_p1, .inr (2, [.int p1_units, .int p1_ties, .int p1_digs, .int p1_sights, .int p1_events, .ref q_p1_traits, .ref q_p1_upper, .ref q_p1_lower, .ref q_p1_digRow, .ref q_p1_heldUnit, .ref q_p1_heldKind, .ref q_p1_seenFirst, .ref q_p1_seenSecond, .ref q_p1_seenIs, .ref q_p1_eventWhat, .ref q_p1_eventUnit])), (q_p1_traits, .inl (gI G, 60, .inl p1_traits)), (q_p2, .inr (5, [.int p2_units, .ref q_p2_under, .ref q_p2_above, .ref q_p2_reach, .ref q_p2_levelRow, .ref q_p2_shown, .ref q_p2_stepsBack])), (q_p2_under, .inl (gI G, 12, .inl p2_under)), (q_p2_reach, .inl (gI G, 12, .inl p2_reach))]) (host := "DigOrder") hx hb hml hown hts hK hG hP hD hS hA (c_X7_isFill G l r_6 h_9) kc_X7_isFill ks_X7_isFill (by decide +kernel) rfl hl.1 rfl (Nat.le_of_ble_eq_true rfl) dX3_findsBareFill_59 (Nat.le_of_ble_eq_true rfl) (Nat.le_of_ble_eq_true rfl) ⟨Nat.le_refl _, Nat.le_refl _⟩ [] [0, 1, 2, 3, 4, 5, 6] [0, 1, 2, 3, 4, 5, 6] rfl rfl rfl rfl (by decide) rfl rfl (fun H locs hP hD hS => ?_)
      refine if_eq (tgt := 91) hx hb dX3_findsBareFill_62 (by decide) hm (fun hm => ?_) (fun hm => ?_)
      · refine lv_iinc (v := (x4_43 + (1 : Int32))) (lv' := [(4, .int (x4_43 + (1 : Int32))), (0, .ref q_this), (1, .ref q_p1), (2, .ref q_p2), (3, .int x3_5)]) hx hb dX3_findsBareFill_91 hl (k := 4) rfl rfl (by decide) rfl (fun ls hl => ?_)
        refine lv_goto (tgt := 43) hx hb dX3_findsBareFill_94 (by decide) ?_
        exact ih_43 (x4_43 + (1 : Int32)) _ _ _ hm hP hD hS (lv_sub hl [1, 2, 3, 4, 0] rfl)
      refine lv_aload_n hx hb dX3_findsBareFill_65 rfl (lv_at hl 2 rfl) ?_
      refine lv_iload hx hb dX3_findsBareFill_66 (lv_at hl 4 rfl) ?_
      obtain ⟨r_10, h_11, hm⟩ := cl_elim hm
      refine w_callV (As := [.int x4_43]) (rest := []) (wr := [(q_this, .inr (3, [.ref q_numbers, .int f_size])), (q_numbers, .inl (gI G, 3, .inl f_numbers)), (q_p1, .inr (2, [.int p1_units, .int p1_ties, .int p1_digs, .int p1_sights, .int p1_events, .ref q_p1_traits, .ref q_p1_upper, .ref q_p1_lower, .ref q_p1_digRow, .ref q_p1_heldUnit, .ref q_p1_heldKind, .ref q_p1_seenFirst, .ref q_p1_seenSecond, .ref q_p1_seenIs, .ref q_p1_eventWhat, .ref q_p1_eventUnit])), (q_p1_traits, .inl (gI G, 60, .inl p1_traits))]) (W1 := [(q_this, .inr (3, [.ref q_numbers, .int f_size])), (q_numbers, .inl (gI G, 3, .inl f_numbers)), (q_p1, .inr (2, [.int p1_units, .int p1_ties, .int p1_digs, .int p1_sights, .int p1_events, .ref q_p1_traits, .ref q_p1_upper, .ref q_p1_lower, .ref q_p1_digRow, .ref q_p1_heldUnit, .ref q_p1_heldKind, .ref q_p1_seenFirst, .ref q_p1_seenSecond, .ref q_p1_seenIs, .ref q_p1_eventWhat, .ref q_p1_eventUnit])), (q_p1_traits, .inl (gI G, 60, .inl p1_traits)), (q_p2, .inr (5, [.int p2_units, .ref q_p2_under, .ref q_p2_above, .ref q_p2_reach, .ref q_p2_levelRow, .ref q_p2_shown, .ref q_p2_stepsBack])), (q_p2_under, .inl (gI G, 12, .inl p2_under)), (q_p2_reach, .inl (gI G, 12, .inl p2_reach))]) (ci := 5) (q0 := 4) hx hb hml hown hts hK hG hP hD hS hA (c_X5_reducedUnder G l q_p2 p2_units q_p2_above q_p2_levelRow q_p2_shown q_p2_stepsBack q_p2_under p2_under q_p2_reach p2_reach x4_43 h_11) kc_X5_reducedUnder ki_X5_reducedUnder bw546 rfl rfl rfl hl.1 rfl (Nat.le_of_ble_eq_true rfl) dX3_findsBareFill_68 (Nat.le_of_ble_eq_true rfl) (Nat.le_of_ble_eq_true rfl) ⟨Nat.le_refl _, Nat.le_refl _⟩ [4, 5, 6] [0, 1, 2, 3] [0, 1, 2, 3, 4, 5, 6] rfl rfl rfl rfl (by decide) rfl rfl (fun H locs hP hD hS => ?_)
      refine lv_iload_n hx hb dX3_findsBareFill_71 rfl (lv_at hl 3 rfl) ?_
      refine lv_iand hx hb dX3_findsBareFill_72 ?_
      refine if_ne (tgt := 91) hx hb dX3_findsBareFill_73 (by decide) hm (fun hm => ?_) (fun hm => ?_)
      · refine lv_iinc (v := (x4_43 + (1 : Int32))) (lv' := [(4, .int (x4_43 + (1 : Int32))), (0, .ref q_this), (1, .ref q_p1), (2, .ref q_p2), (3, .int x3_5)]) hx hb dX3_findsBareFill_91 hl (k := 4) rfl rfl (by decide) rfl (fun ls hl => ?_)
        refine lv_goto (tgt := 43) hx hb dX3_findsBareFill_94 (by decide) ?_
        exact ih_43 (x4_43 + (1 : Int32)) _ _ _ hm hP hD hS (lv_sub hl [1, 2, 3, 4, 0] rfl)
      refine lv_aload_n hx hb dX3_findsBareFill_76 rfl (lv_at hl 0 rfl) ?_
      refine lv_iconst (v := 2) hx hb dX3_findsBareFill_77 (by decide) ?_
      refine lv_iload hx hb dX3_findsBareFill_78 (lv_at hl 4 rfl) ?_
      refine lv_iconst (v := 0) hx hb dX3_findsBareFill_80 (by decide) ?_
      obtain ⟨r_12, h_13, hm⟩ := cl_elim hm
      refine w_callV (As := [.int (2 : Int32), .int x4_43, .int (0 : Int32)]) (rest := []) (wr := [(q_p1, .inr (2, [.int p1_units, .int p1_ties, .int p1_digs, .int p1_sights, .int p1_events, .ref q_p1_traits, .ref q_p1_upper, .ref q_p1_lower, .ref q_p1_digRow, .ref q_p1_heldUnit, .ref q_p1_heldKind, .ref q_p1_seenFirst, .ref q_p1_seenSecond, .ref q_p1_seenIs, .ref q_p1_eventWhat, .ref q_p1_eventUnit])), (q_p1_traits, .inl (gI G, 60, .inl p1_traits)), (q_p2, .inr (5, [.int p2_units, .ref q_p2_under, .ref q_p2_above, .ref q_p2_reach, .ref q_p2_levelRow, .ref q_p2_shown, .ref q_p2_stepsBack])), (q_p2_under, .inl (gI G, 12, .inl p2_under)), (q_p2_reach, .inl (gI G, 12, .inl p2_reach))]) (W1 := [(q_this, .inr (3, [.ref q_numbers, .int r_12.2])), (q_numbers, .inl (gI G, 3, .inl r_12.1)), (q_p1, .inr (2, [.int p1_units, .int p1_ties, .int p1_digs, .int p1_sights, .int p1_events, .ref q_p1_traits, .ref q_p1_upper, .ref q_p1_lower, .ref q_p1_digRow, .ref q_p1_heldUnit, .ref q_p1_heldKind, .ref q_p1_seenFirst, .ref q_p1_seenSecond, .ref q_p1_seenIs, .ref q_p1_eventWhat, .ref q_p1_eventUnit])), (q_p1_traits, .inl (gI G, 60, .inl p1_traits)), (q_p2, .inr (5, [.int p2_units, .ref q_p2_under, .ref q_p2_above, .ref q_p2_reach, .ref q_p2_levelRow, .ref q_p2_shown, .ref q_p2_stepsBack])), (q_p2_under, .inl (gI G, 12, .inl p2_under)), (q_p2_reach, .inl (gI G, 12, .inl p2_reach))]) (ci := 3) (q0 := 0) hx hb hml hown hts hK hG hP hD hS hA (c_X3_write G l q_this f_size q_numbers f_numbers (2 : Int32) x4_43 (0 : Int32) h_13) kc_X3_write ki_X3_write bw531 rfl rfl rfl hl.1 rfl (Nat.le_of_ble_eq_true rfl) dX3_findsBareFill_81 (Nat.le_of_ble_eq_true rfl) (Nat.le_of_ble_eq_true rfl) ⟨Nat.le_refl _, Nat.le_refl _⟩ [0, 1] [2, 3, 4, 5, 6] [5, 6, 0, 1, 2, 3, 4] rfl rfl rfl rfl (by decide) rfl rfl (fun H locs hP hD hS => ?_)
      refine lv_aload_n hx hb dX3_findsBareFill_84 rfl (lv_at hl 0 rfl) ?_
      refine lv_iconst (v := 2) hx hb dX3_findsBareFill_85 (by decide) ?_
      refine pf_X3_15 (W1 := [(q_this, .inr (3, [.ref q_numbers, .int (2 : Int32)])), (q_numbers, .inl (gI G, 3, .inl r_12.1)), (q_p1, .inr (2, [.int p1_units, .int p1_ties, .int p1_digs, .int p1_sights, .int p1_events, .ref q_p1_traits, .ref q_p1_upper, .ref q_p1_lower, .ref q_p1_digRow, .ref q_p1_heldUnit, .ref q_p1_heldKind, .ref q_p1_seenFirst, .ref q_p1_seenSecond, .ref q_p1_seenIs, .ref q_p1_eventWhat, .ref q_p1_eventUnit])), (q_p1_traits, .inl (gI G, 60, .inl p1_traits)), (q_p2, .inr (5, [.int p2_units, .ref q_p2_under, .ref q_p2_above, .ref q_p2_reach, .ref q_p2_levelRow, .ref q_p2_shown, .ref q_p2_stepsBack])), (q_p2_under, .inl (gI G, 12, .inl p2_under)), (q_p2_reach, .inl (gI G, 12, .inl p2_reach))]) hx hb hts hown hK hP hD hS 0 rfl (Nat.le_of_ble_eq_true rfl) dX3_findsBareFill_86 rfl (fun H locs hP hD hS => ?_)
      refine lv_iconst (v := 1) hx hb dX3_findsBareFill_89 (by decide) ?_
      have hfin := fin _ _ ls _ _ (Option.some.inj hm) dX3_findsBareFill_90 (Or.inr rfl) hP hD hS
      exact hfin
  refine hL_43 _ ?_ FU (0 : Int32) _ _ _ hm hP hD hS (lv_sub hl [1, 2, 3, 4, 0] rfl)
  intro x4_43 H locs ls hm hP hD hS hl
  refine lv_iconst (v := 0) hx hb dX3_findsBareFill_97 (by decide) ?_
  have hfin := fin _ _ ls _ _ (Option.some.inj hm) dX3_findsBareFill_98 (Or.inl rfl) hP hD hS
  exact hfin
set_option maxHeartbeats 0 in
set_option maxRecDepth 100000 in
theorem c_X5_firstOfPhaseReaching (G : GT) (l : Launch) (q_this : Nat) (f_units : Int32) (q_under : Nat) (q_above : Nat) (q_levelRow : Nat) (q_shown : Nat) (q_stepsBack : Nat) (q_reach : Nat) (f_reach : (Nat → Int32)) (q_p1 : Nat) (p1_units : Int32) (p1_ties : Int32) (p1_digs : Int32) (p1_sights : Int32) (p1_events : Int32) (q_p1_upper : Nat) (q_p1_lower : Nat) (q_p1_digRow : Nat) (q_p1_heldUnit : Nat) (q_p1_heldKind : Nat) (q_p1_seenFirst : Nat) (q_p1_seenSecond : Nat) (q_p1_seenIs : Nat) (q_p1_eventWhat : Nat) (q_p1_eventUnit : Nat) (q_p1_traits : Nat) (p1_traits : (Nat → Int32)) (a_2 : Int32) (a_3 : Int32) {res : Int32} (hm : m_X5_firstOfPhaseReaching f_units f_reach p1_units p1_traits a_2 a_3 = some res) : CT G l yX5_firstOfPhaseReaching cX5_firstOfPhaseReaching 6 (some .int) 2 45 [.ref q_this, .ref q_p1, .int a_2, .int a_3] [(q_this, .inr (5, [.int f_units, .ref q_under, .ref q_above, .ref q_reach, .ref q_levelRow, .ref q_shown, .ref q_stepsBack])), (q_reach, .inl (gI G, 12, .inl f_reach)), (q_p1, .inr (2, [.int p1_units, .int p1_ties, .int p1_digs, .int p1_sights, .int p1_events, .ref q_p1_traits, .ref q_p1_upper, .ref q_p1_lower, .ref q_p1_digRow, .ref q_p1_heldUnit, .ref q_p1_heldKind, .ref q_p1_seenFirst, .ref q_p1_seenSecond, .ref q_p1_seenIs, .ref q_p1_eventWhat, .ref q_p1_eventUnit])), (q_p1_traits, .inl (gI G, 60, .inl p1_traits))] [(q_this, .inr (5, [.int f_units, .ref q_under, .ref q_above, .ref q_reach, .ref q_levelRow, .ref q_shown, .ref q_stepsBack])), (q_reach, .inl (gI G, 12, .inl f_reach)), (q_p1, .inr (2, [.int p1_units, .int p1_ties, .int p1_digs, .int p1_sights, .int p1_events, .ref q_p1_traits, .ref q_p1_upper, .ref q_p1_lower, .ref q_p1_digRow, .ref q_p1_heldUnit, .ref q_p1_heldKind, .ref q_p1_seenFirst, .ref q_p1_seenSecond, .ref q_p1_seenIs, .ref q_p1_eventWhat, .ref q_p1_eventUnit])), (q_p1_traits, .inl (gI G, 60, .inl p1_traits))] (some (.int res)) := by
  refine ctI (G := G) (l := l) (y := yX5_firstOfPhaseReaching) (cc := cX5_firstOfPhaseReaching) (maxL := 6) (fr := 2) (lo := 45) (As := [.ref q_this, .ref q_p1, .int a_2, .int a_3]) (res := res) (fun res : Int32 => [(q_this, .inr (5, [.int f_units, .ref q_under, .ref q_above, .ref q_reach, .ref q_levelRow, .ref q_shown, .ref q_stepsBack])), (q_reach, .inl (gI G, 12, .inl f_reach)), (q_p1, .inr (2, [.int p1_units, .int p1_ties, .int p1_digs, .int p1_sights, .int p1_events, .ref q_p1_traits, .ref q_p1_upper, .ref q_p1_lower, .ref q_p1_digRow, .ref q_p1_heldUnit, .ref q_p1_heldKind, .ref q_p1_seenFirst, .ref q_p1_seenSecond, .ref q_p1_seenIs, .ref q_p1_eventWhat, .ref q_p1_eventUnit])), (q_p1_traits, .inl (gI G, 60, .inl p1_traits))]) (fun res : Int32 => res) (plainFor_of_name (by decide)) (Nat.le_of_ble_eq_true rfl) ?_
  intro p e s m below meth c A ls Q hx hb hml hown hts hK hG hA hP hD hS hl fin
  have hown : s.vm.findClass RX5 = some m.cls := hown
  have hl : lv_has ls 6 [(0, .ref q_this), (1, .ref q_p1), (2, .int a_2), (3, .int a_3)] := hl
  unfold m_X5_firstOfPhaseReaching at hm
  refine lv_aload_n hx hb dX5_firstOfPhaseReaching_0 rfl (lv_at hl 1 rfl) ?_
  refine lv_iload_n hx hb dX5_firstOfPhaseReaching_1 rfl (lv_at hl 3 rfl) ?_
  obtain ⟨r_1, h_2, hm⟩ := cl_elim hm
  refine w_callV (As := [.int a_3]) (rest := []) (wr := [(q_this, .inr (5, [.int f_units, .ref q_under, .ref q_above, .ref q_reach, .ref q_levelRow, .ref q_shown, .ref q_stepsBack])), (q_reach, .inl (gI G, 12, .inl f_reach))]) (W1 := [(q_this, .inr (5, [.int f_units, .ref q_under, .ref q_above, .ref q_reach, .ref q_levelRow, .ref q_shown, .ref q_stepsBack])), (q_reach, .inl (gI G, 12, .inl f_reach)), (q_p1, .inr (2, [.int p1_units, .int p1_ties, .int p1_digs, .int p1_sights, .int p1_events, .ref q_p1_traits, .ref q_p1_upper, .ref q_p1_lower, .ref q_p1_digRow, .ref q_p1_heldUnit, .ref q_p1_heldKind, .ref q_p1_seenFirst, .ref q_p1_seenSecond, .ref q_p1_seenIs, .ref q_p1_eventWhat, .ref q_p1_eventUnit])), (q_p1_traits, .inl (gI G, 60, .inl p1_traits))]) (ci := 2) (q0 := 2) hx hb hml hown hts hK hG hP hD hS hA (c_X2_unitsOfPhase G l q_p1 p1_units p1_ties p1_digs p1_sights p1_events q_p1_upper q_p1_lower q_p1_digRow q_p1_heldUnit q_p1_heldKind q_p1_seenFirst q_p1_seenSecond q_p1_seenIs q_p1_eventWhat q_p1_eventUnit q_p1_traits p1_traits a_3 h_2) kc_X2_unitsOfPhase ki_X2_unitsOfPhase bw555 rfl rfl rfl hl.1 rfl (Nat.le_of_ble_eq_true rfl) dX5_firstOfPhaseReaching_2 (Nat.le_of_ble_eq_true rfl) (Nat.le_of_ble_eq_true rfl) ⟨Nat.le_refl _, Nat.le_refl _⟩ [2, 3] [0, 1] [0, 1, 2, 3] rfl rfl rfl rfl (by decide) rfl rfl (fun H locs hP hD hS => ?_)
  refine lv_istore (lv' := [(4, .int r_1), (0, .ref q_this), (1, .ref q_p1), (2, .int a_2), (3, .int a_3)]) hx hb dX5_firstOfPhaseReaching_5 hl (by decide) rfl (fun ls hl => ?_)
  refine lv_iconst (v := 0) hx hb dX5_firstOfPhaseReaching_7 (by decide) ?_
  refine lv_istore (lv' := [(5, .int (0 : Int32)), (4, .int r_1), (0, .ref q_this), (1, .ref q_p1), (2, .int a_2), (3, .int a_3)]) hx hb dX5_firstOfPhaseReaching_8 hl (by decide) rfl (fun ls hl => ?_)
  have hL_10 : ∀ (k_10 : Int32 → Option Int32), (∀ (x5_10 : Int32) (H : Heap) (locs : List Loc) (ls : Array Slot), k_10 x5_10 = some res → va_P (gD G) vwCl [(q_this, .inr (5, [.int f_units, .ref q_under, .ref q_above, .ref q_reach, .ref q_levelRow, .ref q_shown, .ref q_stepsBack])), (q_reach, .inl (gI G, 12, .inl f_reach)), (q_p1, .inr (2, [.int p1_units, .int p1_ties, .int p1_digs, .int p1_sights, .int p1_events, .ref q_p1_traits, .ref q_p1_upper, .ref q_p1_lower, .ref q_p1_digRow, .ref q_p1_heldUnit, .ref q_p1_heldKind, .ref q_p1_seenFirst, .ref q_p1_seenSecond, .ref q_p1_seenIs, .ref q_p1_eventWhat, .ref q_p1_eventUnit])), (q_p1_traits, .inl (gI G, 60, .inl p1_traits))] H → va_D A [(q_this, .inr (5, [.int f_units, .ref q_under, .ref q_above, .ref q_reach, .ref q_levelRow, .ref q_shown, .ref q_stepsBack])), (q_reach, .inl (gI G, 12, .inl f_reach)), (q_p1, .inr (2, [.int p1_units, .int p1_ties, .int p1_digs, .int p1_sights, .int p1_events, .ref q_p1_traits, .ref q_p1_upper, .ref q_p1_lower, .ref q_p1_digRow, .ref q_p1_heldUnit, .ref q_p1_heldKind, .ref q_p1_seenFirst, .ref q_p1_seenSecond, .ref q_p1_seenIs, .ref q_p1_eventWhat, .ref q_p1_eventUnit])), (q_p1_traits, .inl (gI G, 60, .inl p1_traits))] → va_S A s.heap H locs → lv_has ls 6 [] → W p l e { frames := 2, cells := 0, slots := 0, locals := 45 } s m ([.ref q_this, .ref q_p1, .int a_2, .int a_3] : List Value).toArray below meth c H locs 0 0 Q (F0 m 52 ls [])) → ∀ (n_10 : Nat) (x5_10 : Int32) (H : Heap) (locs : List Loc) (ls : Array Slot), m_X5_firstOfPhaseReaching_L10 f_units f_reach p1_traits a_2 r_1 n_10 x5_10 k_10 = some res → va_P (gD G) vwCl [(q_this, .inr (5, [.int f_units, .ref q_under, .ref q_above, .ref q_reach, .ref q_levelRow, .ref q_shown, .ref q_stepsBack])), (q_reach, .inl (gI G, 12, .inl f_reach)), (q_p1, .inr (2, [.int p1_units, .int p1_ties, .int p1_digs, .int p1_sights, .int p1_events, .ref q_p1_traits, .ref q_p1_upper, .ref q_p1_lower, .ref q_p1_digRow, .ref q_p1_heldUnit, .ref q_p1_heldKind, .ref q_p1_seenFirst, .ref q_p1_seenSecond, .ref q_p1_seenIs, .ref q_p1_eventWhat, .ref q_p1_eventUnit])), (q_p1_traits, .inl (gI G, 60, .inl p1_traits))] H → va_D A [(q_this, .inr (5, [.int f_units, .ref q_under, .ref q_above, .ref q_reach, .ref q_levelRow, .ref q_shown, .ref q_stepsBack])), (q_reach, .inl (gI G, 12, .inl f_reach)), (q_p1, .inr (2, [.int p1_units, .int p1_ties, .int p1_digs, .int p1_sights, .int p1_events, .ref q_p1_traits, .ref q_p1_upper, .ref q_p1_lower, .ref q_p1_digRow, .ref q_p1_heldUnit, .ref q_p1_heldKind, .ref q_p1_seenFirst, .ref q_p1_seenSecond, .ref q_p1_seenIs, .ref q_p1_eventWhat, .ref q_p1_eventUnit])), (q_p1_traits, .inl (gI G, 60, .inl p1_traits))] → va_S A s.heap H locs → lv_has ls 6 [(0, .ref q_this), (1, .ref q_p1), (2, .int a_2), (4, .int r_1), (5, .int x5_10)] → W p l e { frames := 2, cells := 0, slots := 0, locals := 45 } s m ([.ref q_this, .ref q_p1, .int a_2, .int a_3] : List Value).toArray below meth c H locs 0 0 Q (F0 m 10 ls []) := by
    intro k_10 hk_10 n_10
    induction n_10 with
    | zero =>
      intro x5_10 H locs ls hm
      rw [m_X5_firstOfPhaseReaching_L10] at hm
      cases hm
    | succ n_10 ih_10 =>
      intro x5_10 H locs ls hm hP hD hS hl
      rw [m_X5_firstOfPhaseReaching_L10] at hm
      refine lv_iload hx hb dX5_firstOfPhaseReaching_10 (lv_at hl 4 rfl) ?_
      refine lv_aload_n hx hb dX5_firstOfPhaseReaching_12 rfl (lv_at hl 0 rfl) ?_
      refine gf_X5_9 (v := .int f_units) hx hb hts hown hK hP 0 rfl rfl dX5_firstOfPhaseReaching_13 ?_
      refine ic_ge (tgt := 52) hx hb dX5_firstOfPhaseReaching_16 (by decide) hm (fun hm => ?_) (fun hm => ?_)
      · exact hk_10 x5_10 _ _ _ hm hP hD hS (lv_sub hl [] rfl)
      refine lv_aload_n hx hb dX5_firstOfPhaseReaching_19 rfl (lv_at hl 1 rfl) ?_
      refine lv_iconst (v := 4) hx hb dX5_firstOfPhaseReaching_20 (by decide) ?_
      refine lv_iload hx hb dX5_firstOfPhaseReaching_21 (lv_at hl 4 rfl) ?_
      obtain ⟨r_3, h_4, hm⟩ := cl_elim hm
      refine w_callV (As := [.int (4 : Int32), .int x5_10]) (rest := []) (wr := [(q_this, .inr (5, [.int f_units, .ref q_under, .ref q_above, .ref q_reach, .ref q_levelRow, .ref q_shown, .ref q_stepsBack])), (q_reach, .inl (gI G, 12, .inl f_reach))]) (W1 := [(q_this, .inr (5, [.int f_units, .ref q_under, .ref q_above, .ref q_reach, .ref q_levelRow, .ref q_shown, .ref q_stepsBack])), (q_reach, .inl (gI G, 12, .inl f_reach)), (q_p1, .inr (2, [.int p1_units, .int p1_ties, .int p1_digs, .int p1_sights, .int p1_events, .ref q_p1_traits, .ref q_p1_upper, .ref q_p1_lower, .ref q_p1_digRow, .ref q_p1_heldUnit, .ref q_p1_heldKind, .ref q_p1_seenFirst, .ref q_p1_seenSecond, .ref q_p1_seenIs, .ref q_p1_eventWhat, .ref q_p1_eventUnit])), (q_p1_traits, .inl (gI G, 60, .inl p1_traits))]) (ci := 2) (q0 := 2) hx hb hml hown hts hK hG hP hD hS hA (c_X2_trait G l q_p1 p1_units p1_ties p1_digs p1_sights p1_events q_p1_upper q_p1_lower q_p1_digRow q_p1_heldUnit q_p1_heldKind q_p1_seenFirst q_p1_seenSecond q_p1_seenIs q_p1_eventWhat q_p1_eventUnit q_p1_traits p1_traits (4 : Int32) x5_10 h_4) kc_X2_trait ki_X2_trait bw556 rfl rfl rfl hl.1 rfl (Nat.le_of_ble_eq_true rfl) dX5_firstOfPhaseReaching_23 (Nat.le_of_ble_eq_true rfl) (Nat.le_of_ble_eq_true rfl) ⟨Nat.le_refl _, Nat.le_refl _⟩ [2, 3] [0, 1] [0, 1, 2, 3] rfl rfl rfl rfl (by decide) rfl rfl (fun H locs hP hD hS => ?_)
      refine lv_iload_n hx hb dX5_firstOfPhaseReaching_26 rfl (lv_at hl 2 rfl) ?_
      refine ic_ne (tgt := 46) hx hb dX5_firstOfPhaseReaching_27 (by decide) hm (fun hm => ?_) (fun hm => ?_)
      · refine lv_iinc (v := (x5_10 + (1 : Int32))) (lv' := [(5, .int (x5_10 + (1 : Int32))), (0, .ref q_this), (1, .ref q_p1), (2, .int a_2), (4, .int r_1)]) hx hb dX5_firstOfPhaseReaching_46 hl (k := 4) rfl rfl (by decide) rfl (fun ls hl => ?_)
        refine lv_goto (tgt := 10) hx hb dX5_firstOfPhaseReaching_49 (by decide) ?_
        exact ih_10 (x5_10 + (1 : Int32)) _ _ _ hm hP hD hS (lv_sub hl [1, 2, 3, 4, 0] rfl)
      refine lv_aload_n hx hb dX5_firstOfPhaseReaching_30 rfl (lv_at hl 0 rfl) ?_
      refine gf_X5_22 (v := .ref q_reach) hx hb hts hown hK hP 0 rfl rfl dX5_firstOfPhaseReaching_31 ?_
      refine lv_iload hx hb dX5_firstOfPhaseReaching_34 (lv_at hl 4 rfl) ?_
      refine w_iald hx hb hK hP 1 rfl hm dX5_firstOfPhaseReaching_36 (fun v_5 hm => ?_)
      refine lv_iload hx hb dX5_firstOfPhaseReaching_37 (lv_at hl 3 rfl) ?_
      refine lv_iand hx hb dX5_firstOfPhaseReaching_39 ?_
      refine if_eq (tgt := 46) hx hb dX5_firstOfPhaseReaching_40 (by decide) hm (fun hm => ?_) (fun hm => ?_)
      · refine lv_iinc (v := (x5_10 + (1 : Int32))) (lv' := [(5, .int (x5_10 + (1 : Int32))), (0, .ref q_this), (1, .ref q_p1), (2, .int a_2), (4, .int r_1)]) hx hb dX5_firstOfPhaseReaching_46 hl (k := 4) rfl rfl (by decide) rfl (fun ls hl => ?_)
        refine lv_goto (tgt := 10) hx hb dX5_firstOfPhaseReaching_49 (by decide) ?_
        exact ih_10 (x5_10 + (1 : Int32)) _ _ _ hm hP hD hS (lv_sub hl [1, 2, 3, 4, 0] rfl)
      refine lv_iload hx hb dX5_firstOfPhaseReaching_43 (lv_at hl 4 rfl) ?_
      have hfin := fin _ _ ls _ _ (Option.some.inj hm) dX5_firstOfPhaseReaching_45 hP hD hS
      exact hfin
  refine hL_10 _ ?_ FU (0 : Int32) _ _ _ hm hP hD hS (lv_sub hl [2, 3, 4, 1, 0] rfl)
  intro x5_10 H locs ls hm hP hD hS hl
  refine lv_iconst (v := -1) hx hb dX5_firstOfPhaseReaching_52 (by decide) ?_
  have hfin := fin _ _ ls _ _ (Option.some.inj hm) dX5_firstOfPhaseReaching_53 hP hD hS
  exact hfin
set_option maxHeartbeats 0 in
set_option maxRecDepth 100000 in
theorem c_X5_phaseReaches (G : GT) (l : Launch) (q_this : Nat) (f_units : Int32) (q_under : Nat) (q_above : Nat) (q_levelRow : Nat) (q_shown : Nat) (q_stepsBack : Nat) (q_reach : Nat) (f_reach : (Nat → Int32)) (q_p1 : Nat) (p1_units : Int32) (p1_ties : Int32) (p1_digs : Int32) (p1_sights : Int32) (p1_events : Int32) (q_p1_upper : Nat) (q_p1_lower : Nat) (q_p1_digRow : Nat) (q_p1_heldUnit : Nat) (q_p1_heldKind : Nat) (q_p1_seenFirst : Nat) (q_p1_seenSecond : Nat) (q_p1_seenIs : Nat) (q_p1_eventWhat : Nat) (q_p1_eventUnit : Nat) (q_p1_traits : Nat) (p1_traits : (Nat → Int32)) (a_2 : Int32) (a_3 : Int32) {res : Int32} (hm : m_X5_phaseReaches f_units f_reach p1_units p1_traits a_2 a_3 = some res) : CT G l yX5_phaseReaches cX5_phaseReaches 4 (some .boolean) 3 70 [.ref q_this, .ref q_p1, .int a_2, .int a_3] [(q_this, .inr (5, [.int f_units, .ref q_under, .ref q_above, .ref q_reach, .ref q_levelRow, .ref q_shown, .ref q_stepsBack])), (q_reach, .inl (gI G, 12, .inl f_reach)), (q_p1, .inr (2, [.int p1_units, .int p1_ties, .int p1_digs, .int p1_sights, .int p1_events, .ref q_p1_traits, .ref q_p1_upper, .ref q_p1_lower, .ref q_p1_digRow, .ref q_p1_heldUnit, .ref q_p1_heldKind, .ref q_p1_seenFirst, .ref q_p1_seenSecond, .ref q_p1_seenIs, .ref q_p1_eventWhat, .ref q_p1_eventUnit])), (q_p1_traits, .inl (gI G, 60, .inl p1_traits))] [(q_this, .inr (5, [.int f_units, .ref q_under, .ref q_above, .ref q_reach, .ref q_levelRow, .ref q_shown, .ref q_stepsBack])), (q_reach, .inl (gI G, 12, .inl f_reach)), (q_p1, .inr (2, [.int p1_units, .int p1_ties, .int p1_digs, .int p1_sights, .int p1_events, .ref q_p1_traits, .ref q_p1_upper, .ref q_p1_lower, .ref q_p1_digRow, .ref q_p1_heldUnit, .ref q_p1_heldKind, .ref q_p1_seenFirst, .ref q_p1_seenSecond, .ref q_p1_seenIs, .ref q_p1_eventWhat, .ref q_p1_eventUnit])), (q_p1_traits, .inl (gI G, 60, .inl p1_traits))] (some (.int res)) := by
  refine ctZ (G := G) (l := l) (y := yX5_phaseReaches) (cc := cX5_phaseReaches) (maxL := 4) (fr := 3) (lo := 70) (As := [.ref q_this, .ref q_p1, .int a_2, .int a_3]) (res := res) (fun res : Int32 => [(q_this, .inr (5, [.int f_units, .ref q_under, .ref q_above, .ref q_reach, .ref q_levelRow, .ref q_shown, .ref q_stepsBack])), (q_reach, .inl (gI G, 12, .inl f_reach)), (q_p1, .inr (2, [.int p1_units, .int p1_ties, .int p1_digs, .int p1_sights, .int p1_events, .ref q_p1_traits, .ref q_p1_upper, .ref q_p1_lower, .ref q_p1_digRow, .ref q_p1_heldUnit, .ref q_p1_heldKind, .ref q_p1_seenFirst, .ref q_p1_seenSecond, .ref q_p1_seenIs, .ref q_p1_eventWhat, .ref q_p1_eventUnit])), (q_p1_traits, .inl (gI G, 60, .inl p1_traits))]) (fun res : Int32 => res) (plainFor_of_name (by decide)) (Nat.le_of_ble_eq_true rfl) ?_
  intro p e s m below meth c A ls Q hx hb hml hown hts hK hG hA hP hD hS hl fin
  have hown : s.vm.findClass RX5 = some m.cls := hown
  have hl : lv_has ls 4 [(0, .ref q_this), (1, .ref q_p1), (2, .int a_2), (3, .int a_3)] := hl
  unfold m_X5_phaseReaches at hm
  refine lv_aload_n hx hb dX5_phaseReaches_0 rfl (lv_at hl 0 rfl) ?_
  refine lv_aload_n hx hb dX5_phaseReaches_1 rfl (lv_at hl 1 rfl) ?_
  refine lv_iload_n hx hb dX5_phaseReaches_2 rfl (lv_at hl 2 rfl) ?_
  refine lv_iload_n hx hb dX5_phaseReaches_3 rfl (lv_at hl 3 rfl) ?_
  obtain ⟨r_1, h_2, hm⟩ := cl_elim hm
  refine w_callV (As := [.ref q_p1, .int a_2, .int a_3]) (rest := []) (wr := []) (W1 := [(q_this, .inr (5, [.int f_units, .ref q_under, .ref q_above, .ref q_reach, .ref q_levelRow, .ref q_shown, .ref q_stepsBack])), (q_reach, .inl (gI G, 12, .inl f_reach)), (q_p1, .inr (2, [.int p1_units, .int p1_ties, .int p1_digs, .int p1_sights, .int p1_events, .ref q_p1_traits, .ref q_p1_upper, .ref q_p1_lower, .ref q_p1_digRow, .ref q_p1_heldUnit, .ref q_p1_heldKind, .ref q_p1_seenFirst, .ref q_p1_seenSecond, .ref q_p1_seenIs, .ref q_p1_eventWhat, .ref q_p1_eventUnit])), (q_p1_traits, .inl (gI G, 60, .inl p1_traits))]) (ci := 5) (q0 := 0) hx hb hml hown hts hK hG hP hD hS hA (c_X5_firstOfPhaseReaching G l q_this f_units q_under q_above q_levelRow q_shown q_stepsBack q_reach f_reach q_p1 p1_units p1_ties p1_digs p1_sights p1_events q_p1_upper q_p1_lower q_p1_digRow q_p1_heldUnit q_p1_heldKind q_p1_seenFirst q_p1_seenSecond q_p1_seenIs q_p1_eventWhat q_p1_eventUnit q_p1_traits p1_traits a_2 a_3 h_2) kc_X5_firstOfPhaseReaching ki_X5_firstOfPhaseReaching bw561 rfl rfl rfl hl.1 rfl (Nat.le_of_ble_eq_true rfl) dX5_phaseReaches_4 (Nat.le_of_ble_eq_true rfl) (Nat.le_of_ble_eq_true rfl) ⟨Nat.le_refl _, Nat.le_refl _⟩ [0, 1, 2, 3] [] [0, 1, 2, 3] rfl rfl rfl rfl (by decide) rfl rfl (fun H locs hP hD hS => ?_)
  refine if_lt (tgt := 14) hx hb dX5_phaseReaches_7 (by decide) hm (fun hm => ?_) (fun hm => ?_)
  · refine lv_iconst (v := 0) hx hb dX5_phaseReaches_14 (by decide) ?_
    have hfin := fin _ _ ls _ _ (Option.some.inj hm) dX5_phaseReaches_15 (Or.inl rfl) hP hD hS
    exact hfin
  refine lv_iconst (v := 1) hx hb dX5_phaseReaches_10 (by decide) ?_
  refine lv_goto (tgt := 15) hx hb dX5_phaseReaches_11 (by decide) ?_
  have hfin := fin _ _ ls _ _ (Option.some.inj hm) dX5_phaseReaches_15 (Or.inr rfl) hP hD hS
  exact hfin
set_option maxHeartbeats 0 in
set_option maxRecDepth 100000 in
theorem c_X3_findsMixedPhases (G : GT) (l : Launch) (q_this : Nat) (f_size : Int32) (q_numbers : Nat) (f_numbers : (Nat → Int32)) (q_p1 : Nat) (p1_units : Int32) (p1_ties : Int32) (p1_digs : Int32) (p1_sights : Int32) (p1_events : Int32) (q_p1_upper : Nat) (q_p1_lower : Nat) (q_p1_digRow : Nat) (q_p1_heldUnit : Nat) (q_p1_heldKind : Nat) (q_p1_seenFirst : Nat) (q_p1_seenSecond : Nat) (q_p1_seenIs : Nat) (q_p1_eventWhat : Nat) (q_p1_eventUnit : Nat) (q_p1_traits : Nat) (p1_traits : (Nat → Int32)) (q_p2 : Nat) (p2_units : Int32) (q_p2_under : Nat) (q_p2_above : Nat) (q_p2_levelRow : Nat) (q_p2_shown : Nat) (q_p2_stepsBack : Nat) (q_p2_reach : Nat) (p2_reach : (Nat → Int32)) {res : (Nat → Int32) × Int32 × Int32} (hm : m_X3_findsMixedPhases f_numbers f_size p1_units p1_traits p2_units p2_reach = some res) : CT G l yX3_findsMixedPhases cX3_findsMixedPhases 7 (some .boolean) 4 93 [.ref q_this, .ref q_p1, .ref q_p2] [(q_this, .inr (3, [.ref q_numbers, .int f_size])), (q_numbers, .inl (gI G, 3, .inl f_numbers)), (q_p1, .inr (2, [.int p1_units, .int p1_ties, .int p1_digs, .int p1_sights, .int p1_events, .ref q_p1_traits, .ref q_p1_upper, .ref q_p1_lower, .ref q_p1_digRow, .ref q_p1_heldUnit, .ref q_p1_heldKind, .ref q_p1_seenFirst, .ref q_p1_seenSecond, .ref q_p1_seenIs, .ref q_p1_eventWhat, .ref q_p1_eventUnit])), (q_p1_traits, .inl (gI G, 60, .inl p1_traits)), (q_p2, .inr (5, [.int p2_units, .ref q_p2_under, .ref q_p2_above, .ref q_p2_reach, .ref q_p2_levelRow, .ref q_p2_shown, .ref q_p2_stepsBack])), (q_p2_reach, .inl (gI G, 12, .inl p2_reach))] [(q_this, .inr (3, [.ref q_numbers, .int res.2.1])), (q_numbers, .inl (gI G, 3, .inl res.1)), (q_p1, .inr (2, [.int p1_units, .int p1_ties, .int p1_digs, .int p1_sights, .int p1_events, .ref q_p1_traits, .ref q_p1_upper, .ref q_p1_lower, .ref q_p1_digRow, .ref q_p1_heldUnit, .ref q_p1_heldKind, .ref q_p1_seenFirst, .ref q_p1_seenSecond, .ref q_p1_seenIs, .ref q_p1_eventWhat, .ref q_p1_eventUnit])), (q_p1_traits, .inl (gI G, 60, .inl p1_traits)), (q_p2, .inr (5, [.int p2_units, .ref q_p2_under, .ref q_p2_above, .ref q_p2_reach, .ref q_p2_levelRow, .ref q_p2_shown, .ref q_p2_stepsBack])), (q_p2_reach, .inl (gI G, 12, .inl p2_reach))] (some (.int res.2.2)) := by
  refine ctZ (G := G) (l := l) (y := yX3_findsMixedPhases) (cc := cX3_findsMixedPhases) (maxL := 7) (fr := 4) (lo := 93) (As := [.ref q_this, .ref q_p1, .ref q_p2]) (res := res) (fun res : (Nat → Int32) × Int32 × Int32 => [(q_this, .inr (3, [.ref q_numbers, .int res.2.1])), (q_numbers, .inl (gI G, 3, .inl res.1)), (q_p1, .inr (2, [.int p1_units, .int p1_ties, .int p1_digs, .int p1_sights, .int p1_events, .ref q_p1_traits, .ref q_p1_upper, .ref q_p1_lower, .ref q_p1_digRow, .ref q_p1_heldUnit, .ref q_p1_heldKind, .ref q_p1_seenFirst, .ref q_p1_seenSecond, .ref q_p1_seenIs, .ref q_p1_eventWhat, .ref q_p1_eventUnit])), (q_p1_traits, .inl (gI G, 60, .inl p1_traits)), (q_p2, .inr (5, [.int p2_units, .ref q_p2_under, .ref q_p2_above, .ref q_p2_reach, .ref q_p2_levelRow, .ref q_p2_shown, .ref q_p2_stepsBack])), (q_p2_reach, .inl (gI G, 12, .inl p2_reach))]) (fun res : (Nat → Int32) × Int32 × Int32 => res.2.2) (plainFor_of_name (by decide)) (Nat.le_of_ble_eq_true rfl) ?_
  intro p e s m below meth c A ls Q hx hb hml hown hts hK hG hA hP hD hS hl fin
  have hown : s.vm.findClass RX3 = some m.cls := hown
  have hl : lv_has ls 7 [(0, .ref q_this), (1, .ref q_p1), (2, .ref q_p2)] := hl
  unfold m_X3_findsMixedPhases at hm
  refine lv_iconst (v := 0) hx hb dX3_findsMixedPhases_0 (by decide) ?_
  refine lv_istore_n (lv' := [(3, .int (0 : Int32)), (0, .ref q_this), (1, .ref q_p1), (2, .ref q_p2)]) hx hb dX3_findsMixedPhases_1 rfl hl (by decide) rfl (fun ls hl => ?_)
  have hL_2 : ∀ (k_2 : Int32 → Option ((Nat → Int32) × Int32 × Int32)), (∀ (x3_2 : Int32) (H : Heap) (locs : List Loc) (ls : Array Slot), k_2 x3_2 = some res → va_P (gD G) vwCl [(q_this, .inr (3, [.ref q_numbers, .int f_size])), (q_numbers, .inl (gI G, 3, .inl f_numbers)), (q_p1, .inr (2, [.int p1_units, .int p1_ties, .int p1_digs, .int p1_sights, .int p1_events, .ref q_p1_traits, .ref q_p1_upper, .ref q_p1_lower, .ref q_p1_digRow, .ref q_p1_heldUnit, .ref q_p1_heldKind, .ref q_p1_seenFirst, .ref q_p1_seenSecond, .ref q_p1_seenIs, .ref q_p1_eventWhat, .ref q_p1_eventUnit])), (q_p1_traits, .inl (gI G, 60, .inl p1_traits)), (q_p2, .inr (5, [.int p2_units, .ref q_p2_under, .ref q_p2_above, .ref q_p2_reach, .ref q_p2_levelRow, .ref q_p2_shown, .ref q_p2_stepsBack])), (q_p2_reach, .inl (gI G, 12, .inl p2_reach))] H → va_D A [(q_this, .inr (3, [.ref q_numbers, .int f_size])), (q_numbers, .inl (gI G, 3, .inl f_numbers)), (q_p1, .inr (2, [.int p1_units, .int p1_ties, .int p1_digs, .int p1_sights, .int p1_events, .ref q_p1_traits, .ref q_p1_upper, .ref q_p1_lower, .ref q_p1_digRow, .ref q_p1_heldUnit, .ref q_p1_heldKind, .ref q_p1_seenFirst, .ref q_p1_seenSecond, .ref q_p1_seenIs, .ref q_p1_eventWhat, .ref q_p1_eventUnit])), (q_p1_traits, .inl (gI G, 60, .inl p1_traits)), (q_p2, .inr (5, [.int p2_units, .ref q_p2_under, .ref q_p2_above, .ref q_p2_reach, .ref q_p2_levelRow, .ref q_p2_shown, .ref q_p2_stepsBack])), (q_p2_reach, .inl (gI G, 12, .inl p2_reach))] → va_S A s.heap H locs → lv_has ls 7 [] → W p l e { frames := 4, cells := 0, slots := 0, locals := 93 } s m ([.ref q_this, .ref q_p1, .ref q_p2] : List Value).toArray below meth c H locs 0 0 Q (F0 m 99 ls [])) → ∀ (n_2 : Nat) (x3_2 : Int32) (H : Heap) (locs : List Loc) (ls : Array Slot), m_X3_findsMixedPhases_L2 f_size p1_units p2_units f_numbers p1_traits p2_reach n_2 x3_2 k_2 = some res → va_P (gD G) vwCl [(q_this, .inr (3, [.ref q_numbers, .int f_size])), (q_numbers, .inl (gI G, 3, .inl f_numbers)), (q_p1, .inr (2, [.int p1_units, .int p1_ties, .int p1_digs, .int p1_sights, .int p1_events, .ref q_p1_traits, .ref q_p1_upper, .ref q_p1_lower, .ref q_p1_digRow, .ref q_p1_heldUnit, .ref q_p1_heldKind, .ref q_p1_seenFirst, .ref q_p1_seenSecond, .ref q_p1_seenIs, .ref q_p1_eventWhat, .ref q_p1_eventUnit])), (q_p1_traits, .inl (gI G, 60, .inl p1_traits)), (q_p2, .inr (5, [.int p2_units, .ref q_p2_under, .ref q_p2_above, .ref q_p2_reach, .ref q_p2_levelRow, .ref q_p2_shown, .ref q_p2_stepsBack])), (q_p2_reach, .inl (gI G, 12, .inl p2_reach))] H → va_D A [(q_this, .inr (3, [.ref q_numbers, .int f_size])), (q_numbers, .inl (gI G, 3, .inl f_numbers)), (q_p1, .inr (2, [.int p1_units, .int p1_ties, .int p1_digs, .int p1_sights, .int p1_events, .ref q_p1_traits, .ref q_p1_upper, .ref q_p1_lower, .ref q_p1_digRow, .ref q_p1_heldUnit, .ref q_p1_heldKind, .ref q_p1_seenFirst, .ref q_p1_seenSecond, .ref q_p1_seenIs, .ref q_p1_eventWhat, .ref q_p1_eventUnit])), (q_p1_traits, .inl (gI G, 60, .inl p1_traits)), (q_p2, .inr (5, [.int p2_units, .ref q_p2_under, .ref q_p2_above, .ref q_p2_reach, .ref q_p2_levelRow, .ref q_p2_shown, .ref q_p2_stepsBack])), (q_p2_reach, .inl (gI G, 12, .inl p2_reach))] → va_S A s.heap H locs → lv_has ls 7 [(0, .ref q_this), (1, .ref q_p1), (2, .ref q_p2), (3, .int x3_2)] → W p l e { frames := 4, cells := 0, slots := 0, locals := 93 } s m ([.ref q_this, .ref q_p1, .ref q_p2] : List Value).toArray below meth c H locs 0 0 Q (F0 m 2 ls []) := by
    intro k_2 hk_2 n_2
    induction n_2 with
    | zero =>
      intro x3_2 H locs ls hm
      rw [m_X3_findsMixedPhases_L2] at hm
      cases hm
    | succ n_2 ih_2 =>
      intro x3_2 H locs ls hm hP hD hS hl
      rw [m_X3_findsMixedPhases_L2] at hm
      refine lv_iload_n hx hb dX3_findsMixedPhases_2 rfl (lv_at hl 3 rfl) ?_
      refine lv_bipush (v := 6) hx hb dX3_findsMixedPhases_3 (by decide) ?_
      refine ic_ge (tgt := 99) hx hb dX3_findsMixedPhases_5 (by decide) hm (fun hm => ?_) (fun hm => ?_)
      · exact hk_2 x3_2 _ _ _ hm hP hD hS (lv_sub hl [] rfl)
      refine lv_iload_n hx hb dX3_findsMixedPhases_8 rfl (lv_at hl 3 rfl) ?_
      refine lv_iconst (v := 1) hx hb dX3_findsMixedPhases_9 (by decide) ?_
      refine lv_iadd hx hb dX3_findsMixedPhases_10 ?_
      refine lv_istore (lv' := [(4, .int (x3_2 + (1 : Int32))), (0, .ref q_this), (1, .ref q_p1), (2, .ref q_p2), (3, .int x3_2)]) hx hb dX3_findsMixedPhases_11 hl (by decide) rfl (fun ls hl => ?_)
      have hL_13 : ∀ (k_13 : Int32 → Option ((Nat → Int32) × Int32 × Int32)), (∀ (x4_13 : Int32) (H : Heap) (locs : List Loc) (ls : Array Slot), k_13 x4_13 = some res → va_P (gD G) vwCl [(q_this, .inr (3, [.ref q_numbers, .int f_size])), (q_numbers, .inl (gI G, 3, .inl f_numbers)), (q_p1, .inr (2, [.int p1_units, .int p1_ties, .int p1_digs, .int p1_sights, .int p1_events, .ref q_p1_traits, .ref q_p1_upper, .ref q_p1_lower, .ref q_p1_digRow, .ref q_p1_heldUnit, .ref q_p1_heldKind, .ref q_p1_seenFirst, .ref q_p1_seenSecond, .ref q_p1_seenIs, .ref q_p1_eventWhat, .ref q_p1_eventUnit])), (q_p1_traits, .inl (gI G, 60, .inl p1_traits)), (q_p2, .inr (5, [.int p2_units, .ref q_p2_under, .ref q_p2_above, .ref q_p2_reach, .ref q_p2_levelRow, .ref q_p2_shown, .ref q_p2_stepsBack])), (q_p2_reach, .inl (gI G, 12, .inl p2_reach))] H → va_D A [(q_this, .inr (3, [.ref q_numbers, .int f_size])), (q_numbers, .inl (gI G, 3, .inl f_numbers)), (q_p1, .inr (2, [.int p1_units, .int p1_ties, .int p1_digs, .int p1_sights, .int p1_events, .ref q_p1_traits, .ref q_p1_upper, .ref q_p1_lower, .ref q_p1_digRow, .ref q_p1_heldUnit, .ref q_p1_heldKind, .ref q_p1_seenFirst, .ref q_p1_seenSecond, .ref q_p1_seenIs, .ref q_p1_eventWhat, .ref q_p1_eventUnit])), (q_p1_traits, .inl (gI G, 60, .inl p1_traits)), (q_p2, .inr (5, [.int p2_units, .ref q_p2_under, .ref q_p2_above, .ref q_p2_reach, .ref q_p2_levelRow, .ref q_p2_shown, .ref q_p2_stepsBack])), (q_p2_reach, .inl (gI G, 12, .inl p2_reach))] → va_S A s.heap H locs → lv_has ls 7 [(0, .ref q_this), (1, .ref q_p1), (2, .ref q_p2), (3, .int x3_2)] → W p l e { frames := 4, cells := 0, slots := 0, locals := 93 } s m ([.ref q_this, .ref q_p1, .ref q_p2] : List Value).toArray below meth c H locs 0 0 Q (F0 m 93 ls [])) → ∀ (n_13 : Nat) (x4_13 : Int32) (H : Heap) (locs : List Loc) (ls : Array Slot), m_X3_findsMixedPhases_L13 f_size p1_units p2_units f_numbers p1_traits p2_reach x3_2 n_13 x4_13 k_13 = some res → va_P (gD G) vwCl [(q_this, .inr (3, [.ref q_numbers, .int f_size])), (q_numbers, .inl (gI G, 3, .inl f_numbers)), (q_p1, .inr (2, [.int p1_units, .int p1_ties, .int p1_digs, .int p1_sights, .int p1_events, .ref q_p1_traits, .ref q_p1_upper, .ref q_p1_lower, .ref q_p1_digRow, .ref q_p1_heldUnit, .ref q_p1_heldKind, .ref q_p1_seenFirst, .ref q_p1_seenSecond, .ref q_p1_seenIs, .ref q_p1_eventWhat, .ref q_p1_eventUnit])), (q_p1_traits, .inl (gI G, 60, .inl p1_traits)), (q_p2, .inr (5, [.int p2_units, .ref q_p2_under, .ref q_p2_above, .ref q_p2_reach, .ref q_p2_levelRow, .ref q_p2_shown, .ref q_p2_stepsBack])), (q_p2_reach, .inl (gI G, 12, .inl p2_reach))] H → va_D A [(q_this, .inr (3, [.ref q_numbers, .int f_size])), (q_numbers, .inl (gI G, 3, .inl f_numbers)), (q_p1, .inr (2, [.int p1_units, .int p1_ties, .int p1_digs, .int p1_sights, .int p1_events, .ref q_p1_traits, .ref q_p1_upper, .ref q_p1_lower, .ref q_p1_digRow, .ref q_p1_heldUnit, .ref q_p1_heldKind, .ref q_p1_seenFirst, .ref q_p1_seenSecond, .ref q_p1_seenIs, .ref q_p1_eventWhat, .ref q_p1_eventUnit])), (q_p1_traits, .inl (gI G, 60, .inl p1_traits)), (q_p2, .inr (5, [.int p2_units, .ref q_p2_under, .ref q_p2_above, .ref q_p2_reach, .ref q_p2_levelRow, .ref q_p2_shown, .ref q_p2_stepsBack])), (q_p2_reach, .inl (gI G, 12, .inl p2_reach))] → va_S A s.heap H locs → lv_has ls 7 [(0, .ref q_this), (1, .ref q_p1), (2, .ref q_p2), (3, .int x3_2), (4, .int x4_13)] → W p l e { frames := 4, cells := 0, slots := 0, locals := 93 } s m ([.ref q_this, .ref q_p1, .ref q_p2] : List Value).toArray below meth c H locs 0 0 Q (F0 m 13 ls []) := by
        intro k_13 hk_13 n_13
        induction n_13 with
        | zero =>
          intro x4_13 H locs ls hm
          rw [m_X3_findsMixedPhases_L13] at hm
          cases hm
        | succ n_13 ih_13 =>
          intro x4_13 H locs ls hm hP hD hS hl
          rw [m_X3_findsMixedPhases_L13] at hm
          refine lv_iload hx hb dX3_findsMixedPhases_13 (lv_at hl 4 rfl) ?_
          refine lv_bipush (v := 6) hx hb dX3_findsMixedPhases_15 (by decide) ?_
          refine ic_ge (tgt := 93) hx hb dX3_findsMixedPhases_17 (by decide) hm (fun hm => ?_) (fun hm => ?_)
          · exact hk_13 x4_13 _ _ _ hm hP hD hS (lv_sub hl [0, 1, 2, 3] rfl)
          refine lv_aload_n hx hb dX3_findsMixedPhases_20 rfl (lv_at hl 2 rfl) ?_
          refine lv_aload_n hx hb dX3_findsMixedPhases_21 rfl (lv_at hl 1 rfl) ?_
          refine lv_iload_n hx hb dX3_findsMixedPhases_22 rfl (lv_at hl 3 rfl) ?_
          refine lv_iload hx hb dX3_findsMixedPhases_23 (lv_at hl 4 rfl) ?_
          obtain ⟨r_1, h_2, hm⟩ := cl_elim hm
          refine w_callV (As := [.ref q_p1, .int x3_2, .int x4_13]) (rest := []) (wr := [(q_this, .inr (3, [.ref q_numbers, .int f_size])), (q_numbers, .inl (gI G, 3, .inl f_numbers))]) (W1 := [(q_this, .inr (3, [.ref q_numbers, .int f_size])), (q_numbers, .inl (gI G, 3, .inl f_numbers)), (q_p1, .inr (2, [.int p1_units, .int p1_ties, .int p1_digs, .int p1_sights, .int p1_events, .ref q_p1_traits, .ref q_p1_upper, .ref q_p1_lower, .ref q_p1_digRow, .ref q_p1_heldUnit, .ref q_p1_heldKind, .ref q_p1_seenFirst, .ref q_p1_seenSecond, .ref q_p1_seenIs, .ref q_p1_eventWhat, .ref q_p1_eventUnit])), (q_p1_traits, .inl (gI G, 60, .inl p1_traits)), (q_p2, .inr (5, [.int p2_units, .ref q_p2_under, .ref q_p2_above, .ref q_p2_reach, .ref q_p2_levelRow, .ref q_p2_shown, .ref q_p2_stepsBack])), (q_p2_reach, .inl (gI G, 12, .inl p2_reach))]) (ci := 5) (q0 := 4) hx hb hml hown hts hK hG hP hD hS hA (c_X5_firstOfPhaseReaching G l q_p2 p2_units q_p2_under q_p2_above q_p2_levelRow q_p2_shown q_p2_stepsBack q_p2_reach p2_reach q_p1 p1_units p1_ties p1_digs p1_sights p1_events q_p1_upper q_p1_lower q_p1_digRow q_p1_heldUnit q_p1_heldKind q_p1_seenFirst q_p1_seenSecond q_p1_seenIs q_p1_eventWhat q_p1_eventUnit q_p1_traits p1_traits x3_2 x4_13 h_2) kc_X5_firstOfPhaseReaching ki_X5_firstOfPhaseReaching bw551 rfl rfl rfl hl.1 rfl (Nat.le_of_ble_eq_true rfl) dX3_findsMixedPhases_25 (Nat.le_of_ble_eq_true rfl) (Nat.le_of_ble_eq_true rfl) ⟨Nat.le_refl _, Nat.le_refl _⟩ [4, 5, 2, 3] [0, 1] [0, 1, 4, 5, 2, 3] rfl rfl rfl rfl (by decide) rfl rfl (fun H locs hP hD hS => ?_)
          refine lv_istore (lv' := [(5, .int r_1), (0, .ref q_this), (1, .ref q_p1), (2, .ref q_p2), (3, .int x3_2), (4, .int x4_13)]) hx hb dX3_findsMixedPhases_28 hl (by decide) rfl (fun ls hl => ?_)
          refine lv_iload hx hb dX3_findsMixedPhases_30 (lv_at hl 0 rfl) ?_
          refine if_lt (tgt := 87) hx hb dX3_findsMixedPhases_32 (by decide) hm (fun hm => ?_) (fun hm => ?_)
          · refine lv_iinc (v := (x4_13 + (1 : Int32))) (lv' := [(4, .int (x4_13 + (1 : Int32))), (5, .int r_1), (0, .ref q_this), (1, .ref q_p1), (2, .ref q_p2), (3, .int x3_2)]) hx hb dX3_findsMixedPhases_87 hl (k := 5) rfl rfl (by decide) rfl (fun ls hl => ?_)
            refine lv_goto (tgt := 13) hx hb dX3_findsMixedPhases_90 (by decide) ?_
            exact ih_13 (x4_13 + (1 : Int32)) _ _ _ hm hP hD hS (lv_sub hl [2, 3, 4, 5, 0] rfl)
          refine lv_aload_n hx hb dX3_findsMixedPhases_35 rfl (lv_at hl 3 rfl) ?_
          refine lv_aload_n hx hb dX3_findsMixedPhases_36 rfl (lv_at hl 2 rfl) ?_
          refine lv_iload hx hb dX3_findsMixedPhases_37 (lv_at hl 5 rfl) ?_
          refine lv_iload_n hx hb dX3_findsMixedPhases_39 rfl (lv_at hl 4 rfl) ?_
          obtain ⟨r_3, h_4, hm⟩ := cl_elim hm
          refine w_callV (As := [.ref q_p1, .int x4_13, .int x3_2]) (rest := []) (wr := [(q_this, .inr (3, [.ref q_numbers, .int f_size])), (q_numbers, .inl (gI G, 3, .inl f_numbers))]) (W1 := [(q_this, .inr (3, [.ref q_numbers, .int f_size])), (q_numbers, .inl (gI G, 3, .inl f_numbers)), (q_p1, .inr (2, [.int p1_units, .int p1_ties, .int p1_digs, .int p1_sights, .int p1_events, .ref q_p1_traits, .ref q_p1_upper, .ref q_p1_lower, .ref q_p1_digRow, .ref q_p1_heldUnit, .ref q_p1_heldKind, .ref q_p1_seenFirst, .ref q_p1_seenSecond, .ref q_p1_seenIs, .ref q_p1_eventWhat, .ref q_p1_eventUnit])), (q_p1_traits, .inl (gI G, 60, .inl p1_traits)), (q_p2, .inr (5, [.int p2_units, .ref q_p2_under, .ref q_p2_above, .ref q_p2_reach, .ref q_p2_levelRow, .ref q_p2_shown, .ref q_p2_stepsBack])), (q_p2_reach, .inl (gI G, 12, .inl p2_reach))]) (ci := 5) (q0 := 4) hx hb hml hown hts hK hG hP hD hS hA (c_X5_phaseReaches G l q_p2 p2_units q_p2_under q_p2_above q_p2_levelRow q_p2_shown q_p2_stepsBack q_p2_reach p2_reach q_p1 p1_units p1_ties p1_digs p1_sights p1_events q_p1_upper q_p1_lower q_p1_digRow q_p1_heldUnit q_p1_heldKind q_p1_seenFirst q_p1_seenSecond q_p1_seenIs q_p1_eventWhat q_p1_eventUnit q_p1_traits p1_traits x4_13 x3_2 h_4) kc_X5_phaseReaches ki_X5_phaseReaches bw557 rfl rfl rfl hl.1 rfl (Nat.le_of_ble_eq_true rfl) dX3_findsMixedPhases_40 (Nat.le_of_ble_eq_true rfl) (Nat.le_of_ble_eq_true rfl) ⟨Nat.le_refl _, Nat.le_refl _⟩ [4, 5, 2, 3] [0, 1] [0, 1, 4, 5, 2, 3] rfl rfl rfl rfl (by decide) rfl rfl (fun H locs hP hD hS => ?_)
          refine if_eq (tgt := 87) hx hb dX3_findsMixedPhases_43 (by decide) hm (fun hm => ?_) (fun hm => ?_)
          · refine lv_iinc (v := (x4_13 + (1 : Int32))) (lv' := [(4, .int (x4_13 + (1 : Int32))), (5, .int r_1), (0, .ref q_this), (1, .ref q_p1), (2, .ref q_p2), (3, .int x3_2)]) hx hb dX3_findsMixedPhases_87 hl (k := 5) rfl rfl (by decide) rfl (fun ls hl => ?_)
            refine lv_goto (tgt := 13) hx hb dX3_findsMixedPhases_90 (by decide) ?_
            exact ih_13 (x4_13 + (1 : Int32)) _ _ _ hm hP hD hS (lv_sub hl [2, 3, 4, 5, 0] rfl)
          refine lv_aload_n hx hb dX3_findsMixedPhases_46 rfl (lv_at hl 3 rfl) ?_
          refine gf_X3_74 (v := .ref q_p2_reach) hx hb hts hown hK hP 4 rfl rfl dX3_findsMixedPhases_47 ?_
          refine lv_iload hx hb dX3_findsMixedPhases_50 (lv_at hl 0 rfl) ?_
          refine w_iald hx hb hK hP 5 rfl hm dX3_findsMixedPhases_52 (fun v_5 hm => ?_)
          refine lv_aload_n hx hb dX3_findsMixedPhases_53 rfl (lv_at hl 2 rfl) ?_
          refine lv_iload hx hb dX3_findsMixedPhases_54 (lv_at hl 5 rfl) ?_
          obtain ⟨r_6, h_7, hm⟩ := cl_elim hm
          refine w_callV (As := [.int x4_13]) (rest := [.int v_5]) (wr := [(q_this, .inr (3, [.ref q_numbers, .int f_size])), (q_numbers, .inl (gI G, 3, .inl f_numbers)), (q_p2, .inr (5, [.int p2_units, .ref q_p2_under, .ref q_p2_above, .ref q_p2_reach, .ref q_p2_levelRow, .ref q_p2_shown, .ref q_p2_stepsBack])), (q_p2_reach, .inl (gI G, 12, .inl p2_reach))]) (W1 := [(q_this, .inr (3, [.ref q_numbers, .int f_size])), (q_numbers, .inl (gI G, 3, .inl f_numbers)), (q_p1, .inr (2, [.int p1_units, .int p1_ties, .int p1_digs, .int p1_sights, .int p1_events, .ref q_p1_traits, .ref q_p1_upper, .ref q_p1_lower, .ref q_p1_digRow, .ref q_p1_heldUnit, .ref q_p1_heldKind, .ref q_p1_seenFirst, .ref q_p1_seenSecond, .ref q_p1_seenIs, .ref q_p1_eventWhat, .ref q_p1_eventUnit])), (q_p1_traits, .inl (gI G, 60, .inl p1_traits)), (q_p2, .inr (5, [.int p2_units, .ref q_p2_under, .ref q_p2_above, .ref q_p2_reach, .ref q_p2_levelRow, .ref q_p2_shown, .ref q_p2_stepsBack])), (q_p2_reach, .inl (gI G, 12, .inl p2_reach))]) (ci := 2) (q0 := 2) hx hb hml hown hts hK hG hP hD hS hA (c_X2_unitsOfPhase G l q_p1 p1_units p1_ties p1_digs p1_sights p1_events q_p1_upper q_p1_lower q_p1_digRow q_p1_heldUnit q_p1_heldKind q_p1_seenFirst q_p1_seenSecond q_p1_seenIs q_p1_eventWhat q_p1_eventUnit q_p1_traits p1_traits x4_13 h_7) kc_X2_unitsOfPhase ki_X2_unitsOfPhase bw562 rfl rfl rfl hl.1 rfl (Nat.le_of_ble_eq_true rfl) dX3_findsMixedPhases_56 (Nat.le_of_ble_eq_true rfl) (Nat.le_of_ble_eq_true rfl) ⟨Nat.le_refl _, Nat.le_refl _⟩ [2, 3] [0, 1, 4, 5] [0, 1, 4, 5, 2, 3] rfl rfl rfl rfl (by decide) rfl rfl (fun H locs hP hD hS => ?_)
          refine lv_iand hx hb dX3_findsMixedPhases_59 ?_
          obtain ⟨r_8, h_9, hm⟩ := cl_elim hm
          refine w_callN (As := [.int (v_5 &&& r_6)]) (rest := []) (wr := [(q_this, .inr (3, [.ref q_numbers, .int f_size])), (q_numbers, .inl (gI G, 3, .inl f_numbers)), (q_p1, .inr (2, [.int p1_units, .int p1_ties, .int p1_digs, .int p1_sights, .int p1_events, .ref q_p1_traits, .ref q_p1_upper, .ref q_p1_lower, .ref q_p1_digRow, .ref q_p1_heldUnit, .ref q_p1_heldKind, .ref q_p1_seenFirst, .ref q_p1_seenSecond, .ref q_p1_seenIs, .ref q_p1_eventWhat, .ref q_p1_eventUnit])), (q_p1_traits, .inl (gI G, 60, .inl p1_traits)), (q_p2, .inr (5, [.int p2_units, .ref q_p2_under, .ref q_p2_above, .ref q_p2_reach, .ref q_p2_levelRow, .ref q_p2_shown, .ref q_p2_stepsBack])), (q_p2_reach, .inl (gI G, 12, .inl p2_reach))]) (W1 := [(q_this, .inr (3, [.ref q_numbers, .int f_size])), (q_numbers, .inl (gI G, 3, .inl f_numbers)), (q_p1, .inr (2, [.int p1_units, .int p1_ties, .int p1_digs, .int p1_sights, .int p1_events, .ref q_p1_traits, .ref q_p1_upper, .ref q_p1_lower, .ref q_p1_digRow, .ref q_p1_heldUnit, .ref q_p1_heldKind, .ref q_p1_seenFirst, .ref q_p1_seenSecond, .ref q_p1_seenIs, .ref q_p1_eventWhat, .ref q_p1_eventUnit])), (q_p1_traits, .inl (gI G, 60, .inl p1_traits)), (q_p2, .inr (5, [.int p2_units, .ref q_p2_under, .ref q_p2_above, .ref q_p2_reach, .ref q_p2_levelRow, .ref q_p2_shown, .ref q_p2_stepsBack])), (q_p2_reach, .inl (gI G, 12, .inl p2_reach))]) (host := "DigOrder") hx hb hml hown hts hK hG hP hD hS hA (c_X5_leastOf G l (v_5 &&& r_6) h_9) kc_X5_leastOf ks_X5_leastOf (by decide +kernel) rfl hl.1 rfl (Nat.le_of_ble_eq_true rfl) dX3_findsMixedPhases_60 (Nat.le_of_ble_eq_true rfl) (Nat.le_of_ble_eq_true rfl) ⟨Nat.le_refl _, Nat.le_refl _⟩ [] [0, 1, 2, 3, 4, 5] [0, 1, 2, 3, 4, 5] rfl rfl rfl rfl (by decide) rfl rfl (fun H locs hP hD hS => ?_)
          refine lv_istore (lv' := [(6, .int r_8), (5, .int r_1), (0, .ref q_this), (1, .ref q_p1), (2, .ref q_p2), (3, .int x3_2), (4, .int x4_13)]) hx hb dX3_findsMixedPhases_63 hl (by decide) rfl (fun ls hl => ?_)
          refine lv_aload_n hx hb dX3_findsMixedPhases_65 rfl (lv_at hl 2 rfl) ?_
          refine lv_iconst (v := 3) hx hb dX3_findsMixedPhases_66 (by decide) ?_
          refine lv_bipush (v := 10) hx hb dX3_findsMixedPhases_67 (by decide) ?_
          refine lv_iload_n hx hb dX3_findsMixedPhases_69 rfl (lv_at hl 5 rfl) ?_
          refine lv_imul hx hb dX3_findsMixedPhases_70 ?_
          refine lv_iload hx hb dX3_findsMixedPhases_71 (lv_at hl 6 rfl) ?_
          refine lv_iadd hx hb dX3_findsMixedPhases_73 ?_
          refine lv_bipush (v := 100) hx hb dX3_findsMixedPhases_74 (by decide) ?_
          refine lv_iload hx hb dX3_findsMixedPhases_76 (lv_at hl 1 rfl) ?_
          refine lv_imul hx hb dX3_findsMixedPhases_78 ?_
          refine lv_iload hx hb dX3_findsMixedPhases_79 (lv_at hl 0 rfl) ?_
          refine lv_iadd hx hb dX3_findsMixedPhases_81 ?_
          obtain ⟨r_10, h_11, hm⟩ := cl_elim hm
          refine w_callV (As := [.int (3 : Int32), .int (((10 : Int32) * x3_2) + x4_13), .int (((100 : Int32) * r_1) + r_8)]) (rest := []) (wr := [(q_p1, .inr (2, [.int p1_units, .int p1_ties, .int p1_digs, .int p1_sights, .int p1_events, .ref q_p1_traits, .ref q_p1_upper, .ref q_p1_lower, .ref q_p1_digRow, .ref q_p1_heldUnit, .ref q_p1_heldKind, .ref q_p1_seenFirst, .ref q_p1_seenSecond, .ref q_p1_seenIs, .ref q_p1_eventWhat, .ref q_p1_eventUnit])), (q_p1_traits, .inl (gI G, 60, .inl p1_traits)), (q_p2, .inr (5, [.int p2_units, .ref q_p2_under, .ref q_p2_above, .ref q_p2_reach, .ref q_p2_levelRow, .ref q_p2_shown, .ref q_p2_stepsBack])), (q_p2_reach, .inl (gI G, 12, .inl p2_reach))]) (W1 := [(q_this, .inr (3, [.ref q_numbers, .int r_10.2])), (q_numbers, .inl (gI G, 3, .inl r_10.1)), (q_p1, .inr (2, [.int p1_units, .int p1_ties, .int p1_digs, .int p1_sights, .int p1_events, .ref q_p1_traits, .ref q_p1_upper, .ref q_p1_lower, .ref q_p1_digRow, .ref q_p1_heldUnit, .ref q_p1_heldKind, .ref q_p1_seenFirst, .ref q_p1_seenSecond, .ref q_p1_seenIs, .ref q_p1_eventWhat, .ref q_p1_eventUnit])), (q_p1_traits, .inl (gI G, 60, .inl p1_traits)), (q_p2, .inr (5, [.int p2_units, .ref q_p2_under, .ref q_p2_above, .ref q_p2_reach, .ref q_p2_levelRow, .ref q_p2_shown, .ref q_p2_stepsBack])), (q_p2_reach, .inl (gI G, 12, .inl p2_reach))]) (ci := 3) (q0 := 0) hx hb hml hown hts hK hG hP hD hS hA (c_X3_write G l q_this f_size q_numbers f_numbers (3 : Int32) (((10 : Int32) * x3_2) + x4_13) (((100 : Int32) * r_1) + r_8) h_11) kc_X3_write ki_X3_write bw531 rfl rfl rfl hl.1 rfl (Nat.le_of_ble_eq_true rfl) dX3_findsMixedPhases_82 (Nat.le_of_ble_eq_true rfl) (Nat.le_of_ble_eq_true rfl) ⟨Nat.le_refl _, Nat.le_refl _⟩ [0, 1] [2, 3, 4, 5] [4, 5, 0, 1, 2, 3] rfl rfl rfl rfl (by decide) rfl rfl (fun H locs hP hD hS => ?_)
          refine lv_iconst (v := 1) hx hb dX3_findsMixedPhases_85 (by decide) ?_
          have hfin := fin _ _ ls _ _ (Option.some.inj hm) dX3_findsMixedPhases_86 (Or.inr rfl) hP hD hS
          exact hfin
      refine hL_13 _ ?_ FU (x3_2 + (1 : Int32)) _ _ _ hm hP hD hS (lv_sub hl [1, 2, 3, 4, 0] rfl)
      intro x4_13 H locs ls hm hP hD hS hl
      refine lv_iinc (v := (x3_2 + (1 : Int32))) (lv' := [(3, .int (x3_2 + (1 : Int32))), (0, .ref q_this), (1, .ref q_p1), (2, .ref q_p2)]) hx hb dX3_findsMixedPhases_93 hl (k := 3) rfl rfl (by decide) rfl (fun ls hl => ?_)
      refine lv_goto (tgt := 2) hx hb dX3_findsMixedPhases_96 (by decide) ?_
      exact ih_2 (x3_2 + (1 : Int32)) _ _ _ hm hP hD hS (lv_sub hl [1, 2, 3, 0] rfl)
  refine hL_2 _ ?_ FU (0 : Int32) _ _ _ hm hP hD hS (lv_sub hl [1, 2, 3, 0] rfl)
  intro x3_2 H locs ls hm hP hD hS hl
  refine lv_iconst (v := 0) hx hb dX3_findsMixedPhases_99 (by decide) ?_
  have hfin := fin _ _ ls _ _ (Option.some.inj hm) dX3_findsMixedPhases_100 (Or.inl rfl) hP hD hS
  exact hfin
set_option maxHeartbeats 0 in
set_option maxRecDepth 100000 in
theorem c_X5_earliest (G : GT) (l : Launch) (q_this : Nat) (f_units : Int32) (q_under : Nat) (q_above : Nat) (q_levelRow : Nat) (q_shown : Nat) (q_stepsBack : Nat) (q_reach : Nat) (f_reach : (Nat → Int32)) (q_p1 : Nat) (p1_units : Int32) (p1_ties : Int32) (p1_digs : Int32) (p1_sights : Int32) (p1_events : Int32) (q_p1_upper : Nat) (q_p1_lower : Nat) (q_p1_digRow : Nat) (q_p1_heldUnit : Nat) (q_p1_heldKind : Nat) (q_p1_seenFirst : Nat) (q_p1_seenSecond : Nat) (q_p1_seenIs : Nat) (q_p1_eventWhat : Nat) (q_p1_eventUnit : Nat) (q_p1_traits : Nat) (p1_traits : (Nat → Int32)) (a_2 : Int32) {res : Int32} (hm : m_X5_earliest f_units f_reach p1_traits a_2 = some res) : CT G l yX5_earliest cX5_earliest 5 (some .int) 1 22 [.ref q_this, .ref q_p1, .int a_2] [(q_this, .inr (5, [.int f_units, .ref q_under, .ref q_above, .ref q_reach, .ref q_levelRow, .ref q_shown, .ref q_stepsBack])), (q_reach, .inl (gI G, 12, .inl f_reach)), (q_p1, .inr (2, [.int p1_units, .int p1_ties, .int p1_digs, .int p1_sights, .int p1_events, .ref q_p1_traits, .ref q_p1_upper, .ref q_p1_lower, .ref q_p1_digRow, .ref q_p1_heldUnit, .ref q_p1_heldKind, .ref q_p1_seenFirst, .ref q_p1_seenSecond, .ref q_p1_seenIs, .ref q_p1_eventWhat, .ref q_p1_eventUnit])), (q_p1_traits, .inl (gI G, 60, .inl p1_traits))] [(q_this, .inr (5, [.int f_units, .ref q_under, .ref q_above, .ref q_reach, .ref q_levelRow, .ref q_shown, .ref q_stepsBack])), (q_reach, .inl (gI G, 12, .inl f_reach)), (q_p1, .inr (2, [.int p1_units, .int p1_ties, .int p1_digs, .int p1_sights, .int p1_events, .ref q_p1_traits, .ref q_p1_upper, .ref q_p1_lower, .ref q_p1_digRow, .ref q_p1_heldUnit, .ref q_p1_heldKind, .ref q_p1_seenFirst, .ref q_p1_seenSecond, .ref q_p1_seenIs, .ref q_p1_eventWhat, .ref q_p1_eventUnit])), (q_p1_traits, .inl (gI G, 60, .inl p1_traits))] (some (.int res)) := by
  refine ctI (G := G) (l := l) (y := yX5_earliest) (cc := cX5_earliest) (maxL := 5) (fr := 1) (lo := 22) (As := [.ref q_this, .ref q_p1, .int a_2]) (res := res) (fun res : Int32 => [(q_this, .inr (5, [.int f_units, .ref q_under, .ref q_above, .ref q_reach, .ref q_levelRow, .ref q_shown, .ref q_stepsBack])), (q_reach, .inl (gI G, 12, .inl f_reach)), (q_p1, .inr (2, [.int p1_units, .int p1_ties, .int p1_digs, .int p1_sights, .int p1_events, .ref q_p1_traits, .ref q_p1_upper, .ref q_p1_lower, .ref q_p1_digRow, .ref q_p1_heldUnit, .ref q_p1_heldKind, .ref q_p1_seenFirst, .ref q_p1_seenSecond, .ref q_p1_seenIs, .ref q_p1_eventWhat, .ref q_p1_eventUnit])), (q_p1_traits, .inl (gI G, 60, .inl p1_traits))]) (fun res : Int32 => res) (plainFor_of_name (by decide)) (Nat.le_of_ble_eq_true rfl) ?_
  intro p e s m below meth c A ls Q hx hb hml hown hts hK hG hA hP hD hS hl fin
  have hown : s.vm.findClass RX5 = some m.cls := hown
  have hl : lv_has ls 5 [(0, .ref q_this), (1, .ref q_p1), (2, .int a_2)] := hl
  unfold m_X5_earliest at hm
  refine lv_aload_n hx hb dX5_earliest_0 rfl (lv_at hl 1 rfl) ?_
  refine lv_iconst (v := 2) hx hb dX5_earliest_1 (by decide) ?_
  refine lv_iload_n hx hb dX5_earliest_2 rfl (lv_at hl 2 rfl) ?_
  obtain ⟨r_1, h_2, hm⟩ := cl_elim hm
  refine w_callV (As := [.int (2 : Int32), .int a_2]) (rest := []) (wr := [(q_this, .inr (5, [.int f_units, .ref q_under, .ref q_above, .ref q_reach, .ref q_levelRow, .ref q_shown, .ref q_stepsBack])), (q_reach, .inl (gI G, 12, .inl f_reach))]) (W1 := [(q_this, .inr (5, [.int f_units, .ref q_under, .ref q_above, .ref q_reach, .ref q_levelRow, .ref q_shown, .ref q_stepsBack])), (q_reach, .inl (gI G, 12, .inl f_reach)), (q_p1, .inr (2, [.int p1_units, .int p1_ties, .int p1_digs, .int p1_sights, .int p1_events, .ref q_p1_traits, .ref q_p1_upper, .ref q_p1_lower, .ref q_p1_digRow, .ref q_p1_heldUnit, .ref q_p1_heldKind, .ref q_p1_seenFirst, .ref q_p1_seenSecond, .ref q_p1_seenIs, .ref q_p1_eventWhat, .ref q_p1_eventUnit])), (q_p1_traits, .inl (gI G, 60, .inl p1_traits))]) (ci := 2) (q0 := 2) hx hb hml hown hts hK hG hP hD hS hA (c_X2_trait G l q_p1 p1_units p1_ties p1_digs p1_sights p1_events q_p1_upper q_p1_lower q_p1_digRow q_p1_heldUnit q_p1_heldKind q_p1_seenFirst q_p1_seenSecond q_p1_seenIs q_p1_eventWhat q_p1_eventUnit q_p1_traits p1_traits (2 : Int32) a_2 h_2) kc_X2_trait ki_X2_trait bw556 rfl rfl rfl hl.1 rfl (Nat.le_of_ble_eq_true rfl) dX5_earliest_3 (Nat.le_of_ble_eq_true rfl) (Nat.le_of_ble_eq_true rfl) ⟨Nat.le_refl _, Nat.le_refl _⟩ [2, 3] [0, 1] [0, 1, 2, 3] rfl rfl rfl rfl (by decide) rfl rfl (fun H locs hP hD hS => ?_)
  refine lv_istore_n (lv' := [(3, .int r_1), (0, .ref q_this), (1, .ref q_p1), (2, .int a_2)]) hx hb dX5_earliest_6 rfl hl (by decide) rfl (fun ls hl => ?_)
  refine lv_iconst (v := 0) hx hb dX5_earliest_7 (by decide) ?_
  refine lv_istore (lv' := [(4, .int (0 : Int32)), (3, .int r_1), (0, .ref q_this), (1, .ref q_p1), (2, .int a_2)]) hx hb dX5_earliest_8 hl (by decide) rfl (fun ls hl => ?_)
  have hL_10 : ∀ (k_10 : Int32 → Int32 → Option Int32), (∀ (x3_10 : Int32) (x4_10 : Int32) (H : Heap) (locs : List Loc) (ls : Array Slot), k_10 x3_10 x4_10 = some res → va_P (gD G) vwCl [(q_this, .inr (5, [.int f_units, .ref q_under, .ref q_above, .ref q_reach, .ref q_levelRow, .ref q_shown, .ref q_stepsBack])), (q_reach, .inl (gI G, 12, .inl f_reach)), (q_p1, .inr (2, [.int p1_units, .int p1_ties, .int p1_digs, .int p1_sights, .int p1_events, .ref q_p1_traits, .ref q_p1_upper, .ref q_p1_lower, .ref q_p1_digRow, .ref q_p1_heldUnit, .ref q_p1_heldKind, .ref q_p1_seenFirst, .ref q_p1_seenSecond, .ref q_p1_seenIs, .ref q_p1_eventWhat, .ref q_p1_eventUnit])), (q_p1_traits, .inl (gI G, 60, .inl p1_traits))] H → va_D A [(q_this, .inr (5, [.int f_units, .ref q_under, .ref q_above, .ref q_reach, .ref q_levelRow, .ref q_shown, .ref q_stepsBack])), (q_reach, .inl (gI G, 12, .inl f_reach)), (q_p1, .inr (2, [.int p1_units, .int p1_ties, .int p1_digs, .int p1_sights, .int p1_events, .ref q_p1_traits, .ref q_p1_upper, .ref q_p1_lower, .ref q_p1_digRow, .ref q_p1_heldUnit, .ref q_p1_heldKind, .ref q_p1_seenFirst, .ref q_p1_seenSecond, .ref q_p1_seenIs, .ref q_p1_eventWhat, .ref q_p1_eventUnit])), (q_p1_traits, .inl (gI G, 60, .inl p1_traits))] → va_S A s.heap H locs → lv_has ls 5 [(3, .int x3_10)] → W p l e { frames := 1, cells := 0, slots := 0, locals := 22 } s m ([.ref q_this, .ref q_p1, .int a_2] : List Value).toArray below meth c H locs 0 0 Q (F0 m 51 ls [])) → ∀ (n_10 : Nat) (x3_10 : Int32) (x4_10 : Int32) (H : Heap) (locs : List Loc) (ls : Array Slot), m_X5_earliest_L10 f_units f_reach p1_traits a_2 n_10 x3_10 x4_10 k_10 = some res → va_P (gD G) vwCl [(q_this, .inr (5, [.int f_units, .ref q_under, .ref q_above, .ref q_reach, .ref q_levelRow, .ref q_shown, .ref q_stepsBack])), (q_reach, .inl (gI G, 12, .inl f_reach)), (q_p1, .inr (2, [.int p1_units, .int p1_ties, .int p1_digs, .int p1_sights, .int p1_events, .ref q_p1_traits, .ref q_p1_upper, .ref q_p1_lower, .ref q_p1_digRow, .ref q_p1_heldUnit, .ref q_p1_heldKind, .ref q_p1_seenFirst, .ref q_p1_seenSecond, .ref q_p1_seenIs, .ref q_p1_eventWhat, .ref q_p1_eventUnit])), (q_p1_traits, .inl (gI G, 60, .inl p1_traits))] H → va_D A [(q_this, .inr (5, [.int f_units, .ref q_under, .ref q_above, .ref q_reach, .ref q_levelRow, .ref q_shown, .ref q_stepsBack])), (q_reach, .inl (gI G, 12, .inl f_reach)), (q_p1, .inr (2, [.int p1_units, .int p1_ties, .int p1_digs, .int p1_sights, .int p1_events, .ref q_p1_traits, .ref q_p1_upper, .ref q_p1_lower, .ref q_p1_digRow, .ref q_p1_heldUnit, .ref q_p1_heldKind, .ref q_p1_seenFirst, .ref q_p1_seenSecond, .ref q_p1_seenIs, .ref q_p1_eventWhat, .ref q_p1_eventUnit])), (q_p1_traits, .inl (gI G, 60, .inl p1_traits))] → va_S A s.heap H locs → lv_has ls 5 [(0, .ref q_this), (1, .ref q_p1), (2, .int a_2), (3, .int x3_10), (4, .int x4_10)] → W p l e { frames := 1, cells := 0, slots := 0, locals := 22 } s m ([.ref q_this, .ref q_p1, .int a_2] : List Value).toArray below meth c H locs 0 0 Q (F0 m 10 ls []) := by
    intro k_10 hk_10 n_10
    induction n_10 with
    | zero =>
      intro x3_10 x4_10 H locs ls hm
      rw [m_X5_earliest_L10] at hm
      cases hm
    | succ n_10 ih_10 =>
      intro x3_10 x4_10 H locs ls hm hP hD hS hl
      rw [m_X5_earliest_L10] at hm
      refine lv_iload hx hb dX5_earliest_10 (lv_at hl 4 rfl) ?_
      refine lv_aload_n hx hb dX5_earliest_12 rfl (lv_at hl 0 rfl) ?_
      refine gf_X5_9 (v := .int f_units) hx hb hts hown hK hP 0 rfl rfl dX5_earliest_13 ?_
      refine ic_ge (tgt := 51) hx hb dX5_earliest_16 (by decide) hm (fun hm => ?_) (fun hm => ?_)
      · exact hk_10 x3_10 x4_10 _ _ _ hm hP hD hS (lv_sub hl [3] rfl)
      refine lv_aload_n hx hb dX5_earliest_19 rfl (lv_at hl 0 rfl) ?_
      refine gf_X5_22 (v := .ref q_reach) hx hb hts hown hK hP 0 rfl rfl dX5_earliest_20 ?_
      refine lv_iload_n hx hb dX5_earliest_23 rfl (lv_at hl 2 rfl) ?_
      refine w_iald hx hb hK hP 1 rfl hm dX5_earliest_24 (fun v_3 hm => ?_)
      refine lv_iload hx hb dX5_earliest_25 (lv_at hl 4 rfl) ?_
      obtain ⟨r_4, h_5, hm⟩ := cl_elim hm
      refine w_callN (As := [.int v_3, .int x4_10]) (rest := []) (wr := [(q_this, .inr (5, [.int f_units, .ref q_under, .ref q_above, .ref q_reach, .ref q_levelRow, .ref q_shown, .ref q_stepsBack])), (q_reach, .inl (gI G, 12, .inl f_reach)), (q_p1, .inr (2, [.int p1_units, .int p1_ties, .int p1_digs, .int p1_sights, .int p1_events, .ref q_p1_traits, .ref q_p1_upper, .ref q_p1_lower, .ref q_p1_digRow, .ref q_p1_heldUnit, .ref q_p1_heldKind, .ref q_p1_seenFirst, .ref q_p1_seenSecond, .ref q_p1_seenIs, .ref q_p1_eventWhat, .ref q_p1_eventUnit])), (q_p1_traits, .inl (gI G, 60, .inl p1_traits))]) (W1 := [(q_this, .inr (5, [.int f_units, .ref q_under, .ref q_above, .ref q_reach, .ref q_levelRow, .ref q_shown, .ref q_stepsBack])), (q_reach, .inl (gI G, 12, .inl f_reach)), (q_p1, .inr (2, [.int p1_units, .int p1_ties, .int p1_digs, .int p1_sights, .int p1_events, .ref q_p1_traits, .ref q_p1_upper, .ref q_p1_lower, .ref q_p1_digRow, .ref q_p1_heldUnit, .ref q_p1_heldKind, .ref q_p1_seenFirst, .ref q_p1_seenSecond, .ref q_p1_seenIs, .ref q_p1_eventWhat, .ref q_p1_eventUnit])), (q_p1_traits, .inl (gI G, 60, .inl p1_traits))]) (host := "DigOrder") hx hb hml hown hts hK hG hP hD hS hA (c_X7_hasBit G l v_3 x4_10 h_5) kc_X7_hasBit ks_X7_hasBit (by decide +kernel) rfl hl.1 rfl (Nat.le_of_ble_eq_true rfl) dX5_earliest_27 (Nat.le_of_ble_eq_true rfl) (Nat.le_of_ble_eq_true rfl) ⟨Nat.le_refl _, Nat.le_refl _⟩ [] [0, 1, 2, 3] [0, 1, 2, 3] rfl rfl rfl rfl (by decide) rfl rfl (fun H locs hP hD hS => ?_)
      refine if_eq (tgt := 45) hx hb dX5_earliest_30 (by decide) hm (fun hm => ?_) (fun hm => ?_)
      · refine lv_iinc (v := (x4_10 + (1 : Int32))) (lv' := [(4, .int (x4_10 + (1 : Int32))), (0, .ref q_this), (1, .ref q_p1), (2, .int a_2), (3, .int x3_10)]) hx hb dX5_earliest_45 hl (k := 4) rfl rfl (by decide) rfl (fun ls hl => ?_)
        refine lv_goto (tgt := 10) hx hb dX5_earliest_48 (by decide) ?_
        exact ih_10 x3_10 (x4_10 + (1 : Int32)) _ _ _ hm hP hD hS (lv_sub hl [1, 2, 3, 4, 0] rfl)
      refine lv_iload_n hx hb dX5_earliest_33 rfl (lv_at hl 3 rfl) ?_
      refine lv_aload_n hx hb dX5_earliest_34 rfl (lv_at hl 1 rfl) ?_
      refine lv_iconst (v := 2) hx hb dX5_earliest_35 (by decide) ?_
      refine lv_iload hx hb dX5_earliest_36 (lv_at hl 4 rfl) ?_
      obtain ⟨r_6, h_7, hm⟩ := cl_elim hm
      refine w_callV (As := [.int (2 : Int32), .int x4_10]) (rest := [.int x3_10]) (wr := [(q_this, .inr (5, [.int f_units, .ref q_under, .ref q_above, .ref q_reach, .ref q_levelRow, .ref q_shown, .ref q_stepsBack])), (q_reach, .inl (gI G, 12, .inl f_reach))]) (W1 := [(q_this, .inr (5, [.int f_units, .ref q_under, .ref q_above, .ref q_reach, .ref q_levelRow, .ref q_shown, .ref q_stepsBack])), (q_reach, .inl (gI G, 12, .inl f_reach)), (q_p1, .inr (2, [.int p1_units, .int p1_ties, .int p1_digs, .int p1_sights, .int p1_events, .ref q_p1_traits, .ref q_p1_upper, .ref q_p1_lower, .ref q_p1_digRow, .ref q_p1_heldUnit, .ref q_p1_heldKind, .ref q_p1_seenFirst, .ref q_p1_seenSecond, .ref q_p1_seenIs, .ref q_p1_eventWhat, .ref q_p1_eventUnit])), (q_p1_traits, .inl (gI G, 60, .inl p1_traits))]) (ci := 2) (q0 := 2) hx hb hml hown hts hK hG hP hD hS hA (c_X2_trait G l q_p1 p1_units p1_ties p1_digs p1_sights p1_events q_p1_upper q_p1_lower q_p1_digRow q_p1_heldUnit q_p1_heldKind q_p1_seenFirst q_p1_seenSecond q_p1_seenIs q_p1_eventWhat q_p1_eventUnit q_p1_traits p1_traits (2 : Int32) x4_10 h_7) kc_X2_trait ki_X2_trait bw556 rfl rfl rfl hl.1 rfl (Nat.le_of_ble_eq_true rfl) dX5_earliest_38 (Nat.le_of_ble_eq_true rfl) (Nat.le_of_ble_eq_true rfl) ⟨Nat.le_refl _, Nat.le_refl _⟩ [2, 3] [0, 1] [0, 1, 2, 3] rfl rfl rfl rfl (by decide) rfl rfl (fun H locs hP hD hS => ?_)
      refine w_max hx hb hml hl.1 hts hown bw576 bw577 bw86 bw578 (Nat.le_of_ble_eq_true rfl) (Nat.le_of_ble_eq_true rfl) ⟨Nat.le_refl _, Nat.le_refl _⟩ dX5_earliest_41 hm (fun v_8 hm => ?_)
      refine lv_istore_n (lv' := [(3, .int v_8), (0, .ref q_this), (1, .ref q_p1), (2, .int a_2), (4, .int x4_10)]) hx hb dX5_earliest_44 rfl hl (by decide) rfl (fun ls hl => ?_)
      refine lv_iinc (v := (x4_10 + (1 : Int32))) (lv' := [(4, .int (x4_10 + (1 : Int32))), (3, .int v_8), (0, .ref q_this), (1, .ref q_p1), (2, .int a_2)]) hx hb dX5_earliest_45 hl (k := 4) rfl rfl (by decide) rfl (fun ls hl => ?_)
      refine lv_goto (tgt := 10) hx hb dX5_earliest_48 (by decide) ?_
      exact ih_10 v_8 (x4_10 + (1 : Int32)) _ _ _ hm hP hD hS (lv_sub hl [2, 3, 4, 1, 0] rfl)
  refine hL_10 _ ?_ FU r_1 (0 : Int32) _ _ _ hm hP hD hS (lv_sub hl [2, 3, 4, 1, 0] rfl)
  intro x3_10 x4_10 H locs ls hm hP hD hS hl
  refine lv_iload_n hx hb dX5_earliest_51 rfl (lv_at hl 0 rfl) ?_
  have hfin := fin _ _ ls _ _ (Option.some.inj hm) dX5_earliest_52 hP hD hS
  exact hfin
set_option maxHeartbeats 0 in
set_option maxRecDepth 100000 in
theorem c_X5_latest (G : GT) (l : Launch) (q_this : Nat) (f_units : Int32) (q_under : Nat) (q_above : Nat) (q_levelRow : Nat) (q_shown : Nat) (q_stepsBack : Nat) (q_reach : Nat) (f_reach : (Nat → Int32)) (q_p1 : Nat) (p1_units : Int32) (p1_ties : Int32) (p1_digs : Int32) (p1_sights : Int32) (p1_events : Int32) (q_p1_upper : Nat) (q_p1_lower : Nat) (q_p1_digRow : Nat) (q_p1_heldUnit : Nat) (q_p1_heldKind : Nat) (q_p1_seenFirst : Nat) (q_p1_seenSecond : Nat) (q_p1_seenIs : Nat) (q_p1_eventWhat : Nat) (q_p1_eventUnit : Nat) (q_p1_traits : Nat) (p1_traits : (Nat → Int32)) (a_2 : Int32) {res : Int32} (hm : m_X5_latest f_units f_reach p1_traits a_2 = some res) : CT G l yX5_latest cX5_latest 5 (some .int) 1 22 [.ref q_this, .ref q_p1, .int a_2] [(q_this, .inr (5, [.int f_units, .ref q_under, .ref q_above, .ref q_reach, .ref q_levelRow, .ref q_shown, .ref q_stepsBack])), (q_reach, .inl (gI G, 12, .inl f_reach)), (q_p1, .inr (2, [.int p1_units, .int p1_ties, .int p1_digs, .int p1_sights, .int p1_events, .ref q_p1_traits, .ref q_p1_upper, .ref q_p1_lower, .ref q_p1_digRow, .ref q_p1_heldUnit, .ref q_p1_heldKind, .ref q_p1_seenFirst, .ref q_p1_seenSecond, .ref q_p1_seenIs, .ref q_p1_eventWhat, .ref q_p1_eventUnit])), (q_p1_traits, .inl (gI G, 60, .inl p1_traits))] [(q_this, .inr (5, [.int f_units, .ref q_under, .ref q_above, .ref q_reach, .ref q_levelRow, .ref q_shown, .ref q_stepsBack])), (q_reach, .inl (gI G, 12, .inl f_reach)), (q_p1, .inr (2, [.int p1_units, .int p1_ties, .int p1_digs, .int p1_sights, .int p1_events, .ref q_p1_traits, .ref q_p1_upper, .ref q_p1_lower, .ref q_p1_digRow, .ref q_p1_heldUnit, .ref q_p1_heldKind, .ref q_p1_seenFirst, .ref q_p1_seenSecond, .ref q_p1_seenIs, .ref q_p1_eventWhat, .ref q_p1_eventUnit])), (q_p1_traits, .inl (gI G, 60, .inl p1_traits))] (some (.int res)) := by
  refine ctI (G := G) (l := l) (y := yX5_latest) (cc := cX5_latest) (maxL := 5) (fr := 1) (lo := 22) (As := [.ref q_this, .ref q_p1, .int a_2]) (res := res) (fun res : Int32 => [(q_this, .inr (5, [.int f_units, .ref q_under, .ref q_above, .ref q_reach, .ref q_levelRow, .ref q_shown, .ref q_stepsBack])), (q_reach, .inl (gI G, 12, .inl f_reach)), (q_p1, .inr (2, [.int p1_units, .int p1_ties, .int p1_digs, .int p1_sights, .int p1_events, .ref q_p1_traits, .ref q_p1_upper, .ref q_p1_lower, .ref q_p1_digRow, .ref q_p1_heldUnit, .ref q_p1_heldKind, .ref q_p1_seenFirst, .ref q_p1_seenSecond, .ref q_p1_seenIs, .ref q_p1_eventWhat, .ref q_p1_eventUnit])), (q_p1_traits, .inl (gI G, 60, .inl p1_traits))]) (fun res : Int32 => res) (plainFor_of_name (by decide)) (Nat.le_of_ble_eq_true rfl) ?_
  intro p e s m below meth c A ls Q hx hb hml hown hts hK hG hA hP hD hS hl fin
  have hown : s.vm.findClass RX5 = some m.cls := hown
  have hl : lv_has ls 5 [(0, .ref q_this), (1, .ref q_p1), (2, .int a_2)] := hl
  unfold m_X5_latest at hm
  refine lv_aload_n hx hb dX5_latest_0 rfl (lv_at hl 1 rfl) ?_
  refine lv_iconst (v := 3) hx hb dX5_latest_1 (by decide) ?_
  refine lv_iload_n hx hb dX5_latest_2 rfl (lv_at hl 2 rfl) ?_
  obtain ⟨r_1, h_2, hm⟩ := cl_elim hm
  refine w_callV (As := [.int (3 : Int32), .int a_2]) (rest := []) (wr := [(q_this, .inr (5, [.int f_units, .ref q_under, .ref q_above, .ref q_reach, .ref q_levelRow, .ref q_shown, .ref q_stepsBack])), (q_reach, .inl (gI G, 12, .inl f_reach))]) (W1 := [(q_this, .inr (5, [.int f_units, .ref q_under, .ref q_above, .ref q_reach, .ref q_levelRow, .ref q_shown, .ref q_stepsBack])), (q_reach, .inl (gI G, 12, .inl f_reach)), (q_p1, .inr (2, [.int p1_units, .int p1_ties, .int p1_digs, .int p1_sights, .int p1_events, .ref q_p1_traits, .ref q_p1_upper, .ref q_p1_lower, .ref q_p1_digRow, .ref q_p1_heldUnit, .ref q_p1_heldKind, .ref q_p1_seenFirst, .ref q_p1_seenSecond, .ref q_p1_seenIs, .ref q_p1_eventWhat, .ref q_p1_eventUnit])), (q_p1_traits, .inl (gI G, 60, .inl p1_traits))]) (ci := 2) (q0 := 2) hx hb hml hown hts hK hG hP hD hS hA (c_X2_trait G l q_p1 p1_units p1_ties p1_digs p1_sights p1_events q_p1_upper q_p1_lower q_p1_digRow q_p1_heldUnit q_p1_heldKind q_p1_seenFirst q_p1_seenSecond q_p1_seenIs q_p1_eventWhat q_p1_eventUnit q_p1_traits p1_traits (3 : Int32) a_2 h_2) kc_X2_trait ki_X2_trait bw556 rfl rfl rfl hl.1 rfl (Nat.le_of_ble_eq_true rfl) dX5_latest_3 (Nat.le_of_ble_eq_true rfl) (Nat.le_of_ble_eq_true rfl) ⟨Nat.le_refl _, Nat.le_refl _⟩ [2, 3] [0, 1] [0, 1, 2, 3] rfl rfl rfl rfl (by decide) rfl rfl (fun H locs hP hD hS => ?_)
  refine lv_istore_n (lv' := [(3, .int r_1), (0, .ref q_this), (1, .ref q_p1), (2, .int a_2)]) hx hb dX5_latest_6 rfl hl (by decide) rfl (fun ls hl => ?_)
  refine lv_iconst (v := 0) hx hb dX5_latest_7 (by decide) ?_
  refine lv_istore (lv' := [(4, .int (0 : Int32)), (3, .int r_1), (0, .ref q_this), (1, .ref q_p1), (2, .int a_2)]) hx hb dX5_latest_8 hl (by decide) rfl (fun ls hl => ?_)
  have hL_10 : ∀ (k_10 : Int32 → Int32 → Option Int32), (∀ (x3_10 : Int32) (x4_10 : Int32) (H : Heap) (locs : List Loc) (ls : Array Slot), k_10 x3_10 x4_10 = some res → va_P (gD G) vwCl [(q_this, .inr (5, [.int f_units, .ref q_under, .ref q_above, .ref q_reach, .ref q_levelRow, .ref q_shown, .ref q_stepsBack])), (q_reach, .inl (gI G, 12, .inl f_reach)), (q_p1, .inr (2, [.int p1_units, .int p1_ties, .int p1_digs, .int p1_sights, .int p1_events, .ref q_p1_traits, .ref q_p1_upper, .ref q_p1_lower, .ref q_p1_digRow, .ref q_p1_heldUnit, .ref q_p1_heldKind, .ref q_p1_seenFirst, .ref q_p1_seenSecond, .ref q_p1_seenIs, .ref q_p1_eventWhat, .ref q_p1_eventUnit])), (q_p1_traits, .inl (gI G, 60, .inl p1_traits))] H → va_D A [(q_this, .inr (5, [.int f_units, .ref q_under, .ref q_above, .ref q_reach, .ref q_levelRow, .ref q_shown, .ref q_stepsBack])), (q_reach, .inl (gI G, 12, .inl f_reach)), (q_p1, .inr (2, [.int p1_units, .int p1_ties, .int p1_digs, .int p1_sights, .int p1_events, .ref q_p1_traits, .ref q_p1_upper, .ref q_p1_lower, .ref q_p1_digRow, .ref q_p1_heldUnit, .ref q_p1_heldKind, .ref q_p1_seenFirst, .ref q_p1_seenSecond, .ref q_p1_seenIs, .ref q_p1_eventWhat, .ref q_p1_eventUnit])), (q_p1_traits, .inl (gI G, 60, .inl p1_traits))] → va_S A s.heap H locs → lv_has ls 5 [(3, .int x3_10)] → W p l e { frames := 1, cells := 0, slots := 0, locals := 22 } s m ([.ref q_this, .ref q_p1, .int a_2] : List Value).toArray below meth c H locs 0 0 Q (F0 m 51 ls [])) → ∀ (n_10 : Nat) (x3_10 : Int32) (x4_10 : Int32) (H : Heap) (locs : List Loc) (ls : Array Slot), m_X5_latest_L10 f_units f_reach p1_traits a_2 n_10 x3_10 x4_10 k_10 = some res → va_P (gD G) vwCl [(q_this, .inr (5, [.int f_units, .ref q_under, .ref q_above, .ref q_reach, .ref q_levelRow, .ref q_shown, .ref q_stepsBack])), (q_reach, .inl (gI G, 12, .inl f_reach)), (q_p1, .inr (2, [.int p1_units, .int p1_ties, .int p1_digs, .int p1_sights, .int p1_events, .ref q_p1_traits, .ref q_p1_upper, .ref q_p1_lower, .ref q_p1_digRow, .ref q_p1_heldUnit, .ref q_p1_heldKind, .ref q_p1_seenFirst, .ref q_p1_seenSecond, .ref q_p1_seenIs, .ref q_p1_eventWhat, .ref q_p1_eventUnit])), (q_p1_traits, .inl (gI G, 60, .inl p1_traits))] H → va_D A [(q_this, .inr (5, [.int f_units, .ref q_under, .ref q_above, .ref q_reach, .ref q_levelRow, .ref q_shown, .ref q_stepsBack])), (q_reach, .inl (gI G, 12, .inl f_reach)), (q_p1, .inr (2, [.int p1_units, .int p1_ties, .int p1_digs, .int p1_sights, .int p1_events, .ref q_p1_traits, .ref q_p1_upper, .ref q_p1_lower, .ref q_p1_digRow, .ref q_p1_heldUnit, .ref q_p1_heldKind, .ref q_p1_seenFirst, .ref q_p1_seenSecond, .ref q_p1_seenIs, .ref q_p1_eventWhat, .ref q_p1_eventUnit])), (q_p1_traits, .inl (gI G, 60, .inl p1_traits))] → va_S A s.heap H locs → lv_has ls 5 [(0, .ref q_this), (1, .ref q_p1), (2, .int a_2), (3, .int x3_10), (4, .int x4_10)] → W p l e { frames := 1, cells := 0, slots := 0, locals := 22 } s m ([.ref q_this, .ref q_p1, .int a_2] : List Value).toArray below meth c H locs 0 0 Q (F0 m 10 ls []) := by
    intro k_10 hk_10 n_10
    induction n_10 with
    | zero =>
      intro x3_10 x4_10 H locs ls hm
      rw [m_X5_latest_L10] at hm
      cases hm
    | succ n_10 ih_10 =>
      intro x3_10 x4_10 H locs ls hm hP hD hS hl
      rw [m_X5_latest_L10] at hm
      refine lv_iload hx hb dX5_latest_10 (lv_at hl 4 rfl) ?_
      refine lv_aload_n hx hb dX5_latest_12 rfl (lv_at hl 0 rfl) ?_
      refine gf_X5_9 (v := .int f_units) hx hb hts hown hK hP 0 rfl rfl dX5_latest_13 ?_
      refine ic_ge (tgt := 51) hx hb dX5_latest_16 (by decide) hm (fun hm => ?_) (fun hm => ?_)
      · exact hk_10 x3_10 x4_10 _ _ _ hm hP hD hS (lv_sub hl [3] rfl)
      refine lv_aload_n hx hb dX5_latest_19 rfl (lv_at hl 0 rfl) ?_
      refine gf_X5_22 (v := .ref q_reach) hx hb hts hown hK hP 0 rfl rfl dX5_latest_20 ?_
      refine lv_iload hx hb dX5_latest_23 (lv_at hl 4 rfl) ?_
      refine w_iald hx hb hK hP 1 rfl hm dX5_latest_25 (fun v_3 hm => ?_)
      refine lv_iload_n hx hb dX5_latest_26 rfl (lv_at hl 2 rfl) ?_
      obtain ⟨r_4, h_5, hm⟩ := cl_elim hm
      refine w_callN (As := [.int v_3, .int a_2]) (rest := []) (wr := [(q_this, .inr (5, [.int f_units, .ref q_under, .ref q_above, .ref q_reach, .ref q_levelRow, .ref q_shown, .ref q_stepsBack])), (q_reach, .inl (gI G, 12, .inl f_reach)), (q_p1, .inr (2, [.int p1_units, .int p1_ties, .int p1_digs, .int p1_sights, .int p1_events, .ref q_p1_traits, .ref q_p1_upper, .ref q_p1_lower, .ref q_p1_digRow, .ref q_p1_heldUnit, .ref q_p1_heldKind, .ref q_p1_seenFirst, .ref q_p1_seenSecond, .ref q_p1_seenIs, .ref q_p1_eventWhat, .ref q_p1_eventUnit])), (q_p1_traits, .inl (gI G, 60, .inl p1_traits))]) (W1 := [(q_this, .inr (5, [.int f_units, .ref q_under, .ref q_above, .ref q_reach, .ref q_levelRow, .ref q_shown, .ref q_stepsBack])), (q_reach, .inl (gI G, 12, .inl f_reach)), (q_p1, .inr (2, [.int p1_units, .int p1_ties, .int p1_digs, .int p1_sights, .int p1_events, .ref q_p1_traits, .ref q_p1_upper, .ref q_p1_lower, .ref q_p1_digRow, .ref q_p1_heldUnit, .ref q_p1_heldKind, .ref q_p1_seenFirst, .ref q_p1_seenSecond, .ref q_p1_seenIs, .ref q_p1_eventWhat, .ref q_p1_eventUnit])), (q_p1_traits, .inl (gI G, 60, .inl p1_traits))]) (host := "DigOrder") hx hb hml hown hts hK hG hP hD hS hA (c_X7_hasBit G l v_3 a_2 h_5) kc_X7_hasBit ks_X7_hasBit (by decide +kernel) rfl hl.1 rfl (Nat.le_of_ble_eq_true rfl) dX5_latest_27 (Nat.le_of_ble_eq_true rfl) (Nat.le_of_ble_eq_true rfl) ⟨Nat.le_refl _, Nat.le_refl _⟩ [] [0, 1, 2, 3] [0, 1, 2, 3] rfl rfl rfl rfl (by decide) rfl rfl (fun H locs hP hD hS => ?_)
      refine if_eq (tgt := 45) hx hb dX5_latest_30 (by decide) hm (fun hm => ?_) (fun hm => ?_)
      · refine lv_iinc (v := (x4_10 + (1 : Int32))) (lv' := [(4, .int (x4_10 + (1 : Int32))), (0, .ref q_this), (1, .ref q_p1), (2, .int a_2), (3, .int x3_10)]) hx hb dX5_latest_45 hl (k := 4) rfl rfl (by decide) rfl (fun ls hl => ?_)
        refine lv_goto (tgt := 10) hx hb dX5_latest_48 (by decide) ?_
        exact ih_10 x3_10 (x4_10 + (1 : Int32)) _ _ _ hm hP hD hS (lv_sub hl [1, 2, 3, 4, 0] rfl)
      refine lv_iload_n hx hb dX5_latest_33 rfl (lv_at hl 3 rfl) ?_
      refine lv_aload_n hx hb dX5_latest_34 rfl (lv_at hl 1 rfl) ?_
      refine lv_iconst (v := 3) hx hb dX5_latest_35 (by decide) ?_
      refine lv_iload hx hb dX5_latest_36 (lv_at hl 4 rfl) ?_
      obtain ⟨r_6, h_7, hm⟩ := cl_elim hm
      refine w_callV (As := [.int (3 : Int32), .int x4_10]) (rest := [.int x3_10]) (wr := [(q_this, .inr (5, [.int f_units, .ref q_under, .ref q_above, .ref q_reach, .ref q_levelRow, .ref q_shown, .ref q_stepsBack])), (q_reach, .inl (gI G, 12, .inl f_reach))]) (W1 := [(q_this, .inr (5, [.int f_units, .ref q_under, .ref q_above, .ref q_reach, .ref q_levelRow, .ref q_shown, .ref q_stepsBack])), (q_reach, .inl (gI G, 12, .inl f_reach)), (q_p1, .inr (2, [.int p1_units, .int p1_ties, .int p1_digs, .int p1_sights, .int p1_events, .ref q_p1_traits, .ref q_p1_upper, .ref q_p1_lower, .ref q_p1_digRow, .ref q_p1_heldUnit, .ref q_p1_heldKind, .ref q_p1_seenFirst, .ref q_p1_seenSecond, .ref q_p1_seenIs, .ref q_p1_eventWhat, .ref q_p1_eventUnit])), (q_p1_traits, .inl (gI G, 60, .inl p1_traits))]) (ci := 2) (q0 := 2) hx hb hml hown hts hK hG hP hD hS hA (c_X2_trait G l q_p1 p1_units p1_ties p1_digs p1_sights p1_events q_p1_upper q_p1_lower q_p1_digRow q_p1_heldUnit q_p1_heldKind q_p1_seenFirst q_p1_seenSecond q_p1_seenIs q_p1_eventWhat q_p1_eventUnit q_p1_traits p1_traits (3 : Int32) x4_10 h_7) kc_X2_trait ki_X2_trait bw556 rfl rfl rfl hl.1 rfl (Nat.le_of_ble_eq_true rfl) dX5_latest_38 (Nat.le_of_ble_eq_true rfl) (Nat.le_of_ble_eq_true rfl) ⟨Nat.le_refl _, Nat.le_refl _⟩ [2, 3] [0, 1] [0, 1, 2, 3] rfl rfl rfl rfl (by decide) rfl rfl (fun H locs hP hD hS => ?_)
      refine w_min hx hb hml hl.1 hts hown bw583 bw584 bw86 bw585 (Nat.le_of_ble_eq_true rfl) (Nat.le_of_ble_eq_true rfl) ⟨Nat.le_refl _, Nat.le_refl _⟩ dX5_latest_41 hm (fun v_8 hm => ?_)
      refine lv_istore_n (lv' := [(3, .int v_8), (0, .ref q_this), (1, .ref q_p1), (2, .int a_2), (4, .int x4_10)]) hx hb dX5_latest_44 rfl hl (by decide) rfl (fun ls hl => ?_)
      refine lv_iinc (v := (x4_10 + (1 : Int32))) (lv' := [(4, .int (x4_10 + (1 : Int32))), (3, .int v_8), (0, .ref q_this), (1, .ref q_p1), (2, .int a_2)]) hx hb dX5_latest_45 hl (k := 4) rfl rfl (by decide) rfl (fun ls hl => ?_)
      refine lv_goto (tgt := 10) hx hb dX5_latest_48 (by decide) ?_
      exact ih_10 v_8 (x4_10 + (1 : Int32)) _ _ _ hm hP hD hS (lv_sub hl [2, 3, 4, 1, 0] rfl)
  refine hL_10 _ ?_ FU r_1 (0 : Int32) _ _ _ hm hP hD hS (lv_sub hl [2, 3, 4, 1, 0] rfl)
  intro x3_10 x4_10 H locs ls hm hP hD hS hl
  refine lv_iload_n hx hb dX5_latest_51 rfl (lv_at hl 0 rfl) ?_
  have hfin := fin _ _ ls _ _ (Option.some.inj hm) dX5_latest_52 hP hD hS
  exact hfin
set_option maxHeartbeats 0 in
set_option maxRecDepth 100000 in
theorem c_X5_crossing (G : GT) (l : Launch) (q_this : Nat) (f_units : Int32) (q_under : Nat) (q_above : Nat) (q_levelRow : Nat) (q_shown : Nat) (q_stepsBack : Nat) (q_reach : Nat) (f_reach : (Nat → Int32)) (q_p1 : Nat) (p1_units : Int32) (p1_ties : Int32) (p1_digs : Int32) (p1_sights : Int32) (p1_events : Int32) (q_p1_upper : Nat) (q_p1_lower : Nat) (q_p1_digRow : Nat) (q_p1_heldUnit : Nat) (q_p1_heldKind : Nat) (q_p1_seenFirst : Nat) (q_p1_seenSecond : Nat) (q_p1_seenIs : Nat) (q_p1_eventWhat : Nat) (q_p1_eventUnit : Nat) (q_p1_traits : Nat) (p1_traits : (Nat → Int32)) {res : Int32} (hm : m_X5_crossing f_units f_reach p1_traits = some res) : CT G l yX5_crossing cX5_crossing 4 (some .int) 2 46 [.ref q_this, .ref q_p1] [(q_this, .inr (5, [.int f_units, .ref q_under, .ref q_above, .ref q_reach, .ref q_levelRow, .ref q_shown, .ref q_stepsBack])), (q_reach, .inl (gI G, 12, .inl f_reach)), (q_p1, .inr (2, [.int p1_units, .int p1_ties, .int p1_digs, .int p1_sights, .int p1_events, .ref q_p1_traits, .ref q_p1_upper, .ref q_p1_lower, .ref q_p1_digRow, .ref q_p1_heldUnit, .ref q_p1_heldKind, .ref q_p1_seenFirst, .ref q_p1_seenSecond, .ref q_p1_seenIs, .ref q_p1_eventWhat, .ref q_p1_eventUnit])), (q_p1_traits, .inl (gI G, 60, .inl p1_traits))] [(q_this, .inr (5, [.int f_units, .ref q_under, .ref q_above, .ref q_reach, .ref q_levelRow, .ref q_shown, .ref q_stepsBack])), (q_reach, .inl (gI G, 12, .inl f_reach)), (q_p1, .inr (2, [.int p1_units, .int p1_ties, .int p1_digs, .int p1_sights, .int p1_events, .ref q_p1_traits, .ref q_p1_upper, .ref q_p1_lower, .ref q_p1_digRow, .ref q_p1_heldUnit, .ref q_p1_heldKind, .ref q_p1_seenFirst, .ref q_p1_seenSecond, .ref q_p1_seenIs, .ref q_p1_eventWhat, .ref q_p1_eventUnit])), (q_p1_traits, .inl (gI G, 60, .inl p1_traits))] (some (.int res)) := by
  refine ctI (G := G) (l := l) (y := yX5_crossing) (cc := cX5_crossing) (maxL := 4) (fr := 2) (lo := 46) (As := [.ref q_this, .ref q_p1]) (res := res) (fun res : Int32 => [(q_this, .inr (5, [.int f_units, .ref q_under, .ref q_above, .ref q_reach, .ref q_levelRow, .ref q_shown, .ref q_stepsBack])), (q_reach, .inl (gI G, 12, .inl f_reach)), (q_p1, .inr (2, [.int p1_units, .int p1_ties, .int p1_digs, .int p1_sights, .int p1_events, .ref q_p1_traits, .ref q_p1_upper, .ref q_p1_lower, .ref q_p1_digRow, .ref q_p1_heldUnit, .ref q_p1_heldKind, .ref q_p1_seenFirst, .ref q_p1_seenSecond, .ref q_p1_seenIs, .ref q_p1_eventWhat, .ref q_p1_eventUnit])), (q_p1_traits, .inl (gI G, 60, .inl p1_traits))]) (fun res : Int32 => res) (plainFor_of_name (by decide)) (Nat.le_of_ble_eq_true rfl) ?_
  intro p e s m below meth c A ls Q hx hb hml hown hts hK hG hA hP hD hS hl fin
  have hown : s.vm.findClass RX5 = some m.cls := hown
  have hl : lv_has ls 4 [(0, .ref q_this), (1, .ref q_p1)] := hl
  unfold m_X5_crossing at hm
  refine lv_iconst (v := 0) hx hb dX5_crossing_0 (by decide) ?_
  refine lv_istore_n (lv' := [(2, .int (0 : Int32)), (0, .ref q_this), (1, .ref q_p1)]) hx hb dX5_crossing_1 rfl hl (by decide) rfl (fun ls hl => ?_)
  refine lv_iconst (v := 0) hx hb dX5_crossing_2 (by decide) ?_
  refine lv_istore_n (lv' := [(3, .int (0 : Int32)), (2, .int (0 : Int32)), (0, .ref q_this), (1, .ref q_p1)]) hx hb dX5_crossing_3 rfl hl (by decide) rfl (fun ls hl => ?_)
  have hL_4 : ∀ (k_4 : Int32 → Int32 → Option Int32), (∀ (x2_4 : Int32) (x3_4 : Int32) (H : Heap) (locs : List Loc) (ls : Array Slot), k_4 x2_4 x3_4 = some res → va_P (gD G) vwCl [(q_this, .inr (5, [.int f_units, .ref q_under, .ref q_above, .ref q_reach, .ref q_levelRow, .ref q_shown, .ref q_stepsBack])), (q_reach, .inl (gI G, 12, .inl f_reach)), (q_p1, .inr (2, [.int p1_units, .int p1_ties, .int p1_digs, .int p1_sights, .int p1_events, .ref q_p1_traits, .ref q_p1_upper, .ref q_p1_lower, .ref q_p1_digRow, .ref q_p1_heldUnit, .ref q_p1_heldKind, .ref q_p1_seenFirst, .ref q_p1_seenSecond, .ref q_p1_seenIs, .ref q_p1_eventWhat, .ref q_p1_eventUnit])), (q_p1_traits, .inl (gI G, 60, .inl p1_traits))] H → va_D A [(q_this, .inr (5, [.int f_units, .ref q_under, .ref q_above, .ref q_reach, .ref q_levelRow, .ref q_shown, .ref q_stepsBack])), (q_reach, .inl (gI G, 12, .inl f_reach)), (q_p1, .inr (2, [.int p1_units, .int p1_ties, .int p1_digs, .int p1_sights, .int p1_events, .ref q_p1_traits, .ref q_p1_upper, .ref q_p1_lower, .ref q_p1_digRow, .ref q_p1_heldUnit, .ref q_p1_heldKind, .ref q_p1_seenFirst, .ref q_p1_seenSecond, .ref q_p1_seenIs, .ref q_p1_eventWhat, .ref q_p1_eventUnit])), (q_p1_traits, .inl (gI G, 60, .inl p1_traits))] → va_S A s.heap H locs → lv_has ls 4 [(2, .int x2_4)] → W p l e { frames := 2, cells := 0, slots := 0, locals := 46 } s m ([.ref q_this, .ref q_p1] : List Value).toArray below meth c H locs 0 0 Q (F0 m 39 ls [])) → ∀ (n_4 : Nat) (x2_4 : Int32) (x3_4 : Int32) (H : Heap) (locs : List Loc) (ls : Array Slot), m_X5_crossing_L4 f_units f_reach p1_traits n_4 x2_4 x3_4 k_4 = some res → va_P (gD G) vwCl [(q_this, .inr (5, [.int f_units, .ref q_under, .ref q_above, .ref q_reach, .ref q_levelRow, .ref q_shown, .ref q_stepsBack])), (q_reach, .inl (gI G, 12, .inl f_reach)), (q_p1, .inr (2, [.int p1_units, .int p1_ties, .int p1_digs, .int p1_sights, .int p1_events, .ref q_p1_traits, .ref q_p1_upper, .ref q_p1_lower, .ref q_p1_digRow, .ref q_p1_heldUnit, .ref q_p1_heldKind, .ref q_p1_seenFirst, .ref q_p1_seenSecond, .ref q_p1_seenIs, .ref q_p1_eventWhat, .ref q_p1_eventUnit])), (q_p1_traits, .inl (gI G, 60, .inl p1_traits))] H → va_D A [(q_this, .inr (5, [.int f_units, .ref q_under, .ref q_above, .ref q_reach, .ref q_levelRow, .ref q_shown, .ref q_stepsBack])), (q_reach, .inl (gI G, 12, .inl f_reach)), (q_p1, .inr (2, [.int p1_units, .int p1_ties, .int p1_digs, .int p1_sights, .int p1_events, .ref q_p1_traits, .ref q_p1_upper, .ref q_p1_lower, .ref q_p1_digRow, .ref q_p1_heldUnit, .ref q_p1_heldKind, .ref q_p1_seenFirst, .ref q_p1_seenSecond, .ref q_p1_seenIs, .ref q_p1_eventWhat, .ref q_p1_eventUnit])), (q_p1_traits, .inl (gI G, 60, .inl p1_traits))] → va_S A s.heap H locs → lv_has ls 4 [(0, .ref q_this), (1, .ref q_p1), (2, .int x2_4), (3, .int x3_4)] → W p l e { frames := 2, cells := 0, slots := 0, locals := 46 } s m ([.ref q_this, .ref q_p1] : List Value).toArray below meth c H locs 0 0 Q (F0 m 4 ls []) := by
    intro k_4 hk_4 n_4
    induction n_4 with
    | zero =>
      intro x2_4 x3_4 H locs ls hm
      rw [m_X5_crossing_L4] at hm
      cases hm
    | succ n_4 ih_4 =>
      intro x2_4 x3_4 H locs ls hm hP hD hS hl
      rw [m_X5_crossing_L4] at hm
      refine lv_iload_n hx hb dX5_crossing_4 rfl (lv_at hl 3 rfl) ?_
      refine lv_aload_n hx hb dX5_crossing_5 rfl (lv_at hl 0 rfl) ?_
      refine gf_X5_9 (v := .int f_units) hx hb hts hown hK hP 0 rfl rfl dX5_crossing_6 ?_
      refine ic_ge (tgt := 39) hx hb dX5_crossing_9 (by decide) hm (fun hm => ?_) (fun hm => ?_)
      · exact hk_4 x2_4 x3_4 _ _ _ hm hP hD hS (lv_sub hl [2] rfl)
      refine lv_aload_n hx hb dX5_crossing_12 rfl (lv_at hl 0 rfl) ?_
      refine lv_aload_n hx hb dX5_crossing_13 rfl (lv_at hl 1 rfl) ?_
      refine lv_iload_n hx hb dX5_crossing_14 rfl (lv_at hl 3 rfl) ?_
      obtain ⟨r_1, h_2, hm⟩ := cl_elim hm
      refine w_callV (As := [.ref q_p1, .int x3_4]) (rest := []) (wr := []) (W1 := [(q_this, .inr (5, [.int f_units, .ref q_under, .ref q_above, .ref q_reach, .ref q_levelRow, .ref q_shown, .ref q_stepsBack])), (q_reach, .inl (gI G, 12, .inl f_reach)), (q_p1, .inr (2, [.int p1_units, .int p1_ties, .int p1_digs, .int p1_sights, .int p1_events, .ref q_p1_traits, .ref q_p1_upper, .ref q_p1_lower, .ref q_p1_digRow, .ref q_p1_heldUnit, .ref q_p1_heldKind, .ref q_p1_seenFirst, .ref q_p1_seenSecond, .ref q_p1_seenIs, .ref q_p1_eventWhat, .ref q_p1_eventUnit])), (q_p1_traits, .inl (gI G, 60, .inl p1_traits))]) (ci := 5) (q0 := 0) hx hb hml hown hts hK hG hP hD hS hA (c_X5_earliest G l q_this f_units q_under q_above q_levelRow q_shown q_stepsBack q_reach f_reach q_p1 p1_units p1_ties p1_digs p1_sights p1_events q_p1_upper q_p1_lower q_p1_digRow q_p1_heldUnit q_p1_heldKind q_p1_seenFirst q_p1_seenSecond q_p1_seenIs q_p1_eventWhat q_p1_eventUnit q_p1_traits p1_traits x3_4 h_2) kc_X5_earliest ki_X5_earliest bw572 rfl rfl rfl hl.1 rfl (Nat.le_of_ble_eq_true rfl) dX5_crossing_15 (Nat.le_of_ble_eq_true rfl) (Nat.le_of_ble_eq_true rfl) ⟨Nat.le_refl _, Nat.le_refl _⟩ [0, 1, 2, 3] [] [0, 1, 2, 3] rfl rfl rfl rfl (by decide) rfl rfl (fun H locs hP hD hS => ?_)
      refine lv_aload_n hx hb dX5_crossing_18 rfl (lv_at hl 0 rfl) ?_
      refine lv_aload_n hx hb dX5_crossing_19 rfl (lv_at hl 1 rfl) ?_
      refine lv_iload_n hx hb dX5_crossing_20 rfl (lv_at hl 3 rfl) ?_
      obtain ⟨r_3, h_4, hm⟩ := cl_elim hm
      refine w_callV (As := [.ref q_p1, .int x3_4]) (rest := [.int r_1]) (wr := []) (W1 := [(q_this, .inr (5, [.int f_units, .ref q_under, .ref q_above, .ref q_reach, .ref q_levelRow, .ref q_shown, .ref q_stepsBack])), (q_reach, .inl (gI G, 12, .inl f_reach)), (q_p1, .inr (2, [.int p1_units, .int p1_ties, .int p1_digs, .int p1_sights, .int p1_events, .ref q_p1_traits, .ref q_p1_upper, .ref q_p1_lower, .ref q_p1_digRow, .ref q_p1_heldUnit, .ref q_p1_heldKind, .ref q_p1_seenFirst, .ref q_p1_seenSecond, .ref q_p1_seenIs, .ref q_p1_eventWhat, .ref q_p1_eventUnit])), (q_p1_traits, .inl (gI G, 60, .inl p1_traits))]) (ci := 5) (q0 := 0) hx hb hml hown hts hK hG hP hD hS hA (c_X5_latest G l q_this f_units q_under q_above q_levelRow q_shown q_stepsBack q_reach f_reach q_p1 p1_units p1_ties p1_digs p1_sights p1_events q_p1_upper q_p1_lower q_p1_digRow q_p1_heldUnit q_p1_heldKind q_p1_seenFirst q_p1_seenSecond q_p1_seenIs q_p1_eventWhat q_p1_eventUnit q_p1_traits p1_traits x3_4 h_4) kc_X5_latest ki_X5_latest bw579 rfl rfl rfl hl.1 rfl (Nat.le_of_ble_eq_true rfl) dX5_crossing_21 (Nat.le_of_ble_eq_true rfl) (Nat.le_of_ble_eq_true rfl) ⟨Nat.le_refl _, Nat.le_refl _⟩ [0, 1, 2, 3] [] [0, 1, 2, 3] rfl rfl rfl rfl (by decide) rfl rfl (fun H locs hP hD hS => ?_)
      refine ic_le (tgt := 33) hx hb dX5_crossing_24 (by decide) hm (fun hm => ?_) (fun hm => ?_)
      · refine lv_iinc (v := (x3_4 + (1 : Int32))) (lv' := [(3, .int (x3_4 + (1 : Int32))), (0, .ref q_this), (1, .ref q_p1), (2, .int x2_4)]) hx hb dX5_crossing_33 hl (k := 3) rfl rfl (by decide) rfl (fun ls hl => ?_)
        refine lv_goto (tgt := 4) hx hb dX5_crossing_36 (by decide) ?_
        exact ih_4 x2_4 (x3_4 + (1 : Int32)) _ _ _ hm hP hD hS (lv_sub hl [1, 2, 3, 0] rfl)
      refine lv_iload_n hx hb dX5_crossing_27 rfl (lv_at hl 2 rfl) ?_
      refine lv_iconst (v := 1) hx hb dX5_crossing_28 (by decide) ?_
      refine lv_iload_n hx hb dX5_crossing_29 rfl (lv_at hl 3 rfl) ?_
      refine lv_ishl hx hb dX5_crossing_30 ?_
      refine lv_ior hx hb dX5_crossing_31 ?_
      refine nmi hm (fun v_5 hm => ?_)
      refine lv_istore_n (lv' := [(2, .int v_5), (0, .ref q_this), (1, .ref q_p1), (3, .int x3_4)]) hx hb dX5_crossing_32 rfl hl (by decide) rfl (fun ls hl => ?_)
      refine lv_iinc (v := (x3_4 + (1 : Int32))) (lv' := [(3, .int (x3_4 + (1 : Int32))), (2, .int v_5), (0, .ref q_this), (1, .ref q_p1)]) hx hb dX5_crossing_33 hl (k := 3) rfl rfl (by decide) rfl (fun ls hl => ?_)
      refine lv_goto (tgt := 4) hx hb dX5_crossing_36 (by decide) ?_
      exact ih_4 v_5 (x3_4 + (1 : Int32)) _ _ _ hm hP hD hS (lv_sub hl [2, 3, 1, 0] rfl)
  refine hL_4 _ ?_ FU (0 : Int32) (0 : Int32) _ _ _ hm hP hD hS (lv_sub hl [2, 3, 1, 0] rfl)
  intro x2_4 x3_4 H locs ls hm hP hD hS hl
  refine lv_iload_n hx hb dX5_crossing_39 rfl (lv_at hl 0 rfl) ?_
  have hfin := fin _ _ ls _ _ (Option.some.inj hm) dX5_crossing_40 hP hD hS
  exact hfin
set_option maxHeartbeats 0 in
set_option maxRecDepth 100000 in
theorem c_X3_findsCrossing (G : GT) (l : Launch) (q_this : Nat) (f_size : Int32) (q_numbers : Nat) (f_numbers : (Nat → Int32)) (q_p1 : Nat) (p1_units : Int32) (p1_ties : Int32) (p1_digs : Int32) (p1_sights : Int32) (p1_events : Int32) (q_p1_upper : Nat) (q_p1_lower : Nat) (q_p1_digRow : Nat) (q_p1_heldUnit : Nat) (q_p1_heldKind : Nat) (q_p1_seenFirst : Nat) (q_p1_seenSecond : Nat) (q_p1_seenIs : Nat) (q_p1_eventWhat : Nat) (q_p1_eventUnit : Nat) (q_p1_traits : Nat) (p1_traits : (Nat → Int32)) (q_p2 : Nat) (p2_units : Int32) (q_p2_under : Nat) (q_p2_above : Nat) (q_p2_levelRow : Nat) (q_p2_shown : Nat) (q_p2_stepsBack : Nat) (q_p2_reach : Nat) (p2_reach : (Nat → Int32)) {res : (Nat → Int32) × Int32 × Int32} (hm : m_X3_findsCrossing f_numbers f_size p1_traits p2_units p2_reach = some res) : CT G l yX3_findsCrossing cX3_findsCrossing 5 (some .boolean) 3 69 [.ref q_this, .ref q_p1, .ref q_p2] [(q_this, .inr (3, [.ref q_numbers, .int f_size])), (q_numbers, .inl (gI G, 3, .inl f_numbers)), (q_p1, .inr (2, [.int p1_units, .int p1_ties, .int p1_digs, .int p1_sights, .int p1_events, .ref q_p1_traits, .ref q_p1_upper, .ref q_p1_lower, .ref q_p1_digRow, .ref q_p1_heldUnit, .ref q_p1_heldKind, .ref q_p1_seenFirst, .ref q_p1_seenSecond, .ref q_p1_seenIs, .ref q_p1_eventWhat, .ref q_p1_eventUnit])), (q_p1_traits, .inl (gI G, 60, .inl p1_traits)), (q_p2, .inr (5, [.int p2_units, .ref q_p2_under, .ref q_p2_above, .ref q_p2_reach, .ref q_p2_levelRow, .ref q_p2_shown, .ref q_p2_stepsBack])), (q_p2_reach, .inl (gI G, 12, .inl p2_reach))] [(q_this, .inr (3, [.ref q_numbers, .int res.2.1])), (q_numbers, .inl (gI G, 3, .inl res.1)), (q_p1, .inr (2, [.int p1_units, .int p1_ties, .int p1_digs, .int p1_sights, .int p1_events, .ref q_p1_traits, .ref q_p1_upper, .ref q_p1_lower, .ref q_p1_digRow, .ref q_p1_heldUnit, .ref q_p1_heldKind, .ref q_p1_seenFirst, .ref q_p1_seenSecond, .ref q_p1_seenIs, .ref q_p1_eventWhat, .ref q_p1_eventUnit])), (q_p1_traits, .inl (gI G, 60, .inl p1_traits)), (q_p2, .inr (5, [.int p2_units, .ref q_p2_under, .ref q_p2_above, .ref q_p2_reach, .ref q_p2_levelRow, .ref q_p2_shown, .ref q_p2_stepsBack])), (q_p2_reach, .inl (gI G, 12, .inl p2_reach))] (some (.int res.2.2)) := by
  refine ctZ (G := G) (l := l) (y := yX3_findsCrossing) (cc := cX3_findsCrossing) (maxL := 5) (fr := 3) (lo := 69) (As := [.ref q_this, .ref q_p1, .ref q_p2]) (res := res) (fun res : (Nat → Int32) × Int32 × Int32 => [(q_this, .inr (3, [.ref q_numbers, .int res.2.1])), (q_numbers, .inl (gI G, 3, .inl res.1)), (q_p1, .inr (2, [.int p1_units, .int p1_ties, .int p1_digs, .int p1_sights, .int p1_events, .ref q_p1_traits, .ref q_p1_upper, .ref q_p1_lower, .ref q_p1_digRow, .ref q_p1_heldUnit, .ref q_p1_heldKind, .ref q_p1_seenFirst, .ref q_p1_seenSecond, .ref q_p1_seenIs, .ref q_p1_eventWhat, .ref q_p1_eventUnit])), (q_p1_traits, .inl (gI G, 60, .inl p1_traits)), (q_p2, .inr (5, [.int p2_units, .ref q_p2_under, .ref q_p2_above, .ref q_p2_reach, .ref q_p2_levelRow, .ref q_p2_shown, .ref q_p2_stepsBack])), (q_p2_reach, .inl (gI G, 12, .inl p2_reach))]) (fun res : (Nat → Int32) × Int32 × Int32 => res.2.2) (plainFor_of_name (by decide)) (Nat.le_of_ble_eq_true rfl) ?_
  intro p e s m below meth c A ls Q hx hb hml hown hts hK hG hA hP hD hS hl fin
  have hown : s.vm.findClass RX3 = some m.cls := hown
  have hl : lv_has ls 5 [(0, .ref q_this), (1, .ref q_p1), (2, .ref q_p2)] := hl
  unfold m_X3_findsCrossing at hm
  refine lv_aload_n hx hb dX3_findsCrossing_0 rfl (lv_at hl 2 rfl) ?_
  refine lv_aload_n hx hb dX3_findsCrossing_1 rfl (lv_at hl 1 rfl) ?_
  obtain ⟨r_1, h_2, hm⟩ := cl_elim hm
  refine w_callV (As := [.ref q_p1]) (rest := []) (wr := [(q_this, .inr (3, [.ref q_numbers, .int f_size])), (q_numbers, .inl (gI G, 3, .inl f_numbers))]) (W1 := [(q_this, .inr (3, [.ref q_numbers, .int f_size])), (q_numbers, .inl (gI G, 3, .inl f_numbers)), (q_p1, .inr (2, [.int p1_units, .int p1_ties, .int p1_digs, .int p1_sights, .int p1_events, .ref q_p1_traits, .ref q_p1_upper, .ref q_p1_lower, .ref q_p1_digRow, .ref q_p1_heldUnit, .ref q_p1_heldKind, .ref q_p1_seenFirst, .ref q_p1_seenSecond, .ref q_p1_seenIs, .ref q_p1_eventWhat, .ref q_p1_eventUnit])), (q_p1_traits, .inl (gI G, 60, .inl p1_traits)), (q_p2, .inr (5, [.int p2_units, .ref q_p2_under, .ref q_p2_above, .ref q_p2_reach, .ref q_p2_levelRow, .ref q_p2_shown, .ref q_p2_stepsBack])), (q_p2_reach, .inl (gI G, 12, .inl p2_reach))]) (ci := 5) (q0 := 4) hx hb hml hown hts hK hG hP hD hS hA (c_X5_crossing G l q_p2 p2_units q_p2_under q_p2_above q_p2_levelRow q_p2_shown q_p2_stepsBack q_p2_reach p2_reach q_p1 p1_units p1_ties p1_digs p1_sights p1_events q_p1_upper q_p1_lower q_p1_digRow q_p1_heldUnit q_p1_heldKind q_p1_seenFirst q_p1_seenSecond q_p1_seenIs q_p1_eventWhat q_p1_eventUnit q_p1_traits p1_traits h_2) kc_X5_crossing ki_X5_crossing bw568 rfl rfl rfl hl.1 rfl (Nat.le_of_ble_eq_true rfl) dX3_findsCrossing_2 (Nat.le_of_ble_eq_true rfl) (Nat.le_of_ble_eq_true rfl) ⟨Nat.le_refl _, Nat.le_refl _⟩ [4, 5, 2, 3] [0, 1] [0, 1, 4, 5, 2, 3] rfl rfl rfl rfl (by decide) rfl rfl (fun H locs hP hD hS => ?_)
  refine lv_istore_n (lv' := [(3, .int r_1), (0, .ref q_this), (1, .ref q_p1), (2, .ref q_p2)]) hx hb dX3_findsCrossing_5 rfl hl (by decide) rfl (fun ls hl => ?_)
  refine lv_iload_n hx hb dX3_findsCrossing_6 rfl (lv_at hl 0 rfl) ?_
  refine if_ne (tgt := 12) hx hb dX3_findsCrossing_7 (by decide) hm (fun hm => ?_) (fun hm => ?_)
  · refine lv_iload_n hx hb dX3_findsCrossing_12 rfl (lv_at hl 0 rfl) ?_
    obtain ⟨r_3, h_4, hm⟩ := cl_elim hm
    refine w_callN (As := [.int r_1]) (rest := []) (wr := [(q_this, .inr (3, [.ref q_numbers, .int f_size])), (q_numbers, .inl (gI G, 3, .inl f_numbers)), (q_p1, .inr (2, [.int p1_units, .int p1_ties, .int p1_digs, .int p1_sights, .int p1_events, .ref q_p1_traits, .ref q_p1_upper, .ref q_p1_lower, .ref q_p1_digRow, .ref q_p1_heldUnit, .ref q_p1_heldKind, .ref q_p1_seenFirst, .ref q_p1_seenSecond, .ref q_p1_seenIs, .ref q_p1_eventWhat, .ref q_p1_eventUnit])), (q_p1_traits, .inl (gI G, 60, .inl p1_traits)), (q_p2, .inr (5, [.int p2_units, .ref q_p2_under, .ref q_p2_above, .ref q_p2_reach, .ref q_p2_levelRow, .ref q_p2_shown, .ref q_p2_stepsBack])), (q_p2_reach, .inl (gI G, 12, .inl p2_reach))]) (W1 := [(q_this, .inr (3, [.ref q_numbers, .int f_size])), (q_numbers, .inl (gI G, 3, .inl f_numbers)), (q_p1, .inr (2, [.int p1_units, .int p1_ties, .int p1_digs, .int p1_sights, .int p1_events, .ref q_p1_traits, .ref q_p1_upper, .ref q_p1_lower, .ref q_p1_digRow, .ref q_p1_heldUnit, .ref q_p1_heldKind, .ref q_p1_seenFirst, .ref q_p1_seenSecond, .ref q_p1_seenIs, .ref q_p1_eventWhat, .ref q_p1_eventUnit])), (q_p1_traits, .inl (gI G, 60, .inl p1_traits)), (q_p2, .inr (5, [.int p2_units, .ref q_p2_under, .ref q_p2_above, .ref q_p2_reach, .ref q_p2_levelRow, .ref q_p2_shown, .ref q_p2_stepsBack])), (q_p2_reach, .inl (gI G, 12, .inl p2_reach))]) (host := "DigOrder") hx hb hml hown hts hK hG hP hD hS hA (c_X5_leastOf G l r_1 h_4) kc_X5_leastOf ks_X5_leastOf (by decide +kernel) rfl hl.1 rfl (Nat.le_of_ble_eq_true rfl) dX3_findsCrossing_13 (Nat.le_of_ble_eq_true rfl) (Nat.le_of_ble_eq_true rfl) ⟨Nat.le_refl _, Nat.le_refl _⟩ [] [0, 1, 2, 3, 4, 5] [0, 1, 2, 3, 4, 5] rfl rfl rfl rfl (by decide) rfl rfl (fun H locs hP hD hS => ?_)
    refine lv_istore (lv' := [(4, .int r_3), (3, .int r_1), (0, .ref q_this), (1, .ref q_p1), (2, .ref q_p2)]) hx hb dX3_findsCrossing_16 hl (by decide) rfl (fun ls hl => ?_)
    refine lv_aload_n hx hb dX3_findsCrossing_18 rfl (lv_at hl 2 rfl) ?_
    refine lv_iconst (v := 4) hx hb dX3_findsCrossing_19 (by decide) ?_
    refine lv_iload hx hb dX3_findsCrossing_20 (lv_at hl 0 rfl) ?_
    refine lv_aload_n hx hb dX3_findsCrossing_22 rfl (lv_at hl 4 rfl) ?_
    refine lv_aload_n hx hb dX3_findsCrossing_23 rfl (lv_at hl 3 rfl) ?_
    refine lv_iload hx hb dX3_findsCrossing_24 (lv_at hl 0 rfl) ?_
    obtain ⟨r_5, h_6, hm⟩ := cl_elim hm
    refine w_callV (As := [.ref q_p1, .int r_3]) (rest := [.int r_3, .int (4 : Int32), .ref q_this]) (wr := [(q_this, .inr (3, [.ref q_numbers, .int f_size])), (q_numbers, .inl (gI G, 3, .inl f_numbers))]) (W1 := [(q_this, .inr (3, [.ref q_numbers, .int f_size])), (q_numbers, .inl (gI G, 3, .inl f_numbers)), (q_p1, .inr (2, [.int p1_units, .int p1_ties, .int p1_digs, .int p1_sights, .int p1_events, .ref q_p1_traits, .ref q_p1_upper, .ref q_p1_lower, .ref q_p1_digRow, .ref q_p1_heldUnit, .ref q_p1_heldKind, .ref q_p1_seenFirst, .ref q_p1_seenSecond, .ref q_p1_seenIs, .ref q_p1_eventWhat, .ref q_p1_eventUnit])), (q_p1_traits, .inl (gI G, 60, .inl p1_traits)), (q_p2, .inr (5, [.int p2_units, .ref q_p2_under, .ref q_p2_above, .ref q_p2_reach, .ref q_p2_levelRow, .ref q_p2_shown, .ref q_p2_stepsBack])), (q_p2_reach, .inl (gI G, 12, .inl p2_reach))]) (ci := 5) (q0 := 4) hx hb hml hown hts hK hG hP hD hS hA (c_X5_earliest G l q_p2 p2_units q_p2_under q_p2_above q_p2_levelRow q_p2_shown q_p2_stepsBack q_p2_reach p2_reach q_p1 p1_units p1_ties p1_digs p1_sights p1_events q_p1_upper q_p1_lower q_p1_digRow q_p1_heldUnit q_p1_heldKind q_p1_seenFirst q_p1_seenSecond q_p1_seenIs q_p1_eventWhat q_p1_eventUnit q_p1_traits p1_traits r_3 h_6) kc_X5_earliest ki_X5_earliest bw586 rfl rfl rfl hl.1 rfl (Nat.le_of_ble_eq_true rfl) dX3_findsCrossing_26 (Nat.le_of_ble_eq_true rfl) (Nat.le_of_ble_eq_true rfl) ⟨Nat.le_refl _, Nat.le_refl _⟩ [4, 5, 2, 3] [0, 1] [0, 1, 4, 5, 2, 3] rfl rfl rfl rfl (by decide) rfl rfl (fun H locs hP hD hS => ?_)
    refine lv_aload_n hx hb dX3_findsCrossing_29 rfl (lv_at hl 4 rfl) ?_
    refine lv_aload_n hx hb dX3_findsCrossing_30 rfl (lv_at hl 3 rfl) ?_
    refine lv_iload hx hb dX3_findsCrossing_31 (lv_at hl 0 rfl) ?_
    obtain ⟨r_7, h_8, hm⟩ := cl_elim hm
    refine w_callV (As := [.ref q_p1, .int r_3]) (rest := [.int r_5, .int r_3, .int (4 : Int32), .ref q_this]) (wr := [(q_this, .inr (3, [.ref q_numbers, .int f_size])), (q_numbers, .inl (gI G, 3, .inl f_numbers))]) (W1 := [(q_this, .inr (3, [.ref q_numbers, .int f_size])), (q_numbers, .inl (gI G, 3, .inl f_numbers)), (q_p1, .inr (2, [.int p1_units, .int p1_ties, .int p1_digs, .int p1_sights, .int p1_events, .ref q_p1_traits, .ref q_p1_upper, .ref q_p1_lower, .ref q_p1_digRow, .ref q_p1_heldUnit, .ref q_p1_heldKind, .ref q_p1_seenFirst, .ref q_p1_seenSecond, .ref q_p1_seenIs, .ref q_p1_eventWhat, .ref q_p1_eventUnit])), (q_p1_traits, .inl (gI G, 60, .inl p1_traits)), (q_p2, .inr (5, [.int p2_units, .ref q_p2_under, .ref q_p2_above, .ref q_p2_reach, .ref q_p2_levelRow, .ref q_p2_shown, .ref q_p2_stepsBack])), (q_p2_reach, .inl (gI G, 12, .inl p2_reach))]) (ci := 5) (q0 := 4) hx hb hml hown hts hK hG hP hD hS hA (c_X5_latest G l q_p2 p2_units q_p2_under q_p2_above q_p2_levelRow q_p2_shown q_p2_stepsBack q_p2_reach p2_reach q_p1 p1_units p1_ties p1_digs p1_sights p1_events q_p1_upper q_p1_lower q_p1_digRow q_p1_heldUnit q_p1_heldKind q_p1_seenFirst q_p1_seenSecond q_p1_seenIs q_p1_eventWhat q_p1_eventUnit q_p1_traits p1_traits r_3 h_8) kc_X5_latest ki_X5_latest bw587 rfl rfl rfl hl.1 rfl (Nat.le_of_ble_eq_true rfl) dX3_findsCrossing_33 (Nat.le_of_ble_eq_true rfl) (Nat.le_of_ble_eq_true rfl) ⟨Nat.le_refl _, Nat.le_refl _⟩ [4, 5, 2, 3] [0, 1] [0, 1, 4, 5, 2, 3] rfl rfl rfl rfl (by decide) rfl rfl (fun H locs hP hD hS => ?_)
    refine lv_isub hx hb dX3_findsCrossing_36 ?_
    obtain ⟨r_9, h_10, hm⟩ := cl_elim hm
    refine w_callV (As := [.int (4 : Int32), .int r_3, .int (r_5 - r_7)]) (rest := []) (wr := [(q_p1, .inr (2, [.int p1_units, .int p1_ties, .int p1_digs, .int p1_sights, .int p1_events, .ref q_p1_traits, .ref q_p1_upper, .ref q_p1_lower, .ref q_p1_digRow, .ref q_p1_heldUnit, .ref q_p1_heldKind, .ref q_p1_seenFirst, .ref q_p1_seenSecond, .ref q_p1_seenIs, .ref q_p1_eventWhat, .ref q_p1_eventUnit])), (q_p1_traits, .inl (gI G, 60, .inl p1_traits)), (q_p2, .inr (5, [.int p2_units, .ref q_p2_under, .ref q_p2_above, .ref q_p2_reach, .ref q_p2_levelRow, .ref q_p2_shown, .ref q_p2_stepsBack])), (q_p2_reach, .inl (gI G, 12, .inl p2_reach))]) (W1 := [(q_this, .inr (3, [.ref q_numbers, .int r_9.2])), (q_numbers, .inl (gI G, 3, .inl r_9.1)), (q_p1, .inr (2, [.int p1_units, .int p1_ties, .int p1_digs, .int p1_sights, .int p1_events, .ref q_p1_traits, .ref q_p1_upper, .ref q_p1_lower, .ref q_p1_digRow, .ref q_p1_heldUnit, .ref q_p1_heldKind, .ref q_p1_seenFirst, .ref q_p1_seenSecond, .ref q_p1_seenIs, .ref q_p1_eventWhat, .ref q_p1_eventUnit])), (q_p1_traits, .inl (gI G, 60, .inl p1_traits)), (q_p2, .inr (5, [.int p2_units, .ref q_p2_under, .ref q_p2_above, .ref q_p2_reach, .ref q_p2_levelRow, .ref q_p2_shown, .ref q_p2_stepsBack])), (q_p2_reach, .inl (gI G, 12, .inl p2_reach))]) (ci := 3) (q0 := 0) hx hb hml hown hts hK hG hP hD hS hA (c_X3_write G l q_this f_size q_numbers f_numbers (4 : Int32) r_3 (r_5 - r_7) h_10) kc_X3_write ki_X3_write bw531 rfl rfl rfl hl.1 rfl (Nat.le_of_ble_eq_true rfl) dX3_findsCrossing_37 (Nat.le_of_ble_eq_true rfl) (Nat.le_of_ble_eq_true rfl) ⟨Nat.le_refl _, Nat.le_refl _⟩ [0, 1] [2, 3, 4, 5] [4, 5, 0, 1, 2, 3] rfl rfl rfl rfl (by decide) rfl rfl (fun H locs hP hD hS => ?_)
    refine lv_iconst (v := 1) hx hb dX3_findsCrossing_40 (by decide) ?_
    have hfin := fin _ _ ls _ _ (Option.some.inj hm) dX3_findsCrossing_41 (Or.inr rfl) hP hD hS
    exact hfin
  refine lv_iconst (v := 0) hx hb dX3_findsCrossing_10 (by decide) ?_
  have hfin := fin _ _ ls _ _ (Option.some.inj hm) dX3_findsCrossing_11 (Or.inl rfl) hP hD hS
  exact hfin
set_option maxHeartbeats 0 in
set_option maxRecDepth 100000 in
theorem c_X3_examine (G : GT) (l : Launch) (q_this : Nat) (f_size : Int32) (q_numbers : Nat) (f_numbers : (Nat → Int32)) (q_p1 : Nat) (p1_units : Int32) (p1_ties : Int32) (p1_digs : Int32) (p1_sights : Int32) (p1_events : Int32) (q_p1_upper : Nat) (q_p1_lower : Nat) (q_p1_digRow : Nat) (q_p1_heldUnit : Nat) (q_p1_heldKind : Nat) (q_p1_seenFirst : Nat) (q_p1_seenSecond : Nat) (q_p1_seenIs : Nat) (q_p1_eventWhat : Nat) (q_p1_eventUnit : Nat) (q_p1_traits : Nat) (p1_traits : (Nat → Int32)) (q_p2 : Nat) (p2_units : Int32) (q_p2_above : Nat) (q_p2_levelRow : Nat) (q_p2_under : Nat) (p2_under : (Nat → Int32)) (q_p2_reach : Nat) (p2_reach : (Nat → Int32)) (q_p2_shown : Nat) (p2_shown : (Nat → Int32)) (q_p2_stepsBack : Nat) (p2_stepsBack : (Nat → Int32)) {res : (Nat → Int32) × Int32 × (Nat → Int32) × (Nat → Int32)} (hm : m_X3_examine f_numbers f_size p1_units p1_traits p2_units p2_under p2_reach p2_shown p2_stepsBack = some res) : CT G l yX3_examine cX3_examine 4 none 5 119 [.ref q_this, .ref q_p1, .ref q_p2] [(q_this, .inr (3, [.ref q_numbers, .int f_size])), (q_numbers, .inl (gI G, 3, .inl f_numbers)), (q_p1, .inr (2, [.int p1_units, .int p1_ties, .int p1_digs, .int p1_sights, .int p1_events, .ref q_p1_traits, .ref q_p1_upper, .ref q_p1_lower, .ref q_p1_digRow, .ref q_p1_heldUnit, .ref q_p1_heldKind, .ref q_p1_seenFirst, .ref q_p1_seenSecond, .ref q_p1_seenIs, .ref q_p1_eventWhat, .ref q_p1_eventUnit])), (q_p1_traits, .inl (gI G, 60, .inl p1_traits)), (q_p2, .inr (5, [.int p2_units, .ref q_p2_under, .ref q_p2_above, .ref q_p2_reach, .ref q_p2_levelRow, .ref q_p2_shown, .ref q_p2_stepsBack])), (q_p2_under, .inl (gI G, 12, .inl p2_under)), (q_p2_reach, .inl (gI G, 12, .inl p2_reach)), (q_p2_shown, .inl (gI G, 12, .inl p2_shown)), (q_p2_stepsBack, .inl (gI G, 13, .inl p2_stepsBack))] [(q_this, .inr (3, [.ref q_numbers, .int res.2.1])), (q_numbers, .inl (gI G, 3, .inl res.1)), (q_p1, .inr (2, [.int p1_units, .int p1_ties, .int p1_digs, .int p1_sights, .int p1_events, .ref q_p1_traits, .ref q_p1_upper, .ref q_p1_lower, .ref q_p1_digRow, .ref q_p1_heldUnit, .ref q_p1_heldKind, .ref q_p1_seenFirst, .ref q_p1_seenSecond, .ref q_p1_seenIs, .ref q_p1_eventWhat, .ref q_p1_eventUnit])), (q_p1_traits, .inl (gI G, 60, .inl p1_traits)), (q_p2, .inr (5, [.int p2_units, .ref q_p2_under, .ref q_p2_above, .ref q_p2_reach, .ref q_p2_levelRow, .ref q_p2_shown, .ref q_p2_stepsBack])), (q_p2_under, .inl (gI G, 12, .inl p2_under)), (q_p2_reach, .inl (gI G, 12, .inl p2_reach)), (q_p2_shown, .inl (gI G, 12, .inl res.2.2.1)), (q_p2_stepsBack, .inl (gI G, 13, .inl res.2.2.2))] none := by
  refine ctV (G := G) (l := l) (y := yX3_examine) (cc := cX3_examine) (maxL := 4) (fr := 5) (lo := 119) (As := [.ref q_this, .ref q_p1, .ref q_p2]) (res := res) (fun res : (Nat → Int32) × Int32 × (Nat → Int32) × (Nat → Int32) => [(q_this, .inr (3, [.ref q_numbers, .int res.2.1])), (q_numbers, .inl (gI G, 3, .inl res.1)), (q_p1, .inr (2, [.int p1_units, .int p1_ties, .int p1_digs, .int p1_sights, .int p1_events, .ref q_p1_traits, .ref q_p1_upper, .ref q_p1_lower, .ref q_p1_digRow, .ref q_p1_heldUnit, .ref q_p1_heldKind, .ref q_p1_seenFirst, .ref q_p1_seenSecond, .ref q_p1_seenIs, .ref q_p1_eventWhat, .ref q_p1_eventUnit])), (q_p1_traits, .inl (gI G, 60, .inl p1_traits)), (q_p2, .inr (5, [.int p2_units, .ref q_p2_under, .ref q_p2_above, .ref q_p2_reach, .ref q_p2_levelRow, .ref q_p2_shown, .ref q_p2_stepsBack])), (q_p2_under, .inl (gI G, 12, .inl p2_under)), (q_p2_reach, .inl (gI G, 12, .inl p2_reach)), (q_p2_shown, .inl (gI G, 12, .inl res.2.2.1)), (q_p2_stepsBack, .inl (gI G, 13, .inl res.2.2.2))]) (plainFor_of_name (by decide)) (Nat.le_of_ble_eq_true rfl) ?_
  intro p e s m below meth c A ls Q hx hb hml hown hts hK hG hA hP hD hS hl fin
  have hown : s.vm.findClass RX3 = some m.cls := hown
  have hl : lv_has ls 4 [(0, .ref q_this), (1, .ref q_p1), (2, .ref q_p2)] := hl
  unfold m_X3_examine at hm
  refine lv_aload_n hx hb dX3_examine_0 rfl (lv_at hl 0 rfl) ?_
  refine lv_iconst (v := 0) hx hb dX3_examine_1 (by decide) ?_
  refine pf_X3_15 (W1 := [(q_this, .inr (3, [.ref q_numbers, .int (0 : Int32)])), (q_numbers, .inl (gI G, 3, .inl f_numbers)), (q_p1, .inr (2, [.int p1_units, .int p1_ties, .int p1_digs, .int p1_sights, .int p1_events, .ref q_p1_traits, .ref q_p1_upper, .ref q_p1_lower, .ref q_p1_digRow, .ref q_p1_heldUnit, .ref q_p1_heldKind, .ref q_p1_seenFirst, .ref q_p1_seenSecond, .ref q_p1_seenIs, .ref q_p1_eventWhat, .ref q_p1_eventUnit])), (q_p1_traits, .inl (gI G, 60, .inl p1_traits)), (q_p2, .inr (5, [.int p2_units, .ref q_p2_under, .ref q_p2_above, .ref q_p2_reach, .ref q_p2_levelRow, .ref q_p2_shown, .ref q_p2_stepsBack])), (q_p2_under, .inl (gI G, 12, .inl p2_under)), (q_p2_reach, .inl (gI G, 12, .inl p2_reach)), (q_p2_shown, .inl (gI G, 12, .inl p2_shown)), (q_p2_stepsBack, .inl (gI G, 13, .inl p2_stepsBack))]) hx hb hts hown hK hP hD hS 0 rfl (Nat.le_of_ble_eq_true rfl) dX3_examine_2 rfl (fun H locs hP hD hS => ?_)
  refine lv_aload_n hx hb dX3_examine_5 rfl (lv_at hl 2 rfl) ?_
  obtain ⟨r_1, h_2, hm⟩ := cl_elim hm
  refine w_callV (As := []) (rest := []) (wr := [(q_this, .inr (3, [.ref q_numbers, .int (0 : Int32)])), (q_numbers, .inl (gI G, 3, .inl f_numbers)), (q_p1, .inr (2, [.int p1_units, .int p1_ties, .int p1_digs, .int p1_sights, .int p1_events, .ref q_p1_traits, .ref q_p1_upper, .ref q_p1_lower, .ref q_p1_digRow, .ref q_p1_heldUnit, .ref q_p1_heldKind, .ref q_p1_seenFirst, .ref q_p1_seenSecond, .ref q_p1_seenIs, .ref q_p1_eventWhat, .ref q_p1_eventUnit])), (q_p1_traits, .inl (gI G, 60, .inl p1_traits)), (q_p2_under, .inl (gI G, 12, .inl p2_under)), (q_p2_shown, .inl (gI G, 12, .inl p2_shown)), (q_p2_stepsBack, .inl (gI G, 13, .inl p2_stepsBack))]) (W1 := [(q_this, .inr (3, [.ref q_numbers, .int (0 : Int32)])), (q_numbers, .inl (gI G, 3, .inl f_numbers)), (q_p1, .inr (2, [.int p1_units, .int p1_ties, .int p1_digs, .int p1_sights, .int p1_events, .ref q_p1_traits, .ref q_p1_upper, .ref q_p1_lower, .ref q_p1_digRow, .ref q_p1_heldUnit, .ref q_p1_heldKind, .ref q_p1_seenFirst, .ref q_p1_seenSecond, .ref q_p1_seenIs, .ref q_p1_eventWhat, .ref q_p1_eventUnit])), (q_p1_traits, .inl (gI G, 60, .inl p1_traits)), (q_p2, .inr (5, [.int p2_units, .ref q_p2_under, .ref q_p2_above, .ref q_p2_reach, .ref q_p2_levelRow, .ref q_p2_shown, .ref q_p2_stepsBack])), (q_p2_under, .inl (gI G, 12, .inl p2_under)), (q_p2_reach, .inl (gI G, 12, .inl p2_reach)), (q_p2_shown, .inl (gI G, 12, .inl p2_shown)), (q_p2_stepsBack, .inl (gI G, 13, .inl p2_stepsBack))]) (ci := 5) (q0 := 4) hx hb hml hown hts hK hG hP hD hS hA (c_X5_hasCycle G l q_p2 p2_units q_p2_under q_p2_above q_p2_levelRow q_p2_shown q_p2_stepsBack q_p2_reach p2_reach h_2) kc_X5_hasCycle ki_X5_hasCycle bw529 rfl rfl rfl hl.1 rfl (Nat.le_of_ble_eq_true rfl) dX3_examine_6 (Nat.le_of_ble_eq_true rfl) (Nat.le_of_ble_eq_true rfl) ⟨Nat.le_refl _, Nat.le_refl _⟩ [4, 6] [0, 1, 2, 3, 5, 7, 8] [0, 1, 2, 3, 7, 4, 8, 5, 6] rfl rfl rfl rfl (by decide) rfl rfl (fun H locs hP hD hS => ?_)
  refine if_eq (tgt := 30) hx hb dX3_examine_9 (by decide) hm (fun hm => ?_) (fun hm => ?_)
  · refine lv_aload_n hx hb dX3_examine_30 rfl (lv_at hl 0 rfl) ?_
    refine lv_aload_n hx hb dX3_examine_31 rfl (lv_at hl 1 rfl) ?_
    refine lv_aload_n hx hb dX3_examine_32 rfl (lv_at hl 2 rfl) ?_
    obtain ⟨r_3, h_4, hm⟩ := cl_elim hm
    refine w_callV (As := [.ref q_p1, .ref q_p2]) (rest := []) (wr := [(q_p2_shown, .inl (gI G, 12, .inl p2_shown)), (q_p2_stepsBack, .inl (gI G, 13, .inl p2_stepsBack))]) (W1 := [(q_this, .inr (3, [.ref q_numbers, .int r_3.2.1])), (q_numbers, .inl (gI G, 3, .inl r_3.1)), (q_p1, .inr (2, [.int p1_units, .int p1_ties, .int p1_digs, .int p1_sights, .int p1_events, .ref q_p1_traits, .ref q_p1_upper, .ref q_p1_lower, .ref q_p1_digRow, .ref q_p1_heldUnit, .ref q_p1_heldKind, .ref q_p1_seenFirst, .ref q_p1_seenSecond, .ref q_p1_seenIs, .ref q_p1_eventWhat, .ref q_p1_eventUnit])), (q_p1_traits, .inl (gI G, 60, .inl p1_traits)), (q_p2, .inr (5, [.int p2_units, .ref q_p2_under, .ref q_p2_above, .ref q_p2_reach, .ref q_p2_levelRow, .ref q_p2_shown, .ref q_p2_stepsBack])), (q_p2_under, .inl (gI G, 12, .inl p2_under)), (q_p2_reach, .inl (gI G, 12, .inl p2_reach)), (q_p2_shown, .inl (gI G, 12, .inl p2_shown)), (q_p2_stepsBack, .inl (gI G, 13, .inl p2_stepsBack))]) (ci := 3) (q0 := 0) hx hb hml hown hts hK hG hP hD hS hA (c_X3_findsBareFill G l q_this (0 : Int32) q_numbers f_numbers q_p1 p1_units p1_ties p1_digs p1_sights p1_events q_p1_upper q_p1_lower q_p1_digRow q_p1_heldUnit q_p1_heldKind q_p1_seenFirst q_p1_seenSecond q_p1_seenIs q_p1_eventWhat q_p1_eventUnit q_p1_traits p1_traits q_p2 p2_units q_p2_above q_p2_levelRow q_p2_shown q_p2_stepsBack q_p2_under p2_under q_p2_reach p2_reach h_4) kc_X3_findsBareFill ki_X3_findsBareFill bw535 rfl rfl rfl hl.1 rfl (Nat.le_of_ble_eq_true rfl) dX3_examine_33 (Nat.le_of_ble_eq_true rfl) (Nat.le_of_ble_eq_true rfl) ⟨Nat.le_refl _, Nat.le_refl _⟩ [0, 1, 2, 3, 4, 5, 6] [7, 8] [2, 3, 4, 5, 6, 7, 8, 0, 1] rfl rfl rfl rfl (by decide) rfl rfl (fun H locs hP hD hS => ?_)
    refine if_ne (tgt := 57) hx hb dX3_examine_36 (by decide) hm (fun hm => ?_) (fun hm => ?_)
    · have hfin := fin _ _ ls _ _ (Option.some.inj hm) dX3_examine_57 hP hD hS
      exact hfin
    refine lv_aload_n hx hb dX3_examine_39 rfl (lv_at hl 0 rfl) ?_
    refine lv_aload_n hx hb dX3_examine_40 rfl (lv_at hl 1 rfl) ?_
    refine lv_aload_n hx hb dX3_examine_41 rfl (lv_at hl 2 rfl) ?_
    obtain ⟨r_5, h_6, hm⟩ := cl_elim hm
    refine w_callV (As := [.ref q_p1, .ref q_p2]) (rest := []) (wr := [(q_p2_under, .inl (gI G, 12, .inl p2_under)), (q_p2_shown, .inl (gI G, 12, .inl p2_shown)), (q_p2_stepsBack, .inl (gI G, 13, .inl p2_stepsBack))]) (W1 := [(q_this, .inr (3, [.ref q_numbers, .int r_5.2.1])), (q_numbers, .inl (gI G, 3, .inl r_5.1)), (q_p1, .inr (2, [.int p1_units, .int p1_ties, .int p1_digs, .int p1_sights, .int p1_events, .ref q_p1_traits, .ref q_p1_upper, .ref q_p1_lower, .ref q_p1_digRow, .ref q_p1_heldUnit, .ref q_p1_heldKind, .ref q_p1_seenFirst, .ref q_p1_seenSecond, .ref q_p1_seenIs, .ref q_p1_eventWhat, .ref q_p1_eventUnit])), (q_p1_traits, .inl (gI G, 60, .inl p1_traits)), (q_p2, .inr (5, [.int p2_units, .ref q_p2_under, .ref q_p2_above, .ref q_p2_reach, .ref q_p2_levelRow, .ref q_p2_shown, .ref q_p2_stepsBack])), (q_p2_under, .inl (gI G, 12, .inl p2_under)), (q_p2_reach, .inl (gI G, 12, .inl p2_reach)), (q_p2_shown, .inl (gI G, 12, .inl p2_shown)), (q_p2_stepsBack, .inl (gI G, 13, .inl p2_stepsBack))]) (ci := 3) (q0 := 0) hx hb hml hown hts hK hG hP hD hS hA (c_X3_findsMixedPhases G l q_this r_3.2.1 q_numbers r_3.1 q_p1 p1_units p1_ties p1_digs p1_sights p1_events q_p1_upper q_p1_lower q_p1_digRow q_p1_heldUnit q_p1_heldKind q_p1_seenFirst q_p1_seenSecond q_p1_seenIs q_p1_eventWhat q_p1_eventUnit q_p1_traits p1_traits q_p2 p2_units q_p2_under q_p2_above q_p2_levelRow q_p2_shown q_p2_stepsBack q_p2_reach p2_reach h_6) kc_X3_findsMixedPhases ki_X3_findsMixedPhases bw547 rfl rfl rfl hl.1 rfl (Nat.le_of_ble_eq_true rfl) dX3_examine_42 (Nat.le_of_ble_eq_true rfl) (Nat.le_of_ble_eq_true rfl) ⟨Nat.le_refl _, Nat.le_refl _⟩ [0, 1, 2, 3, 4, 6] [5, 7, 8] [3, 4, 5, 6, 7, 0, 8, 1, 2] rfl rfl rfl rfl (by decide) rfl rfl (fun H locs hP hD hS => ?_)
    refine if_ne (tgt := 57) hx hb dX3_examine_45 (by decide) hm (fun hm => ?_) (fun hm => ?_)
    · have hfin := fin _ _ ls _ _ (Option.some.inj hm) dX3_examine_57 hP hD hS
      exact hfin
    refine lv_aload_n hx hb dX3_examine_48 rfl (lv_at hl 0 rfl) ?_
    refine lv_aload_n hx hb dX3_examine_49 rfl (lv_at hl 1 rfl) ?_
    refine lv_aload_n hx hb dX3_examine_50 rfl (lv_at hl 2 rfl) ?_
    obtain ⟨r_7, h_8, hm⟩ := cl_elim hm
    refine w_callV (As := [.ref q_p1, .ref q_p2]) (rest := []) (wr := [(q_p2_under, .inl (gI G, 12, .inl p2_under)), (q_p2_shown, .inl (gI G, 12, .inl p2_shown)), (q_p2_stepsBack, .inl (gI G, 13, .inl p2_stepsBack))]) (W1 := [(q_this, .inr (3, [.ref q_numbers, .int r_7.2.1])), (q_numbers, .inl (gI G, 3, .inl r_7.1)), (q_p1, .inr (2, [.int p1_units, .int p1_ties, .int p1_digs, .int p1_sights, .int p1_events, .ref q_p1_traits, .ref q_p1_upper, .ref q_p1_lower, .ref q_p1_digRow, .ref q_p1_heldUnit, .ref q_p1_heldKind, .ref q_p1_seenFirst, .ref q_p1_seenSecond, .ref q_p1_seenIs, .ref q_p1_eventWhat, .ref q_p1_eventUnit])), (q_p1_traits, .inl (gI G, 60, .inl p1_traits)), (q_p2, .inr (5, [.int p2_units, .ref q_p2_under, .ref q_p2_above, .ref q_p2_reach, .ref q_p2_levelRow, .ref q_p2_shown, .ref q_p2_stepsBack])), (q_p2_under, .inl (gI G, 12, .inl p2_under)), (q_p2_reach, .inl (gI G, 12, .inl p2_reach)), (q_p2_shown, .inl (gI G, 12, .inl p2_shown)), (q_p2_stepsBack, .inl (gI G, 13, .inl p2_stepsBack))]) (ci := 3) (q0 := 0) hx hb hml hown hts hK hG hP hD hS hA (c_X3_findsCrossing G l q_this r_5.2.1 q_numbers r_5.1 q_p1 p1_units p1_ties p1_digs p1_sights p1_events q_p1_upper q_p1_lower q_p1_digRow q_p1_heldUnit q_p1_heldKind q_p1_seenFirst q_p1_seenSecond q_p1_seenIs q_p1_eventWhat q_p1_eventUnit q_p1_traits p1_traits q_p2 p2_units q_p2_under q_p2_above q_p2_levelRow q_p2_shown q_p2_stepsBack q_p2_reach p2_reach h_8) kc_X3_findsCrossing ki_X3_findsCrossing bw564 rfl rfl rfl hl.1 rfl (Nat.le_of_ble_eq_true rfl) dX3_examine_51 (Nat.le_of_ble_eq_true rfl) (Nat.le_of_ble_eq_true rfl) ⟨Nat.le_refl _, Nat.le_refl _⟩ [0, 1, 2, 3, 4, 6] [5, 7, 8] [3, 4, 5, 6, 7, 0, 8, 1, 2] rfl rfl rfl rfl (by decide) rfl rfl (fun H locs hP hD hS => ?_)
    refine if_eq (tgt := 58) hx hb dX3_examine_54 (by decide) hm (fun hm => ?_) (fun hm => ?_)
    · refine lv_aload_n hx hb dX3_examine_58 rfl (lv_at hl 0 rfl) ?_
      refine gf_X3_9 (v := .ref q_numbers) hx hb hts hown hK hP 0 rfl rfl dX3_examine_59 ?_
      refine lv_iconst (v := 0) hx hb dX3_examine_62 (by decide) ?_
      refine lv_iconst (v := 0) hx hb dX3_examine_63 (by decide) ?_
      refine w_iast hx hb hK hP hD hS 1 rfl hm dX3_examine_64 (fun g_9 => [(q_this, .inr (3, [.ref q_numbers, .int r_7.2.1])), (q_numbers, .inl (gI G, 3, .inl g_9)), (q_p1, .inr (2, [.int p1_units, .int p1_ties, .int p1_digs, .int p1_sights, .int p1_events, .ref q_p1_traits, .ref q_p1_upper, .ref q_p1_lower, .ref q_p1_digRow, .ref q_p1_heldUnit, .ref q_p1_heldKind, .ref q_p1_seenFirst, .ref q_p1_seenSecond, .ref q_p1_seenIs, .ref q_p1_eventWhat, .ref q_p1_eventUnit])), (q_p1_traits, .inl (gI G, 60, .inl p1_traits)), (q_p2, .inr (5, [.int p2_units, .ref q_p2_under, .ref q_p2_above, .ref q_p2_reach, .ref q_p2_levelRow, .ref q_p2_shown, .ref q_p2_stepsBack])), (q_p2_under, .inl (gI G, 12, .inl p2_under)), (q_p2_reach, .inl (gI G, 12, .inl p2_reach)), (q_p2_shown, .inl (gI G, 12, .inl p2_shown)), (q_p2_stepsBack, .inl (gI G, 13, .inl p2_stepsBack))]) (fun _ => rfl) (fun g_9 H locs hm hP hD hS => ?_)
      refine lv_aload_n hx hb dX3_examine_65 rfl (lv_at hl 0 rfl) ?_
      refine lv_iconst (v := 1) hx hb dX3_examine_66 (by decide) ?_
      refine pf_X3_15 (W1 := [(q_this, .inr (3, [.ref q_numbers, .int (1 : Int32)])), (q_numbers, .inl (gI G, 3, .inl g_9)), (q_p1, .inr (2, [.int p1_units, .int p1_ties, .int p1_digs, .int p1_sights, .int p1_events, .ref q_p1_traits, .ref q_p1_upper, .ref q_p1_lower, .ref q_p1_digRow, .ref q_p1_heldUnit, .ref q_p1_heldKind, .ref q_p1_seenFirst, .ref q_p1_seenSecond, .ref q_p1_seenIs, .ref q_p1_eventWhat, .ref q_p1_eventUnit])), (q_p1_traits, .inl (gI G, 60, .inl p1_traits)), (q_p2, .inr (5, [.int p2_units, .ref q_p2_under, .ref q_p2_above, .ref q_p2_reach, .ref q_p2_levelRow, .ref q_p2_shown, .ref q_p2_stepsBack])), (q_p2_under, .inl (gI G, 12, .inl p2_under)), (q_p2_reach, .inl (gI G, 12, .inl p2_reach)), (q_p2_shown, .inl (gI G, 12, .inl p2_shown)), (q_p2_stepsBack, .inl (gI G, 13, .inl p2_stepsBack))]) hx hb hts hown hK hP hD hS 0 rfl (Nat.le_of_ble_eq_true rfl) dX3_examine_67 rfl (fun H locs hP hD hS => ?_)
      have hfin := fin _ _ ls _ _ (Option.some.inj hm) dX3_examine_70 hP hD hS
      exact hfin
    have hfin := fin _ _ ls _ _ (Option.some.inj hm) dX3_examine_57 hP hD hS
    exact hfin
  refine lv_aload_n hx hb dX3_examine_12 rfl (lv_at hl 2 rfl) ?_
  obtain ⟨r_10, h_11, hm⟩ := cl_elim hm
  refine w_callV (As := []) (rest := []) (wr := [(q_this, .inr (3, [.ref q_numbers, .int (0 : Int32)])), (q_numbers, .inl (gI G, 3, .inl f_numbers)), (q_p1, .inr (2, [.int p1_units, .int p1_ties, .int p1_digs, .int p1_sights, .int p1_events, .ref q_p1_traits, .ref q_p1_upper, .ref q_p1_lower, .ref q_p1_digRow, .ref q_p1_heldUnit, .ref q_p1_heldKind, .ref q_p1_seenFirst, .ref q_p1_seenSecond, .ref q_p1_seenIs, .ref q_p1_eventWhat, .ref q_p1_eventUnit])), (q_p1_traits, .inl (gI G, 60, .inl p1_traits))]) (W1 := [(q_this, .inr (3, [.ref q_numbers, .int (0 : Int32)])), (q_numbers, .inl (gI G, 3, .inl f_numbers)), (q_p1, .inr (2, [.int p1_units, .int p1_ties, .int p1_digs, .int p1_sights, .int p1_events, .ref q_p1_traits, .ref q_p1_upper, .ref q_p1_lower, .ref q_p1_digRow, .ref q_p1_heldUnit, .ref q_p1_heldKind, .ref q_p1_seenFirst, .ref q_p1_seenSecond, .ref q_p1_seenIs, .ref q_p1_eventWhat, .ref q_p1_eventUnit])), (q_p1_traits, .inl (gI G, 60, .inl p1_traits)), (q_p2, .inr (5, [.int p2_units, .ref q_p2_under, .ref q_p2_above, .ref q_p2_reach, .ref q_p2_levelRow, .ref q_p2_shown, .ref q_p2_stepsBack])), (q_p2_under, .inl (gI G, 12, .inl p2_under)), (q_p2_reach, .inl (gI G, 12, .inl p2_reach)), (q_p2_shown, .inl (gI G, 12, .inl r_10.1)), (q_p2_stepsBack, .inl (gI G, 13, .inl r_10.2.1))]) (ci := 5) (q0 := 4) hx hb hml hown hts hK hG hP hD hS hA (c_X5_showCycle G l q_p2 p2_units q_p2_above q_p2_levelRow q_p2_under p2_under q_p2_reach p2_reach q_p2_shown p2_shown q_p2_stepsBack p2_stepsBack h_11) kc_X5_showCycle ki_X5_showCycle bw530 rfl rfl rfl hl.1 rfl (Nat.le_of_ble_eq_true rfl) dX3_examine_13 (Nat.le_of_ble_eq_true rfl) (Nat.le_of_ble_eq_true rfl) ⟨Nat.le_refl _, Nat.le_refl _⟩ [4, 5, 6, 7, 8] [0, 1, 2, 3] [0, 1, 2, 3, 4, 5, 6, 7, 8] rfl rfl rfl rfl (by decide) rfl rfl (fun H locs hP hD hS => ?_)
  refine lv_istore_n (lv' := [(3, .int r_10.2.2), (0, .ref q_this), (1, .ref q_p1), (2, .ref q_p2)]) hx hb dX3_examine_16 rfl hl (by decide) rfl (fun ls hl => ?_)
  refine lv_aload_n hx hb dX3_examine_17 rfl (lv_at hl 1 rfl) ?_
  refine lv_iconst (v := 1) hx hb dX3_examine_18 (by decide) ?_
  refine lv_aload_n hx hb dX3_examine_19 rfl (lv_at hl 3 rfl) ?_
  refine gf_X3_29 (v := .ref q_p2_shown) hx hb hts hown hK hP 4 rfl rfl dX3_examine_20 ?_
  refine lv_iconst (v := 0) hx hb dX3_examine_23 (by decide) ?_
  refine w_iald hx hb hK hP 7 rfl hm dX3_examine_24 (fun v_12 hm => ?_)
  refine lv_iload_n hx hb dX3_examine_25 rfl (lv_at hl 0 rfl) ?_
  obtain ⟨r_13, h_14, hm⟩ := cl_elim hm
  refine w_callV (As := [.int (1 : Int32), .int v_12, .int r_10.2.2]) (rest := []) (wr := [(q_p1, .inr (2, [.int p1_units, .int p1_ties, .int p1_digs, .int p1_sights, .int p1_events, .ref q_p1_traits, .ref q_p1_upper, .ref q_p1_lower, .ref q_p1_digRow, .ref q_p1_heldUnit, .ref q_p1_heldKind, .ref q_p1_seenFirst, .ref q_p1_seenSecond, .ref q_p1_seenIs, .ref q_p1_eventWhat, .ref q_p1_eventUnit])), (q_p1_traits, .inl (gI G, 60, .inl p1_traits)), (q_p2, .inr (5, [.int p2_units, .ref q_p2_under, .ref q_p2_above, .ref q_p2_reach, .ref q_p2_levelRow, .ref q_p2_shown, .ref q_p2_stepsBack])), (q_p2_under, .inl (gI G, 12, .inl p2_under)), (q_p2_reach, .inl (gI G, 12, .inl p2_reach)), (q_p2_shown, .inl (gI G, 12, .inl r_10.1)), (q_p2_stepsBack, .inl (gI G, 13, .inl r_10.2.1))]) (W1 := [(q_this, .inr (3, [.ref q_numbers, .int r_13.2])), (q_numbers, .inl (gI G, 3, .inl r_13.1)), (q_p1, .inr (2, [.int p1_units, .int p1_ties, .int p1_digs, .int p1_sights, .int p1_events, .ref q_p1_traits, .ref q_p1_upper, .ref q_p1_lower, .ref q_p1_digRow, .ref q_p1_heldUnit, .ref q_p1_heldKind, .ref q_p1_seenFirst, .ref q_p1_seenSecond, .ref q_p1_seenIs, .ref q_p1_eventWhat, .ref q_p1_eventUnit])), (q_p1_traits, .inl (gI G, 60, .inl p1_traits)), (q_p2, .inr (5, [.int p2_units, .ref q_p2_under, .ref q_p2_above, .ref q_p2_reach, .ref q_p2_levelRow, .ref q_p2_shown, .ref q_p2_stepsBack])), (q_p2_under, .inl (gI G, 12, .inl p2_under)), (q_p2_reach, .inl (gI G, 12, .inl p2_reach)), (q_p2_shown, .inl (gI G, 12, .inl r_10.1)), (q_p2_stepsBack, .inl (gI G, 13, .inl r_10.2.1))]) (ci := 3) (q0 := 0) hx hb hml hown hts hK hG hP hD hS hA (c_X3_write G l q_this (0 : Int32) q_numbers f_numbers (1 : Int32) v_12 r_10.2.2 h_14) kc_X3_write ki_X3_write bw531 rfl rfl rfl hl.1 rfl (Nat.le_of_ble_eq_true rfl) dX3_examine_26 (Nat.le_of_ble_eq_true rfl) (Nat.le_of_ble_eq_true rfl) ⟨Nat.le_refl _, Nat.le_refl _⟩ [0, 1] [2, 3, 4, 5, 6, 7, 8] [7, 8, 0, 1, 2, 3, 4, 5, 6] rfl rfl rfl rfl (by decide) rfl rfl (fun H locs hP hD hS => ?_)
  have hfin := fin _ _ ls _ _ (Option.some.inj hm) dX3_examine_29 hP hD hS
  exact hfin
set_option maxHeartbeats 0 in
set_option maxRecDepth 100000 in
theorem c_X4_sumOver (G : GT) (l : Launch) (q_this : Nat) (f_left : Int32) (q_table : Nat) (f_table : (Nat → Int64)) (q_blockers : Nat) (f_blockers : (Nat → Int32)) (a_1 : Int32) {res : Int64} (hm : m_X4_sumOver f_table f_blockers a_1 = some res) : CT G l yX4_sumOver cX4_sumOver 6 (some .long) 0 0 [.ref q_this, .int a_1] [(q_this, .inr (4, [.ref q_table, .ref q_blockers, .int f_left])), (q_table, .inl (gJ G, 4096, .inr (.inl f_table))), (q_blockers, .inl (gI G, 12, .inl f_blockers))] [(q_this, .inr (4, [.ref q_table, .ref q_blockers, .int f_left])), (q_table, .inl (gJ G, 4096, .inr (.inl f_table))), (q_blockers, .inl (gI G, 12, .inl f_blockers))] (some (.long res)) := by
  refine ctJ (G := G) (l := l) (y := yX4_sumOver) (cc := cX4_sumOver) (maxL := 6) (fr := 0) (lo := 0) (As := [.ref q_this, .int a_1]) (res := res) (fun res : Int64 => [(q_this, .inr (4, [.ref q_table, .ref q_blockers, .int f_left])), (q_table, .inl (gJ G, 4096, .inr (.inl f_table))), (q_blockers, .inl (gI G, 12, .inl f_blockers))]) (fun res : Int64 => res) (plainFor_of_name (by decide)) (Nat.le_of_ble_eq_true rfl) ?_
  intro p e s m below meth c A ls Q hx hb hml hown hts hK hG hA hP hD hS hl fin
  have hown : s.vm.findClass RX4 = some m.cls := hown
  have hl : lv_has ls 6 [(0, .ref q_this), (1, .int a_1)] := hl
  unfold m_X4_sumOver at hm
  refine lv_lconst (v := 0) hx hb dX4_sumOver_0 (by decide) ?_
  refine lv_lstore_n (lv' := [(2, .long (0 : Int64)), (0, .ref q_this), (1, .int a_1)]) hx hb dX4_sumOver_1 rfl hl (by decide) rfl (fun ls hl => ?_)
  refine lv_iload_n hx hb dX4_sumOver_2 rfl (lv_at hl 2 rfl) ?_
  refine lv_istore (lv' := [(4, .int a_1), (2, .long (0 : Int64)), (0, .ref q_this), (1, .int a_1)]) hx hb dX4_sumOver_3 hl (by decide) rfl (fun ls hl => ?_)
  refine lv_iconst (v := 0) hx hb dX4_sumOver_5 (by decide) ?_
  refine lv_istore (lv' := [(5, .int (0 : Int32)), (4, .int a_1), (2, .long (0 : Int64)), (0, .ref q_this), (1, .int a_1)]) hx hb dX4_sumOver_6 hl (by decide) rfl (fun ls hl => ?_)
  have hL_8 : ∀ (k_8 : Int64 → Int32 → Int32 → Option Int64), (∀ (x2_8 : Int64) (x4_8 : Int32) (x5_8 : Int32) (H : Heap) (locs : List Loc) (ls : Array Slot), k_8 x2_8 x4_8 x5_8 = some res → va_P (gD G) vwCl [(q_this, .inr (4, [.ref q_table, .ref q_blockers, .int f_left])), (q_table, .inl (gJ G, 4096, .inr (.inl f_table))), (q_blockers, .inl (gI G, 12, .inl f_blockers))] H → va_D A [(q_this, .inr (4, [.ref q_table, .ref q_blockers, .int f_left])), (q_table, .inl (gJ G, 4096, .inr (.inl f_table))), (q_blockers, .inl (gI G, 12, .inl f_blockers))] → va_S A s.heap H locs → lv_has ls 6 [(2, .long x2_8)] → W p l e { frames := 0, cells := 0, slots := 0, locals := 0 } s m ([.ref q_this, .int a_1] : List Value).toArray below meth c H locs 0 0 Q (F0 m 68 ls [])) → ∀ (n_8 : Nat) (x2_8 : Int64) (x4_8 : Int32) (x5_8 : Int32) (H : Heap) (locs : List Loc) (ls : Array Slot), m_X4_sumOver_L8 f_table f_blockers a_1 n_8 x2_8 x4_8 x5_8 k_8 = some res → va_P (gD G) vwCl [(q_this, .inr (4, [.ref q_table, .ref q_blockers, .int f_left])), (q_table, .inl (gJ G, 4096, .inr (.inl f_table))), (q_blockers, .inl (gI G, 12, .inl f_blockers))] H → va_D A [(q_this, .inr (4, [.ref q_table, .ref q_blockers, .int f_left])), (q_table, .inl (gJ G, 4096, .inr (.inl f_table))), (q_blockers, .inl (gI G, 12, .inl f_blockers))] → va_S A s.heap H locs → lv_has ls 6 [(0, .ref q_this), (1, .int a_1), (2, .long x2_8), (4, .int x4_8), (5, .int x5_8)] → W p l e { frames := 0, cells := 0, slots := 0, locals := 0 } s m ([.ref q_this, .int a_1] : List Value).toArray below meth c H locs 0 0 Q (F0 m 8 ls []) := by
    intro k_8 hk_8 n_8
    induction n_8 with
    | zero =>
      intro x2_8 x4_8 x5_8 H locs ls hm
      rw [m_X4_sumOver_L8] at hm
      cases hm
    | succ n_8 ih_8 =>
      intro x2_8 x4_8 x5_8 H locs ls hm hP hD hS hl
      rw [m_X4_sumOver_L8] at hm
      refine lv_iload hx hb dX4_sumOver_8 (lv_at hl 4 rfl) ?_
      refine lv_bipush (v := 12) hx hb dX4_sumOver_10 (by decide) ?_
      refine ic_ge (tgt := 68) hx hb dX4_sumOver_12 (by decide) hm (fun hm => ?_) (fun hm => ?_)
      · exact hk_8 x2_8 x4_8 x5_8 _ _ _ hm hP hD hS (lv_sub hl [2] rfl)
      refine lv_iload hx hb dX4_sumOver_15 (lv_at hl 3 rfl) ?_
      refine if_eq (tgt := 68) hx hb dX4_sumOver_17 (by decide) hm (fun hm => ?_) (fun hm => ?_)
      · exact hk_8 x2_8 x4_8 x5_8 _ _ _ hm hP hD hS (lv_sub hl [2] rfl)
      refine lv_iload hx hb dX4_sumOver_20 (lv_at hl 3 rfl) ?_
      refine lv_iconst (v := 1) hx hb dX4_sumOver_22 (by decide) ?_
      refine lv_iand hx hb dX4_sumOver_23 ?_
      refine lv_iconst (v := 1) hx hb dX4_sumOver_24 (by decide) ?_
      refine ic_ne (tgt := 56) hx hb dX4_sumOver_25 (by decide) hm (fun hm => ?_) (fun hm => ?_)
      · refine lv_iload hx hb dX4_sumOver_56 (lv_at hl 3 rfl) ?_
        refine lv_iconst (v := 1) hx hb dX4_sumOver_58 (by decide) ?_
        refine lv_ishr hx hb dX4_sumOver_59 ?_
        refine nmi hm (fun v_1 hm => ?_)
        refine lv_istore (lv' := [(4, .int v_1), (0, .ref q_this), (1, .int a_1), (2, .long x2_8), (5, .int x5_8)]) hx hb dX4_sumOver_60 hl (by decide) rfl (fun ls hl => ?_)
        refine lv_iinc (v := (x5_8 + (1 : Int32))) (lv' := [(5, .int (x5_8 + (1 : Int32))), (4, .int v_1), (0, .ref q_this), (1, .int a_1), (2, .long x2_8)]) hx hb dX4_sumOver_62 hl (k := 4) rfl rfl (by decide) rfl (fun ls hl => ?_)
        refine lv_goto (tgt := 8) hx hb dX4_sumOver_65 (by decide) ?_
        exact ih_8 x2_8 v_1 (x5_8 + (1 : Int32)) _ _ _ hm hP hD hS (lv_sub hl [2, 3, 4, 1, 0] rfl)
      refine lv_aload_n hx hb dX4_sumOver_28 rfl (lv_at hl 0 rfl) ?_
      refine gf_X4_15 (v := .ref q_blockers) hx hb hts hown hK hP 0 rfl rfl dX4_sumOver_29 ?_
      refine lv_iload hx hb dX4_sumOver_32 (lv_at hl 4 rfl) ?_
      refine w_iald hx hb hK hP 2 rfl hm dX4_sumOver_34 (fun v_2 hm => ?_)
      refine lv_iload_n hx hb dX4_sumOver_35 rfl (lv_at hl 1 rfl) ?_
      refine lv_iand hx hb dX4_sumOver_36 ?_
      refine if_ne (tgt := 56) hx hb dX4_sumOver_37 (by decide) hm (fun hm => ?_) (fun hm => ?_)
      · refine lv_iload hx hb dX4_sumOver_56 (lv_at hl 3 rfl) ?_
        refine lv_iconst (v := 1) hx hb dX4_sumOver_58 (by decide) ?_
        refine lv_ishr hx hb dX4_sumOver_59 ?_
        refine nmi hm (fun v_3 hm => ?_)
        refine lv_istore (lv' := [(4, .int v_3), (0, .ref q_this), (1, .int a_1), (2, .long x2_8), (5, .int x5_8)]) hx hb dX4_sumOver_60 hl (by decide) rfl (fun ls hl => ?_)
        refine lv_iinc (v := (x5_8 + (1 : Int32))) (lv' := [(5, .int (x5_8 + (1 : Int32))), (4, .int v_3), (0, .ref q_this), (1, .int a_1), (2, .long x2_8)]) hx hb dX4_sumOver_62 hl (k := 4) rfl rfl (by decide) rfl (fun ls hl => ?_)
        refine lv_goto (tgt := 8) hx hb dX4_sumOver_65 (by decide) ?_
        exact ih_8 x2_8 v_3 (x5_8 + (1 : Int32)) _ _ _ hm hP hD hS (lv_sub hl [2, 3, 4, 1, 0] rfl)
      refine lv_lload_n hx hb dX4_sumOver_40 rfl (lv_at hl 2 rfl) ?_
      refine lv_aload_n hx hb dX4_sumOver_41 rfl (lv_at hl 0 rfl) ?_
      refine gf_X4_9 (v := .ref q_table) hx hb hts hown hK hP 0 rfl rfl dX4_sumOver_42 ?_
      refine lv_iload_n hx hb dX4_sumOver_45 rfl (lv_at hl 1 rfl) ?_
      refine lv_iconst (v := 1) hx hb dX4_sumOver_46 (by decide) ?_
      refine lv_iload hx hb dX4_sumOver_47 (lv_at hl 4 rfl) ?_
      refine lv_ishl hx hb dX4_sumOver_49 ?_
      refine lv_iconst (v := -1) hx hb dX4_sumOver_50 (by decide) ?_
      refine lv_ixor hx hb dX4_sumOver_51 ?_
      refine lv_iand hx hb dX4_sumOver_52 ?_
      refine w_lald hx hb hK hP 1 rfl hm dX4_sumOver_53 (fun v_4 hm => ?_)
      refine lv_ladd hx hb dX4_sumOver_54 ?_
      refine lv_lstore_n (lv' := [(2, .long (x2_8 + v_4)), (0, .ref q_this), (1, .int a_1), (4, .int x4_8), (5, .int x5_8)]) hx hb dX4_sumOver_55 rfl hl (by decide) rfl (fun ls hl => ?_)
      refine lv_iload hx hb dX4_sumOver_56 (lv_at hl 3 rfl) ?_
      refine lv_iconst (v := 1) hx hb dX4_sumOver_58 (by decide) ?_
      refine lv_ishr hx hb dX4_sumOver_59 ?_
      refine nmi hm (fun v_5 hm => ?_)
      refine lv_istore (lv' := [(4, .int v_5), (2, .long (x2_8 + v_4)), (0, .ref q_this), (1, .int a_1), (5, .int x5_8)]) hx hb dX4_sumOver_60 hl (by decide) rfl (fun ls hl => ?_)
      refine lv_iinc (v := (x5_8 + (1 : Int32))) (lv' := [(5, .int (x5_8 + (1 : Int32))), (4, .int v_5), (2, .long (x2_8 + v_4)), (0, .ref q_this), (1, .int a_1)]) hx hb dX4_sumOver_62 hl (k := 4) rfl rfl (by decide) rfl (fun ls hl => ?_)
      refine lv_goto (tgt := 8) hx hb dX4_sumOver_65 (by decide) ?_
      exact ih_8 (x2_8 + v_4) v_5 (x5_8 + (1 : Int32)) _ _ _ hm hP hD hS (lv_sub hl [3, 4, 2, 1, 0] rfl)
  refine hL_8 _ ?_ FU (0 : Int64) a_1 (0 : Int32) _ _ _ hm hP hD hS (lv_sub hl [3, 4, 2, 1, 0] rfl)
  intro x2_8 x4_8 x5_8 H locs ls hm hP hD hS hl
  refine lv_lload_n hx hb dX4_sumOver_68 rfl (lv_at hl 0 rfl) ?_
  have hfin := fin _ _ ls _ _ (Option.some.inj hm) dX4_sumOver_69 hP hD hS
  exact hfin
set_option maxHeartbeats 0 in
set_option maxRecDepth 100000 in
theorem c_X4_fillTable (G : GT) (l : Launch) (q_this : Nat) (f_left : Int32) (q_table : Nat) (f_table : (Nat → Int64)) (q_blockers : Nat) (f_blockers : (Nat → Int32)) {res : (Nat → Int64)} (hm : m_X4_fillTable f_table f_blockers f_left = some res) : CT G l yX4_fillTable cX4_fillTable 3 none 1 25 [.ref q_this] [(q_this, .inr (4, [.ref q_table, .ref q_blockers, .int f_left])), (q_table, .inl (gJ G, 4096, .inr (.inl f_table))), (q_blockers, .inl (gI G, 12, .inl f_blockers))] [(q_this, .inr (4, [.ref q_table, .ref q_blockers, .int f_left])), (q_table, .inl (gJ G, 4096, .inr (.inl res))), (q_blockers, .inl (gI G, 12, .inl f_blockers))] none := by
  refine ctV (G := G) (l := l) (y := yX4_fillTable) (cc := cX4_fillTable) (maxL := 3) (fr := 1) (lo := 25) (As := [.ref q_this]) (res := res) (fun res : (Nat → Int64) => [(q_this, .inr (4, [.ref q_table, .ref q_blockers, .int f_left])), (q_table, .inl (gJ G, 4096, .inr (.inl res))), (q_blockers, .inl (gI G, 12, .inl f_blockers))]) (plainFor_of_name (by decide)) (Nat.le_of_ble_eq_true rfl) ?_
  intro p e s m below meth c A ls Q hx hb hml hown hts hK hG hA hP hD hS hl fin
  have hown : s.vm.findClass RX4 = some m.cls := hown
  have hl : lv_has ls 3 [(0, .ref q_this)] := hl
  unfold m_X4_fillTable at hm
  refine lv_aload_n hx hb dX4_fillTable_0 rfl (lv_at hl 0 rfl) ?_
  refine gf_X4_9 (v := .ref q_table) hx hb hts hown hK hP 0 rfl rfl dX4_fillTable_1 ?_
  refine lv_iconst (v := 0) hx hb dX4_fillTable_4 (by decide) ?_
  refine lv_lconst (v := 1) hx hb dX4_fillTable_5 (by decide) ?_
  refine w_last hx hb hK hP hD hS 1 rfl hm dX4_fillTable_6 (fun g_1 => [(q_this, .inr (4, [.ref q_table, .ref q_blockers, .int f_left])), (q_table, .inl (gJ G, 4096, .inr (.inl g_1))), (q_blockers, .inl (gI G, 12, .inl f_blockers))]) (fun _ => rfl) (fun g_1 H locs hm hP hD hS => ?_)
  refine lv_iconst (v := 0) hx hb dX4_fillTable_7 (by decide) ?_
  refine lv_istore_n (lv' := [(1, .int (0 : Int32)), (0, .ref q_this)]) hx hb dX4_fillTable_8 rfl hl (by decide) rfl (fun ls hl => ?_)
  refine lv_iconst (v := 0) hx hb dX4_fillTable_9 (by decide) ?_
  refine lv_istore_n (lv' := [(2, .int (0 : Int32)), (1, .int (0 : Int32)), (0, .ref q_this)]) hx hb dX4_fillTable_10 rfl hl (by decide) rfl (fun ls hl => ?_)
  have hL_11 : ∀ (k_11 : Int32 → Int32 → (Nat → Int64) → Option (Nat → Int64)), (∀ (x1_11 : Int32) (x2_11 : Int32) (y_f_table_11 : (Nat → Int64)) (H : Heap) (locs : List Loc) (ls : Array Slot), k_11 x1_11 x2_11 y_f_table_11 = some res → va_P (gD G) vwCl [(q_this, .inr (4, [.ref q_table, .ref q_blockers, .int f_left])), (q_table, .inl (gJ G, 4096, .inr (.inl y_f_table_11))), (q_blockers, .inl (gI G, 12, .inl f_blockers))] H → va_D A [(q_this, .inr (4, [.ref q_table, .ref q_blockers, .int f_left])), (q_table, .inl (gJ G, 4096, .inr (.inl y_f_table_11))), (q_blockers, .inl (gI G, 12, .inl f_blockers))] → va_S A s.heap H locs → lv_has ls 3 [] → W p l e { frames := 1, cells := 0, slots := 0, locals := 25 } s m ([.ref q_this] : List Value).toArray below meth c H locs 0 0 Q (F0 m 57 ls [])) → ∀ (n_11 : Nat) (x1_11 : Int32) (x2_11 : Int32) (y_f_table_11 : (Nat → Int64)) (H : Heap) (locs : List Loc) (ls : Array Slot), m_X4_fillTable_L11 f_left f_blockers n_11 x1_11 x2_11 y_f_table_11 k_11 = some res → va_P (gD G) vwCl [(q_this, .inr (4, [.ref q_table, .ref q_blockers, .int f_left])), (q_table, .inl (gJ G, 4096, .inr (.inl y_f_table_11))), (q_blockers, .inl (gI G, 12, .inl f_blockers))] H → va_D A [(q_this, .inr (4, [.ref q_table, .ref q_blockers, .int f_left])), (q_table, .inl (gJ G, 4096, .inr (.inl y_f_table_11))), (q_blockers, .inl (gI G, 12, .inl f_blockers))] → va_S A s.heap H locs → lv_has ls 3 [(0, .ref q_this), (1, .int x1_11), (2, .int x2_11)] → W p l e { frames := 1, cells := 0, slots := 0, locals := 25 } s m ([.ref q_this] : List Value).toArray below meth c H locs 0 0 Q (F0 m 11 ls []) := by
    intro k_11 hk_11 n_11
    induction n_11 with
    | zero =>
      intro x1_11 x2_11 y_f_table_11 H locs ls hm
      rw [m_X4_fillTable_L11] at hm
      cases hm
    | succ n_11 ih_11 =>
      intro x1_11 x2_11 y_f_table_11 H locs ls hm hP hD hS hl
      rw [m_X4_fillTable_L11] at hm
      refine lv_iload_n hx hb dX4_fillTable_11 rfl (lv_at hl 2 rfl) ?_
      refine lv_aload_n hx hb dX4_fillTable_12 rfl (lv_at hl 0 rfl) ?_
      refine gf_X4_9 (v := .ref q_table) hx hb hts hown hK hP 0 rfl rfl dX4_fillTable_13 ?_
      refine va_alen (D := gD G) (tys := gT G) (v := (Int32.ofNat 4096)) hx hb hK hP 1 1 rfl rfl rfl dX4_fillTable_16 ?_
      refine ic_ge (tgt := 57) hx hb dX4_fillTable_17 (by decide) hm (fun hm => ?_) (fun hm => ?_)
      · exact hk_11 x1_11 x2_11 y_f_table_11 _ _ _ hm hP hD hS (lv_sub hl [] rfl)
      refine lv_iload_n hx hb dX4_fillTable_20 rfl (lv_at hl 1 rfl) ?_
      refine lv_aload_n hx hb dX4_fillTable_21 rfl (lv_at hl 0 rfl) ?_
      refine gf_X4_19 (v := .int f_left) hx hb hts hown hK hP 0 rfl rfl dX4_fillTable_22 ?_
      refine ic_eq (tgt := 57) hx hb dX4_fillTable_25 (by decide) hm (fun hm => ?_) (fun hm => ?_)
      · exact hk_11 x1_11 x2_11 y_f_table_11 _ _ _ hm hP hD hS (lv_sub hl [] rfl)
      refine lv_iload_n hx hb dX4_fillTable_28 rfl (lv_at hl 1 rfl) ?_
      refine lv_aload_n hx hb dX4_fillTable_29 rfl (lv_at hl 0 rfl) ?_
      refine gf_X4_19 (v := .int f_left) hx hb hts hown hK hP 0 rfl rfl dX4_fillTable_30 ?_
      refine lv_isub hx hb dX4_fillTable_33 ?_
      refine lv_aload_n hx hb dX4_fillTable_34 rfl (lv_at hl 0 rfl) ?_
      refine gf_X4_19 (v := .int f_left) hx hb hts hown hK hP 0 rfl rfl dX4_fillTable_35 ?_
      refine lv_iand hx hb dX4_fillTable_38 ?_
      refine nmi hm (fun v_2 hm => ?_)
      refine lv_istore_n (lv' := [(1, .int v_2), (0, .ref q_this), (2, .int x2_11)]) hx hb dX4_fillTable_39 rfl hl (by decide) rfl (fun ls hl => ?_)
      refine lv_aload_n hx hb dX4_fillTable_40 rfl (lv_at hl 1 rfl) ?_
      refine gf_X4_9 (v := .ref q_table) hx hb hts hown hK hP 0 rfl rfl dX4_fillTable_41 ?_
      refine lv_iload_n hx hb dX4_fillTable_44 rfl (lv_at hl 0 rfl) ?_
      refine lv_aload_n hx hb dX4_fillTable_45 rfl (lv_at hl 1 rfl) ?_
      refine lv_iload_n hx hb dX4_fillTable_46 rfl (lv_at hl 0 rfl) ?_
      obtain ⟨r_3, h_4, hm⟩ := cl_elim hm
      refine w_callV (As := [.int v_2]) (rest := [.int v_2, .ref q_table]) (wr := []) (W1 := [(q_this, .inr (4, [.ref q_table, .ref q_blockers, .int f_left])), (q_table, .inl (gJ G, 4096, .inr (.inl y_f_table_11))), (q_blockers, .inl (gI G, 12, .inl f_blockers))]) (ci := 4) (q0 := 0) hx hb hml hown hts hK hG hP hD hS hA (c_X4_sumOver G l q_this f_left q_table y_f_table_11 q_blockers f_blockers v_2 h_4) kc_X4_sumOver ki_X4_sumOver bw686 rfl rfl rfl hl.1 rfl (Nat.le_of_ble_eq_true rfl) dX4_fillTable_47 (Nat.le_of_ble_eq_true rfl) (Nat.le_of_ble_eq_true rfl) ⟨Nat.le_refl _, Nat.le_refl _⟩ [0, 1, 2] [] [0, 1, 2] rfl rfl rfl rfl (by decide) rfl rfl (fun H locs hP hD hS => ?_)
      refine w_last hx hb hK hP hD hS 1 rfl hm dX4_fillTable_50 (fun g_5 => [(q_this, .inr (4, [.ref q_table, .ref q_blockers, .int f_left])), (q_table, .inl (gJ G, 4096, .inr (.inl g_5))), (q_blockers, .inl (gI G, 12, .inl f_blockers))]) (fun _ => rfl) (fun g_5 H locs hm hP hD hS => ?_)
      refine lv_iinc (v := (x2_11 + (1 : Int32))) (lv' := [(2, .int (x2_11 + (1 : Int32))), (1, .int v_2), (0, .ref q_this)]) hx hb dX4_fillTable_51 hl (k := 2) rfl rfl (by decide) rfl (fun ls hl => ?_)
      refine lv_goto (tgt := 11) hx hb dX4_fillTable_54 (by decide) ?_
      exact ih_11 v_2 (x2_11 + (1 : Int32)) g_5 _ _ _ hm hP hD hS (lv_sub hl [2, 1, 0] rfl)
  refine hL_11 _ ?_ FU (0 : Int32) (0 : Int32) g_1 _ _ _ hm hP hD hS (lv_sub hl [2, 1, 0] rfl)
  intro x1_11 x2_11 y_f_table_11 H locs ls hm hP hD hS hl
  have hfin := fin _ _ ls _ _ (Option.some.inj hm) dX4_fillTable_57 hP hD hS
  exact hfin
set_option maxHeartbeats 0 in
set_option maxRecDepth 100000 in
theorem c_X4_number (G : GT) (l : Launch) (q_this : Nat) (f_left : Int32) (q_table : Nat) (f_table : (Nat → Int64)) (q_blockers : Nat) (f_blockers : (Nat → Int32)) (q_p1 : Nat) (p1_row : (Nat → Int32)) (n_p1 : Nat) (a_2 : Int32) {res : (Nat → Int64) × (Nat → Int32) × Int32 × Int64} (hm : m_X4_number f_table f_blockers f_left p1_row n_p1 a_2 = some res) : CT G l yX4_number cX4_number 6 (some .long) 2 47 [.ref q_this, .ref q_p1, .int a_2] [(q_this, .inr (4, [.ref q_table, .ref q_blockers, .int f_left])), (q_table, .inl (gJ G, 4096, .inr (.inl f_table))), (q_blockers, .inl (gI G, 12, .inl f_blockers)), (q_p1, .inl (gI G, n_p1, .inl p1_row))] [(q_this, .inr (4, [.ref q_table, .ref q_blockers, .int res.2.2.1])), (q_table, .inl (gJ G, 4096, .inr (.inl res.1))), (q_blockers, .inl (gI G, 12, .inl res.2.1)), (q_p1, .inl (gI G, n_p1, .inl p1_row))] (some (.long res.2.2.2)) := by
  refine ctJ (G := G) (l := l) (y := yX4_number) (cc := cX4_number) (maxL := 6) (fr := 2) (lo := 47) (As := [.ref q_this, .ref q_p1, .int a_2]) (res := res) (fun res : (Nat → Int64) × (Nat → Int32) × Int32 × Int64 => [(q_this, .inr (4, [.ref q_table, .ref q_blockers, .int res.2.2.1])), (q_table, .inl (gJ G, 4096, .inr (.inl res.1))), (q_blockers, .inl (gI G, 12, .inl res.2.1)), (q_p1, .inl (gI G, n_p1, .inl p1_row))]) (fun res : (Nat → Int64) × (Nat → Int32) × Int32 × Int64 => res.2.2.2) (plainFor_of_name (by decide)) (Nat.le_of_ble_eq_true rfl) ?_
  intro p e s m below meth c A ls Q hx hb hml hown hts hK hG hA hP hD hS hl fin
  have hown : s.vm.findClass RX4 = some m.cls := hown
  have hl : lv_has ls 6 [(0, .ref q_this), (1, .ref q_p1), (2, .int a_2)] := hl
  unfold m_X4_number at hm
  refine lv_aload_n hx hb dX4_number_0 rfl (lv_at hl 0 rfl) ?_
  refine gf_X4_19 (v := .int f_left) hx hb hts hown hK hP 0 rfl rfl dX4_number_1 ?_
  refine lv_iload_n hx hb dX4_number_4 rfl (lv_at hl 2 rfl) ?_
  refine jn_use (P := fun x_13 : (Int32) => ∀ (H : Heap) (locs : List Loc) (ls : Array Slot), va_P (gD G) vwCl [(q_this, .inr (4, [.ref q_table, .ref q_blockers, .int f_left])), (q_table, .inl (gJ G, 4096, .inr (.inl f_table))), (q_blockers, .inl (gI G, 12, .inl f_blockers)), (q_p1, .inl (gI G, n_p1, .inl p1_row))] H → va_D A [(q_this, .inr (4, [.ref q_table, .ref q_blockers, .int f_left])), (q_table, .inl (gJ G, 4096, .inr (.inl f_table))), (q_blockers, .inl (gI G, 12, .inl f_blockers)), (q_p1, .inl (gI G, n_p1, .inl p1_row))] → va_S A s.heap H locs → lv_has ls 6 [(0, .ref q_this), (1, .ref q_p1), (2, .int a_2)] → W p l e { frames := 2, cells := 0, slots := 0, locals := 47 } s m ([.ref q_this, .ref q_p1, .int a_2] : List Value).toArray below meth c H locs 0 0 Q (F0 m 13 ls [.int x_13])) hm (fun x_13 hm => ?_) (fun j_13 hj_13 hm => ?_)
  · intro H locs ls hP hD hS hl
    refine lv_istore_n (lv' := [(3, .int x_13), (0, .ref q_this), (1, .ref q_p1), (2, .int a_2)]) hx hb dX4_number_13 rfl hl (by decide) rfl (fun ls hl => ?_)
    refine lv_aload_n hx hb dX4_number_14 rfl (lv_at hl 1 rfl) ?_
    refine lv_iload_n hx hb dX4_number_15 rfl (lv_at hl 3 rfl) ?_
    refine pf_X4_19 (W1 := [(q_this, .inr (4, [.ref q_table, .ref q_blockers, .int a_2])), (q_table, .inl (gJ G, 4096, .inr (.inl f_table))), (q_blockers, .inl (gI G, 12, .inl f_blockers)), (q_p1, .inl (gI G, n_p1, .inl p1_row))]) hx hb hts hown hK hP hD hS 0 rfl (Nat.le_of_ble_eq_true rfl) dX4_number_16 rfl (fun H locs hP hD hS => ?_)
    refine lv_iconst (v := 0) hx hb dX4_number_19 (by decide) ?_
    refine lv_istore (lv' := [(4, .int (0 : Int32)), (3, .int x_13), (0, .ref q_this), (1, .ref q_p1), (2, .int a_2)]) hx hb dX4_number_20 hl (by decide) rfl (fun ls hl => ?_)
    have hL_22 : ∀ (k_22 : Int32 → Int32 → (Nat → Int32) → Option ((Nat → Int64) × (Nat → Int32) × Int32 × Int64)), (∀ (x3_22 : Int32) (x4_22 : Int32) (y_f_blockers_22 : (Nat → Int32)) (H : Heap) (locs : List Loc) (ls : Array Slot), k_22 x3_22 x4_22 y_f_blockers_22 = some res → va_P (gD G) vwCl [(q_this, .inr (4, [.ref q_table, .ref q_blockers, .int a_2])), (q_table, .inl (gJ G, 4096, .inr (.inl f_table))), (q_blockers, .inl (gI G, 12, .inl y_f_blockers_22)), (q_p1, .inl (gI G, n_p1, .inl p1_row))] H → va_D A [(q_this, .inr (4, [.ref q_table, .ref q_blockers, .int a_2])), (q_table, .inl (gJ G, 4096, .inr (.inl f_table))), (q_blockers, .inl (gI G, 12, .inl y_f_blockers_22)), (q_p1, .inl (gI G, n_p1, .inl p1_row))] → va_S A s.heap H locs → lv_has ls 6 [(0, .ref q_this), (3, .int x3_22)] → W p l e { frames := 2, cells := 0, slots := 0, locals := 47 } s m ([.ref q_this, .ref q_p1, .int a_2] : List Value).toArray below meth c H locs 0 0 Q (F0 m 87 ls [])) → ∀ (n_22 : Nat) (x3_22 : Int32) (x4_22 : Int32) (y_f_blockers_22 : (Nat → Int32)) (H : Heap) (locs : List Loc) (ls : Array Slot), m_X4_number_L22 p1_row n_p1 a_2 n_22 x3_22 x4_22 y_f_blockers_22 k_22 = some res → va_P (gD G) vwCl [(q_this, .inr (4, [.ref q_table, .ref q_blockers, .int a_2])), (q_table, .inl (gJ G, 4096, .inr (.inl f_table))), (q_blockers, .inl (gI G, 12, .inl y_f_blockers_22)), (q_p1, .inl (gI G, n_p1, .inl p1_row))] H → va_D A [(q_this, .inr (4, [.ref q_table, .ref q_blockers, .int a_2])), (q_table, .inl (gJ G, 4096, .inr (.inl f_table))), (q_blockers, .inl (gI G, 12, .inl y_f_blockers_22)), (q_p1, .inl (gI G, n_p1, .inl p1_row))] → va_S A s.heap H locs → lv_has ls 6 [(0, .ref q_this), (1, .ref q_p1), (2, .int a_2), (3, .int x3_22), (4, .int x4_22)] → W p l e { frames := 2, cells := 0, slots := 0, locals := 47 } s m ([.ref q_this, .ref q_p1, .int a_2] : List Value).toArray below meth c H locs 0 0 Q (F0 m 22 ls []) := by
      intro k_22 hk_22 n_22
      induction n_22 with
      | zero =>
        intro x3_22 x4_22 y_f_blockers_22 H locs ls hm
        rw [m_X4_number_L22] at hm
        cases hm
      | succ n_22 ih_22 =>
        intro x3_22 x4_22 y_f_blockers_22 H locs ls hm hP hD hS hl
        rw [m_X4_number_L22] at hm
        refine lv_iload hx hb dX4_number_22 (lv_at hl 4 rfl) ?_
        refine lv_bipush (v := 12) hx hb dX4_number_24 (by decide) ?_
        refine ic_ge (tgt := 87) hx hb dX4_number_26 (by decide) hm (fun hm => ?_) (fun hm => ?_)
        · exact hk_22 x3_22 x4_22 y_f_blockers_22 _ _ _ hm hP hD hS (lv_sub hl [0, 3] rfl)
        refine lv_iload_n hx hb dX4_number_29 rfl (lv_at hl 2 rfl) ?_
        refine lv_iload hx hb dX4_number_30 (lv_at hl 4 rfl) ?_
        obtain ⟨r_1, h_2, hm⟩ := cl_elim hm
        refine w_callN (As := [.int a_2, .int x4_22]) (rest := []) (wr := [(q_this, .inr (4, [.ref q_table, .ref q_blockers, .int a_2])), (q_table, .inl (gJ G, 4096, .inr (.inl f_table))), (q_blockers, .inl (gI G, 12, .inl y_f_blockers_22)), (q_p1, .inl (gI G, n_p1, .inl p1_row))]) (W1 := [(q_this, .inr (4, [.ref q_table, .ref q_blockers, .int a_2])), (q_table, .inl (gJ G, 4096, .inr (.inl f_table))), (q_blockers, .inl (gI G, 12, .inl y_f_blockers_22)), (q_p1, .inl (gI G, n_p1, .inl p1_row))]) (host := "DigOrder") hx hb hml hown hts hK hG hP hD hS hA (c_X7_hasBit G l a_2 x4_22 h_2) kc_X7_hasBit ks_X7_hasBit (by decide +kernel) rfl hl.1 rfl (Nat.le_of_ble_eq_true rfl) dX4_number_32 (Nat.le_of_ble_eq_true rfl) (Nat.le_of_ble_eq_true rfl) ⟨Nat.le_refl _, Nat.le_refl _⟩ [] [0, 1, 2, 3] [0, 1, 2, 3] rfl rfl rfl rfl (by decide) rfl rfl (fun H locs hP hD hS => ?_)
        refine if_eq (tgt := 47) hx hb dX4_number_35 (by decide) hm (fun hm => ?_) (fun hm => ?_)
        · refine lv_iconst (v := 0) hx hb dX4_number_47 (by decide) ?_
          refine lv_istore (lv' := [(5, .int (0 : Int32)), (0, .ref q_this), (1, .ref q_p1), (2, .int a_2), (3, .int x3_22), (4, .int x4_22)]) hx hb dX4_number_48 hl (by decide) rfl (fun ls hl => ?_)
          refine lv_iload_n hx hb dX4_number_50 rfl (lv_at hl 4 rfl) ?_
          refine if_eq (tgt := 70) hx hb dX4_number_51 (by decide) hm (fun hm => ?_) (fun hm => ?_)
          · refine lv_iconst (v := 0) hx hb dX4_number_70 (by decide) ?_
            refine lv_istore_n (lv' := [(3, .int (0 : Int32)), (5, .int (0 : Int32)), (0, .ref q_this), (1, .ref q_p1), (2, .int a_2), (4, .int x4_22)]) hx hb dX4_number_71 rfl hl (by decide) rfl (fun ls hl => ?_)
            refine lv_aload_n hx hb dX4_number_72 rfl (lv_at hl 2 rfl) ?_
            refine gf_X4_15 (v := .ref q_blockers) hx hb hts hown hK hP 0 rfl rfl dX4_number_73 ?_
            refine lv_iload hx hb dX4_number_76 (lv_at hl 5 rfl) ?_
            refine lv_iload hx hb dX4_number_78 (lv_at hl 1 rfl) ?_
            refine w_iast hx hb hK hP hD hS 2 rfl hm dX4_number_80 (fun g_3 => [(q_this, .inr (4, [.ref q_table, .ref q_blockers, .int a_2])), (q_table, .inl (gJ G, 4096, .inr (.inl f_table))), (q_blockers, .inl (gI G, 12, .inl g_3)), (q_p1, .inl (gI G, n_p1, .inl p1_row))]) (fun _ => rfl) (fun g_3 H locs hm hP hD hS => ?_)
            refine lv_iinc (v := (x4_22 + (1 : Int32))) (lv' := [(4, .int (x4_22 + (1 : Int32))), (3, .int (0 : Int32)), (5, .int (0 : Int32)), (0, .ref q_this), (1, .ref q_p1), (2, .int a_2)]) hx hb dX4_number_81 hl (k := 5) rfl rfl (by decide) rfl (fun ls hl => ?_)
            refine lv_goto (tgt := 22) hx hb dX4_number_84 (by decide) ?_
            exact ih_22 (0 : Int32) (x4_22 + (1 : Int32)) g_3 _ _ _ hm hP hD hS (lv_sub hl [3, 4, 5, 1, 0] rfl)
          refine lv_aload_n hx hb dX4_number_54 rfl (lv_at hl 1 rfl) ?_
          refine gf_X4_15 (v := .ref q_blockers) hx hb hts hown hK hP 0 rfl rfl dX4_number_55 ?_
          refine lv_iload hx hb dX4_number_58 (lv_at hl 5 rfl) ?_
          refine w_iald hx hb hK hP 2 rfl hm dX4_number_60 (fun v_4 hm => ?_)
          refine lv_iload hx hb dX4_number_61 (lv_at hl 0 rfl) ?_
          refine ic_ne (tgt := 70) hx hb dX4_number_63 (by decide) hm (fun hm => ?_) (fun hm => ?_)
          · refine lv_iconst (v := 0) hx hb dX4_number_70 (by decide) ?_
            refine lv_istore_n (lv' := [(3, .int (0 : Int32)), (5, .int (0 : Int32)), (0, .ref q_this), (1, .ref q_p1), (2, .int a_2), (4, .int x4_22)]) hx hb dX4_number_71 rfl hl (by decide) rfl (fun ls hl => ?_)
            refine lv_aload_n hx hb dX4_number_72 rfl (lv_at hl 2 rfl) ?_
            refine gf_X4_15 (v := .ref q_blockers) hx hb hts hown hK hP 0 rfl rfl dX4_number_73 ?_
            refine lv_iload hx hb dX4_number_76 (lv_at hl 5 rfl) ?_
            refine lv_iload hx hb dX4_number_78 (lv_at hl 1 rfl) ?_
            refine w_iast hx hb hK hP hD hS 2 rfl hm dX4_number_80 (fun g_5 => [(q_this, .inr (4, [.ref q_table, .ref q_blockers, .int a_2])), (q_table, .inl (gJ G, 4096, .inr (.inl f_table))), (q_blockers, .inl (gI G, 12, .inl g_5)), (q_p1, .inl (gI G, n_p1, .inl p1_row))]) (fun _ => rfl) (fun g_5 H locs hm hP hD hS => ?_)
            refine lv_iinc (v := (x4_22 + (1 : Int32))) (lv' := [(4, .int (x4_22 + (1 : Int32))), (3, .int (0 : Int32)), (5, .int (0 : Int32)), (0, .ref q_this), (1, .ref q_p1), (2, .int a_2)]) hx hb dX4_number_81 hl (k := 5) rfl rfl (by decide) rfl (fun ls hl => ?_)
            refine lv_goto (tgt := 22) hx hb dX4_number_84 (by decide) ?_
            exact ih_22 (0 : Int32) (x4_22 + (1 : Int32)) g_5 _ _ _ hm hP hD hS (lv_sub hl [3, 4, 5, 1, 0] rfl)
          refine lv_iconst (v := 1) hx hb dX4_number_66 (by decide) ?_
          refine lv_goto (tgt := 71) hx hb dX4_number_67 (by decide) ?_
          refine lv_istore_n (lv' := [(3, .int (1 : Int32)), (5, .int (0 : Int32)), (0, .ref q_this), (1, .ref q_p1), (2, .int a_2), (4, .int x4_22)]) hx hb dX4_number_71 rfl hl (by decide) rfl (fun ls hl => ?_)
          refine lv_aload_n hx hb dX4_number_72 rfl (lv_at hl 2 rfl) ?_
          refine gf_X4_15 (v := .ref q_blockers) hx hb hts hown hK hP 0 rfl rfl dX4_number_73 ?_
          refine lv_iload hx hb dX4_number_76 (lv_at hl 5 rfl) ?_
          refine lv_iload hx hb dX4_number_78 (lv_at hl 1 rfl) ?_
          refine w_iast hx hb hK hP hD hS 2 rfl hm dX4_number_80 (fun g_6 => [(q_this, .inr (4, [.ref q_table, .ref q_blockers, .int a_2])), (q_table, .inl (gJ G, 4096, .inr (.inl f_table))), (q_blockers, .inl (gI G, 12, .inl g_6)), (q_p1, .inl (gI G, n_p1, .inl p1_row))]) (fun _ => rfl) (fun g_6 H locs hm hP hD hS => ?_)
          refine lv_iinc (v := (x4_22 + (1 : Int32))) (lv' := [(4, .int (x4_22 + (1 : Int32))), (3, .int (1 : Int32)), (5, .int (0 : Int32)), (0, .ref q_this), (1, .ref q_p1), (2, .int a_2)]) hx hb dX4_number_81 hl (k := 5) rfl rfl (by decide) rfl (fun ls hl => ?_)
          refine lv_goto (tgt := 22) hx hb dX4_number_84 (by decide) ?_
          exact ih_22 (1 : Int32) (x4_22 + (1 : Int32)) g_6 _ _ _ hm hP hD hS (lv_sub hl [3, 4, 5, 1, 0] rfl)
        refine lv_aload_n hx hb dX4_number_38 rfl (lv_at hl 1 rfl) ?_
        refine lv_iload hx hb dX4_number_39 (lv_at hl 4 rfl) ?_
        refine w_iald hx hb hK hP 3 rfl hm dX4_number_41 (fun v_7 hm => ?_)
        refine lv_iload_n hx hb dX4_number_42 rfl (lv_at hl 2 rfl) ?_
        refine lv_iand hx hb dX4_number_43 ?_
        refine lv_goto (tgt := 48) hx hb dX4_number_44 (by decide) ?_
        refine lv_istore (lv' := [(5, .int (v_7 &&& a_2)), (0, .ref q_this), (1, .ref q_p1), (2, .int a_2), (3, .int x3_22), (4, .int x4_22)]) hx hb dX4_number_48 hl (by decide) rfl (fun ls hl => ?_)
        refine lv_iload_n hx hb dX4_number_50 rfl (lv_at hl 4 rfl) ?_
        refine if_eq (tgt := 70) hx hb dX4_number_51 (by decide) hm (fun hm => ?_) (fun hm => ?_)
        · refine lv_iconst (v := 0) hx hb dX4_number_70 (by decide) ?_
          refine lv_istore_n (lv' := [(3, .int (0 : Int32)), (5, .int (v_7 &&& a_2)), (0, .ref q_this), (1, .ref q_p1), (2, .int a_2), (4, .int x4_22)]) hx hb dX4_number_71 rfl hl (by decide) rfl (fun ls hl => ?_)
          refine lv_aload_n hx hb dX4_number_72 rfl (lv_at hl 2 rfl) ?_
          refine gf_X4_15 (v := .ref q_blockers) hx hb hts hown hK hP 0 rfl rfl dX4_number_73 ?_
          refine lv_iload hx hb dX4_number_76 (lv_at hl 5 rfl) ?_
          refine lv_iload hx hb dX4_number_78 (lv_at hl 1 rfl) ?_
          refine w_iast hx hb hK hP hD hS 2 rfl hm dX4_number_80 (fun g_8 => [(q_this, .inr (4, [.ref q_table, .ref q_blockers, .int a_2])), (q_table, .inl (gJ G, 4096, .inr (.inl f_table))), (q_blockers, .inl (gI G, 12, .inl g_8)), (q_p1, .inl (gI G, n_p1, .inl p1_row))]) (fun _ => rfl) (fun g_8 H locs hm hP hD hS => ?_)
          refine lv_iinc (v := (x4_22 + (1 : Int32))) (lv' := [(4, .int (x4_22 + (1 : Int32))), (3, .int (0 : Int32)), (5, .int (v_7 &&& a_2)), (0, .ref q_this), (1, .ref q_p1), (2, .int a_2)]) hx hb dX4_number_81 hl (k := 5) rfl rfl (by decide) rfl (fun ls hl => ?_)
          refine lv_goto (tgt := 22) hx hb dX4_number_84 (by decide) ?_
          exact ih_22 (0 : Int32) (x4_22 + (1 : Int32)) g_8 _ _ _ hm hP hD hS (lv_sub hl [3, 4, 5, 1, 0] rfl)
        refine lv_aload_n hx hb dX4_number_54 rfl (lv_at hl 1 rfl) ?_
        refine gf_X4_15 (v := .ref q_blockers) hx hb hts hown hK hP 0 rfl rfl dX4_number_55 ?_
        refine lv_iload hx hb dX4_number_58 (lv_at hl 5 rfl) ?_
        refine w_iald hx hb hK hP 2 rfl hm dX4_number_60 (fun v_9 hm => ?_)
        refine lv_iload hx hb dX4_number_61 (lv_at hl 0 rfl) ?_
        refine ic_ne (tgt := 70) hx hb dX4_number_63 (by decide) hm (fun hm => ?_) (fun hm => ?_)
        · refine lv_iconst (v := 0) hx hb dX4_number_70 (by decide) ?_
          refine lv_istore_n (lv' := [(3, .int (0 : Int32)), (5, .int (v_7 &&& a_2)), (0, .ref q_this), (1, .ref q_p1), (2, .int a_2), (4, .int x4_22)]) hx hb dX4_number_71 rfl hl (by decide) rfl (fun ls hl => ?_)
          refine lv_aload_n hx hb dX4_number_72 rfl (lv_at hl 2 rfl) ?_
          refine gf_X4_15 (v := .ref q_blockers) hx hb hts hown hK hP 0 rfl rfl dX4_number_73 ?_
          refine lv_iload hx hb dX4_number_76 (lv_at hl 5 rfl) ?_
          refine lv_iload hx hb dX4_number_78 (lv_at hl 1 rfl) ?_
          refine w_iast hx hb hK hP hD hS 2 rfl hm dX4_number_80 (fun g_10 => [(q_this, .inr (4, [.ref q_table, .ref q_blockers, .int a_2])), (q_table, .inl (gJ G, 4096, .inr (.inl f_table))), (q_blockers, .inl (gI G, 12, .inl g_10)), (q_p1, .inl (gI G, n_p1, .inl p1_row))]) (fun _ => rfl) (fun g_10 H locs hm hP hD hS => ?_)
          refine lv_iinc (v := (x4_22 + (1 : Int32))) (lv' := [(4, .int (x4_22 + (1 : Int32))), (3, .int (0 : Int32)), (5, .int (v_7 &&& a_2)), (0, .ref q_this), (1, .ref q_p1), (2, .int a_2)]) hx hb dX4_number_81 hl (k := 5) rfl rfl (by decide) rfl (fun ls hl => ?_)
          refine lv_goto (tgt := 22) hx hb dX4_number_84 (by decide) ?_
          exact ih_22 (0 : Int32) (x4_22 + (1 : Int32)) g_10 _ _ _ hm hP hD hS (lv_sub hl [3, 4, 5, 1, 0] rfl)
        refine lv_iconst (v := 1) hx hb dX4_number_66 (by decide) ?_
        refine lv_goto (tgt := 71) hx hb dX4_number_67 (by decide) ?_
        refine lv_istore_n (lv' := [(3, .int (1 : Int32)), (5, .int (v_7 &&& a_2)), (0, .ref q_this), (1, .ref q_p1), (2, .int a_2), (4, .int x4_22)]) hx hb dX4_number_71 rfl hl (by decide) rfl (fun ls hl => ?_)
        refine lv_aload_n hx hb dX4_number_72 rfl (lv_at hl 2 rfl) ?_
        refine gf_X4_15 (v := .ref q_blockers) hx hb hts hown hK hP 0 rfl rfl dX4_number_73 ?_
        refine lv_iload hx hb dX4_number_76 (lv_at hl 5 rfl) ?_
        refine lv_iload hx hb dX4_number_78 (lv_at hl 1 rfl) ?_
        refine w_iast hx hb hK hP hD hS 2 rfl hm dX4_number_80 (fun g_11 => [(q_this, .inr (4, [.ref q_table, .ref q_blockers, .int a_2])), (q_table, .inl (gJ G, 4096, .inr (.inl f_table))), (q_blockers, .inl (gI G, 12, .inl g_11)), (q_p1, .inl (gI G, n_p1, .inl p1_row))]) (fun _ => rfl) (fun g_11 H locs hm hP hD hS => ?_)
        refine lv_iinc (v := (x4_22 + (1 : Int32))) (lv' := [(4, .int (x4_22 + (1 : Int32))), (3, .int (1 : Int32)), (5, .int (v_7 &&& a_2)), (0, .ref q_this), (1, .ref q_p1), (2, .int a_2)]) hx hb dX4_number_81 hl (k := 5) rfl rfl (by decide) rfl (fun ls hl => ?_)
        refine lv_goto (tgt := 22) hx hb dX4_number_84 (by decide) ?_
        exact ih_22 (1 : Int32) (x4_22 + (1 : Int32)) g_11 _ _ _ hm hP hD hS (lv_sub hl [3, 4, 5, 1, 0] rfl)
    refine hL_22 _ ?_ FU x_13 (0 : Int32) f_blockers _ _ _ hm hP hD hS (lv_sub hl [2, 3, 4, 1, 0] rfl)
    intro x3_22 x4_22 y_f_blockers_22 H locs ls hm hP hD hS hl
    refine lv_iload_n hx hb dX4_number_87 rfl (lv_at hl 1 rfl) ?_
    refine if_ne (tgt := 95) hx hb dX4_number_88 (by decide) hm (fun hm => ?_) (fun hm => ?_)
    · refine lv_aload_n hx hb dX4_number_95 rfl (lv_at hl 0 rfl) ?_
      refine gf_X4_9 (v := .ref q_table) hx hb hts hown hK hP 0 rfl rfl dX4_number_96 ?_
      refine lv_aload_n hx hb dX4_number_99 rfl (lv_at hl 0 rfl) ?_
      refine gf_X4_19 (v := .int a_2) hx hb hts hown hK hP 0 rfl rfl dX4_number_100 ?_
      refine w_lald hx hb hK hP 1 rfl hm dX4_number_103 (fun v_12 hm => ?_)
      have hfin := fin _ _ ls _ _ (Option.some.inj hm) dX4_number_104 hP hD hS
      exact hfin
    refine lv_aload_n hx hb dX4_number_91 rfl (lv_at hl 0 rfl) ?_
    obtain ⟨r_13, h_14, hm⟩ := cl_elim hm
    refine w_callV (As := []) (rest := []) (wr := [(q_p1, .inl (gI G, n_p1, .inl p1_row))]) (W1 := [(q_this, .inr (4, [.ref q_table, .ref q_blockers, .int a_2])), (q_table, .inl (gJ G, 4096, .inr (.inl r_13))), (q_blockers, .inl (gI G, 12, .inl y_f_blockers_22)), (q_p1, .inl (gI G, n_p1, .inl p1_row))]) (ci := 4) (q0 := 0) hx hb hml hown hts hK hG hP hD hS hA (c_X4_fillTable G l q_this a_2 q_table f_table q_blockers y_f_blockers_22 h_14) kc_X4_fillTable ki_X4_fillTable bw682 rfl rfl rfl hl.1 rfl (Nat.le_of_ble_eq_true rfl) dX4_number_92 (Nat.le_of_ble_eq_true rfl) (Nat.le_of_ble_eq_true rfl) ⟨Nat.le_refl _, Nat.le_refl _⟩ [0, 1, 2] [3] [1, 2, 3, 0] rfl rfl rfl rfl (by decide) rfl rfl (fun H locs hP hD hS => ?_)
    refine lv_aload_n hx hb dX4_number_95 rfl (lv_at hl 0 rfl) ?_
    refine gf_X4_9 (v := .ref q_table) hx hb hts hown hK hP 0 rfl rfl dX4_number_96 ?_
    refine lv_aload_n hx hb dX4_number_99 rfl (lv_at hl 0 rfl) ?_
    refine gf_X4_19 (v := .int a_2) hx hb hts hown hK hP 0 rfl rfl dX4_number_100 ?_
    refine w_lald hx hb hK hP 1 rfl hm dX4_number_103 (fun v_15 hm => ?_)
    have hfin := fin _ _ ls _ _ (Option.some.inj hm) dX4_number_104 hP hD hS
    exact hfin
  refine ic_ne (tgt := 12) hx hb dX4_number_5 (by decide) hm (fun hm => ?_) (fun hm => ?_)
  · refine lv_iconst (v := 0) hx hb dX4_number_12 (by decide) ?_
    exact hj_13 (0 : Int32) hm _ _ _ hP hD hS hl
  refine lv_iconst (v := 1) hx hb dX4_number_8 (by decide) ?_
  refine lv_goto (tgt := 13) hx hb dX4_number_9 (by decide) ?_
  exact hj_13 (1 : Int32) hm _ _ _ hP hD hS hl
set_option maxHeartbeats 0 in
set_option maxRecDepth 100000 in
theorem c_X4_isFree (G : GT) (l : Launch) (q_this : Nat) (q_table : Nat) (f_left : Int32) (q_blockers : Nat) (f_blockers : (Nat → Int32)) (a_1 : Int32) (a_2 : Int32) {res : Int32} (hm : m_X4_isFree f_blockers a_1 a_2 = some res) : CT G l yX4_isFree cX4_isFree 3 (some .boolean) 1 21 [.ref q_this, .int a_1, .int a_2] [(q_this, .inr (4, [.ref q_table, .ref q_blockers, .int f_left])), (q_blockers, .inl (gI G, 12, .inl f_blockers))] [(q_this, .inr (4, [.ref q_table, .ref q_blockers, .int f_left])), (q_blockers, .inl (gI G, 12, .inl f_blockers))] (some (.int res)) := by
  refine ctZ (G := G) (l := l) (y := yX4_isFree) (cc := cX4_isFree) (maxL := 3) (fr := 1) (lo := 21) (As := [.ref q_this, .int a_1, .int a_2]) (res := res) (fun res : Int32 => [(q_this, .inr (4, [.ref q_table, .ref q_blockers, .int f_left])), (q_blockers, .inl (gI G, 12, .inl f_blockers))]) (fun res : Int32 => res) (plainFor_of_name (by decide)) (Nat.le_of_ble_eq_true rfl) ?_
  intro p e s m below meth c A ls Q hx hb hml hown hts hK hG hA hP hD hS hl fin
  have hown : s.vm.findClass RX4 = some m.cls := hown
  have hl : lv_has ls 3 [(0, .ref q_this), (1, .int a_1), (2, .int a_2)] := hl
  unfold m_X4_isFree at hm
  refine lv_iload_n hx hb dX4_isFree_0 rfl (lv_at hl 1 rfl) ?_
  refine lv_iload_n hx hb dX4_isFree_1 rfl (lv_at hl 2 rfl) ?_
  obtain ⟨r_1, h_2, hm⟩ := cl_elim hm
  refine w_callN (As := [.int a_1, .int a_2]) (rest := []) (wr := [(q_this, .inr (4, [.ref q_table, .ref q_blockers, .int f_left])), (q_blockers, .inl (gI G, 12, .inl f_blockers))]) (W1 := [(q_this, .inr (4, [.ref q_table, .ref q_blockers, .int f_left])), (q_blockers, .inl (gI G, 12, .inl f_blockers))]) (host := "DigOrder") hx hb hml hown hts hK hG hP hD hS hA (c_X7_hasBit G l a_1 a_2 h_2) kc_X7_hasBit ks_X7_hasBit (by decide +kernel) rfl hl.1 rfl (Nat.le_of_ble_eq_true rfl) dX4_isFree_2 (Nat.le_of_ble_eq_true rfl) (Nat.le_of_ble_eq_true rfl) ⟨Nat.le_refl _, Nat.le_refl _⟩ [] [0, 1] [0, 1] rfl rfl rfl rfl (by decide) rfl rfl (fun H locs hP hD hS => ?_)
  refine if_eq (tgt := 23) hx hb dX4_isFree_5 (by decide) hm (fun hm => ?_) (fun hm => ?_)
  · refine lv_iconst (v := 0) hx hb dX4_isFree_23 (by decide) ?_
    have hfin := fin _ _ ls _ _ (Option.some.inj hm) dX4_isFree_24 (Or.inl rfl) hP hD hS
    exact hfin
  refine lv_aload_n hx hb dX4_isFree_8 rfl (lv_at hl 0 rfl) ?_
  refine gf_X4_15 (v := .ref q_blockers) hx hb hts hown hK hP 0 rfl rfl dX4_isFree_9 ?_
  refine lv_iload_n hx hb dX4_isFree_12 rfl (lv_at hl 2 rfl) ?_
  refine w_iald hx hb hK hP 1 rfl hm dX4_isFree_13 (fun v_3 hm => ?_)
  refine lv_iload_n hx hb dX4_isFree_14 rfl (lv_at hl 1 rfl) ?_
  refine lv_iand hx hb dX4_isFree_15 ?_
  refine if_ne (tgt := 23) hx hb dX4_isFree_16 (by decide) hm (fun hm => ?_) (fun hm => ?_)
  · refine lv_iconst (v := 0) hx hb dX4_isFree_23 (by decide) ?_
    have hfin := fin _ _ ls _ _ (Option.some.inj hm) dX4_isFree_24 (Or.inl rfl) hP hD hS
    exact hfin
  refine lv_iconst (v := 1) hx hb dX4_isFree_19 (by decide) ?_
  refine lv_goto (tgt := 24) hx hb dX4_isFree_20 (by decide) ?_
  have hfin := fin _ _ ls _ _ (Option.some.inj hm) dX4_isFree_24 (Or.inr rfl) hP hD hS
  exact hfin
set_option maxHeartbeats 0 in
set_option maxRecDepth 100000 in
theorem c_X4_unitOfOrder (G : GT) (l : Launch) (q_this : Nat) (f_left : Int32) (q_table : Nat) (f_table : (Nat → Int64)) (q_blockers : Nat) (f_blockers : (Nat → Int32)) (a_1 : Int64) (a_2 : Int32) {res : Int32} (hm : m_X4_unitOfOrder f_table f_blockers f_left a_1 a_2 = some res) : CT G l yX4_unitOfOrder cX4_unitOfOrder 12 (some .int) 2 43 [.ref q_this, .long a_1, .int a_2] [(q_this, .inr (4, [.ref q_table, .ref q_blockers, .int f_left])), (q_table, .inl (gJ G, 4096, .inr (.inl f_table))), (q_blockers, .inl (gI G, 12, .inl f_blockers))] [(q_this, .inr (4, [.ref q_table, .ref q_blockers, .int f_left])), (q_table, .inl (gJ G, 4096, .inr (.inl f_table))), (q_blockers, .inl (gI G, 12, .inl f_blockers))] (some (.int res)) := by
  refine ctI (G := G) (l := l) (y := yX4_unitOfOrder) (cc := cX4_unitOfOrder) (maxL := 12) (fr := 2) (lo := 43) (As := [.ref q_this, .long a_1, .int a_2]) (res := res) (fun res : Int32 => [(q_this, .inr (4, [.ref q_table, .ref q_blockers, .int f_left])), (q_table, .inl (gJ G, 4096, .inr (.inl f_table))), (q_blockers, .inl (gI G, 12, .inl f_blockers))]) (fun res : Int32 => res) (plainFor_of_name (by decide)) (Nat.le_of_ble_eq_true rfl) ?_
  intro p e s m below meth c A ls Q hx hb hml hown hts hK hG hA hP hD hS hl fin
  have hown : s.vm.findClass RX4 = some m.cls := hown
  have hl : lv_has ls 12 [(0, .ref q_this), (1, .long a_1), (3, .int a_2)] := hl
  unfold m_X4_unitOfOrder at hm
  refine lv_lload_n hx hb dX4_unitOfOrder_0 rfl (lv_at hl 1 rfl) ?_
  refine lv_lstore (lv' := [(4, .long a_1), (0, .ref q_this), (1, .long a_1), (3, .int a_2)]) hx hb dX4_unitOfOrder_1 hl (by decide) rfl (fun ls hl => ?_)
  refine lv_aload_n hx hb dX4_unitOfOrder_3 rfl (lv_at hl 1 rfl) ?_
  refine gf_X4_19 (v := .int f_left) hx hb hts hown hK hP 0 rfl rfl dX4_unitOfOrder_4 ?_
  refine lv_istore (lv' := [(6, .int f_left), (4, .long a_1), (0, .ref q_this), (1, .long a_1), (3, .int a_2)]) hx hb dX4_unitOfOrder_7 hl (by decide) rfl (fun ls hl => ?_)
  refine lv_iconst (v := -1) hx hb dX4_unitOfOrder_9 (by decide) ?_
  refine lv_istore (lv' := [(7, .int (-1 : Int32)), (6, .int f_left), (4, .long a_1), (0, .ref q_this), (1, .long a_1), (3, .int a_2)]) hx hb dX4_unitOfOrder_10 hl (by decide) rfl (fun ls hl => ?_)
  refine lv_iconst (v := 0) hx hb dX4_unitOfOrder_12 (by decide) ?_
  refine lv_istore (lv' := [(8, .int (0 : Int32)), (7, .int (-1 : Int32)), (6, .int f_left), (4, .long a_1), (0, .ref q_this), (1, .long a_1), (3, .int a_2)]) hx hb dX4_unitOfOrder_13 hl (by decide) rfl (fun ls hl => ?_)
  have hL_15 : ∀ (k_15 : Int64 → Int32 → Int32 → Int32 → Option Int32), (∀ (x4_15 : Int64) (x6_15 : Int32) (x7_15 : Int32) (x8_15 : Int32) (H : Heap) (locs : List Loc) (ls : Array Slot), k_15 x4_15 x6_15 x7_15 x8_15 = some res → va_P (gD G) vwCl [(q_this, .inr (4, [.ref q_table, .ref q_blockers, .int f_left])), (q_table, .inl (gJ G, 4096, .inr (.inl f_table))), (q_blockers, .inl (gI G, 12, .inl f_blockers))] H → va_D A [(q_this, .inr (4, [.ref q_table, .ref q_blockers, .int f_left])), (q_table, .inl (gJ G, 4096, .inr (.inl f_table))), (q_blockers, .inl (gI G, 12, .inl f_blockers))] → va_S A s.heap H locs → lv_has ls 12 [(7, .int x7_15)] → W p l e { frames := 2, cells := 0, slots := 0, locals := 43 } s m ([.ref q_this, .long a_1, .int a_2] : List Value).toArray below meth c H locs 0 0 Q (F0 m 120 ls [])) → ∀ (n_15 : Nat) (x4_15 : Int64) (x6_15 : Int32) (x7_15 : Int32) (x8_15 : Int32) (H : Heap) (locs : List Loc) (ls : Array Slot), m_X4_unitOfOrder_L15 f_table f_blockers a_2 n_15 x4_15 x6_15 x7_15 x8_15 k_15 = some res → va_P (gD G) vwCl [(q_this, .inr (4, [.ref q_table, .ref q_blockers, .int f_left])), (q_table, .inl (gJ G, 4096, .inr (.inl f_table))), (q_blockers, .inl (gI G, 12, .inl f_blockers))] H → va_D A [(q_this, .inr (4, [.ref q_table, .ref q_blockers, .int f_left])), (q_table, .inl (gJ G, 4096, .inr (.inl f_table))), (q_blockers, .inl (gI G, 12, .inl f_blockers))] → va_S A s.heap H locs → lv_has ls 12 [(0, .ref q_this), (3, .int a_2), (4, .long x4_15), (6, .int x6_15), (7, .int x7_15), (8, .int x8_15)] → W p l e { frames := 2, cells := 0, slots := 0, locals := 43 } s m ([.ref q_this, .long a_1, .int a_2] : List Value).toArray below meth c H locs 0 0 Q (F0 m 15 ls []) := by
    intro k_15 hk_15 n_15
    induction n_15 with
    | zero =>
      intro x4_15 x6_15 x7_15 x8_15 H locs ls hm
      rw [m_X4_unitOfOrder_L15] at hm
      cases hm
    | succ n_15 ih_15 =>
      intro x4_15 x6_15 x7_15 x8_15 H locs ls hm hP hD hS hl
      rw [m_X4_unitOfOrder_L15] at hm
      refine lv_iload hx hb dX4_unitOfOrder_15 (lv_at hl 5 rfl) ?_
      refine lv_iload_n hx hb dX4_unitOfOrder_17 rfl (lv_at hl 1 rfl) ?_
      refine ic_gt (tgt := 120) hx hb dX4_unitOfOrder_18 (by decide) hm (fun hm => ?_) (fun hm => ?_)
      · exact hk_15 x4_15 x6_15 x7_15 x8_15 _ _ _ hm hP hD hS (lv_sub hl [4] rfl)
      refine lv_iconst (v := -1) hx hb dX4_unitOfOrder_21 (by decide) ?_
      refine lv_istore (lv' := [(7, .int (-1 : Int32)), (0, .ref q_this), (3, .int a_2), (4, .long x4_15), (6, .int x6_15), (8, .int x8_15)]) hx hb dX4_unitOfOrder_22 hl (by decide) rfl (fun ls hl => ?_)
      refine lv_iconst (v := 0) hx hb dX4_unitOfOrder_24 (by decide) ?_
      refine lv_istore (lv' := [(9, .int (0 : Int32)), (7, .int (-1 : Int32)), (0, .ref q_this), (3, .int a_2), (4, .long x4_15), (6, .int x6_15), (8, .int x8_15)]) hx hb dX4_unitOfOrder_25 hl (by decide) rfl (fun ls hl => ?_)
      have hL_27 : ∀ (k_27 : Int64 → Int32 → Int32 → Option Int32), (∀ (x4_27 : Int64) (x7_27 : Int32) (x9_27 : Int32) (H : Heap) (locs : List Loc) (ls : Array Slot), k_27 x4_27 x7_27 x9_27 = some res → va_P (gD G) vwCl [(q_this, .inr (4, [.ref q_table, .ref q_blockers, .int f_left])), (q_table, .inl (gJ G, 4096, .inr (.inl f_table))), (q_blockers, .inl (gI G, 12, .inl f_blockers))] H → va_D A [(q_this, .inr (4, [.ref q_table, .ref q_blockers, .int f_left])), (q_table, .inl (gJ G, 4096, .inr (.inl f_table))), (q_blockers, .inl (gI G, 12, .inl f_blockers))] → va_S A s.heap H locs → lv_has ls 12 [(0, .ref q_this), (3, .int a_2), (4, .long x4_27), (6, .int x6_15), (7, .int x7_27), (8, .int x8_15)] → W p l e { frames := 2, cells := 0, slots := 0, locals := 43 } s m ([.ref q_this, .long a_1, .int a_2] : List Value).toArray below meth c H locs 0 0 Q (F0 m 95 ls [])) → ∀ (n_27 : Nat) (x4_27 : Int64) (x7_27 : Int32) (x9_27 : Int32) (H : Heap) (locs : List Loc) (ls : Array Slot), m_X4_unitOfOrder_L27 f_table f_blockers x6_15 n_27 x4_27 x7_27 x9_27 k_27 = some res → va_P (gD G) vwCl [(q_this, .inr (4, [.ref q_table, .ref q_blockers, .int f_left])), (q_table, .inl (gJ G, 4096, .inr (.inl f_table))), (q_blockers, .inl (gI G, 12, .inl f_blockers))] H → va_D A [(q_this, .inr (4, [.ref q_table, .ref q_blockers, .int f_left])), (q_table, .inl (gJ G, 4096, .inr (.inl f_table))), (q_blockers, .inl (gI G, 12, .inl f_blockers))] → va_S A s.heap H locs → lv_has ls 12 [(0, .ref q_this), (3, .int a_2), (4, .long x4_27), (6, .int x6_15), (7, .int x7_27), (8, .int x8_15), (9, .int x9_27)] → W p l e { frames := 2, cells := 0, slots := 0, locals := 43 } s m ([.ref q_this, .long a_1, .int a_2] : List Value).toArray below meth c H locs 0 0 Q (F0 m 27 ls []) := by
        intro k_27 hk_27 n_27
        induction n_27 with
        | zero =>
          intro x4_27 x7_27 x9_27 H locs ls hm
          rw [m_X4_unitOfOrder_L27] at hm
          cases hm
        | succ n_27 ih_27 =>
          intro x4_27 x7_27 x9_27 H locs ls hm hP hD hS hl
          rw [m_X4_unitOfOrder_L27] at hm
          refine lv_iload hx hb dX4_unitOfOrder_27 (lv_at hl 6 rfl) ?_
          refine lv_bipush (v := 12) hx hb dX4_unitOfOrder_29 (by decide) ?_
          refine ic_ge (tgt := 95) hx hb dX4_unitOfOrder_31 (by decide) hm (fun hm => ?_) (fun hm => ?_)
          · exact hk_27 x4_27 x7_27 x9_27 _ _ _ hm hP hD hS (lv_sub hl [0, 1, 2, 3, 4, 5] rfl)
          refine lv_iload hx hb dX4_unitOfOrder_34 (lv_at hl 4 rfl) ?_
          refine lv_iconst (v := -1) hx hb dX4_unitOfOrder_36 (by decide) ?_
          refine ic_ne (tgt := 95) hx hb dX4_unitOfOrder_37 (by decide) hm (fun hm => ?_) (fun hm => ?_)
          · exact hk_27 x4_27 x7_27 x9_27 _ _ _ hm hP hD hS (lv_sub hl [0, 1, 2, 3, 4, 5] rfl)
          refine lv_aload_n hx hb dX4_unitOfOrder_40 rfl (lv_at hl 0 rfl) ?_
          refine lv_iload hx hb dX4_unitOfOrder_41 (lv_at hl 3 rfl) ?_
          refine lv_iload hx hb dX4_unitOfOrder_43 (lv_at hl 6 rfl) ?_
          obtain ⟨r_1, h_2, hm⟩ := cl_elim hm
          refine w_callV (As := [.int x6_15, .int x9_27]) (rest := []) (wr := [(q_table, .inl (gJ G, 4096, .inr (.inl f_table)))]) (W1 := [(q_this, .inr (4, [.ref q_table, .ref q_blockers, .int f_left])), (q_table, .inl (gJ G, 4096, .inr (.inl f_table))), (q_blockers, .inl (gI G, 12, .inl f_blockers))]) (ci := 4) (q0 := 0) hx hb hml hown hts hK hG hP hD hS hA (c_X4_isFree G l q_this q_table f_left q_blockers f_blockers x6_15 x9_27 h_2) kc_X4_isFree ki_X4_isFree bw698 rfl rfl rfl hl.1 rfl (Nat.le_of_ble_eq_true rfl) dX4_unitOfOrder_45 (Nat.le_of_ble_eq_true rfl) (Nat.le_of_ble_eq_true rfl) ⟨Nat.le_refl _, Nat.le_refl _⟩ [0, 2] [1] [1, 0, 2] rfl rfl rfl rfl (by decide) rfl rfl (fun H locs hP hD hS => ?_)
          refine if_eq (tgt := 89) hx hb dX4_unitOfOrder_48 (by decide) hm (fun hm => ?_) (fun hm => ?_)
          · refine lv_iinc (v := (x9_27 + (1 : Int32))) (lv' := [(9, .int (x9_27 + (1 : Int32))), (0, .ref q_this), (3, .int a_2), (4, .long x4_27), (6, .int x6_15), (7, .int x7_27), (8, .int x8_15)]) hx hb dX4_unitOfOrder_89 hl (k := 6) rfl rfl (by decide) rfl (fun ls hl => ?_)
            refine lv_goto (tgt := 27) hx hb dX4_unitOfOrder_92 (by decide) ?_
            exact ih_27 x4_27 x7_27 (x9_27 + (1 : Int32)) _ _ _ hm hP hD hS (lv_sub hl [1, 2, 3, 4, 5, 6, 0] rfl)
          refine lv_aload_n hx hb dX4_unitOfOrder_51 rfl (lv_at hl 0 rfl) ?_
          refine gf_X4_9 (v := .ref q_table) hx hb hts hown hK hP 0 rfl rfl dX4_unitOfOrder_52 ?_
          refine lv_iload hx hb dX4_unitOfOrder_55 (lv_at hl 3 rfl) ?_
          refine lv_iconst (v := 1) hx hb dX4_unitOfOrder_57 (by decide) ?_
          refine lv_iload hx hb dX4_unitOfOrder_58 (lv_at hl 6 rfl) ?_
          refine lv_ishl hx hb dX4_unitOfOrder_60 ?_
          refine lv_iconst (v := -1) hx hb dX4_unitOfOrder_61 (by decide) ?_
          refine lv_ixor hx hb dX4_unitOfOrder_62 ?_
          refine lv_iand hx hb dX4_unitOfOrder_63 ?_
          refine w_lald hx hb hK hP 1 rfl hm dX4_unitOfOrder_64 (fun v_3 hm => ?_)
          refine lv_lstore (lv' := [(10, .long v_3), (0, .ref q_this), (3, .int a_2), (4, .long x4_27), (6, .int x6_15), (7, .int x7_27), (8, .int x8_15), (9, .int x9_27)]) hx hb dX4_unitOfOrder_65 hl (by decide) rfl (fun ls hl => ?_)
          refine lv_lload hx hb dX4_unitOfOrder_67 (lv_at hl 3 rfl) ?_
          refine lv_lload hx hb dX4_unitOfOrder_69 (lv_at hl 0 rfl) ?_
          refine W.lcmp hx hb dX4_unitOfOrder_71 ?_
          refine if_ge (tgt := 82) hx hb dX4_unitOfOrder_72 (by decide) hm (fun hm => ?_) (fun hm => ?_)
          · refine lv_lload hx hb dX4_unitOfOrder_82 (lv_at hl 3 rfl) ?_
            refine lv_lload hx hb dX4_unitOfOrder_84 (lv_at hl 0 rfl) ?_
            refine lv_lsub hx hb dX4_unitOfOrder_86 ?_
            refine lv_lstore (lv' := [(4, .long (x4_27 - v_3)), (10, .long v_3), (0, .ref q_this), (3, .int a_2), (6, .int x6_15), (7, .int x7_27), (8, .int x8_15), (9, .int x9_27)]) hx hb dX4_unitOfOrder_87 hl (by decide) rfl (fun ls hl => ?_)
            refine lv_iinc (v := (x9_27 + (1 : Int32))) (lv' := [(9, .int (x9_27 + (1 : Int32))), (4, .long (x4_27 - v_3)), (10, .long v_3), (0, .ref q_this), (3, .int a_2), (6, .int x6_15), (7, .int x7_27), (8, .int x8_15)]) hx hb dX4_unitOfOrder_89 hl (k := 7) rfl rfl (by decide) rfl (fun ls hl => ?_)
            refine lv_goto (tgt := 27) hx hb dX4_unitOfOrder_92 (by decide) ?_
            exact ih_27 (x4_27 - v_3) x7_27 (x9_27 + (1 : Int32)) _ _ _ hm hP hD hS (lv_sub hl [3, 4, 1, 5, 6, 7, 0] rfl)
          refine lv_iload hx hb dX4_unitOfOrder_75 (lv_at hl 7 rfl) ?_
          refine lv_istore (lv' := [(7, .int x9_27), (10, .long v_3), (0, .ref q_this), (3, .int a_2), (4, .long x4_27), (6, .int x6_15), (8, .int x8_15), (9, .int x9_27)]) hx hb dX4_unitOfOrder_77 hl (by decide) rfl (fun ls hl => ?_)
          refine lv_goto (tgt := 89) hx hb dX4_unitOfOrder_79 (by decide) ?_
          refine lv_iinc (v := (x9_27 + (1 : Int32))) (lv' := [(9, .int (x9_27 + (1 : Int32))), (7, .int x9_27), (10, .long v_3), (0, .ref q_this), (3, .int a_2), (4, .long x4_27), (6, .int x6_15), (8, .int x8_15)]) hx hb dX4_unitOfOrder_89 hl (k := 7) rfl rfl (by decide) rfl (fun ls hl => ?_)
          refine lv_goto (tgt := 27) hx hb dX4_unitOfOrder_92 (by decide) ?_
          exact ih_27 x4_27 x9_27 (x9_27 + (1 : Int32)) _ _ _ hm hP hD hS (lv_sub hl [3, 4, 5, 6, 1, 7, 0] rfl)
      refine hL_27 _ ?_ FU x4_15 (-1 : Int32) (0 : Int32) _ _ _ hm hP hD hS (lv_sub hl [2, 3, 4, 5, 1, 6, 0] rfl)
      intro x4_27 x7_27 x9_27 H locs ls hm hP hD hS hl
      refine lv_iload hx hb dX4_unitOfOrder_95 (lv_at hl 4 rfl) ?_
      refine lv_iconst (v := -1) hx hb dX4_unitOfOrder_97 (by decide) ?_
      refine ic_ne (tgt := 103) hx hb dX4_unitOfOrder_98 (by decide) hm (fun hm => ?_) (fun hm => ?_)
      · refine lv_iload hx hb dX4_unitOfOrder_103 (lv_at hl 3 rfl) ?_
        refine lv_iconst (v := 1) hx hb dX4_unitOfOrder_105 (by decide) ?_
        refine lv_iload hx hb dX4_unitOfOrder_106 (lv_at hl 4 rfl) ?_
        refine lv_ishl hx hb dX4_unitOfOrder_108 ?_
        refine lv_iconst (v := -1) hx hb dX4_unitOfOrder_109 (by decide) ?_
        refine lv_ixor hx hb dX4_unitOfOrder_110 ?_
        refine lv_iand hx hb dX4_unitOfOrder_111 ?_
        refine nmi hm (fun v_4 hm => ?_)
        refine lv_istore (lv' := [(6, .int v_4), (0, .ref q_this), (3, .int a_2), (4, .long x4_27), (7, .int x7_27), (8, .int x8_15)]) hx hb dX4_unitOfOrder_112 hl (by decide) rfl (fun ls hl => ?_)
        refine lv_iinc (v := (x8_15 + (1 : Int32))) (lv' := [(8, .int (x8_15 + (1 : Int32))), (6, .int v_4), (0, .ref q_this), (3, .int a_2), (4, .long x4_27), (7, .int x7_27)]) hx hb dX4_unitOfOrder_114 hl (k := 5) rfl rfl (by decide) rfl (fun ls hl => ?_)
        refine lv_goto (tgt := 15) hx hb dX4_unitOfOrder_117 (by decide) ?_
        exact ih_15 x4_27 v_4 x7_27 (x8_15 + (1 : Int32)) _ _ _ hm hP hD hS (lv_sub hl [2, 3, 4, 1, 5, 0] rfl)
      refine lv_iconst (v := -1) hx hb dX4_unitOfOrder_101 (by decide) ?_
      have hfin := fin _ _ ls _ _ (Option.some.inj hm) dX4_unitOfOrder_102 hP hD hS
      exact hfin
  refine hL_15 _ ?_ FU a_1 f_left (-1 : Int32) (0 : Int32) _ _ _ hm hP hD hS (lv_sub hl [4, 6, 3, 2, 1, 0] rfl)
  intro x4_15 x6_15 x7_15 x8_15 H locs ls hm hP hD hS hl
  refine lv_iload hx hb dX4_unitOfOrder_120 (lv_at hl 0 rfl) ?_
  have hfin := fin _ _ ls _ _ (Option.some.inj hm) dX4_unitOfOrder_122 hP hD hS
  exact hfin
set_option maxHeartbeats 0 in
set_option maxRecDepth 100000 in
theorem c_X5_closeChains (G : GT) (l : Launch) (q_this : Nat) (f_units : Int32) (q_above : Nat) (q_levelRow : Nat) (q_shown : Nat) (q_stepsBack : Nat) (q_under : Nat) (f_under : (Nat → Int32)) (q_reach : Nat) (f_reach : (Nat → Int32)) {res : (Nat → Int32)} (hm : m_X5_closeChains f_units f_under f_reach = some res) : CT G l yX5_closeChains cX5_closeChains 3 none 1 21 [.ref q_this] [(q_this, .inr (5, [.int f_units, .ref q_under, .ref q_above, .ref q_reach, .ref q_levelRow, .ref q_shown, .ref q_stepsBack])), (q_under, .inl (gI G, 12, .inl f_under)), (q_reach, .inl (gI G, 12, .inl f_reach))] [(q_this, .inr (5, [.int f_units, .ref q_under, .ref q_above, .ref q_reach, .ref q_levelRow, .ref q_shown, .ref q_stepsBack])), (q_under, .inl (gI G, 12, .inl f_under)), (q_reach, .inl (gI G, 12, .inl res))] none := by
  refine ctV (G := G) (l := l) (y := yX5_closeChains) (cc := cX5_closeChains) (maxL := 3) (fr := 1) (lo := 21) (As := [.ref q_this]) (res := res) (fun res : (Nat → Int32) => [(q_this, .inr (5, [.int f_units, .ref q_under, .ref q_above, .ref q_reach, .ref q_levelRow, .ref q_shown, .ref q_stepsBack])), (q_under, .inl (gI G, 12, .inl f_under)), (q_reach, .inl (gI G, 12, .inl res))]) (plainFor_of_name (by decide)) (Nat.le_of_ble_eq_true rfl) ?_
  intro p e s m below meth c A ls Q hx hb hml hown hts hK hG hA hP hD hS hl fin
  have hown : s.vm.findClass RX5 = some m.cls := hown
  have hl : lv_has ls 3 [(0, .ref q_this)] := hl
  unfold m_X5_closeChains at hm
  refine lv_iconst (v := 0) hx hb dX5_closeChains_0 (by decide) ?_
  refine lv_istore_n (lv' := [(1, .int (0 : Int32)), (0, .ref q_this)]) hx hb dX5_closeChains_1 rfl hl (by decide) rfl (fun ls hl => ?_)
  have hL_2 : ∀ (k_2 : Int32 → (Nat → Int32) → Option (Nat → Int32)), (∀ (x1_2 : Int32) (y_f_reach_2 : (Nat → Int32)) (H : Heap) (locs : List Loc) (ls : Array Slot), k_2 x1_2 y_f_reach_2 = some res → va_P (gD G) vwCl [(q_this, .inr (5, [.int f_units, .ref q_under, .ref q_above, .ref q_reach, .ref q_levelRow, .ref q_shown, .ref q_stepsBack])), (q_under, .inl (gI G, 12, .inl f_under)), (q_reach, .inl (gI G, 12, .inl y_f_reach_2))] H → va_D A [(q_this, .inr (5, [.int f_units, .ref q_under, .ref q_above, .ref q_reach, .ref q_levelRow, .ref q_shown, .ref q_stepsBack])), (q_under, .inl (gI G, 12, .inl f_under)), (q_reach, .inl (gI G, 12, .inl y_f_reach_2))] → va_S A s.heap H locs → lv_has ls 3 [(0, .ref q_this)] → W p l e { frames := 1, cells := 0, slots := 0, locals := 21 } s m ([.ref q_this] : List Value).toArray below meth c H locs 0 0 Q (F0 m 28 ls [])) → ∀ (n_2 : Nat) (x1_2 : Int32) (y_f_reach_2 : (Nat → Int32)) (H : Heap) (locs : List Loc) (ls : Array Slot), m_X5_closeChains_L2 f_units f_under n_2 x1_2 y_f_reach_2 k_2 = some res → va_P (gD G) vwCl [(q_this, .inr (5, [.int f_units, .ref q_under, .ref q_above, .ref q_reach, .ref q_levelRow, .ref q_shown, .ref q_stepsBack])), (q_under, .inl (gI G, 12, .inl f_under)), (q_reach, .inl (gI G, 12, .inl y_f_reach_2))] H → va_D A [(q_this, .inr (5, [.int f_units, .ref q_under, .ref q_above, .ref q_reach, .ref q_levelRow, .ref q_shown, .ref q_stepsBack])), (q_under, .inl (gI G, 12, .inl f_under)), (q_reach, .inl (gI G, 12, .inl y_f_reach_2))] → va_S A s.heap H locs → lv_has ls 3 [(0, .ref q_this), (1, .int x1_2)] → W p l e { frames := 1, cells := 0, slots := 0, locals := 21 } s m ([.ref q_this] : List Value).toArray below meth c H locs 0 0 Q (F0 m 2 ls []) := by
    intro k_2 hk_2 n_2
    induction n_2 with
    | zero =>
      intro x1_2 y_f_reach_2 H locs ls hm
      rw [m_X5_closeChains_L2] at hm
      cases hm
    | succ n_2 ih_2 =>
      intro x1_2 y_f_reach_2 H locs ls hm hP hD hS hl
      rw [m_X5_closeChains_L2] at hm
      refine lv_iload_n hx hb dX5_closeChains_2 rfl (lv_at hl 1 rfl) ?_
      refine lv_aload_n hx hb dX5_closeChains_3 rfl (lv_at hl 0 rfl) ?_
      refine gf_X5_9 (v := .int f_units) hx hb hts hown hK hP 0 rfl rfl dX5_closeChains_4 ?_
      refine ic_ge (tgt := 28) hx hb dX5_closeChains_7 (by decide) hm (fun hm => ?_) (fun hm => ?_)
      · exact hk_2 x1_2 y_f_reach_2 _ _ _ hm hP hD hS (lv_sub hl [0] rfl)
      refine lv_aload_n hx hb dX5_closeChains_10 rfl (lv_at hl 0 rfl) ?_
      refine gf_X5_22 (v := .ref q_reach) hx hb hts hown hK hP 0 rfl rfl dX5_closeChains_11 ?_
      refine lv_iload_n hx hb dX5_closeChains_14 rfl (lv_at hl 1 rfl) ?_
      refine lv_aload_n hx hb dX5_closeChains_15 rfl (lv_at hl 0 rfl) ?_
      refine gf_X5_15 (v := .ref q_under) hx hb hts hown hK hP 0 rfl rfl dX5_closeChains_16 ?_
      refine lv_iload_n hx hb dX5_closeChains_19 rfl (lv_at hl 1 rfl) ?_
      refine w_iald hx hb hK hP 1 rfl hm dX5_closeChains_20 (fun v_1 hm => ?_)
      refine w_iast hx hb hK hP hD hS 2 rfl hm dX5_closeChains_21 (fun g_2 => [(q_this, .inr (5, [.int f_units, .ref q_under, .ref q_above, .ref q_reach, .ref q_levelRow, .ref q_shown, .ref q_stepsBack])), (q_under, .inl (gI G, 12, .inl f_under)), (q_reach, .inl (gI G, 12, .inl g_2))]) (fun _ => rfl) (fun g_2 H locs hm hP hD hS => ?_)
      refine lv_iinc (v := (x1_2 + (1 : Int32))) (lv' := [(1, .int (x1_2 + (1 : Int32))), (0, .ref q_this)]) hx hb dX5_closeChains_22 hl (k := 1) rfl rfl (by decide) rfl (fun ls hl => ?_)
      refine lv_goto (tgt := 2) hx hb dX5_closeChains_25 (by decide) ?_
      exact ih_2 (x1_2 + (1 : Int32)) g_2 _ _ _ hm hP hD hS (lv_sub hl [1, 0] rfl)
  refine hL_2 _ ?_ FU (0 : Int32) f_reach _ _ _ hm hP hD hS (lv_sub hl [1, 0] rfl)
  intro x1_2 y_f_reach_2 H locs ls hm hP hD hS hl
  refine lv_iconst (v := 0) hx hb dX5_closeChains_28 (by decide) ?_
  refine lv_istore_n (lv' := [(1, .int (0 : Int32)), (0, .ref q_this)]) hx hb dX5_closeChains_29 rfl hl (by decide) rfl (fun ls hl => ?_)
  have hL_30 : ∀ (k_30 : Int32 → (Nat → Int32) → Option (Nat → Int32)), (∀ (x1_30 : Int32) (y_f_reach_30 : (Nat → Int32)) (H : Heap) (locs : List Loc) (ls : Array Slot), k_30 x1_30 y_f_reach_30 = some res → va_P (gD G) vwCl [(q_this, .inr (5, [.int f_units, .ref q_under, .ref q_above, .ref q_reach, .ref q_levelRow, .ref q_shown, .ref q_stepsBack])), (q_under, .inl (gI G, 12, .inl f_under)), (q_reach, .inl (gI G, 12, .inl y_f_reach_30))] H → va_D A [(q_this, .inr (5, [.int f_units, .ref q_under, .ref q_above, .ref q_reach, .ref q_levelRow, .ref q_shown, .ref q_stepsBack])), (q_under, .inl (gI G, 12, .inl f_under)), (q_reach, .inl (gI G, 12, .inl y_f_reach_30))] → va_S A s.heap H locs → lv_has ls 3 [] → W p l e { frames := 1, cells := 0, slots := 0, locals := 21 } s m ([.ref q_this] : List Value).toArray below meth c H locs 0 0 Q (F0 m 88 ls [])) → ∀ (n_30 : Nat) (x1_30 : Int32) (y_f_reach_30 : (Nat → Int32)) (H : Heap) (locs : List Loc) (ls : Array Slot), m_X5_closeChains_L30 f_units n_30 x1_30 y_f_reach_30 k_30 = some res → va_P (gD G) vwCl [(q_this, .inr (5, [.int f_units, .ref q_under, .ref q_above, .ref q_reach, .ref q_levelRow, .ref q_shown, .ref q_stepsBack])), (q_under, .inl (gI G, 12, .inl f_under)), (q_reach, .inl (gI G, 12, .inl y_f_reach_30))] H → va_D A [(q_this, .inr (5, [.int f_units, .ref q_under, .ref q_above, .ref q_reach, .ref q_levelRow, .ref q_shown, .ref q_stepsBack])), (q_under, .inl (gI G, 12, .inl f_under)), (q_reach, .inl (gI G, 12, .inl y_f_reach_30))] → va_S A s.heap H locs → lv_has ls 3 [(0, .ref q_this), (1, .int x1_30)] → W p l e { frames := 1, cells := 0, slots := 0, locals := 21 } s m ([.ref q_this] : List Value).toArray below meth c H locs 0 0 Q (F0 m 30 ls []) := by
    intro k_30 hk_30 n_30
    induction n_30 with
    | zero =>
      intro x1_30 y_f_reach_30 H locs ls hm
      rw [m_X5_closeChains_L30] at hm
      cases hm
    | succ n_30 ih_30 =>
      intro x1_30 y_f_reach_30 H locs ls hm hP hD hS hl
      rw [m_X5_closeChains_L30] at hm
      refine lv_iload_n hx hb dX5_closeChains_30 rfl (lv_at hl 1 rfl) ?_
      refine lv_aload_n hx hb dX5_closeChains_31 rfl (lv_at hl 0 rfl) ?_
      refine gf_X5_9 (v := .int f_units) hx hb hts hown hK hP 0 rfl rfl dX5_closeChains_32 ?_
      refine ic_ge (tgt := 88) hx hb dX5_closeChains_35 (by decide) hm (fun hm => ?_) (fun hm => ?_)
      · exact hk_30 x1_30 y_f_reach_30 _ _ _ hm hP hD hS (lv_sub hl [] rfl)
      refine lv_iconst (v := 0) hx hb dX5_closeChains_38 (by decide) ?_
      refine lv_istore_n (lv' := [(2, .int (0 : Int32)), (0, .ref q_this), (1, .int x1_30)]) hx hb dX5_closeChains_39 rfl hl (by decide) rfl (fun ls hl => ?_)
      have hL_40 : ∀ (k_40 : Int32 → (Nat → Int32) → Option (Nat → Int32)), (∀ (x2_40 : Int32) (y_f_reach_40 : (Nat → Int32)) (H : Heap) (locs : List Loc) (ls : Array Slot), k_40 x2_40 y_f_reach_40 = some res → va_P (gD G) vwCl [(q_this, .inr (5, [.int f_units, .ref q_under, .ref q_above, .ref q_reach, .ref q_levelRow, .ref q_shown, .ref q_stepsBack])), (q_under, .inl (gI G, 12, .inl f_under)), (q_reach, .inl (gI G, 12, .inl y_f_reach_40))] H → va_D A [(q_this, .inr (5, [.int f_units, .ref q_under, .ref q_above, .ref q_reach, .ref q_levelRow, .ref q_shown, .ref q_stepsBack])), (q_under, .inl (gI G, 12, .inl f_under)), (q_reach, .inl (gI G, 12, .inl y_f_reach_40))] → va_S A s.heap H locs → lv_has ls 3 [(0, .ref q_this), (1, .int x1_30)] → W p l e { frames := 1, cells := 0, slots := 0, locals := 21 } s m ([.ref q_this] : List Value).toArray below meth c H locs 0 0 Q (F0 m 82 ls [])) → ∀ (n_40 : Nat) (x2_40 : Int32) (y_f_reach_40 : (Nat → Int32)) (H : Heap) (locs : List Loc) (ls : Array Slot), m_X5_closeChains_L40 f_units x1_30 n_40 x2_40 y_f_reach_40 k_40 = some res → va_P (gD G) vwCl [(q_this, .inr (5, [.int f_units, .ref q_under, .ref q_above, .ref q_reach, .ref q_levelRow, .ref q_shown, .ref q_stepsBack])), (q_under, .inl (gI G, 12, .inl f_under)), (q_reach, .inl (gI G, 12, .inl y_f_reach_40))] H → va_D A [(q_this, .inr (5, [.int f_units, .ref q_under, .ref q_above, .ref q_reach, .ref q_levelRow, .ref q_shown, .ref q_stepsBack])), (q_under, .inl (gI G, 12, .inl f_under)), (q_reach, .inl (gI G, 12, .inl y_f_reach_40))] → va_S A s.heap H locs → lv_has ls 3 [(0, .ref q_this), (1, .int x1_30), (2, .int x2_40)] → W p l e { frames := 1, cells := 0, slots := 0, locals := 21 } s m ([.ref q_this] : List Value).toArray below meth c H locs 0 0 Q (F0 m 40 ls []) := by
        intro k_40 hk_40 n_40
        induction n_40 with
        | zero =>
          intro x2_40 y_f_reach_40 H locs ls hm
          rw [m_X5_closeChains_L40] at hm
          cases hm
        | succ n_40 ih_40 =>
          intro x2_40 y_f_reach_40 H locs ls hm hP hD hS hl
          rw [m_X5_closeChains_L40] at hm
          refine lv_iload_n hx hb dX5_closeChains_40 rfl (lv_at hl 2 rfl) ?_
          refine lv_aload_n hx hb dX5_closeChains_41 rfl (lv_at hl 0 rfl) ?_
          refine gf_X5_9 (v := .int f_units) hx hb hts hown hK hP 0 rfl rfl dX5_closeChains_42 ?_
          refine ic_ge (tgt := 82) hx hb dX5_closeChains_45 (by decide) hm (fun hm => ?_) (fun hm => ?_)
          · exact hk_40 x2_40 y_f_reach_40 _ _ _ hm hP hD hS (lv_sub hl [0, 1] rfl)
          refine lv_aload_n hx hb dX5_closeChains_48 rfl (lv_at hl 0 rfl) ?_
          refine gf_X5_22 (v := .ref q_reach) hx hb hts hown hK hP 0 rfl rfl dX5_closeChains_49 ?_
          refine lv_iload_n hx hb dX5_closeChains_52 rfl (lv_at hl 2 rfl) ?_
          refine w_iald hx hb hK hP 2 rfl hm dX5_closeChains_53 (fun v_3 hm => ?_)
          refine lv_iload_n hx hb dX5_closeChains_54 rfl (lv_at hl 1 rfl) ?_
          obtain ⟨r_4, h_5, hm⟩ := cl_elim hm
          refine w_callN (As := [.int v_3, .int x1_30]) (rest := []) (wr := [(q_this, .inr (5, [.int f_units, .ref q_under, .ref q_above, .ref q_reach, .ref q_levelRow, .ref q_shown, .ref q_stepsBack])), (q_under, .inl (gI G, 12, .inl f_under)), (q_reach, .inl (gI G, 12, .inl y_f_reach_40))]) (W1 := [(q_this, .inr (5, [.int f_units, .ref q_under, .ref q_above, .ref q_reach, .ref q_levelRow, .ref q_shown, .ref q_stepsBack])), (q_under, .inl (gI G, 12, .inl f_under)), (q_reach, .inl (gI G, 12, .inl y_f_reach_40))]) (host := "DigOrder") hx hb hml hown hts hK hG hP hD hS hA (c_X7_hasBit G l v_3 x1_30 h_5) kc_X7_hasBit ks_X7_hasBit (by decide +kernel) rfl hl.1 rfl (Nat.le_of_ble_eq_true rfl) dX5_closeChains_55 (Nat.le_of_ble_eq_true rfl) (Nat.le_of_ble_eq_true rfl) ⟨Nat.le_refl _, Nat.le_refl _⟩ [] [0, 1, 2] [0, 1, 2] rfl rfl rfl rfl (by decide) rfl rfl (fun H locs hP hD hS => ?_)
          refine if_eq (tgt := 76) hx hb dX5_closeChains_58 (by decide) hm (fun hm => ?_) (fun hm => ?_)
          · refine lv_iinc (v := (x2_40 + (1 : Int32))) (lv' := [(2, .int (x2_40 + (1 : Int32))), (0, .ref q_this), (1, .int x1_30)]) hx hb dX5_closeChains_76 hl (k := 2) rfl rfl (by decide) rfl (fun ls hl => ?_)
            refine lv_goto (tgt := 40) hx hb dX5_closeChains_79 (by decide) ?_
            exact ih_40 (x2_40 + (1 : Int32)) y_f_reach_40 _ _ _ hm hP hD hS (lv_sub hl [1, 2, 0] rfl)
          refine lv_aload_n hx hb dX5_closeChains_61 rfl (lv_at hl 0 rfl) ?_
          refine gf_X5_22 (v := .ref q_reach) hx hb hts hown hK hP 0 rfl rfl dX5_closeChains_62 ?_
          refine lv_iload_n hx hb dX5_closeChains_65 rfl (lv_at hl 2 rfl) ?_
          refine lv_dup2_11 hx hb dX5_closeChains_66 rfl rfl ?_
          refine w_iald hx hb hK hP 2 rfl hm dX5_closeChains_67 (fun v_6 hm => ?_)
          refine lv_aload_n hx hb dX5_closeChains_68 rfl (lv_at hl 0 rfl) ?_
          refine gf_X5_22 (v := .ref q_reach) hx hb hts hown hK hP 0 rfl rfl dX5_closeChains_69 ?_
          refine lv_iload_n hx hb dX5_closeChains_72 rfl (lv_at hl 1 rfl) ?_
          refine w_iald hx hb hK hP 2 rfl hm dX5_closeChains_73 (fun v_7 hm => ?_)
          refine lv_ior hx hb dX5_closeChains_74 ?_
          refine w_iast hx hb hK hP hD hS 2 rfl hm dX5_closeChains_75 (fun g_8 => [(q_this, .inr (5, [.int f_units, .ref q_under, .ref q_above, .ref q_reach, .ref q_levelRow, .ref q_shown, .ref q_stepsBack])), (q_under, .inl (gI G, 12, .inl f_under)), (q_reach, .inl (gI G, 12, .inl g_8))]) (fun _ => rfl) (fun g_8 H locs hm hP hD hS => ?_)
          refine lv_iinc (v := (x2_40 + (1 : Int32))) (lv' := [(2, .int (x2_40 + (1 : Int32))), (0, .ref q_this), (1, .int x1_30)]) hx hb dX5_closeChains_76 hl (k := 2) rfl rfl (by decide) rfl (fun ls hl => ?_)
          refine lv_goto (tgt := 40) hx hb dX5_closeChains_79 (by decide) ?_
          exact ih_40 (x2_40 + (1 : Int32)) g_8 _ _ _ hm hP hD hS (lv_sub hl [1, 2, 0] rfl)
      refine hL_40 _ ?_ FU (0 : Int32) y_f_reach_30 _ _ _ hm hP hD hS (lv_sub hl [1, 2, 0] rfl)
      intro x2_40 y_f_reach_40 H locs ls hm hP hD hS hl
      refine lv_iinc (v := (x1_30 + (1 : Int32))) (lv' := [(1, .int (x1_30 + (1 : Int32))), (0, .ref q_this)]) hx hb dX5_closeChains_82 hl (k := 1) rfl rfl (by decide) rfl (fun ls hl => ?_)
      refine lv_goto (tgt := 30) hx hb dX5_closeChains_85 (by decide) ?_
      exact ih_30 (x1_30 + (1 : Int32)) y_f_reach_40 _ _ _ hm hP hD hS (lv_sub hl [1, 0] rfl)
  refine hL_30 _ ?_ FU (0 : Int32) y_f_reach_2 _ _ _ hm hP hD hS (lv_sub hl [1, 0] rfl)
  intro x1_30 y_f_reach_30 H locs ls hm hP hD hS hl
  have hfin := fin _ _ ls _ _ (Option.some.inj hm) dX5_closeChains_88 hP hD hS
  exact hfin
set_option maxHeartbeats 0 in
set_option maxRecDepth 100000 in
theorem c_X5_weave (G : GT) (l : Launch) (q_this : Nat) (f_units : Int32) (q_levelRow : Nat) (q_shown : Nat) (q_stepsBack : Nat) (q_under : Nat) (f_under : (Nat → Int32)) (q_above : Nat) (f_above : (Nat → Int32)) (q_reach : Nat) (f_reach : (Nat → Int32)) (q_p1 : Nat) (p1_units : Int32) (p1_ties : Int32) (p1_digs : Int32) (p1_sights : Int32) (p1_events : Int32) (q_p1_traits : Nat) (q_p1_digRow : Nat) (q_p1_heldUnit : Nat) (q_p1_heldKind : Nat) (q_p1_seenFirst : Nat) (q_p1_seenSecond : Nat) (q_p1_seenIs : Nat) (q_p1_eventWhat : Nat) (q_p1_eventUnit : Nat) (q_p1_upper : Nat) (p1_upper : (Nat → Int32)) (q_p1_lower : Nat) (p1_lower : (Nat → Int32)) (a_2 : Int32) {res : Int32 × (Nat → Int32) × (Nat → Int32) × (Nat → Int32)} (hm : m_X5_weave f_units f_under f_above f_reach p1_units p1_ties p1_upper p1_lower a_2 = some res) : CT G l yX5_weave cX5_weave 4 none 2 43 [.ref q_this, .ref q_p1, .int a_2] [(q_this, .inr (5, [.int f_units, .ref q_under, .ref q_above, .ref q_reach, .ref q_levelRow, .ref q_shown, .ref q_stepsBack])), (q_under, .inl (gI G, 12, .inl f_under)), (q_above, .inl (gI G, 12, .inl f_above)), (q_reach, .inl (gI G, 12, .inl f_reach)), (q_p1, .inr (2, [.int p1_units, .int p1_ties, .int p1_digs, .int p1_sights, .int p1_events, .ref q_p1_traits, .ref q_p1_upper, .ref q_p1_lower, .ref q_p1_digRow, .ref q_p1_heldUnit, .ref q_p1_heldKind, .ref q_p1_seenFirst, .ref q_p1_seenSecond, .ref q_p1_seenIs, .ref q_p1_eventWhat, .ref q_p1_eventUnit])), (q_p1_upper, .inl (gI G, 40, .inl p1_upper)), (q_p1_lower, .inl (gI G, 40, .inl p1_lower))] [(q_this, .inr (5, [.int res.1, .ref q_under, .ref q_above, .ref q_reach, .ref q_levelRow, .ref q_shown, .ref q_stepsBack])), (q_under, .inl (gI G, 12, .inl res.2.1)), (q_above, .inl (gI G, 12, .inl res.2.2.1)), (q_reach, .inl (gI G, 12, .inl res.2.2.2)), (q_p1, .inr (2, [.int p1_units, .int p1_ties, .int p1_digs, .int p1_sights, .int p1_events, .ref q_p1_traits, .ref q_p1_upper, .ref q_p1_lower, .ref q_p1_digRow, .ref q_p1_heldUnit, .ref q_p1_heldKind, .ref q_p1_seenFirst, .ref q_p1_seenSecond, .ref q_p1_seenIs, .ref q_p1_eventWhat, .ref q_p1_eventUnit])), (q_p1_upper, .inl (gI G, 40, .inl p1_upper)), (q_p1_lower, .inl (gI G, 40, .inl p1_lower))] none := by
  refine ctV (G := G) (l := l) (y := yX5_weave) (cc := cX5_weave) (maxL := 4) (fr := 2) (lo := 43) (As := [.ref q_this, .ref q_p1, .int a_2]) (res := res) (fun res : Int32 × (Nat → Int32) × (Nat → Int32) × (Nat → Int32) => [(q_this, .inr (5, [.int res.1, .ref q_under, .ref q_above, .ref q_reach, .ref q_levelRow, .ref q_shown, .ref q_stepsBack])), (q_under, .inl (gI G, 12, .inl res.2.1)), (q_above, .inl (gI G, 12, .inl res.2.2.1)), (q_reach, .inl (gI G, 12, .inl res.2.2.2)), (q_p1, .inr (2, [.int p1_units, .int p1_ties, .int p1_digs, .int p1_sights, .int p1_events, .ref q_p1_traits, .ref q_p1_upper, .ref q_p1_lower, .ref q_p1_digRow, .ref q_p1_heldUnit, .ref q_p1_heldKind, .ref q_p1_seenFirst, .ref q_p1_seenSecond, .ref q_p1_seenIs, .ref q_p1_eventWhat, .ref q_p1_eventUnit])), (q_p1_upper, .inl (gI G, 40, .inl p1_upper)), (q_p1_lower, .inl (gI G, 40, .inl p1_lower))]) (plainFor_of_name (by decide)) (Nat.le_of_ble_eq_true rfl) ?_
  intro p e s m below meth c A ls Q hx hb hml hown hts hK hG hA hP hD hS hl fin
  have hown : s.vm.findClass RX5 = some m.cls := hown
  have hl : lv_has ls 4 [(0, .ref q_this), (1, .ref q_p1), (2, .int a_2)] := hl
  unfold m_X5_weave at hm
  refine lv_aload_n hx hb dX5_weave_0 rfl (lv_at hl 0 rfl) ?_
  refine lv_aload_n hx hb dX5_weave_1 rfl (lv_at hl 1 rfl) ?_
  refine gf_X5_34 (v := .int p1_units) hx hb hts hown hK hP 4 rfl rfl dX5_weave_2 ?_
  refine pf_X5_9 (W1 := [(q_this, .inr (5, [.int p1_units, .ref q_under, .ref q_above, .ref q_reach, .ref q_levelRow, .ref q_shown, .ref q_stepsBack])), (q_under, .inl (gI G, 12, .inl f_under)), (q_above, .inl (gI G, 12, .inl f_above)), (q_reach, .inl (gI G, 12, .inl f_reach)), (q_p1, .inr (2, [.int p1_units, .int p1_ties, .int p1_digs, .int p1_sights, .int p1_events, .ref q_p1_traits, .ref q_p1_upper, .ref q_p1_lower, .ref q_p1_digRow, .ref q_p1_heldUnit, .ref q_p1_heldKind, .ref q_p1_seenFirst, .ref q_p1_seenSecond, .ref q_p1_seenIs, .ref q_p1_eventWhat, .ref q_p1_eventUnit])), (q_p1_upper, .inl (gI G, 40, .inl p1_upper)), (q_p1_lower, .inl (gI G, 40, .inl p1_lower))]) hx hb hts hown hK hP hD hS 0 rfl (Nat.le_of_ble_eq_true rfl) dX5_weave_5 rfl (fun H locs hP hD hS => ?_)
  refine lv_iconst (v := 0) hx hb dX5_weave_8 (by decide) ?_
  refine lv_istore_n (lv' := [(3, .int (0 : Int32)), (0, .ref q_this), (1, .ref q_p1), (2, .int a_2)]) hx hb dX5_weave_9 rfl hl (by decide) rfl (fun ls hl => ?_)
  have hL_10 : ∀ (k_10 : Int32 → (Nat → Int32) → (Nat → Int32) → Option (Int32 × (Nat → Int32) × (Nat → Int32) × (Nat → Int32))), (∀ (x3_10 : Int32) (y_f_under_10 : (Nat → Int32)) (y_f_above_10 : (Nat → Int32)) (H : Heap) (locs : List Loc) (ls : Array Slot), k_10 x3_10 y_f_under_10 y_f_above_10 = some res → va_P (gD G) vwCl [(q_this, .inr (5, [.int p1_units, .ref q_under, .ref q_above, .ref q_reach, .ref q_levelRow, .ref q_shown, .ref q_stepsBack])), (q_under, .inl (gI G, 12, .inl y_f_under_10)), (q_above, .inl (gI G, 12, .inl y_f_above_10)), (q_reach, .inl (gI G, 12, .inl f_reach)), (q_p1, .inr (2, [.int p1_units, .int p1_ties, .int p1_digs, .int p1_sights, .int p1_events, .ref q_p1_traits, .ref q_p1_upper, .ref q_p1_lower, .ref q_p1_digRow, .ref q_p1_heldUnit, .ref q_p1_heldKind, .ref q_p1_seenFirst, .ref q_p1_seenSecond, .ref q_p1_seenIs, .ref q_p1_eventWhat, .ref q_p1_eventUnit])), (q_p1_upper, .inl (gI G, 40, .inl p1_upper)), (q_p1_lower, .inl (gI G, 40, .inl p1_lower))] H → va_D A [(q_this, .inr (5, [.int p1_units, .ref q_under, .ref q_above, .ref q_reach, .ref q_levelRow, .ref q_shown, .ref q_stepsBack])), (q_under, .inl (gI G, 12, .inl y_f_under_10)), (q_above, .inl (gI G, 12, .inl y_f_above_10)), (q_reach, .inl (gI G, 12, .inl f_reach)), (q_p1, .inr (2, [.int p1_units, .int p1_ties, .int p1_digs, .int p1_sights, .int p1_events, .ref q_p1_traits, .ref q_p1_upper, .ref q_p1_lower, .ref q_p1_digRow, .ref q_p1_heldUnit, .ref q_p1_heldKind, .ref q_p1_seenFirst, .ref q_p1_seenSecond, .ref q_p1_seenIs, .ref q_p1_eventWhat, .ref q_p1_eventUnit])), (q_p1_upper, .inl (gI G, 40, .inl p1_upper)), (q_p1_lower, .inl (gI G, 40, .inl p1_lower))] → va_S A s.heap H locs → lv_has ls 4 [(0, .ref q_this), (1, .ref q_p1), (2, .int a_2)] → W p l e { frames := 2, cells := 0, slots := 0, locals := 43 } s m ([.ref q_this, .ref q_p1, .int a_2] : List Value).toArray below meth c H locs 0 0 Q (F0 m 36 ls [])) → ∀ (n_10 : Nat) (x3_10 : Int32) (y_f_under_10 : (Nat → Int32)) (y_f_above_10 : (Nat → Int32)) (H : Heap) (locs : List Loc) (ls : Array Slot), m_X5_weave_L10  n_10 x3_10 y_f_under_10 y_f_above_10 k_10 = some res → va_P (gD G) vwCl [(q_this, .inr (5, [.int p1_units, .ref q_under, .ref q_above, .ref q_reach, .ref q_levelRow, .ref q_shown, .ref q_stepsBack])), (q_under, .inl (gI G, 12, .inl y_f_under_10)), (q_above, .inl (gI G, 12, .inl y_f_above_10)), (q_reach, .inl (gI G, 12, .inl f_reach)), (q_p1, .inr (2, [.int p1_units, .int p1_ties, .int p1_digs, .int p1_sights, .int p1_events, .ref q_p1_traits, .ref q_p1_upper, .ref q_p1_lower, .ref q_p1_digRow, .ref q_p1_heldUnit, .ref q_p1_heldKind, .ref q_p1_seenFirst, .ref q_p1_seenSecond, .ref q_p1_seenIs, .ref q_p1_eventWhat, .ref q_p1_eventUnit])), (q_p1_upper, .inl (gI G, 40, .inl p1_upper)), (q_p1_lower, .inl (gI G, 40, .inl p1_lower))] H → va_D A [(q_this, .inr (5, [.int p1_units, .ref q_under, .ref q_above, .ref q_reach, .ref q_levelRow, .ref q_shown, .ref q_stepsBack])), (q_under, .inl (gI G, 12, .inl y_f_under_10)), (q_above, .inl (gI G, 12, .inl y_f_above_10)), (q_reach, .inl (gI G, 12, .inl f_reach)), (q_p1, .inr (2, [.int p1_units, .int p1_ties, .int p1_digs, .int p1_sights, .int p1_events, .ref q_p1_traits, .ref q_p1_upper, .ref q_p1_lower, .ref q_p1_digRow, .ref q_p1_heldUnit, .ref q_p1_heldKind, .ref q_p1_seenFirst, .ref q_p1_seenSecond, .ref q_p1_seenIs, .ref q_p1_eventWhat, .ref q_p1_eventUnit])), (q_p1_upper, .inl (gI G, 40, .inl p1_upper)), (q_p1_lower, .inl (gI G, 40, .inl p1_lower))] → va_S A s.heap H locs → lv_has ls 4 [(0, .ref q_this), (1, .ref q_p1), (2, .int a_2), (3, .int x3_10)] → W p l e { frames := 2, cells := 0, slots := 0, locals := 43 } s m ([.ref q_this, .ref q_p1, .int a_2] : List Value).toArray below meth c H locs 0 0 Q (F0 m 10 ls []) := by
    intro k_10 hk_10 n_10
    induction n_10 with
    | zero =>
      intro x3_10 y_f_under_10 y_f_above_10 H locs ls hm
      rw [m_X5_weave_L10] at hm
      cases hm
    | succ n_10 ih_10 =>
      intro x3_10 y_f_under_10 y_f_above_10 H locs ls hm hP hD hS hl
      rw [m_X5_weave_L10] at hm
      refine lv_iload_n hx hb dX5_weave_10 rfl (lv_at hl 3 rfl) ?_
      refine lv_bipush (v := 12) hx hb dX5_weave_11 (by decide) ?_
      refine ic_ge (tgt := 36) hx hb dX5_weave_13 (by decide) hm (fun hm => ?_) (fun hm => ?_)
      · exact hk_10 x3_10 y_f_under_10 y_f_above_10 _ _ _ hm hP hD hS (lv_sub hl [0, 1, 2] rfl)
      refine lv_aload_n hx hb dX5_weave_16 rfl (lv_at hl 0 rfl) ?_
      refine gf_X5_15 (v := .ref q_under) hx hb hts hown hK hP 0 rfl rfl dX5_weave_17 ?_
      refine lv_iload_n hx hb dX5_weave_20 rfl (lv_at hl 3 rfl) ?_
      refine lv_iconst (v := 0) hx hb dX5_weave_21 (by decide) ?_
      refine w_iast hx hb hK hP hD hS 1 rfl hm dX5_weave_22 (fun g_1 => [(q_this, .inr (5, [.int p1_units, .ref q_under, .ref q_above, .ref q_reach, .ref q_levelRow, .ref q_shown, .ref q_stepsBack])), (q_under, .inl (gI G, 12, .inl g_1)), (q_above, .inl (gI G, 12, .inl y_f_above_10)), (q_reach, .inl (gI G, 12, .inl f_reach)), (q_p1, .inr (2, [.int p1_units, .int p1_ties, .int p1_digs, .int p1_sights, .int p1_events, .ref q_p1_traits, .ref q_p1_upper, .ref q_p1_lower, .ref q_p1_digRow, .ref q_p1_heldUnit, .ref q_p1_heldKind, .ref q_p1_seenFirst, .ref q_p1_seenSecond, .ref q_p1_seenIs, .ref q_p1_eventWhat, .ref q_p1_eventUnit])), (q_p1_upper, .inl (gI G, 40, .inl p1_upper)), (q_p1_lower, .inl (gI G, 40, .inl p1_lower))]) (fun _ => rfl) (fun g_1 H locs hm hP hD hS => ?_)
      refine lv_aload_n hx hb dX5_weave_23 rfl (lv_at hl 0 rfl) ?_
      refine gf_X5_19 (v := .ref q_above) hx hb hts hown hK hP 0 rfl rfl dX5_weave_24 ?_
      refine lv_iload_n hx hb dX5_weave_27 rfl (lv_at hl 3 rfl) ?_
      refine lv_iconst (v := 0) hx hb dX5_weave_28 (by decide) ?_
      refine w_iast hx hb hK hP hD hS 2 rfl hm dX5_weave_29 (fun g_2 => [(q_this, .inr (5, [.int p1_units, .ref q_under, .ref q_above, .ref q_reach, .ref q_levelRow, .ref q_shown, .ref q_stepsBack])), (q_under, .inl (gI G, 12, .inl g_1)), (q_above, .inl (gI G, 12, .inl g_2)), (q_reach, .inl (gI G, 12, .inl f_reach)), (q_p1, .inr (2, [.int p1_units, .int p1_ties, .int p1_digs, .int p1_sights, .int p1_events, .ref q_p1_traits, .ref q_p1_upper, .ref q_p1_lower, .ref q_p1_digRow, .ref q_p1_heldUnit, .ref q_p1_heldKind, .ref q_p1_seenFirst, .ref q_p1_seenSecond, .ref q_p1_seenIs, .ref q_p1_eventWhat, .ref q_p1_eventUnit])), (q_p1_upper, .inl (gI G, 40, .inl p1_upper)), (q_p1_lower, .inl (gI G, 40, .inl p1_lower))]) (fun _ => rfl) (fun g_2 H locs hm hP hD hS => ?_)
      refine lv_iinc (v := (x3_10 + (1 : Int32))) (lv' := [(3, .int (x3_10 + (1 : Int32))), (0, .ref q_this), (1, .ref q_p1), (2, .int a_2)]) hx hb dX5_weave_30 hl (k := 3) rfl rfl (by decide) rfl (fun ls hl => ?_)
      refine lv_goto (tgt := 10) hx hb dX5_weave_33 (by decide) ?_
      exact ih_10 (x3_10 + (1 : Int32)) g_1 g_2 _ _ _ hm hP hD hS (lv_sub hl [1, 2, 3, 0] rfl)
  refine hL_10 _ ?_ FU (0 : Int32) f_under f_above _ _ _ hm hP hD hS (lv_sub hl [1, 2, 3, 0] rfl)
  intro x3_10 y_f_under_10 y_f_above_10 H locs ls hm hP hD hS hl
  refine lv_iconst (v := 0) hx hb dX5_weave_36 (by decide) ?_
  refine lv_istore_n (lv' := [(3, .int (0 : Int32)), (0, .ref q_this), (1, .ref q_p1), (2, .int a_2)]) hx hb dX5_weave_37 rfl hl (by decide) rfl (fun ls hl => ?_)
  have hL_38 : ∀ (k_38 : Int32 → (Nat → Int32) → (Nat → Int32) → Option (Int32 × (Nat → Int32) × (Nat → Int32) × (Nat → Int32))), (∀ (x3_38 : Int32) (y_f_under_38 : (Nat → Int32)) (y_f_above_38 : (Nat → Int32)) (H : Heap) (locs : List Loc) (ls : Array Slot), k_38 x3_38 y_f_under_38 y_f_above_38 = some res → va_P (gD G) vwCl [(q_this, .inr (5, [.int p1_units, .ref q_under, .ref q_above, .ref q_reach, .ref q_levelRow, .ref q_shown, .ref q_stepsBack])), (q_under, .inl (gI G, 12, .inl y_f_under_38)), (q_above, .inl (gI G, 12, .inl y_f_above_38)), (q_reach, .inl (gI G, 12, .inl f_reach)), (q_p1, .inr (2, [.int p1_units, .int p1_ties, .int p1_digs, .int p1_sights, .int p1_events, .ref q_p1_traits, .ref q_p1_upper, .ref q_p1_lower, .ref q_p1_digRow, .ref q_p1_heldUnit, .ref q_p1_heldKind, .ref q_p1_seenFirst, .ref q_p1_seenSecond, .ref q_p1_seenIs, .ref q_p1_eventWhat, .ref q_p1_eventUnit])), (q_p1_upper, .inl (gI G, 40, .inl p1_upper)), (q_p1_lower, .inl (gI G, 40, .inl p1_lower))] H → va_D A [(q_this, .inr (5, [.int p1_units, .ref q_under, .ref q_above, .ref q_reach, .ref q_levelRow, .ref q_shown, .ref q_stepsBack])), (q_under, .inl (gI G, 12, .inl y_f_under_38)), (q_above, .inl (gI G, 12, .inl y_f_above_38)), (q_reach, .inl (gI G, 12, .inl f_reach)), (q_p1, .inr (2, [.int p1_units, .int p1_ties, .int p1_digs, .int p1_sights, .int p1_events, .ref q_p1_traits, .ref q_p1_upper, .ref q_p1_lower, .ref q_p1_digRow, .ref q_p1_heldUnit, .ref q_p1_heldKind, .ref q_p1_seenFirst, .ref q_p1_seenSecond, .ref q_p1_seenIs, .ref q_p1_eventWhat, .ref q_p1_eventUnit])), (q_p1_upper, .inl (gI G, 40, .inl p1_upper)), (q_p1_lower, .inl (gI G, 40, .inl p1_lower))] → va_S A s.heap H locs → lv_has ls 4 [(0, .ref q_this)] → W p l e { frames := 2, cells := 0, slots := 0, locals := 43 } s m ([.ref q_this, .ref q_p1, .int a_2] : List Value).toArray below meth c H locs 0 0 Q (F0 m 101 ls [])) → ∀ (n_38 : Nat) (x3_38 : Int32) (y_f_under_38 : (Nat → Int32)) (y_f_above_38 : (Nat → Int32)) (H : Heap) (locs : List Loc) (ls : Array Slot), m_X5_weave_L38 p1_ties p1_upper p1_lower a_2 n_38 x3_38 y_f_under_38 y_f_above_38 k_38 = some res → va_P (gD G) vwCl [(q_this, .inr (5, [.int p1_units, .ref q_under, .ref q_above, .ref q_reach, .ref q_levelRow, .ref q_shown, .ref q_stepsBack])), (q_under, .inl (gI G, 12, .inl y_f_under_38)), (q_above, .inl (gI G, 12, .inl y_f_above_38)), (q_reach, .inl (gI G, 12, .inl f_reach)), (q_p1, .inr (2, [.int p1_units, .int p1_ties, .int p1_digs, .int p1_sights, .int p1_events, .ref q_p1_traits, .ref q_p1_upper, .ref q_p1_lower, .ref q_p1_digRow, .ref q_p1_heldUnit, .ref q_p1_heldKind, .ref q_p1_seenFirst, .ref q_p1_seenSecond, .ref q_p1_seenIs, .ref q_p1_eventWhat, .ref q_p1_eventUnit])), (q_p1_upper, .inl (gI G, 40, .inl p1_upper)), (q_p1_lower, .inl (gI G, 40, .inl p1_lower))] H → va_D A [(q_this, .inr (5, [.int p1_units, .ref q_under, .ref q_above, .ref q_reach, .ref q_levelRow, .ref q_shown, .ref q_stepsBack])), (q_under, .inl (gI G, 12, .inl y_f_under_38)), (q_above, .inl (gI G, 12, .inl y_f_above_38)), (q_reach, .inl (gI G, 12, .inl f_reach)), (q_p1, .inr (2, [.int p1_units, .int p1_ties, .int p1_digs, .int p1_sights, .int p1_events, .ref q_p1_traits, .ref q_p1_upper, .ref q_p1_lower, .ref q_p1_digRow, .ref q_p1_heldUnit, .ref q_p1_heldKind, .ref q_p1_seenFirst, .ref q_p1_seenSecond, .ref q_p1_seenIs, .ref q_p1_eventWhat, .ref q_p1_eventUnit])), (q_p1_upper, .inl (gI G, 40, .inl p1_upper)), (q_p1_lower, .inl (gI G, 40, .inl p1_lower))] → va_S A s.heap H locs → lv_has ls 4 [(0, .ref q_this), (1, .ref q_p1), (2, .int a_2), (3, .int x3_38)] → W p l e { frames := 2, cells := 0, slots := 0, locals := 43 } s m ([.ref q_this, .ref q_p1, .int a_2] : List Value).toArray below meth c H locs 0 0 Q (F0 m 38 ls []) := by
    intro k_38 hk_38 n_38
    induction n_38 with
    | zero =>
      intro x3_38 y_f_under_38 y_f_above_38 H locs ls hm
      rw [m_X5_weave_L38] at hm
      cases hm
    | succ n_38 ih_38 =>
      intro x3_38 y_f_under_38 y_f_above_38 H locs ls hm hP hD hS hl
      rw [m_X5_weave_L38] at hm
      refine lv_iload_n hx hb dX5_weave_38 rfl (lv_at hl 3 rfl) ?_
      refine lv_aload_n hx hb dX5_weave_39 rfl (lv_at hl 1 rfl) ?_
      refine gf_X5_37 (v := .int p1_ties) hx hb hts hown hK hP 4 rfl rfl dX5_weave_40 ?_
      refine ic_ge (tgt := 101) hx hb dX5_weave_43 (by decide) hm (fun hm => ?_) (fun hm => ?_)
      · exact hk_38 x3_38 y_f_under_38 y_f_above_38 _ _ _ hm hP hD hS (lv_sub hl [0] rfl)
      refine lv_iload_n hx hb dX5_weave_46 rfl (lv_at hl 3 rfl) ?_
      refine lv_iload_n hx hb dX5_weave_47 rfl (lv_at hl 2 rfl) ?_
      refine ic_eq (tgt := 95) hx hb dX5_weave_48 (by decide) hm (fun hm => ?_) (fun hm => ?_)
      · refine lv_iinc (v := (x3_38 + (1 : Int32))) (lv' := [(3, .int (x3_38 + (1 : Int32))), (0, .ref q_this), (1, .ref q_p1), (2, .int a_2)]) hx hb dX5_weave_95 hl (k := 3) rfl rfl (by decide) rfl (fun ls hl => ?_)
        refine lv_goto (tgt := 38) hx hb dX5_weave_98 (by decide) ?_
        exact ih_38 (x3_38 + (1 : Int32)) y_f_under_38 y_f_above_38 _ _ _ hm hP hD hS (lv_sub hl [1, 2, 3, 0] rfl)
      refine lv_aload_n hx hb dX5_weave_51 rfl (lv_at hl 0 rfl) ?_
      refine gf_X5_15 (v := .ref q_under) hx hb hts hown hK hP 0 rfl rfl dX5_weave_52 ?_
      refine lv_aload_n hx hb dX5_weave_55 rfl (lv_at hl 1 rfl) ?_
      refine gf_X5_40 (v := .ref q_p1_upper) hx hb hts hown hK hP 4 rfl rfl dX5_weave_56 ?_
      refine lv_iload_n hx hb dX5_weave_59 rfl (lv_at hl 3 rfl) ?_
      refine w_iald hx hb hK hP 5 rfl hm dX5_weave_60 (fun v_3 hm => ?_)
      refine lv_dup2_11 hx hb dX5_weave_61 rfl rfl ?_
      refine w_iald hx hb hK hP 1 rfl hm dX5_weave_62 (fun v_4 hm => ?_)
      refine lv_iconst (v := 1) hx hb dX5_weave_63 (by decide) ?_
      refine lv_aload_n hx hb dX5_weave_64 rfl (lv_at hl 1 rfl) ?_
      refine gf_X5_43 (v := .ref q_p1_lower) hx hb hts hown hK hP 4 rfl rfl dX5_weave_65 ?_
      refine lv_iload_n hx hb dX5_weave_68 rfl (lv_at hl 3 rfl) ?_
      refine w_iald hx hb hK hP 6 rfl hm dX5_weave_69 (fun v_5 hm => ?_)
      refine lv_ishl hx hb dX5_weave_70 ?_
      refine lv_ior hx hb dX5_weave_71 ?_
      refine w_iast hx hb hK hP hD hS 1 rfl hm dX5_weave_72 (fun g_6 => [(q_this, .inr (5, [.int p1_units, .ref q_under, .ref q_above, .ref q_reach, .ref q_levelRow, .ref q_shown, .ref q_stepsBack])), (q_under, .inl (gI G, 12, .inl g_6)), (q_above, .inl (gI G, 12, .inl y_f_above_38)), (q_reach, .inl (gI G, 12, .inl f_reach)), (q_p1, .inr (2, [.int p1_units, .int p1_ties, .int p1_digs, .int p1_sights, .int p1_events, .ref q_p1_traits, .ref q_p1_upper, .ref q_p1_lower, .ref q_p1_digRow, .ref q_p1_heldUnit, .ref q_p1_heldKind, .ref q_p1_seenFirst, .ref q_p1_seenSecond, .ref q_p1_seenIs, .ref q_p1_eventWhat, .ref q_p1_eventUnit])), (q_p1_upper, .inl (gI G, 40, .inl p1_upper)), (q_p1_lower, .inl (gI G, 40, .inl p1_lower))]) (fun _ => rfl) (fun g_6 H locs hm hP hD hS => ?_)
      refine lv_aload_n hx hb dX5_weave_73 rfl (lv_at hl 0 rfl) ?_
      refine gf_X5_19 (v := .ref q_above) hx hb hts hown hK hP 0 rfl rfl dX5_weave_74 ?_
      refine lv_aload_n hx hb dX5_weave_77 rfl (lv_at hl 1 rfl) ?_
      refine gf_X5_43 (v := .ref q_p1_lower) hx hb hts hown hK hP 4 rfl rfl dX5_weave_78 ?_
      refine lv_iload_n hx hb dX5_weave_81 rfl (lv_at hl 3 rfl) ?_
      refine w_iald hx hb hK hP 6 rfl hm dX5_weave_82 (fun v_7 hm => ?_)
      refine lv_dup2_11 hx hb dX5_weave_83 rfl rfl ?_
      refine w_iald hx hb hK hP 2 rfl hm dX5_weave_84 (fun v_8 hm => ?_)
      refine lv_iconst (v := 1) hx hb dX5_weave_85 (by decide) ?_
      refine lv_aload_n hx hb dX5_weave_86 rfl (lv_at hl 1 rfl) ?_
      refine gf_X5_40 (v := .ref q_p1_upper) hx hb hts hown hK hP 4 rfl rfl dX5_weave_87 ?_
      refine lv_iload_n hx hb dX5_weave_90 rfl (lv_at hl 3 rfl) ?_
      refine w_iald hx hb hK hP 5 rfl hm dX5_weave_91 (fun v_9 hm => ?_)
      refine lv_ishl hx hb dX5_weave_92 ?_
      refine lv_ior hx hb dX5_weave_93 ?_
      refine w_iast hx hb hK hP hD hS 2 rfl hm dX5_weave_94 (fun g_10 => [(q_this, .inr (5, [.int p1_units, .ref q_under, .ref q_above, .ref q_reach, .ref q_levelRow, .ref q_shown, .ref q_stepsBack])), (q_under, .inl (gI G, 12, .inl g_6)), (q_above, .inl (gI G, 12, .inl g_10)), (q_reach, .inl (gI G, 12, .inl f_reach)), (q_p1, .inr (2, [.int p1_units, .int p1_ties, .int p1_digs, .int p1_sights, .int p1_events, .ref q_p1_traits, .ref q_p1_upper, .ref q_p1_lower, .ref q_p1_digRow, .ref q_p1_heldUnit, .ref q_p1_heldKind, .ref q_p1_seenFirst, .ref q_p1_seenSecond, .ref q_p1_seenIs, .ref q_p1_eventWhat, .ref q_p1_eventUnit])), (q_p1_upper, .inl (gI G, 40, .inl p1_upper)), (q_p1_lower, .inl (gI G, 40, .inl p1_lower))]) (fun _ => rfl) (fun g_10 H locs hm hP hD hS => ?_)
      refine lv_iinc (v := (x3_38 + (1 : Int32))) (lv' := [(3, .int (x3_38 + (1 : Int32))), (0, .ref q_this), (1, .ref q_p1), (2, .int a_2)]) hx hb dX5_weave_95 hl (k := 3) rfl rfl (by decide) rfl (fun ls hl => ?_)
      refine lv_goto (tgt := 38) hx hb dX5_weave_98 (by decide) ?_
      exact ih_38 (x3_38 + (1 : Int32)) g_6 g_10 _ _ _ hm hP hD hS (lv_sub hl [1, 2, 3, 0] rfl)
  refine hL_38 _ ?_ FU (0 : Int32) y_f_under_10 y_f_above_10 _ _ _ hm hP hD hS (lv_sub hl [1, 2, 3, 0] rfl)
  intro x3_38 y_f_under_38 y_f_above_38 H locs ls hm hP hD hS hl
  refine lv_aload_n hx hb dX5_weave_101 rfl (lv_at hl 0 rfl) ?_
  obtain ⟨r_11, h_12, hm⟩ := cl_elim hm
  refine w_callV (As := []) (rest := []) (wr := [(q_above, .inl (gI G, 12, .inl y_f_above_38)), (q_p1, .inr (2, [.int p1_units, .int p1_ties, .int p1_digs, .int p1_sights, .int p1_events, .ref q_p1_traits, .ref q_p1_upper, .ref q_p1_lower, .ref q_p1_digRow, .ref q_p1_heldUnit, .ref q_p1_heldKind, .ref q_p1_seenFirst, .ref q_p1_seenSecond, .ref q_p1_seenIs, .ref q_p1_eventWhat, .ref q_p1_eventUnit])), (q_p1_upper, .inl (gI G, 40, .inl p1_upper)), (q_p1_lower, .inl (gI G, 40, .inl p1_lower))]) (W1 := [(q_this, .inr (5, [.int p1_units, .ref q_under, .ref q_above, .ref q_reach, .ref q_levelRow, .ref q_shown, .ref q_stepsBack])), (q_under, .inl (gI G, 12, .inl y_f_under_38)), (q_above, .inl (gI G, 12, .inl y_f_above_38)), (q_reach, .inl (gI G, 12, .inl r_11)), (q_p1, .inr (2, [.int p1_units, .int p1_ties, .int p1_digs, .int p1_sights, .int p1_events, .ref q_p1_traits, .ref q_p1_upper, .ref q_p1_lower, .ref q_p1_digRow, .ref q_p1_heldUnit, .ref q_p1_heldKind, .ref q_p1_seenFirst, .ref q_p1_seenSecond, .ref q_p1_seenIs, .ref q_p1_eventWhat, .ref q_p1_eventUnit])), (q_p1_upper, .inl (gI G, 40, .inl p1_upper)), (q_p1_lower, .inl (gI G, 40, .inl p1_lower))]) (ci := 5) (q0 := 0) hx hb hml hown hts hK hG hP hD hS hA (c_X5_closeChains G l q_this p1_units q_above q_levelRow q_shown q_stepsBack q_under y_f_under_38 q_reach f_reach h_12) kc_X5_closeChains ki_X5_closeChains bw434 rfl rfl rfl hl.1 rfl (Nat.le_of_ble_eq_true rfl) dX5_weave_102 (Nat.le_of_ble_eq_true rfl) (Nat.le_of_ble_eq_true rfl) ⟨Nat.le_refl _, Nat.le_refl _⟩ [0, 1, 3] [2, 4, 5, 6] [4, 5, 0, 6, 1, 2, 3] rfl rfl rfl rfl (by decide) rfl rfl (fun H locs hP hD hS => ?_)
  have hfin := fin _ _ ls _ _ (Option.some.inj hm) dX5_weave_105 hP hD hS
  exact hfin
set_option maxHeartbeats 0 in
set_option maxRecDepth 100000 in
theorem c_X5_reachersOf (G : GT) (l : Launch) (q_this : Nat) (f_units : Int32) (q_under : Nat) (q_above : Nat) (q_levelRow : Nat) (q_shown : Nat) (q_stepsBack : Nat) (q_reach : Nat) (f_reach : (Nat → Int32)) (a_1 : Int32) {res : Int32} (hm : m_X5_reachersOf f_units f_reach a_1 = some res) : CT G l yX5_reachersOf cX5_reachersOf 4 (some .int) 1 21 [.ref q_this, .int a_1] [(q_this, .inr (5, [.int f_units, .ref q_under, .ref q_above, .ref q_reach, .ref q_levelRow, .ref q_shown, .ref q_stepsBack])), (q_reach, .inl (gI G, 12, .inl f_reach))] [(q_this, .inr (5, [.int f_units, .ref q_under, .ref q_above, .ref q_reach, .ref q_levelRow, .ref q_shown, .ref q_stepsBack])), (q_reach, .inl (gI G, 12, .inl f_reach))] (some (.int res)) := by
  refine ctI (G := G) (l := l) (y := yX5_reachersOf) (cc := cX5_reachersOf) (maxL := 4) (fr := 1) (lo := 21) (As := [.ref q_this, .int a_1]) (res := res) (fun res : Int32 => [(q_this, .inr (5, [.int f_units, .ref q_under, .ref q_above, .ref q_reach, .ref q_levelRow, .ref q_shown, .ref q_stepsBack])), (q_reach, .inl (gI G, 12, .inl f_reach))]) (fun res : Int32 => res) (plainFor_of_name (by decide)) (Nat.le_of_ble_eq_true rfl) ?_
  intro p e s m below meth c A ls Q hx hb hml hown hts hK hG hA hP hD hS hl fin
  have hown : s.vm.findClass RX5 = some m.cls := hown
  have hl : lv_has ls 4 [(0, .ref q_this), (1, .int a_1)] := hl
  unfold m_X5_reachersOf at hm
  refine lv_iconst (v := 0) hx hb dX5_reachersOf_0 (by decide) ?_
  refine lv_istore_n (lv' := [(2, .int (0 : Int32)), (0, .ref q_this), (1, .int a_1)]) hx hb dX5_reachersOf_1 rfl hl (by decide) rfl (fun ls hl => ?_)
  refine lv_iconst (v := 0) hx hb dX5_reachersOf_2 (by decide) ?_
  refine lv_istore_n (lv' := [(3, .int (0 : Int32)), (2, .int (0 : Int32)), (0, .ref q_this), (1, .int a_1)]) hx hb dX5_reachersOf_3 rfl hl (by decide) rfl (fun ls hl => ?_)
  have hL_4 : ∀ (k_4 : Int32 → Int32 → Option Int32), (∀ (x2_4 : Int32) (x3_4 : Int32) (H : Heap) (locs : List Loc) (ls : Array Slot), k_4 x2_4 x3_4 = some res → va_P (gD G) vwCl [(q_this, .inr (5, [.int f_units, .ref q_under, .ref q_above, .ref q_reach, .ref q_levelRow, .ref q_shown, .ref q_stepsBack])), (q_reach, .inl (gI G, 12, .inl f_reach))] H → va_D A [(q_this, .inr (5, [.int f_units, .ref q_under, .ref q_above, .ref q_reach, .ref q_levelRow, .ref q_shown, .ref q_stepsBack])), (q_reach, .inl (gI G, 12, .inl f_reach))] → va_S A s.heap H locs → lv_has ls 4 [(2, .int x2_4)] → W p l e { frames := 1, cells := 0, slots := 0, locals := 21 } s m ([.ref q_this, .int a_1] : List Value).toArray below meth c H locs 0 0 Q (F0 m 37 ls [])) → ∀ (n_4 : Nat) (x2_4 : Int32) (x3_4 : Int32) (H : Heap) (locs : List Loc) (ls : Array Slot), m_X5_reachersOf_L4 f_units f_reach a_1 n_4 x2_4 x3_4 k_4 = some res → va_P (gD G) vwCl [(q_this, .inr (5, [.int f_units, .ref q_under, .ref q_above, .ref q_reach, .ref q_levelRow, .ref q_shown, .ref q_stepsBack])), (q_reach, .inl (gI G, 12, .inl f_reach))] H → va_D A [(q_this, .inr (5, [.int f_units, .ref q_under, .ref q_above, .ref q_reach, .ref q_levelRow, .ref q_shown, .ref q_stepsBack])), (q_reach, .inl (gI G, 12, .inl f_reach))] → va_S A s.heap H locs → lv_has ls 4 [(0, .ref q_this), (1, .int a_1), (2, .int x2_4), (3, .int x3_4)] → W p l e { frames := 1, cells := 0, slots := 0, locals := 21 } s m ([.ref q_this, .int a_1] : List Value).toArray below meth c H locs 0 0 Q (F0 m 4 ls []) := by
    intro k_4 hk_4 n_4
    induction n_4 with
    | zero =>
      intro x2_4 x3_4 H locs ls hm
      rw [m_X5_reachersOf_L4] at hm
      cases hm
    | succ n_4 ih_4 =>
      intro x2_4 x3_4 H locs ls hm hP hD hS hl
      rw [m_X5_reachersOf_L4] at hm
      refine lv_iload_n hx hb dX5_reachersOf_4 rfl (lv_at hl 3 rfl) ?_
      refine lv_aload_n hx hb dX5_reachersOf_5 rfl (lv_at hl 0 rfl) ?_
      refine gf_X5_9 (v := .int f_units) hx hb hts hown hK hP 0 rfl rfl dX5_reachersOf_6 ?_
      refine ic_ge (tgt := 37) hx hb dX5_reachersOf_9 (by decide) hm (fun hm => ?_) (fun hm => ?_)
      · exact hk_4 x2_4 x3_4 _ _ _ hm hP hD hS (lv_sub hl [2] rfl)
      refine lv_aload_n hx hb dX5_reachersOf_12 rfl (lv_at hl 0 rfl) ?_
      refine gf_X5_22 (v := .ref q_reach) hx hb hts hown hK hP 0 rfl rfl dX5_reachersOf_13 ?_
      refine lv_iload_n hx hb dX5_reachersOf_16 rfl (lv_at hl 3 rfl) ?_
      refine w_iald hx hb hK hP 1 rfl hm dX5_reachersOf_17 (fun v_1 hm => ?_)
      refine lv_iload_n hx hb dX5_reachersOf_18 rfl (lv_at hl 1 rfl) ?_
      obtain ⟨r_2, h_3, hm⟩ := cl_elim hm
      refine w_callN (As := [.int v_1, .int a_1]) (rest := []) (wr := [(q_this, .inr (5, [.int f_units, .ref q_under, .ref q_above, .ref q_reach, .ref q_levelRow, .ref q_shown, .ref q_stepsBack])), (q_reach, .inl (gI G, 12, .inl f_reach))]) (W1 := [(q_this, .inr (5, [.int f_units, .ref q_under, .ref q_above, .ref q_reach, .ref q_levelRow, .ref q_shown, .ref q_stepsBack])), (q_reach, .inl (gI G, 12, .inl f_reach))]) (host := "DigOrder") hx hb hml hown hts hK hG hP hD hS hA (c_X7_hasBit G l v_1 a_1 h_3) kc_X7_hasBit ks_X7_hasBit (by decide +kernel) rfl hl.1 rfl (Nat.le_of_ble_eq_true rfl) dX5_reachersOf_19 (Nat.le_of_ble_eq_true rfl) (Nat.le_of_ble_eq_true rfl) ⟨Nat.le_refl _, Nat.le_refl _⟩ [] [0, 1] [0, 1] rfl rfl rfl rfl (by decide) rfl rfl (fun H locs hP hD hS => ?_)
      refine if_eq (tgt := 31) hx hb dX5_reachersOf_22 (by decide) hm (fun hm => ?_) (fun hm => ?_)
      · refine lv_iinc (v := (x3_4 + (1 : Int32))) (lv' := [(3, .int (x3_4 + (1 : Int32))), (0, .ref q_this), (1, .int a_1), (2, .int x2_4)]) hx hb dX5_reachersOf_31 hl (k := 3) rfl rfl (by decide) rfl (fun ls hl => ?_)
        refine lv_goto (tgt := 4) hx hb dX5_reachersOf_34 (by decide) ?_
        exact ih_4 x2_4 (x3_4 + (1 : Int32)) _ _ _ hm hP hD hS (lv_sub hl [1, 2, 3, 0] rfl)
      refine lv_iload_n hx hb dX5_reachersOf_25 rfl (lv_at hl 2 rfl) ?_
      refine lv_iconst (v := 1) hx hb dX5_reachersOf_26 (by decide) ?_
      refine lv_iload_n hx hb dX5_reachersOf_27 rfl (lv_at hl 3 rfl) ?_
      refine lv_ishl hx hb dX5_reachersOf_28 ?_
      refine lv_ior hx hb dX5_reachersOf_29 ?_
      refine nmi hm (fun v_4 hm => ?_)
      refine lv_istore_n (lv' := [(2, .int v_4), (0, .ref q_this), (1, .int a_1), (3, .int x3_4)]) hx hb dX5_reachersOf_30 rfl hl (by decide) rfl (fun ls hl => ?_)
      refine lv_iinc (v := (x3_4 + (1 : Int32))) (lv' := [(3, .int (x3_4 + (1 : Int32))), (2, .int v_4), (0, .ref q_this), (1, .int a_1)]) hx hb dX5_reachersOf_31 hl (k := 3) rfl rfl (by decide) rfl (fun ls hl => ?_)
      refine lv_goto (tgt := 4) hx hb dX5_reachersOf_34 (by decide) ?_
      exact ih_4 v_4 (x3_4 + (1 : Int32)) _ _ _ hm hP hD hS (lv_sub hl [2, 3, 1, 0] rfl)
  refine hL_4 _ ?_ FU (0 : Int32) (0 : Int32) _ _ _ hm hP hD hS (lv_sub hl [2, 3, 1, 0] rfl)
  intro x2_4 x3_4 H locs ls hm hP hD hS hl
  refine lv_iload_n hx hb dX5_reachersOf_37 rfl (lv_at hl 0 rfl) ?_
  have hfin := fin _ _ ls _ _ (Option.some.inj hm) dX5_reachersOf_38 hP hD hS
  exact hfin
set_option maxHeartbeats 0 in
set_option maxRecDepth 100000 in
theorem c_X5_isReduced (G : GT) (l : Launch) (q_this : Nat) (f_units : Int32) (q_above : Nat) (q_levelRow : Nat) (q_shown : Nat) (q_stepsBack : Nat) (q_under : Nat) (f_under : (Nat → Int32)) (q_reach : Nat) (f_reach : (Nat → Int32)) (a_1 : Int32) (a_2 : Int32) {res : Int32} (hm : m_X5_isReduced f_units f_under f_reach a_1 a_2 = some res) : CT G l yX5_isReduced cX5_isReduced 3 (some .boolean) 3 65 [.ref q_this, .int a_1, .int a_2] [(q_this, .inr (5, [.int f_units, .ref q_under, .ref q_above, .ref q_reach, .ref q_levelRow, .ref q_shown, .ref q_stepsBack])), (q_under, .inl (gI G, 12, .inl f_under)), (q_reach, .inl (gI G, 12, .inl f_reach))] [(q_this, .inr (5, [.int f_units, .ref q_under, .ref q_above, .ref q_reach, .ref q_levelRow, .ref q_shown, .ref q_stepsBack])), (q_under, .inl (gI G, 12, .inl f_under)), (q_reach, .inl (gI G, 12, .inl f_reach))] (some (.int res)) := by
  refine ctZ (G := G) (l := l) (y := yX5_isReduced) (cc := cX5_isReduced) (maxL := 3) (fr := 3) (lo := 65) (As := [.ref q_this, .int a_1, .int a_2]) (res := res) (fun res : Int32 => [(q_this, .inr (5, [.int f_units, .ref q_under, .ref q_above, .ref q_reach, .ref q_levelRow, .ref q_shown, .ref q_stepsBack])), (q_under, .inl (gI G, 12, .inl f_under)), (q_reach, .inl (gI G, 12, .inl f_reach))]) (fun res : Int32 => res) (plainFor_of_name (by decide)) (Nat.le_of_ble_eq_true rfl) ?_
  intro p e s m below meth c A ls Q hx hb hml hown hts hK hG hA hP hD hS hl fin
  have hown : s.vm.findClass RX5 = some m.cls := hown
  have hl : lv_has ls 3 [(0, .ref q_this), (1, .int a_1), (2, .int a_2)] := hl
  unfold m_X5_isReduced at hm
  refine lv_aload_n hx hb dX5_isReduced_0 rfl (lv_at hl 0 rfl) ?_
  refine lv_iload_n hx hb dX5_isReduced_1 rfl (lv_at hl 1 rfl) ?_
  obtain ⟨r_1, h_2, hm⟩ := cl_elim hm
  refine w_callV (As := [.int a_1]) (rest := []) (wr := []) (W1 := [(q_this, .inr (5, [.int f_units, .ref q_under, .ref q_above, .ref q_reach, .ref q_levelRow, .ref q_shown, .ref q_stepsBack])), (q_under, .inl (gI G, 12, .inl f_under)), (q_reach, .inl (gI G, 12, .inl f_reach))]) (ci := 5) (q0 := 0) hx hb hml hown hts hK hG hP hD hS hA (c_X5_reducedUnder G l q_this f_units q_above q_levelRow q_shown q_stepsBack q_under f_under q_reach f_reach a_1 h_2) kc_X5_reducedUnder ki_X5_reducedUnder bw443 rfl rfl rfl hl.1 rfl (Nat.le_of_ble_eq_true rfl) dX5_isReduced_2 (Nat.le_of_ble_eq_true rfl) (Nat.le_of_ble_eq_true rfl) ⟨Nat.le_refl _, Nat.le_refl _⟩ [0, 1, 2] [] [0, 1, 2] rfl rfl rfl rfl (by decide) rfl rfl (fun H locs hP hD hS => ?_)
  refine lv_iload_n hx hb dX5_isReduced_5 rfl (lv_at hl 2 rfl) ?_
  obtain ⟨r_3, h_4, hm⟩ := cl_elim hm
  refine w_callN (As := [.int r_1, .int a_2]) (rest := []) (wr := [(q_this, .inr (5, [.int f_units, .ref q_under, .ref q_above, .ref q_reach, .ref q_levelRow, .ref q_shown, .ref q_stepsBack])), (q_under, .inl (gI G, 12, .inl f_under)), (q_reach, .inl (gI G, 12, .inl f_reach))]) (W1 := [(q_this, .inr (5, [.int f_units, .ref q_under, .ref q_above, .ref q_reach, .ref q_levelRow, .ref q_shown, .ref q_stepsBack])), (q_under, .inl (gI G, 12, .inl f_under)), (q_reach, .inl (gI G, 12, .inl f_reach))]) (host := "DigOrder") hx hb hml hown hts hK hG hP hD hS hA (c_X7_hasBit G l r_1 a_2 h_4) kc_X7_hasBit ks_X7_hasBit (by decide +kernel) rfl hl.1 rfl (Nat.le_of_ble_eq_true rfl) dX5_isReduced_6 (Nat.le_of_ble_eq_true rfl) (Nat.le_of_ble_eq_true rfl) ⟨Nat.le_refl _, Nat.le_refl _⟩ [] [0, 1, 2] [0, 1, 2] rfl rfl rfl rfl (by decide) rfl rfl (fun H locs hP hD hS => ?_)
  obtain ⟨hz, hm⟩ := zg_elim hm
  have hfin := fin _ _ ls _ _ (Option.some.inj hm) dX5_isReduced_9 hz hP hD hS
  exact hfin
set_option maxHeartbeats 0 in
set_option maxRecDepth 100000 in
theorem c_J6_bitCount_0f7a4 (G : GT) (l : Launch) (a_1 : Int32) {res : Int32} (hm : m_J6_bitCount_0f7a4 a_1 = some res) : CT G l yJ6_bitCount_0f7a4 cJ6_bitCount_0f7a4 1 (some .int) 0 0 [.int a_1] [] [] (some (.int res)) := by
  refine ctI (G := G) (l := l) (y := yJ6_bitCount_0f7a4) (cc := cJ6_bitCount_0f7a4) (maxL := 1) (fr := 0) (lo := 0) (As := [.int a_1]) (res := res) (fun res : Int32 => []) (fun res : Int32 => res) (plainFor_of_name (by decide)) (Nat.le_of_ble_eq_true rfl) ?_
  intro p e s m below meth c A ls Q hx hb hml hown hts hK hG hA hP hD hS hl fin
  have hown : s.vm.findClass RJ6 = some m.cls := hown
  have hl : lv_has ls 1 [(0, .int a_1)] := hl
  unfold m_J6_bitCount_0f7a4 at hm
  refine lv_iload_n hx hb dJ6_bitCount_0f7a4_0 rfl (lv_at hl 0 rfl) ?_
  refine lv_iload_n hx hb dJ6_bitCount_0f7a4_1 rfl (lv_at hl 0 rfl) ?_
  refine lv_iconst (v := 1) hx hb dJ6_bitCount_0f7a4_2 (by decide) ?_
  refine lv_iushr hx hb dJ6_bitCount_0f7a4_3 rfl ?_
  refine lv_ldcw (v := (1431655765 : Int32)) hx hb hown (hts _ bw458) dJ6_bitCount_0f7a4_4 ?_
  refine lv_iand hx hb dJ6_bitCount_0f7a4_7 ?_
  refine lv_isub hx hb dJ6_bitCount_0f7a4_8 ?_
  refine nmi hm (fun v_1 hm => ?_)
  refine lv_istore_n (lv' := [(0, .int v_1)]) hx hb dJ6_bitCount_0f7a4_9 rfl hl (by decide) rfl (fun ls hl => ?_)
  refine lv_iload_n hx hb dJ6_bitCount_0f7a4_10 rfl (lv_at hl 0 rfl) ?_
  refine lv_ldcw (v := (858993459 : Int32)) hx hb hown (hts _ bw459) dJ6_bitCount_0f7a4_11 ?_
  refine lv_iand hx hb dJ6_bitCount_0f7a4_14 ?_
  refine lv_iload_n hx hb dJ6_bitCount_0f7a4_15 rfl (lv_at hl 0 rfl) ?_
  refine lv_iconst (v := 2) hx hb dJ6_bitCount_0f7a4_16 (by decide) ?_
  refine lv_iushr hx hb dJ6_bitCount_0f7a4_17 rfl ?_
  refine lv_ldcw (v := (858993459 : Int32)) hx hb hown (hts _ bw459) dJ6_bitCount_0f7a4_18 ?_
  refine lv_iand hx hb dJ6_bitCount_0f7a4_21 ?_
  refine lv_iadd hx hb dJ6_bitCount_0f7a4_22 ?_
  refine nmi hm (fun v_2 hm => ?_)
  refine lv_istore_n (lv' := [(0, .int v_2)]) hx hb dJ6_bitCount_0f7a4_23 rfl hl (by decide) rfl (fun ls hl => ?_)
  refine lv_iload_n hx hb dJ6_bitCount_0f7a4_24 rfl (lv_at hl 0 rfl) ?_
  refine lv_iload_n hx hb dJ6_bitCount_0f7a4_25 rfl (lv_at hl 0 rfl) ?_
  refine lv_iconst (v := 4) hx hb dJ6_bitCount_0f7a4_26 (by decide) ?_
  refine lv_iushr hx hb dJ6_bitCount_0f7a4_27 rfl ?_
  refine lv_iadd hx hb dJ6_bitCount_0f7a4_28 ?_
  refine lv_ldcw (v := (252645135 : Int32)) hx hb hown (hts _ bw460) dJ6_bitCount_0f7a4_29 ?_
  refine lv_iand hx hb dJ6_bitCount_0f7a4_32 ?_
  refine nmi hm (fun v_3 hm => ?_)
  refine lv_istore_n (lv' := [(0, .int v_3)]) hx hb dJ6_bitCount_0f7a4_33 rfl hl (by decide) rfl (fun ls hl => ?_)
  refine lv_iload_n hx hb dJ6_bitCount_0f7a4_34 rfl (lv_at hl 0 rfl) ?_
  refine lv_iload_n hx hb dJ6_bitCount_0f7a4_35 rfl (lv_at hl 0 rfl) ?_
  refine lv_bipush (v := 8) hx hb dJ6_bitCount_0f7a4_36 (by decide) ?_
  refine lv_iushr hx hb dJ6_bitCount_0f7a4_38 rfl ?_
  refine lv_iadd hx hb dJ6_bitCount_0f7a4_39 ?_
  refine nmi hm (fun v_4 hm => ?_)
  refine lv_istore_n (lv' := [(0, .int v_4)]) hx hb dJ6_bitCount_0f7a4_40 rfl hl (by decide) rfl (fun ls hl => ?_)
  refine lv_iload_n hx hb dJ6_bitCount_0f7a4_41 rfl (lv_at hl 0 rfl) ?_
  refine lv_iload_n hx hb dJ6_bitCount_0f7a4_42 rfl (lv_at hl 0 rfl) ?_
  refine lv_bipush (v := 16) hx hb dJ6_bitCount_0f7a4_43 (by decide) ?_
  refine lv_iushr hx hb dJ6_bitCount_0f7a4_45 rfl ?_
  refine lv_iadd hx hb dJ6_bitCount_0f7a4_46 ?_
  refine nmi hm (fun v_5 hm => ?_)
  refine lv_istore_n (lv' := [(0, .int v_5)]) hx hb dJ6_bitCount_0f7a4_47 rfl hl (by decide) rfl (fun ls hl => ?_)
  refine lv_iload_n hx hb dJ6_bitCount_0f7a4_48 rfl (lv_at hl 0 rfl) ?_
  refine lv_bipush (v := 63) hx hb dJ6_bitCount_0f7a4_49 (by decide) ?_
  refine lv_iand hx hb dJ6_bitCount_0f7a4_51 ?_
  have hfin := fin _ _ ls _ _ (Option.some.inj hm) dJ6_bitCount_0f7a4_52 hP hD hS
  exact hfin
set_option maxHeartbeats 0 in
set_option maxRecDepth 100000 in
theorem c_X5_reducedTies (G : GT) (l : Launch) (q_this : Nat) (f_units : Int32) (q_above : Nat) (q_levelRow : Nat) (q_shown : Nat) (q_stepsBack : Nat) (q_under : Nat) (f_under : (Nat → Int32)) (q_reach : Nat) (f_reach : (Nat → Int32)) {res : Int32} (hm : m_X5_reducedTies f_units f_under f_reach = some res) : CT G l yX5_reducedTies cX5_reducedTies 3 (some .int) 3 65 [.ref q_this] [(q_this, .inr (5, [.int f_units, .ref q_under, .ref q_above, .ref q_reach, .ref q_levelRow, .ref q_shown, .ref q_stepsBack])), (q_under, .inl (gI G, 12, .inl f_under)), (q_reach, .inl (gI G, 12, .inl f_reach))] [(q_this, .inr (5, [.int f_units, .ref q_under, .ref q_above, .ref q_reach, .ref q_levelRow, .ref q_shown, .ref q_stepsBack])), (q_under, .inl (gI G, 12, .inl f_under)), (q_reach, .inl (gI G, 12, .inl f_reach))] (some (.int res)) := by
  refine ctI (G := G) (l := l) (y := yX5_reducedTies) (cc := cX5_reducedTies) (maxL := 3) (fr := 3) (lo := 65) (As := [.ref q_this]) (res := res) (fun res : Int32 => [(q_this, .inr (5, [.int f_units, .ref q_under, .ref q_above, .ref q_reach, .ref q_levelRow, .ref q_shown, .ref q_stepsBack])), (q_under, .inl (gI G, 12, .inl f_under)), (q_reach, .inl (gI G, 12, .inl f_reach))]) (fun res : Int32 => res) (plainFor_of_name (by decide)) (Nat.le_of_ble_eq_true rfl) ?_
  intro p e s m below meth c A ls Q hx hb hml hown hts hK hG hA hP hD hS hl fin
  have hown : s.vm.findClass RX5 = some m.cls := hown
  have hl : lv_has ls 3 [(0, .ref q_this)] := hl
  unfold m_X5_reducedTies at hm
  refine lv_iconst (v := 0) hx hb dX5_reducedTies_0 (by decide) ?_
  refine lv_istore_n (lv' := [(1, .int (0 : Int32)), (0, .ref q_this)]) hx hb dX5_reducedTies_1 rfl hl (by decide) rfl (fun ls hl => ?_)
  refine lv_iconst (v := 0) hx hb dX5_reducedTies_2 (by decide) ?_
  refine lv_istore_n (lv' := [(2, .int (0 : Int32)), (1, .int (0 : Int32)), (0, .ref q_this)]) hx hb dX5_reducedTies_3 rfl hl (by decide) rfl (fun ls hl => ?_)
  have hL_4 : ∀ (k_4 : Int32 → Int32 → Option Int32), (∀ (x1_4 : Int32) (x2_4 : Int32) (H : Heap) (locs : List Loc) (ls : Array Slot), k_4 x1_4 x2_4 = some res → va_P (gD G) vwCl [(q_this, .inr (5, [.int f_units, .ref q_under, .ref q_above, .ref q_reach, .ref q_levelRow, .ref q_shown, .ref q_stepsBack])), (q_under, .inl (gI G, 12, .inl f_under)), (q_reach, .inl (gI G, 12, .inl f_reach))] H → va_D A [(q_this, .inr (5, [.int f_units, .ref q_under, .ref q_above, .ref q_reach, .ref q_levelRow, .ref q_shown, .ref q_stepsBack])), (q_under, .inl (gI G, 12, .inl f_under)), (q_reach, .inl (gI G, 12, .inl f_reach))] → va_S A s.heap H locs → lv_has ls 3 [(1, .int x1_4)] → W p l e { frames := 3, cells := 0, slots := 0, locals := 65 } s m ([.ref q_this] : List Value).toArray below meth c H locs 0 0 Q (F0 m 29 ls [])) → ∀ (n_4 : Nat) (x1_4 : Int32) (x2_4 : Int32) (H : Heap) (locs : List Loc) (ls : Array Slot), m_X5_reducedTies_L4 f_units f_under f_reach n_4 x1_4 x2_4 k_4 = some res → va_P (gD G) vwCl [(q_this, .inr (5, [.int f_units, .ref q_under, .ref q_above, .ref q_reach, .ref q_levelRow, .ref q_shown, .ref q_stepsBack])), (q_under, .inl (gI G, 12, .inl f_under)), (q_reach, .inl (gI G, 12, .inl f_reach))] H → va_D A [(q_this, .inr (5, [.int f_units, .ref q_under, .ref q_above, .ref q_reach, .ref q_levelRow, .ref q_shown, .ref q_stepsBack])), (q_under, .inl (gI G, 12, .inl f_under)), (q_reach, .inl (gI G, 12, .inl f_reach))] → va_S A s.heap H locs → lv_has ls 3 [(0, .ref q_this), (1, .int x1_4), (2, .int x2_4)] → W p l e { frames := 3, cells := 0, slots := 0, locals := 65 } s m ([.ref q_this] : List Value).toArray below meth c H locs 0 0 Q (F0 m 4 ls []) := by
    intro k_4 hk_4 n_4
    induction n_4 with
    | zero =>
      intro x1_4 x2_4 H locs ls hm
      rw [m_X5_reducedTies_L4] at hm
      cases hm
    | succ n_4 ih_4 =>
      intro x1_4 x2_4 H locs ls hm hP hD hS hl
      rw [m_X5_reducedTies_L4] at hm
      refine lv_iload_n hx hb dX5_reducedTies_4 rfl (lv_at hl 2 rfl) ?_
      refine lv_aload_n hx hb dX5_reducedTies_5 rfl (lv_at hl 0 rfl) ?_
      refine gf_X5_9 (v := .int f_units) hx hb hts hown hK hP 0 rfl rfl dX5_reducedTies_6 ?_
      refine ic_ge (tgt := 29) hx hb dX5_reducedTies_9 (by decide) hm (fun hm => ?_) (fun hm => ?_)
      · exact hk_4 x1_4 x2_4 _ _ _ hm hP hD hS (lv_sub hl [1] rfl)
      refine lv_iload_n hx hb dX5_reducedTies_12 rfl (lv_at hl 1 rfl) ?_
      refine lv_aload_n hx hb dX5_reducedTies_13 rfl (lv_at hl 0 rfl) ?_
      refine lv_iload_n hx hb dX5_reducedTies_14 rfl (lv_at hl 2 rfl) ?_
      obtain ⟨r_1, h_2, hm⟩ := cl_elim hm
      refine w_callV (As := [.int x2_4]) (rest := [.int x1_4]) (wr := []) (W1 := [(q_this, .inr (5, [.int f_units, .ref q_under, .ref q_above, .ref q_reach, .ref q_levelRow, .ref q_shown, .ref q_stepsBack])), (q_under, .inl (gI G, 12, .inl f_under)), (q_reach, .inl (gI G, 12, .inl f_reach))]) (ci := 5) (q0 := 0) hx hb hml hown hts hK hG hP hD hS hA (c_X5_reducedUnder G l q_this f_units q_above q_levelRow q_shown q_stepsBack q_under f_under q_reach f_reach x2_4 h_2) kc_X5_reducedUnder ki_X5_reducedUnder bw443 rfl rfl rfl hl.1 rfl (Nat.le_of_ble_eq_true rfl) dX5_reducedTies_15 (Nat.le_of_ble_eq_true rfl) (Nat.le_of_ble_eq_true rfl) ⟨Nat.le_refl _, Nat.le_refl _⟩ [0, 1, 2] [] [0, 1, 2] rfl rfl rfl rfl (by decide) rfl rfl (fun H locs hP hD hS => ?_)
      obtain ⟨r_3, h_4, hm⟩ := cl_elim hm
      refine w_callS (As := [.int r_1]) (rest := [.int x1_4]) (wr := [(q_this, .inr (5, [.int f_units, .ref q_under, .ref q_above, .ref q_reach, .ref q_levelRow, .ref q_shown, .ref q_stepsBack])), (q_under, .inl (gI G, 12, .inl f_under)), (q_reach, .inl (gI G, 12, .inl f_reach))]) (W1 := [(q_this, .inr (5, [.int f_units, .ref q_under, .ref q_above, .ref q_reach, .ref q_levelRow, .ref q_shown, .ref q_stepsBack])), (q_under, .inl (gI G, 12, .inl f_under)), (q_reach, .inl (gI G, 12, .inl f_reach))]) hx hb hml hown hts hK hG hP hD hS hA (c_J6_bitCount_0f7a4 G l r_1 h_4) kc_J6_bitCount_0f7a4 ks_J6_bitCount_0f7a4 bw455 rfl hl.1 rfl (Nat.le_of_ble_eq_true rfl) dX5_reducedTies_18 (Nat.le_of_ble_eq_true rfl) (Nat.le_of_ble_eq_true rfl) ⟨Nat.le_refl _, Nat.le_refl _⟩ [] [0, 1, 2] [0, 1, 2] rfl rfl rfl rfl (by decide) rfl rfl (fun H locs hP hD hS => ?_)
      refine lv_iadd hx hb dX5_reducedTies_21 ?_
      refine lv_istore_n (lv' := [(1, .int (x1_4 + r_3)), (0, .ref q_this), (2, .int x2_4)]) hx hb dX5_reducedTies_22 rfl hl (by decide) rfl (fun ls hl => ?_)
      refine lv_iinc (v := (x2_4 + (1 : Int32))) (lv' := [(2, .int (x2_4 + (1 : Int32))), (1, .int (x1_4 + r_3)), (0, .ref q_this)]) hx hb dX5_reducedTies_23 hl (k := 2) rfl rfl (by decide) rfl (fun ls hl => ?_)
      refine lv_goto (tgt := 4) hx hb dX5_reducedTies_26 (by decide) ?_
      exact ih_4 (x1_4 + r_3) (x2_4 + (1 : Int32)) _ _ _ hm hP hD hS (lv_sub hl [2, 1, 0] rfl)
  refine hL_4 _ ?_ FU (0 : Int32) (0 : Int32) _ _ _ hm hP hD hS (lv_sub hl [2, 1, 0] rfl)
  intro x1_4 x2_4 H locs ls hm hP hD hS hl
  refine lv_iload_n hx hb dX5_reducedTies_29 rfl (lv_at hl 0 rfl) ?_
  have hfin := fin _ _ ls _ _ (Option.some.inj hm) dX5_reducedTies_30 hP hD hS
  exact hfin
set_option maxHeartbeats 0 in
set_option maxRecDepth 100000 in
theorem c_X5_agrees (G : GT) (l : Launch) (q_this : Nat) (f_units : Int32) (q_under : Nat) (q_above : Nat) (q_levelRow : Nat) (q_shown : Nat) (q_stepsBack : Nat) (q_reach : Nat) (f_reach : (Nat → Int32)) (q_p1 : Nat) (p1_units : Int32) (p1_ties : Int32) (p1_digs : Int32) (p1_sights : Int32) (p1_events : Int32) (q_p1_traits : Nat) (q_p1_upper : Nat) (q_p1_lower : Nat) (q_p1_digRow : Nat) (q_p1_heldUnit : Nat) (q_p1_heldKind : Nat) (q_p1_eventWhat : Nat) (q_p1_eventUnit : Nat) (q_p1_seenFirst : Nat) (p1_seenFirst : (Nat → Int32)) (q_p1_seenSecond : Nat) (p1_seenSecond : (Nat → Int32)) (q_p1_seenIs : Nat) (p1_seenIs : (Nat → Int32)) {res : Int32} (hm : m_X5_agrees f_reach p1_sights p1_seenFirst p1_seenSecond p1_seenIs = some res) : CT G l yX5_agrees cX5_agrees 3 (some .boolean) 1 21 [.ref q_this, .ref q_p1] [(q_this, .inr (5, [.int f_units, .ref q_under, .ref q_above, .ref q_reach, .ref q_levelRow, .ref q_shown, .ref q_stepsBack])), (q_reach, .inl (gI G, 12, .inl f_reach)), (q_p1, .inr (2, [.int p1_units, .int p1_ties, .int p1_digs, .int p1_sights, .int p1_events, .ref q_p1_traits, .ref q_p1_upper, .ref q_p1_lower, .ref q_p1_digRow, .ref q_p1_heldUnit, .ref q_p1_heldKind, .ref q_p1_seenFirst, .ref q_p1_seenSecond, .ref q_p1_seenIs, .ref q_p1_eventWhat, .ref q_p1_eventUnit])), (q_p1_seenFirst, .inl (gI G, 5, .inl p1_seenFirst)), (q_p1_seenSecond, .inl (gI G, 5, .inl p1_seenSecond)), (q_p1_seenIs, .inl (gZ G, 5, .inl p1_seenIs))] [(q_this, .inr (5, [.int f_units, .ref q_under, .ref q_above, .ref q_reach, .ref q_levelRow, .ref q_shown, .ref q_stepsBack])), (q_reach, .inl (gI G, 12, .inl f_reach)), (q_p1, .inr (2, [.int p1_units, .int p1_ties, .int p1_digs, .int p1_sights, .int p1_events, .ref q_p1_traits, .ref q_p1_upper, .ref q_p1_lower, .ref q_p1_digRow, .ref q_p1_heldUnit, .ref q_p1_heldKind, .ref q_p1_seenFirst, .ref q_p1_seenSecond, .ref q_p1_seenIs, .ref q_p1_eventWhat, .ref q_p1_eventUnit])), (q_p1_seenFirst, .inl (gI G, 5, .inl p1_seenFirst)), (q_p1_seenSecond, .inl (gI G, 5, .inl p1_seenSecond)), (q_p1_seenIs, .inl (gZ G, 5, .inl p1_seenIs))] (some (.int res)) := by
  refine ctZ (G := G) (l := l) (y := yX5_agrees) (cc := cX5_agrees) (maxL := 3) (fr := 1) (lo := 21) (As := [.ref q_this, .ref q_p1]) (res := res) (fun res : Int32 => [(q_this, .inr (5, [.int f_units, .ref q_under, .ref q_above, .ref q_reach, .ref q_levelRow, .ref q_shown, .ref q_stepsBack])), (q_reach, .inl (gI G, 12, .inl f_reach)), (q_p1, .inr (2, [.int p1_units, .int p1_ties, .int p1_digs, .int p1_sights, .int p1_events, .ref q_p1_traits, .ref q_p1_upper, .ref q_p1_lower, .ref q_p1_digRow, .ref q_p1_heldUnit, .ref q_p1_heldKind, .ref q_p1_seenFirst, .ref q_p1_seenSecond, .ref q_p1_seenIs, .ref q_p1_eventWhat, .ref q_p1_eventUnit])), (q_p1_seenFirst, .inl (gI G, 5, .inl p1_seenFirst)), (q_p1_seenSecond, .inl (gI G, 5, .inl p1_seenSecond)), (q_p1_seenIs, .inl (gZ G, 5, .inl p1_seenIs))]) (fun res : Int32 => res) (plainFor_of_name (by decide)) (Nat.le_of_ble_eq_true rfl) ?_
  intro p e s m below meth c A ls Q hx hb hml hown hts hK hG hA hP hD hS hl fin
  have hown : s.vm.findClass RX5 = some m.cls := hown
  have hl : lv_has ls 3 [(0, .ref q_this), (1, .ref q_p1)] := hl
  unfold m_X5_agrees at hm
  refine lv_iconst (v := 0) hx hb dX5_agrees_0 (by decide) ?_
  refine lv_istore_n (lv' := [(2, .int (0 : Int32)), (0, .ref q_this), (1, .ref q_p1)]) hx hb dX5_agrees_1 rfl hl (by decide) rfl (fun ls hl => ?_)
  have hL_2 : ∀ (k_2 : Int32 → Option Int32), (∀ (x2_2 : Int32) (H : Heap) (locs : List Loc) (ls : Array Slot), k_2 x2_2 = some res → va_P (gD G) vwCl [(q_this, .inr (5, [.int f_units, .ref q_under, .ref q_above, .ref q_reach, .ref q_levelRow, .ref q_shown, .ref q_stepsBack])), (q_reach, .inl (gI G, 12, .inl f_reach)), (q_p1, .inr (2, [.int p1_units, .int p1_ties, .int p1_digs, .int p1_sights, .int p1_events, .ref q_p1_traits, .ref q_p1_upper, .ref q_p1_lower, .ref q_p1_digRow, .ref q_p1_heldUnit, .ref q_p1_heldKind, .ref q_p1_seenFirst, .ref q_p1_seenSecond, .ref q_p1_seenIs, .ref q_p1_eventWhat, .ref q_p1_eventUnit])), (q_p1_seenFirst, .inl (gI G, 5, .inl p1_seenFirst)), (q_p1_seenSecond, .inl (gI G, 5, .inl p1_seenSecond)), (q_p1_seenIs, .inl (gZ G, 5, .inl p1_seenIs))] H → va_D A [(q_this, .inr (5, [.int f_units, .ref q_under, .ref q_above, .ref q_reach, .ref q_levelRow, .ref q_shown, .ref q_stepsBack])), (q_reach, .inl (gI G, 12, .inl f_reach)), (q_p1, .inr (2, [.int p1_units, .int p1_ties, .int p1_digs, .int p1_sights, .int p1_events, .ref q_p1_traits, .ref q_p1_upper, .ref q_p1_lower, .ref q_p1_digRow, .ref q_p1_heldUnit, .ref q_p1_heldKind, .ref q_p1_seenFirst, .ref q_p1_seenSecond, .ref q_p1_seenIs, .ref q_p1_eventWhat, .ref q_p1_eventUnit])), (q_p1_seenFirst, .inl (gI G, 5, .inl p1_seenFirst)), (q_p1_seenSecond, .inl (gI G, 5, .inl p1_seenSecond)), (q_p1_seenIs, .inl (gZ G, 5, .inl p1_seenIs))] → va_S A s.heap H locs → lv_has ls 3 [] → W p l e { frames := 1, cells := 0, slots := 0, locals := 21 } s m ([.ref q_this, .ref q_p1] : List Value).toArray below meth c H locs 0 0 Q (F0 m 47 ls [])) → ∀ (n_2 : Nat) (x2_2 : Int32) (H : Heap) (locs : List Loc) (ls : Array Slot), m_X5_agrees_L2 p1_sights f_reach p1_seenFirst p1_seenSecond p1_seenIs n_2 x2_2 k_2 = some res → va_P (gD G) vwCl [(q_this, .inr (5, [.int f_units, .ref q_under, .ref q_above, .ref q_reach, .ref q_levelRow, .ref q_shown, .ref q_stepsBack])), (q_reach, .inl (gI G, 12, .inl f_reach)), (q_p1, .inr (2, [.int p1_units, .int p1_ties, .int p1_digs, .int p1_sights, .int p1_events, .ref q_p1_traits, .ref q_p1_upper, .ref q_p1_lower, .ref q_p1_digRow, .ref q_p1_heldUnit, .ref q_p1_heldKind, .ref q_p1_seenFirst, .ref q_p1_seenSecond, .ref q_p1_seenIs, .ref q_p1_eventWhat, .ref q_p1_eventUnit])), (q_p1_seenFirst, .inl (gI G, 5, .inl p1_seenFirst)), (q_p1_seenSecond, .inl (gI G, 5, .inl p1_seenSecond)), (q_p1_seenIs, .inl (gZ G, 5, .inl p1_seenIs))] H → va_D A [(q_this, .inr (5, [.int f_units, .ref q_under, .ref q_above, .ref q_reach, .ref q_levelRow, .ref q_shown, .ref q_stepsBack])), (q_reach, .inl (gI G, 12, .inl f_reach)), (q_p1, .inr (2, [.int p1_units, .int p1_ties, .int p1_digs, .int p1_sights, .int p1_events, .ref q_p1_traits, .ref q_p1_upper, .ref q_p1_lower, .ref q_p1_digRow, .ref q_p1_heldUnit, .ref q_p1_heldKind, .ref q_p1_seenFirst, .ref q_p1_seenSecond, .ref q_p1_seenIs, .ref q_p1_eventWhat, .ref q_p1_eventUnit])), (q_p1_seenFirst, .inl (gI G, 5, .inl p1_seenFirst)), (q_p1_seenSecond, .inl (gI G, 5, .inl p1_seenSecond)), (q_p1_seenIs, .inl (gZ G, 5, .inl p1_seenIs))] → va_S A s.heap H locs → lv_has ls 3 [(0, .ref q_this), (1, .ref q_p1), (2, .int x2_2)] → W p l e { frames := 1, cells := 0, slots := 0, locals := 21 } s m ([.ref q_this, .ref q_p1] : List Value).toArray below meth c H locs 0 0 Q (F0 m 2 ls []) := by
    intro k_2 hk_2 n_2
    induction n_2 with
    | zero =>
      intro x2_2 H locs ls hm
      rw [m_X5_agrees_L2] at hm
      cases hm
    | succ n_2 ih_2 =>
      intro x2_2 H locs ls hm hP hD hS hl
      rw [m_X5_agrees_L2] at hm
      refine lv_iload_n hx hb dX5_agrees_2 rfl (lv_at hl 2 rfl) ?_
      refine lv_aload_n hx hb dX5_agrees_3 rfl (lv_at hl 1 rfl) ?_
      refine gf_X5_79 (v := .int p1_sights) hx hb hts hown hK hP 2 rfl rfl dX5_agrees_4 ?_
      refine ic_ge (tgt := 47) hx hb dX5_agrees_7 (by decide) hm (fun hm => ?_) (fun hm => ?_)
      · exact hk_2 x2_2 _ _ _ hm hP hD hS (lv_sub hl [] rfl)
      refine lv_aload_n hx hb dX5_agrees_10 rfl (lv_at hl 0 rfl) ?_
      refine gf_X5_22 (v := .ref q_reach) hx hb hts hown hK hP 0 rfl rfl dX5_agrees_11 ?_
      refine lv_aload_n hx hb dX5_agrees_14 rfl (lv_at hl 1 rfl) ?_
      refine gf_X5_82 (v := .ref q_p1_seenFirst) hx hb hts hown hK hP 2 rfl rfl dX5_agrees_15 ?_
      refine lv_iload_n hx hb dX5_agrees_18 rfl (lv_at hl 2 rfl) ?_
      refine w_iald hx hb hK hP 3 rfl hm dX5_agrees_19 (fun v_1 hm => ?_)
      refine w_iald hx hb hK hP 1 rfl hm dX5_agrees_20 (fun v_2 hm => ?_)
      refine lv_aload_n hx hb dX5_agrees_21 rfl (lv_at hl 1 rfl) ?_
      refine gf_X5_85 (v := .ref q_p1_seenSecond) hx hb hts hown hK hP 2 rfl rfl dX5_agrees_22 ?_
      refine lv_iload_n hx hb dX5_agrees_25 rfl (lv_at hl 2 rfl) ?_
      refine w_iald hx hb hK hP 4 rfl hm dX5_agrees_26 (fun v_3 hm => ?_)
      obtain ⟨r_4, h_5, hm⟩ := cl_elim hm
      refine w_callN (As := [.int v_2, .int v_3]) (rest := []) (wr := [(q_this, .inr (5, [.int f_units, .ref q_under, .ref q_above, .ref q_reach, .ref q_levelRow, .ref q_shown, .ref q_stepsBack])), (q_reach, .inl (gI G, 12, .inl f_reach)), (q_p1, .inr (2, [.int p1_units, .int p1_ties, .int p1_digs, .int p1_sights, .int p1_events, .ref q_p1_traits, .ref q_p1_upper, .ref q_p1_lower, .ref q_p1_digRow, .ref q_p1_heldUnit, .ref q_p1_heldKind, .ref q_p1_seenFirst, .ref q_p1_seenSecond, .ref q_p1_seenIs, .ref q_p1_eventWhat, .ref q_p1_eventUnit])), (q_p1_seenFirst, .inl (gI G, 5, .inl p1_seenFirst)), (q_p1_seenSecond, .inl (gI G, 5, .inl p1_seenSecond)), (q_p1_seenIs, .inl (gZ G, 5, .inl p1_seenIs))]) (W1 := [(q_this, .inr (5, [.int f_units, .ref q_under, .ref q_above, .ref q_reach, .ref q_levelRow, .ref q_shown, .ref q_stepsBack])), (q_reach, .inl (gI G, 12, .inl f_reach)), (q_p1, .inr (2, [.int p1_units, .int p1_ties, .int p1_digs, .int p1_sights, .int p1_events, .ref q_p1_traits, .ref q_p1_upper, .ref q_p1_lower, .ref q_p1_digRow, .ref q_p1_heldUnit, .ref q_p1_heldKind, .ref q_p1_seenFirst, .ref q_p1_seenSecond, .ref q_p1_seenIs, .ref q_p1_eventWhat, .ref q_p1_eventUnit])), (q_p1_seenFirst, .inl (gI G, 5, .inl p1_seenFirst)), (q_p1_seenSecond, .inl (gI G, 5, .inl p1_seenSecond)), (q_p1_seenIs, .inl (gZ G, 5, .inl p1_seenIs))]) (host := "DigOrder") hx hb hml hown hts hK hG hP hD hS hA (c_X7_hasBit G l v_2 v_3 h_5) kc_X7_hasBit ks_X7_hasBit (by decide +kernel) rfl hl.1 rfl (Nat.le_of_ble_eq_true rfl) dX5_agrees_27 (Nat.le_of_ble_eq_true rfl) (Nat.le_of_ble_eq_true rfl) ⟨Nat.le_refl _, Nat.le_refl _⟩ [] [0, 1, 2, 3, 4, 5] [0, 1, 2, 3, 4, 5] rfl rfl rfl rfl (by decide) rfl rfl (fun H locs hP hD hS => ?_)
      refine lv_aload_n hx hb dX5_agrees_30 rfl (lv_at hl 1 rfl) ?_
      refine gf_X5_88 (v := .ref q_p1_seenIs) hx hb hts hown hK hP 2 rfl rfl dX5_agrees_31 ?_
      refine lv_iload_n hx hb dX5_agrees_34 rfl (lv_at hl 2 rfl) ?_
      refine w_zald hx hb hK hP 5 rfl hm dX5_agrees_35 (fun v_6 hm => ?_)
      refine ic_eq (tgt := 41) hx hb dX5_agrees_36 (by decide) hm (fun hm => ?_) (fun hm => ?_)
      · refine lv_iinc (v := (x2_2 + (1 : Int32))) (lv' := [(2, .int (x2_2 + (1 : Int32))), (0, .ref q_this), (1, .ref q_p1)]) hx hb dX5_agrees_41 hl (k := 2) rfl rfl (by decide) rfl (fun ls hl => ?_)
        refine lv_goto (tgt := 2) hx hb dX5_agrees_44 (by decide) ?_
        exact ih_2 (x2_2 + (1 : Int32)) _ _ _ hm hP hD hS (lv_sub hl [1, 2, 0] rfl)
      refine lv_iconst (v := 0) hx hb dX5_agrees_39 (by decide) ?_
      have hfin := fin _ _ ls _ _ (Option.some.inj hm) dX5_agrees_40 (Or.inl rfl) hP hD hS
      exact hfin
  refine hL_2 _ ?_ FU (0 : Int32) _ _ _ hm hP hD hS (lv_sub hl [1, 2, 0] rfl)
  intro x2_2 H locs ls hm hP hD hS hl
  refine lv_iconst (v := 1) hx hb dX5_agrees_47 (by decide) ?_
  have hfin := fin _ _ ls _ _ (Option.some.inj hm) dX5_agrees_48 (Or.inr rfl) hP hD hS
  exact hfin
set_option maxHeartbeats 0 in
set_option maxRecDepth 100000 in
theorem c_X6_takeLetter (G : GT) (l : Launch) (q_this : Nat) (f_length : Int32) (q_first : Nat) (q_verb : Nat) (q_second : Nat) (f_sentences : Int32) (f_at : Int32) (f_fault : Int32) (q_text : Nat) (f_text : (Nat → Int32)) {res : Int32 × Int32 × Int32} (hm : m_X6_takeLetter f_text f_length f_at f_fault = some res) : CT G l yX6_takeLetter cX6_takeLetter 1 (some .int) 0 0 [.ref q_this] [(q_this, .inr (6, [.ref q_text, .int f_length, .ref q_first, .ref q_verb, .ref q_second, .int f_sentences, .int f_at, .int f_fault])), (q_text, .inl (gI G, 100, .inl f_text))] [(q_this, .inr (6, [.ref q_text, .int f_length, .ref q_first, .ref q_verb, .ref q_second, .int f_sentences, .int res.1, .int res.2.1])), (q_text, .inl (gI G, 100, .inl f_text))] (some (.int res.2.2)) := by
  refine ctI (G := G) (l := l) (y := yX6_takeLetter) (cc := cX6_takeLetter) (maxL := 1) (fr := 0) (lo := 0) (As := [.ref q_this]) (res := res) (fun res : Int32 × Int32 × Int32 => [(q_this, .inr (6, [.ref q_text, .int f_length, .ref q_first, .ref q_verb, .ref q_second, .int f_sentences, .int res.1, .int res.2.1])), (q_text, .inl (gI G, 100, .inl f_text))]) (fun res : Int32 × Int32 × Int32 => res.2.2) (plainFor_of_name (by decide)) (Nat.le_of_ble_eq_true rfl) ?_
  intro p e s m below meth c A ls Q hx hb hml hown hts hK hG hA hP hD hS hl fin
  have hown : s.vm.findClass RX6 = some m.cls := hown
  have hl : lv_has ls 1 [(0, .ref q_this)] := hl
  unfold m_X6_takeLetter at hm
  refine lv_aload_n hx hb dX6_takeLetter_0 rfl (lv_at hl 0 rfl) ?_
  refine gf_X6_34 (v := .int f_fault) hx hb hts hown hK hP 0 rfl rfl dX6_takeLetter_1 ?_
  refine if_eq (tgt := 9) hx hb dX6_takeLetter_4 (by decide) hm (fun hm => ?_) (fun hm => ?_)
  · refine lv_aload_n hx hb dX6_takeLetter_9 rfl (lv_at hl 0 rfl) ?_
    refine gf_X6_31 (v := .int f_at) hx hb hts hown hK hP 0 rfl rfl dX6_takeLetter_10 ?_
    refine lv_aload_n hx hb dX6_takeLetter_13 rfl (lv_at hl 0 rfl) ?_
    refine gf_X6_15 (v := .int f_length) hx hb hts hown hK hP 0 rfl rfl dX6_takeLetter_14 ?_
    refine ic_ge (tgt := 48) hx hb dX6_takeLetter_17 (by decide) hm (fun hm => ?_) (fun hm => ?_)
    · refine lv_aload_n hx hb dX6_takeLetter_48 rfl (lv_at hl 0 rfl) ?_
      refine lv_bipush (v := -100) hx hb dX6_takeLetter_49 (by decide) ?_
      refine lv_aload_n hx hb dX6_takeLetter_51 rfl (lv_at hl 0 rfl) ?_
      refine gf_X6_31 (v := .int f_at) hx hb hts hown hK hP 0 rfl rfl dX6_takeLetter_52 ?_
      refine lv_isub hx hb dX6_takeLetter_55 ?_
      refine pf_X6_34 (W1 := [(q_this, .inr (6, [.ref q_text, .int f_length, .ref q_first, .ref q_verb, .ref q_second, .int f_sentences, .int f_at, .int ((-100 : Int32) - f_at)])), (q_text, .inl (gI G, 100, .inl f_text))]) hx hb hts hown hK hP hD hS 0 rfl (Nat.le_of_ble_eq_true rfl) dX6_takeLetter_56 rfl (fun H locs hP hD hS => ?_)
      refine lv_iconst (v := 0) hx hb dX6_takeLetter_59 (by decide) ?_
      have hfin := fin _ _ ls _ _ (Option.some.inj hm) dX6_takeLetter_60 hP hD hS
      exact hfin
    refine lv_aload_n hx hb dX6_takeLetter_20 rfl (lv_at hl 0 rfl) ?_
    refine gf_X6_9 (v := .ref q_text) hx hb hts hown hK hP 0 rfl rfl dX6_takeLetter_21 ?_
    refine lv_aload_n hx hb dX6_takeLetter_24 rfl (lv_at hl 0 rfl) ?_
    refine gf_X6_31 (v := .int f_at) hx hb hts hown hK hP 0 rfl rfl dX6_takeLetter_25 ?_
    refine w_iald hx hb hK hP 1 rfl hm dX6_takeLetter_28 (fun v_1 hm => ?_)
    refine lv_bipush (v := 97) hx hb dX6_takeLetter_29 (by decide) ?_
    refine ic_lt (tgt := 48) hx hb dX6_takeLetter_31 (by decide) hm (fun hm => ?_) (fun hm => ?_)
    · refine lv_aload_n hx hb dX6_takeLetter_48 rfl (lv_at hl 0 rfl) ?_
      refine lv_bipush (v := -100) hx hb dX6_takeLetter_49 (by decide) ?_
      refine lv_aload_n hx hb dX6_takeLetter_51 rfl (lv_at hl 0 rfl) ?_
      refine gf_X6_31 (v := .int f_at) hx hb hts hown hK hP 0 rfl rfl dX6_takeLetter_52 ?_
      refine lv_isub hx hb dX6_takeLetter_55 ?_
      refine pf_X6_34 (W1 := [(q_this, .inr (6, [.ref q_text, .int f_length, .ref q_first, .ref q_verb, .ref q_second, .int f_sentences, .int f_at, .int ((-100 : Int32) - f_at)])), (q_text, .inl (gI G, 100, .inl f_text))]) hx hb hts hown hK hP hD hS 0 rfl (Nat.le_of_ble_eq_true rfl) dX6_takeLetter_56 rfl (fun H locs hP hD hS => ?_)
      refine lv_iconst (v := 0) hx hb dX6_takeLetter_59 (by decide) ?_
      have hfin := fin _ _ ls _ _ (Option.some.inj hm) dX6_takeLetter_60 hP hD hS
      exact hfin
    refine lv_aload_n hx hb dX6_takeLetter_34 rfl (lv_at hl 0 rfl) ?_
    refine gf_X6_9 (v := .ref q_text) hx hb hts hown hK hP 0 rfl rfl dX6_takeLetter_35 ?_
    refine lv_aload_n hx hb dX6_takeLetter_38 rfl (lv_at hl 0 rfl) ?_
    refine gf_X6_31 (v := .int f_at) hx hb hts hown hK hP 0 rfl rfl dX6_takeLetter_39 ?_
    refine w_iald hx hb hK hP 1 rfl hm dX6_takeLetter_42 (fun v_2 hm => ?_)
    refine lv_bipush (v := 108) hx hb dX6_takeLetter_43 (by decide) ?_
    refine ic_le (tgt := 61) hx hb dX6_takeLetter_45 (by decide) hm (fun hm => ?_) (fun hm => ?_)
    · refine lv_aload_n hx hb dX6_takeLetter_61 rfl (lv_at hl 0 rfl) ?_
      refine lv_dup hx hb dX6_takeLetter_62 rfl ?_
      refine gf_X6_31 (v := .int f_at) hx hb hts hown hK hP 0 rfl rfl dX6_takeLetter_63 ?_
      refine lv_iconst (v := 1) hx hb dX6_takeLetter_66 (by decide) ?_
      refine lv_iadd hx hb dX6_takeLetter_67 ?_
      refine pf_X6_31 (W1 := [(q_this, .inr (6, [.ref q_text, .int f_length, .ref q_first, .ref q_verb, .ref q_second, .int f_sentences, .int (f_at + (1 : Int32)), .int f_fault])), (q_text, .inl (gI G, 100, .inl f_text))]) hx hb hts hown hK hP hD hS 0 rfl (Nat.le_of_ble_eq_true rfl) dX6_takeLetter_68 rfl (fun H locs hP hD hS => ?_)
      refine lv_aload_n hx hb dX6_takeLetter_71 rfl (lv_at hl 0 rfl) ?_
      refine gf_X6_9 (v := .ref q_text) hx hb hts hown hK hP 0 rfl rfl dX6_takeLetter_72 ?_
      refine lv_aload_n hx hb dX6_takeLetter_75 rfl (lv_at hl 0 rfl) ?_
      refine gf_X6_31 (v := .int (f_at + (1 : Int32))) hx hb hts hown hK hP 0 rfl rfl dX6_takeLetter_76 ?_
      refine lv_iconst (v := 1) hx hb dX6_takeLetter_79 (by decide) ?_
      refine lv_isub hx hb dX6_takeLetter_80 ?_
      refine w_iald hx hb hK hP 1 rfl hm dX6_takeLetter_81 (fun v_3 hm => ?_)
      refine lv_bipush (v := 97) hx hb dX6_takeLetter_82 (by decide) ?_
      refine lv_isub hx hb dX6_takeLetter_84 ?_
      have hfin := fin _ _ ls _ _ (Option.some.inj hm) dX6_takeLetter_85 hP hD hS
      exact hfin
    refine lv_aload_n hx hb dX6_takeLetter_48 rfl (lv_at hl 0 rfl) ?_
    refine lv_bipush (v := -100) hx hb dX6_takeLetter_49 (by decide) ?_
    refine lv_aload_n hx hb dX6_takeLetter_51 rfl (lv_at hl 0 rfl) ?_
    refine gf_X6_31 (v := .int f_at) hx hb hts hown hK hP 0 rfl rfl dX6_takeLetter_52 ?_
    refine lv_isub hx hb dX6_takeLetter_55 ?_
    refine pf_X6_34 (W1 := [(q_this, .inr (6, [.ref q_text, .int f_length, .ref q_first, .ref q_verb, .ref q_second, .int f_sentences, .int f_at, .int ((-100 : Int32) - f_at)])), (q_text, .inl (gI G, 100, .inl f_text))]) hx hb hts hown hK hP hD hS 0 rfl (Nat.le_of_ble_eq_true rfl) dX6_takeLetter_56 rfl (fun H locs hP hD hS => ?_)
    refine lv_iconst (v := 0) hx hb dX6_takeLetter_59 (by decide) ?_
    have hfin := fin _ _ ls _ _ (Option.some.inj hm) dX6_takeLetter_60 hP hD hS
    exact hfin
  refine lv_iconst (v := 0) hx hb dX6_takeLetter_7 (by decide) ?_
  have hfin := fin _ _ ls _ _ (Option.some.inj hm) dX6_takeLetter_8 hP hD hS
  exact hfin
set_option maxHeartbeats 0 in
set_option maxRecDepth 100000 in
theorem c_X6_takeSign (G : GT) (l : Launch) (q_this : Nat) (f_length : Int32) (q_first : Nat) (q_verb : Nat) (q_second : Nat) (f_sentences : Int32) (f_at : Int32) (f_fault : Int32) (q_text : Nat) (f_text : (Nat → Int32)) (a_1 : Int32) {res : Int32 × Int32} (hm : m_X6_takeSign f_text f_length f_at f_fault a_1 = some res) : CT G l yX6_takeSign cX6_takeSign 2 none 0 0 [.ref q_this, .int a_1] [(q_this, .inr (6, [.ref q_text, .int f_length, .ref q_first, .ref q_verb, .ref q_second, .int f_sentences, .int f_at, .int f_fault])), (q_text, .inl (gI G, 100, .inl f_text))] [(q_this, .inr (6, [.ref q_text, .int f_length, .ref q_first, .ref q_verb, .ref q_second, .int f_sentences, .int res.1, .int res.2])), (q_text, .inl (gI G, 100, .inl f_text))] none := by
  refine ctV (G := G) (l := l) (y := yX6_takeSign) (cc := cX6_takeSign) (maxL := 2) (fr := 0) (lo := 0) (As := [.ref q_this, .int a_1]) (res := res) (fun res : Int32 × Int32 => [(q_this, .inr (6, [.ref q_text, .int f_length, .ref q_first, .ref q_verb, .ref q_second, .int f_sentences, .int res.1, .int res.2])), (q_text, .inl (gI G, 100, .inl f_text))]) (plainFor_of_name (by decide)) (Nat.le_of_ble_eq_true rfl) ?_
  intro p e s m below meth c A ls Q hx hb hml hown hts hK hG hA hP hD hS hl fin
  have hown : s.vm.findClass RX6 = some m.cls := hown
  have hl : lv_has ls 2 [(0, .ref q_this), (1, .int a_1)] := hl
  unfold m_X6_takeSign at hm
  refine lv_aload_n hx hb dX6_takeSign_0 rfl (lv_at hl 0 rfl) ?_
  refine gf_X6_34 (v := .int f_fault) hx hb hts hown hK hP 0 rfl rfl dX6_takeSign_1 ?_
  refine if_eq (tgt := 8) hx hb dX6_takeSign_4 (by decide) hm (fun hm => ?_) (fun hm => ?_)
  · refine lv_aload_n hx hb dX6_takeSign_8 rfl (lv_at hl 0 rfl) ?_
    refine gf_X6_31 (v := .int f_at) hx hb hts hown hK hP 0 rfl rfl dX6_takeSign_9 ?_
    refine lv_aload_n hx hb dX6_takeSign_12 rfl (lv_at hl 0 rfl) ?_
    refine gf_X6_15 (v := .int f_length) hx hb hts hown hK hP 0 rfl rfl dX6_takeSign_13 ?_
    refine ic_ge (tgt := 45) hx hb dX6_takeSign_16 (by decide) hm (fun hm => ?_) (fun hm => ?_)
    · refine lv_aload_n hx hb dX6_takeSign_45 rfl (lv_at hl 0 rfl) ?_
      refine lv_bipush (v := -100) hx hb dX6_takeSign_46 (by decide) ?_
      refine lv_aload_n hx hb dX6_takeSign_48 rfl (lv_at hl 0 rfl) ?_
      refine gf_X6_31 (v := .int f_at) hx hb hts hown hK hP 0 rfl rfl dX6_takeSign_49 ?_
      refine lv_isub hx hb dX6_takeSign_52 ?_
      refine pf_X6_34 (W1 := [(q_this, .inr (6, [.ref q_text, .int f_length, .ref q_first, .ref q_verb, .ref q_second, .int f_sentences, .int f_at, .int ((-100 : Int32) - f_at)])), (q_text, .inl (gI G, 100, .inl f_text))]) hx hb hts hown hK hP hD hS 0 rfl (Nat.le_of_ble_eq_true rfl) dX6_takeSign_53 rfl (fun H locs hP hD hS => ?_)
      have hfin := fin _ _ ls _ _ (Option.some.inj hm) dX6_takeSign_56 hP hD hS
      exact hfin
    refine lv_aload_n hx hb dX6_takeSign_19 rfl (lv_at hl 0 rfl) ?_
    refine gf_X6_9 (v := .ref q_text) hx hb hts hown hK hP 0 rfl rfl dX6_takeSign_20 ?_
    refine lv_aload_n hx hb dX6_takeSign_23 rfl (lv_at hl 0 rfl) ?_
    refine gf_X6_31 (v := .int f_at) hx hb hts hown hK hP 0 rfl rfl dX6_takeSign_24 ?_
    refine w_iald hx hb hK hP 1 rfl hm dX6_takeSign_27 (fun v_1 hm => ?_)
    refine lv_iload_n hx hb dX6_takeSign_28 rfl (lv_at hl 1 rfl) ?_
    refine ic_ne (tgt := 45) hx hb dX6_takeSign_29 (by decide) hm (fun hm => ?_) (fun hm => ?_)
    · refine lv_aload_n hx hb dX6_takeSign_45 rfl (lv_at hl 0 rfl) ?_
      refine lv_bipush (v := -100) hx hb dX6_takeSign_46 (by decide) ?_
      refine lv_aload_n hx hb dX6_takeSign_48 rfl (lv_at hl 0 rfl) ?_
      refine gf_X6_31 (v := .int f_at) hx hb hts hown hK hP 0 rfl rfl dX6_takeSign_49 ?_
      refine lv_isub hx hb dX6_takeSign_52 ?_
      refine pf_X6_34 (W1 := [(q_this, .inr (6, [.ref q_text, .int f_length, .ref q_first, .ref q_verb, .ref q_second, .int f_sentences, .int f_at, .int ((-100 : Int32) - f_at)])), (q_text, .inl (gI G, 100, .inl f_text))]) hx hb hts hown hK hP hD hS 0 rfl (Nat.le_of_ble_eq_true rfl) dX6_takeSign_53 rfl (fun H locs hP hD hS => ?_)
      have hfin := fin _ _ ls _ _ (Option.some.inj hm) dX6_takeSign_56 hP hD hS
      exact hfin
    refine lv_aload_n hx hb dX6_takeSign_32 rfl (lv_at hl 0 rfl) ?_
    refine lv_dup hx hb dX6_takeSign_33 rfl ?_
    refine gf_X6_31 (v := .int f_at) hx hb hts hown hK hP 0 rfl rfl dX6_takeSign_34 ?_
    refine lv_iconst (v := 1) hx hb dX6_takeSign_37 (by decide) ?_
    refine lv_iadd hx hb dX6_takeSign_38 ?_
    refine pf_X6_31 (W1 := [(q_this, .inr (6, [.ref q_text, .int f_length, .ref q_first, .ref q_verb, .ref q_second, .int f_sentences, .int (f_at + (1 : Int32)), .int f_fault])), (q_text, .inl (gI G, 100, .inl f_text))]) hx hb hts hown hK hP hD hS 0 rfl (Nat.le_of_ble_eq_true rfl) dX6_takeSign_39 rfl (fun H locs hP hD hS => ?_)
    refine lv_goto (tgt := 56) hx hb dX6_takeSign_42 (by decide) ?_
    have hfin := fin _ _ ls _ _ (Option.some.inj hm) dX6_takeSign_56 hP hD hS
    exact hfin
  have hfin := fin _ _ ls _ _ (Option.some.inj hm) dX6_takeSign_7 hP hD hS
  exact hfin
set_option maxHeartbeats 0 in
set_option maxRecDepth 100000 in
theorem c_X6_says (G : GT) (l : Launch) (q_this : Nat) (f_length : Int32) (q_first : Nat) (q_verb : Nat) (q_second : Nat) (f_sentences : Int32) (f_at : Int32) (f_fault : Int32) (q_text : Nat) (f_text : (Nat → Int32)) (s_p1 : Nat) (a_2 : Int32) (a_3 : Int32) (hsi : s_p1 < 5) {res : Int32} (hm : m_X6_says f_text s_p1 a_2 a_3 = some res) : CT G l yX6_says cX6_says 5 (some .boolean) 4 85 [.ref q_this, .ref (gK G s_p1), .int a_2, .int a_3] [(q_this, .inr (6, [.ref q_text, .int f_length, .ref q_first, .ref q_verb, .ref q_second, .int f_sentences, .int f_at, .int f_fault])), (q_text, .inl (gI G, 100, .inl f_text))] [(q_this, .inr (6, [.ref q_text, .int f_length, .ref q_first, .ref q_verb, .ref q_second, .int f_sentences, .int f_at, .int f_fault])), (q_text, .inl (gI G, 100, .inl f_text))] (some (.int res)) := by
  refine ctZ (G := G) (l := l) (y := yX6_says) (cc := cX6_says) (maxL := 5) (fr := 4) (lo := 85) (As := [.ref q_this, .ref (gK G s_p1), .int a_2, .int a_3]) (res := res) (fun res : Int32 => [(q_this, .inr (6, [.ref q_text, .int f_length, .ref q_first, .ref q_verb, .ref q_second, .int f_sentences, .int f_at, .int f_fault])), (q_text, .inl (gI G, 100, .inl f_text))]) (fun res : Int32 => res) (plainFor_of_name (by decide)) (Nat.le_of_ble_eq_true rfl) ?_
  intro p e s m below meth c A ls Q hx hb hml hown hts hK hG hA hP hD hS hl fin
  have hown : s.vm.findClass RX6 = some m.cls := hown
  have hl : lv_has ls 5 [(0, .ref q_this), (1, .ref (gK G s_p1)), (2, .int a_2), (3, .int a_3)] := hl
  unfold m_X6_says at hm
  refine lv_aload_n hx hb dX6_says_0 rfl (lv_at hl 1 rfl) ?_
  refine w_slen (i := s_p1) hx hb hml hl.1 hts hown hK bw757 hG hP hD hS hA hsi dX6_says_1 (Nat.le_of_ble_eq_true rfl) ⟨Nat.le_of_ble_eq_true rfl, Nat.le_of_ble_eq_true rfl⟩ ⟨Nat.le_refl _, Nat.le_refl _⟩ (fun H locs hP hS => ?_)
  refine lv_iload_n hx hb dX6_says_4 rfl (lv_at hl 3 rfl) ?_
  refine lv_iload_n hx hb dX6_says_5 rfl (lv_at hl 2 rfl) ?_
  refine lv_isub hx hb dX6_says_6 ?_
  refine ic_eq (tgt := 12) hx hb dX6_says_7 (by decide) hm (fun hm => ?_) (fun hm => ?_)
  · refine lv_iconst (v := 0) hx hb dX6_says_12 (by decide) ?_
    refine lv_istore (lv' := [(4, .int (0 : Int32)), (0, .ref q_this), (1, .ref (gK G s_p1)), (2, .int a_2), (3, .int a_3)]) hx hb dX6_says_13 hl (by decide) rfl (fun ls hl => ?_)
    have hL_15 : ∀ (k_15 : Int32 → Option Int32), (∀ (x4_15 : Int32) (H : Heap) (locs : List Loc) (ls : Array Slot), k_15 x4_15 = some res → va_P (gD G) vwCl [(q_this, .inr (6, [.ref q_text, .int f_length, .ref q_first, .ref q_verb, .ref q_second, .int f_sentences, .int f_at, .int f_fault])), (q_text, .inl (gI G, 100, .inl f_text))] H → va_D A [(q_this, .inr (6, [.ref q_text, .int f_length, .ref q_first, .ref q_verb, .ref q_second, .int f_sentences, .int f_at, .int f_fault])), (q_text, .inl (gI G, 100, .inl f_text))] → va_S A s.heap H locs → lv_has ls 5 [] → W p l e { frames := 4, cells := 0, slots := 0, locals := 85 } s m ([.ref q_this, .ref (gK G s_p1), .int a_2, .int a_3] : List Value).toArray below meth c H locs 0 0 Q (F0 m 50 ls [])) → ∀ (n_15 : Nat) (x4_15 : Int32) (H : Heap) (locs : List Loc) (ls : Array Slot), m_X6_says_L15 f_text s_p1 a_2 n_15 x4_15 k_15 = some res → va_P (gD G) vwCl [(q_this, .inr (6, [.ref q_text, .int f_length, .ref q_first, .ref q_verb, .ref q_second, .int f_sentences, .int f_at, .int f_fault])), (q_text, .inl (gI G, 100, .inl f_text))] H → va_D A [(q_this, .inr (6, [.ref q_text, .int f_length, .ref q_first, .ref q_verb, .ref q_second, .int f_sentences, .int f_at, .int f_fault])), (q_text, .inl (gI G, 100, .inl f_text))] → va_S A s.heap H locs → lv_has ls 5 [(0, .ref q_this), (1, .ref (gK G s_p1)), (2, .int a_2), (4, .int x4_15)] → W p l e { frames := 4, cells := 0, slots := 0, locals := 85 } s m ([.ref q_this, .ref (gK G s_p1), .int a_2, .int a_3] : List Value).toArray below meth c H locs 0 0 Q (F0 m 15 ls []) := by
      intro k_15 hk_15 n_15
      induction n_15 with
      | zero =>
        intro x4_15 H locs ls hm
        rw [m_X6_says_L15] at hm
        cases hm
      | succ n_15 ih_15 =>
        intro x4_15 H locs ls hm hP hD hS hl
        rw [m_X6_says_L15] at hm
        refine lv_iload hx hb dX6_says_15 (lv_at hl 3 rfl) ?_
        refine lv_aload_n hx hb dX6_says_17 rfl (lv_at hl 1 rfl) ?_
        refine w_slen (i := s_p1) hx hb hml hl.1 hts hown hK bw757 hG hP hD hS hA hsi dX6_says_18 (Nat.le_of_ble_eq_true rfl) ⟨Nat.le_of_ble_eq_true rfl, Nat.le_of_ble_eq_true rfl⟩ ⟨Nat.le_refl _, Nat.le_refl _⟩ (fun H locs hP hS => ?_)
        refine ic_ge (tgt := 50) hx hb dX6_says_21 (by decide) hm (fun hm => ?_) (fun hm => ?_)
        · exact hk_15 x4_15 _ _ _ hm hP hD hS (lv_sub hl [] rfl)
        refine lv_aload_n hx hb dX6_says_24 rfl (lv_at hl 1 rfl) ?_
        refine lv_iload hx hb dX6_says_25 (lv_at hl 3 rfl) ?_
        refine w_schar (i := s_p1) hx hb hml hl.1 hts hown hK bw767 hG hP hD hS hA hsi hm dX6_says_27 (Nat.le_of_ble_eq_true rfl) ⟨Nat.le_of_ble_eq_true rfl, Nat.le_of_ble_eq_true rfl⟩ ⟨Nat.le_refl _, Nat.le_refl _⟩ (fun v_1 H locs hm hP hS => ?_)
        refine lv_aload_n hx hb dX6_says_30 rfl (lv_at hl 0 rfl) ?_
        refine gf_X6_9 (v := .ref q_text) hx hb hts hown hK hP 0 rfl rfl dX6_says_31 ?_
        refine lv_iload_n hx hb dX6_says_34 rfl (lv_at hl 2 rfl) ?_
        refine lv_iload hx hb dX6_says_35 (lv_at hl 3 rfl) ?_
        refine lv_iadd hx hb dX6_says_37 ?_
        refine w_iald hx hb hK hP 1 rfl hm dX6_says_38 (fun v_2 hm => ?_)
        refine ic_eq (tgt := 44) hx hb dX6_says_39 (by decide) hm (fun hm => ?_) (fun hm => ?_)
        · refine lv_iinc (v := (x4_15 + (1 : Int32))) (lv' := [(4, .int (x4_15 + (1 : Int32))), (0, .ref q_this), (1, .ref (gK G s_p1)), (2, .int a_2)]) hx hb dX6_says_44 hl (k := 3) rfl rfl (by decide) rfl (fun ls hl => ?_)
          refine lv_goto (tgt := 15) hx hb dX6_says_47 (by decide) ?_
          exact ih_15 (x4_15 + (1 : Int32)) _ _ _ hm hP hD hS (lv_sub hl [1, 2, 3, 0] rfl)
        refine lv_iconst (v := 0) hx hb dX6_says_42 (by decide) ?_
        have hfin := fin _ _ ls _ _ (Option.some.inj hm) dX6_says_43 (Or.inl rfl) hP hD hS
        exact hfin
    refine hL_15 _ ?_ FU (0 : Int32) _ _ _ hm hP hD hS (lv_sub hl [1, 2, 3, 0] rfl)
    intro x4_15 H locs ls hm hP hD hS hl
    refine lv_iconst (v := 1) hx hb dX6_says_50 (by decide) ?_
    have hfin := fin _ _ ls _ _ (Option.some.inj hm) dX6_says_51 (Or.inr rfl) hP hD hS
    exact hfin
  refine lv_iconst (v := 0) hx hb dX6_says_10 (by decide) ?_
  have hfin := fin _ _ ls _ _ (Option.some.inj hm) dX6_says_11 (Or.inl rfl) hP hD hS
  exact hfin
set_option maxHeartbeats 0 in
set_option maxRecDepth 100000 in
theorem c_X6_verbOf (G : GT) (l : Launch) (q_this : Nat) (f_length : Int32) (q_first : Nat) (q_verb : Nat) (q_second : Nat) (f_sentences : Int32) (f_at : Int32) (f_fault : Int32) (q_text : Nat) (f_text : (Nat → Int32)) (a_1 : Int32) (a_2 : Int32) {res : Int32} (hm : m_X6_verbOf f_text a_1 a_2 = some res) : CT G l yX6_verbOf cX6_verbOf 3 (some .int) 5 109 [.ref q_this, .int a_1, .int a_2] [(q_this, .inr (6, [.ref q_text, .int f_length, .ref q_first, .ref q_verb, .ref q_second, .int f_sentences, .int f_at, .int f_fault])), (q_text, .inl (gI G, 100, .inl f_text))] [(q_this, .inr (6, [.ref q_text, .int f_length, .ref q_first, .ref q_verb, .ref q_second, .int f_sentences, .int f_at, .int f_fault])), (q_text, .inl (gI G, 100, .inl f_text))] (some (.int res)) := by
  refine ctI (G := G) (l := l) (y := yX6_verbOf) (cc := cX6_verbOf) (maxL := 3) (fr := 5) (lo := 109) (As := [.ref q_this, .int a_1, .int a_2]) (res := res) (fun res : Int32 => [(q_this, .inr (6, [.ref q_text, .int f_length, .ref q_first, .ref q_verb, .ref q_second, .int f_sentences, .int f_at, .int f_fault])), (q_text, .inl (gI G, 100, .inl f_text))]) (fun res : Int32 => res) (plainFor_of_name (by decide)) (Nat.le_of_ble_eq_true rfl) ?_
  intro p e s m below meth c A ls Q hx hb hml hown hts hK hG hA hP hD hS hl fin
  have hown : s.vm.findClass RX6 = some m.cls := hown
  have hl : lv_has ls 3 [(0, .ref q_this), (1, .int a_1), (2, .int a_2)] := hl
  unfold m_X6_verbOf at hm
  refine lv_aload_n hx hb dX6_verbOf_0 rfl (lv_at hl 0 rfl) ?_
  refine va_ldcS (q := gK G 0) (tx := "over") hx hb hown (hG.2.2.2.2.2.1 (55, "over", 0) (by decide)) dX6_verbOf_1 ?_
  refine lv_iload_n hx hb dX6_verbOf_3 rfl (lv_at hl 1 rfl) ?_
  refine lv_iload_n hx hb dX6_verbOf_4 rfl (lv_at hl 2 rfl) ?_
  obtain ⟨r_1, h_2, hm⟩ := cl_elim hm
  refine w_callV (As := [.ref (gK G 0), .int a_1, .int a_2]) (rest := []) (wr := []) (W1 := [(q_this, .inr (6, [.ref q_text, .int f_length, .ref q_first, .ref q_verb, .ref q_second, .int f_sentences, .int f_at, .int f_fault])), (q_text, .inl (gI G, 100, .inl f_text))]) (ci := 6) (q0 := 0) hx hb hml hown hts hK hG hP hD hS hA (c_X6_says G l q_this f_length q_first q_verb q_second f_sentences f_at f_fault q_text f_text 0 a_1 a_2 (by decide) h_2) kc_X6_says ki_X6_says bw753 rfl rfl rfl hl.1 rfl (Nat.le_of_ble_eq_true rfl) dX6_verbOf_5 (Nat.le_of_ble_eq_true rfl) (Nat.le_of_ble_eq_true rfl) ⟨Nat.le_refl _, Nat.le_refl _⟩ [0, 1] [] [0, 1] rfl rfl rfl rfl (by decide) rfl rfl (fun H locs hP hD hS => ?_)
  refine if_eq (tgt := 13) hx hb dX6_verbOf_8 (by decide) hm (fun hm => ?_) (fun hm => ?_)
  · refine lv_aload_n hx hb dX6_verbOf_13 rfl (lv_at hl 0 rfl) ?_
    refine va_ldcS (q := gK G 1) (tx := "under") hx hb hown (hG.2.2.2.2.2.1 (61, "under", 1) (by decide)) dX6_verbOf_14 ?_
    refine lv_iload_n hx hb dX6_verbOf_16 rfl (lv_at hl 1 rfl) ?_
    refine lv_iload_n hx hb dX6_verbOf_17 rfl (lv_at hl 2 rfl) ?_
    obtain ⟨r_3, h_4, hm⟩ := cl_elim hm
    refine w_callV (As := [.ref (gK G 1), .int a_1, .int a_2]) (rest := []) (wr := []) (W1 := [(q_this, .inr (6, [.ref q_text, .int f_length, .ref q_first, .ref q_verb, .ref q_second, .int f_sentences, .int f_at, .int f_fault])), (q_text, .inl (gI G, 100, .inl f_text))]) (ci := 6) (q0 := 0) hx hb hml hown hts hK hG hP hD hS hA (c_X6_says G l q_this f_length q_first q_verb q_second f_sentences f_at f_fault q_text f_text 1 a_1 a_2 (by decide) h_4) kc_X6_says ki_X6_says bw753 rfl rfl rfl hl.1 rfl (Nat.le_of_ble_eq_true rfl) dX6_verbOf_18 (Nat.le_of_ble_eq_true rfl) (Nat.le_of_ble_eq_true rfl) ⟨Nat.le_refl _, Nat.le_refl _⟩ [0, 1] [] [0, 1] rfl rfl rfl rfl (by decide) rfl rfl (fun H locs hP hD hS => ?_)
    refine if_eq (tgt := 26) hx hb dX6_verbOf_21 (by decide) hm (fun hm => ?_) (fun hm => ?_)
    · refine lv_aload_n hx hb dX6_verbOf_26 rfl (lv_at hl 0 rfl) ?_
      refine va_ldcS (q := gK G 2) (tx := "cuts") hx hb hown (hG.2.2.2.2.2.1 (63, "cuts", 2) (by decide)) dX6_verbOf_27 ?_
      refine lv_iload_n hx hb dX6_verbOf_29 rfl (lv_at hl 1 rfl) ?_
      refine lv_iload_n hx hb dX6_verbOf_30 rfl (lv_at hl 2 rfl) ?_
      obtain ⟨r_5, h_6, hm⟩ := cl_elim hm
      refine w_callV (As := [.ref (gK G 2), .int a_1, .int a_2]) (rest := []) (wr := []) (W1 := [(q_this, .inr (6, [.ref q_text, .int f_length, .ref q_first, .ref q_verb, .ref q_second, .int f_sentences, .int f_at, .int f_fault])), (q_text, .inl (gI G, 100, .inl f_text))]) (ci := 6) (q0 := 0) hx hb hml hown hts hK hG hP hD hS hA (c_X6_says G l q_this f_length q_first q_verb q_second f_sentences f_at f_fault q_text f_text 2 a_1 a_2 (by decide) h_6) kc_X6_says ki_X6_says bw753 rfl rfl rfl hl.1 rfl (Nat.le_of_ble_eq_true rfl) dX6_verbOf_31 (Nat.le_of_ble_eq_true rfl) (Nat.le_of_ble_eq_true rfl) ⟨Nat.le_refl _, Nat.le_refl _⟩ [0, 1] [] [0, 1] rfl rfl rfl rfl (by decide) rfl rfl (fun H locs hP hD hS => ?_)
      refine if_eq (tgt := 39) hx hb dX6_verbOf_34 (by decide) hm (fun hm => ?_) (fun hm => ?_)
      · refine lv_aload_n hx hb dX6_verbOf_39 rfl (lv_at hl 0 rfl) ?_
        refine va_ldcS (q := gK G 3) (tx := "fills") hx hb hown (hG.2.2.2.2.2.1 (65, "fills", 3) (by decide)) dX6_verbOf_40 ?_
        refine lv_iload_n hx hb dX6_verbOf_42 rfl (lv_at hl 1 rfl) ?_
        refine lv_iload_n hx hb dX6_verbOf_43 rfl (lv_at hl 2 rfl) ?_
        obtain ⟨r_7, h_8, hm⟩ := cl_elim hm
        refine w_callV (As := [.ref (gK G 3), .int a_1, .int a_2]) (rest := []) (wr := []) (W1 := [(q_this, .inr (6, [.ref q_text, .int f_length, .ref q_first, .ref q_verb, .ref q_second, .int f_sentences, .int f_at, .int f_fault])), (q_text, .inl (gI G, 100, .inl f_text))]) (ci := 6) (q0 := 0) hx hb hml hown hts hK hG hP hD hS hA (c_X6_says G l q_this f_length q_first q_verb q_second f_sentences f_at f_fault q_text f_text 3 a_1 a_2 (by decide) h_8) kc_X6_says ki_X6_says bw753 rfl rfl rfl hl.1 rfl (Nat.le_of_ble_eq_true rfl) dX6_verbOf_44 (Nat.le_of_ble_eq_true rfl) (Nat.le_of_ble_eq_true rfl) ⟨Nat.le_refl _, Nat.le_refl _⟩ [0, 1] [] [0, 1] rfl rfl rfl rfl (by decide) rfl rfl (fun H locs hP hD hS => ?_)
        refine if_eq (tgt := 52) hx hb dX6_verbOf_47 (by decide) hm (fun hm => ?_) (fun hm => ?_)
        · refine lv_aload_n hx hb dX6_verbOf_52 rfl (lv_at hl 0 rfl) ?_
          refine va_ldcS (q := gK G 4) (tx := "joins") hx hb hown (hG.2.2.2.2.2.1 (67, "joins", 4) (by decide)) dX6_verbOf_53 ?_
          refine lv_iload_n hx hb dX6_verbOf_55 rfl (lv_at hl 1 rfl) ?_
          refine lv_iload_n hx hb dX6_verbOf_56 rfl (lv_at hl 2 rfl) ?_
          obtain ⟨r_9, h_10, hm⟩ := cl_elim hm
          refine w_callV (As := [.ref (gK G 4), .int a_1, .int a_2]) (rest := []) (wr := []) (W1 := [(q_this, .inr (6, [.ref q_text, .int f_length, .ref q_first, .ref q_verb, .ref q_second, .int f_sentences, .int f_at, .int f_fault])), (q_text, .inl (gI G, 100, .inl f_text))]) (ci := 6) (q0 := 0) hx hb hml hown hts hK hG hP hD hS hA (c_X6_says G l q_this f_length q_first q_verb q_second f_sentences f_at f_fault q_text f_text 4 a_1 a_2 (by decide) h_10) kc_X6_says ki_X6_says bw753 rfl rfl rfl hl.1 rfl (Nat.le_of_ble_eq_true rfl) dX6_verbOf_57 (Nat.le_of_ble_eq_true rfl) (Nat.le_of_ble_eq_true rfl) ⟨Nat.le_refl _, Nat.le_refl _⟩ [0, 1] [] [0, 1] rfl rfl rfl rfl (by decide) rfl rfl (fun H locs hP hD hS => ?_)
          refine if_eq (tgt := 67) hx hb dX6_verbOf_60 (by decide) hm (fun hm => ?_) (fun hm => ?_)
          · refine lv_iconst (v := -1) hx hb dX6_verbOf_67 (by decide) ?_
            have hfin := fin _ _ ls _ _ (Option.some.inj hm) dX6_verbOf_68 hP hD hS
            exact hfin
          refine lv_iconst (v := 4) hx hb dX6_verbOf_63 (by decide) ?_
          refine lv_goto (tgt := 68) hx hb dX6_verbOf_64 (by decide) ?_
          have hfin := fin _ _ ls _ _ (Option.some.inj hm) dX6_verbOf_68 hP hD hS
          exact hfin
        refine lv_iconst (v := 3) hx hb dX6_verbOf_50 (by decide) ?_
        have hfin := fin _ _ ls _ _ (Option.some.inj hm) dX6_verbOf_51 hP hD hS
        exact hfin
      refine lv_iconst (v := 2) hx hb dX6_verbOf_37 (by decide) ?_
      have hfin := fin _ _ ls _ _ (Option.some.inj hm) dX6_verbOf_38 hP hD hS
      exact hfin
    refine lv_iconst (v := 1) hx hb dX6_verbOf_24 (by decide) ?_
    have hfin := fin _ _ ls _ _ (Option.some.inj hm) dX6_verbOf_25 hP hD hS
    exact hfin
  refine lv_iconst (v := 0) hx hb dX6_verbOf_11 (by decide) ?_
  have hfin := fin _ _ ls _ _ (Option.some.inj hm) dX6_verbOf_12 hP hD hS
  exact hfin
set_option maxHeartbeats 0 in
set_option maxRecDepth 100000 in
theorem c_X6_takeVerb (G : GT) (l : Launch) (q_this : Nat) (f_length : Int32) (q_first : Nat) (q_verb : Nat) (q_second : Nat) (f_sentences : Int32) (f_at : Int32) (f_fault : Int32) (q_text : Nat) (f_text : (Nat → Int32)) {res : Int32 × Int32 × Int32} (hm : m_X6_takeVerb f_text f_length f_at f_fault = some res) : CT G l yX6_takeVerb cX6_takeVerb 3 (some .int) 6 131 [.ref q_this] [(q_this, .inr (6, [.ref q_text, .int f_length, .ref q_first, .ref q_verb, .ref q_second, .int f_sentences, .int f_at, .int f_fault])), (q_text, .inl (gI G, 100, .inl f_text))] [(q_this, .inr (6, [.ref q_text, .int f_length, .ref q_first, .ref q_verb, .ref q_second, .int f_sentences, .int res.1, .int res.2.1])), (q_text, .inl (gI G, 100, .inl f_text))] (some (.int res.2.2)) := by
  refine ctI (G := G) (l := l) (y := yX6_takeVerb) (cc := cX6_takeVerb) (maxL := 3) (fr := 6) (lo := 131) (As := [.ref q_this]) (res := res) (fun res : Int32 × Int32 × Int32 => [(q_this, .inr (6, [.ref q_text, .int f_length, .ref q_first, .ref q_verb, .ref q_second, .int f_sentences, .int res.1, .int res.2.1])), (q_text, .inl (gI G, 100, .inl f_text))]) (fun res : Int32 × Int32 × Int32 => res.2.2) (plainFor_of_name (by decide)) (Nat.le_of_ble_eq_true rfl) ?_
  intro p e s m below meth c A ls Q hx hb hml hown hts hK hG hA hP hD hS hl fin
  have hown : s.vm.findClass RX6 = some m.cls := hown
  have hl : lv_has ls 3 [(0, .ref q_this)] := hl
  unfold m_X6_takeVerb at hm
  refine lv_aload_n hx hb dX6_takeVerb_0 rfl (lv_at hl 0 rfl) ?_
  refine gf_X6_34 (v := .int f_fault) hx hb hts hown hK hP 0 rfl rfl dX6_takeVerb_1 ?_
  refine if_eq (tgt := 9) hx hb dX6_takeVerb_4 (by decide) hm (fun hm => ?_) (fun hm => ?_)
  · refine lv_aload_n hx hb dX6_takeVerb_9 rfl (lv_at hl 0 rfl) ?_
    refine gf_X6_31 (v := .int f_at) hx hb hts hown hK hP 0 rfl rfl dX6_takeVerb_10 ?_
    refine lv_istore_n (lv' := [(1, .int f_at), (0, .ref q_this)]) hx hb dX6_takeVerb_13 rfl hl (by decide) rfl (fun ls hl => ?_)
    have hL_14 : ∀ (k_14 : Int32 → Option (Int32 × Int32 × Int32)), (∀ (x1_14 : Int32) (H : Heap) (locs : List Loc) (ls : Array Slot), k_14 x1_14 = some res → va_P (gD G) vwCl [(q_this, .inr (6, [.ref q_text, .int f_length, .ref q_first, .ref q_verb, .ref q_second, .int f_sentences, .int f_at, .int f_fault])), (q_text, .inl (gI G, 100, .inl f_text))] H → va_D A [(q_this, .inr (6, [.ref q_text, .int f_length, .ref q_first, .ref q_verb, .ref q_second, .int f_sentences, .int f_at, .int f_fault])), (q_text, .inl (gI G, 100, .inl f_text))] → va_S A s.heap H locs → lv_has ls 3 [(0, .ref q_this), (1, .int x1_14)] → W p l e { frames := 6, cells := 0, slots := 0, locals := 131 } s m ([.ref q_this] : List Value).toArray below meth c H locs 0 0 Q (F0 m 50 ls [])) → ∀ (n_14 : Nat) (x1_14 : Int32) (H : Heap) (locs : List Loc) (ls : Array Slot), m_X6_takeVerb_L14 f_length f_text n_14 x1_14 k_14 = some res → va_P (gD G) vwCl [(q_this, .inr (6, [.ref q_text, .int f_length, .ref q_first, .ref q_verb, .ref q_second, .int f_sentences, .int f_at, .int f_fault])), (q_text, .inl (gI G, 100, .inl f_text))] H → va_D A [(q_this, .inr (6, [.ref q_text, .int f_length, .ref q_first, .ref q_verb, .ref q_second, .int f_sentences, .int f_at, .int f_fault])), (q_text, .inl (gI G, 100, .inl f_text))] → va_S A s.heap H locs → lv_has ls 3 [(0, .ref q_this), (1, .int x1_14)] → W p l e { frames := 6, cells := 0, slots := 0, locals := 131 } s m ([.ref q_this] : List Value).toArray below meth c H locs 0 0 Q (F0 m 14 ls []) := by
      intro k_14 hk_14 n_14
      induction n_14 with
      | zero =>
        intro x1_14 H locs ls hm
        rw [m_X6_takeVerb_L14] at hm
        cases hm
      | succ n_14 ih_14 =>
        intro x1_14 H locs ls hm hP hD hS hl
        rw [m_X6_takeVerb_L14] at hm
        refine lv_iload_n hx hb dX6_takeVerb_14 rfl (lv_at hl 1 rfl) ?_
        refine lv_aload_n hx hb dX6_takeVerb_15 rfl (lv_at hl 0 rfl) ?_
        refine gf_X6_15 (v := .int f_length) hx hb hts hown hK hP 0 rfl rfl dX6_takeVerb_16 ?_
        refine ic_ge (tgt := 50) hx hb dX6_takeVerb_19 (by decide) hm (fun hm => ?_) (fun hm => ?_)
        · exact hk_14 x1_14 _ _ _ hm hP hD hS hl
        refine lv_aload_n hx hb dX6_takeVerb_22 rfl (lv_at hl 0 rfl) ?_
        refine gf_X6_9 (v := .ref q_text) hx hb hts hown hK hP 0 rfl rfl dX6_takeVerb_23 ?_
        refine lv_iload_n hx hb dX6_takeVerb_26 rfl (lv_at hl 1 rfl) ?_
        refine w_iald hx hb hK hP 1 rfl hm dX6_takeVerb_27 (fun v_1 hm => ?_)
        refine lv_bipush (v := 97) hx hb dX6_takeVerb_28 (by decide) ?_
        refine ic_lt (tgt := 50) hx hb dX6_takeVerb_30 (by decide) hm (fun hm => ?_) (fun hm => ?_)
        · exact hk_14 x1_14 _ _ _ hm hP hD hS hl
        refine lv_aload_n hx hb dX6_takeVerb_33 rfl (lv_at hl 0 rfl) ?_
        refine gf_X6_9 (v := .ref q_text) hx hb hts hown hK hP 0 rfl rfl dX6_takeVerb_34 ?_
        refine lv_iload_n hx hb dX6_takeVerb_37 rfl (lv_at hl 1 rfl) ?_
        refine w_iald hx hb hK hP 1 rfl hm dX6_takeVerb_38 (fun v_2 hm => ?_)
        refine lv_bipush (v := 122) hx hb dX6_takeVerb_39 (by decide) ?_
        refine ic_gt (tgt := 50) hx hb dX6_takeVerb_41 (by decide) hm (fun hm => ?_) (fun hm => ?_)
        · exact hk_14 x1_14 _ _ _ hm hP hD hS hl
        refine lv_iinc (v := (x1_14 + (1 : Int32))) (lv' := [(1, .int (x1_14 + (1 : Int32))), (0, .ref q_this)]) hx hb dX6_takeVerb_44 hl (k := 1) rfl rfl (by decide) rfl (fun ls hl => ?_)
        refine lv_goto (tgt := 14) hx hb dX6_takeVerb_47 (by decide) ?_
        exact ih_14 (x1_14 + (1 : Int32)) _ _ _ hm hP hD hS (lv_sub hl [1, 0] rfl)
    refine hL_14 _ ?_ FU f_at _ _ _ hm hP hD hS (lv_sub hl [1, 0] rfl)
    intro x1_14 H locs ls hm hP hD hS hl
    refine lv_aload_n hx hb dX6_takeVerb_50 rfl (lv_at hl 0 rfl) ?_
    refine lv_aload_n hx hb dX6_takeVerb_51 rfl (lv_at hl 0 rfl) ?_
    refine gf_X6_31 (v := .int f_at) hx hb hts hown hK hP 0 rfl rfl dX6_takeVerb_52 ?_
    refine lv_iload_n hx hb dX6_takeVerb_55 rfl (lv_at hl 1 rfl) ?_
    obtain ⟨r_3, h_4, hm⟩ := cl_elim hm
    refine w_callV (As := [.int f_at, .int x1_14]) (rest := []) (wr := []) (W1 := [(q_this, .inr (6, [.ref q_text, .int f_length, .ref q_first, .ref q_verb, .ref q_second, .int f_sentences, .int f_at, .int f_fault])), (q_text, .inl (gI G, 100, .inl f_text))]) (ci := 6) (q0 := 0) hx hb hml hown hts hK hG hP hD hS hA (c_X6_verbOf G l q_this f_length q_first q_verb q_second f_sentences f_at f_fault q_text f_text f_at x1_14 h_4) kc_X6_verbOf ki_X6_verbOf bw748 rfl rfl rfl hl.1 rfl (Nat.le_of_ble_eq_true rfl) dX6_takeVerb_56 (Nat.le_of_ble_eq_true rfl) (Nat.le_of_ble_eq_true rfl) ⟨Nat.le_refl _, Nat.le_refl _⟩ [0, 1] [] [0, 1] rfl rfl rfl rfl (by decide) rfl rfl (fun H locs hP hD hS => ?_)
    refine lv_istore_n (lv' := [(2, .int r_3), (0, .ref q_this), (1, .int x1_14)]) hx hb dX6_takeVerb_59 rfl hl (by decide) rfl (fun ls hl => ?_)
    refine lv_iload_n hx hb dX6_takeVerb_60 rfl (lv_at hl 2 rfl) ?_
    refine lv_aload_n hx hb dX6_takeVerb_61 rfl (lv_at hl 1 rfl) ?_
    refine gf_X6_31 (v := .int f_at) hx hb hts hown hK hP 0 rfl rfl dX6_takeVerb_62 ?_
    refine ic_ne (tgt := 82) hx hb dX6_takeVerb_65 (by decide) hm (fun hm => ?_) (fun hm => ?_)
    · refine lv_iload_n hx hb dX6_takeVerb_82 rfl (lv_at hl 0 rfl) ?_
      refine if_ge (tgt := 98) hx hb dX6_takeVerb_83 (by decide) hm (fun hm => ?_) (fun hm => ?_)
      · refine lv_aload_n hx hb dX6_takeVerb_98 rfl (lv_at hl 1 rfl) ?_
        refine lv_iload_n hx hb dX6_takeVerb_99 rfl (lv_at hl 2 rfl) ?_
        refine pf_X6_31 (W1 := [(q_this, .inr (6, [.ref q_text, .int f_length, .ref q_first, .ref q_verb, .ref q_second, .int f_sentences, .int x1_14, .int f_fault])), (q_text, .inl (gI G, 100, .inl f_text))]) hx hb hts hown hK hP hD hS 0 rfl (Nat.le_of_ble_eq_true rfl) dX6_takeVerb_100 rfl (fun H locs hP hD hS => ?_)
        refine lv_iload_n hx hb dX6_takeVerb_103 rfl (lv_at hl 0 rfl) ?_
        have hfin := fin _ _ ls _ _ (Option.some.inj hm) dX6_takeVerb_104 hP hD hS
        exact hfin
      refine lv_aload_n hx hb dX6_takeVerb_86 rfl (lv_at hl 1 rfl) ?_
      refine lv_sipush (v := -300) hx hb dX6_takeVerb_87 (by decide) ?_
      refine lv_aload_n hx hb dX6_takeVerb_90 rfl (lv_at hl 1 rfl) ?_
      refine gf_X6_31 (v := .int f_at) hx hb hts hown hK hP 0 rfl rfl dX6_takeVerb_91 ?_
      refine lv_isub hx hb dX6_takeVerb_94 ?_
      refine pf_X6_34 (W1 := [(q_this, .inr (6, [.ref q_text, .int f_length, .ref q_first, .ref q_verb, .ref q_second, .int f_sentences, .int f_at, .int ((-300 : Int32) - f_at)])), (q_text, .inl (gI G, 100, .inl f_text))]) hx hb hts hown hK hP hD hS 0 rfl (Nat.le_of_ble_eq_true rfl) dX6_takeVerb_95 rfl (fun H locs hP hD hS => ?_)
      refine lv_aload_n hx hb dX6_takeVerb_98 rfl (lv_at hl 1 rfl) ?_
      refine lv_iload_n hx hb dX6_takeVerb_99 rfl (lv_at hl 2 rfl) ?_
      refine pf_X6_31 (W1 := [(q_this, .inr (6, [.ref q_text, .int f_length, .ref q_first, .ref q_verb, .ref q_second, .int f_sentences, .int x1_14, .int ((-300 : Int32) - f_at)])), (q_text, .inl (gI G, 100, .inl f_text))]) hx hb hts hown hK hP hD hS 0 rfl (Nat.le_of_ble_eq_true rfl) dX6_takeVerb_100 rfl (fun H locs hP hD hS => ?_)
      refine lv_iload_n hx hb dX6_takeVerb_103 rfl (lv_at hl 0 rfl) ?_
      have hfin := fin _ _ ls _ _ (Option.some.inj hm) dX6_takeVerb_104 hP hD hS
      exact hfin
    refine lv_aload_n hx hb dX6_takeVerb_68 rfl (lv_at hl 1 rfl) ?_
    refine lv_bipush (v := -100) hx hb dX6_takeVerb_69 (by decide) ?_
    refine lv_aload_n hx hb dX6_takeVerb_71 rfl (lv_at hl 1 rfl) ?_
    refine gf_X6_31 (v := .int f_at) hx hb hts hown hK hP 0 rfl rfl dX6_takeVerb_72 ?_
    refine lv_isub hx hb dX6_takeVerb_75 ?_
    refine pf_X6_34 (W1 := [(q_this, .inr (6, [.ref q_text, .int f_length, .ref q_first, .ref q_verb, .ref q_second, .int f_sentences, .int f_at, .int ((-100 : Int32) - f_at)])), (q_text, .inl (gI G, 100, .inl f_text))]) hx hb hts hown hK hP hD hS 0 rfl (Nat.le_of_ble_eq_true rfl) dX6_takeVerb_76 rfl (fun H locs hP hD hS => ?_)
    refine lv_goto (tgt := 98) hx hb dX6_takeVerb_79 (by decide) ?_
    refine lv_aload_n hx hb dX6_takeVerb_98 rfl (lv_at hl 1 rfl) ?_
    refine lv_iload_n hx hb dX6_takeVerb_99 rfl (lv_at hl 2 rfl) ?_
    refine pf_X6_31 (W1 := [(q_this, .inr (6, [.ref q_text, .int f_length, .ref q_first, .ref q_verb, .ref q_second, .int f_sentences, .int x1_14, .int ((-100 : Int32) - f_at)])), (q_text, .inl (gI G, 100, .inl f_text))]) hx hb hts hown hK hP hD hS 0 rfl (Nat.le_of_ble_eq_true rfl) dX6_takeVerb_100 rfl (fun H locs hP hD hS => ?_)
    refine lv_iload_n hx hb dX6_takeVerb_103 rfl (lv_at hl 0 rfl) ?_
    have hfin := fin _ _ ls _ _ (Option.some.inj hm) dX6_takeVerb_104 hP hD hS
    exact hfin
  refine lv_iconst (v := 0) hx hb dX6_takeVerb_7 (by decide) ?_
  have hfin := fin _ _ ls _ _ (Option.some.inj hm) dX6_takeVerb_8 hP hD hS
  exact hfin
set_option maxHeartbeats 0 in
set_option maxRecDepth 100000 in
theorem c_X6_takeSentence (G : GT) (l : Launch) (q_this : Nat) (f_length : Int32) (f_sentences : Int32) (f_at : Int32) (f_fault : Int32) (q_text : Nat) (f_text : (Nat → Int32)) (q_first : Nat) (f_first : (Nat → Int32)) (q_verb : Nat) (f_verb : (Nat → Int32)) (q_second : Nat) (f_second : (Nat → Int32)) {res : (Nat → Int32) × (Nat → Int32) × (Nat → Int32) × Int32 × Int32 × Int32} (hm : m_X6_takeSentence f_text f_length f_first f_verb f_second f_sentences f_at f_fault = some res) : CT G l yX6_takeSentence cX6_takeSentence 4 none 7 153 [.ref q_this] [(q_this, .inr (6, [.ref q_text, .int f_length, .ref q_first, .ref q_verb, .ref q_second, .int f_sentences, .int f_at, .int f_fault])), (q_text, .inl (gI G, 100, .inl f_text)), (q_first, .inl (gI G, 8, .inl f_first)), (q_verb, .inl (gI G, 8, .inl f_verb)), (q_second, .inl (gI G, 8, .inl f_second))] [(q_this, .inr (6, [.ref q_text, .int f_length, .ref q_first, .ref q_verb, .ref q_second, .int res.2.2.2.1, .int res.2.2.2.2.1, .int res.2.2.2.2.2])), (q_text, .inl (gI G, 100, .inl f_text)), (q_first, .inl (gI G, 8, .inl res.1)), (q_verb, .inl (gI G, 8, .inl res.2.1)), (q_second, .inl (gI G, 8, .inl res.2.2.1))] none := by
  refine ctV (G := G) (l := l) (y := yX6_takeSentence) (cc := cX6_takeSentence) (maxL := 4) (fr := 7) (lo := 153) (As := [.ref q_this]) (res := res) (fun res : (Nat → Int32) × (Nat → Int32) × (Nat → Int32) × Int32 × Int32 × Int32 => [(q_this, .inr (6, [.ref q_text, .int f_length, .ref q_first, .ref q_verb, .ref q_second, .int res.2.2.2.1, .int res.2.2.2.2.1, .int res.2.2.2.2.2])), (q_text, .inl (gI G, 100, .inl f_text)), (q_first, .inl (gI G, 8, .inl res.1)), (q_verb, .inl (gI G, 8, .inl res.2.1)), (q_second, .inl (gI G, 8, .inl res.2.2.1))]) (plainFor_of_name (by decide)) (Nat.le_of_ble_eq_true rfl) ?_
  intro p e s m below meth c A ls Q hx hb hml hown hts hK hG hA hP hD hS hl fin
  have hown : s.vm.findClass RX6 = some m.cls := hown
  have hl : lv_has ls 4 [(0, .ref q_this)] := hl
  unfold m_X6_takeSentence at hm
  refine lv_aload_n hx hb dX6_takeSentence_0 rfl (lv_at hl 0 rfl) ?_
  obtain ⟨r_1, h_2, hm⟩ := cl_elim hm
  refine w_callV (As := []) (rest := []) (wr := [(q_first, .inl (gI G, 8, .inl f_first)), (q_verb, .inl (gI G, 8, .inl f_verb)), (q_second, .inl (gI G, 8, .inl f_second))]) (W1 := [(q_this, .inr (6, [.ref q_text, .int f_length, .ref q_first, .ref q_verb, .ref q_second, .int f_sentences, .int r_1.1, .int r_1.2.1])), (q_text, .inl (gI G, 100, .inl f_text)), (q_first, .inl (gI G, 8, .inl f_first)), (q_verb, .inl (gI G, 8, .inl f_verb)), (q_second, .inl (gI G, 8, .inl f_second))]) (ci := 6) (q0 := 0) hx hb hml hown hts hK hG hP hD hS hA (c_X6_takeLetter G l q_this f_length q_first q_verb q_second f_sentences f_at f_fault q_text f_text h_2) kc_X6_takeLetter ki_X6_takeLetter bw736 rfl rfl rfl hl.1 rfl (Nat.le_of_ble_eq_true rfl) dX6_takeSentence_1 (Nat.le_of_ble_eq_true rfl) (Nat.le_of_ble_eq_true rfl) ⟨Nat.le_refl _, Nat.le_refl _⟩ [0, 1] [2, 3, 4] [3, 4, 0, 1, 2] rfl rfl rfl rfl (by decide) rfl rfl (fun H locs hP hD hS => ?_)
  refine lv_istore_n (lv' := [(1, .int r_1.2.2), (0, .ref q_this)]) hx hb dX6_takeSentence_4 rfl hl (by decide) rfl (fun ls hl => ?_)
  refine lv_aload_n hx hb dX6_takeSentence_5 rfl (lv_at hl 1 rfl) ?_
  refine lv_bipush (v := 32) hx hb dX6_takeSentence_6 (by decide) ?_
  obtain ⟨r_3, h_4, hm⟩ := cl_elim hm
  refine w_callV (As := [.int (32 : Int32)]) (rest := []) (wr := [(q_first, .inl (gI G, 8, .inl f_first)), (q_verb, .inl (gI G, 8, .inl f_verb)), (q_second, .inl (gI G, 8, .inl f_second))]) (W1 := [(q_this, .inr (6, [.ref q_text, .int f_length, .ref q_first, .ref q_verb, .ref q_second, .int f_sentences, .int r_3.1, .int r_3.2])), (q_text, .inl (gI G, 100, .inl f_text)), (q_first, .inl (gI G, 8, .inl f_first)), (q_verb, .inl (gI G, 8, .inl f_verb)), (q_second, .inl (gI G, 8, .inl f_second))]) (ci := 6) (q0 := 0) hx hb hml hown hts hK hG hP hD hS hA (c_X6_takeSign G l q_this f_length q_first q_verb q_second f_sentences r_1.1 r_1.2.1 q_text f_text (32 : Int32) h_4) kc_X6_takeSign ki_X6_takeSign bw740 rfl rfl rfl hl.1 rfl (Nat.le_of_ble_eq_true rfl) dX6_takeSentence_8 (Nat.le_of_ble_eq_true rfl) (Nat.le_of_ble_eq_true rfl) ⟨Nat.le_refl _, Nat.le_refl _⟩ [0, 1] [2, 3, 4] [3, 4, 0, 1, 2] rfl rfl rfl rfl (by decide) rfl rfl (fun H locs hP hD hS => ?_)
  refine lv_aload_n hx hb dX6_takeSentence_11 rfl (lv_at hl 1 rfl) ?_
  obtain ⟨r_5, h_6, hm⟩ := cl_elim hm
  refine w_callV (As := []) (rest := []) (wr := [(q_first, .inl (gI G, 8, .inl f_first)), (q_verb, .inl (gI G, 8, .inl f_verb)), (q_second, .inl (gI G, 8, .inl f_second))]) (W1 := [(q_this, .inr (6, [.ref q_text, .int f_length, .ref q_first, .ref q_verb, .ref q_second, .int f_sentences, .int r_5.1, .int r_5.2.1])), (q_text, .inl (gI G, 100, .inl f_text)), (q_first, .inl (gI G, 8, .inl f_first)), (q_verb, .inl (gI G, 8, .inl f_verb)), (q_second, .inl (gI G, 8, .inl f_second))]) (ci := 6) (q0 := 0) hx hb hml hown hts hK hG hP hD hS hA (c_X6_takeVerb G l q_this f_length q_first q_verb q_second f_sentences r_3.1 r_3.2 q_text f_text h_6) kc_X6_takeVerb ki_X6_takeVerb bw744 rfl rfl rfl hl.1 rfl (Nat.le_of_ble_eq_true rfl) dX6_takeSentence_12 (Nat.le_of_ble_eq_true rfl) (Nat.le_of_ble_eq_true rfl) ⟨Nat.le_refl _, Nat.le_refl _⟩ [0, 1] [2, 3, 4] [3, 4, 0, 1, 2] rfl rfl rfl rfl (by decide) rfl rfl (fun H locs hP hD hS => ?_)
  refine lv_istore_n (lv' := [(2, .int r_5.2.2), (1, .int r_1.2.2), (0, .ref q_this)]) hx hb dX6_takeSentence_15 rfl hl (by decide) rfl (fun ls hl => ?_)
  refine lv_aload_n hx hb dX6_takeSentence_16 rfl (lv_at hl 2 rfl) ?_
  refine lv_bipush (v := 32) hx hb dX6_takeSentence_17 (by decide) ?_
  obtain ⟨r_7, h_8, hm⟩ := cl_elim hm
  refine w_callV (As := [.int (32 : Int32)]) (rest := []) (wr := [(q_first, .inl (gI G, 8, .inl f_first)), (q_verb, .inl (gI G, 8, .inl f_verb)), (q_second, .inl (gI G, 8, .inl f_second))]) (W1 := [(q_this, .inr (6, [.ref q_text, .int f_length, .ref q_first, .ref q_verb, .ref q_second, .int f_sentences, .int r_7.1, .int r_7.2])), (q_text, .inl (gI G, 100, .inl f_text)), (q_first, .inl (gI G, 8, .inl f_first)), (q_verb, .inl (gI G, 8, .inl f_verb)), (q_second, .inl (gI G, 8, .inl f_second))]) (ci := 6) (q0 := 0) hx hb hml hown hts hK hG hP hD hS hA (c_X6_takeSign G l q_this f_length q_first q_verb q_second f_sentences r_5.1 r_5.2.1 q_text f_text (32 : Int32) h_8) kc_X6_takeSign ki_X6_takeSign bw740 rfl rfl rfl hl.1 rfl (Nat.le_of_ble_eq_true rfl) dX6_takeSentence_19 (Nat.le_of_ble_eq_true rfl) (Nat.le_of_ble_eq_true rfl) ⟨Nat.le_refl _, Nat.le_refl _⟩ [0, 1] [2, 3, 4] [3, 4, 0, 1, 2] rfl rfl rfl rfl (by decide) rfl rfl (fun H locs hP hD hS => ?_)
  refine lv_aload_n hx hb dX6_takeSentence_22 rfl (lv_at hl 2 rfl) ?_
  obtain ⟨r_9, h_10, hm⟩ := cl_elim hm
  refine w_callV (As := []) (rest := []) (wr := [(q_first, .inl (gI G, 8, .inl f_first)), (q_verb, .inl (gI G, 8, .inl f_verb)), (q_second, .inl (gI G, 8, .inl f_second))]) (W1 := [(q_this, .inr (6, [.ref q_text, .int f_length, .ref q_first, .ref q_verb, .ref q_second, .int f_sentences, .int r_9.1, .int r_9.2.1])), (q_text, .inl (gI G, 100, .inl f_text)), (q_first, .inl (gI G, 8, .inl f_first)), (q_verb, .inl (gI G, 8, .inl f_verb)), (q_second, .inl (gI G, 8, .inl f_second))]) (ci := 6) (q0 := 0) hx hb hml hown hts hK hG hP hD hS hA (c_X6_takeLetter G l q_this f_length q_first q_verb q_second f_sentences r_7.1 r_7.2 q_text f_text h_10) kc_X6_takeLetter ki_X6_takeLetter bw736 rfl rfl rfl hl.1 rfl (Nat.le_of_ble_eq_true rfl) dX6_takeSentence_23 (Nat.le_of_ble_eq_true rfl) (Nat.le_of_ble_eq_true rfl) ⟨Nat.le_refl _, Nat.le_refl _⟩ [0, 1] [2, 3, 4] [3, 4, 0, 1, 2] rfl rfl rfl rfl (by decide) rfl rfl (fun H locs hP hD hS => ?_)
  refine lv_istore_n (lv' := [(3, .int r_9.2.2), (2, .int r_5.2.2), (1, .int r_1.2.2), (0, .ref q_this)]) hx hb dX6_takeSentence_26 rfl hl (by decide) rfl (fun ls hl => ?_)
  refine lv_aload_n hx hb dX6_takeSentence_27 rfl (lv_at hl 3 rfl) ?_
  refine gf_X6_34 (v := .int r_9.2.1) hx hb hts hown hK hP 0 rfl rfl dX6_takeSentence_28 ?_
  refine if_ne (tgt := 83) hx hb dX6_takeSentence_31 (by decide) hm (fun hm => ?_) (fun hm => ?_)
  · have hfin := fin _ _ ls _ _ (Option.some.inj hm) dX6_takeSentence_83 hP hD hS
    exact hfin
  refine lv_aload_n hx hb dX6_takeSentence_34 rfl (lv_at hl 3 rfl) ?_
  refine gf_X6_28 (v := .int f_sentences) hx hb hts hown hK hP 0 rfl rfl dX6_takeSentence_35 ?_
  refine lv_bipush (v := 8) hx hb dX6_takeSentence_38 (by decide) ?_
  refine ic_ge (tgt := 83) hx hb dX6_takeSentence_40 (by decide) hm (fun hm => ?_) (fun hm => ?_)
  · have hfin := fin _ _ ls _ _ (Option.some.inj hm) dX6_takeSentence_83 hP hD hS
    exact hfin
  refine lv_aload_n hx hb dX6_takeSentence_43 rfl (lv_at hl 3 rfl) ?_
  refine gf_X6_19 (v := .ref q_first) hx hb hts hown hK hP 0 rfl rfl dX6_takeSentence_44 ?_
  refine lv_aload_n hx hb dX6_takeSentence_47 rfl (lv_at hl 3 rfl) ?_
  refine gf_X6_28 (v := .int f_sentences) hx hb hts hown hK hP 0 rfl rfl dX6_takeSentence_48 ?_
  refine lv_iload_n hx hb dX6_takeSentence_51 rfl (lv_at hl 2 rfl) ?_
  refine w_iast hx hb hK hP hD hS 2 rfl hm dX6_takeSentence_52 (fun g_11 => [(q_this, .inr (6, [.ref q_text, .int f_length, .ref q_first, .ref q_verb, .ref q_second, .int f_sentences, .int r_9.1, .int r_9.2.1])), (q_text, .inl (gI G, 100, .inl f_text)), (q_first, .inl (gI G, 8, .inl g_11)), (q_verb, .inl (gI G, 8, .inl f_verb)), (q_second, .inl (gI G, 8, .inl f_second))]) (fun _ => rfl) (fun g_11 H locs hm hP hD hS => ?_)
  refine lv_aload_n hx hb dX6_takeSentence_53 rfl (lv_at hl 3 rfl) ?_
  refine gf_X6_22 (v := .ref q_verb) hx hb hts hown hK hP 0 rfl rfl dX6_takeSentence_54 ?_
  refine lv_aload_n hx hb dX6_takeSentence_57 rfl (lv_at hl 3 rfl) ?_
  refine gf_X6_28 (v := .int f_sentences) hx hb hts hown hK hP 0 rfl rfl dX6_takeSentence_58 ?_
  refine lv_iload_n hx hb dX6_takeSentence_61 rfl (lv_at hl 1 rfl) ?_
  refine w_iast hx hb hK hP hD hS 3 rfl hm dX6_takeSentence_62 (fun g_12 => [(q_this, .inr (6, [.ref q_text, .int f_length, .ref q_first, .ref q_verb, .ref q_second, .int f_sentences, .int r_9.1, .int r_9.2.1])), (q_text, .inl (gI G, 100, .inl f_text)), (q_first, .inl (gI G, 8, .inl g_11)), (q_verb, .inl (gI G, 8, .inl g_12)), (q_second, .inl (gI G, 8, .inl f_second))]) (fun _ => rfl) (fun g_12 H locs hm hP hD hS => ?_)
  refine lv_aload_n hx hb dX6_takeSentence_63 rfl (lv_at hl 3 rfl) ?_
  refine gf_X6_25 (v := .ref q_second) hx hb hts hown hK hP 0 rfl rfl dX6_takeSentence_64 ?_
  refine lv_aload_n hx hb dX6_takeSentence_67 rfl (lv_at hl 3 rfl) ?_
  refine gf_X6_28 (v := .int f_sentences) hx hb hts hown hK hP 0 rfl rfl dX6_takeSentence_68 ?_
  refine lv_iload_n hx hb dX6_takeSentence_71 rfl (lv_at hl 0 rfl) ?_
  refine w_iast hx hb hK hP hD hS 4 rfl hm dX6_takeSentence_72 (fun g_13 => [(q_this, .inr (6, [.ref q_text, .int f_length, .ref q_first, .ref q_verb, .ref q_second, .int f_sentences, .int r_9.1, .int r_9.2.1])), (q_text, .inl (gI G, 100, .inl f_text)), (q_first, .inl (gI G, 8, .inl g_11)), (q_verb, .inl (gI G, 8, .inl g_12)), (q_second, .inl (gI G, 8, .inl g_13))]) (fun _ => rfl) (fun g_13 H locs hm hP hD hS => ?_)
  refine lv_aload_n hx hb dX6_takeSentence_73 rfl (lv_at hl 3 rfl) ?_
  refine lv_dup hx hb dX6_takeSentence_74 rfl ?_
  refine gf_X6_28 (v := .int f_sentences) hx hb hts hown hK hP 0 rfl rfl dX6_takeSentence_75 ?_
  refine lv_iconst (v := 1) hx hb dX6_takeSentence_78 (by decide) ?_
  refine lv_iadd hx hb dX6_takeSentence_79 ?_
  refine pf_X6_28 (W1 := [(q_this, .inr (6, [.ref q_text, .int f_length, .ref q_first, .ref q_verb, .ref q_second, .int (f_sentences + (1 : Int32)), .int r_9.1, .int r_9.2.1])), (q_text, .inl (gI G, 100, .inl f_text)), (q_first, .inl (gI G, 8, .inl g_11)), (q_verb, .inl (gI G, 8, .inl g_12)), (q_second, .inl (gI G, 8, .inl g_13))]) hx hb hts hown hK hP hD hS 0 rfl (Nat.le_of_ble_eq_true rfl) dX6_takeSentence_80 rfl (fun H locs hP hD hS => ?_)
  have hfin := fin _ _ ls _ _ (Option.some.inj hm) dX6_takeSentence_83 hP hD hS
  exact hfin
set_option maxHeartbeats 0 in
set_option maxRecDepth 100000 in
theorem c_X6_parse (G : GT) (l : Launch) (q_this : Nat) (f_length : Int32) (f_sentences : Int32) (f_at : Int32) (f_fault : Int32) (q_text : Nat) (f_text : (Nat → Int32)) (q_first : Nat) (f_first : (Nat → Int32)) (q_verb : Nat) (f_verb : (Nat → Int32)) (q_second : Nat) (f_second : (Nat → Int32)) {res : (Nat → Int32) × (Nat → Int32) × (Nat → Int32) × Int32 × Int32 × Int32 × Int32} (hm : m_X6_parse f_text f_length f_first f_verb f_second f_sentences f_at f_fault = some res) : CT G l yX6_parse cX6_parse 2 (some .int) 8 176 [.ref q_this] [(q_this, .inr (6, [.ref q_text, .int f_length, .ref q_first, .ref q_verb, .ref q_second, .int f_sentences, .int f_at, .int f_fault])), (q_text, .inl (gI G, 100, .inl f_text)), (q_first, .inl (gI G, 8, .inl f_first)), (q_verb, .inl (gI G, 8, .inl f_verb)), (q_second, .inl (gI G, 8, .inl f_second))] [(q_this, .inr (6, [.ref q_text, .int f_length, .ref q_first, .ref q_verb, .ref q_second, .int res.2.2.2.1, .int res.2.2.2.2.1, .int res.2.2.2.2.2.1])), (q_text, .inl (gI G, 100, .inl f_text)), (q_first, .inl (gI G, 8, .inl res.1)), (q_verb, .inl (gI G, 8, .inl res.2.1)), (q_second, .inl (gI G, 8, .inl res.2.2.1))] (some (.int res.2.2.2.2.2.2)) := by
  refine ctI (G := G) (l := l) (y := yX6_parse) (cc := cX6_parse) (maxL := 2) (fr := 8) (lo := 176) (As := [.ref q_this]) (res := res) (fun res : (Nat → Int32) × (Nat → Int32) × (Nat → Int32) × Int32 × Int32 × Int32 × Int32 => [(q_this, .inr (6, [.ref q_text, .int f_length, .ref q_first, .ref q_verb, .ref q_second, .int res.2.2.2.1, .int res.2.2.2.2.1, .int res.2.2.2.2.2.1])), (q_text, .inl (gI G, 100, .inl f_text)), (q_first, .inl (gI G, 8, .inl res.1)), (q_verb, .inl (gI G, 8, .inl res.2.1)), (q_second, .inl (gI G, 8, .inl res.2.2.1))]) (fun res : (Nat → Int32) × (Nat → Int32) × (Nat → Int32) × Int32 × Int32 × Int32 × Int32 => res.2.2.2.2.2.2) (plainFor_of_name (by decide)) (Nat.le_of_ble_eq_true rfl) ?_
  intro p e s m below meth c A ls Q hx hb hml hown hts hK hG hA hP hD hS hl fin
  have hown : s.vm.findClass RX6 = some m.cls := hown
  have hl : lv_has ls 2 [(0, .ref q_this)] := hl
  unfold m_X6_parse at hm
  refine lv_aload_n hx hb dX6_parse_0 rfl (lv_at hl 0 rfl) ?_
  refine lv_iconst (v := 0) hx hb dX6_parse_1 (by decide) ?_
  refine pf_X6_31 (W1 := [(q_this, .inr (6, [.ref q_text, .int f_length, .ref q_first, .ref q_verb, .ref q_second, .int f_sentences, .int (0 : Int32), .int f_fault])), (q_text, .inl (gI G, 100, .inl f_text)), (q_first, .inl (gI G, 8, .inl f_first)), (q_verb, .inl (gI G, 8, .inl f_verb)), (q_second, .inl (gI G, 8, .inl f_second))]) hx hb hts hown hK hP hD hS 0 rfl (Nat.le_of_ble_eq_true rfl) dX6_parse_2 rfl (fun H locs hP hD hS => ?_)
  refine lv_aload_n hx hb dX6_parse_5 rfl (lv_at hl 0 rfl) ?_
  refine lv_iconst (v := 0) hx hb dX6_parse_6 (by decide) ?_
  refine pf_X6_34 (W1 := [(q_this, .inr (6, [.ref q_text, .int f_length, .ref q_first, .ref q_verb, .ref q_second, .int f_sentences, .int (0 : Int32), .int (0 : Int32)])), (q_text, .inl (gI G, 100, .inl f_text)), (q_first, .inl (gI G, 8, .inl f_first)), (q_verb, .inl (gI G, 8, .inl f_verb)), (q_second, .inl (gI G, 8, .inl f_second))]) hx hb hts hown hK hP hD hS 0 rfl (Nat.le_of_ble_eq_true rfl) dX6_parse_7 rfl (fun H locs hP hD hS => ?_)
  refine lv_aload_n hx hb dX6_parse_10 rfl (lv_at hl 0 rfl) ?_
  refine lv_iconst (v := 0) hx hb dX6_parse_11 (by decide) ?_
  refine pf_X6_28 (W1 := [(q_this, .inr (6, [.ref q_text, .int f_length, .ref q_first, .ref q_verb, .ref q_second, .int (0 : Int32), .int (0 : Int32), .int (0 : Int32)])), (q_text, .inl (gI G, 100, .inl f_text)), (q_first, .inl (gI G, 8, .inl f_first)), (q_verb, .inl (gI G, 8, .inl f_verb)), (q_second, .inl (gI G, 8, .inl f_second))]) hx hb hts hown hK hP hD hS 0 rfl (Nat.le_of_ble_eq_true rfl) dX6_parse_12 rfl (fun H locs hP hD hS => ?_)
  refine lv_aload_n hx hb dX6_parse_15 rfl (lv_at hl 0 rfl) ?_
  obtain ⟨r_1, h_2, hm⟩ := cl_elim hm
  refine w_callV (As := []) (rest := []) (wr := []) (W1 := [(q_this, .inr (6, [.ref q_text, .int f_length, .ref q_first, .ref q_verb, .ref q_second, .int r_1.2.2.2.1, .int r_1.2.2.2.2.1, .int r_1.2.2.2.2.2])), (q_text, .inl (gI G, 100, .inl f_text)), (q_first, .inl (gI G, 8, .inl r_1.1)), (q_verb, .inl (gI G, 8, .inl r_1.2.1)), (q_second, .inl (gI G, 8, .inl r_1.2.2.1))]) (ci := 6) (q0 := 0) hx hb hml hown hts hK hG hP hD hS hA (c_X6_takeSentence G l q_this f_length (0 : Int32) (0 : Int32) (0 : Int32) q_text f_text q_first f_first q_verb f_verb q_second f_second h_2) kc_X6_takeSentence ki_X6_takeSentence bw732 rfl rfl rfl hl.1 rfl (Nat.le_of_ble_eq_true rfl) dX6_parse_16 (Nat.le_of_ble_eq_true rfl) (Nat.le_of_ble_eq_true rfl) ⟨Nat.le_refl _, Nat.le_refl _⟩ [0, 1, 2, 3, 4] [] [0, 1, 2, 3, 4] rfl rfl rfl rfl (by decide) rfl rfl (fun H locs hP hD hS => ?_)
  refine lv_iconst (v := 1) hx hb dX6_parse_19 (by decide) ?_
  refine lv_istore_n (lv' := [(1, .int (1 : Int32)), (0, .ref q_this)]) hx hb dX6_parse_20 rfl hl (by decide) rfl (fun ls hl => ?_)
  have hL_21 : ∀ (k_21 : Int32 → (Nat → Int32) → (Nat → Int32) → (Nat → Int32) → Int32 → Int32 → Int32 → Option ((Nat → Int32) × (Nat → Int32) × (Nat → Int32) × Int32 × Int32 × Int32 × Int32)), (∀ (x1_21 : Int32) (y_f_first_21 : (Nat → Int32)) (y_f_verb_21 : (Nat → Int32)) (y_f_second_21 : (Nat → Int32)) (y_f_sentences_21 : Int32) (y_f_at_21 : Int32) (y_f_fault_21 : Int32) (H : Heap) (locs : List Loc) (ls : Array Slot), k_21 x1_21 y_f_first_21 y_f_verb_21 y_f_second_21 y_f_sentences_21 y_f_at_21 y_f_fault_21 = some res → va_P (gD G) vwCl [(q_this, .inr (6, [.ref q_text, .int f_length, .ref q_first, .ref q_verb, .ref q_second, .int y_f_sentences_21, .int y_f_at_21, .int y_f_fault_21])), (q_text, .inl (gI G, 100, .inl f_text)), (q_first, .inl (gI G, 8, .inl y_f_first_21)), (q_verb, .inl (gI G, 8, .inl y_f_verb_21)), (q_second, .inl (gI G, 8, .inl y_f_second_21))] H → va_D A [(q_this, .inr (6, [.ref q_text, .int f_length, .ref q_first, .ref q_verb, .ref q_second, .int y_f_sentences_21, .int y_f_at_21, .int y_f_fault_21])), (q_text, .inl (gI G, 100, .inl f_text)), (q_first, .inl (gI G, 8, .inl y_f_first_21)), (q_verb, .inl (gI G, 8, .inl y_f_verb_21)), (q_second, .inl (gI G, 8, .inl y_f_second_21))] → va_S A s.heap H locs → lv_has ls 2 [(0, .ref q_this)] → W p l e { frames := 8, cells := 0, slots := 0, locals := 176 } s m ([.ref q_this] : List Value).toArray below meth c H locs 0 0 Q (F0 m 61 ls [])) → ∀ (n_21 : Nat) (x1_21 : Int32) (y_f_first_21 : (Nat → Int32)) (y_f_verb_21 : (Nat → Int32)) (y_f_second_21 : (Nat → Int32)) (y_f_sentences_21 : Int32) (y_f_at_21 : Int32) (y_f_fault_21 : Int32) (H : Heap) (locs : List Loc) (ls : Array Slot), m_X6_parse_L21 f_length f_text n_21 x1_21 y_f_first_21 y_f_verb_21 y_f_second_21 y_f_sentences_21 y_f_at_21 y_f_fault_21 k_21 = some res → va_P (gD G) vwCl [(q_this, .inr (6, [.ref q_text, .int f_length, .ref q_first, .ref q_verb, .ref q_second, .int y_f_sentences_21, .int y_f_at_21, .int y_f_fault_21])), (q_text, .inl (gI G, 100, .inl f_text)), (q_first, .inl (gI G, 8, .inl y_f_first_21)), (q_verb, .inl (gI G, 8, .inl y_f_verb_21)), (q_second, .inl (gI G, 8, .inl y_f_second_21))] H → va_D A [(q_this, .inr (6, [.ref q_text, .int f_length, .ref q_first, .ref q_verb, .ref q_second, .int y_f_sentences_21, .int y_f_at_21, .int y_f_fault_21])), (q_text, .inl (gI G, 100, .inl f_text)), (q_first, .inl (gI G, 8, .inl y_f_first_21)), (q_verb, .inl (gI G, 8, .inl y_f_verb_21)), (q_second, .inl (gI G, 8, .inl y_f_second_21))] → va_S A s.heap H locs → lv_has ls 2 [(0, .ref q_this), (1, .int x1_21)] → W p l e { frames := 8, cells := 0, slots := 0, locals := 176 } s m ([.ref q_this] : List Value).toArray below meth c H locs 0 0 Q (F0 m 21 ls []) := by
    intro k_21 hk_21 n_21
    induction n_21 with
    | zero =>
      intro x1_21 y_f_first_21 y_f_verb_21 y_f_second_21 y_f_sentences_21 y_f_at_21 y_f_fault_21 H locs ls hm
      rw [m_X6_parse_L21] at hm
      cases hm
    | succ n_21 ih_21 =>
      intro x1_21 y_f_first_21 y_f_verb_21 y_f_second_21 y_f_sentences_21 y_f_at_21 y_f_fault_21 H locs ls hm hP hD hS hl
      rw [m_X6_parse_L21] at hm
      refine lv_iload_n hx hb dX6_parse_21 rfl (lv_at hl 1 rfl) ?_
      refine lv_bipush (v := 8) hx hb dX6_parse_22 (by decide) ?_
      refine ic_ge (tgt := 61) hx hb dX6_parse_24 (by decide) hm (fun hm => ?_) (fun hm => ?_)
      · exact hk_21 x1_21 y_f_first_21 y_f_verb_21 y_f_second_21 y_f_sentences_21 y_f_at_21 y_f_fault_21 _ _ _ hm hP hD hS (lv_sub hl [0] rfl)
      refine lv_aload_n hx hb dX6_parse_27 rfl (lv_at hl 0 rfl) ?_
      refine gf_X6_34 (v := .int y_f_fault_21) hx hb hts hown hK hP 0 rfl rfl dX6_parse_28 ?_
      refine if_ne (tgt := 61) hx hb dX6_parse_31 (by decide) hm (fun hm => ?_) (fun hm => ?_)
      · exact hk_21 x1_21 y_f_first_21 y_f_verb_21 y_f_second_21 y_f_sentences_21 y_f_at_21 y_f_fault_21 _ _ _ hm hP hD hS (lv_sub hl [0] rfl)
      refine lv_aload_n hx hb dX6_parse_34 rfl (lv_at hl 0 rfl) ?_
      refine gf_X6_31 (v := .int y_f_at_21) hx hb hts hown hK hP 0 rfl rfl dX6_parse_35 ?_
      refine lv_aload_n hx hb dX6_parse_38 rfl (lv_at hl 0 rfl) ?_
      refine gf_X6_15 (v := .int f_length) hx hb hts hown hK hP 0 rfl rfl dX6_parse_39 ?_
      refine ic_ge (tgt := 61) hx hb dX6_parse_42 (by decide) hm (fun hm => ?_) (fun hm => ?_)
      · exact hk_21 x1_21 y_f_first_21 y_f_verb_21 y_f_second_21 y_f_sentences_21 y_f_at_21 y_f_fault_21 _ _ _ hm hP hD hS (lv_sub hl [0] rfl)
      refine lv_aload_n hx hb dX6_parse_45 rfl (lv_at hl 0 rfl) ?_
      refine lv_bipush (v := 59) hx hb dX6_parse_46 (by decide) ?_
      obtain ⟨r_3, h_4, hm⟩ := cl_elim hm
      refine w_callV (As := [.int (59 : Int32)]) (rest := []) (wr := [(q_first, .inl (gI G, 8, .inl y_f_first_21)), (q_verb, .inl (gI G, 8, .inl y_f_verb_21)), (q_second, .inl (gI G, 8, .inl y_f_second_21))]) (W1 := [(q_this, .inr (6, [.ref q_text, .int f_length, .ref q_first, .ref q_verb, .ref q_second, .int y_f_sentences_21, .int r_3.1, .int r_3.2])), (q_text, .inl (gI G, 100, .inl f_text)), (q_first, .inl (gI G, 8, .inl y_f_first_21)), (q_verb, .inl (gI G, 8, .inl y_f_verb_21)), (q_second, .inl (gI G, 8, .inl y_f_second_21))]) (ci := 6) (q0 := 0) hx hb hml hown hts hK hG hP hD hS hA (c_X6_takeSign G l q_this f_length q_first q_verb q_second y_f_sentences_21 y_f_at_21 y_f_fault_21 q_text f_text (59 : Int32) h_4) kc_X6_takeSign ki_X6_takeSign bw740 rfl rfl rfl hl.1 rfl (Nat.le_of_ble_eq_true rfl) dX6_parse_48 (Nat.le_of_ble_eq_true rfl) (Nat.le_of_ble_eq_true rfl) ⟨Nat.le_refl _, Nat.le_refl _⟩ [0, 1] [2, 3, 4] [3, 4, 0, 1, 2] rfl rfl rfl rfl (by decide) rfl rfl (fun H locs hP hD hS => ?_)
      refine lv_aload_n hx hb dX6_parse_51 rfl (lv_at hl 0 rfl) ?_
      obtain ⟨r_5, h_6, hm⟩ := cl_elim hm
      refine w_callV (As := []) (rest := []) (wr := []) (W1 := [(q_this, .inr (6, [.ref q_text, .int f_length, .ref q_first, .ref q_verb, .ref q_second, .int r_5.2.2.2.1, .int r_5.2.2.2.2.1, .int r_5.2.2.2.2.2])), (q_text, .inl (gI G, 100, .inl f_text)), (q_first, .inl (gI G, 8, .inl r_5.1)), (q_verb, .inl (gI G, 8, .inl r_5.2.1)), (q_second, .inl (gI G, 8, .inl r_5.2.2.1))]) (ci := 6) (q0 := 0) hx hb hml hown hts hK hG hP hD hS hA (c_X6_takeSentence G l q_this f_length y_f_sentences_21 r_3.1 r_3.2 q_text f_text q_first y_f_first_21 q_verb y_f_verb_21 q_second y_f_second_21 h_6) kc_X6_takeSentence ki_X6_takeSentence bw732 rfl rfl rfl hl.1 rfl (Nat.le_of_ble_eq_true rfl) dX6_parse_52 (Nat.le_of_ble_eq_true rfl) (Nat.le_of_ble_eq_true rfl) ⟨Nat.le_refl _, Nat.le_refl _⟩ [0, 1, 2, 3, 4] [] [0, 1, 2, 3, 4] rfl rfl rfl rfl (by decide) rfl rfl (fun H locs hP hD hS => ?_)
      refine lv_iinc (v := (x1_21 + (1 : Int32))) (lv' := [(1, .int (x1_21 + (1 : Int32))), (0, .ref q_this)]) hx hb dX6_parse_55 hl (k := 1) rfl rfl (by decide) rfl (fun ls hl => ?_)
      refine lv_goto (tgt := 21) hx hb dX6_parse_58 (by decide) ?_
      exact ih_21 (x1_21 + (1 : Int32)) r_5.1 r_5.2.1 r_5.2.2.1 r_5.2.2.2.1 r_5.2.2.2.2.1 r_5.2.2.2.2.2 _ _ _ hm hP hD hS (lv_sub hl [1, 0] rfl)
  refine hL_21 _ ?_ FU (1 : Int32) r_1.1 r_1.2.1 r_1.2.2.1 r_1.2.2.2.1 r_1.2.2.2.2.1 r_1.2.2.2.2.2 _ _ _ hm hP hD hS (lv_sub hl [1, 0] rfl)
  intro x1_21 y_f_first_21 y_f_verb_21 y_f_second_21 y_f_sentences_21 y_f_at_21 y_f_fault_21 H locs ls hm hP hD hS hl
  refine lv_aload_n hx hb dX6_parse_61 rfl (lv_at hl 0 rfl) ?_
  refine gf_X6_34 (v := .int y_f_fault_21) hx hb hts hown hK hP 0 rfl rfl dX6_parse_62 ?_
  refine if_ne (tgt := 90) hx hb dX6_parse_65 (by decide) hm (fun hm => ?_) (fun hm => ?_)
  · refine lv_aload_n hx hb dX6_parse_90 rfl (lv_at hl 0 rfl) ?_
    refine gf_X6_34 (v := .int y_f_fault_21) hx hb hts hown hK hP 0 rfl rfl dX6_parse_91 ?_
    have hfin := fin _ _ ls _ _ (Option.some.inj hm) dX6_parse_94 hP hD hS
    exact hfin
  refine lv_aload_n hx hb dX6_parse_68 rfl (lv_at hl 0 rfl) ?_
  refine gf_X6_31 (v := .int y_f_at_21) hx hb hts hown hK hP 0 rfl rfl dX6_parse_69 ?_
  refine lv_aload_n hx hb dX6_parse_72 rfl (lv_at hl 0 rfl) ?_
  refine gf_X6_15 (v := .int f_length) hx hb hts hown hK hP 0 rfl rfl dX6_parse_73 ?_
  refine ic_ge (tgt := 90) hx hb dX6_parse_76 (by decide) hm (fun hm => ?_) (fun hm => ?_)
  · refine lv_aload_n hx hb dX6_parse_90 rfl (lv_at hl 0 rfl) ?_
    refine gf_X6_34 (v := .int y_f_fault_21) hx hb hts hown hK hP 0 rfl rfl dX6_parse_91 ?_
    have hfin := fin _ _ ls _ _ (Option.some.inj hm) dX6_parse_94 hP hD hS
    exact hfin
  refine lv_aload_n hx hb dX6_parse_79 rfl (lv_at hl 0 rfl) ?_
  refine lv_bipush (v := -100) hx hb dX6_parse_80 (by decide) ?_
  refine lv_aload_n hx hb dX6_parse_82 rfl (lv_at hl 0 rfl) ?_
  refine gf_X6_31 (v := .int y_f_at_21) hx hb hts hown hK hP 0 rfl rfl dX6_parse_83 ?_
  refine lv_isub hx hb dX6_parse_86 ?_
  refine pf_X6_34 (W1 := [(q_this, .inr (6, [.ref q_text, .int f_length, .ref q_first, .ref q_verb, .ref q_second, .int y_f_sentences_21, .int y_f_at_21, .int ((-100 : Int32) - y_f_at_21)])), (q_text, .inl (gI G, 100, .inl f_text)), (q_first, .inl (gI G, 8, .inl y_f_first_21)), (q_verb, .inl (gI G, 8, .inl y_f_verb_21)), (q_second, .inl (gI G, 8, .inl y_f_second_21))]) hx hb hts hown hK hP hD hS 0 rfl (Nat.le_of_ble_eq_true rfl) dX6_parse_87 rfl (fun H locs hP hD hS => ?_)
  refine lv_aload_n hx hb dX6_parse_90 rfl (lv_at hl 0 rfl) ?_
  refine gf_X6_34 (v := .int ((-100 : Int32) - y_f_at_21)) hx hb hts hown hK hP 0 rfl rfl dX6_parse_91 ?_
  have hfin := fin _ _ ls _ _ (Option.some.inj hm) dX6_parse_94 hP hD hS
  exact hfin
set_option maxHeartbeats 0 in
set_option maxRecDepth 100000 in
theorem c_Jxe99ae_isNaN_b9ae7 (G : GT) (l : Launch) (a_1 : UInt64) {res : Int32} (hm : m_Jxe99ae_isNaN_b9ae7 a_1 = some res) : CT G l yJxe99ae_isNaN_b9ae7 cJxe99ae_isNaN_b9ae7 2 (some .boolean) 0 0 [.double a_1] [] [] (some (.int res)) := by
  refine ctZ (G := G) (l := l) (y := yJxe99ae_isNaN_b9ae7) (cc := cJxe99ae_isNaN_b9ae7) (maxL := 2) (fr := 0) (lo := 0) (As := [.double a_1]) (res := res) (fun res : Int32 => []) (fun res : Int32 => res) (plainFor_of_name (by decide)) (Nat.le_of_ble_eq_true rfl) ?_
  intro p e s m below meth c A ls Q hx hb hml hown hts hK hG hA hP hD hS hl fin
  have hown : s.vm.findClass RJxe99ae = some m.cls := hown
  have hl : lv_has ls 2 [(0, .double a_1)] := hl
  unfold m_Jxe99ae_isNaN_b9ae7 at hm
  refine lv_dload_n hx hb dJxe99ae_isNaN_b9ae7_0 rfl (lv_at hl 0 rfl) ?_
  refine lv_dload_n hx hb dJxe99ae_isNaN_b9ae7_1 rfl (lv_at hl 0 rfl) ?_
  refine lv_dcmp hx hb dJxe99ae_isNaN_b9ae7_2 ?_
  refine if_eq (tgt := 10) hx hb dJxe99ae_isNaN_b9ae7_3 (by decide) hm (fun hm => ?_) (fun hm => ?_)
  · refine lv_iconst (v := 0) hx hb dJxe99ae_isNaN_b9ae7_10 (by decide) ?_
    have hfin := fin _ _ ls _ _ (Option.some.inj hm) dJxe99ae_isNaN_b9ae7_11 (Or.inl rfl) hP hD hS
    exact hfin
  refine lv_iconst (v := 1) hx hb dJxe99ae_isNaN_b9ae7_6 (by decide) ?_
  refine lv_goto (tgt := 11) hx hb dJxe99ae_isNaN_b9ae7_7 (by decide) ?_
  have hfin := fin _ _ ls _ _ (Option.some.inj hm) dJxe99ae_isNaN_b9ae7_11 (Or.inr rfl) hP hD hS
  exact hfin
set_option maxHeartbeats 0 in
set_option maxRecDepth 100000 in
theorem c_Jxe99ae_doubleToLongBits_ccdee (G : GT) (l : Launch) (a_1 : UInt64) {res : Int64} (hm : m_Jxe99ae_doubleToLongBits_ccdee a_1 = some res) : CT G l yJxe99ae_doubleToLongBits_ccdee cJxe99ae_doubleToLongBits_ccdee 2 (some .long) 1 21 [.double a_1] [] [] (some (.long res)) := by
  refine ctJ (G := G) (l := l) (y := yJxe99ae_doubleToLongBits_ccdee) (cc := cJxe99ae_doubleToLongBits_ccdee) (maxL := 2) (fr := 1) (lo := 21) (As := [.double a_1]) (res := res) (fun res : Int64 => []) (fun res : Int64 => res) (plainFor_of_name (by decide)) (Nat.le_of_ble_eq_true rfl) ?_
  intro p e s m below meth c A ls Q hx hb hml hown hts hK hG hA hP hD hS hl fin
  have hown : s.vm.findClass RJxe99ae = some m.cls := hown
  have hl : lv_has ls 2 [(0, .double a_1)] := hl
  unfold m_Jxe99ae_doubleToLongBits_ccdee at hm
  refine lv_dload_n hx hb dJxe99ae_doubleToLongBits_ccdee_0 rfl (lv_at hl 0 rfl) ?_
  obtain ⟨r_1, h_2, hm⟩ := cl_elim hm
  refine w_callS (As := [.double a_1]) (rest := []) (wr := []) (W1 := []) hx hb hml hown hts hK hG hP hD hS hA (c_Jxe99ae_isNaN_b9ae7 G l a_1 h_2) kc_Jxe99ae_isNaN_b9ae7 ks_Jxe99ae_isNaN_b9ae7 bw1311 rfl hl.1 rfl (Nat.le_of_ble_eq_true rfl) dJxe99ae_doubleToLongBits_ccdee_1 (Nat.le_of_ble_eq_true rfl) (Nat.le_of_ble_eq_true rfl) ⟨Nat.le_refl _, Nat.le_refl _⟩ [] [] [] rfl rfl rfl rfl (by decide) rfl rfl (fun H locs hP hD hS => ?_)
  refine if_ne (tgt := 12) hx hb dJxe99ae_doubleToLongBits_ccdee_4 (by decide) hm (fun hm => ?_) (fun hm => ?_)
  · refine lv_ldc2 (v := (9221120237041090560 : Int64)) hx hb hown (hts _ bw1317) dJxe99ae_doubleToLongBits_ccdee_12 ?_
    have hfin := fin _ _ ls _ _ (Option.some.inj hm) dJxe99ae_doubleToLongBits_ccdee_15 hP hD hS
    exact hfin
  refine lv_dload_n hx hb dJxe99ae_doubleToLongBits_ccdee_7 rfl (lv_at hl 0 rfl) ?_
  refine w_d2l hx hb hml hl.1 hts hown bw1314 bw1316 bw1315 bw87 (Nat.le_of_ble_eq_true rfl) (Nat.le_of_ble_eq_true rfl) dJxe99ae_doubleToLongBits_ccdee_8 ?_
  have hfin := fin _ _ ls _ _ (Option.some.inj hm) dJxe99ae_doubleToLongBits_ccdee_11 hP hD hS
  exact hfin
set_option maxHeartbeats 0 in
set_option maxRecDepth 100000 in
theorem c_Jxf58ca_isNaN_12338 (G : GT) (l : Launch) (a_1 : UInt32) {res : Int32} (hm : m_Jxf58ca_isNaN_12338 a_1 = some res) : CT G l yJxf58ca_isNaN_12338 cJxf58ca_isNaN_12338 1 (some .boolean) 0 0 [.float a_1] [] [] (some (.int res)) := by
  refine ctZ (G := G) (l := l) (y := yJxf58ca_isNaN_12338) (cc := cJxf58ca_isNaN_12338) (maxL := 1) (fr := 0) (lo := 0) (As := [.float a_1]) (res := res) (fun res : Int32 => []) (fun res : Int32 => res) (by decide +kernel) (Nat.le_of_ble_eq_true rfl) ?_
  intro p e s m below meth c A ls Q hx hb hml hown hts hK hG hA hP hD hS hl fin
  have hown : s.vm.findClass RJxf58ca = some m.cls := hown
  have hl : lv_has ls 1 [(0, .float a_1)] := hl
  unfold m_Jxf58ca_isNaN_12338 at hm
  refine lv_fload_n hx hb dJxf58ca_isNaN_12338_0 rfl (lv_at hl 0 rfl) ?_
  refine lv_fload_n hx hb dJxf58ca_isNaN_12338_1 rfl (lv_at hl 0 rfl) ?_
  refine lv_fcmp hx hb dJxf58ca_isNaN_12338_2 ?_
  refine if_eq (tgt := 10) hx hb dJxf58ca_isNaN_12338_3 (by decide) hm (fun hm => ?_) (fun hm => ?_)
  · refine lv_iconst (v := 0) hx hb dJxf58ca_isNaN_12338_10 (by decide) ?_
    have hfin := fin _ _ ls _ _ (Option.some.inj hm) dJxf58ca_isNaN_12338_11 (Or.inl rfl) hP hD hS
    exact hfin
  refine lv_iconst (v := 1) hx hb dJxf58ca_isNaN_12338_6 (by decide) ?_
  refine lv_goto (tgt := 11) hx hb dJxf58ca_isNaN_12338_7 (by decide) ?_
  have hfin := fin _ _ ls _ _ (Option.some.inj hm) dJxf58ca_isNaN_12338_11 (Or.inr rfl) hP hD hS
  exact hfin
set_option maxHeartbeats 0 in
set_option maxRecDepth 100000 in
theorem c_Jxf58ca_floatToIntBits_5c35a (G : GT) (l : Launch) (a_1 : UInt32) {res : Int32} (hm : m_Jxf58ca_floatToIntBits_5c35a a_1 = some res) : CT G l yJxf58ca_floatToIntBits_5c35a cJxf58ca_floatToIntBits_5c35a 1 (some .int) 1 20 [.float a_1] [] [] (some (.int res)) := by
  refine ctI (G := G) (l := l) (y := yJxf58ca_floatToIntBits_5c35a) (cc := cJxf58ca_floatToIntBits_5c35a) (maxL := 1) (fr := 1) (lo := 20) (As := [.float a_1]) (res := res) (fun res : Int32 => []) (fun res : Int32 => res) (by decide +kernel) (Nat.le_of_ble_eq_true rfl) ?_
  intro p e s m below meth c A ls Q hx hb hml hown hts hK hG hA hP hD hS hl fin
  have hown : s.vm.findClass RJxf58ca = some m.cls := hown
  have hl : lv_has ls 1 [(0, .float a_1)] := hl
  unfold m_Jxf58ca_floatToIntBits_5c35a at hm
  refine lv_fload_n hx hb dJxf58ca_floatToIntBits_5c35a_0 rfl (lv_at hl 0 rfl) ?_
  obtain ⟨r_1, h_2, hm⟩ := cl_elim hm
  refine w_callS (As := [.float a_1]) (rest := []) (wr := []) (W1 := []) hx hb hml hown hts hK hG hP hD hS hA (c_Jxf58ca_isNaN_12338 G l a_1 h_2) kc_Jxf58ca_isNaN_12338 ks_Jxf58ca_isNaN_12338 bw1325 rfl hl.1 rfl (Nat.le_of_ble_eq_true rfl) dJxf58ca_floatToIntBits_5c35a_1 (Nat.le_of_ble_eq_true rfl) (Nat.le_of_ble_eq_true rfl) ⟨Nat.le_refl _, Nat.le_refl _⟩ [] [] [] rfl rfl rfl rfl (by decide) rfl rfl (fun H locs hP hD hS => ?_)
  refine if_ne (tgt := 12) hx hb dJxf58ca_floatToIntBits_5c35a_4 (by decide) hm (fun hm => ?_) (fun hm => ?_)
  · refine lv_ldc (v := (2143289344 : Int32)) hx hb hown (hts _ bw1331) dJxf58ca_floatToIntBits_5c35a_12 ?_
    have hfin := fin _ _ ls _ _ (Option.some.inj hm) dJxf58ca_floatToIntBits_5c35a_14 hP hD hS
    exact hfin
  refine lv_fload_n hx hb dJxf58ca_floatToIntBits_5c35a_7 rfl (lv_at hl 0 rfl) ?_
  refine w_f2i hx hb hml hl.1 hts hown bw1328 bw1330 bw1329 bw88 (Nat.le_of_ble_eq_true rfl) (Nat.le_of_ble_eq_true rfl) dJxf58ca_floatToIntBits_5c35a_8 ?_
  have hfin := fin _ _ ls _ _ (Option.some.inj hm) dJxf58ca_floatToIntBits_5c35a_11 hP hD hS
  exact hfin
