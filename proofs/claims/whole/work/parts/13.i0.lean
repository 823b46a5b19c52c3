theorem bw98 : Cond.code yX7_init prog_1_method_1_code 1 Option.none ∈ BIG := big_of 98 (by decide +kernel) (by decide +kernel)
theorem bw99 : Cond.methodLink RX7 3 (Lib.objectInit) ∈ BIG := big_of 99 (by decide +kernel) (by decide +kernel)
theorem bw100 : Cond.instanceMethod (Lib.objectInit) ∈ BIG := big_of 100 (by decide +kernel) (by decide +kernel)
theorem bw101 : Cond.code (Lib.objectInit) ⟨#[0xb1]⟩ 1 Option.none ∈ BIG := big_of 101 (by decide +kernel) (by decide +kernel)
theorem bw102 : Cond.classLink RX7 9 RX2 ∈ BIG := big_of 102 (by decide +kernel) (by decide +kernel)
theorem bw103 : Cond.instantiable RX2 16 ∈ BIG := big_of 103 (by decide +kernel) (by decide +kernel)
theorem bw104 : Cond.methodLink RX7 11 yX2_init ∈ BIG := big_of 104 (by decide +kernel) (by decide +kernel)
theorem bw105 : Cond.instanceMethod yX2_init ∈ BIG := big_of 105 (by decide +kernel) (by decide +kernel)
theorem bw106 : Cond.code yX2_init prog_4_method_1_code 2 Option.none ∈ BIG := big_of 106 (by decide +kernel) (by decide +kernel)
theorem bw107 : Cond.methodLink RX2 3 (Lib.objectInit) ∈ BIG := big_of 107 (by decide +kernel) (by decide +kernel)
theorem bw176 : Cond.arrayClass .int ∈ BIG := big_of 176 (by decide +kernel) (by decide +kernel)
theorem bw177 : Cond.arrayClass .boolean ∈ BIG := big_of 177 (by decide +kernel) (by decide +kernel)
theorem bw178 : Cond.classLink RX7 28 RX5 ∈ BIG := big_of 178 (by decide +kernel) (by decide +kernel)
theorem bw179 : Cond.instantiable RX5 7 ∈ BIG := big_of 179 (by decide +kernel) (by decide +kernel)
theorem bw181 : Cond.instanceMethod yX5_init ∈ BIG := big_of 181 (by decide +kernel) (by decide +kernel)
theorem bw182 : Cond.code yX5_init prog_7_method_1_code 1 Option.none ∈ BIG := big_of 182 (by decide +kernel) (by decide +kernel)
theorem bw183 : Cond.methodLink RX5 3 (Lib.objectInit) ∈ BIG := big_of 183 (by decide +kernel) (by decide +kernel)
theorem bw216 : Cond.classLink RX7 35 RX4 ∈ BIG := big_of 216 (by decide +kernel) (by decide +kernel)
theorem bw217 : Cond.instantiable RX4 3 ∈ BIG := big_of 217 (by decide +kernel) (by decide +kernel)
theorem bw219 : Cond.instanceMethod yX4_init ∈ BIG := big_of 219 (by decide +kernel) (by decide +kernel)
theorem bw220 : Cond.code yX4_init prog_6_method_1_code 1 Option.none ∈ BIG := big_of 220 (by decide +kernel) (by decide +kernel)
theorem bw221 : Cond.methodLink RX4 3 (Lib.objectInit) ∈ BIG := big_of 221 (by decide +kernel) (by decide +kernel)
theorem bw232 : Cond.arrayClass .long ∈ BIG := big_of 232 (by decide +kernel) (by decide +kernel)
theorem bw233 : Cond.classLink RX7 42 RX3 ∈ BIG := big_of 233 (by decide +kernel) (by decide +kernel)
theorem bw234 : Cond.instantiable RX3 2 ∈ BIG := big_of 234 (by decide +kernel) (by decide +kernel)
theorem bw236 : Cond.instanceMethod yX3_init ∈ BIG := big_of 236 (by decide +kernel) (by decide +kernel)
theorem bw237 : Cond.code yX3_init prog_5_method_1_code 1 Option.none ∈ BIG := big_of 237 (by decide +kernel) (by decide +kernel)
theorem bw238 : Cond.methodLink RX3 3 (Lib.objectInit) ∈ BIG := big_of 238 (by decide +kernel) (by decide +kernel)
theorem bw248 : Cond.classLink RX7 49 RX6 ∈ BIG := big_of 248 (by decide +kernel) (by decide +kernel)
theorem bw249 : Cond.instantiable RX6 8 ∈ BIG := big_of 249 (by decide +kernel) (by decide +kernel)
theorem bw251 : Cond.instanceMethod yX6_init ∈ BIG := big_of 251 (by decide +kernel) (by decide +kernel)
theorem bw252 : Cond.code yX6_init prog_8_method_1_code 1 Option.none ∈ BIG := big_of 252 (by decide +kernel) (by decide +kernel)
theorem bw253 : Cond.methodLink RX6 3 (Lib.objectInit) ∈ BIG := big_of 253 (by decide +kernel) (by decide +kernel)
theorem bw285 : Cond.classLink RX7 56 RX1 ∈ BIG := big_of 285 (by decide +kernel) (by decide +kernel)
theorem bw286 : Cond.instantiable RX1 2 ∈ BIG := big_of 286 (by decide +kernel) (by decide +kernel)
theorem bw288 : Cond.instanceMethod yX1_init ∈ BIG := big_of 288 (by decide +kernel) (by decide +kernel)
theorem bw289 : Cond.code yX1_init prog_3_method_1_code 1 Option.none ∈ BIG := big_of 289 (by decide +kernel) (by decide +kernel)
theorem bw290 : Cond.methodLink RX1 3 (Lib.objectInit) ∈ BIG := big_of 290 (by decide +kernel) (by decide +kernel)
theorem bw300 : Cond.classLink RX7 63 RX0 ∈ BIG := big_of 300 (by decide +kernel) (by decide +kernel)
theorem bw301 : Cond.instantiable RX0 3 ∈ BIG := big_of 301 (by decide +kernel) (by decide +kernel)
theorem bw302 : Cond.methodLink RX7 65 yX0_init ∈ BIG := big_of 302 (by decide +kernel) (by decide +kernel)
theorem bw303 : Cond.instanceMethod yX0_init ∈ BIG := big_of 303 (by decide +kernel) (by decide +kernel)
theorem bw304 : Cond.code yX0_init prog_2_method_1_code 2 Option.none ∈ BIG := big_of 304 (by decide +kernel) (by decide +kernel)
theorem bw305 : Cond.methodLink RX0 3 (Lib.objectInit) ∈ BIG := big_of 305 (by decide +kernel) (by decide +kernel)
theorem bw978 : Cond.code yX8_init prog_10_method_1_code 2 Option.none ∈ BIG := big_of 978 (by decide +kernel) (by decide +kernel)
theorem bw979 : Cond.methodLink RX8 3 (Lib.objectInit) ∈ BIG := big_of 979 (by decide +kernel) (by decide +kernel)
theorem kc_X0_init : KC yX0_init cX0_init 2 none 0 := ⟨bw304, bw83, ⟨by decide +kernel, by decide +kernel⟩, by decide +kernel⟩
theorem kc_X1_init : KC yX1_init cX1_init 1 none 0 := ⟨bw289, bw82, ⟨by decide +kernel, by decide +kernel⟩, by decide +kernel⟩
theorem kc_X2_init : KC yX2_init cX2_init 2 none 0 := ⟨bw106, bw77, ⟨by decide +kernel, by decide +kernel⟩, by decide +kernel⟩
theorem kc_X3_init : KC yX3_init cX3_init 1 none 0 := ⟨bw237, bw80, ⟨by decide +kernel, by decide +kernel⟩, by decide +kernel⟩
theorem kc_X4_init : KC yX4_init cX4_init 1 none 0 := ⟨bw220, bw79, ⟨by decide +kernel, by decide +kernel⟩, by decide +kernel⟩
theorem kc_X5_init : KC yX5_init cX5_init 1 none 0 := ⟨bw182, bw78, ⟨by decide +kernel, by decide +kernel⟩, by decide +kernel⟩
theorem kc_X6_init : KC yX6_init cX6_init 1 none 0 := ⟨bw252, bw81, ⟨by decide +kernel, by decide +kernel⟩, by decide +kernel⟩
theorem kc_X7_init : KC yX7_init cX7_init 1 none 0 := ⟨bw98, bw76, ⟨by decide +kernel, by decide +kernel⟩, by decide +kernel⟩
theorem kc_X8_init : KC yX8_init cX8_init 2 none 0 := ⟨bw978, bw84, ⟨by decide +kernel, by decide +kernel⟩, by decide +kernel⟩
def m_X0_init_L31 : Nat → Int32 → (Nat → Int32) → (Int32 → (Nat → Int32) → Option (Nat → Int32)) → Option (Nat → Int32)
  | 0, _, _, _ => none
  | n_31 + 1, x_31, y1_31, k_31 =>
    if (6 : Int32) ≤ x_31 then (k_31 x_31 y1_31)
    else (au y1_31 6 x_31 (-1 : Int32) fun g_4 =>
    m_X0_init_L31 n_31 (x_31 + (1 : Int32)) g_4 k_31)
def m_X0_init : Option (Nat → Int32) :=
  m_X0_init_L31 FU (0 : Int32) (fun _ => (0 : Int32)) fun x_31 y1_31 =>
  some y1_31
def m_X1_init : Option Unit :=
  some ()
def m_X2_init_L116 : Nat → Int32 → (Nat → Int32) → (Nat → Int32) → (Int32 → (Nat → Int32) → (Nat → Int32) → Option ((Nat → Int32) × (Nat → Int32))) → Option ((Nat → Int32) × (Nat → Int32))
  | 0, _, _, _, _ => none
  | n_116 + 1, x_116, y5_116, y6_116, k_116 =>
    if (12 : Int32) ≤ x_116 then (k_116 x_116 y5_116 y6_116)
    else (au y5_116 12 x_116 (-1 : Int32) fun g_12 =>
    au y6_116 12 x_116 (-1 : Int32) fun g_13 =>
    m_X2_init_L116 n_116 (x_116 + (1 : Int32)) g_12 g_13 k_116)
def m_X2_init : Option ((Nat → Int32) × (Nat → Int32)) :=
  m_X2_init_L116 FU (0 : Int32) (fun _ => (0 : Int32)) (fun _ => (0 : Int32)) fun x_116 y5_116 y6_116 =>
  some (y5_116, y6_116)
def m_X3_init : Option Unit :=
  some ()
def m_X4_init : Option Unit :=
  some ()
def m_X5_init : Option Unit :=
  some ()
def m_X6_init : Option Unit :=
  some ()
def m_X7_init : Option ((Nat → Int32) × (Nat → Int32) × (Nat → Int32) × (Nat → Int32) × (Nat → Int32) × (Nat → Int32) × (Nat → Int32)) :=
  cl m_X2_init fun r_2 =>
  cl m_X2_init fun r_6 =>
  cl m_X2_init fun r_10 =>
  cl m_X5_init fun r_14 =>
  cl m_X4_init fun r_18 =>
  cl m_X3_init fun r_22 =>
  cl m_X6_init fun r_26 =>
  cl m_X1_init fun r_30 =>
  cl m_X0_init fun r_34 =>
  some (r_2.1, r_2.2, r_6.1, r_6.2, r_10.1, r_10.2, r_34)
def m_X8_init_L425 : Nat → Int32 → (Nat → Int32) → (Int32 → (Nat → Int32) → Option ((Nat → Int32) × (Nat → Int32) × (Nat → Int32))) → Option ((Nat → Int32) × (Nat → Int32) × (Nat → Int32))
  | 0, _, _, _ => none
  | n_425 + 1, x_425, y31_425, k_425 =>
    if (6 : Int32) ≤ x_425 then (k_425 x_425 y31_425)
    else (au y31_425 6 x_425 (-1 : Int32) fun g_60 =>
    m_X8_init_L425 n_425 (x_425 + (1 : Int32)) g_60 k_425)
def m_X8_init_L446 : Nat → Int32 → (Nat → Int32) → (Int32 → (Nat → Int32) → Option ((Nat → Int32) × (Nat → Int32) × (Nat → Int32))) → Option ((Nat → Int32) × (Nat → Int32) × (Nat → Int32))
  | 0, _, _, _ => none
  | n_446 + 1, x_446, y17_446, k_446 =>
    if (12 : Int32) ≤ x_446 then (k_446 x_446 y17_446)
    else (au y17_446 12 x_446 (-1 : Int32) fun g_61 =>
    m_X8_init_L446 n_446 (x_446 + (1 : Int32)) g_61 k_446)
def m_X8_init : Option ((Nat → Int32) × (Nat → Int32) × (Nat → Int32)) :=
  au (fun _ => (0 : Int32)) 25 (0 : Int32) (111 : Int32) fun g_22 =>
  au g_22 25 (1 : Int32) (118 : Int32) fun g_23 =>
  au g_23 25 (2 : Int32) (101 : Int32) fun g_24 =>
  au g_24 25 (3 : Int32) (114 : Int32) fun g_25 =>
  au g_25 25 (4 : Int32) (32 : Int32) fun g_26 =>
  au g_26 25 (5 : Int32) (117 : Int32) fun g_27 =>
  au g_27 25 (6 : Int32) (110 : Int32) fun g_28 =>
  au g_28 25 (7 : Int32) (100 : Int32) fun g_29 =>
  au g_29 25 (8 : Int32) (101 : Int32) fun g_30 =>
  au g_30 25 (9 : Int32) (114 : Int32) fun g_31 =>
  au g_31 25 (10 : Int32) (99 : Int32) fun g_32 =>
  au g_32 25 (11 : Int32) (117 : Int32) fun g_33 =>
  au g_33 25 (12 : Int32) (116 : Int32) fun g_34 =>
  au g_34 25 (13 : Int32) (115 : Int32) fun g_35 =>
  au g_35 25 (14 : Int32) (32 : Int32) fun g_36 =>
  au g_36 25 (15 : Int32) (102 : Int32) fun g_37 =>
  au g_37 25 (16 : Int32) (105 : Int32) fun g_38 =>
  au g_38 25 (17 : Int32) (108 : Int32) fun g_39 =>
  au g_39 25 (18 : Int32) (108 : Int32) fun g_40 =>
  au g_40 25 (19 : Int32) (115 : Int32) fun g_41 =>
  au g_41 25 (20 : Int32) (106 : Int32) fun g_42 =>
  au g_42 25 (21 : Int32) (111 : Int32) fun g_43 =>
  au g_43 25 (22 : Int32) (105 : Int32) fun g_44 =>
  au g_44 25 (23 : Int32) (110 : Int32) fun g_45 =>
  au g_45 25 (24 : Int32) (115 : Int32) fun g_46 =>
  m_X8_init_L425 FU (0 : Int32) (fun _ => (0 : Int32)) fun x_425 y31_425 =>
  m_X8_init_L446 FU (0 : Int32) (fun _ => (0 : Int32)) fun x_446 y17_446 =>
  some (y17_446, g_46, y31_425)
set_option maxHeartbeats 0 in
set_option maxRecDepth 100000 in
theorem i_X0_init (G : GT) (l : Launch) (q_this : Nat) {res : (Nat → Int32)} (hm : m_X0_init = some res) : CI (S := (Nat × Nat × Nat)) G l yX0_init cX0_init 2 1 3 372 12 q_this [(q_this, .inr (0, [.null, .null, .null]))] (fun u => [(q_this, .inr (0, [.ref u.1, .ref u.2.1, .ref u.2.2])), (u.1, .inl (gI G, 6, .inl res)), (u.2.1, .inl (gI G, 6, .inl (fun _ => (0 : Int32)))), (u.2.2, .inl (gJ G, 360, .inr (.inl (fun _ => (0 : Int64)))))]) := by
  refine cti (G := G) (l := l) (y := yX0_init) (cc := cX0_init) (maxL := 2) (fr := 1) (mc := 3) (ms := 372) (lo := 12) (q := q_this) (S := (Nat × Nat × Nat)) (fun u => [(q_this, .inr (0, [.ref u.1, .ref u.2.1, .ref u.2.2])), (u.1, .inl (gI G, 6, .inl res)), (u.2.1, .inl (gI G, 6, .inl (fun _ => (0 : Int32)))), (u.2.2, .inl (gJ G, 360, .inr (.inl (fun _ => (0 : Int64)))))]) (plainFor_of_name (by decide)) (by decide) rfl ?_
  intro p e s m below meth c A ls Q hx hb hml hown hin2 hts hK hG hA hP hD hS hl fin
  have hown : s.vm.findClass RX0 = some m.cls := hown
  unfold m_X0_init at hm
  refine lv_aload_n hx hb dX0_init_0 rfl (lv_at hl 0 rfl) ?_
  refine w_obj hx hb hml hl.1 hts hown bw305 bw100 bw101 dX0_init_1 (Nat.le_of_ble_eq_true rfl) (Nat.le_of_ble_eq_true rfl) ?_
  refine lv_aload_n hx hb dX0_init_4 rfl (lv_at hl 0 rfl) ?_
  refine lv_bipush (v := 6) hx hb dX0_init_5 (by decide) ?_
  refine w_newa (atype := .int) (ty := .int) (cA0 := gI G) (N' := 6) (a0 := (6, .inl (fun _ => (0 : Int32)))) hx hb hts bw176 rfl hK hP hD hS hA 0 rfl (fun _ h => by cases h) (fun _ => rfl) (by decide) (by decide) (Nat.le_of_ble_eq_true rfl) (Nat.le_of_ble_eq_true rfl) (Nat.le_of_ble_eq_true rfl) dX0_init_7 (fun q_1 H hP hD hS => ?_)
  replace hP : va_P (gD G) vwCl [(q_this, .inr (0, [.null, .null, .null])), (q_1, .inl (gI G, 6, .inl (fun _ => (0 : Int32))))] H := hP
  replace hD : va_D A [(q_this, .inr (0, [.null, .null, .null])), (q_1, .inl (gI G, 6, .inl (fun _ => (0 : Int32))))] := hD
  refine w_putF (C := RX0) (T := TX0) (N := 3) (ci := 0) (W1 := [(q_this, .inr (0, [.ref q_1, .null, .null])), (q_1, .inl (gI G, 6, .inl (fun _ => (0 : Int32))))]) hx hb hts uX0 tyX0 tyX0_ok nmX0 hown hin2 hK hP hD hS 0 rfl rfl 0 (by decide) bw306 rfl rfl rfl rfl (Nat.le_of_ble_eq_true rfl) dX0_init_9 rfl (fun H locs hP hD hS => ?_)
  refine lv_aload_n hx hb dX0_init_12 rfl (lv_at hl 0 rfl) ?_
  refine lv_bipush (v := 6) hx hb dX0_init_13 (by decide) ?_
  refine w_newa (atype := .int) (ty := .int) (cA0 := gI G) (N' := 6) (a0 := (6, .inl (fun _ => (0 : Int32)))) hx hb hts bw176 rfl hK hP hD hS hA 0 rfl (fun _ h => by cases h) (fun _ => rfl) (by decide) (by decide) (Nat.le_of_ble_eq_true rfl) (Nat.le_of_ble_eq_true rfl) (Nat.le_of_ble_eq_true rfl) dX0_init_15 (fun q_2 H hP hD hS => ?_)
  replace hP : va_P (gD G) vwCl [(q_this, .inr (0, [.ref q_1, .null, .null])), (q_1, .inl (gI G, 6, .inl (fun _ => (0 : Int32)))), (q_2, .inl (gI G, 6, .inl (fun _ => (0 : Int32))))] H := hP
  replace hD : va_D A [(q_this, .inr (0, [.ref q_1, .null, .null])), (q_1, .inl (gI G, 6, .inl (fun _ => (0 : Int32)))), (q_2, .inl (gI G, 6, .inl (fun _ => (0 : Int32))))] := hD
  refine w_putF (C := RX0) (T := TX0) (N := 3) (ci := 0) (W1 := [(q_this, .inr (0, [.ref q_1, .ref q_2, .null])), (q_1, .inl (gI G, 6, .inl (fun _ => (0 : Int32)))), (q_2, .inl (gI G, 6, .inl (fun _ => (0 : Int32))))]) hx hb hts uX0 tyX0 tyX0_ok nmX0 hown hin2 hK hP hD hS 0 rfl rfl 1 (by decide) bw308 rfl rfl rfl rfl (Nat.le_of_ble_eq_true rfl) dX0_init_17 rfl (fun H locs hP hD hS => ?_)
  refine lv_aload_n hx hb dX0_init_20 rfl (lv_at hl 0 rfl) ?_
  refine lv_sipush (v := 360) hx hb dX0_init_21 (by decide) ?_
  refine w_newa (atype := .long) (ty := .long) (cA0 := gJ G) (N' := 360) (a0 := (360, .inr (.inl (fun _ => (0 : Int64))))) hx hb hts bw232 rfl hK hP hD hS hA 1 rfl (fun _ h => by cases h) (fun _ => rfl) (by decide) (by decide) (Nat.le_of_ble_eq_true rfl) (Nat.le_of_ble_eq_true rfl) (Nat.le_of_ble_eq_true rfl) dX0_init_24 (fun q_3 H hP hD hS => ?_)
  replace hP : va_P (gD G) vwCl [(q_this, .inr (0, [.ref q_1, .ref q_2, .null])), (q_1, .inl (gI G, 6, .inl (fun _ => (0 : Int32)))), (q_2, .inl (gI G, 6, .inl (fun _ => (0 : Int32)))), (q_3, .inl (gJ G, 360, .inr (.inl (fun _ => (0 : Int64)))))] H := hP
  replace hD : va_D A [(q_this, .inr (0, [.ref q_1, .ref q_2, .null])), (q_1, .inl (gI G, 6, .inl (fun _ => (0 : Int32)))), (q_2, .inl (gI G, 6, .inl (fun _ => (0 : Int32)))), (q_3, .inl (gJ G, 360, .inr (.inl (fun _ => (0 : Int64)))))] := hD
  refine w_putF (C := RX0) (T := TX0) (N := 3) (ci := 0) (W1 := [(q_this, .inr (0, [.ref q_1, .ref q_2, .ref q_3])), (q_1, .inl (gI G, 6, .inl (fun _ => (0 : Int32)))), (q_2, .inl (gI G, 6, .inl (fun _ => (0 : Int32)))), (q_3, .inl (gJ G, 360, .inr (.inl (fun _ => (0 : Int64)))))]) hx hb hts uX0 tyX0 tyX0_ok nmX0 hown hin2 hK hP hD hS 0 rfl rfl 2 (by decide) bw309 rfl rfl rfl rfl (Nat.le_of_ble_eq_true rfl) dX0_init_26 rfl (fun H locs hP hD hS => ?_)
  refine lv_iconst (v := 0) hx hb dX0_init_29 (by decide) ?_
  refine lv_istore_n (lv' := [(1, .int (0 : Int32)), (0, .ref q_this)]) hx hb dX0_init_30 rfl hl (by decide) rfl (fun ls hl => ?_)
  have hL_31 : ∀ (k_31 : Int32 → (Nat → Int32) → Option (Nat → Int32)), (∀ (x_31 : Int32) (y1_31 : (Nat → Int32)) (H : Heap) (locs : List Loc) (ls : Array Slot), k_31 x_31 y1_31 = some res → va_P (gD G) vwCl [(q_this, .inr (0, [.ref q_1, .ref q_2, .ref q_3])), (q_1, .inl (gI G, 6, .inl y1_31)), (q_2, .inl (gI G, 6, .inl (fun _ => (0 : Int32)))), (q_3, .inl (gJ G, 360, .inr (.inl (fun _ => (0 : Int64)))))] H → va_D A [(q_this, .inr (0, [.ref q_1, .ref q_2, .ref q_3])), (q_1, .inl (gI G, 6, .inl y1_31)), (q_2, .inl (gI G, 6, .inl (fun _ => (0 : Int32)))), (q_3, .inl (gJ G, 360, .inr (.inl (fun _ => (0 : Int64)))))] → va_S A s.heap H locs → lv_has ls 2 [(0, .ref q_this)] → W p l e { frames := 1, cells := 3, slots := 372, locals := 12 } s m ([.ref q_this] : List Value).toArray below meth c H locs (0 + 1 + 1 + 1) (0 + 6 + 6 + 360) Q (F0 m 50 ls [])) → ∀ (n_31 : Nat) (x_31 : Int32) (y1_31 : (Nat → Int32)) (H : Heap) (locs : List Loc) (ls : Array Slot), m_X0_init_L31 n_31 x_31 y1_31 k_31 = some res → va_P (gD G) vwCl [(q_this, .inr (0, [.ref q_1, .ref q_2, .ref q_3])), (q_1, .inl (gI G, 6, .inl y1_31)), (q_2, .inl (gI G, 6, .inl (fun _ => (0 : Int32)))), (q_3, .inl (gJ G, 360, .inr (.inl (fun _ => (0 : Int64)))))] H → va_D A [(q_this, .inr (0, [.ref q_1, .ref q_2, .ref q_3])), (q_1, .inl (gI G, 6, .inl y1_31)), (q_2, .inl (gI G, 6, .inl (fun _ => (0 : Int32)))), (q_3, .inl (gJ G, 360, .inr (.inl (fun _ => (0 : Int64)))))] → va_S A s.heap H locs → lv_has ls 2 [(0, .ref q_this), (1, .int x_31)] → W p l e { frames := 1, cells := 3, slots := 372, locals := 12 } s m ([.ref q_this] : List Value).toArray below meth c H locs (0 + 1 + 1 + 1) (0 + 6 + 6 + 360) Q (F0 m 31 ls []) := by
    intro k_31 hk_31 n_31
    induction n_31 with
    | zero =>
      intro x_31 y1_31 H locs ls hm
      rw [m_X0_init_L31] at hm
      cases hm
    | succ n_31 ih_31 =>
      intro x_31 y1_31 H locs ls hm hP hD hS hl
      rw [m_X0_init_L31] at hm
      refine lv_iload_n hx hb dX0_init_31 rfl (lv_at hl 1 rfl) ?_
      refine lv_bipush (v := 6) hx hb dX0_init_32 (by decide) ?_
      refine ic_ge (tgt := 50) hx hb dX0_init_34 (by decide) hm (fun hm => ?_) (fun hm => ?_)
      · exact hk_31 x_31 y1_31 _ _ _ hm hP hD hS (lv_sub hl [0] rfl)
      refine lv_aload_n hx hb dX0_init_37 rfl (lv_at hl 0 rfl) ?_
      refine w_get (C := RX0) (T := TX0) (N := 3) (ci := 0) (v := .ref q_1) hx hb hts uX0 hown hK hP 0 rfl rfl 0 (by decide) bw306 rfl dX0_init_38 ?_
      refine lv_iload_n hx hb dX0_init_41 rfl (lv_at hl 1 rfl) ?_
      refine lv_iconst (v := -1) hx hb dX0_init_42 (by decide) ?_
      refine w_iast hx hb hK hP hD hS 1 rfl hm dX0_init_43 (fun g_4 => [(q_this, .inr (0, [.ref q_1, .ref q_2, .ref q_3])), (q_1, .inl (gI G, 6, .inl g_4)), (q_2, .inl (gI G, 6, .inl (fun _ => (0 : Int32)))), (q_3, .inl (gJ G, 360, .inr (.inl (fun _ => (0 : Int64)))))]) (fun _ => rfl) (fun g_4 H locs hm hP hD hS => ?_)
      refine lv_iinc (v := (x_31 + (1 : Int32))) (lv' := [(1, .int (x_31 + (1 : Int32))), (0, .ref q_this)]) hx hb dX0_init_44 hl (k := 1) rfl rfl (by decide) rfl (fun ls hl => ?_)
      refine lv_goto (tgt := 31) hx hb dX0_init_47 (by decide) ?_
      exact ih_31 (x_31 + (1 : Int32)) g_4 _ _ _ hm hP hD hS (lv_sub hl [1, 0] rfl)
  refine hL_31 _ ?_ FU (0 : Int32) (fun _ => (0 : Int32)) _ _ _ hm hP hD hS (lv_sub hl [1, 0] rfl)
  intro x_31 y1_31 H locs ls hm hP hD hS hl
  refine W.widen (k := 3) (n := 372) (Nat.le_of_ble_eq_true rfl) (Nat.le_of_ble_eq_true rfl) ?_
  have hr9 := Option.some.inj hm
  subst hr9
  exact fin _ _ ls _ (q_1, q_2, q_3) dX0_init_50 hP hD hS
set_option maxHeartbeats 0 in
set_option maxRecDepth 100000 in
theorem i_X1_init (G : GT) (l : Launch) (q_this : Nat) {res : Unit} (hm : m_X1_init = some res) : CI (S := (Nat)) G l yX1_init cX1_init 1 1 1 160 12 q_this [(q_this, .inr (1, [.null, .int 0]))] (fun u => [(q_this, .inr (1, [.ref u, .int (0 : Int32)])), (u, .inl (gI G, 160, .inl (fun _ => (0 : Int32))))]) := by
  refine cti (G := G) (l := l) (y := yX1_init) (cc := cX1_init) (maxL := 1) (fr := 1) (mc := 1) (ms := 160) (lo := 12) (q := q_this) (S := (Nat)) (fun u => [(q_this, .inr (1, [.ref u, .int (0 : Int32)])), (u, .inl (gI G, 160, .inl (fun _ => (0 : Int32))))]) (plainFor_of_name (by decide)) (by decide) rfl ?_
  intro p e s m below meth c A ls Q hx hb hml hown hin2 hts hK hG hA hP hD hS hl fin
  have hown : s.vm.findClass RX1 = some m.cls := hown
  unfold m_X1_init at hm
  refine lv_aload_n hx hb dX1_init_0 rfl (lv_at hl 0 rfl) ?_
  refine w_obj hx hb hml hl.1 hts hown bw290 bw100 bw101 dX1_init_1 (Nat.le_of_ble_eq_true rfl) (Nat.le_of_ble_eq_true rfl) ?_
  refine lv_aload_n hx hb dX1_init_4 rfl (lv_at hl 0 rfl) ?_
  refine lv_sipush (v := 160) hx hb dX1_init_5 (by decide) ?_
  refine w_newa (atype := .int) (ty := .int) (cA0 := gI G) (N' := 160) (a0 := (160, .inl (fun _ => (0 : Int32)))) hx hb hts bw176 rfl hK hP hD hS hA 0 rfl (fun _ h => by cases h) (fun _ => rfl) (by decide) (by decide) (Nat.le_of_ble_eq_true rfl) (Nat.le_of_ble_eq_true rfl) (Nat.le_of_ble_eq_true rfl) dX1_init_8 (fun q_1 H hP hD hS => ?_)
  replace hP : va_P (gD G) vwCl [(q_this, .inr (1, [.null, .int 0])), (q_1, .inl (gI G, 160, .inl (fun _ => (0 : Int32))))] H := hP
  replace hD : va_D A [(q_this, .inr (1, [.null, .int 0])), (q_1, .inl (gI G, 160, .inl (fun _ => (0 : Int32))))] := hD
  refine w_putF (C := RX1) (T := TX1) (N := 2) (ci := 1) (W1 := [(q_this, .inr (1, [.ref q_1, .int 0])), (q_1, .inl (gI G, 160, .inl (fun _ => (0 : Int32))))]) hx hb hts uX1 tyX1 tyX1_ok nmX1 hown hin2 hK hP hD hS 0 rfl rfl 0 (by decide) bw291 rfl rfl rfl rfl (Nat.le_of_ble_eq_true rfl) dX1_init_10 rfl (fun H locs hP hD hS => ?_)
  refine lv_aload_n hx hb dX1_init_13 rfl (lv_at hl 0 rfl) ?_
  refine lv_iconst (v := 0) hx hb dX1_init_14 (by decide) ?_
  refine w_put (C := RX1) (T := TX1) (N := 2) (ci := 1) (W1 := [(q_this, .inr (1, [.ref q_1, .int (0 : Int32)])), (q_1, .inl (gI G, 160, .inl (fun _ => (0 : Int32))))]) hx hb hts uX1 tyX1 tyX1_ok nmX1 hown hK hP hD hS 0 rfl rfl 1 (by decide) bw293 rfl rfl rfl (Nat.le_of_ble_eq_true rfl) dX1_init_15 rfl (fun H locs hP hD hS => ?_)
  refine W.widen (k := 1) (n := 160) (Nat.le_of_ble_eq_true rfl) (Nat.le_of_ble_eq_true rfl) ?_
  have hr9 := Option.some.inj hm
  subst hr9
  exact fin _ _ ls _ q_1 dX1_init_18 hP hD hS
set_option maxHeartbeats 0 in
set_option maxRecDepth 100000 in
theorem i_X2_init (G : GT) (l : Launch) (q_this : Nat) {res : (Nat → Int32) × (Nat → Int32)} (hm : m_X2_init = some res) : CI (S := (Nat × Nat × Nat × Nat × Nat × Nat × Nat × Nat × Nat × Nat × Nat)) G l yX2_init cX2_init 2 1 11 207 12 q_this [(q_this, .inr (2, [.int 0, .int 0, .int 0, .int 0, .int 0, .null, .null, .null, .null, .null, .null, .null, .null, .null, .null, .null]))] (fun u => [(q_this, .inr (2, [.int (0 : Int32), .int (0 : Int32), .int (0 : Int32), .int (0 : Int32), .int (0 : Int32), .ref u.1, .ref u.2.1, .ref u.2.2.1, .ref u.2.2.2.1, .ref u.2.2.2.2.1, .ref u.2.2.2.2.2.1, .ref u.2.2.2.2.2.2.1, .ref u.2.2.2.2.2.2.2.1, .ref u.2.2.2.2.2.2.2.2.1, .ref u.2.2.2.2.2.2.2.2.2.1, .ref u.2.2.2.2.2.2.2.2.2.2])), (u.1, .inl (gI G, 60, .inl (fun _ => (0 : Int32)))), (u.2.1, .inl (gI G, 40, .inl (fun _ => (0 : Int32)))), (u.2.2.1, .inl (gI G, 40, .inl (fun _ => (0 : Int32)))), (u.2.2.2.1, .inl (gI G, 12, .inl (fun _ => (0 : Int32)))), (u.2.2.2.2.1, .inl (gI G, 12, .inl res.1)), (u.2.2.2.2.2.1, .inl (gI G, 12, .inl res.2)), (u.2.2.2.2.2.2.1, .inl (gI G, 5, .inl (fun _ => (0 : Int32)))), (u.2.2.2.2.2.2.2.1, .inl (gI G, 5, .inl (fun _ => (0 : Int32)))), (u.2.2.2.2.2.2.2.2.1, .inl (gZ G, 5, .inl (fun _ => (0 : Int32)))), (u.2.2.2.2.2.2.2.2.2.1, .inl (gI G, 8, .inl (fun _ => (0 : Int32)))), (u.2.2.2.2.2.2.2.2.2.2, .inl (gI G, 8, .inl (fun _ => (0 : Int32))))]) := by
  refine cti (G := G) (l := l) (y := yX2_init) (cc := cX2_init) (maxL := 2) (fr := 1) (mc := 11) (ms := 207) (lo := 12) (q := q_this) (S := (Nat × Nat × Nat × Nat × Nat × Nat × Nat × Nat × Nat × Nat × Nat)) (fun u => [(q_this, .inr (2, [.int (0 : Int32), .int (0 : Int32), .int (0 : Int32), .int (0 : Int32), .int (0 : Int32), .ref u.1, .ref u.2.1, .ref u.2.2.1, .ref u.2.2.2.1, .ref u.2.2.2.2.1, .ref u.2.2.2.2.2.1, .ref u.2.2.2.2.2.2.1, .ref u.2.2.2.2.2.2.2.1, .ref u.2.2.2.2.2.2.2.2.1, .ref u.2.2.2.2.2.2.2.2.2.1, .ref u.2.2.2.2.2.2.2.2.2.2])), (u.1, .inl (gI G, 60, .inl (fun _ => (0 : Int32)))), (u.2.1, .inl (gI G, 40, .inl (fun _ => (0 : Int32)))), (u.2.2.1, .inl (gI G, 40, .inl (fun _ => (0 : Int32)))), (u.2.2.2.1, .inl (gI G, 12, .inl (fun _ => (0 : Int32)))), (u.2.2.2.2.1, .inl (gI G, 12, .inl res.1)), (u.2.2.2.2.2.1, .inl (gI G, 12, .inl res.2)), (u.2.2.2.2.2.2.1, .inl (gI G, 5, .inl (fun _ => (0 : Int32)))), (u.2.2.2.2.2.2.2.1, .inl (gI G, 5, .inl (fun _ => (0 : Int32)))), (u.2.2.2.2.2.2.2.2.1, .inl (gZ G, 5, .inl (fun _ => (0 : Int32)))), (u.2.2.2.2.2.2.2.2.2.1, .inl (gI G, 8, .inl (fun _ => (0 : Int32)))), (u.2.2.2.2.2.2.2.2.2.2, .inl (gI G, 8, .inl (fun _ => (0 : Int32))))]) (plainFor_of_name (by decide)) (by decide) rfl ?_
  intro p e s m below meth c A ls Q hx hb hml hown hin2 hts hK hG hA hP hD hS hl fin
  have hown : s.vm.findClass RX2 = some m.cls := hown
  unfold m_X2_init at hm
  refine lv_aload_n hx hb dX2_init_0 rfl (lv_at hl 0 rfl) ?_
  refine w_obj hx hb hml hl.1 hts hown bw107 bw100 bw101 dX2_init_1 (Nat.le_of_ble_eq_true rfl) (Nat.le_of_ble_eq_true rfl) ?_
  refine lv_aload_n hx hb dX2_init_4 rfl (lv_at hl 0 rfl) ?_
  refine lv_iconst (v := 0) hx hb dX2_init_5 (by decide) ?_
  refine w_put (C := RX2) (T := TX2) (N := 16) (ci := 2) (W1 := [(q_this, .inr (2, [.int (0 : Int32), .int 0, .int 0, .int 0, .int 0, .null, .null, .null, .null, .null, .null, .null, .null, .null, .null, .null]))]) hx hb hts uX2 tyX2 tyX2_ok nmX2 hown hK hP hD hS 0 rfl rfl 0 (by decide) bw108 rfl rfl rfl (Nat.le_of_ble_eq_true rfl) dX2_init_6 rfl (fun H locs hP hD hS => ?_)
  refine lv_aload_n hx hb dX2_init_9 rfl (lv_at hl 0 rfl) ?_
  refine lv_iconst (v := 0) hx hb dX2_init_10 (by decide) ?_
  refine w_put (C := RX2) (T := TX2) (N := 16) (ci := 2) (W1 := [(q_this, .inr (2, [.int (0 : Int32), .int (0 : Int32), .int 0, .int 0, .int 0, .null, .null, .null, .null, .null, .null, .null, .null, .null, .null, .null]))]) hx hb hts uX2 tyX2 tyX2_ok nmX2 hown hK hP hD hS 0 rfl rfl 1 (by decide) bw112 rfl rfl rfl (Nat.le_of_ble_eq_true rfl) dX2_init_11 rfl (fun H locs hP hD hS => ?_)
  refine lv_aload_n hx hb dX2_init_14 rfl (lv_at hl 0 rfl) ?_
  refine lv_iconst (v := 0) hx hb dX2_init_15 (by decide) ?_
  refine w_put (C := RX2) (T := TX2) (N := 16) (ci := 2) (W1 := [(q_this, .inr (2, [.int (0 : Int32), .int (0 : Int32), .int (0 : Int32), .int 0, .int 0, .null, .null, .null, .null, .null, .null, .null, .null, .null, .null, .null]))]) hx hb hts uX2 tyX2 tyX2_ok nmX2 hown hK hP hD hS 0 rfl rfl 2 (by decide) bw115 rfl rfl rfl (Nat.le_of_ble_eq_true rfl) dX2_init_16 rfl (fun H locs hP hD hS => ?_)
  refine lv_aload_n hx hb dX2_init_19 rfl (lv_at hl 0 rfl) ?_
  refine lv_iconst (v := 0) hx hb dX2_init_20 (by decide) ?_
  refine w_put (C := RX2) (T := TX2) (N := 16) (ci := 2) (W1 := [(q_this, .inr (2, [.int (0 : Int32), .int (0 : Int32), .int (0 : Int32), .int (0 : Int32), .int 0, .null, .null, .null, .null, .null, .null, .null, .null, .null, .null, .null]))]) hx hb hts uX2 tyX2 tyX2_ok nmX2 hown hK hP hD hS 0 rfl rfl 3 (by decide) bw117 rfl rfl rfl (Nat.le_of_ble_eq_true rfl) dX2_init_21 rfl (fun H locs hP hD hS => ?_)
  refine lv_aload_n hx hb dX2_init_24 rfl (lv_at hl 0 rfl) ?_
  refine lv_iconst (v := 0) hx hb dX2_init_25 (by decide) ?_
  refine w_put (C := RX2) (T := TX2) (N := 16) (ci := 2) (W1 := [(q_this, .inr (2, [.int (0 : Int32), .int (0 : Int32), .int (0 : Int32), .int (0 : Int32), .int (0 : Int32), .null, .null, .null, .null, .null, .null, .null, .null, .null, .null, .null]))]) hx hb hts uX2 tyX2 tyX2_ok nmX2 hown hK hP hD hS 0 rfl rfl 4 (by decide) bw120 rfl rfl rfl (Nat.le_of_ble_eq_true rfl) dX2_init_26 rfl (fun H locs hP hD hS => ?_)
  refine lv_aload_n hx hb dX2_init_29 rfl (lv_at hl 0 rfl) ?_
  refine lv_bipush (v := 60) hx hb dX2_init_30 (by decide) ?_
  refine w_newa (atype := .int) (ty := .int) (cA0 := gI G) (N' := 60) (a0 := (60, .inl (fun _ => (0 : Int32)))) hx hb hts bw176 rfl hK hP hD hS hA 0 rfl (fun _ h => by cases h) (fun _ => rfl) (by decide) (by decide) (Nat.le_of_ble_eq_true rfl) (Nat.le_of_ble_eq_true rfl) (Nat.le_of_ble_eq_true rfl) dX2_init_32 (fun q_1 H hP hD hS => ?_)
  replace hP : va_P (gD G) vwCl [(q_this, .inr (2, [.int (0 : Int32), .int (0 : Int32), .int (0 : Int32), .int (0 : Int32), .int (0 : Int32), .null, .null, .null, .null, .null, .null, .null, .null, .null, .null, .null])), (q_1, .inl (gI G, 60, .inl (fun _ => (0 : Int32))))] H := hP
  replace hD : va_D A [(q_this, .inr (2, [.int (0 : Int32), .int (0 : Int32), .int (0 : Int32), .int (0 : Int32), .int (0 : Int32), .null, .null, .null, .null, .null, .null, .null, .null, .null, .null, .null])), (q_1, .inl (gI G, 60, .inl (fun _ => (0 : Int32))))] := hD
  refine w_putF (C := RX2) (T := TX2) (N := 16) (ci := 2) (W1 := [(q_this, .inr (2, [.int (0 : Int32), .int (0 : Int32), .int (0 : Int32), .int (0 : Int32), .int (0 : Int32), .ref q_1, .null, .null, .null, .null, .null, .null, .null, .null, .null, .null])), (q_1, .inl (gI G, 60, .inl (fun _ => (0 : Int32))))]) hx hb hts uX2 tyX2 tyX2_ok nmX2 hown hin2 hK hP hD hS 0 rfl rfl 5 (by decide) bw122 rfl rfl rfl rfl (Nat.le_of_ble_eq_true rfl) dX2_init_34 rfl (fun H locs hP hD hS => ?_)
  refine lv_aload_n hx hb dX2_init_37 rfl (lv_at hl 0 rfl) ?_
  refine lv_bipush (v := 40) hx hb dX2_init_38 (by decide) ?_
  refine w_newa (atype := .int) (ty := .int) (cA0 := gI G) (N' := 40) (a0 := (40, .inl (fun _ => (0 : Int32)))) hx hb hts bw176 rfl hK hP hD hS hA 0 rfl (fun _ h => by cases h) (fun _ => rfl) (by decide) (by decide) (Nat.le_of_ble_eq_true rfl) (Nat.le_of_ble_eq_true rfl) (Nat.le_of_ble_eq_true rfl) dX2_init_40 (fun q_2 H hP hD hS => ?_)
  replace hP : va_P (gD G) vwCl [(q_this, .inr (2, [.int (0 : Int32), .int (0 : Int32), .int (0 : Int32), .int (0 : Int32), .int (0 : Int32), .ref q_1, .null, .null, .null, .null, .null, .null, .null, .null, .null, .null])), (q_1, .inl (gI G, 60, .inl (fun _ => (0 : Int32)))), (q_2, .inl (gI G, 40, .inl (fun _ => (0 : Int32))))] H := hP
  replace hD : va_D A [(q_this, .inr (2, [.int (0 : Int32), .int (0 : Int32), .int (0 : Int32), .int (0 : Int32), .int (0 : Int32), .ref q_1, .null, .null, .null, .null, .null, .null, .null, .null, .null, .null])), (q_1, .inl (gI G, 60, .inl (fun _ => (0 : Int32)))), (q_2, .inl (gI G, 40, .inl (fun _ => (0 : Int32))))] := hD
  refine w_putF (C := RX2) (T := TX2) (N := 16) (ci := 2) (W1 := [(q_this, .inr (2, [.int (0 : Int32), .int (0 : Int32), .int (0 : Int32), .int (0 : Int32), .int (0 : Int32), .ref q_1, .ref q_2, .null, .null, .null, .null, .null, .null, .null, .null, .null])), (q_1, .inl (gI G, 60, .inl (fun _ => (0 : Int32)))), (q_2, .inl (gI G, 40, .inl (fun _ => (0 : Int32))))]) hx hb hts uX2 tyX2 tyX2_ok nmX2 hown hin2 hK hP hD hS 0 rfl rfl 6 (by decide) bw123 rfl rfl rfl rfl (Nat.le_of_ble_eq_true rfl) dX2_init_42 rfl (fun H locs hP hD hS => ?_)
  refine lv_aload_n hx hb dX2_init_45 rfl (lv_at hl 0 rfl) ?_
  refine lv_bipush (v := 40) hx hb dX2_init_46 (by decide) ?_
  refine w_newa (atype := .int) (ty := .int) (cA0 := gI G) (N' := 40) (a0 := (40, .inl (fun _ => (0 : Int32)))) hx hb hts bw176 rfl hK hP hD hS hA 0 rfl (fun _ h => by cases h) (fun _ => rfl) (by decide) (by decide) (Nat.le_of_ble_eq_true rfl) (Nat.le_of_ble_eq_true rfl) (Nat.le_of_ble_eq_true rfl) dX2_init_48 (fun q_3 H hP hD hS => ?_)
  replace hP : va_P (gD G) vwCl [(q_this, .inr (2, [.int (0 : Int32), .int (0 : Int32), .int (0 : Int32), .int (0 : Int32), .int (0 : Int32), .ref q_1, .ref q_2, .null, .null, .null, .null, .null, .null, .null, .null, .null])), (q_1, .inl (gI G, 60, .inl (fun _ => (0 : Int32)))), (q_2, .inl (gI G, 40, .inl (fun _ => (0 : Int32)))), (q_3, .inl (gI G, 40, .inl (fun _ => (0 : Int32))))] H := hP
  replace hD : va_D A [(q_this, .inr (2, [.int (0 : Int32), .int (0 : Int32), .int (0 : Int32), .int (0 : Int32), .int (0 : Int32), .ref q_1, .ref q_2, .null, .null, .null, .null, .null, .null, .null, .null, .null])), (q_1, .inl (gI G, 60, .inl (fun _ => (0 : Int32)))), (q_2, .inl (gI G, 40, .inl (fun _ => (0 : Int32)))), (q_3, .inl (gI G, 40, .inl (fun _ => (0 : Int32))))] := hD
  refine w_putF (C := RX2) (T := TX2) (N := 16) (ci := 2) (W1 := [(q_this, .inr (2, [.int (0 : Int32), .int (0 : Int32), .int (0 : Int32), .int (0 : Int32), .int (0 : Int32), .ref q_1, .ref q_2, .ref q_3, .null, .null, .null, .null, .null, .null, .null, .null])), (q_1, .inl (gI G, 60, .inl (fun _ => (0 : Int32)))), (q_2, .inl (gI G, 40, .inl (fun _ => (0 : Int32)))), (q_3, .inl (gI G, 40, .inl (fun _ => (0 : Int32))))]) hx hb hts uX2 tyX2 tyX2_ok nmX2 hown hin2 hK hP hD hS 0 rfl rfl 7 (by decide) bw126 rfl rfl rfl rfl (Nat.le_of_ble_eq_true rfl) dX2_init_50 rfl (fun H locs hP hD hS => ?_)
  refine lv_aload_n hx hb dX2_init_53 rfl (lv_at hl 0 rfl) ?_
  refine lv_bipush (v := 12) hx hb dX2_init_54 (by decide) ?_
  refine w_newa (atype := .int) (ty := .int) (cA0 := gI G) (N' := 12) (a0 := (12, .inl (fun _ => (0 : Int32)))) hx hb hts bw176 rfl hK hP hD hS hA 0 rfl (fun _ h => by cases h) (fun _ => rfl) (by decide) (by decide) (Nat.le_of_ble_eq_true rfl) (Nat.le_of_ble_eq_true rfl) (Nat.le_of_ble_eq_true rfl) dX2_init_56 (fun q_4 H hP hD hS => ?_)
  replace hP : va_P (gD G) vwCl [(q_this, .inr (2, [.int (0 : Int32), .int (0 : Int32), .int (0 : Int32), .int (0 : Int32), .int (0 : Int32), .ref q_1, .ref q_2, .ref q_3, .null, .null, .null, .null, .null, .null, .null, .null])), (q_1, .inl (gI G, 60, .inl (fun _ => (0 : Int32)))), (q_2, .inl (gI G, 40, .inl (fun _ => (0 : Int32)))), (q_3, .inl (gI G, 40, .inl (fun _ => (0 : Int32)))), (q_4, .inl (gI G, 12, .inl (fun _ => (0 : Int32))))] H := hP
  replace hD : va_D A [(q_this, .inr (2, [.int (0 : Int32), .int (0 : Int32), .int (0 : Int32), .int (0 : Int32), .int (0 : Int32), .ref q_1, .ref q_2, .ref q_3, .null, .null, .null, .null, .null, .null, .null, .null])), (q_1, .inl (gI G, 60, .inl (fun _ => (0 : Int32)))), (q_2, .inl (gI G, 40, .inl (fun _ => (0 : Int32)))), (q_3, .inl (gI G, 40, .inl (fun _ => (0 : Int32)))), (q_4, .inl (gI G, 12, .inl (fun _ => (0 : Int32))))] := hD
  refine w_putF (C := RX2) (T := TX2) (N := 16) (ci := 2) (W1 := [(q_this, .inr (2, [.int (0 : Int32), .int (0 : Int32), .int (0 : Int32), .int (0 : Int32), .int (0 : Int32), .ref q_1, .ref q_2, .ref q_3, .ref q_4, .null, .null, .null, .null, .null, .null, .null])), (q_1, .inl (gI G, 60, .inl (fun _ => (0 : Int32)))), (q_2, .inl (gI G, 40, .inl (fun _ => (0 : Int32)))), (q_3, .inl (gI G, 40, .inl (fun _ => (0 : Int32)))), (q_4, .inl (gI G, 12, .inl (fun _ => (0 : Int32))))]) hx hb hts uX2 tyX2 tyX2_ok nmX2 hown hin2 hK hP hD hS 0 rfl rfl 8 (by decide) bw129 rfl rfl rfl rfl (Nat.le_of_ble_eq_true rfl) dX2_init_58 rfl (fun H locs hP hD hS => ?_)
  refine lv_aload_n hx hb dX2_init_61 rfl (lv_at hl 0 rfl) ?_
  refine lv_bipush (v := 12) hx hb dX2_init_62 (by decide) ?_
  refine w_newa (atype := .int) (ty := .int) (cA0 := gI G) (N' := 12) (a0 := (12, .inl (fun _ => (0 : Int32)))) hx hb hts bw176 rfl hK hP hD hS hA 0 rfl (fun _ h => by cases h) (fun _ => rfl) (by decide) (by decide) (Nat.le_of_ble_eq_true rfl) (Nat.le_of_ble_eq_true rfl) (Nat.le_of_ble_eq_true rfl) dX2_init_64 (fun q_5 H hP hD hS => ?_)
  replace hP : va_P (gD G) vwCl [(q_this, .inr (2, [.int (0 : Int32), .int (0 : Int32), .int (0 : Int32), .int (0 : Int32), .int (0 : Int32), .ref q_1, .ref q_2, .ref q_3, .ref q_4, .null, .null, .null, .null, .null, .null, .null])), (q_1, .inl (gI G, 60, .inl (fun _ => (0 : Int32)))), (q_2, .inl (gI G, 40, .inl (fun _ => (0 : Int32)))), (q_3, .inl (gI G, 40, .inl (fun _ => (0 : Int32)))), (q_4, .inl (gI G, 12, .inl (fun _ => (0 : Int32)))), (q_5, .inl (gI G, 12, .inl (fun _ => (0 : Int32))))] H := hP
  replace hD : va_D A [(q_this, .inr (2, [.int (0 : Int32), .int (0 : Int32), .int (0 : Int32), .int (0 : Int32), .int (0 : Int32), .ref q_1, .ref q_2, .ref q_3, .ref q_4, .null, .null, .null, .null, .null, .null, .null])), (q_1, .inl (gI G, 60, .inl (fun _ => (0 : Int32)))), (q_2, .inl (gI G, 40, .inl (fun _ => (0 : Int32)))), (q_3, .inl (gI G, 40, .inl (fun _ => (0 : Int32)))), (q_4, .inl (gI G, 12, .inl (fun _ => (0 : Int32)))), (q_5, .inl (gI G, 12, .inl (fun _ => (0 : Int32))))] := hD
  refine w_putF (C := RX2) (T := TX2) (N := 16) (ci := 2) (W1 := [(q_this, .inr (2, [.int (0 : Int32), .int (0 : Int32), .int (0 : Int32), .int (0 : Int32), .int (0 : Int32), .ref q_1, .ref q_2, .ref q_3, .ref q_4, .ref q_5, .null, .null, .null, .null, .null, .null])), (q_1, .inl (gI G, 60, .inl (fun _ => (0 : Int32)))), (q_2, .inl (gI G, 40, .inl (fun _ => (0 : Int32)))), (q_3, .inl (gI G, 40, .inl (fun _ => (0 : Int32)))), (q_4, .inl (gI G, 12, .inl (fun _ => (0 : Int32)))), (q_5, .inl (gI G, 12, .inl (fun _ => (0 : Int32))))]) hx hb hts uX2 tyX2 tyX2_ok nmX2 hown hin2 hK hP hD hS 0 rfl rfl 9 (by decide) bw131 rfl rfl rfl rfl (Nat.le_of_ble_eq_true rfl) dX2_init_66 rfl (fun H locs hP hD hS => ?_)
  refine lv_aload_n hx hb dX2_init_69 rfl (lv_at hl 0 rfl) ?_
  refine lv_bipush (v := 12) hx hb dX2_init_70 (by decide) ?_
  refine w_newa (atype := .int) (ty := .int) (cA0 := gI G) (N' := 12) (a0 := (12, .inl (fun _ => (0 : Int32)))) hx hb hts bw176 rfl hK hP hD hS hA 0 rfl (fun _ h => by cases h) (fun _ => rfl) (by decide) (by decide) (Nat.le_of_ble_eq_true rfl) (Nat.le_of_ble_eq_true rfl) (Nat.le_of_ble_eq_true rfl) dX2_init_72 (fun q_6 H hP hD hS => ?_)
  replace hP : va_P (gD G) vwCl [(q_this, .inr (2, [.int (0 : Int32), .int (0 : Int32), .int (0 : Int32), .int (0 : Int32), .int (0 : Int32), .ref q_1, .ref q_2, .ref q_3, .ref q_4, .ref q_5, .null, .null, .null, .null, .null, .null])), (q_1, .inl (gI G, 60, .inl (fun _ => (0 : Int32)))), (q_2, .inl (gI G, 40, .inl (fun _ => (0 : Int32)))), (q_3, .inl (gI G, 40, .inl (fun _ => (0 : Int32)))), (q_4, .inl (gI G, 12, .inl (fun _ => (0 : Int32)))), (q_5, .inl (gI G, 12, .inl (fun _ => (0 : Int32)))), (q_6, .inl (gI G, 12, .inl (fun _ => (0 : Int32))))] H := hP
  replace hD : va_D A [(q_this, .inr (2, [.int (0 : Int32), .int (0 : Int32), .int (0 : Int32), .int (0 : Int32), .int (0 : Int32), .ref q_1, .ref q_2, .ref q_3, .ref q_4, .ref q_5, .null, .null, .null, .null, .null, .null])), (q_1, .inl (gI G, 60, .inl (fun _ => (0 : Int32)))), (q_2, .inl (gI G, 40, .inl (fun _ => (0 : Int32)))), (q_3, .inl (gI G, 40, .inl (fun _ => (0 : Int32)))), (q_4, .inl (gI G, 12, .inl (fun _ => (0 : Int32)))), (q_5, .inl (gI G, 12, .inl (fun _ => (0 : Int32)))), (q_6, .inl (gI G, 12, .inl (fun _ => (0 : Int32))))] := hD
  refine w_putF (C := RX2) (T := TX2) (N := 16) (ci := 2) (W1 := [(q_this, .inr (2, [.int (0 : Int32), .int (0 : Int32), .int (0 : Int32), .int (0 : Int32), .int (0 : Int32), .ref q_1, .ref q_2, .ref q_3, .ref q_4, .ref q_5, .ref q_6, .null, .null, .null, .null, .null])), (q_1, .inl (gI G, 60, .inl (fun _ => (0 : Int32)))), (q_2, .inl (gI G, 40, .inl (fun _ => (0 : Int32)))), (q_3, .inl (gI G, 40, .inl (fun _ => (0 : Int32)))), (q_4, .inl (gI G, 12, .inl (fun _ => (0 : Int32)))), (q_5, .inl (gI G, 12, .inl (fun _ => (0 : Int32)))), (q_6, .inl (gI G, 12, .inl (fun _ => (0 : Int32))))]) hx hb hts uX2 tyX2 tyX2_ok nmX2 hown hin2 hK hP hD hS 0 rfl rfl 10 (by decide) bw133 rfl rfl rfl rfl (Nat.le_of_ble_eq_true rfl) dX2_init_74 rfl (fun H locs hP hD hS => ?_)
  refine lv_aload_n hx hb dX2_init_77 rfl (lv_at hl 0 rfl) ?_
  refine lv_iconst (v := 5) hx hb dX2_init_78 (by decide) ?_
  refine w_newa (atype := .int) (ty := .int) (cA0 := gI G) (N' := 5) (a0 := (5, .inl (fun _ => (0 : Int32)))) hx hb hts bw176 rfl hK hP hD hS hA 0 rfl (fun _ h => by cases h) (fun _ => rfl) (by decide) (by decide) (Nat.le_of_ble_eq_true rfl) (Nat.le_of_ble_eq_true rfl) (Nat.le_of_ble_eq_true rfl) dX2_init_79 (fun q_7 H hP hD hS => ?_)
  replace hP : va_P (gD G) vwCl [(q_this, .inr (2, [.int (0 : Int32), .int (0 : Int32), .int (0 : Int32), .int (0 : Int32), .int (0 : Int32), .ref q_1, .ref q_2, .ref q_3, .ref q_4, .ref q_5, .ref q_6, .null, .null, .null, .null, .null])), (q_1, .inl (gI G, 60, .inl (fun _ => (0 : Int32)))), (q_2, .inl (gI G, 40, .inl (fun _ => (0 : Int32)))), (q_3, .inl (gI G, 40, .inl (fun _ => (0 : Int32)))), (q_4, .inl (gI G, 12, .inl (fun _ => (0 : Int32)))), (q_5, .inl (gI G, 12, .inl (fun _ => (0 : Int32)))), (q_6, .inl (gI G, 12, .inl (fun _ => (0 : Int32)))), (q_7, .inl (gI G, 5, .inl (fun _ => (0 : Int32))))] H := hP
  replace hD : va_D A [(q_this, .inr (2, [.int (0 : Int32), .int (0 : Int32), .int (0 : Int32), .int (0 : Int32), .int (0 : Int32), .ref q_1, .ref q_2, .ref q_3, .ref q_4, .ref q_5, .ref q_6, .null, .null, .null, .null, .null])), (q_1, .inl (gI G, 60, .inl (fun _ => (0 : Int32)))), (q_2, .inl (gI G, 40, .inl (fun _ => (0 : Int32)))), (q_3, .inl (gI G, 40, .inl (fun _ => (0 : Int32)))), (q_4, .inl (gI G, 12, .inl (fun _ => (0 : Int32)))), (q_5, .inl (gI G, 12, .inl (fun _ => (0 : Int32)))), (q_6, .inl (gI G, 12, .inl (fun _ => (0 : Int32)))), (q_7, .inl (gI G, 5, .inl (fun _ => (0 : Int32))))] := hD
  refine w_putF (C := RX2) (T := TX2) (N := 16) (ci := 2) (W1 := [(q_this, .inr (2, [.int (0 : Int32), .int (0 : Int32), .int (0 : Int32), .int (0 : Int32), .int (0 : Int32), .ref q_1, .ref q_2, .ref q_3, .ref q_4, .ref q_5, .ref q_6, .ref q_7, .null, .null, .null, .null])), (q_1, .inl (gI G, 60, .inl (fun _ => (0 : Int32)))), (q_2, .inl (gI G, 40, .inl (fun _ => (0 : Int32)))), (q_3, .inl (gI G, 40, .inl (fun _ => (0 : Int32)))), (q_4, .inl (gI G, 12, .inl (fun _ => (0 : Int32)))), (q_5, .inl (gI G, 12, .inl (fun _ => (0 : Int32)))), (q_6, .inl (gI G, 12, .inl (fun _ => (0 : Int32)))), (q_7, .inl (gI G, 5, .inl (fun _ => (0 : Int32))))]) hx hb hts uX2 tyX2 tyX2_ok nmX2 hown hin2 hK hP hD hS 0 rfl rfl 11 (by decide) bw135 rfl rfl rfl rfl (Nat.le_of_ble_eq_true rfl) dX2_init_81 rfl (fun H locs hP hD hS => ?_)
  refine lv_aload_n hx hb dX2_init_84 rfl (lv_at hl 0 rfl) ?_
  refine lv_iconst (v := 5) hx hb dX2_init_85 (by decide) ?_
  refine w_newa (atype := .int) (ty := .int) (cA0 := gI G) (N' := 5) (a0 := (5, .inl (fun _ => (0 : Int32)))) hx hb hts bw176 rfl hK hP hD hS hA 0 rfl (fun _ h => by cases h) (fun _ => rfl) (by decide) (by decide) (Nat.le_of_ble_eq_true rfl) (Nat.le_of_ble_eq_true rfl) (Nat.le_of_ble_eq_true rfl) dX2_init_86 (fun q_8 H hP hD hS => ?_)
  replace hP : va_P (gD G) vwCl [(q_this, .inr (2, [.int (0 : Int32), .int (0 : Int32), .int (0 : Int32), .int (0 : Int32), .int (0 : Int32), .ref q_1, .ref q_2, .ref q_3, .ref q_4, .ref q_5, .ref q_6, .ref q_7, .null, .null, .null, .null])), (q_1, .inl (gI G, 60, .inl (fun _ => (0 : Int32)))), (q_2, .inl (gI G, 40, .inl (fun _ => (0 : Int32)))), (q_3, .inl (gI G, 40, .inl (fun _ => (0 : Int32)))), (q_4, .inl (gI G, 12, .inl (fun _ => (0 : Int32)))), (q_5, .inl (gI G, 12, .inl (fun _ => (0 : Int32)))), (q_6, .inl (gI G, 12, .inl (fun _ => (0 : Int32)))), (q_7, .inl (gI G, 5, .inl (fun _ => (0 : Int32)))), (q_8, .inl (gI G, 5, .inl (fun _ => (0 : Int32))))] H := hP
  replace hD : va_D A [(q_this, .inr (2, [.int (0 : Int32), .int (0 : Int32), .int (0 : Int32), .int (0 : Int32), .int (0 : Int32), .ref q_1, .ref q_2, .ref q_3, .ref q_4, .ref q_5, .ref q_6, .ref q_7, .null, .null, .null, .null])), (q_1, .inl (gI G, 60, .inl (fun _ => (0 : Int32)))), (q_2, .inl (gI G, 40, .inl (fun _ => (0 : Int32)))), (q_3, .inl (gI G, 40, .inl (fun _ => (0 : Int32)))), (q_4, .inl (gI G, 12, .inl (fun _ => (0 : Int32)))), (q_5, .inl (gI G, 12, .inl (fun _ => (0 : Int32)))), (q_6, .inl (gI G, 12, .inl (fun _ => (0 : Int32)))), (q_7, .inl (gI G, 5, .inl (fun _ => (0 : Int32)))), (q_8, .inl (gI G, 5, .inl (fun _ => (0 : Int32))))] := hD
  refine w_putF (C := RX2) (T := TX2) (N := 16) (ci := 2) (W1 := [(q_this, .inr (2, [.int (0 : Int32), .int (0 : Int32), .int (0 : Int32), .int (0 : Int32), .int (0 : Int32), .ref q_1, .ref q_2, .ref q_3, .ref q_4, .ref q_5, .ref q_6, .ref q_7, .ref q_8, .null, .null, .null])), (q_1, .inl (gI G, 60, .inl (fun _ => (0 : Int32)))), (q_2, .inl (gI G, 40, .inl (fun _ => (0 : Int32)))), (q_3, .inl (gI G, 40, .inl (fun _ => (0 : Int32)))), (q_4, .inl (gI G, 12, .inl (fun _ => (0 : Int32)))), (q_5, .inl (gI G, 12, .inl (fun _ => (0 : Int32)))), (q_6, .inl (gI G, 12, .inl (fun _ => (0 : Int32)))), (q_7, .inl (gI G, 5, .inl (fun _ => (0 : Int32)))), (q_8, .inl (gI G, 5, .inl (fun _ => (0 : Int32))))]) hx hb hts uX2 tyX2 tyX2_ok nmX2 hown hin2 hK hP hD hS 0 rfl rfl 12 (by decide) bw137 rfl rfl rfl rfl (Nat.le_of_ble_eq_true rfl) dX2_init_88 rfl (fun H locs hP hD hS => ?_)
  refine lv_aload_n hx hb dX2_init_91 rfl (lv_at hl 0 rfl) ?_
  refine lv_iconst (v := 5) hx hb dX2_init_92 (by decide) ?_
  refine w_newa (atype := .boolean) (ty := .boolean) (cA0 := gZ G) (N' := 5) (a0 := (5, .inl (fun _ => (0 : Int32)))) hx hb hts bw177 rfl hK hP hD hS hA 2 rfl (fun _ h => by cases h) (fun _ => rfl) (by decide) (by decide) (Nat.le_of_ble_eq_true rfl) (Nat.le_of_ble_eq_true rfl) (Nat.le_of_ble_eq_true rfl) dX2_init_93 (fun q_9 H hP hD hS => ?_)
  replace hP : va_P (gD G) vwCl [(q_this, .inr (2, [.int (0 : Int32), .int (0 : Int32), .int (0 : Int32), .int (0 : Int32), .int (0 : Int32), .ref q_1, .ref q_2, .ref q_3, .ref q_4, .ref q_5, .ref q_6, .ref q_7, .ref q_8, .null, .null, .null])), (q_1, .inl (gI G, 60, .inl (fun _ => (0 : Int32)))), (q_2, .inl (gI G, 40, .inl (fun _ => (0 : Int32)))), (q_3, .inl (gI G, 40, .inl (fun _ => (0 : Int32)))), (q_4, .inl (gI G, 12, .inl (fun _ => (0 : Int32)))), (q_5, .inl (gI G, 12, .inl (fun _ => (0 : Int32)))), (q_6, .inl (gI G, 12, .inl (fun _ => (0 : Int32)))), (q_7, .inl (gI G, 5, .inl (fun _ => (0 : Int32)))), (q_8, .inl (gI G, 5, .inl (fun _ => (0 : Int32)))), (q_9, .inl (gZ G, 5, .inl (fun _ => (0 : Int32))))] H := hP
  replace hD : va_D A [(q_this, .inr (2, [.int (0 : Int32), .int (0 : Int32), .int (0 : Int32), .int (0 : Int32), .int (0 : Int32), .ref q_1, .ref q_2, .ref q_3, .ref q_4, .ref q_5, .ref q_6, .ref q_7, .ref q_8, .null, .null, .null])), (q_1, .inl (gI G, 60, .inl (fun _ => (0 : Int32)))), (q_2, .inl (gI G, 40, .inl (fun _ => (0 : Int32)))), (q_3, .inl (gI G, 40, .inl (fun _ => (0 : Int32)))), (q_4, .inl (gI G, 12, .inl (fun _ => (0 : Int32)))), (q_5, .inl (gI G, 12, .inl (fun _ => (0 : Int32)))), (q_6, .inl (gI G, 12, .inl (fun _ => (0 : Int32)))), (q_7, .inl (gI G, 5, .inl (fun _ => (0 : Int32)))), (q_8, .inl (gI G, 5, .inl (fun _ => (0 : Int32)))), (q_9, .inl (gZ G, 5, .inl (fun _ => (0 : Int32))))] := hD
  refine w_putF (C := RX2) (T := TX2) (N := 16) (ci := 2) (W1 := [(q_this, .inr (2, [.int (0 : Int32), .int (0 : Int32), .int (0 : Int32), .int (0 : Int32), .int (0 : Int32), .ref q_1, .ref q_2, .ref q_3, .ref q_4, .ref q_5, .ref q_6, .ref q_7, .ref q_8, .ref q_9, .null, .null])), (q_1, .inl (gI G, 60, .inl (fun _ => (0 : Int32)))), (q_2, .inl (gI G, 40, .inl (fun _ => (0 : Int32)))), (q_3, .inl (gI G, 40, .inl (fun _ => (0 : Int32)))), (q_4, .inl (gI G, 12, .inl (fun _ => (0 : Int32)))), (q_5, .inl (gI G, 12, .inl (fun _ => (0 : Int32)))), (q_6, .inl (gI G, 12, .inl (fun _ => (0 : Int32)))), (q_7, .inl (gI G, 5, .inl (fun _ => (0 : Int32)))), (q_8, .inl (gI G, 5, .inl (fun _ => (0 : Int32)))), (q_9, .inl (gZ G, 5, .inl (fun _ => (0 : Int32))))]) hx hb hts uX2 tyX2 tyX2_ok nmX2 hown hin2 hK hP hD hS 0 rfl rfl 13 (by decide) bw139 rfl rfl rfl rfl (Nat.le_of_ble_eq_true rfl) dX2_init_95 rfl (fun H locs hP hD hS => ?_)
  refine lv_aload_n hx hb dX2_init_98 rfl (lv_at hl 0 rfl) ?_
  refine lv_bipush (v := 8) hx hb dX2_init_99 (by decide) ?_
  refine w_newa (atype := .int) (ty := .int) (cA0 := gI G) (N' := 8) (a0 := (8, .inl (fun _ => (0 : Int32)))) hx hb hts bw176 rfl hK hP hD hS hA 0 rfl (fun _ h => by cases h) (fun _ => rfl) (by decide) (by decide) (Nat.le_of_ble_eq_true rfl) (Nat.le_of_ble_eq_true rfl) (Nat.le_of_ble_eq_true rfl) dX2_init_101 (fun q_10 H hP hD hS => ?_)
  replace hP : va_P (gD G) vwCl [(q_this, .inr (2, [.int (0 : Int32), .int (0 : Int32), .int (0 : Int32), .int (0 : Int32), .int (0 : Int32), .ref q_1, .ref q_2, .ref q_3, .ref q_4, .ref q_5, .ref q_6, .ref q_7, .ref q_8, .ref q_9, .null, .null])), (q_1, .inl (gI G, 60, .inl (fun _ => (0 : Int32)))), (q_2, .inl (gI G, 40, .inl (fun _ => (0 : Int32)))), (q_3, .inl (gI G, 40, .inl (fun _ => (0 : Int32)))), (q_4, .inl (gI G, 12, .inl (fun _ => (0 : Int32)))), (q_5, .inl (gI G, 12, .inl (fun _ => (0 : Int32)))), (q_6, .inl (gI G, 12, .inl (fun _ => (0 : Int32)))), (q_7, .inl (gI G, 5, .inl (fun _ => (0 : Int32)))), (q_8, .inl (gI G, 5, .inl (fun _ => (0 : Int32)))), (q_9, .inl (gZ G, 5, .inl (fun _ => (0 : Int32)))), (q_10, .inl (gI G, 8, .inl (fun _ => (0 : Int32))))] H := hP
  replace hD : va_D A [(q_this, .inr (2, [.int (0 : Int32), .int (0 : Int32), .int (0 : Int32), .int (0 : Int32), .int (0 : Int32), .ref q_1, .ref q_2, .ref q_3, .ref q_4, .ref q_5, .ref q_6, .ref q_7, .ref q_8, .ref q_9, .null, .null])), (q_1, .inl (gI G, 60, .inl (fun _ => (0 : Int32)))), (q_2, .inl (gI G, 40, .inl (fun _ => (0 : Int32)))), (q_3, .inl (gI G, 40, .inl (fun _ => (0 : Int32)))), (q_4, .inl (gI G, 12, .inl (fun _ => (0 : Int32)))), (q_5, .inl (gI G, 12, .inl (fun _ => (0 : Int32)))), (q_6, .inl (gI G, 12, .inl (fun _ => (0 : Int32)))), (q_7, .inl (gI G, 5, .inl (fun _ => (0 : Int32)))), (q_8, .inl (gI G, 5, .inl (fun _ => (0 : Int32)))), (q_9, .inl (gZ G, 5, .inl (fun _ => (0 : Int32)))), (q_10, .inl (gI G, 8, .inl (fun _ => (0 : Int32))))] := hD
  refine w_putF (C := RX2) (T := TX2) (N := 16) (ci := 2) (W1 := [(q_this, .inr (2, [.int (0 : Int32), .int (0 : Int32), .int (0 : Int32), .int (0 : Int32), .int (0 : Int32), .ref q_1, .ref q_2, .ref q_3, .ref q_4, .ref q_5, .ref q_6, .ref q_7, .ref q_8, .ref q_9, .ref q_10, .null])), (q_1, .inl (gI G, 60, .inl (fun _ => (0 : Int32)))), (q_2, .inl (gI G, 40, .inl (fun _ => (0 : Int32)))), (q_3, .inl (gI G, 40, .inl (fun _ => (0 : Int32)))), (q_4, .inl (gI G, 12, .inl (fun _ => (0 : Int32)))), (q_5, .inl (gI G, 12, .inl (fun _ => (0 : Int32)))), (q_6, .inl (gI G, 12, .inl (fun _ => (0 : Int32)))), (q_7, .inl (gI G, 5, .inl (fun _ => (0 : Int32)))), (q_8, .inl (gI G, 5, .inl (fun _ => (0 : Int32)))), (q_9, .inl (gZ G, 5, .inl (fun _ => (0 : Int32)))), (q_10, .inl (gI G, 8, .inl (fun _ => (0 : Int32))))]) hx hb hts uX2 tyX2 tyX2_ok nmX2 hown hin2 hK hP hD hS 0 rfl rfl 14 (by decide) bw141 rfl rfl rfl rfl (Nat.le_of_ble_eq_true rfl) dX2_init_103 rfl (fun H locs hP hD hS => ?_)
  refine lv_aload_n hx hb dX2_init_106 rfl (lv_at hl 0 rfl) ?_
  refine lv_bipush (v := 8) hx hb dX2_init_107 (by decide) ?_
  refine w_newa (atype := .int) (ty := .int) (cA0 := gI G) (N' := 8) (a0 := (8, .inl (fun _ => (0 : Int32)))) hx hb hts bw176 rfl hK hP hD hS hA 0 rfl (fun _ h => by cases h) (fun _ => rfl) (by decide) (by decide) (Nat.le_of_ble_eq_true rfl) (Nat.le_of_ble_eq_true rfl) (Nat.le_of_ble_eq_true rfl) dX2_init_109 (fun q_11 H hP hD hS => ?_)
  replace hP : va_P (gD G) vwCl [(q_this, .inr (2, [.int (0 : Int32), .int (0 : Int32), .int (0 : Int32), .int (0 : Int32), .int (0 : Int32), .ref q_1, .ref q_2, .ref q_3, .ref q_4, .ref q_5, .ref q_6, .ref q_7, .ref q_8, .ref q_9, .ref q_10, .null])), (q_1, .inl (gI G, 60, .inl (fun _ => (0 : Int32)))), (q_2, .inl (gI G, 40, .inl (fun _ => (0 : Int32)))), (q_3, .inl (gI G, 40, .inl (fun _ => (0 : Int32)))), (q_4, .inl (gI G, 12, .inl (fun _ => (0 : Int32)))), (q_5, .inl (gI G, 12, .inl (fun _ => (0 : Int32)))), (q_6, .inl (gI G, 12, .inl (fun _ => (0 : Int32)))), (q_7, .inl (gI G, 5, .inl (fun _ => (0 : Int32)))), (q_8, .inl (gI G, 5, .inl (fun _ => (0 : Int32)))), (q_9, .inl (gZ G, 5, .inl (fun _ => (0 : Int32)))), (q_10, .inl (gI G, 8, .inl (fun _ => (0 : Int32)))), (q_11, .inl (gI G, 8, .inl (fun _ => (0 : Int32))))] H := hP
  replace hD : va_D A [(q_this, .inr (2, [.int (0 : Int32), .int (0 : Int32), .int (0 : Int32), .int (0 : Int32), .int (0 : Int32), .ref q_1, .ref q_2, .ref q_3, .ref q_4, .ref q_5, .ref q_6, .ref q_7, .ref q_8, .ref q_9, .ref q_10, .null])), (q_1, .inl (gI G, 60, .inl (fun _ => (0 : Int32)))), (q_2, .inl (gI G, 40, .inl (fun _ => (0 : Int32)))), (q_3, .inl (gI G, 40, .inl (fun _ => (0 : Int32)))), (q_4, .inl (gI G, 12, .inl (fun _ => (0 : Int32)))), (q_5, .inl (gI G, 12, .inl (fun _ => (0 : Int32)))), (q_6, .inl (gI G, 12, .inl (fun _ => (0 : Int32)))), (q_7, .inl (gI G, 5, .inl (fun _ => (0 : Int32)))), (q_8, .inl (gI G, 5, .inl (fun _ => (0 : Int32)))), (q_9, .inl (gZ G, 5, .inl (fun _ => (0 : Int32)))), (q_10, .inl (gI G, 8, .inl (fun _ => (0 : Int32)))), (q_11, .inl (gI G, 8, .inl (fun _ => (0 : Int32))))] := hD
  refine w_putF (C := RX2) (T := TX2) (N := 16) (ci := 2) (W1 := [(q_this, .inr (2, [.int (0 : Int32), .int (0 : Int32), .int (0 : Int32), .int (0 : Int32), .int (0 : Int32), .ref q_1, .ref q_2, .ref q_3, .ref q_4, .ref q_5, .ref q_6, .ref q_7, .ref q_8, .ref q_9, .ref q_10, .ref q_11])), (q_1, .inl (gI G, 60, .inl (fun _ => (0 : Int32)))), (q_2, .inl (gI G, 40, .inl (fun _ => (0 : Int32)))), (q_3, .inl (gI G, 40, .inl (fun _ => (0 : Int32)))), (q_4, .inl (gI G, 12, .inl (fun _ => (0 : Int32)))), (q_5, .inl (gI G, 12, .inl (fun _ => (0 : Int32)))), (q_6, .inl (gI G, 12, .inl (fun _ => (0 : Int32)))), (q_7, .inl (gI G, 5, .inl (fun _ => (0 : Int32)))), (q_8, .inl (gI G, 5, .inl (fun _ => (0 : Int32)))), (q_9, .inl (gZ G, 5, .inl (fun _ => (0 : Int32)))), (q_10, .inl (gI G, 8, .inl (fun _ => (0 : Int32)))), (q_11, .inl (gI G, 8, .inl (fun _ => (0 : Int32))))]) hx hb hts uX2 tyX2 tyX2_ok nmX2 hown hin2 hK hP hD hS 0 rfl rfl 15 (by decide) bw142 rfl rfl rfl rfl (Nat.le_of_ble_eq_true rfl) dX2_init_111 rfl (fun H locs hP hD hS => ?_)
  refine lv_iconst (v := 0) hx hb dX2_init_114 (by decide) ?_
  refine lv_istore_n (lv' := [(1, .int (0 : Int32)), (0, .ref q_this)]) hx hb dX2_init_115 rfl hl (by decide) rfl (fun ls hl => ?_)
  have hL_116 : ∀ (k_116 : Int32 → (Nat → Int32) → (Nat → Int32) → Option ((Nat → Int32) × (Nat → Int32))), (∀ (x_116 : Int32) (y5_116 : (Nat → Int32)) (y6_116 : (Nat → Int32)) (H : Heap) (locs : List Loc) (ls : Array Slot), k_116 x_116 y5_116 y6_116 = some res → va_P (gD G) vwCl [(q_this, .inr (2, [.int (0 : Int32), .int (0 : Int32), .int (0 : Int32), .int (0 : Int32), .int (0 : Int32), .ref q_1, .ref q_2, .ref q_3, .ref q_4, .ref q_5, .ref q_6, .ref q_7, .ref q_8, .ref q_9, .ref q_10, .ref q_11])), (q_1, .inl (gI G, 60, .inl (fun _ => (0 : Int32)))), (q_2, .inl (gI G, 40, .inl (fun _ => (0 : Int32)))), (q_3, .inl (gI G, 40, .inl (fun _ => (0 : Int32)))), (q_4, .inl (gI G, 12, .inl (fun _ => (0 : Int32)))), (q_5, .inl (gI G, 12, .inl y5_116)), (q_6, .inl (gI G, 12, .inl y6_116)), (q_7, .inl (gI G, 5, .inl (fun _ => (0 : Int32)))), (q_8, .inl (gI G, 5, .inl (fun _ => (0 : Int32)))), (q_9, .inl (gZ G, 5, .inl (fun _ => (0 : Int32)))), (q_10, .inl (gI G, 8, .inl (fun _ => (0 : Int32)))), (q_11, .inl (gI G, 8, .inl (fun _ => (0 : Int32))))] H → va_D A [(q_this, .inr (2, [.int (0 : Int32), .int (0 : Int32), .int (0 : Int32), .int (0 : Int32), .int (0 : Int32), .ref q_1, .ref q_2, .ref q_3, .ref q_4, .ref q_5, .ref q_6, .ref q_7, .ref q_8, .ref q_9, .ref q_10, .ref q_11])), (q_1, .inl (gI G, 60, .inl (fun _ => (0 : Int32)))), (q_2, .inl (gI G, 40, .inl (fun _ => (0 : Int32)))), (q_3, .inl (gI G, 40, .inl (fun _ => (0 : Int32)))), (q_4, .inl (gI G, 12, .inl (fun _ => (0 : Int32)))), (q_5, .inl (gI G, 12, .inl y5_116)), (q_6, .inl (gI G, 12, .inl y6_116)), (q_7, .inl (gI G, 5, .inl (fun _ => (0 : Int32)))), (q_8, .inl (gI G, 5, .inl (fun _ => (0 : Int32)))), (q_9, .inl (gZ G, 5, .inl (fun _ => (0 : Int32)))), (q_10, .inl (gI G, 8, .inl (fun _ => (0 : Int32)))), (q_11, .inl (gI G, 8, .inl (fun _ => (0 : Int32))))] → va_S A s.heap H locs → lv_has ls 2 [(0, .ref q_this)] → W p l e { frames := 1, cells := 11, slots := 207, locals := 12 } s m ([.ref q_this] : List Value).toArray below meth c H locs (0 + 1 + 1 + 1 + 1 + 1 + 1 + 1 + 1 + 1 + 1 + 1) (0 + 60 + 40 + 40 + 12 + 12 + 12 + 5 + 5 + 5 + 8 + 8) Q (F0 m 142 ls [])) → ∀ (n_116 : Nat) (x_116 : Int32) (y5_116 : (Nat → Int32)) (y6_116 : (Nat → Int32)) (H : Heap) (locs : List Loc) (ls : Array Slot), m_X2_init_L116 n_116 x_116 y5_116 y6_116 k_116 = some res → va_P (gD G) vwCl [(q_this, .inr (2, [.int (0 : Int32), .int (0 : Int32), .int (0 : Int32), .int (0 : Int32), .int (0 : Int32), .ref q_1, .ref q_2, .ref q_3, .ref q_4, .ref q_5, .ref q_6, .ref q_7, .ref q_8, .ref q_9, .ref q_10, .ref q_11])), (q_1, .inl (gI G, 60, .inl (fun _ => (0 : Int32)))), (q_2, .inl (gI G, 40, .inl (fun _ => (0 : Int32)))), (q_3, .inl (gI G, 40, .inl (fun _ => (0 : Int32)))), (q_4, .inl (gI G, 12, .inl (fun _ => (0 : Int32)))), (q_5, .inl (gI G, 12, .inl y5_116)), (q_6, .inl (gI G, 12, .inl y6_116)), (q_7, .inl (gI G, 5, .inl (fun _ => (0 : Int32)))), (q_8, .inl (gI G, 5, .inl (fun _ => (0 : Int32)))), (q_9, .inl (gZ G, 5, .inl (fun _ => (0 : Int32)))), (q_10, .inl (gI G, 8, .inl (fun _ => (0 : Int32)))), (q_11, .inl (gI G, 8, .inl (fun _ => (0 : Int32))))] H → va_D A [(q_this, .inr (2, [.int (0 : Int32), .int (0 : Int32), .int (0 : Int32), .int (0 : Int32), .int (0 : Int32), .ref q_1, .ref q_2, .ref q_3, .ref q_4, .ref q_5, .ref q_6, .ref q_7, .ref q_8, .ref q_9, .ref q_10, .ref q_11])), (q_1, .inl (gI G, 60, .inl (fun _ => (0 : Int32)))), (q_2, .inl (gI G, 40, .inl (fun _ => (0 : Int32)))), (q_3, .inl (gI G, 40, .inl (fun _ => (0 : Int32)))), (q_4, .inl (gI G, 12, .inl (fun _ => (0 : Int32)))), (q_5, .inl (gI G, 12, .inl y5_116)), (q_6, .inl (gI G, 12, .inl y6_116)), (q_7, .inl (gI G, 5, .inl (fun _ => (0 : Int32)))), (q_8, .inl (gI G, 5, .inl (fun _ => (0 : Int32)))), (q_9, .inl (gZ G, 5, .inl (fun _ => (0 : Int32)))), (q_10, .inl (gI G, 8, .inl (fun _ => (0 : Int32)))), (q_11, .inl (gI G, 8, .inl (fun _ => (0 : Int32))))] → va_S A s.heap H locs → lv_has ls 2 [(0, .ref q_this), (1, .int x_116)] → W p l e { frames := 1, cells := 11, slots := 207, locals := 12 } s m ([.ref q_this] : List Value).toArray below meth c H locs (0 + 1 + 1 + 1 + 1 + 1 + 1 + 1 + 1 + 1 + 1 + 1) (0 + 60 + 40 + 40 + 12 + 12 + 12 + 5 + 5 + 5 + 8 + 8) Q (F0 m 116 ls []) := by
    intro k_116 hk_116 n_116
    induction n_116 with
    | zero =>
      intro x_116 y5_116 y6_116 H locs ls hm
      rw [m_X2_init_L116] at hm
      cases hm
    | succ n_116 ih_116 =>
      intro x_116 y5_116 y6_116 H locs ls hm hP hD hS hl
      rw [m_X2_init_L116] at hm
      refine lv_iload_n hx hb dX2_init_116 rfl (lv_at hl 1 rfl) ?_
      refine lv_bipush (v := 12) hx hb dX2_init_117 (by decide) ?_
      refine ic_ge (tgt := 142) hx hb dX2_init_119 (by decide) hm (fun hm => ?_) (fun hm => ?_)
      · exact hk_116 x_116 y5_116 y6_116 _ _ _ hm hP hD hS (lv_sub hl [0] rfl)
      refine lv_aload_n hx hb dX2_init_122 rfl (lv_at hl 0 rfl) ?_
      refine w_get (C := RX2) (T := TX2) (N := 16) (ci := 2) (v := .ref q_5) hx hb hts uX2 hown hK hP 0 rfl rfl 9 (by decide) bw131 rfl dX2_init_123 ?_
      refine lv_iload_n hx hb dX2_init_126 rfl (lv_at hl 1 rfl) ?_
      refine lv_iconst (v := -1) hx hb dX2_init_127 (by decide) ?_
      refine w_iast hx hb hK hP hD hS 5 rfl hm dX2_init_128 (fun g_12 => [(q_this, .inr (2, [.int (0 : Int32), .int (0 : Int32), .int (0 : Int32), .int (0 : Int32), .int (0 : Int32), .ref q_1, .ref q_2, .ref q_3, .ref q_4, .ref q_5, .ref q_6, .ref q_7, .ref q_8, .ref q_9, .ref q_10, .ref q_11])), (q_1, .inl (gI G, 60, .inl (fun _ => (0 : Int32)))), (q_2, .inl (gI G, 40, .inl (fun _ => (0 : Int32)))), (q_3, .inl (gI G, 40, .inl (fun _ => (0 : Int32)))), (q_4, .inl (gI G, 12, .inl (fun _ => (0 : Int32)))), (q_5, .inl (gI G, 12, .inl g_12)), (q_6, .inl (gI G, 12, .inl y6_116)), (q_7, .inl (gI G, 5, .inl (fun _ => (0 : Int32)))), (q_8, .inl (gI G, 5, .inl (fun _ => (0 : Int32)))), (q_9, .inl (gZ G, 5, .inl (fun _ => (0 : Int32)))), (q_10, .inl (gI G, 8, .inl (fun _ => (0 : Int32)))), (q_11, .inl (gI G, 8, .inl (fun _ => (0 : Int32))))]) (fun _ => rfl) (fun g_12 H locs hm hP hD hS => ?_)
      refine lv_aload_n hx hb dX2_init_129 rfl (lv_at hl 0 rfl) ?_
      refine w_get (C := RX2) (T := TX2) (N := 16) (ci := 2) (v := .ref q_6) hx hb hts uX2 hown hK hP 0 rfl rfl 10 (by decide) bw133 rfl dX2_init_130 ?_
      refine lv_iload_n hx hb dX2_init_133 rfl (lv_at hl 1 rfl) ?_
      refine lv_iconst (v := -1) hx hb dX2_init_134 (by decide) ?_
      refine w_iast hx hb hK hP hD hS 6 rfl hm dX2_init_135 (fun g_13 => [(q_this, .inr (2, [.int (0 : Int32), .int (0 : Int32), .int (0 : Int32), .int (0 : Int32), .int (0 : Int32), .ref q_1, .ref q_2, .ref q_3, .ref q_4, .ref q_5, .ref q_6, .ref q_7, .ref q_8, .ref q_9, .ref q_10, .ref q_11])), (q_1, .inl (gI G, 60, .inl (fun _ => (0 : Int32)))), (q_2, .inl (gI G, 40, .inl (fun _ => (0 : Int32)))), (q_3, .inl (gI G, 40, .inl (fun _ => (0 : Int32)))), (q_4, .inl (gI G, 12, .inl (fun _ => (0 : Int32)))), (q_5, .inl (gI G, 12, .inl g_12)), (q_6, .inl (gI G, 12, .inl g_13)), (q_7, .inl (gI G, 5, .inl (fun _ => (0 : Int32)))), (q_8, .inl (gI G, 5, .inl (fun _ => (0 : Int32)))), (q_9, .inl (gZ G, 5, .inl (fun _ => (0 : Int32)))), (q_10, .inl (gI G, 8, .inl (fun _ => (0 : Int32)))), (q_11, .inl (gI G, 8, .inl (fun _ => (0 : Int32))))]) (fun _ => rfl) (fun g_13 H locs hm hP hD hS => ?_)
      refine lv_iinc (v := (x_116 + (1 : Int32))) (lv' := [(1, .int (x_116 + (1 : Int32))), (0, .ref q_this)]) hx hb dX2_init_136 hl (k := 1) rfl rfl (by decide) rfl (fun ls hl => ?_)
      refine lv_goto (tgt := 116) hx hb dX2_init_139 (by decide) ?_
      exact ih_116 (x_116 + (1 : Int32)) g_12 g_13 _ _ _ hm hP hD hS (lv_sub hl [1, 0] rfl)
  refine hL_116 _ ?_ FU (0 : Int32) (fun _ => (0 : Int32)) (fun _ => (0 : Int32)) _ _ _ hm hP hD hS (lv_sub hl [1, 0] rfl)
  intro x_116 y5_116 y6_116 H locs ls hm hP hD hS hl
  refine W.widen (k := 11) (n := 207) (Nat.le_of_ble_eq_true rfl) (Nat.le_of_ble_eq_true rfl) ?_
  have hr9 := Option.some.inj hm
  subst hr9
  exact fin _ _ ls _ (q_1, q_2, q_3, q_4, q_5, q_6, q_7, q_8, q_9, q_10, q_11) dX2_init_142 hP hD hS
set_option maxHeartbeats 0 in
set_option maxRecDepth 100000 in
theorem i_X3_init (G : GT) (l : Launch) (q_this : Nat) {res : Unit} (hm : m_X3_init = some res) : CI (S := (Nat)) G l yX3_init cX3_init 1 1 1 3 12 q_this [(q_this, .inr (3, [.null, .int 0]))] (fun u => [(q_this, .inr (3, [.ref u, .int (0 : Int32)])), (u, .inl (gI G, 3, .inl (fun _ => (0 : Int32))))]) := by
  refine cti (G := G) (l := l) (y := yX3_init) (cc := cX3_init) (maxL := 1) (fr := 1) (mc := 1) (ms := 3) (lo := 12) (q := q_this) (S := (Nat)) (fun u => [(q_this, .inr (3, [.ref u, .int (0 : Int32)])), (u, .inl (gI G, 3, .inl (fun _ => (0 : Int32))))]) (plainFor_of_name (by decide)) (by decide) rfl ?_
  intro p e s m below meth c A ls Q hx hb hml hown hin2 hts hK hG hA hP hD hS hl fin
  have hown : s.vm.findClass RX3 = some m.cls := hown
  unfold m_X3_init at hm
  refine lv_aload_n hx hb dX3_init_0 rfl (lv_at hl 0 rfl) ?_
  refine w_obj hx hb hml hl.1 hts hown bw238 bw100 bw101 dX3_init_1 (Nat.le_of_ble_eq_true rfl) (Nat.le_of_ble_eq_true rfl) ?_
  refine lv_aload_n hx hb dX3_init_4 rfl (lv_at hl 0 rfl) ?_
  refine lv_iconst (v := 3) hx hb dX3_init_5 (by decide) ?_
  refine w_newa (atype := .int) (ty := .int) (cA0 := gI G) (N' := 3) (a0 := (3, .inl (fun _ => (0 : Int32)))) hx hb hts bw176 rfl hK hP hD hS hA 0 rfl (fun _ h => by cases h) (fun _ => rfl) (by decide) (by decide) (Nat.le_of_ble_eq_true rfl) (Nat.le_of_ble_eq_true rfl) (Nat.le_of_ble_eq_true rfl) dX3_init_6 (fun q_1 H hP hD hS => ?_)
  replace hP : va_P (gD G) vwCl [(q_this, .inr (3, [.null, .int 0])), (q_1, .inl (gI G, 3, .inl (fun _ => (0 : Int32))))] H := hP
  replace hD : va_D A [(q_this, .inr (3, [.null, .int 0])), (q_1, .inl (gI G, 3, .inl (fun _ => (0 : Int32))))] := hD
  refine w_putF (C := RX3) (T := TX3) (N := 2) (ci := 3) (W1 := [(q_this, .inr (3, [.ref q_1, .int 0])), (q_1, .inl (gI G, 3, .inl (fun _ => (0 : Int32))))]) hx hb hts uX3 tyX3 tyX3_ok nmX3 hown hin2 hK hP hD hS 0 rfl rfl 0 (by decide) bw239 rfl rfl rfl rfl (Nat.le_of_ble_eq_true rfl) dX3_init_8 rfl (fun H locs hP hD hS => ?_)
  refine lv_aload_n hx hb dX3_init_11 rfl (lv_at hl 0 rfl) ?_
  refine lv_iconst (v := 0) hx hb dX3_init_12 (by decide) ?_
  refine w_put (C := RX3) (T := TX3) (N := 2) (ci := 3) (W1 := [(q_this, .inr (3, [.ref q_1, .int (0 : Int32)])), (q_1, .inl (gI G, 3, .inl (fun _ => (0 : Int32))))]) hx hb hts uX3 tyX3 tyX3_ok nmX3 hown hK hP hD hS 0 rfl rfl 1 (by decide) bw241 rfl rfl rfl (Nat.le_of_ble_eq_true rfl) dX3_init_13 rfl (fun H locs hP hD hS => ?_)
  refine W.widen (k := 1) (n := 3) (Nat.le_of_ble_eq_true rfl) (Nat.le_of_ble_eq_true rfl) ?_
  have hr9 := Option.some.inj hm
  subst hr9
  exact fin _ _ ls _ q_1 dX3_init_16 hP hD hS
set_option maxHeartbeats 0 in
set_option maxRecDepth 100000 in
theorem i_X4_init (G : GT) (l : Launch) (q_this : Nat) {res : Unit} (hm : m_X4_init = some res) : CI (S := (Nat × Nat)) G l yX4_init cX4_init 1 1 2 4108 12 q_this [(q_this, .inr (4, [.null, .null, .int 0]))] (fun u => [(q_this, .inr (4, [.ref u.1, .ref u.2, .int (-1 : Int32)])), (u.1, .inl (gJ G, 4096, .inr (.inl (fun _ => (0 : Int64))))), (u.2, .inl (gI G, 12, .inl (fun _ => (0 : Int32))))]) := by
  refine cti (G := G) (l := l) (y := yX4_init) (cc := cX4_init) (maxL := 1) (fr := 1) (mc := 2) (ms := 4108) (lo := 12) (q := q_this) (S := (Nat × Nat)) (fun u => [(q_this, .inr (4, [.ref u.1, .ref u.2, .int (-1 : Int32)])), (u.1, .inl (gJ G, 4096, .inr (.inl (fun _ => (0 : Int64))))), (u.2, .inl (gI G, 12, .inl (fun _ => (0 : Int32))))]) (plainFor_of_name (by decide)) (by decide) rfl ?_
  intro p e s m below meth c A ls Q hx hb hml hown hin2 hts hK hG hA hP hD hS hl fin
  have hown : s.vm.findClass RX4 = some m.cls := hown
  unfold m_X4_init at hm
  refine lv_aload_n hx hb dX4_init_0 rfl (lv_at hl 0 rfl) ?_
  refine w_obj hx hb hml hl.1 hts hown bw221 bw100 bw101 dX4_init_1 (Nat.le_of_ble_eq_true rfl) (Nat.le_of_ble_eq_true rfl) ?_
  refine lv_aload_n hx hb dX4_init_4 rfl (lv_at hl 0 rfl) ?_
  refine lv_sipush (v := 4096) hx hb dX4_init_5 (by decide) ?_
  refine w_newa (atype := .long) (ty := .long) (cA0 := gJ G) (N' := 4096) (a0 := (4096, .inr (.inl (fun _ => (0 : Int64))))) hx hb hts bw232 rfl hK hP hD hS hA 1 rfl (fun _ h => by cases h) (fun _ => rfl) (by decide) (by decide) (Nat.le_of_ble_eq_true rfl) (Nat.le_of_ble_eq_true rfl) (Nat.le_of_ble_eq_true rfl) dX4_init_8 (fun q_1 H hP hD hS => ?_)
  replace hP : va_P (gD G) vwCl [(q_this, .inr (4, [.null, .null, .int 0])), (q_1, .inl (gJ G, 4096, .inr (.inl (fun _ => (0 : Int64)))))] H := hP
  replace hD : va_D A [(q_this, .inr (4, [.null, .null, .int 0])), (q_1, .inl (gJ G, 4096, .inr (.inl (fun _ => (0 : Int64)))))] := hD
  refine w_putF (C := RX4) (T := TX4) (N := 3) (ci := 4) (W1 := [(q_this, .inr (4, [.ref q_1, .null, .int 0])), (q_1, .inl (gJ G, 4096, .inr (.inl (fun _ => (0 : Int64)))))]) hx hb hts uX4 tyX4 tyX4_ok nmX4 hown hin2 hK hP hD hS 0 rfl rfl 0 (by decide) bw222 rfl rfl rfl rfl (Nat.le_of_ble_eq_true rfl) dX4_init_10 rfl (fun H locs hP hD hS => ?_)
  refine lv_aload_n hx hb dX4_init_13 rfl (lv_at hl 0 rfl) ?_
  refine lv_bipush (v := 12) hx hb dX4_init_14 (by decide) ?_
  refine w_newa (atype := .int) (ty := .int) (cA0 := gI G) (N' := 12) (a0 := (12, .inl (fun _ => (0 : Int32)))) hx hb hts bw176 rfl hK hP hD hS hA 0 rfl (fun _ h => by cases h) (fun _ => rfl) (by decide) (by decide) (Nat.le_of_ble_eq_true rfl) (Nat.le_of_ble_eq_true rfl) (Nat.le_of_ble_eq_true rfl) dX4_init_16 (fun q_2 H hP hD hS => ?_)
  replace hP : va_P (gD G) vwCl [(q_this, .inr (4, [.ref q_1, .null, .int 0])), (q_1, .inl (gJ G, 4096, .inr (.inl (fun _ => (0 : Int64))))), (q_2, .inl (gI G, 12, .inl (fun _ => (0 : Int32))))] H := hP
  replace hD : va_D A [(q_this, .inr (4, [.ref q_1, .null, .int 0])), (q_1, .inl (gJ G, 4096, .inr (.inl (fun _ => (0 : Int64))))), (q_2, .inl (gI G, 12, .inl (fun _ => (0 : Int32))))] := hD
  refine w_putF (C := RX4) (T := TX4) (N := 3) (ci := 4) (W1 := [(q_this, .inr (4, [.ref q_1, .ref q_2, .int 0])), (q_1, .inl (gJ G, 4096, .inr (.inl (fun _ => (0 : Int64))))), (q_2, .inl (gI G, 12, .inl (fun _ => (0 : Int32))))]) hx hb hts uX4 tyX4 tyX4_ok nmX4 hown hin2 hK hP hD hS 0 rfl rfl 1 (by decide) bw223 rfl rfl rfl rfl (Nat.le_of_ble_eq_true rfl) dX4_init_18 rfl (fun H locs hP hD hS => ?_)
  refine lv_aload_n hx hb dX4_init_21 rfl (lv_at hl 0 rfl) ?_
  refine lv_iconst (v := -1) hx hb dX4_init_22 (by decide) ?_
  refine w_put (C := RX4) (T := TX4) (N := 3) (ci := 4) (W1 := [(q_this, .inr (4, [.ref q_1, .ref q_2, .int (-1 : Int32)])), (q_1, .inl (gJ G, 4096, .inr (.inl (fun _ => (0 : Int64))))), (q_2, .inl (gI G, 12, .inl (fun _ => (0 : Int32))))]) hx hb hts uX4 tyX4 tyX4_ok nmX4 hown hK hP hD hS 0 rfl rfl 2 (by decide) bw224 rfl rfl rfl (Nat.le_of_ble_eq_true rfl) dX4_init_23 rfl (fun H locs hP hD hS => ?_)
  refine W.widen (k := 2) (n := 4108) (Nat.le_of_ble_eq_true rfl) (Nat.le_of_ble_eq_true rfl) ?_
  have hr9 := Option.some.inj hm
  subst hr9
  exact fin _ _ ls _ (q_1, q_2) dX4_init_26 hP hD hS
set_option maxHeartbeats 0 in
set_option maxRecDepth 100000 in
theorem i_X5_init (G : GT) (l : Launch) (q_this : Nat) {res : Unit} (hm : m_X5_init = some res) : CI (S := (Nat × Nat × Nat × Nat × Nat × Nat)) G l yX5_init cX5_init 1 1 6 73 12 q_this [(q_this, .inr (5, [.int 0, .null, .null, .null, .null, .null, .null]))] (fun u => [(q_this, .inr (5, [.int (0 : Int32), .ref u.1, .ref u.2.1, .ref u.2.2.1, .ref u.2.2.2.1, .ref u.2.2.2.2.1, .ref u.2.2.2.2.2])), (u.1, .inl (gI G, 12, .inl (fun _ => (0 : Int32)))), (u.2.1, .inl (gI G, 12, .inl (fun _ => (0 : Int32)))), (u.2.2.1, .inl (gI G, 12, .inl (fun _ => (0 : Int32)))), (u.2.2.2.1, .inl (gI G, 12, .inl (fun _ => (0 : Int32)))), (u.2.2.2.2.1, .inl (gI G, 12, .inl (fun _ => (0 : Int32)))), (u.2.2.2.2.2, .inl (gI G, 13, .inl (fun _ => (0 : Int32))))]) := by
  refine cti (G := G) (l := l) (y := yX5_init) (cc := cX5_init) (maxL := 1) (fr := 1) (mc := 6) (ms := 73) (lo := 12) (q := q_this) (S := (Nat × Nat × Nat × Nat × Nat × Nat)) (fun u => [(q_this, .inr (5, [.int (0 : Int32), .ref u.1, .ref u.2.1, .ref u.2.2.1, .ref u.2.2.2.1, .ref u.2.2.2.2.1, .ref u.2.2.2.2.2])), (u.1, .inl (gI G, 12, .inl (fun _ => (0 : Int32)))), (u.2.1, .inl (gI G, 12, .inl (fun _ => (0 : Int32)))), (u.2.2.1, .inl (gI G, 12, .inl (fun _ => (0 : Int32)))), (u.2.2.2.1, .inl (gI G, 12, .inl (fun _ => (0 : Int32)))), (u.2.2.2.2.1, .inl (gI G, 12, .inl (fun _ => (0 : Int32)))), (u.2.2.2.2.2, .inl (gI G, 13, .inl (fun _ => (0 : Int32))))]) (plainFor_of_name (by decide)) (by decide) rfl ?_
  intro p e s m below meth c A ls Q hx hb hml hown hin2 hts hK hG hA hP hD hS hl fin
  have hown : s.vm.findClass RX5 = some m.cls := hown
  unfold m_X5_init at hm
  refine lv_aload_n hx hb dX5_init_0 rfl (lv_at hl 0 rfl) ?_
  refine w_obj hx hb hml hl.1 hts hown bw183 bw100 bw101 dX5_init_1 (Nat.le_of_ble_eq_true rfl) (Nat.le_of_ble_eq_true rfl) ?_
  refine lv_aload_n hx hb dX5_init_4 rfl (lv_at hl 0 rfl) ?_
  refine lv_iconst (v := 0) hx hb dX5_init_5 (by decide) ?_
  refine w_put (C := RX5) (T := TX5) (N := 7) (ci := 5) (W1 := [(q_this, .inr (5, [.int (0 : Int32), .null, .null, .null, .null, .null, .null]))]) hx hb hts uX5 tyX5 tyX5_ok nmX5 hown hK hP hD hS 0 rfl rfl 0 (by decide) bw184 rfl rfl rfl (Nat.le_of_ble_eq_true rfl) dX5_init_6 rfl (fun H locs hP hD hS => ?_)
  refine lv_aload_n hx hb dX5_init_9 rfl (lv_at hl 0 rfl) ?_
  refine lv_bipush (v := 12) hx hb dX5_init_10 (by decide) ?_
  refine w_newa (atype := .int) (ty := .int) (cA0 := gI G) (N' := 12) (a0 := (12, .inl (fun _ => (0 : Int32)))) hx hb hts bw176 rfl hK hP hD hS hA 0 rfl (fun _ h => by cases h) (fun _ => rfl) (by decide) (by decide) (Nat.le_of_ble_eq_true rfl) (Nat.le_of_ble_eq_true rfl) (Nat.le_of_ble_eq_true rfl) dX5_init_12 (fun q_1 H hP hD hS => ?_)
  replace hP : va_P (gD G) vwCl [(q_this, .inr (5, [.int (0 : Int32), .null, .null, .null, .null, .null, .null])), (q_1, .inl (gI G, 12, .inl (fun _ => (0 : Int32))))] H := hP
  replace hD : va_D A [(q_this, .inr (5, [.int (0 : Int32), .null, .null, .null, .null, .null, .null])), (q_1, .inl (gI G, 12, .inl (fun _ => (0 : Int32))))] := hD
  refine w_putF (C := RX5) (T := TX5) (N := 7) (ci := 5) (W1 := [(q_this, .inr (5, [.int (0 : Int32), .ref q_1, .null, .null, .null, .null, .null])), (q_1, .inl (gI G, 12, .inl (fun _ => (0 : Int32))))]) hx hb hts uX5 tyX5 tyX5_ok nmX5 hown hin2 hK hP hD hS 0 rfl rfl 1 (by decide) bw186 rfl rfl rfl rfl (Nat.le_of_ble_eq_true rfl) dX5_init_14 rfl (fun H locs hP hD hS => ?_)
  refine lv_aload_n hx hb dX5_init_17 rfl (lv_at hl 0 rfl) ?_
  refine lv_bipush (v := 12) hx hb dX5_init_18 (by decide) ?_
  refine w_newa (atype := .int) (ty := .int) (cA0 := gI G) (N' := 12) (a0 := (12, .inl (fun _ => (0 : Int32)))) hx hb hts bw176 rfl hK hP hD hS hA 0 rfl (fun _ h => by cases h) (fun _ => rfl) (by decide) (by decide) (Nat.le_of_ble_eq_true rfl) (Nat.le_of_ble_eq_true rfl) (Nat.le_of_ble_eq_true rfl) dX5_init_20 (fun q_2 H hP hD hS => ?_)
  replace hP : va_P (gD G) vwCl [(q_this, .inr (5, [.int (0 : Int32), .ref q_1, .null, .null, .null, .null, .null])), (q_1, .inl (gI G, 12, .inl (fun _ => (0 : Int32)))), (q_2, .inl (gI G, 12, .inl (fun _ => (0 : Int32))))] H := hP
  replace hD : va_D A [(q_this, .inr (5, [.int (0 : Int32), .ref q_1, .null, .null, .null, .null, .null])), (q_1, .inl (gI G, 12, .inl (fun _ => (0 : Int32)))), (q_2, .inl (gI G, 12, .inl (fun _ => (0 : Int32))))] := hD
  refine w_putF (C := RX5) (T := TX5) (N := 7) (ci := 5) (W1 := [(q_this, .inr (5, [.int (0 : Int32), .ref q_1, .ref q_2, .null, .null, .null, .null])), (q_1, .inl (gI G, 12, .inl (fun _ => (0 : Int32)))), (q_2, .inl (gI G, 12, .inl (fun _ => (0 : Int32))))]) hx hb hts uX5 tyX5 tyX5_ok nmX5 hown hin2 hK hP hD hS 0 rfl rfl 2 (by decide) bw188 rfl rfl rfl rfl (Nat.le_of_ble_eq_true rfl) dX5_init_22 rfl (fun H locs hP hD hS => ?_)
  refine lv_aload_n hx hb dX5_init_25 rfl (lv_at hl 0 rfl) ?_
  refine lv_bipush (v := 12) hx hb dX5_init_26 (by decide) ?_
  refine w_newa (atype := .int) (ty := .int) (cA0 := gI G) (N' := 12) (a0 := (12, .inl (fun _ => (0 : Int32)))) hx hb hts bw176 rfl hK hP hD hS hA 0 rfl (fun _ h => by cases h) (fun _ => rfl) (by decide) (by decide) (Nat.le_of_ble_eq_true rfl) (Nat.le_of_ble_eq_true rfl) (Nat.le_of_ble_eq_true rfl) dX5_init_28 (fun q_3 H hP hD hS => ?_)
  replace hP : va_P (gD G) vwCl [(q_this, .inr (5, [.int (0 : Int32), .ref q_1, .ref q_2, .null, .null, .null, .null])), (q_1, .inl (gI G, 12, .inl (fun _ => (0 : Int32)))), (q_2, .inl (gI G, 12, .inl (fun _ => (0 : Int32)))), (q_3, .inl (gI G, 12, .inl (fun _ => (0 : Int32))))] H := hP
  replace hD : va_D A [(q_this, .inr (5, [.int (0 : Int32), .ref q_1, .ref q_2, .null, .null, .null, .null])), (q_1, .inl (gI G, 12, .inl (fun _ => (0 : Int32)))), (q_2, .inl (gI G, 12, .inl (fun _ => (0 : Int32)))), (q_3, .inl (gI G, 12, .inl (fun _ => (0 : Int32))))] := hD
  refine w_putF (C := RX5) (T := TX5) (N := 7) (ci := 5) (W1 := [(q_this, .inr (5, [.int (0 : Int32), .ref q_1, .ref q_2, .ref q_3, .null, .null, .null])), (q_1, .inl (gI G, 12, .inl (fun _ => (0 : Int32)))), (q_2, .inl (gI G, 12, .inl (fun _ => (0 : Int32)))), (q_3, .inl (gI G, 12, .inl (fun _ => (0 : Int32))))]) hx hb hts uX5 tyX5 tyX5_ok nmX5 hown hin2 hK hP hD hS 0 rfl rfl 3 (by decide) bw190 rfl rfl rfl rfl (Nat.le_of_ble_eq_true rfl) dX5_init_30 rfl (fun H locs hP hD hS => ?_)
  refine lv_aload_n hx hb dX5_init_33 rfl (lv_at hl 0 rfl) ?_
  refine lv_bipush (v := 12) hx hb dX5_init_34 (by decide) ?_
  refine w_newa (atype := .int) (ty := .int) (cA0 := gI G) (N' := 12) (a0 := (12, .inl (fun _ => (0 : Int32)))) hx hb hts bw176 rfl hK hP hD hS hA 0 rfl (fun _ h => by cases h) (fun _ => rfl) (by decide) (by decide) (Nat.le_of_ble_eq_true rfl) (Nat.le_of_ble_eq_true rfl) (Nat.le_of_ble_eq_true rfl) dX5_init_36 (fun q_4 H hP hD hS => ?_)
  replace hP : va_P (gD G) vwCl [(q_this, .inr (5, [.int (0 : Int32), .ref q_1, .ref q_2, .ref q_3, .null, .null, .null])), (q_1, .inl (gI G, 12, .inl (fun _ => (0 : Int32)))), (q_2, .inl (gI G, 12, .inl (fun _ => (0 : Int32)))), (q_3, .inl (gI G, 12, .inl (fun _ => (0 : Int32)))), (q_4, .inl (gI G, 12, .inl (fun _ => (0 : Int32))))] H := hP
  replace hD : va_D A [(q_this, .inr (5, [.int (0 : Int32), .ref q_1, .ref q_2, .ref q_3, .null, .null, .null])), (q_1, .inl (gI G, 12, .inl (fun _ => (0 : Int32)))), (q_2, .inl (gI G, 12, .inl (fun _ => (0 : Int32)))), (q_3, .inl (gI G, 12, .inl (fun _ => (0 : Int32)))), (q_4, .inl (gI G, 12, .inl (fun _ => (0 : Int32))))] := hD
  refine w_putF (C := RX5) (T := TX5) (N := 7) (ci := 5) (W1 := [(q_this, .inr (5, [.int (0 : Int32), .ref q_1, .ref q_2, .ref q_3, .ref q_4, .null, .null])), (q_1, .inl (gI G, 12, .inl (fun _ => (0 : Int32)))), (q_2, .inl (gI G, 12, .inl (fun _ => (0 : Int32)))), (q_3, .inl (gI G, 12, .inl (fun _ => (0 : Int32)))), (q_4, .inl (gI G, 12, .inl (fun _ => (0 : Int32))))]) hx hb hts uX5 tyX5 tyX5_ok nmX5 hown hin2 hK hP hD hS 0 rfl rfl 4 (by decide) bw193 rfl rfl rfl rfl (Nat.le_of_ble_eq_true rfl) dX5_init_38 rfl (fun H locs hP hD hS => ?_)
  refine lv_aload_n hx hb dX5_init_41 rfl (lv_at hl 0 rfl) ?_
  refine lv_bipush (v := 12) hx hb dX5_init_42 (by decide) ?_
  refine w_newa (atype := .int) (ty := .int) (cA0 := gI G) (N' := 12) (a0 := (12, .inl (fun _ => (0 : Int32)))) hx hb hts bw176 rfl hK hP hD hS hA 0 rfl (fun _ h => by cases h) (fun _ => rfl) (by decide) (by decide) (Nat.le_of_ble_eq_true rfl) (Nat.le_of_ble_eq_true rfl) (Nat.le_of_ble_eq_true rfl) dX5_init_44 (fun q_5 H hP hD hS => ?_)
  replace hP : va_P (gD G) vwCl [(q_this, .inr (5, [.int (0 : Int32), .ref q_1, .ref q_2, .ref q_3, .ref q_4, .null, .null])), (q_1, .inl (gI G, 12, .inl (fun _ => (0 : Int32)))), (q_2, .inl (gI G, 12, .inl (fun _ => (0 : Int32)))), (q_3, .inl (gI G, 12, .inl (fun _ => (0 : Int32)))), (q_4, .inl (gI G, 12, .inl (fun _ => (0 : Int32)))), (q_5, .inl (gI G, 12, .inl (fun _ => (0 : Int32))))] H := hP
  replace hD : va_D A [(q_this, .inr (5, [.int (0 : Int32), .ref q_1, .ref q_2, .ref q_3, .ref q_4, .null, .null])), (q_1, .inl (gI G, 12, .inl (fun _ => (0 : Int32)))), (q_2, .inl (gI G, 12, .inl (fun _ => (0 : Int32)))), (q_3, .inl (gI G, 12, .inl (fun _ => (0 : Int32)))), (q_4, .inl (gI G, 12, .inl (fun _ => (0 : Int32)))), (q_5, .inl (gI G, 12, .inl (fun _ => (0 : Int32))))] := hD
  refine w_putF (C := RX5) (T := TX5) (N := 7) (ci := 5) (W1 := [(q_this, .inr (5, [.int (0 : Int32), .ref q_1, .ref q_2, .ref q_3, .ref q_4, .ref q_5, .null])), (q_1, .inl (gI G, 12, .inl (fun _ => (0 : Int32)))), (q_2, .inl (gI G, 12, .inl (fun _ => (0 : Int32)))), (q_3, .inl (gI G, 12, .inl (fun _ => (0 : Int32)))), (q_4, .inl (gI G, 12, .inl (fun _ => (0 : Int32)))), (q_5, .inl (gI G, 12, .inl (fun _ => (0 : Int32))))]) hx hb hts uX5 tyX5 tyX5_ok nmX5 hown hin2 hK hP hD hS 0 rfl rfl 5 (by decide) bw196 rfl rfl rfl rfl (Nat.le_of_ble_eq_true rfl) dX5_init_46 rfl (fun H locs hP hD hS => ?_)
  refine lv_aload_n hx hb dX5_init_49 rfl (lv_at hl 0 rfl) ?_
  refine lv_bipush (v := 13) hx hb dX5_init_50 (by decide) ?_
  refine w_newa (atype := .int) (ty := .int) (cA0 := gI G) (N' := 13) (a0 := (13, .inl (fun _ => (0 : Int32)))) hx hb hts bw176 rfl hK hP hD hS hA 0 rfl (fun _ h => by cases h) (fun _ => rfl) (by decide) (by decide) (Nat.le_of_ble_eq_true rfl) (Nat.le_of_ble_eq_true rfl) (Nat.le_of_ble_eq_true rfl) dX5_init_52 (fun q_6 H hP hD hS => ?_)
  replace hP : va_P (gD G) vwCl [(q_this, .inr (5, [.int (0 : Int32), .ref q_1, .ref q_2, .ref q_3, .ref q_4, .ref q_5, .null])), (q_1, .inl (gI G, 12, .inl (fun _ => (0 : Int32)))), (q_2, .inl (gI G, 12, .inl (fun _ => (0 : Int32)))), (q_3, .inl (gI G, 12, .inl (fun _ => (0 : Int32)))), (q_4, .inl (gI G, 12, .inl (fun _ => (0 : Int32)))), (q_5, .inl (gI G, 12, .inl (fun _ => (0 : Int32)))), (q_6, .inl (gI G, 13, .inl (fun _ => (0 : Int32))))] H := hP
  replace hD : va_D A [(q_this, .inr (5, [.int (0 : Int32), .ref q_1, .ref q_2, .ref q_3, .ref q_4, .ref q_5, .null])), (q_1, .inl (gI G, 12, .inl (fun _ => (0 : Int32)))), (q_2, .inl (gI G, 12, .inl (fun _ => (0 : Int32)))), (q_3, .inl (gI G, 12, .inl (fun _ => (0 : Int32)))), (q_4, .inl (gI G, 12, .inl (fun _ => (0 : Int32)))), (q_5, .inl (gI G, 12, .inl (fun _ => (0 : Int32)))), (q_6, .inl (gI G, 13, .inl (fun _ => (0 : Int32))))] := hD
  refine w_putF (C := RX5) (T := TX5) (N := 7) (ci := 5) (W1 := [(q_this, .inr (5, [.int (0 : Int32), .ref q_1, .ref q_2, .ref q_3, .ref q_4, .ref q_5, .ref q_6])), (q_1, .inl (gI G, 12, .inl (fun _ => (0 : Int32)))), (q_2, .inl (gI G, 12, .inl (fun _ => (0 : Int32)))), (q_3, .inl (gI G, 12, .inl (fun _ => (0 : Int32)))), (q_4, .inl (gI G, 12, .inl (fun _ => (0 : Int32)))), (q_5, .inl (gI G, 12, .inl (fun _ => (0 : Int32)))), (q_6, .inl (gI G, 13, .inl (fun _ => (0 : Int32))))]) hx hb hts uX5 tyX5 tyX5_ok nmX5 hown hin2 hK hP hD hS 0 rfl rfl 6 (by decide) bw200 rfl rfl rfl rfl (Nat.le_of_ble_eq_true rfl) dX5_init_54 rfl (fun H locs hP hD hS => ?_)
  refine W.widen (k := 6) (n := 73) (Nat.le_of_ble_eq_true rfl) (Nat.le_of_ble_eq_true rfl) ?_
  have hr9 := Option.some.inj hm
  subst hr9
  exact fin _ _ ls _ (q_1, q_2, q_3, q_4, q_5, q_6) dX5_init_57 hP hD hS
set_option maxHeartbeats 0 in
set_option maxRecDepth 100000 in
theorem i_X6_init (G : GT) (l : Launch) (q_this : Nat) {res : Unit} (hm : m_X6_init = some res) : CI (S := (Nat × Nat × Nat × Nat)) G l yX6_init cX6_init 1 1 4 124 12 q_this [(q_this, .inr (6, [.null, .int 0, .null, .null, .null, .int 0, .int 0, .int 0]))] (fun u => [(q_this, .inr (6, [.ref u.1, .int (0 : Int32), .ref u.2.1, .ref u.2.2.1, .ref u.2.2.2, .int (0 : Int32), .int (0 : Int32), .int (0 : Int32)])), (u.1, .inl (gI G, 100, .inl (fun _ => (0 : Int32)))), (u.2.1, .inl (gI G, 8, .inl (fun _ => (0 : Int32)))), (u.2.2.1, .inl (gI G, 8, .inl (fun _ => (0 : Int32)))), (u.2.2.2, .inl (gI G, 8, .inl (fun _ => (0 : Int32))))]) := by
  refine cti (G := G) (l := l) (y := yX6_init) (cc := cX6_init) (maxL := 1) (fr := 1) (mc := 4) (ms := 124) (lo := 12) (q := q_this) (S := (Nat × Nat × Nat × Nat)) (fun u => [(q_this, .inr (6, [.ref u.1, .int (0 : Int32), .ref u.2.1, .ref u.2.2.1, .ref u.2.2.2, .int (0 : Int32), .int (0 : Int32), .int (0 : Int32)])), (u.1, .inl (gI G, 100, .inl (fun _ => (0 : Int32)))), (u.2.1, .inl (gI G, 8, .inl (fun _ => (0 : Int32)))), (u.2.2.1, .inl (gI G, 8, .inl (fun _ => (0 : Int32)))), (u.2.2.2, .inl (gI G, 8, .inl (fun _ => (0 : Int32))))]) (plainFor_of_name (by decide)) (by decide) rfl ?_
  intro p e s m below meth c A ls Q hx hb hml hown hin2 hts hK hG hA hP hD hS hl fin
  have hown : s.vm.findClass RX6 = some m.cls := hown
  unfold m_X6_init at hm
  refine lv_aload_n hx hb dX6_init_0 rfl (lv_at hl 0 rfl) ?_
  refine w_obj hx hb hml hl.1 hts hown bw253 bw100 bw101 dX6_init_1 (Nat.le_of_ble_eq_true rfl) (Nat.le_of_ble_eq_true rfl) ?_
  refine lv_aload_n hx hb dX6_init_4 rfl (lv_at hl 0 rfl) ?_
  refine lv_bipush (v := 100) hx hb dX6_init_5 (by decide) ?_
  refine w_newa (atype := .int) (ty := .int) (cA0 := gI G) (N' := 100) (a0 := (100, .inl (fun _ => (0 : Int32)))) hx hb hts bw176 rfl hK hP hD hS hA 0 rfl (fun _ h => by cases h) (fun _ => rfl) (by decide) (by decide) (Nat.le_of_ble_eq_true rfl) (Nat.le_of_ble_eq_true rfl) (Nat.le_of_ble_eq_true rfl) dX6_init_7 (fun q_1 H hP hD hS => ?_)
  replace hP : va_P (gD G) vwCl [(q_this, .inr (6, [.null, .int 0, .null, .null, .null, .int 0, .int 0, .int 0])), (q_1, .inl (gI G, 100, .inl (fun _ => (0 : Int32))))] H := hP
  replace hD : va_D A [(q_this, .inr (6, [.null, .int 0, .null, .null, .null, .int 0, .int 0, .int 0])), (q_1, .inl (gI G, 100, .inl (fun _ => (0 : Int32))))] := hD
  refine w_putF (C := RX6) (T := TX6) (N := 8) (ci := 6) (W1 := [(q_this, .inr (6, [.ref q_1, .int 0, .null, .null, .null, .int 0, .int 0, .int 0])), (q_1, .inl (gI G, 100, .inl (fun _ => (0 : Int32))))]) hx hb hts uX6 tyX6 tyX6_ok nmX6 hown hin2 hK hP hD hS 0 rfl rfl 0 (by decide) bw254 rfl rfl rfl rfl (Nat.le_of_ble_eq_true rfl) dX6_init_9 rfl (fun H locs hP hD hS => ?_)
  refine lv_aload_n hx hb dX6_init_12 rfl (lv_at hl 0 rfl) ?_
  refine lv_iconst (v := 0) hx hb dX6_init_13 (by decide) ?_
  refine w_put (C := RX6) (T := TX6) (N := 8) (ci := 6) (W1 := [(q_this, .inr (6, [.ref q_1, .int (0 : Int32), .null, .null, .null, .int 0, .int 0, .int 0])), (q_1, .inl (gI G, 100, .inl (fun _ => (0 : Int32))))]) hx hb hts uX6 tyX6 tyX6_ok nmX6 hown hK hP hD hS 0 rfl rfl 1 (by decide) bw256 rfl rfl rfl (Nat.le_of_ble_eq_true rfl) dX6_init_14 rfl (fun H locs hP hD hS => ?_)
  refine lv_aload_n hx hb dX6_init_17 rfl (lv_at hl 0 rfl) ?_
  refine lv_bipush (v := 8) hx hb dX6_init_18 (by decide) ?_
  refine w_newa (atype := .int) (ty := .int) (cA0 := gI G) (N' := 8) (a0 := (8, .inl (fun _ => (0 : Int32)))) hx hb hts bw176 rfl hK hP hD hS hA 0 rfl (fun _ h => by cases h) (fun _ => rfl) (by decide) (by decide) (Nat.le_of_ble_eq_true rfl) (Nat.le_of_ble_eq_true rfl) (Nat.le_of_ble_eq_true rfl) dX6_init_20 (fun q_2 H hP hD hS => ?_)
  replace hP : va_P (gD G) vwCl [(q_this, .inr (6, [.ref q_1, .int (0 : Int32), .null, .null, .null, .int 0, .int 0, .int 0])), (q_1, .inl (gI G, 100, .inl (fun _ => (0 : Int32)))), (q_2, .inl (gI G, 8, .inl (fun _ => (0 : Int32))))] H := hP
  replace hD : va_D A [(q_this, .inr (6, [.ref q_1, .int (0 : Int32), .null, .null, .null, .int 0, .int 0, .int 0])), (q_1, .inl (gI G, 100, .inl (fun _ => (0 : Int32)))), (q_2, .inl (gI G, 8, .inl (fun _ => (0 : Int32))))] := hD
  refine w_putF (C := RX6) (T := TX6) (N := 8) (ci := 6) (W1 := [(q_this, .inr (6, [.ref q_1, .int (0 : Int32), .ref q_2, .null, .null, .int 0, .int 0, .int 0])), (q_1, .inl (gI G, 100, .inl (fun _ => (0 : Int32)))), (q_2, .inl (gI G, 8, .inl (fun _ => (0 : Int32))))]) hx hb hts uX6 tyX6 tyX6_ok nmX6 hown hin2 hK hP hD hS 0 rfl rfl 2 (by decide) bw258 rfl rfl rfl rfl (Nat.le_of_ble_eq_true rfl) dX6_init_22 rfl (fun H locs hP hD hS => ?_)
  refine lv_aload_n hx hb dX6_init_25 rfl (lv_at hl 0 rfl) ?_
  refine lv_bipush (v := 8) hx hb dX6_init_26 (by decide) ?_
  refine w_newa (atype := .int) (ty := .int) (cA0 := gI G) (N' := 8) (a0 := (8, .inl (fun _ => (0 : Int32)))) hx hb hts bw176 rfl hK hP hD hS hA 0 rfl (fun _ h => by cases h) (fun _ => rfl) (by decide) (by decide) (Nat.le_of_ble_eq_true rfl) (Nat.le_of_ble_eq_true rfl) (Nat.le_of_ble_eq_true rfl) dX6_init_28 (fun q_3 H hP hD hS => ?_)
  replace hP : va_P (gD G) vwCl [(q_this, .inr (6, [.ref q_1, .int (0 : Int32), .ref q_2, .null, .null, .int 0, .int 0, .int 0])), (q_1, .inl (gI G, 100, .inl (fun _ => (0 : Int32)))), (q_2, .inl (gI G, 8, .inl (fun _ => (0 : Int32)))), (q_3, .inl (gI G, 8, .inl (fun _ => (0 : Int32))))] H := hP
  replace hD : va_D A [(q_this, .inr (6, [.ref q_1, .int (0 : Int32), .ref q_2, .null, .null, .int 0, .int 0, .int 0])), (q_1, .inl (gI G, 100, .inl (fun _ => (0 : Int32)))), (q_2, .inl (gI G, 8, .inl (fun _ => (0 : Int32)))), (q_3, .inl (gI G, 8, .inl (fun _ => (0 : Int32))))] := hD
  refine w_putF (C := RX6) (T := TX6) (N := 8) (ci := 6) (W1 := [(q_this, .inr (6, [.ref q_1, .int (0 : Int32), .ref q_2, .ref q_3, .null, .int 0, .int 0, .int 0])), (q_1, .inl (gI G, 100, .inl (fun _ => (0 : Int32)))), (q_2, .inl (gI G, 8, .inl (fun _ => (0 : Int32)))), (q_3, .inl (gI G, 8, .inl (fun _ => (0 : Int32))))]) hx hb hts uX6 tyX6 tyX6_ok nmX6 hown hin2 hK hP hD hS 0 rfl rfl 3 (by decide) bw260 rfl rfl rfl rfl (Nat.le_of_ble_eq_true rfl) dX6_init_30 rfl (fun H locs hP hD hS => ?_)
  refine lv_aload_n hx hb dX6_init_33 rfl (lv_at hl 0 rfl) ?_
  refine lv_bipush (v := 8) hx hb dX6_init_34 (by decide) ?_
  refine w_newa (atype := .int) (ty := .int) (cA0 := gI G) (N' := 8) (a0 := (8, .inl (fun _ => (0 : Int32)))) hx hb hts bw176 rfl hK hP hD hS hA 0 rfl (fun _ h => by cases h) (fun _ => rfl) (by decide) (by decide) (Nat.le_of_ble_eq_true rfl) (Nat.le_of_ble_eq_true rfl) (Nat.le_of_ble_eq_true rfl) dX6_init_36 (fun q_4 H hP hD hS => ?_)
  replace hP : va_P (gD G) vwCl [(q_this, .inr (6, [.ref q_1, .int (0 : Int32), .ref q_2, .ref q_3, .null, .int 0, .int 0, .int 0])), (q_1, .inl (gI G, 100, .inl (fun _ => (0 : Int32)))), (q_2, .inl (gI G, 8, .inl (fun _ => (0 : Int32)))), (q_3, .inl (gI G, 8, .inl (fun _ => (0 : Int32)))), (q_4, .inl (gI G, 8, .inl (fun _ => (0 : Int32))))] H := hP
  replace hD : va_D A [(q_this, .inr (6, [.ref q_1, .int (0 : Int32), .ref q_2, .ref q_3, .null, .int 0, .int 0, .int 0])), (q_1, .inl (gI G, 100, .inl (fun _ => (0 : Int32)))), (q_2, .inl (gI G, 8, .inl (fun _ => (0 : Int32)))), (q_3, .inl (gI G, 8, .inl (fun _ => (0 : Int32)))), (q_4, .inl (gI G, 8, .inl (fun _ => (0 : Int32))))] := hD
  refine w_putF (C := RX6) (T := TX6) (N := 8) (ci := 6) (W1 := [(q_this, .inr (6, [.ref q_1, .int (0 : Int32), .ref q_2, .ref q_3, .ref q_4, .int 0, .int 0, .int 0])), (q_1, .inl (gI G, 100, .inl (fun _ => (0 : Int32)))), (q_2, .inl (gI G, 8, .inl (fun _ => (0 : Int32)))), (q_3, .inl (gI G, 8, .inl (fun _ => (0 : Int32)))), (q_4, .inl (gI G, 8, .inl (fun _ => (0 : Int32))))]) hx hb hts uX6 tyX6 tyX6_ok nmX6 hown hin2 hK hP hD hS 0 rfl rfl 4 (by decide) bw262 rfl rfl rfl rfl (Nat.le_of_ble_eq_true rfl) dX6_init_38 rfl (fun H locs hP hD hS => ?_)
  refine lv_aload_n hx hb dX6_init_41 rfl (lv_at hl 0 rfl) ?_
  refine lv_iconst (v := 0) hx hb dX6_init_42 (by decide) ?_
  refine w_put (C := RX6) (T := TX6) (N := 8) (ci := 6) (W1 := [(q_this, .inr (6, [.ref q_1, .int (0 : Int32), .ref q_2, .ref q_3, .ref q_4, .int (0 : Int32), .int 0, .int 0])), (q_1, .inl (gI G, 100, .inl (fun _ => (0 : Int32)))), (q_2, .inl (gI G, 8, .inl (fun _ => (0 : Int32)))), (q_3, .inl (gI G, 8, .inl (fun _ => (0 : Int32)))), (q_4, .inl (gI G, 8, .inl (fun _ => (0 : Int32))))]) hx hb hts uX6 tyX6 tyX6_ok nmX6 hown hK hP hD hS 0 rfl rfl 5 (by decide) bw264 rfl rfl rfl (Nat.le_of_ble_eq_true rfl) dX6_init_43 rfl (fun H locs hP hD hS => ?_)
  refine lv_aload_n hx hb dX6_init_46 rfl (lv_at hl 0 rfl) ?_
  refine lv_iconst (v := 0) hx hb dX6_init_47 (by decide) ?_
  refine w_put (C := RX6) (T := TX6) (N := 8) (ci := 6) (W1 := [(q_this, .inr (6, [.ref q_1, .int (0 : Int32), .ref q_2, .ref q_3, .ref q_4, .int (0 : Int32), .int (0 : Int32), .int 0])), (q_1, .inl (gI G, 100, .inl (fun _ => (0 : Int32)))), (q_2, .inl (gI G, 8, .inl (fun _ => (0 : Int32)))), (q_3, .inl (gI G, 8, .inl (fun _ => (0 : Int32)))), (q_4, .inl (gI G, 8, .inl (fun _ => (0 : Int32))))]) hx hb hts uX6 tyX6 tyX6_ok nmX6 hown hK hP hD hS 0 rfl rfl 6 (by decide) bw266 rfl rfl rfl (Nat.le_of_ble_eq_true rfl) dX6_init_48 rfl (fun H locs hP hD hS => ?_)
  refine lv_aload_n hx hb dX6_init_51 rfl (lv_at hl 0 rfl) ?_
  refine lv_iconst (v := 0) hx hb dX6_init_52 (by decide) ?_
  refine w_put (C := RX6) (T := TX6) (N := 8) (ci := 6) (W1 := [(q_this, .inr (6, [.ref q_1, .int (0 : Int32), .ref q_2, .ref q_3, .ref q_4, .int (0 : Int32), .int (0 : Int32), .int (0 : Int32)])), (q_1, .inl (gI G, 100, .inl (fun _ => (0 : Int32)))), (q_2, .inl (gI G, 8, .inl (fun _ => (0 : Int32)))), (q_3, .inl (gI G, 8, .inl (fun _ => (0 : Int32)))), (q_4, .inl (gI G, 8, .inl (fun _ => (0 : Int32))))]) hx hb hts uX6 tyX6 tyX6_ok nmX6 hown hK hP hD hS 0 rfl rfl 7 (by decide) bw267 rfl rfl rfl (Nat.le_of_ble_eq_true rfl) dX6_init_53 rfl (fun H locs hP hD hS => ?_)
  refine W.widen (k := 4) (n := 124) (Nat.le_of_ble_eq_true rfl) (Nat.le_of_ble_eq_true rfl) ?_
  have hr9 := Option.some.inj hm
  subst hr9
  exact fin _ _ ls _ (q_1, q_2, q_3, q_4) dX6_init_56 hP hD hS
