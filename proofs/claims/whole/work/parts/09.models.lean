/-- more turns than any loop takes -/
def FU : Nat := 5000
def m_X0_isTape (a_1 : Int32) : Option Int32 :=
  if a_1 < 0 then (some (0 : Int32))
  else (if (6 : Int32) ≤ a_1 then (some (0 : Int32))
  else (some (1 : Int32)))
def m_X0_isEmpty (f_sort : (Nat → Int32)) (a_1 : Int32) : Option Int32 :=
  ag f_sort 6 a_1 fun v_1 =>
  if v_1 = (-1 : Int32) then (some (1 : Int32))
  else (some (0 : Int32))
def m_X0_hasPlace (f_length : (Nat → Int32)) (a_1 : Int32) (a_2 : Int32) (a_3 : Int32) : Option Int32 :=
  if a_2 < 0 then (some (0 : Int32))
  else (if a_3 < 0 then (some (0 : Int32))
  else (ag f_length 6 a_1 fun v_1 =>
  if v_1 < a_3 then (some (0 : Int32))
  else (ag f_length 6 a_1 fun v_2 =>
  if (v_2 - a_3) < a_2 then (some (0 : Int32))
  else (some (1 : Int32)))))
def m_X0_clear (f_sort : (Nat → Int32)) (f_length : (Nat → Int32)) (a_1 : Int32) : Option ((Nat → Int32) × (Nat → Int32)) :=
  au f_sort 6 a_1 (-1 : Int32) fun g_1 =>
  au f_length 6 a_1 (0 : Int32) fun g_2 =>
  some (g_1, g_2)
def m_X0_make_L17 (a_1 : Int32) (a_3 : Int32) : Nat → Int32 → (Nat → Int64) → (Int32 → (Nat → Int64) → Option ((Nat → Int32) × (Nat → Int32) × (Nat → Int64))) → Option ((Nat → Int32) × (Nat → Int32) × (Nat → Int64))
  | 0, _, _, _ => none
  | n_17 + 1, x4_17, y_f_items_17, k_17 =>
    if a_3 ≤ x4_17 then (k_17 x4_17 y_f_items_17)
    else (al y_f_items_17 360 ((a_1 * (60 : Int32)) + x4_17) (0 : Int64) fun g_3 =>
    m_X0_make_L17 a_1 a_3 n_17 (x4_17 + (1 : Int32)) g_3 k_17)
def m_X0_make (f_sort : (Nat → Int32)) (f_length : (Nat → Int32)) (f_items : (Nat → Int64)) (a_1 : Int32) (a_2 : Int32) (a_3 : Int32) : Option ((Nat → Int32) × (Nat → Int32) × (Nat → Int64)) :=
  au f_sort 6 a_1 a_2 fun g_1 =>
  au f_length 6 a_1 a_3 fun g_2 =>
  m_X0_make_L17 a_1 a_3 FU (0 : Int32) f_items fun x4_17 y_f_items_17 =>
  some (g_1, g_2, y_f_items_17)
def m_X0_at (f_items : (Nat → Int64)) (a_1 : Int32) (a_2 : Int32) : Option Int64 :=
  ag f_items 360 ((a_1 * (60 : Int32)) + a_2) fun v_1 =>
  some v_1
def m_X0_cutDown (a_1 : Int32) (a_2 : Int64) : Option Int64 :=
  if a_1 = 0 then (some (((a_2).toInt32).toInt8.toInt32).toInt64)
  else (if a_1 = 1 then (some (((a_2).toInt32).toInt16.toInt32).toInt64)
  else (if a_1 = 2 then (some ((a_2).toInt32).toInt64)
  else (if a_1 = 3 then (some a_2)
  else (if (lg_cmp a_2 (0 : Int64)) = 0 then (some (0 : Int64))
  else (some (1 : Int64))))))
def m_X0_put (f_sort : (Nat → Int32)) (f_items : (Nat → Int64)) (a_1 : Int32) (a_2 : Int32) (a_3 : Int64) : Option (Nat → Int64) :=
  ag f_sort 6 a_1 fun v_1 =>
  cl (m_X0_cutDown v_1 a_3) fun r_2 =>
  al f_items 360 ((a_1 * (60 : Int32)) + a_2) r_2 fun g_4 =>
  some g_4
def m_X0_move (f_items : (Nat → Int64)) (a_1 : Int32) (a_2 : Int32) (a_3 : Int32) (a_4 : Int32) (a_5 : Int32) : Option (Nat → Int64) :=
  cpi f_items f_items 360 360 ((a_1 * (60 : Int32)) + a_2) ((a_3 * (60 : Int32)) + a_4) a_5 fun g_1 =>
  some g_1
def m_X1_write (f_bytes : (Nat → Int32)) (f_length : Int32) (a_1 : Int32) : Option ((Nat → Int32) × Int32) :=
  if (160 : Int32) ≤ f_length then (some (f_bytes, f_length))
  else (au f_bytes 160 f_length a_1 fun g_1 =>
  some (g_1, (f_length + (1 : Int32))))
def m_X1_writeUnit (f_bytes : (Nat → Int32)) (f_length : Int32) (a_1 : Int32) : Option ((Nat → Int32) × Int32) :=
  cl (m_X1_write f_bytes f_length ((97 : Int32) + a_1)) fun r_1 =>
  some (r_1.1, r_1.2)
def m_X1_writeBetween (f_bytes : (Nat → Int32)) (f_length : Int32) (a_1 : Int32) : Option ((Nat → Int32) × Int32) :=
  if f_length ≤ 0 then (some (f_bytes, f_length))
  else (cl (m_X1_write f_bytes f_length a_1) fun r_1 =>
  some (r_1.1, r_1.2))
def m_X5_selfReachers_L4 (f_units : Int32) (f_reach : (Nat → Int32)) : Nat → Int32 → Int32 → (Int32 → Int32 → Option Int32) → Option Int32
  | 0, _, _, _ => none
  | n_4 + 1, x1_4, x2_4, k_4 =>
    if f_units ≤ x2_4 then (k_4 x1_4 x2_4)
    else (ag f_reach 12 x2_4 fun v_1 =>
    lt ((x1_4 ||| (v_1 &&& ((1 : Int32) <<< (x2_4 &&& 31))))) fun v_2 =>
    m_X5_selfReachers_L4 f_units f_reach n_4 v_2 (x2_4 + (1 : Int32)) k_4)
def m_X5_selfReachers (f_units : Int32) (f_reach : (Nat → Int32)) : Option Int32 :=
  m_X5_selfReachers_L4 f_units f_reach FU (0 : Int32) (0 : Int32) fun x1_4 x2_4 =>
  some x1_4
def m_X5_hasCycle (f_units : Int32) (f_reach : (Nat → Int32)) : Option Int32 :=
  cl (m_X5_selfReachers f_units f_reach) fun r_1 =>
  if r_1 = 0 then (some (0 : Int32))
  else (some (1 : Int32))
def m_X7_hasBit (a_1 : Int32) (a_2 : Int32) : Option Int32 :=
  if ((a_1 >>> (a_2 &&& 31)) &&& (1 : Int32)) = (1 : Int32) then (some (1 : Int32))
  else (some (0 : Int32))
def m_X5_reducedUnder_L18 (f_units : Int32) (f_under : (Nat → Int32)) (f_reach : (Nat → Int32)) (a_1 : Int32) : Nat → Int32 → Int32 → (Int32 → Int32 → Option Int32) → Option Int32
  | 0, _, _, _ => none
  | n_18 + 1, x2_18, x3_18, k_18 =>
    if f_units ≤ x3_18 then (k_18 x2_18 x3_18)
    else (ag f_under 12 a_1 fun v_3 =>
    cl (m_X7_hasBit v_3 x3_18) fun r_4 =>
    if r_4 = 0 then (m_X5_reducedUnder_L18 f_units f_under f_reach a_1 n_18 x2_18 (x3_18 + (1 : Int32)) k_18)
    else (ag f_reach 12 x3_18 fun v_6 =>
    m_X5_reducedUnder_L18 f_units f_under f_reach a_1 n_18 (x2_18 ||| v_6) (x3_18 + (1 : Int32)) k_18))
def m_X5_reducedUnder (f_units : Int32) (f_under : (Nat → Int32)) (f_reach : (Nat → Int32)) (a_1 : Int32) : Option Int32 :=
  cl (m_X5_hasCycle f_units f_reach) fun r_1 =>
  if r_1 = 0 then (m_X5_reducedUnder_L18 f_units f_under f_reach a_1 FU (0 : Int32) (0 : Int32) fun x2_18 x3_18 =>
  ag f_under 12 a_1 fun v_7 =>
  some (v_7 &&& (x2_18 ^^^ (-1 : Int32))))
  else (ag f_under 12 a_1 fun v_8 =>
  some v_8)
def m_X1_drawTies_L24 (p1_units : Int32) (x2_7 : Int32) (r_1 : (Int32)) : Nat → Int32 → (Nat → Int32) → Int32 → (Int32 → (Nat → Int32) → Int32 → Option ((Nat → Int32) × Int32)) → Option ((Nat → Int32) × Int32)
  | 0, _, _, _, _ => none
  | n_24 + 1, x4_24, y_f_bytes_24, y_f_length_24, k_24 =>
    if p1_units ≤ x4_24 then (k_24 x4_24 y_f_bytes_24 y_f_length_24)
    else (cl (m_X7_hasBit r_1 x4_24) fun r_3 =>
    if r_3 = 0 then (m_X1_drawTies_L24 p1_units x2_7 r_1 n_24 (x4_24 + (1 : Int32)) y_f_bytes_24 y_f_length_24 k_24)
    else (cl (m_X1_writeBetween y_f_bytes_24 y_f_length_24 (59 : Int32)) fun r_5 =>
    cl (m_X1_writeUnit r_5.1 r_5.2 x2_7) fun r_7 =>
    cl (m_X1_write r_7.1 r_7.2 (62 : Int32)) fun r_9 =>
    cl (m_X1_writeUnit r_9.1 r_9.2 x4_24) fun r_11 =>
    m_X1_drawTies_L24 p1_units x2_7 r_1 n_24 (x4_24 + (1 : Int32)) r_11.1 r_11.2 k_24))
def m_X1_drawTies_L7 (p1_units : Int32) (p1_under : (Nat → Int32)) (p1_reach : (Nat → Int32)) : Nat → Int32 → (Nat → Int32) → Int32 → (Int32 → (Nat → Int32) → Int32 → Option ((Nat → Int32) × Int32)) → Option ((Nat → Int32) × Int32)
  | 0, _, _, _, _ => none
  | n_7 + 1, x2_7, y_f_bytes_7, y_f_length_7, k_7 =>
    if p1_units ≤ x2_7 then (k_7 x2_7 y_f_bytes_7 y_f_length_7)
    else (cl (m_X5_reducedUnder p1_units p1_under p1_reach x2_7) fun r_1 =>
    m_X1_drawTies_L24 p1_units x2_7 r_1 FU (0 : Int32) y_f_bytes_7 y_f_length_7 fun x4_24 y_f_bytes_24 y_f_length_24 =>
    m_X1_drawTies_L7 p1_units p1_under p1_reach n_7 (x2_7 + (1 : Int32)) y_f_bytes_24 y_f_length_24 k_7)
def m_X1_drawTies (f_bytes : (Nat → Int32)) (f_length : Int32) (p1_units : Int32) (p1_under : (Nat → Int32)) (p1_reach : (Nat → Int32)) : Option ((Nat → Int32) × Int32) :=
  m_X1_drawTies_L7 p1_units p1_under p1_reach FU (0 : Int32) f_bytes (0 : Int32) fun x2_7 y_f_bytes_7 y_f_length_7 =>
  some (y_f_bytes_7, y_f_length_7)
def m_X5_rankLevels_L31 (f_units : Int32) (f_under : (Nat → Int32)) (x1_13 : Int32) (x2_13 : Int32) : Nat → Int32 → Int32 → (Nat → Int32) → (Int32 → Int32 → (Nat → Int32) → Option ((Nat → Int32) × Int32)) → Option ((Nat → Int32) × Int32)
  | 0, _, _, _, _ => none
  | n_31 + 1, x4_31, x5_31, y_f_levelRow_31, k_31 =>
    if f_units ≤ x5_31 then (k_31 x4_31 x5_31 y_f_levelRow_31)
    else (cl (m_X7_hasBit x1_13 x5_31) fun r_2 =>
    if r_2 = 0 then (m_X5_rankLevels_L31 f_units f_under x1_13 x2_13 n_31 x4_31 (x5_31 + (1 : Int32)) y_f_levelRow_31 k_31)
    else (ag f_under 12 x5_31 fun v_4 =>
    if (v_4 &&& x1_13) = 0 then (lt ((x4_31 ||| ((1 : Int32) <<< (x5_31 &&& 31)))) fun v_5 =>
    au y_f_levelRow_31 12 x5_31 x2_13 fun g_6 =>
    m_X5_rankLevels_L31 f_units f_under x1_13 x2_13 n_31 v_5 (x5_31 + (1 : Int32)) g_6 k_31)
    else (m_X5_rankLevels_L31 f_units f_under x1_13 x2_13 n_31 x4_31 (x5_31 + (1 : Int32)) y_f_levelRow_31 k_31)))
def m_X5_rankLevels_L13 (f_units : Int32) (f_under : (Nat → Int32)) : Nat → Int32 → Int32 → Int32 → (Nat → Int32) → (Int32 → Int32 → Int32 → (Nat → Int32) → Option ((Nat → Int32) × Int32)) → Option ((Nat → Int32) × Int32)
  | 0, _, _, _, _, _ => none
  | n_13 + 1, x1_13, x2_13, x3_13, y_f_levelRow_13, k_13 =>
    if f_units ≤ x3_13 then (k_13 x1_13 x2_13 x3_13 y_f_levelRow_13)
    else (if x1_13 = 0 then (k_13 x1_13 x2_13 x3_13 y_f_levelRow_13)
    else (m_X5_rankLevels_L31 f_units f_under x1_13 x2_13 FU (0 : Int32) (0 : Int32) y_f_levelRow_13 fun x4_31 x5_31 y_f_levelRow_31 =>
    lt ((x1_13 &&& (x4_31 ^^^ (-1 : Int32)))) fun v_7 =>
    m_X5_rankLevels_L13 f_units f_under n_13 v_7 (x2_13 + (1 : Int32)) (x3_13 + (1 : Int32)) y_f_levelRow_31 k_13))
def m_X5_rankLevels (f_units : Int32) (f_under : (Nat → Int32)) (f_levelRow : (Nat → Int32)) : Option ((Nat → Int32) × Int32) :=
  lt ((((1 : Int32) <<< (f_units &&& 31)) - (1 : Int32))) fun v_1 =>
  m_X5_rankLevels_L13 f_units f_under FU v_1 (0 : Int32) (0 : Int32) f_levelRow fun x1_13 x2_13 x3_13 y_f_levelRow_13 =>
  some (y_f_levelRow_13, x2_13)
def m_X1_drawLevels_L24 (p1_units : Int32) (r_1 : ((Nat → Int32) × Int32)) (x2_12 : Int32) : Nat → Int32 → (Nat → Int32) → Int32 → (Int32 → (Nat → Int32) → Int32 → Option ((Nat → Int32) × Int32 × (Nat → Int32))) → Option ((Nat → Int32) × Int32 × (Nat → Int32))
  | 0, _, _, _, _ => none
  | n_24 + 1, x3_24, y_f_bytes_24, y_f_length_24, k_24 =>
    if p1_units ≤ x3_24 then (k_24 x3_24 y_f_bytes_24 y_f_length_24)
    else (ag r_1.1 12 x3_24 fun v_5 =>
    if v_5 = x2_12 then (cl (m_X1_writeUnit y_f_bytes_24 y_f_length_24 x3_24) fun r_6 =>
    m_X1_drawLevels_L24 p1_units r_1 x2_12 n_24 (x3_24 + (1 : Int32)) r_6.1 r_6.2 k_24)
    else (m_X1_drawLevels_L24 p1_units r_1 x2_12 n_24 (x3_24 + (1 : Int32)) y_f_bytes_24 y_f_length_24 k_24))
def m_X1_drawLevels_L12 (p1_units : Int32) (r_1 : ((Nat → Int32) × Int32)) : Nat → Int32 → (Nat → Int32) → Int32 → (Int32 → (Nat → Int32) → Int32 → Option ((Nat → Int32) × Int32 × (Nat → Int32))) → Option ((Nat → Int32) × Int32 × (Nat → Int32))
  | 0, _, _, _, _ => none
  | n_12 + 1, x2_12, y_f_bytes_12, y_f_length_12, k_12 =>
    if x2_12 < 0 then (k_12 x2_12 y_f_bytes_12 y_f_length_12)
    else (cl (m_X1_writeBetween y_f_bytes_12 y_f_length_12 (124 : Int32)) fun r_3 =>
    m_X1_drawLevels_L24 p1_units r_1 x2_12 FU (0 : Int32) r_3.1 r_3.2 fun x3_24 y_f_bytes_24 y_f_length_24 =>
    m_X1_drawLevels_L12 p1_units r_1 n_12 (x2_12 + (-1 : Int32)) y_f_bytes_24 y_f_length_24 k_12)
def m_X1_drawLevels (f_bytes : (Nat → Int32)) (f_length : Int32) (p1_units : Int32) (p1_under : (Nat → Int32)) (p1_levelRow : (Nat → Int32)) : Option ((Nat → Int32) × Int32 × (Nat → Int32)) :=
  cl (m_X5_rankLevels p1_units p1_under p1_levelRow) fun r_1 =>
  m_X1_drawLevels_L12 p1_units r_1 FU (r_1.2 - (1 : Int32)) f_bytes (0 : Int32) fun x2_12 y_f_bytes_12 y_f_length_12 =>
  some (y_f_bytes_12, y_f_length_12, r_1.1)
def m_X5_leastOf_L2 (a_1 : Int32) : Nat → Int32 → (Int32 → Option Int32) → Option Int32
  | 0, _, _ => none
  | n_2 + 1, x1_2, k_2 =>
    if (12 : Int32) ≤ x1_2 then (k_2 x1_2)
    else (cl (m_X7_hasBit a_1 x1_2) fun r_1 =>
    if r_1 = 0 then (m_X5_leastOf_L2 a_1 n_2 (x1_2 + (1 : Int32)) k_2)
    else (some x1_2))
def m_X5_leastOf (a_1 : Int32) : Option Int32 :=
  m_X5_leastOf_L2 a_1 FU (0 : Int32) fun x1_2 =>
  some (0 : Int32)
def m_X5_rightAbove_L4 (f_units : Int32) (f_under : (Nat → Int32)) (a_1 : Int32) : Nat → Int32 → Int32 → (Int32 → Int32 → Option Int32) → Option Int32
  | 0, _, _, _ => none
  | n_4 + 1, x2_4, x3_4, k_4 =>
    if f_units ≤ x3_4 then (k_4 x2_4 x3_4)
    else (ag f_under 12 x3_4 fun v_1 =>
    if (v_1 &&& a_1) = 0 then (m_X5_rightAbove_L4 f_units f_under a_1 n_4 x2_4 (x3_4 + (1 : Int32)) k_4)
    else (lt ((x2_4 ||| ((1 : Int32) <<< (x3_4 &&& 31)))) fun v_2 =>
    m_X5_rightAbove_L4 f_units f_under a_1 n_4 v_2 (x3_4 + (1 : Int32)) k_4))
def m_X5_rightAbove (f_units : Int32) (f_under : (Nat → Int32)) (a_1 : Int32) : Option Int32 :=
  m_X5_rightAbove_L4 f_units f_under a_1 FU (0 : Int32) (0 : Int32) fun x2_4 x3_4 =>
  some x2_4
def m_X5_stepsRound_L13 (f_units : Int32) (f_under : (Nat → Int32)) (a_1 : Int32) : Nat → Int32 → Int32 → (Nat → Int32) → (Int32 → Int32 → (Nat → Int32) → Option ((Nat → Int32) × Int32)) → Option ((Nat → Int32) × Int32)
  | 0, _, _, _, _ => none
  | n_13 + 1, x2_13, x3_13, y_f_stepsBack_13, k_13 =>
    if f_units < x3_13 then (k_13 x2_13 x3_13 y_f_stepsBack_13)
    else (ag f_under 12 a_1 fun v_3 =>
    ag y_f_stepsBack_13 13 (x3_13 - (1 : Int32)) fun v_4 =>
    if (v_3 &&& v_4) = 0 then (ag y_f_stepsBack_13 13 (x3_13 - (1 : Int32)) fun v_5 =>
    cl (m_X5_rightAbove f_units f_under v_5) fun r_6 =>
    au y_f_stepsBack_13 13 x3_13 (r_6 &&& (x2_13 ^^^ (-1 : Int32))) fun g_8 =>
    ag g_8 13 x3_13 fun v_9 =>
    m_X5_stepsRound_L13 f_units f_under a_1 n_13 (x2_13 ||| v_9) (x3_13 + (1 : Int32)) g_8 k_13)
    else (some (y_f_stepsBack_13, x3_13)))
def m_X5_stepsRound (f_units : Int32) (f_under : (Nat → Int32)) (f_stepsBack : (Nat → Int32)) (a_1 : Int32) : Option ((Nat → Int32) × Int32) :=
  lt (((1 : Int32) <<< (a_1 &&& 31))) fun v_1 =>
  au f_stepsBack 13 (0 : Int32) v_1 fun g_2 =>
  m_X5_stepsRound_L13 f_units f_under a_1 FU v_1 (1 : Int32) g_2 fun x2_13 x3_13 y_f_stepsBack_13 =>
  some (y_f_stepsBack_13, (0 : Int32))
def m_X5_showCycle_L32 (f_under : (Nat → Int32)) (r_7 : ((Nat → Int32) × Int32)) : Nat → Int32 → Int32 → (Nat → Int32) → (Int32 → Int32 → (Nat → Int32) → Option ((Nat → Int32) × (Nat → Int32) × Int32)) → Option ((Nat → Int32) × (Nat → Int32) × Int32)
  | 0, _, _, _, _ => none
  | n_32 + 1, x1_32, x3_32, y_f_shown_32, k_32 =>
    if r_7.2 ≤ x3_32 then (k_32 x1_32 x3_32 y_f_shown_32)
    else (ag f_under 12 x1_32 fun v_10 =>
    ag r_7.1 13 (r_7.2 - x3_32) fun v_11 =>
    cl (m_X5_leastOf (v_10 &&& v_11)) fun r_12 =>
    au y_f_shown_32 12 x3_32 r_12 fun g_14 =>
    m_X5_showCycle_L32 f_under r_7 n_32 r_12 (x3_32 + (1 : Int32)) g_14 k_32)
def m_X5_showCycle (f_units : Int32) (f_under : (Nat → Int32)) (f_reach : (Nat → Int32)) (f_shown : (Nat → Int32)) (f_stepsBack : (Nat → Int32)) : Option ((Nat → Int32) × (Nat → Int32) × Int32) :=
  cl (m_X5_hasCycle f_units f_reach) fun r_1 =>
  if r_1 = 0 then (some (f_shown, f_stepsBack, (0 : Int32)))
  else (cl (m_X5_selfReachers f_units f_reach) fun r_3 =>
  cl (m_X5_leastOf r_3) fun r_5 =>
  cl (m_X5_stepsRound f_units f_under f_stepsBack r_5) fun r_7 =>
  au f_shown 12 (0 : Int32) r_5 fun g_9 =>
  m_X5_showCycle_L32 f_under r_7 FU r_5 (1 : Int32) g_9 fun x1_32 x3_32 y_f_shown_32 =>
  some (y_f_shown_32, r_7.1, r_7.2))
def m_X1_drawCycle_L12 (r_1 : ((Nat → Int32) × (Nat → Int32) × Int32)) : Nat → Int32 → (Nat → Int32) → Int32 → (Int32 → (Nat → Int32) → Int32 → Option ((Nat → Int32) × Int32 × (Nat → Int32) × (Nat → Int32))) → Option ((Nat → Int32) × Int32 × (Nat → Int32) × (Nat → Int32))
  | 0, _, _, _, _ => none
  | n_12 + 1, x3_12, y_f_bytes_12, y_f_length_12, k_12 =>
    if r_1.2.2 ≤ x3_12 then (k_12 x3_12 y_f_bytes_12 y_f_length_12)
    else (ag r_1.1 12 x3_12 fun v_3 =>
    cl (m_X1_writeUnit y_f_bytes_12 y_f_length_12 v_3) fun r_4 =>
    cl (m_X1_write r_4.1 r_4.2 (62 : Int32)) fun r_6 =>
    m_X1_drawCycle_L12 r_1 n_12 (x3_12 + (1 : Int32)) r_6.1 r_6.2 k_12)
def m_X1_drawCycle (f_bytes : (Nat → Int32)) (f_length : Int32) (p1_units : Int32) (p1_under : (Nat → Int32)) (p1_reach : (Nat → Int32)) (p1_shown : (Nat → Int32)) (p1_stepsBack : (Nat → Int32)) : Option ((Nat → Int32) × Int32 × (Nat → Int32) × (Nat → Int32)) :=
  cl (m_X5_showCycle p1_units p1_under p1_reach p1_shown p1_stepsBack) fun r_1 =>
  m_X1_drawCycle_L12 r_1 FU (0 : Int32) f_bytes (0 : Int32) fun x3_12 y_f_bytes_12 y_f_length_12 =>
  ag r_1.1 12 (0 : Int32) fun v_8 =>
  cl (m_X1_writeUnit y_f_bytes_12 y_f_length_12 v_8) fun r_9 =>
  some (r_9.1, r_9.2, r_1.1, r_1.2.1)
def m_X2_isUnit (f_units : Int32) (a_1 : Int32) : Option Int32 :=
  if a_1 < 0 then (some (0 : Int32))
  else (if f_units ≤ a_1 then (some (0 : Int32))
  else (some (1 : Int32)))
def m_X2_allUnits (f_units : Int32) : Option Int32 :=
  some (((1 : Int32) <<< (f_units &&& 31)) - (1 : Int32))
def m_X2_trait (f_traits : (Nat → Int32)) (a_1 : Int32) (a_2 : Int32) : Option Int32 :=
  ag f_traits 60 ((a_1 * (12 : Int32)) + a_2) fun v_1 =>
  some v_1
def m_X2_putTrait (f_traits : (Nat → Int32)) (a_1 : Int32) (a_2 : Int32) (a_3 : Int32) : Option (Nat → Int32) :=
  au f_traits 60 ((a_1 * (12 : Int32)) + a_2) a_3 fun g_1 =>
  some g_1
def m_X2_addUnit (f_units : Int32) (f_traits : (Nat → Int32)) (a_1 : Int32) : Option (Int32 × (Nat → Int32) × Int32) :=
  cl (m_X2_putTrait f_traits (0 : Int32) f_units a_1) fun r_1 =>
  cl (m_X2_putTrait r_1 (1 : Int32) f_units (1 : Int32)) fun r_3 =>
  ag tabL 5 (2 : Int32) fun v_5 =>
  cl (m_X2_putTrait r_3 (2 : Int32) f_units v_5) fun r_6 =>
  ag tabG 5 (3 : Int32) fun v_8 =>
  cl (m_X2_putTrait r_6 (3 : Int32) f_units v_8) fun r_9 =>
  cl (m_X2_putTrait r_9 (4 : Int32) f_units (-1 : Int32)) fun r_11 =>
  some ((f_units + (1 : Int32)), r_11, f_units)
def m_X2_unitsOfPhase_L4 (f_units : Int32) (f_traits : (Nat → Int32)) (a_1 : Int32) : Nat → Int32 → Int32 → (Int32 → Int32 → Option Int32) → Option Int32
  | 0, _, _, _ => none
  | n_4 + 1, x2_4, x3_4, k_4 =>
    if f_units ≤ x3_4 then (k_4 x2_4 x3_4)
    else (cl (m_X2_trait f_traits (4 : Int32) x3_4) fun r_1 =>
    if r_1 = a_1 then (lt ((x2_4 ||| ((1 : Int32) <<< (x3_4 &&& 31)))) fun v_3 =>
    m_X2_unitsOfPhase_L4 f_units f_traits a_1 n_4 v_3 (x3_4 + (1 : Int32)) k_4)
    else (m_X2_unitsOfPhase_L4 f_units f_traits a_1 n_4 x2_4 (x3_4 + (1 : Int32)) k_4))
def m_X2_unitsOfPhase (f_units : Int32) (f_traits : (Nat → Int32)) (a_1 : Int32) : Option Int32 :=
  m_X2_unitsOfPhase_L4 f_units f_traits a_1 FU (0 : Int32) (0 : Int32) fun x2_4 x3_4 =>
  some x2_4
def m_X2_tieNumber_L2 (f_ties : Int32) (f_upper : (Nat → Int32)) (f_lower : (Nat → Int32)) (a_1 : Int32) (a_2 : Int32) : Nat → Int32 → (Int32 → Option Int32) → Option Int32
  | 0, _, _ => none
  | n_2 + 1, x3_2, k_2 =>
    if f_ties ≤ x3_2 then (k_2 x3_2)
    else (ag f_upper 40 x3_2 fun v_1 =>
    if v_1 = a_1 then (ag f_lower 40 x3_2 fun v_2 =>
    if v_2 = a_2 then (some x3_2)
    else (m_X2_tieNumber_L2 f_ties f_upper f_lower a_1 a_2 n_2 (x3_2 + (1 : Int32)) k_2))
    else (m_X2_tieNumber_L2 f_ties f_upper f_lower a_1 a_2 n_2 (x3_2 + (1 : Int32)) k_2))
def m_X2_tieNumber (f_ties : Int32) (f_upper : (Nat → Int32)) (f_lower : (Nat → Int32)) (a_1 : Int32) (a_2 : Int32) : Option Int32 :=
  m_X2_tieNumber_L2 f_ties f_upper f_lower a_1 a_2 FU (0 : Int32) fun x3_2 =>
  some (-1 : Int32)
def m_X2_tieTold (f_upper : (Nat → Int32)) (f_lower : (Nat → Int32)) (a_1 : Int32) : Option Int32 :=
  ag f_upper 40 a_1 fun v_1 =>
  ag f_lower 40 a_1 fun v_2 =>
  some (((100 : Int32) * v_1) + v_2)
def m_X2_addTie (f_ties : Int32) (f_upper : (Nat → Int32)) (f_lower : (Nat → Int32)) (a_1 : Int32) (a_2 : Int32) : Option (Int32 × (Nat → Int32) × (Nat → Int32)) :=
  au f_upper 40 f_ties a_1 fun g_1 =>
  au f_lower 40 f_ties a_2 fun g_2 =>
  some ((f_ties + (1 : Int32)), g_1, g_2)
def m_X2_dropTie_L12 (f_ties : Int32) : Nat → Int32 → (Nat → Int32) → (Nat → Int32) → (Int32 → (Nat → Int32) → (Nat → Int32) → Option (Int32 × (Nat → Int32) × (Nat → Int32))) → Option (Int32 × (Nat → Int32) × (Nat → Int32))
  | 0, _, _, _, _ => none
  | n_12 + 1, x2_12, y_f_upper_12, y_f_lower_12, k_12 =>
    if (f_ties - (1 : Int32)) ≤ x2_12 then (k_12 x2_12 y_f_upper_12 y_f_lower_12)
    else (ag y_f_upper_12 40 (x2_12 + (1 : Int32)) fun v_1 =>
    au y_f_upper_12 40 x2_12 v_1 fun g_2 =>
    ag y_f_lower_12 40 (x2_12 + (1 : Int32)) fun v_3 =>
    au y_f_lower_12 40 x2_12 v_3 fun g_4 =>
    m_X2_dropTie_L12 f_ties n_12 (x2_12 + (1 : Int32)) g_2 g_4 k_12)
def m_X2_dropTie (f_ties : Int32) (f_upper : (Nat → Int32)) (f_lower : (Nat → Int32)) (a_1 : Int32) : Option (Int32 × (Nat → Int32) × (Nat → Int32)) :=
  m_X2_dropTie_L12 f_ties FU a_1 f_upper f_lower fun x2_12 y_f_upper_12 y_f_lower_12 =>
  some ((f_ties - (1 : Int32)), y_f_upper_12, y_f_lower_12)
def m_X2_dropTiesFrom_L7 (a_1 : Int32) : Nat → Int32 → Int32 → (Nat → Int32) → (Nat → Int32) → (Int32 → Int32 → (Nat → Int32) → (Nat → Int32) → Option (Int32 × (Nat → Int32) × (Nat → Int32))) → Option (Int32 × (Nat → Int32) × (Nat → Int32))
  | 0, _, _, _, _, _ => none
  | n_7 + 1, x2_7, y_f_ties_7, y_f_upper_7, y_f_lower_7, k_7 =>
    if x2_7 < 0 then (k_7 x2_7 y_f_ties_7 y_f_upper_7 y_f_lower_7)
    else (ag y_f_upper_7 40 x2_7 fun v_1 =>
    if v_1 = a_1 then (cl (m_X2_dropTie y_f_ties_7 y_f_upper_7 y_f_lower_7 x2_7) fun r_2 =>
    m_X2_dropTiesFrom_L7 a_1 n_7 (x2_7 + (-1 : Int32)) r_2.1 r_2.2.1 r_2.2.2 k_7)
    else (m_X2_dropTiesFrom_L7 a_1 n_7 (x2_7 + (-1 : Int32)) y_f_ties_7 y_f_upper_7 y_f_lower_7 k_7))
def m_X2_dropTiesFrom (f_ties : Int32) (f_upper : (Nat → Int32)) (f_lower : (Nat → Int32)) (a_1 : Int32) : Option (Int32 × (Nat → Int32) × (Nat → Int32)) :=
  m_X2_dropTiesFrom_L7 a_1 FU (f_ties - (1 : Int32)) f_ties f_upper f_lower fun x2_7 y_f_ties_7 y_f_upper_7 y_f_lower_7 =>
  some (y_f_ties_7, y_f_upper_7, y_f_lower_7)
def m_X2_dugUnits_L4 (f_digs : Int32) (f_digRow : (Nat → Int32)) : Nat → Int32 → Int32 → (Int32 → Int32 → Option Int32) → Option Int32
  | 0, _, _, _ => none
  | n_4 + 1, x1_4, x2_4, k_4 =>
    if f_digs ≤ x2_4 then (k_4 x1_4 x2_4)
    else (ag f_digRow 12 x2_4 fun v_1 =>
    lt ((x1_4 ||| ((1 : Int32) <<< (v_1 &&& 31)))) fun v_2 =>
    m_X2_dugUnits_L4 f_digs f_digRow n_4 v_2 (x2_4 + (1 : Int32)) k_4)
def m_X2_dugUnits (f_digs : Int32) (f_digRow : (Nat → Int32)) : Option Int32 :=
  m_X2_dugUnits_L4 f_digs f_digRow FU (0 : Int32) (0 : Int32) fun x1_4 x2_4 =>
  some x1_4
def m_X2_isDug (f_digs : Int32) (f_digRow : (Nat → Int32)) (a_1 : Int32) : Option Int32 :=
  cl (m_X2_dugUnits f_digs f_digRow) fun r_1 =>
  cl (m_X7_hasBit r_1 a_1) fun r_3 =>
  zg r_3 (some r_3)
def m_X2_addDug (f_digs : Int32) (f_digRow : (Nat → Int32)) (a_1 : Int32) : Option (Int32 × (Nat → Int32)) :=
  if (12 : Int32) ≤ f_digs then (some (f_digs, f_digRow))
  else (cl (m_X2_isDug f_digs f_digRow a_1) fun r_1 =>
  if r_1 = 0 then (au f_digRow 12 f_digs a_1 fun g_3 =>
  some ((f_digs + (1 : Int32)), g_3))
  else (some (f_digs, f_digRow)))
def m_X2_addSeen (f_sights : Int32) (f_seenFirst : (Nat → Int32)) (f_seenSecond : (Nat → Int32)) (f_seenIs : (Nat → Int32)) (a_1 : Int32) (a_2 : Int32) (a_3 : Int32) : Option (Int32 × (Nat → Int32) × (Nat → Int32) × (Nat → Int32)) :=
  au f_seenFirst 5 f_sights a_1 fun g_1 =>
  au f_seenSecond 5 f_sights a_2 fun g_2 =>
  az f_seenIs 5 f_sights a_3 fun g_3 =>
  some ((f_sights + (1 : Int32)), g_1, g_2, g_3)
def m_X2_addEvent (f_events : Int32) (f_eventWhat : (Nat → Int32)) (f_eventUnit : (Nat → Int32)) (a_1 : Int32) (a_2 : Int32) : Option (Int32 × (Nat → Int32) × (Nat → Int32)) :=
  au f_eventWhat 8 f_events a_1 fun g_1 =>
  au f_eventUnit 8 f_events a_2 fun g_2 =>
  some ((f_events + (1 : Int32)), g_1, g_2)
def m_X2_happen_L2 (f_events : Int32) (f_eventWhat : (Nat → Int32)) (f_eventUnit : (Nat → Int32)) : Nat → Int32 → Int32 → Int32 → (Nat → Int32) → (Nat → Int32) → (Nat → Int32) → (Nat → Int32) → (Int32 → Int32 → Int32 → (Nat → Int32) → (Nat → Int32) → (Nat → Int32) → (Nat → Int32) → Option (Int32 × Int32 × (Nat → Int32) × (Nat → Int32) × (Nat → Int32) × (Nat → Int32))) → Option (Int32 × Int32 × (Nat → Int32) × (Nat → Int32) × (Nat → Int32) × (Nat → Int32))
  | 0, _, _, _, _, _, _, _, _ => none
  | n_2 + 1, x1_2, y_f_ties_2, y_f_digs_2, y_f_traits_2, y_f_upper_2, y_f_lower_2, y_f_digRow_2, k_2 =>
    if f_events ≤ x1_2 then (k_2 x1_2 y_f_ties_2 y_f_digs_2 y_f_traits_2 y_f_upper_2 y_f_lower_2 y_f_digRow_2)
    else (ag f_eventUnit 8 x1_2 fun v_1 =>
    ag f_eventWhat 8 x1_2 fun v_2 =>
    if v_2 = 0 then (cl (m_X2_addDug y_f_digs_2 y_f_digRow_2 v_1) fun r_3 =>
    m_X2_happen_L2 f_events f_eventWhat f_eventUnit n_2 (x1_2 + (1 : Int32)) y_f_ties_2 r_3.1 y_f_traits_2 y_f_upper_2 y_f_lower_2 r_3.2 k_2)
    else (if v_2 = 1 then (cl (m_X2_dropTiesFrom y_f_ties_2 y_f_upper_2 y_f_lower_2 v_1) fun r_5 =>
    m_X2_happen_L2 f_events f_eventWhat f_eventUnit n_2 (x1_2 + (1 : Int32)) r_5.1 y_f_digs_2 y_f_traits_2 r_5.2.1 r_5.2.2 y_f_digRow_2 k_2)
    else (if v_2 = 2 then (cl (m_X2_putTrait y_f_traits_2 (2 : Int32) v_1 (1000 : Int32)) fun r_7 =>
    m_X2_happen_L2 f_events f_eventWhat f_eventUnit n_2 (x1_2 + (1 : Int32)) y_f_ties_2 y_f_digs_2 r_7 y_f_upper_2 y_f_lower_2 y_f_digRow_2 k_2)
    else (cl (m_X2_putTrait y_f_traits_2 (3 : Int32) v_1 (1000 : Int32)) fun r_9 =>
    m_X2_happen_L2 f_events f_eventWhat f_eventUnit n_2 (x1_2 + (1 : Int32)) y_f_ties_2 y_f_digs_2 r_9 y_f_upper_2 y_f_lower_2 y_f_digRow_2 k_2))))
def m_X2_happen (f_ties : Int32) (f_digs : Int32) (f_events : Int32) (f_traits : (Nat → Int32)) (f_upper : (Nat → Int32)) (f_lower : (Nat → Int32)) (f_digRow : (Nat → Int32)) (f_eventWhat : (Nat → Int32)) (f_eventUnit : (Nat → Int32)) : Option (Int32 × Int32 × (Nat → Int32) × (Nat → Int32) × (Nat → Int32) × (Nat → Int32)) :=
  m_X2_happen_L2 f_events f_eventWhat f_eventUnit FU (0 : Int32) f_ties f_digs f_traits f_upper f_lower f_digRow fun x1_2 y_f_ties_2 y_f_digs_2 y_f_traits_2 y_f_upper_2 y_f_lower_2 y_f_digRow_2 =>
  some (y_f_ties_2, y_f_digs_2, y_f_traits_2, y_f_upper_2, y_f_lower_2, y_f_digRow_2)
def m_X2_copyRow (p1_row : (Nat → Int32)) (p2_row : (Nat → Int32)) (n_p1 : Nat) (n_p2 : Nat) : Option (Nat → Int32) :=
  lt (if (Int32.ofNat n_p2) < (Int32.ofNat n_p1) then (Int32.ofNat n_p2) else (Int32.ofNat n_p1)) fun v_1 =>
  cpi p1_row p2_row n_p1 n_p2 (0 : Int32) (0 : Int32) v_1 fun g_2 =>
  some g_2
def m_X2_become (f_units : Int32) (f_ties : Int32) (f_digs : Int32) (f_sights : Int32) (f_events : Int32) (f_traits : (Nat → Int32)) (f_upper : (Nat → Int32)) (f_lower : (Nat → Int32)) (f_digRow : (Nat → Int32)) (f_heldUnit : (Nat → Int32)) (f_heldKind : (Nat → Int32)) (f_seenFirst : (Nat → Int32)) (f_seenSecond : (Nat → Int32)) (f_seenIs : (Nat → Int32)) (f_eventWhat : (Nat → Int32)) (f_eventUnit : (Nat → Int32)) (p1_units : Int32) (p1_ties : Int32) (p1_digs : Int32) (p1_sights : Int32) (p1_events : Int32) (p1_traits : (Nat → Int32)) (p1_upper : (Nat → Int32)) (p1_lower : (Nat → Int32)) (p1_digRow : (Nat → Int32)) (p1_heldUnit : (Nat → Int32)) (p1_heldKind : (Nat → Int32)) (p1_seenFirst : (Nat → Int32)) (p1_seenSecond : (Nat → Int32)) (p1_seenIs : (Nat → Int32)) (p1_eventWhat : (Nat → Int32)) (p1_eventUnit : (Nat → Int32)) : Option (Int32 × Int32 × Int32 × Int32 × Int32 × (Nat → Int32) × (Nat → Int32) × (Nat → Int32) × (Nat → Int32) × (Nat → Int32) × (Nat → Int32) × (Nat → Int32) × (Nat → Int32) × (Nat → Int32) × (Nat → Int32) × (Nat → Int32)) :=
  cl (m_X2_copyRow p1_traits f_traits 60 60) fun r_1 =>
  cl (m_X2_copyRow p1_upper f_upper 40 40) fun r_3 =>
  cl (m_X2_copyRow p1_lower f_lower 40 40) fun r_5 =>
  cl (m_X2_copyRow p1_digRow f_digRow 12 12) fun r_7 =>
  cl (m_X2_copyRow p1_heldUnit f_heldUnit 12 12) fun r_9 =>
  cl (m_X2_copyRow p1_heldKind f_heldKind 12 12) fun r_11 =>
  cl (m_X2_copyRow p1_seenFirst f_seenFirst 5 5) fun r_13 =>
  cl (m_X2_copyRow p1_seenSecond f_seenSecond 5 5) fun r_15 =>
  cpz p1_seenIs f_seenIs 5 5 (0 : Int32) (0 : Int32) (5 : Int32) fun g_17 =>
  cl (m_X2_copyRow p1_eventWhat f_eventWhat 8 8) fun r_18 =>
  cl (m_X2_copyRow p1_eventUnit f_eventUnit 8 8) fun r_20 =>
  some (p1_units, p1_ties, p1_digs, p1_sights, p1_events, r_1, r_3, r_5, r_7, r_9, r_11, r_13, r_15, g_17, r_18, r_20)
def m_X3_write (f_numbers : (Nat → Int32)) (f_size : Int32) (a_1 : Int32) (a_2 : Int32) (a_3 : Int32) : Option ((Nat → Int32) × Int32) :=
  au f_numbers 3 (0 : Int32) a_1 fun g_1 =>
  au g_1 3 (1 : Int32) a_2 fun g_2 =>
  au g_2 3 (2 : Int32) a_3 fun g_3 =>
  some (g_3, (3 : Int32))
def m_X7_isCut (a_1 : Int32) : Option Int32 :=
  if a_1 = (1 : Int32) then (some (1 : Int32))
  else (if a_1 = (4 : Int32) then (some (1 : Int32))
  else (some (0 : Int32)))
def m_X7_isFill (a_1 : Int32) : Option Int32 :=
  if a_1 = (2 : Int32) then (some (1 : Int32))
  else (if a_1 = (5 : Int32) then (some (1 : Int32))
  else (some (0 : Int32)))
def m_X3_findsBareFill_L5 (p1_units : Int32) (p1_traits : (Nat → Int32)) : Nat → Int32 → Int32 → (Int32 → Int32 → Option ((Nat → Int32) × Int32 × Int32)) → Option ((Nat → Int32) × Int32 × Int32)
  | 0, _, _, _ => none
  | n_5 + 1, x3_5, x4_5, k_5 =>
    if p1_units ≤ x4_5 then (k_5 x3_5 x4_5)
    else (cl (m_X2_trait p1_traits (0 : Int32) x4_5) fun r_1 =>
    cl (m_X7_isCut r_1) fun r_3 =>
    if r_3 = 0 then (m_X3_findsBareFill_L5 p1_units p1_traits n_5 x3_5 (x4_5 + (1 : Int32)) k_5)
    else (lt ((x3_5 ||| ((1 : Int32) <<< (x4_5 &&& 31)))) fun v_5 =>
    m_X3_findsBareFill_L5 p1_units p1_traits n_5 v_5 (x4_5 + (1 : Int32)) k_5))
def m_X3_findsBareFill_L43 (f_size : Int32) (p1_units : Int32) (p2_units : Int32) (f_numbers : (Nat → Int32)) (p1_traits : (Nat → Int32)) (p2_under : (Nat → Int32)) (p2_reach : (Nat → Int32)) (x3_5 : Int32) : Nat → Int32 → (Int32 → Option ((Nat → Int32) × Int32 × Int32)) → Option ((Nat → Int32) × Int32 × Int32)
  | 0, _, _ => none
  | n_43 + 1, x4_43, k_43 =>
    if p1_units ≤ x4_43 then (k_43 x4_43)
    else (cl (m_X2_trait p1_traits (0 : Int32) x4_43) fun r_6 =>
    cl (m_X7_isFill r_6) fun r_8 =>
    if r_8 = 0 then (m_X3_findsBareFill_L43 f_size p1_units p2_units f_numbers p1_traits p2_under p2_reach x3_5 n_43 (x4_43 + (1 : Int32)) k_43)
    else (cl (m_X5_reducedUnder p2_units p2_under p2_reach x4_43) fun r_10 =>
    if (r_10 &&& x3_5) = 0 then (cl (m_X3_write f_numbers f_size (2 : Int32) x4_43 (0 : Int32)) fun r_12 =>
    some (r_12.1, (2 : Int32), (1 : Int32)))
    else (m_X3_findsBareFill_L43 f_size p1_units p2_units f_numbers p1_traits p2_under p2_reach x3_5 n_43 (x4_43 + (1 : Int32)) k_43)))
def m_X3_findsBareFill (f_numbers : (Nat → Int32)) (f_size : Int32) (p1_units : Int32) (p1_traits : (Nat → Int32)) (p2_units : Int32) (p2_under : (Nat → Int32)) (p2_reach : (Nat → Int32)) : Option ((Nat → Int32) × Int32 × Int32) :=
  m_X3_findsBareFill_L5 p1_units p1_traits FU (0 : Int32) (0 : Int32) fun x3_5 x4_5 =>
  m_X3_findsBareFill_L43 f_size p1_units p2_units f_numbers p1_traits p2_under p2_reach x3_5 FU (0 : Int32) fun x4_43 =>
  some (f_numbers, f_size, (0 : Int32))
def m_X5_firstOfPhaseReaching_L10 (f_units : Int32) (f_reach : (Nat → Int32)) (p1_traits : (Nat → Int32)) (a_2 : Int32) (r_1 : (Int32)) : Nat → Int32 → (Int32 → Option Int32) → Option Int32
  | 0, _, _ => none
  | n_10 + 1, x5_10, k_10 =>
    if f_units ≤ x5_10 then (k_10 x5_10)
    else (cl (m_X2_trait p1_traits (4 : Int32) x5_10) fun r_3 =>
    if r_3 = a_2 then (ag f_reach 12 x5_10 fun v_5 =>
    if (v_5 &&& r_1) = 0 then (m_X5_firstOfPhaseReaching_L10 f_units f_reach p1_traits a_2 r_1 n_10 (x5_10 + (1 : Int32)) k_10)
    else (some x5_10))
    else (m_X5_firstOfPhaseReaching_L10 f_units f_reach p1_traits a_2 r_1 n_10 (x5_10 + (1 : Int32)) k_10))
def m_X5_firstOfPhaseReaching (f_units : Int32) (f_reach : (Nat → Int32)) (p1_units : Int32) (p1_traits : (Nat → Int32)) (a_2 : Int32) (a_3 : Int32) : Option Int32 :=
  cl (m_X2_unitsOfPhase p1_units p1_traits a_3) fun r_1 =>
  m_X5_firstOfPhaseReaching_L10 f_units f_reach p1_traits a_2 r_1 FU (0 : Int32) fun x5_10 =>
  some (-1 : Int32)
def m_X5_phaseReaches (f_units : Int32) (f_reach : (Nat → Int32)) (p1_units : Int32) (p1_traits : (Nat → Int32)) (a_2 : Int32) (a_3 : Int32) : Option Int32 :=
  cl (m_X5_firstOfPhaseReaching f_units f_reach p1_units p1_traits a_2 a_3) fun r_1 =>
  if r_1 < 0 then (some (0 : Int32))
  else (some (1 : Int32))
def m_X3_findsMixedPhases_L13 (f_size : Int32) (p1_units : Int32) (p2_units : Int32) (f_numbers : (Nat → Int32)) (p1_traits : (Nat → Int32)) (p2_reach : (Nat → Int32)) (x3_2 : Int32) : Nat → Int32 → (Int32 → Option ((Nat → Int32) × Int32 × Int32)) → Option ((Nat → Int32) × Int32 × Int32)
  | 0, _, _ => none
  | n_13 + 1, x4_13, k_13 =>
    if (6 : Int32) ≤ x4_13 then (k_13 x4_13)
    else (cl (m_X5_firstOfPhaseReaching p2_units p2_reach p1_units p1_traits x3_2 x4_13) fun r_1 =>
    if r_1 < 0 then (m_X3_findsMixedPhases_L13 f_size p1_units p2_units f_numbers p1_traits p2_reach x3_2 n_13 (x4_13 + (1 : Int32)) k_13)
    else (cl (m_X5_phaseReaches p2_units p2_reach p1_units p1_traits x4_13 x3_2) fun r_3 =>
    if r_3 = 0 then (m_X3_findsMixedPhases_L13 f_size p1_units p2_units f_numbers p1_traits p2_reach x3_2 n_13 (x4_13 + (1 : Int32)) k_13)
    else (ag p2_reach 12 r_1 fun v_5 =>
    cl (m_X2_unitsOfPhase p1_units p1_traits x4_13) fun r_6 =>
    cl (m_X5_leastOf (v_5 &&& r_6)) fun r_8 =>
    cl (m_X3_write f_numbers f_size (3 : Int32) (((10 : Int32) * x3_2) + x4_13) (((100 : Int32) * r_1) + r_8)) fun r_10 =>
    some (r_10.1, r_10.2, (1 : Int32)))))
def m_X3_findsMixedPhases_L2 (f_size : Int32) (p1_units : Int32) (p2_units : Int32) (f_numbers : (Nat → Int32)) (p1_traits : (Nat → Int32)) (p2_reach : (Nat → Int32)) : Nat → Int32 → (Int32 → Option ((Nat → Int32) × Int32 × Int32)) → Option ((Nat → Int32) × Int32 × Int32)
  | 0, _, _ => none
  | n_2 + 1, x3_2, k_2 =>
    if (6 : Int32) ≤ x3_2 then (k_2 x3_2)
    else (m_X3_findsMixedPhases_L13 f_size p1_units p2_units f_numbers p1_traits p2_reach x3_2 FU (x3_2 + (1 : Int32)) fun x4_13 =>
    m_X3_findsMixedPhases_L2 f_size p1_units p2_units f_numbers p1_traits p2_reach n_2 (x3_2 + (1 : Int32)) k_2)
def m_X3_findsMixedPhases (f_numbers : (Nat → Int32)) (f_size : Int32) (p1_units : Int32) (p1_traits : (Nat → Int32)) (p2_units : Int32) (p2_reach : (Nat → Int32)) : Option ((Nat → Int32) × Int32 × Int32) :=
  m_X3_findsMixedPhases_L2 f_size p1_units p2_units f_numbers p1_traits p2_reach FU (0 : Int32) fun x3_2 =>
  some (f_numbers, f_size, (0 : Int32))
def m_X5_earliest_L10 (f_units : Int32) (f_reach : (Nat → Int32)) (p1_traits : (Nat → Int32)) (a_2 : Int32) : Nat → Int32 → Int32 → (Int32 → Int32 → Option Int32) → Option Int32
  | 0, _, _, _ => none
  | n_10 + 1, x3_10, x4_10, k_10 =>
    if f_units ≤ x4_10 then (k_10 x3_10 x4_10)
    else (ag f_reach 12 a_2 fun v_3 =>
    cl (m_X7_hasBit v_3 x4_10) fun r_4 =>
    if r_4 = 0 then (m_X5_earliest_L10 f_units f_reach p1_traits a_2 n_10 x3_10 (x4_10 + (1 : Int32)) k_10)
    else (cl (m_X2_trait p1_traits (2 : Int32) x4_10) fun r_6 =>
    lt (if x3_10 < r_6 then r_6 else x3_10) fun v_8 =>
    m_X5_earliest_L10 f_units f_reach p1_traits a_2 n_10 v_8 (x4_10 + (1 : Int32)) k_10))
def m_X5_earliest (f_units : Int32) (f_reach : (Nat → Int32)) (p1_traits : (Nat → Int32)) (a_2 : Int32) : Option Int32 :=
  cl (m_X2_trait p1_traits (2 : Int32) a_2) fun r_1 =>
  m_X5_earliest_L10 f_units f_reach p1_traits a_2 FU r_1 (0 : Int32) fun x3_10 x4_10 =>
  some x3_10
def m_X5_latest_L10 (f_units : Int32) (f_reach : (Nat → Int32)) (p1_traits : (Nat → Int32)) (a_2 : Int32) : Nat → Int32 → Int32 → (Int32 → Int32 → Option Int32) → Option Int32
  | 0, _, _, _ => none
  | n_10 + 1, x3_10, x4_10, k_10 =>
    if f_units ≤ x4_10 then (k_10 x3_10 x4_10)
    else (ag f_reach 12 x4_10 fun v_3 =>
    cl (m_X7_hasBit v_3 a_2) fun r_4 =>
    if r_4 = 0 then (m_X5_latest_L10 f_units f_reach p1_traits a_2 n_10 x3_10 (x4_10 + (1 : Int32)) k_10)
    else (cl (m_X2_trait p1_traits (3 : Int32) x4_10) fun r_6 =>
    lt (if r_6 < x3_10 then r_6 else x3_10) fun v_8 =>
    m_X5_latest_L10 f_units f_reach p1_traits a_2 n_10 v_8 (x4_10 + (1 : Int32)) k_10))
def m_X5_latest (f_units : Int32) (f_reach : (Nat → Int32)) (p1_traits : (Nat → Int32)) (a_2 : Int32) : Option Int32 :=
  cl (m_X2_trait p1_traits (3 : Int32) a_2) fun r_1 =>
  m_X5_latest_L10 f_units f_reach p1_traits a_2 FU r_1 (0 : Int32) fun x3_10 x4_10 =>
  some x3_10
def m_X5_crossing_L4 (f_units : Int32) (f_reach : (Nat → Int32)) (p1_traits : (Nat → Int32)) : Nat → Int32 → Int32 → (Int32 → Int32 → Option Int32) → Option Int32
  | 0, _, _, _ => none
  | n_4 + 1, x2_4, x3_4, k_4 =>
    if f_units ≤ x3_4 then (k_4 x2_4 x3_4)
    else (cl (m_X5_earliest f_units f_reach p1_traits x3_4) fun r_1 =>
    cl (m_X5_latest f_units f_reach p1_traits x3_4) fun r_3 =>
    if r_1 ≤ r_3 then (m_X5_crossing_L4 f_units f_reach p1_traits n_4 x2_4 (x3_4 + (1 : Int32)) k_4)
    else (lt ((x2_4 ||| ((1 : Int32) <<< (x3_4 &&& 31)))) fun v_5 =>
    m_X5_crossing_L4 f_units f_reach p1_traits n_4 v_5 (x3_4 + (1 : Int32)) k_4))
def m_X5_crossing (f_units : Int32) (f_reach : (Nat → Int32)) (p1_traits : (Nat → Int32)) : Option Int32 :=
  m_X5_crossing_L4 f_units f_reach p1_traits FU (0 : Int32) (0 : Int32) fun x2_4 x3_4 =>
  some x2_4
def m_X3_findsCrossing (f_numbers : (Nat → Int32)) (f_size : Int32) (p1_traits : (Nat → Int32)) (p2_units : Int32) (p2_reach : (Nat → Int32)) : Option ((Nat → Int32) × Int32 × Int32) :=
  cl (m_X5_crossing p2_units p2_reach p1_traits) fun r_1 =>
  if r_1 = 0 then (some (f_numbers, f_size, (0 : Int32)))
  else (cl (m_X5_leastOf r_1) fun r_3 =>
  cl (m_X5_earliest p2_units p2_reach p1_traits r_3) fun r_5 =>
  cl (m_X5_latest p2_units p2_reach p1_traits r_3) fun r_7 =>
  cl (m_X3_write f_numbers f_size (4 : Int32) r_3 (r_5 - r_7)) fun r_9 =>
  some (r_9.1, r_9.2, (1 : Int32)))
def m_X3_examine (f_numbers : (Nat → Int32)) (f_size : Int32) (p1_units : Int32) (p1_traits : (Nat → Int32)) (p2_units : Int32) (p2_under : (Nat → Int32)) (p2_reach : (Nat → Int32)) (p2_shown : (Nat → Int32)) (p2_stepsBack : (Nat → Int32)) : Option ((Nat → Int32) × Int32 × (Nat → Int32) × (Nat → Int32)) :=
  cl (m_X5_hasCycle p2_units p2_reach) fun r_1 =>
  if r_1 = 0 then (cl (m_X3_findsBareFill f_numbers (0 : Int32) p1_units p1_traits p2_units p2_under p2_reach) fun r_3 =>
  if r_3.2.2 = 0 then (cl (m_X3_findsMixedPhases r_3.1 r_3.2.1 p1_units p1_traits p2_units p2_reach) fun r_5 =>
  if r_5.2.2 = 0 then (cl (m_X3_findsCrossing r_5.1 r_5.2.1 p1_traits p2_units p2_reach) fun r_7 =>
  if r_7.2.2 = 0 then (au r_7.1 3 (0 : Int32) (0 : Int32) fun g_9 =>
  some (g_9, (1 : Int32), p2_shown, p2_stepsBack))
  else (some (r_7.1, r_7.2.1, p2_shown, p2_stepsBack)))
  else (some (r_5.1, r_5.2.1, p2_shown, p2_stepsBack)))
  else (some (r_3.1, r_3.2.1, p2_shown, p2_stepsBack)))
  else (cl (m_X5_showCycle p2_units p2_under p2_reach p2_shown p2_stepsBack) fun r_10 =>
  ag r_10.1 12 (0 : Int32) fun v_12 =>
  cl (m_X3_write f_numbers (0 : Int32) (1 : Int32) v_12 r_10.2.2) fun r_13 =>
  some (r_13.1, r_13.2, r_10.1, r_10.2.1))
def m_X4_sumOver_L8 (f_table : (Nat → Int64)) (f_blockers : (Nat → Int32)) (a_1 : Int32) : Nat → Int64 → Int32 → Int32 → (Int64 → Int32 → Int32 → Option Int64) → Option Int64
  | 0, _, _, _, _ => none
  | n_8 + 1, x2_8, x4_8, x5_8, k_8 =>
    if (12 : Int32) ≤ x5_8 then (k_8 x2_8 x4_8 x5_8)
    else (if x4_8 = 0 then (k_8 x2_8 x4_8 x5_8)
    else (if (x4_8 &&& (1 : Int32)) = (1 : Int32) then (ag f_blockers 12 x5_8 fun v_2 =>
    if (v_2 &&& a_1) = 0 then (ag f_table 4096 (a_1 &&& (((1 : Int32) <<< (x5_8 &&& 31)) ^^^ (-1 : Int32))) fun v_4 =>
    lt ((x4_8 >>> ((1 : Int32) &&& 31))) fun v_5 =>
    m_X4_sumOver_L8 f_table f_blockers a_1 n_8 (x2_8 + v_4) v_5 (x5_8 + (1 : Int32)) k_8)
    else (lt ((x4_8 >>> ((1 : Int32) &&& 31))) fun v_3 =>
    m_X4_sumOver_L8 f_table f_blockers a_1 n_8 x2_8 v_3 (x5_8 + (1 : Int32)) k_8))
    else (lt ((x4_8 >>> ((1 : Int32) &&& 31))) fun v_1 =>
    m_X4_sumOver_L8 f_table f_blockers a_1 n_8 x2_8 v_1 (x5_8 + (1 : Int32)) k_8)))
def m_X4_sumOver (f_table : (Nat → Int64)) (f_blockers : (Nat → Int32)) (a_1 : Int32) : Option Int64 :=
  m_X4_sumOver_L8 f_table f_blockers a_1 FU (0 : Int64) a_1 (0 : Int32) fun x2_8 x4_8 x5_8 =>
  some x2_8
def m_X4_fillTable_L11 (f_left : Int32) (f_blockers : (Nat → Int32)) : Nat → Int32 → Int32 → (Nat → Int64) → (Int32 → Int32 → (Nat → Int64) → Option (Nat → Int64)) → Option (Nat → Int64)
  | 0, _, _, _, _ => none
  | n_11 + 1, x1_11, x2_11, y_f_table_11, k_11 =>
    if (Int32.ofNat 4096) ≤ x2_11 then (k_11 x1_11 x2_11 y_f_table_11)
    else (if x1_11 = f_left then (k_11 x1_11 x2_11 y_f_table_11)
    else (lt (((x1_11 - f_left) &&& f_left)) fun v_2 =>
    cl (m_X4_sumOver y_f_table_11 f_blockers v_2) fun r_3 =>
    al y_f_table_11 4096 v_2 r_3 fun g_5 =>
    m_X4_fillTable_L11 f_left f_blockers n_11 v_2 (x2_11 + (1 : Int32)) g_5 k_11))
def m_X4_fillTable (f_table : (Nat → Int64)) (f_blockers : (Nat → Int32)) (f_left : Int32) : Option (Nat → Int64) :=
  al f_table 4096 (0 : Int32) (1 : Int64) fun g_1 =>
  m_X4_fillTable_L11 f_left f_blockers FU (0 : Int32) (0 : Int32) g_1 fun x1_11 x2_11 y_f_table_11 =>
  some y_f_table_11
def m_X4_number_L22 (p1_row : (Nat → Int32)) (n_p1 : Nat) (a_2 : Int32) : Nat → Int32 → Int32 → (Nat → Int32) → (Int32 → Int32 → (Nat → Int32) → Option ((Nat → Int64) × (Nat → Int32) × Int32 × Int64)) → Option ((Nat → Int64) × (Nat → Int32) × Int32 × Int64)
  | 0, _, _, _, _ => none
  | n_22 + 1, x3_22, x4_22, y_f_blockers_22, k_22 =>
    if (12 : Int32) ≤ x4_22 then (k_22 x3_22 x4_22 y_f_blockers_22)
    else (cl (m_X7_hasBit a_2 x4_22) fun r_1 =>
    if r_1 = 0 then (if x3_22 = 0 then (au y_f_blockers_22 12 x4_22 (0 : Int32) fun g_3 =>
    m_X4_number_L22 p1_row n_p1 a_2 n_22 (0 : Int32) (x4_22 + (1 : Int32)) g_3 k_22)
    else (ag y_f_blockers_22 12 x4_22 fun v_4 =>
    if v_4 = (0 : Int32) then (au y_f_blockers_22 12 x4_22 (0 : Int32) fun g_6 =>
    m_X4_number_L22 p1_row n_p1 a_2 n_22 (1 : Int32) (x4_22 + (1 : Int32)) g_6 k_22)
    else (au y_f_blockers_22 12 x4_22 (0 : Int32) fun g_5 =>
    m_X4_number_L22 p1_row n_p1 a_2 n_22 (0 : Int32) (x4_22 + (1 : Int32)) g_5 k_22)))
    else (ag p1_row n_p1 x4_22 fun v_7 =>
    if x3_22 = 0 then (au y_f_blockers_22 12 x4_22 (v_7 &&& a_2) fun g_8 =>
    m_X4_number_L22 p1_row n_p1 a_2 n_22 (0 : Int32) (x4_22 + (1 : Int32)) g_8 k_22)
    else (ag y_f_blockers_22 12 x4_22 fun v_9 =>
    if v_9 = (v_7 &&& a_2) then (au y_f_blockers_22 12 x4_22 (v_7 &&& a_2) fun g_11 =>
    m_X4_number_L22 p1_row n_p1 a_2 n_22 (1 : Int32) (x4_22 + (1 : Int32)) g_11 k_22)
    else (au y_f_blockers_22 12 x4_22 (v_7 &&& a_2) fun g_10 =>
    m_X4_number_L22 p1_row n_p1 a_2 n_22 (0 : Int32) (x4_22 + (1 : Int32)) g_10 k_22))))
def m_X4_number (f_table : (Nat → Int64)) (f_blockers : (Nat → Int32)) (f_left : Int32) (p1_row : (Nat → Int32)) (n_p1 : Nat) (a_2 : Int32) : Option ((Nat → Int64) × (Nat → Int32) × Int32 × Int64) :=
  jn (fun x_13 : (Int32) =>
  m_X4_number_L22 p1_row n_p1 a_2 FU x_13 (0 : Int32) f_blockers fun x3_22 x4_22 y_f_blockers_22 =>
  if x3_22 = 0 then (cl (m_X4_fillTable f_table y_f_blockers_22 a_2) fun r_13 =>
  ag r_13 4096 a_2 fun v_15 =>
  some (r_13, y_f_blockers_22, a_2, v_15))
  else (ag f_table 4096 a_2 fun v_12 =>
  some (f_table, y_f_blockers_22, a_2, v_12))) fun j_13 =>
  if f_left = a_2 then (j_13 (1 : Int32))
  else (j_13 (0 : Int32))
def m_X4_isFree (f_blockers : (Nat → Int32)) (a_1 : Int32) (a_2 : Int32) : Option Int32 :=
  cl (m_X7_hasBit a_1 a_2) fun r_1 =>
  if r_1 = 0 then (some (0 : Int32))
  else (ag f_blockers 12 a_2 fun v_3 =>
  if (v_3 &&& a_1) = 0 then (some (1 : Int32))
  else (some (0 : Int32)))
def m_X4_unitOfOrder_L27 (f_table : (Nat → Int64)) (f_blockers : (Nat → Int32)) (x6_15 : Int32) : Nat → Int64 → Int32 → Int32 → (Int64 → Int32 → Int32 → Option Int32) → Option Int32
  | 0, _, _, _, _ => none
  | n_27 + 1, x4_27, x7_27, x9_27, k_27 =>
    if (12 : Int32) ≤ x9_27 then (k_27 x4_27 x7_27 x9_27)
    else (if x7_27 = (-1 : Int32) then (cl (m_X4_isFree f_blockers x6_15 x9_27) fun r_1 =>
    if r_1 = 0 then (m_X4_unitOfOrder_L27 f_table f_blockers x6_15 n_27 x4_27 x7_27 (x9_27 + (1 : Int32)) k_27)
    else (ag f_table 4096 (x6_15 &&& (((1 : Int32) <<< (x9_27 &&& 31)) ^^^ (-1 : Int32))) fun v_3 =>
    if 0 ≤ (lg_cmp x4_27 v_3) then (m_X4_unitOfOrder_L27 f_table f_blockers x6_15 n_27 (x4_27 - v_3) x7_27 (x9_27 + (1 : Int32)) k_27)
    else (m_X4_unitOfOrder_L27 f_table f_blockers x6_15 n_27 x4_27 x9_27 (x9_27 + (1 : Int32)) k_27)))
    else (k_27 x4_27 x7_27 x9_27))
def m_X4_unitOfOrder_L15 (f_table : (Nat → Int64)) (f_blockers : (Nat → Int32)) (a_2 : Int32) : Nat → Int64 → Int32 → Int32 → Int32 → (Int64 → Int32 → Int32 → Int32 → Option Int32) → Option Int32
  | 0, _, _, _, _, _ => none
  | n_15 + 1, x4_15, x6_15, x7_15, x8_15, k_15 =>
    if a_2 < x8_15 then (k_15 x4_15 x6_15 x7_15 x8_15)
    else (m_X4_unitOfOrder_L27 f_table f_blockers x6_15 FU x4_15 (-1 : Int32) (0 : Int32) fun x4_27 x7_27 x9_27 =>
    if x7_27 = (-1 : Int32) then (some (-1 : Int32))
    else (lt ((x6_15 &&& (((1 : Int32) <<< (x7_27 &&& 31)) ^^^ (-1 : Int32)))) fun v_4 =>
    m_X4_unitOfOrder_L15 f_table f_blockers a_2 n_15 x4_27 v_4 x7_27 (x8_15 + (1 : Int32)) k_15))
def m_X4_unitOfOrder (f_table : (Nat → Int64)) (f_blockers : (Nat → Int32)) (f_left : Int32) (a_1 : Int64) (a_2 : Int32) : Option Int32 :=
  m_X4_unitOfOrder_L15 f_table f_blockers a_2 FU a_1 f_left (-1 : Int32) (0 : Int32) fun x4_15 x6_15 x7_15 x8_15 =>
  some x7_15
def m_X5_closeChains_L2 (f_units : Int32) (f_under : (Nat → Int32)) : Nat → Int32 → (Nat → Int32) → (Int32 → (Nat → Int32) → Option (Nat → Int32)) → Option (Nat → Int32)
  | 0, _, _, _ => none
  | n_2 + 1, x1_2, y_f_reach_2, k_2 =>
    if f_units ≤ x1_2 then (k_2 x1_2 y_f_reach_2)
    else (ag f_under 12 x1_2 fun v_1 =>
    au y_f_reach_2 12 x1_2 v_1 fun g_2 =>
    m_X5_closeChains_L2 f_units f_under n_2 (x1_2 + (1 : Int32)) g_2 k_2)
def m_X5_closeChains_L40 (f_units : Int32) (x1_30 : Int32) : Nat → Int32 → (Nat → Int32) → (Int32 → (Nat → Int32) → Option (Nat → Int32)) → Option (Nat → Int32)
  | 0, _, _, _ => none
  | n_40 + 1, x2_40, y_f_reach_40, k_40 =>
    if f_units ≤ x2_40 then (k_40 x2_40 y_f_reach_40)
    else (ag y_f_reach_40 12 x2_40 fun v_3 =>
    cl (m_X7_hasBit v_3 x1_30) fun r_4 =>
    if r_4 = 0 then (m_X5_closeChains_L40 f_units x1_30 n_40 (x2_40 + (1 : Int32)) y_f_reach_40 k_40)
    else (ag y_f_reach_40 12 x2_40 fun v_6 =>
    ag y_f_reach_40 12 x1_30 fun v_7 =>
    au y_f_reach_40 12 x2_40 (v_6 ||| v_7) fun g_8 =>
    m_X5_closeChains_L40 f_units x1_30 n_40 (x2_40 + (1 : Int32)) g_8 k_40))
def m_X5_closeChains_L30 (f_units : Int32) : Nat → Int32 → (Nat → Int32) → (Int32 → (Nat → Int32) → Option (Nat → Int32)) → Option (Nat → Int32)
  | 0, _, _, _ => none
  | n_30 + 1, x1_30, y_f_reach_30, k_30 =>
    if f_units ≤ x1_30 then (k_30 x1_30 y_f_reach_30)
    else (m_X5_closeChains_L40 f_units x1_30 FU (0 : Int32) y_f_reach_30 fun x2_40 y_f_reach_40 =>
    m_X5_closeChains_L30 f_units n_30 (x1_30 + (1 : Int32)) y_f_reach_40 k_30)
def m_X5_closeChains (f_units : Int32) (f_under : (Nat → Int32)) (f_reach : (Nat → Int32)) : Option (Nat → Int32) :=
  m_X5_closeChains_L2 f_units f_under FU (0 : Int32) f_reach fun x1_2 y_f_reach_2 =>
  m_X5_closeChains_L30 f_units FU (0 : Int32) y_f_reach_2 fun x1_30 y_f_reach_30 =>
  some y_f_reach_30
def m_X5_weave_L10  : Nat → Int32 → (Nat → Int32) → (Nat → Int32) → (Int32 → (Nat → Int32) → (Nat → Int32) → Option (Int32 × (Nat → Int32) × (Nat → Int32) × (Nat → Int32))) → Option (Int32 × (Nat → Int32) × (Nat → Int32) × (Nat → Int32))
  | 0, _, _, _, _ => none
  | n_10 + 1, x3_10, y_f_under_10, y_f_above_10, k_10 =>
    if (12 : Int32) ≤ x3_10 then (k_10 x3_10 y_f_under_10 y_f_above_10)
    else (au y_f_under_10 12 x3_10 (0 : Int32) fun g_1 =>
    au y_f_above_10 12 x3_10 (0 : Int32) fun g_2 =>
    m_X5_weave_L10  n_10 (x3_10 + (1 : Int32)) g_1 g_2 k_10)
def m_X5_weave_L38 (p1_ties : Int32) (p1_upper : (Nat → Int32)) (p1_lower : (Nat → Int32)) (a_2 : Int32) : Nat → Int32 → (Nat → Int32) → (Nat → Int32) → (Int32 → (Nat → Int32) → (Nat → Int32) → Option (Int32 × (Nat → Int32) × (Nat → Int32) × (Nat → Int32))) → Option (Int32 × (Nat → Int32) × (Nat → Int32) × (Nat → Int32))
  | 0, _, _, _, _ => none
  | n_38 + 1, x3_38, y_f_under_38, y_f_above_38, k_38 =>
    if p1_ties ≤ x3_38 then (k_38 x3_38 y_f_under_38 y_f_above_38)
    else (if x3_38 = a_2 then (m_X5_weave_L38 p1_ties p1_upper p1_lower a_2 n_38 (x3_38 + (1 : Int32)) y_f_under_38 y_f_above_38 k_38)
    else (ag p1_upper 40 x3_38 fun v_3 =>
    ag y_f_under_38 12 v_3 fun v_4 =>
    ag p1_lower 40 x3_38 fun v_5 =>
    au y_f_under_38 12 v_3 (v_4 ||| ((1 : Int32) <<< (v_5 &&& 31))) fun g_6 =>
    ag p1_lower 40 x3_38 fun v_7 =>
    ag y_f_above_38 12 v_7 fun v_8 =>
    ag p1_upper 40 x3_38 fun v_9 =>
    au y_f_above_38 12 v_7 (v_8 ||| ((1 : Int32) <<< (v_9 &&& 31))) fun g_10 =>
    m_X5_weave_L38 p1_ties p1_upper p1_lower a_2 n_38 (x3_38 + (1 : Int32)) g_6 g_10 k_38))
def m_X5_weave (f_units : Int32) (f_under : (Nat → Int32)) (f_above : (Nat → Int32)) (f_reach : (Nat → Int32)) (p1_units : Int32) (p1_ties : Int32) (p1_upper : (Nat → Int32)) (p1_lower : (Nat → Int32)) (a_2 : Int32) : Option (Int32 × (Nat → Int32) × (Nat → Int32) × (Nat → Int32)) :=
  m_X5_weave_L10  FU (0 : Int32) f_under f_above fun x3_10 y_f_under_10 y_f_above_10 =>
  m_X5_weave_L38 p1_ties p1_upper p1_lower a_2 FU (0 : Int32) y_f_under_10 y_f_above_10 fun x3_38 y_f_under_38 y_f_above_38 =>
  cl (m_X5_closeChains p1_units y_f_under_38 f_reach) fun r_11 =>
  some (p1_units, y_f_under_38, y_f_above_38, r_11)
def m_X5_reachersOf_L4 (f_units : Int32) (f_reach : (Nat → Int32)) (a_1 : Int32) : Nat → Int32 → Int32 → (Int32 → Int32 → Option Int32) → Option Int32
  | 0, _, _, _ => none
  | n_4 + 1, x2_4, x3_4, k_4 =>
    if f_units ≤ x3_4 then (k_4 x2_4 x3_4)
    else (ag f_reach 12 x3_4 fun v_1 =>
    cl (m_X7_hasBit v_1 a_1) fun r_2 =>
    if r_2 = 0 then (m_X5_reachersOf_L4 f_units f_reach a_1 n_4 x2_4 (x3_4 + (1 : Int32)) k_4)
    else (lt ((x2_4 ||| ((1 : Int32) <<< (x3_4 &&& 31)))) fun v_4 =>
    m_X5_reachersOf_L4 f_units f_reach a_1 n_4 v_4 (x3_4 + (1 : Int32)) k_4))
def m_X5_reachersOf (f_units : Int32) (f_reach : (Nat → Int32)) (a_1 : Int32) : Option Int32 :=
  m_X5_reachersOf_L4 f_units f_reach a_1 FU (0 : Int32) (0 : Int32) fun x2_4 x3_4 =>
  some x2_4
def m_X5_isReduced (f_units : Int32) (f_under : (Nat → Int32)) (f_reach : (Nat → Int32)) (a_1 : Int32) (a_2 : Int32) : Option Int32 :=
  cl (m_X5_reducedUnder f_units f_under f_reach a_1) fun r_1 =>
  cl (m_X7_hasBit r_1 a_2) fun r_3 =>
  zg r_3 (some r_3)
def m_J6_bitCount_0f7a4 (a_1 : Int32) : Option Int32 :=
  lt ((a_1 - (((a_1).toUInt32 >>> (((1 : Int32)).toUInt32 &&& Int32.toUInt32 31)).toInt32 &&& (1431655765 : Int32)))) fun v_1 =>
  lt (((v_1 &&& (858993459 : Int32)) + (((v_1).toUInt32 >>> (((2 : Int32)).toUInt32 &&& Int32.toUInt32 31)).toInt32 &&& (858993459 : Int32)))) fun v_2 =>
  lt (((v_2 + ((v_2).toUInt32 >>> (((4 : Int32)).toUInt32 &&& Int32.toUInt32 31)).toInt32) &&& (252645135 : Int32))) fun v_3 =>
  lt ((v_3 + ((v_3).toUInt32 >>> (((8 : Int32)).toUInt32 &&& Int32.toUInt32 31)).toInt32)) fun v_4 =>
  lt ((v_4 + ((v_4).toUInt32 >>> (((16 : Int32)).toUInt32 &&& Int32.toUInt32 31)).toInt32)) fun v_5 =>
  some (v_5 &&& (63 : Int32))
def m_X5_reducedTies_L4 (f_units : Int32) (f_under : (Nat → Int32)) (f_reach : (Nat → Int32)) : Nat → Int32 → Int32 → (Int32 → Int32 → Option Int32) → Option Int32
  | 0, _, _, _ => none
  | n_4 + 1, x1_4, x2_4, k_4 =>
    if f_units ≤ x2_4 then (k_4 x1_4 x2_4)
    else (cl (m_X5_reducedUnder f_units f_under f_reach x2_4) fun r_1 =>
    cl (m_J6_bitCount_0f7a4 r_1) fun r_3 =>
    m_X5_reducedTies_L4 f_units f_under f_reach n_4 (x1_4 + r_3) (x2_4 + (1 : Int32)) k_4)
def m_X5_reducedTies (f_units : Int32) (f_under : (Nat → Int32)) (f_reach : (Nat → Int32)) : Option Int32 :=
  m_X5_reducedTies_L4 f_units f_under f_reach FU (0 : Int32) (0 : Int32) fun x1_4 x2_4 =>
  some x1_4
def m_X5_agrees_L2 (p1_sights : Int32) (f_reach : (Nat → Int32)) (p1_seenFirst : (Nat → Int32)) (p1_seenSecond : (Nat → Int32)) (p1_seenIs : (Nat → Int32)) : Nat → Int32 → (Int32 → Option Int32) → Option Int32
  | 0, _, _ => none
  | n_2 + 1, x2_2, k_2 =>
    if p1_sights ≤ x2_2 then (k_2 x2_2)
    else (ag p1_seenFirst 5 x2_2 fun v_1 =>
    ag f_reach 12 v_1 fun v_2 =>
    ag p1_seenSecond 5 x2_2 fun v_3 =>
    cl (m_X7_hasBit v_2 v_3) fun r_4 =>
    ag p1_seenIs 5 x2_2 fun v_6 =>
    if r_4 = v_6 then (m_X5_agrees_L2 p1_sights f_reach p1_seenFirst p1_seenSecond p1_seenIs n_2 (x2_2 + (1 : Int32)) k_2)
    else (some (0 : Int32)))
def m_X5_agrees (f_reach : (Nat → Int32)) (p1_sights : Int32) (p1_seenFirst : (Nat → Int32)) (p1_seenSecond : (Nat → Int32)) (p1_seenIs : (Nat → Int32)) : Option Int32 :=
  m_X5_agrees_L2 p1_sights f_reach p1_seenFirst p1_seenSecond p1_seenIs FU (0 : Int32) fun x2_2 =>
  some (1 : Int32)
def m_X6_takeLetter (f_text : (Nat → Int32)) (f_length : Int32) (f_at : Int32) (f_fault : Int32) : Option (Int32 × Int32 × Int32) :=
  if f_fault = 0 then (if f_length ≤ f_at then (some (f_at, ((-100 : Int32) - f_at), (0 : Int32)))
  else (ag f_text 100 f_at fun v_1 =>
  if v_1 < (97 : Int32) then (some (f_at, ((-100 : Int32) - f_at), (0 : Int32)))
  else (ag f_text 100 f_at fun v_2 =>
  if v_2 ≤ (108 : Int32) then (ag f_text 100 ((f_at + (1 : Int32)) - (1 : Int32)) fun v_3 =>
  some ((f_at + (1 : Int32)), f_fault, (v_3 - (97 : Int32))))
  else (some (f_at, ((-100 : Int32) - f_at), (0 : Int32))))))
  else (some (f_at, f_fault, (0 : Int32)))
def m_X6_takeSign (f_text : (Nat → Int32)) (f_length : Int32) (f_at : Int32) (f_fault : Int32) (a_1 : Int32) : Option (Int32 × Int32) :=
  if f_fault = 0 then (if f_length ≤ f_at then (some (f_at, ((-100 : Int32) - f_at)))
  else (ag f_text 100 f_at fun v_1 =>
  if v_1 = a_1 then (some ((f_at + (1 : Int32)), f_fault))
  else (some (f_at, ((-100 : Int32) - f_at)))))
  else (some (f_at, f_fault))
def m_X6_says_L15 (f_text : (Nat → Int32)) (s_p1 : Nat) (a_2 : Int32) : Nat → Int32 → (Int32 → Option Int32) → Option Int32
  | 0, _, _ => none
  | n_15 + 1, x4_15, k_15 =>
    if (Int32.ofNat (slen.getD s_p1 0)) ≤ x4_15 then (k_15 x4_15)
    else (ag (fun j => (sbyt.getD s_p1 []).getD j 0) (slen.getD s_p1 0) x4_15 fun v_1 =>
    ag f_text 100 (a_2 + x4_15) fun v_2 =>
    if v_1 = v_2 then (m_X6_says_L15 f_text s_p1 a_2 n_15 (x4_15 + (1 : Int32)) k_15)
    else (some (0 : Int32)))
def m_X6_says (f_text : (Nat → Int32)) (s_p1 : Nat) (a_2 : Int32) (a_3 : Int32) : Option Int32 :=
  if (Int32.ofNat (slen.getD s_p1 0)) = (a_3 - a_2) then (m_X6_says_L15 f_text s_p1 a_2 FU (0 : Int32) fun x4_15 =>
  some (1 : Int32))
  else (some (0 : Int32))
def m_X6_verbOf (f_text : (Nat → Int32)) (a_1 : Int32) (a_2 : Int32) : Option Int32 :=
  cl (m_X6_says f_text 0 a_1 a_2) fun r_1 =>
  if r_1 = 0 then (cl (m_X6_says f_text 1 a_1 a_2) fun r_3 =>
  if r_3 = 0 then (cl (m_X6_says f_text 2 a_1 a_2) fun r_5 =>
  if r_5 = 0 then (cl (m_X6_says f_text 3 a_1 a_2) fun r_7 =>
  if r_7 = 0 then (cl (m_X6_says f_text 4 a_1 a_2) fun r_9 =>
  if r_9 = 0 then (some (-1 : Int32))
  else (some (4 : Int32)))
  else (some (3 : Int32)))
  else (some (2 : Int32)))
  else (some (1 : Int32)))
  else (some (0 : Int32))
def m_X6_takeVerb_L14 (f_length : Int32) (f_text : (Nat → Int32)) : Nat → Int32 → (Int32 → Option (Int32 × Int32 × Int32)) → Option (Int32 × Int32 × Int32)
  | 0, _, _ => none
  | n_14 + 1, x1_14, k_14 =>
    if f_length ≤ x1_14 then (k_14 x1_14)
    else (ag f_text 100 x1_14 fun v_1 =>
    if v_1 < (97 : Int32) then (k_14 x1_14)
    else (ag f_text 100 x1_14 fun v_2 =>
    if (122 : Int32) < v_2 then (k_14 x1_14)
    else (m_X6_takeVerb_L14 f_length f_text n_14 (x1_14 + (1 : Int32)) k_14)))
def m_X6_takeVerb (f_text : (Nat → Int32)) (f_length : Int32) (f_at : Int32) (f_fault : Int32) : Option (Int32 × Int32 × Int32) :=
  if f_fault = 0 then (m_X6_takeVerb_L14 f_length f_text FU f_at fun x1_14 =>
  cl (m_X6_verbOf f_text f_at x1_14) fun r_3 =>
  if x1_14 = f_at then (some (x1_14, ((-100 : Int32) - f_at), r_3))
  else (if 0 ≤ r_3 then (some (x1_14, f_fault, r_3))
  else (some (x1_14, ((-300 : Int32) - f_at), r_3))))
  else (some (f_at, f_fault, (0 : Int32)))
def m_X6_takeSentence (f_text : (Nat → Int32)) (f_length : Int32) (f_first : (Nat → Int32)) (f_verb : (Nat → Int32)) (f_second : (Nat → Int32)) (f_sentences : Int32) (f_at : Int32) (f_fault : Int32) : Option ((Nat → Int32) × (Nat → Int32) × (Nat → Int32) × Int32 × Int32 × Int32) :=
  cl (m_X6_takeLetter f_text f_length f_at f_fault) fun r_1 =>
  cl (m_X6_takeSign f_text f_length r_1.1 r_1.2.1 (32 : Int32)) fun r_3 =>
  cl (m_X6_takeVerb f_text f_length r_3.1 r_3.2) fun r_5 =>
  cl (m_X6_takeSign f_text f_length r_5.1 r_5.2.1 (32 : Int32)) fun r_7 =>
  cl (m_X6_takeLetter f_text f_length r_7.1 r_7.2) fun r_9 =>
  if r_9.2.1 = 0 then (if (8 : Int32) ≤ f_sentences then (some (f_first, f_verb, f_second, f_sentences, r_9.1, r_9.2.1))
  else (au f_first 8 f_sentences r_1.2.2 fun g_11 =>
  au f_verb 8 f_sentences r_5.2.2 fun g_12 =>
  au f_second 8 f_sentences r_9.2.2 fun g_13 =>
  some (g_11, g_12, g_13, (f_sentences + (1 : Int32)), r_9.1, r_9.2.1)))
  else (some (f_first, f_verb, f_second, f_sentences, r_9.1, r_9.2.1))
def m_X6_parse_L21 (f_length : Int32) (f_text : (Nat → Int32)) : Nat → Int32 → (Nat → Int32) → (Nat → Int32) → (Nat → Int32) → Int32 → Int32 → Int32 → (Int32 → (Nat → Int32) → (Nat → Int32) → (Nat → Int32) → Int32 → Int32 → Int32 → Option ((Nat → Int32) × (Nat → Int32) × (Nat → Int32) × Int32 × Int32 × Int32 × Int32)) → Option ((Nat → Int32) × (Nat → Int32) × (Nat → Int32) × Int32 × Int32 × Int32 × Int32)
  | 0, _, _, _, _, _, _, _, _ => none
  | n_21 + 1, x1_21, y_f_first_21, y_f_verb_21, y_f_second_21, y_f_sentences_21, y_f_at_21, y_f_fault_21, k_21 =>
    if (8 : Int32) ≤ x1_21 then (k_21 x1_21 y_f_first_21 y_f_verb_21 y_f_second_21 y_f_sentences_21 y_f_at_21 y_f_fault_21)
    else (if y_f_fault_21 = 0 then (if f_length ≤ y_f_at_21 then (k_21 x1_21 y_f_first_21 y_f_verb_21 y_f_second_21 y_f_sentences_21 y_f_at_21 y_f_fault_21)
    else (cl (m_X6_takeSign f_text f_length y_f_at_21 y_f_fault_21 (59 : Int32)) fun r_3 =>
    cl (m_X6_takeSentence f_text f_length y_f_first_21 y_f_verb_21 y_f_second_21 y_f_sentences_21 r_3.1 r_3.2) fun r_5 =>
    m_X6_parse_L21 f_length f_text n_21 (x1_21 + (1 : Int32)) r_5.1 r_5.2.1 r_5.2.2.1 r_5.2.2.2.1 r_5.2.2.2.2.1 r_5.2.2.2.2.2 k_21))
    else (k_21 x1_21 y_f_first_21 y_f_verb_21 y_f_second_21 y_f_sentences_21 y_f_at_21 y_f_fault_21))
def m_X6_parse (f_text : (Nat → Int32)) (f_length : Int32) (f_first : (Nat → Int32)) (f_verb : (Nat → Int32)) (f_second : (Nat → Int32)) (f_sentences : Int32) (f_at : Int32) (f_fault : Int32) : Option ((Nat → Int32) × (Nat → Int32) × (Nat → Int32) × Int32 × Int32 × Int32 × Int32) :=
  cl (m_X6_takeSentence f_text f_length f_first f_verb f_second (0 : Int32) (0 : Int32) (0 : Int32)) fun r_1 =>
  m_X6_parse_L21 f_length f_text FU (1 : Int32) r_1.1 r_1.2.1 r_1.2.2.1 r_1.2.2.2.1 r_1.2.2.2.2.1 r_1.2.2.2.2.2 fun x1_21 y_f_first_21 y_f_verb_21 y_f_second_21 y_f_sentences_21 y_f_at_21 y_f_fault_21 =>
  if y_f_fault_21 = 0 then (if f_length ≤ y_f_at_21 then (some (y_f_first_21, y_f_verb_21, y_f_second_21, y_f_sentences_21, y_f_at_21, y_f_fault_21, y_f_fault_21))
  else (some (y_f_first_21, y_f_verb_21, y_f_second_21, y_f_sentences_21, y_f_at_21, ((-100 : Int32) - y_f_at_21), ((-100 : Int32) - y_f_at_21))))
  else (some (y_f_first_21, y_f_verb_21, y_f_second_21, y_f_sentences_21, y_f_at_21, y_f_fault_21, y_f_fault_21))
def m_X7_unit (f_site_units : Int32) (f_site_traits : (Nat → Int32)) (a_1 : Int32) : Option (Int32 × (Nat → Int32) × Int32) :=
  ag tabL 5 (0 : Int32) fun v_1 =>
  if a_1 < v_1 then (some (f_site_units, f_site_traits, (-2 : Int32)))
  else (ag tabG 5 (0 : Int32) fun v_2 =>
  if a_1 ≤ v_2 then (if f_site_units < (12 : Int32) then (cl (m_X2_addUnit f_site_units f_site_traits a_1) fun r_3 =>
  some (r_3.1, r_3.2.1, r_3.2.2))
  else (some (f_site_units, f_site_traits, (-4 : Int32))))
  else (some (f_site_units, f_site_traits, (-2 : Int32))))
def m_X7_traitTold (f_site_traits : (Nat → Int32)) (a_1 : Int32) (a_2 : Int32) : Option Int32 :=
  cl (m_X2_trait f_site_traits a_2 a_1) fun r_1 =>
  if a_2 = (4 : Int32) then (if r_1 = (-1 : Int32) then (some (-5 : Int32))
  else (some r_1))
  else (some r_1)
def m_X7_set (f_site_units : Int32) (f_site_traits : (Nat → Int32)) (a_1 : Int32) (a_2 : Int32) (a_3 : Int32) : Option ((Nat → Int32) × Int32) :=
  cl (m_X2_isUnit f_site_units a_1) fun r_1 =>
  if r_1 = 0 then (some (f_site_traits, (-1 : Int32)))
  else (if a_2 < 0 then (some (f_site_traits, (-1 : Int32)))
  else (if a_2 < (5 : Int32) then (ag tabL 5 a_2 fun v_3 =>
  if a_3 < v_3 then (some (f_site_traits, (-2 : Int32)))
  else (ag tabG 5 a_2 fun v_4 =>
  if a_3 ≤ v_4 then (cl (m_X7_traitTold f_site_traits a_1 a_2) fun r_5 =>
  cl (m_X2_putTrait f_site_traits a_2 a_1 a_3) fun r_7 =>
  some (r_7, r_5))
  else (some (f_site_traits, (-2 : Int32)))))
  else (some (f_site_traits, (-1 : Int32)))))
def m_X7_of (f_site_units : Int32) (f_site_digs : Int32) (f_site_traits : (Nat → Int32)) (f_site_digRow : (Nat → Int32)) (a_1 : Int32) (a_2 : Int32) : Option Int32 :=
  cl (m_X2_isUnit f_site_units a_1) fun r_1 =>
  if r_1 = 0 then (some (-1 : Int32))
  else (if a_2 < 0 then (some (-1 : Int32))
  else (if a_2 ≤ (5 : Int32) then (if a_2 = (5 : Int32) then (cl (m_X2_isDug f_site_digs f_site_digRow a_1) fun r_5 =>
  if r_5 = 0 then (some (0 : Int32))
  else (some (1 : Int32)))
  else (cl (m_X7_traitTold f_site_traits a_1 a_2) fun r_3 =>
  some r_3))
  else (some (-1 : Int32))))
def m_X7_isPair (f_site_units : Int32) (a_1 : Int32) (a_2 : Int32) : Option Int32 :=
  cl (m_X2_isUnit f_site_units a_1) fun r_1 =>
  if r_1 = 0 then (some (0 : Int32))
  else (cl (m_X2_isUnit f_site_units a_2) fun r_3 =>
  if r_3 = 0 then (some (0 : Int32))
  else (if a_1 = a_2 then (some (0 : Int32))
  else (some (1 : Int32))))
def m_X7_tie (f_site_units : Int32) (f_site_ties : Int32) (f_site_upper : (Nat → Int32)) (f_site_lower : (Nat → Int32)) (a_1 : Int32) (a_2 : Int32) : Option (Int32 × (Nat → Int32) × (Nat → Int32) × Int32) :=
  cl (m_X7_isPair f_site_units a_1 a_2) fun r_1 =>
  if r_1 = 0 then (some (f_site_ties, f_site_upper, f_site_lower, (-1 : Int32)))
  else (cl (m_X2_tieNumber f_site_ties f_site_upper f_site_lower a_1 a_2) fun r_3 =>
  if r_3 < 0 then (if f_site_ties < (40 : Int32) then (cl (m_X2_addTie f_site_ties f_site_upper f_site_lower a_1 a_2) fun r_5 =>
  some (r_5.1, r_5.2.1, r_5.2.2, r_5.1))
  else (some (f_site_ties, f_site_upper, f_site_lower, (-4 : Int32))))
  else (some (f_site_ties, f_site_upper, f_site_lower, (-3 : Int32))))
def m_X7_untie (f_site_units : Int32) (f_site_ties : Int32) (f_site_upper : (Nat → Int32)) (f_site_lower : (Nat → Int32)) (a_1 : Int32) (a_2 : Int32) : Option (Int32 × (Nat → Int32) × (Nat → Int32) × Int32) :=
  cl (m_X7_isPair f_site_units a_1 a_2) fun r_1 =>
  if r_1 = 0 then (some (f_site_ties, f_site_upper, f_site_lower, (-1 : Int32)))
  else (cl (m_X2_tieNumber f_site_ties f_site_upper f_site_lower a_1 a_2) fun r_3 =>
  if 0 ≤ r_3 then (cl (m_X2_dropTie f_site_ties f_site_upper f_site_lower r_3) fun r_5 =>
  some (r_5.1, r_5.2.1, r_5.2.2, r_5.1))
  else (some (f_site_ties, f_site_upper, f_site_lower, (-3 : Int32))))
def m_X7_woven (f_site_units : Int32) (f_site_ties : Int32) (f_site_upper : (Nat → Int32)) (f_site_lower : (Nat → Int32)) (f_web_units : Int32) (f_web_under : (Nat → Int32)) (f_web_above : (Nat → Int32)) (f_web_reach : (Nat → Int32)) : Option (Int32 × (Nat → Int32) × (Nat → Int32) × (Nat → Int32)) :=
  cl (m_X5_weave f_web_units f_web_under f_web_above f_web_reach f_site_units f_site_ties f_site_upper f_site_lower (-1 : Int32)) fun r_1 =>
  some (r_1.1, r_1.2.1, r_1.2.2.1, r_1.2.2.2)
def m_X7_phasesInUse_L4 (f_site_units : Int32) (f_site_traits : (Nat → Int32)) : Nat → Int32 → Int32 → (Int32 → Int32 → Option Int32) → Option Int32
  | 0, _, _, _ => none
  | n_4 + 1, x1_4, x2_4, k_4 =>
    if (6 : Int32) ≤ x2_4 then (k_4 x1_4 x2_4)
    else (cl (m_X2_unitsOfPhase f_site_units f_site_traits x2_4) fun r_1 =>
    if r_1 = 0 then (m_X7_phasesInUse_L4 f_site_units f_site_traits n_4 x1_4 (x2_4 + (1 : Int32)) k_4)
    else (lt ((x1_4 ||| ((1 : Int32) <<< (x2_4 &&& 31)))) fun v_3 =>
    m_X7_phasesInUse_L4 f_site_units f_site_traits n_4 v_3 (x2_4 + (1 : Int32)) k_4))
def m_X7_phasesInUse (f_site_units : Int32) (f_site_traits : (Nat → Int32)) : Option Int32 :=
  m_X7_phasesInUse_L4 f_site_units f_site_traits FU (0 : Int32) (0 : Int32) fun x1_4 x2_4 =>
  some x1_4
def m_X7_told (f_site_units : Int32) (f_site_ties : Int32) (f_site_digs : Int32) (f_site_traits : (Nat → Int32)) (f_site_upper : (Nat → Int32)) (f_site_lower : (Nat → Int32)) (f_web_units : Int32) (f_web_under : (Nat → Int32)) (f_web_above : (Nat → Int32)) (f_web_reach : (Nat → Int32)) (f_web_levelRow : (Nat → Int32)) (a_1 : Int32) : Option (Int32 × (Nat → Int32) × (Nat → Int32) × (Nat → Int32) × (Nat → Int32) × Int32) :=
  if a_1 = 0 then (some (f_web_units, f_web_under, f_web_above, f_web_reach, f_web_levelRow, f_site_units))
  else (if a_1 = 1 then (some (f_web_units, f_web_under, f_web_above, f_web_reach, f_web_levelRow, f_site_ties))
  else (if a_1 = 2 then (cl (m_X7_woven f_site_units f_site_ties f_site_upper f_site_lower f_web_units f_web_under f_web_above f_web_reach) fun r_1 =>
  cl (m_X5_reducedTies r_1.1 r_1.2.1 r_1.2.2.2) fun r_3 =>
  some (r_1.1, r_1.2.1, r_1.2.2.1, r_1.2.2.2, f_web_levelRow, r_3))
  else (if a_1 = 3 then (cl (m_X7_woven f_site_units f_site_ties f_site_upper f_site_lower f_web_units f_web_under f_web_above f_web_reach) fun r_5 =>
  cl (m_X5_hasCycle r_5.1 r_5.2.2.2) fun r_7 =>
  if r_7 = 0 then (cl (m_X5_rankLevels r_5.1 r_5.2.1 f_web_levelRow) fun r_9 =>
  some (r_5.1, r_5.2.1, r_5.2.2.1, r_5.2.2.2, r_9.1, r_9.2))
  else (some (r_5.1, r_5.2.1, r_5.2.2.1, r_5.2.2.2, f_web_levelRow, (-5 : Int32))))
  else (if a_1 = 4 then (cl (m_X7_woven f_site_units f_site_ties f_site_upper f_site_lower f_web_units f_web_under f_web_above f_web_reach) fun r_11 =>
  cl (m_X5_selfReachers r_11.1 r_11.2.2.2) fun r_13 =>
  cl (m_J6_bitCount_0f7a4 r_13) fun r_15 =>
  some (r_11.1, r_11.2.1, r_11.2.2.1, r_11.2.2.2, f_web_levelRow, r_15))
  else (if a_1 = 5 then (some (f_web_units, f_web_under, f_web_above, f_web_reach, f_web_levelRow, f_site_digs))
  else (if a_1 = 6 then (cl (m_X7_phasesInUse f_site_units f_site_traits) fun r_17 =>
  some (f_web_units, f_web_under, f_web_above, f_web_reach, f_web_levelRow, r_17))
  else (some (f_web_units, f_web_under, f_web_above, f_web_reach, f_web_levelRow, (-1 : Int32)))))))))
def m_X7_below (f_site_units : Int32) (f_site_ties : Int32) (f_site_upper : (Nat → Int32)) (f_site_lower : (Nat → Int32)) (f_web_units : Int32) (f_web_under : (Nat → Int32)) (f_web_above : (Nat → Int32)) (f_web_reach : (Nat → Int32)) (a_1 : Int32) (a_2 : Int32) : Option (Int32 × (Nat → Int32) × (Nat → Int32) × (Nat → Int32) × Int32) :=
  cl (m_X2_isUnit f_site_units a_1) fun r_1 =>
  if r_1 = 0 then (some (f_web_units, f_web_under, f_web_above, f_web_reach, (-1 : Int32)))
  else (if a_2 < 0 then (some (f_web_units, f_web_under, f_web_above, f_web_reach, (-1 : Int32)))
  else (if a_2 ≤ (4 : Int32) then (cl (m_X7_woven f_site_units f_site_ties f_site_upper f_site_lower f_web_units f_web_under f_web_above f_web_reach) fun r_3 =>
  if a_2 = 0 then (ag r_3.2.1 12 a_1 fun v_5 =>
  some (r_3.1, r_3.2.1, r_3.2.2.1, r_3.2.2.2, v_5))
  else (if a_2 = 1 then (ag r_3.2.2.2 12 a_1 fun v_6 =>
  some (r_3.1, r_3.2.1, r_3.2.2.1, r_3.2.2.2, v_6))
  else (if a_2 = 2 then (cl (m_X5_reducedUnder r_3.1 r_3.2.1 r_3.2.2.2 a_1) fun r_7 =>
  some (r_3.1, r_3.2.1, r_3.2.2.1, r_3.2.2.2, r_7))
  else (if a_2 = 3 then (ag r_3.2.2.1 12 a_1 fun v_9 =>
  some (r_3.1, r_3.2.1, r_3.2.2.1, r_3.2.2.2, v_9))
  else (cl (m_X5_reachersOf r_3.1 r_3.2.2.2 a_1) fun r_10 =>
  some (r_3.1, r_3.2.1, r_3.2.2.1, r_3.2.2.2, r_10))))))
  else (some (f_web_units, f_web_under, f_web_above, f_web_reach, (-1 : Int32)))))
def m_X7_cycle (f_site_units : Int32) (f_site_ties : Int32) (f_site_upper : (Nat → Int32)) (f_site_lower : (Nat → Int32)) (f_web_units : Int32) (f_web_under : (Nat → Int32)) (f_web_above : (Nat → Int32)) (f_web_reach : (Nat → Int32)) (f_web_shown : (Nat → Int32)) (f_web_stepsBack : (Nat → Int32)) (a_1 : Int32) : Option (Int32 × (Nat → Int32) × (Nat → Int32) × (Nat → Int32) × (Nat → Int32) × (Nat → Int32) × Int32) :=
  if (-1 : Int32) ≤ a_1 then (cl (m_X7_woven f_site_units f_site_ties f_site_upper f_site_lower f_web_units f_web_under f_web_above f_web_reach) fun r_1 =>
  cl (m_X5_showCycle r_1.1 r_1.2.1 r_1.2.2.2 f_web_shown f_web_stepsBack) fun r_3 =>
  if a_1 = (-1 : Int32) then (some (r_1.1, r_1.2.1, r_1.2.2.1, r_1.2.2.2, r_3.1, r_3.2.1, r_3.2.2))
  else (if r_3.2.2 ≤ a_1 then (some (r_1.1, r_1.2.1, r_1.2.2.1, r_1.2.2.2, r_3.1, r_3.2.1, (-5 : Int32)))
  else (ag r_3.1 12 a_1 fun v_5 =>
  some (r_1.1, r_1.2.1, r_1.2.2.1, r_1.2.2.2, r_3.1, r_3.2.1, v_5))))
  else (some (f_web_units, f_web_under, f_web_above, f_web_reach, f_web_shown, f_web_stepsBack, (-1 : Int32)))
def m_X7_level (f_site_units : Int32) (f_site_ties : Int32) (f_site_upper : (Nat → Int32)) (f_site_lower : (Nat → Int32)) (f_web_units : Int32) (f_web_under : (Nat → Int32)) (f_web_above : (Nat → Int32)) (f_web_reach : (Nat → Int32)) (f_web_levelRow : (Nat → Int32)) (a_1 : Int32) : Option (Int32 × (Nat → Int32) × (Nat → Int32) × (Nat → Int32) × (Nat → Int32) × Int32) :=
  cl (m_X2_isUnit f_site_units a_1) fun r_1 =>
  if r_1 = 0 then (some (f_web_units, f_web_under, f_web_above, f_web_reach, f_web_levelRow, (-1 : Int32)))
  else (cl (m_X7_woven f_site_units f_site_ties f_site_upper f_site_lower f_web_units f_web_under f_web_above f_web_reach) fun r_3 =>
  cl (m_X5_hasCycle r_3.1 r_3.2.2.2) fun r_5 =>
  if r_5 = 0 then (cl (m_X5_rankLevels r_3.1 r_3.2.1 f_web_levelRow) fun r_7 =>
  ag r_7.1 12 a_1 fun v_9 =>
  some (r_3.1, r_3.2.1, r_3.2.2.1, r_3.2.2.2, r_7.1, v_9))
  else (some (r_3.1, r_3.2.1, r_3.2.2.1, r_3.2.2.2, f_web_levelRow, (-3 : Int32))))
def m_X7_idle_L15 (f_site_ties : Int32) (f_site_upper : (Nat → Int32)) (f_site_lower : (Nat → Int32)) (a_1 : Int32) (r_1 : (Int32 × (Nat → Int32) × (Nat → Int32) × (Nat → Int32))) : Nat → Int32 → Int32 → (Int32 → Int32 → Option (Int32 × (Nat → Int32) × (Nat → Int32) × (Nat → Int32) × Int32)) → Option (Int32 × (Nat → Int32) × (Nat → Int32) × (Nat → Int32) × Int32)
  | 0, _, _, _ => none
  | n_15 + 1, x2_15, x3_15, k_15 =>
    if f_site_ties ≤ x3_15 then (k_15 x2_15 x3_15)
    else (ag f_site_upper 40 x3_15 fun v_3 =>
    ag f_site_lower 40 x3_15 fun v_4 =>
    cl (m_X5_isReduced r_1.1 r_1.2.1 r_1.2.2.2 v_3 v_4) fun r_5 =>
    if r_5 = 0 then (if x2_15 = a_1 then (cl (m_X2_tieTold f_site_upper f_site_lower x3_15) fun r_7 =>
    some (r_1.1, r_1.2.1, r_1.2.2.1, r_1.2.2.2, r_7))
    else (m_X7_idle_L15 f_site_ties f_site_upper f_site_lower a_1 r_1 n_15 (x2_15 + (1 : Int32)) (x3_15 + (1 : Int32)) k_15))
    else (m_X7_idle_L15 f_site_ties f_site_upper f_site_lower a_1 r_1 n_15 x2_15 (x3_15 + (1 : Int32)) k_15))
def m_X7_idle (f_site_units : Int32) (f_site_ties : Int32) (f_site_upper : (Nat → Int32)) (f_site_lower : (Nat → Int32)) (f_web_units : Int32) (f_web_under : (Nat → Int32)) (f_web_above : (Nat → Int32)) (f_web_reach : (Nat → Int32)) (a_1 : Int32) : Option (Int32 × (Nat → Int32) × (Nat → Int32) × (Nat → Int32) × Int32) :=
  if 0 ≤ a_1 then (cl (m_X7_woven f_site_units f_site_ties f_site_upper f_site_lower f_web_units f_web_under f_web_above f_web_reach) fun r_1 =>
  m_X7_idle_L15 f_site_ties f_site_upper f_site_lower a_1 r_1 FU (0 : Int32) (0 : Int32) fun x2_15 x3_15 =>
  some (r_1.1, r_1.2.1, r_1.2.2.1, r_1.2.2.2, (-5 : Int32)))
  else (some (f_web_units, f_web_under, f_web_above, f_web_reach, (-1 : Int32)))
def m_X7_proof (f_site_units : Int32) (f_site_ties : Int32) (f_site_traits : (Nat → Int32)) (f_site_upper : (Nat → Int32)) (f_site_lower : (Nat → Int32)) (f_web_units : Int32) (f_web_under : (Nat → Int32)) (f_web_above : (Nat → Int32)) (f_web_reach : (Nat → Int32)) (f_web_shown : (Nat → Int32)) (f_web_stepsBack : (Nat → Int32)) (f_verdict_numbers : (Nat → Int32)) (f_verdict_size : Int32) (a_1 : Int32) : Option (Int32 × (Nat → Int32) × (Nat → Int32) × (Nat → Int32) × (Nat → Int32) × (Nat → Int32) × (Nat → Int32) × Int32 × Int32) :=
  if 0 ≤ a_1 then (cl (m_X7_woven f_site_units f_site_ties f_site_upper f_site_lower f_web_units f_web_under f_web_above f_web_reach) fun r_1 =>
  cl (m_X3_examine f_verdict_numbers f_verdict_size f_site_units f_site_traits r_1.1 r_1.2.1 r_1.2.2.2 f_web_shown f_web_stepsBack) fun r_3 =>
  if r_3.2.1 ≤ a_1 then (some (r_1.1, r_1.2.1, r_1.2.2.1, r_1.2.2.2, r_3.2.2.1, r_3.2.2.2, r_3.1, r_3.2.1, (-5 : Int32)))
  else (ag r_3.1 3 a_1 fun v_5 =>
  some (r_1.1, r_1.2.1, r_1.2.2.1, r_1.2.2.2, r_3.2.2.1, r_3.2.2.2, r_3.1, r_3.2.1, v_5)))
  else (some (f_web_units, f_web_under, f_web_above, f_web_reach, f_web_shown, f_web_stepsBack, f_verdict_numbers, f_verdict_size, (-1 : Int32)))
def m_X7_isPhase (a_1 : Int32) : Option Int32 :=
  if a_1 < 0 then (some (0 : Int32))
  else (if (6 : Int32) ≤ a_1 then (some (0 : Int32))
  else (some (1 : Int32)))
def m_X7_isOver (f_site_units : Int32) (f_site_traits : (Nat → Int32)) (f_web_units : Int32) (f_web_reach : (Nat → Int32)) (a_1 : Int32) (a_2 : Int32) : Option Int32 :=
  cl (m_X5_phaseReaches f_web_units f_web_reach f_site_units f_site_traits a_1 a_2) fun r_1 =>
  if r_1 = 0 then (some (0 : Int32))
  else (cl (m_X5_phaseReaches f_web_units f_web_reach f_site_units f_site_traits a_2 a_1) fun r_3 =>
  if r_3 = 0 then (some (1 : Int32))
  else (some (0 : Int32)))
def m_X7_over (f_site_units : Int32) (f_site_ties : Int32) (f_site_traits : (Nat → Int32)) (f_site_upper : (Nat → Int32)) (f_site_lower : (Nat → Int32)) (f_web_units : Int32) (f_web_under : (Nat → Int32)) (f_web_above : (Nat → Int32)) (f_web_reach : (Nat → Int32)) (a_1 : Int32) (a_2 : Int32) : Option (Int32 × (Nat → Int32) × (Nat → Int32) × (Nat → Int32) × Int32) :=
  cl (m_X7_isPhase a_1) fun r_1 =>
  if r_1 = 0 then (some (f_web_units, f_web_under, f_web_above, f_web_reach, (-1 : Int32)))
  else (cl (m_X7_isPhase a_2) fun r_3 =>
  if r_3 = 0 then (some (f_web_units, f_web_under, f_web_above, f_web_reach, (-1 : Int32)))
  else (if a_1 = a_2 then (some (f_web_units, f_web_under, f_web_above, f_web_reach, (-1 : Int32)))
  else (cl (m_X7_woven f_site_units f_site_ties f_site_upper f_site_lower f_web_units f_web_under f_web_above f_web_reach) fun r_5 =>
  cl (m_X7_isOver f_site_units f_site_traits r_5.1 r_5.2.2.2 a_1 a_2) fun r_7 =>
  if r_7 = 0 then (some (r_5.1, r_5.2.1, r_5.2.2.1, r_5.2.2.2, (0 : Int32)))
  else (some (r_5.1, r_5.2.1, r_5.2.2.1, r_5.2.2.2, (1 : Int32))))))
def m_X7_phasesUnder_L4 (f_site_units : Int32) (f_web_units : Int32) (f_site_traits : (Nat → Int32)) (f_web_reach : (Nat → Int32)) (a_1 : Int32) : Nat → Int32 → Int32 → (Int32 → Int32 → Option Int32) → Option Int32
  | 0, _, _, _ => none
  | n_4 + 1, x2_4, x3_4, k_4 =>
    if (6 : Int32) ≤ x3_4 then (k_4 x2_4 x3_4)
    else (if x3_4 = a_1 then (m_X7_phasesUnder_L4 f_site_units f_web_units f_site_traits f_web_reach a_1 n_4 x2_4 (x3_4 + (1 : Int32)) k_4)
    else (cl (m_X7_isOver f_site_units f_site_traits f_web_units f_web_reach a_1 x3_4) fun r_1 =>
    if r_1 = 0 then (m_X7_phasesUnder_L4 f_site_units f_web_units f_site_traits f_web_reach a_1 n_4 x2_4 (x3_4 + (1 : Int32)) k_4)
    else (lt ((x2_4 ||| ((1 : Int32) <<< (x3_4 &&& 31)))) fun v_3 =>
    m_X7_phasesUnder_L4 f_site_units f_web_units f_site_traits f_web_reach a_1 n_4 v_3 (x3_4 + (1 : Int32)) k_4)))
def m_X7_phasesUnder (f_site_units : Int32) (f_site_traits : (Nat → Int32)) (f_web_units : Int32) (f_web_reach : (Nat → Int32)) (a_1 : Int32) : Option Int32 :=
  m_X7_phasesUnder_L4 f_site_units f_web_units f_site_traits f_web_reach a_1 FU (0 : Int32) (0 : Int32) fun x2_4 x3_4 =>
  some x2_4
def m_X7_rank_L31 (f_site_units : Int32) (f_site_traits : (Nat → Int32)) (r_3 : (Int32 × (Nat → Int32) × (Nat → Int32) × (Nat → Int32))) : Nat → Int32 → Int32 → (Int32 → Int32 → Option (Int32 × (Nat → Int32) × (Nat → Int32) × (Nat → Int32) × Int32)) → Option (Int32 × (Nat → Int32) × (Nat → Int32) × (Nat → Int32) × Int32)
  | 0, _, _, _ => none
  | n_31 + 1, x2_31, x4_31, k_31 =>
    if (6 : Int32) ≤ x4_31 then (k_31 x2_31 x4_31)
    else (cl (m_X7_hasBit x2_31 x4_31) fun r_7 =>
    if r_7 = 0 then (m_X7_rank_L31 f_site_units f_site_traits r_3 n_31 x2_31 (x4_31 + (1 : Int32)) k_31)
    else (cl (m_X7_phasesUnder f_site_units f_site_traits r_3.1 r_3.2.2.2 x4_31) fun r_9 =>
    m_X7_rank_L31 f_site_units f_site_traits r_3 n_31 (x2_31 ||| r_9) (x4_31 + (1 : Int32)) k_31))
def m_X7_rank_L22 (f_site_units : Int32) (f_site_traits : (Nat → Int32)) (r_3 : (Int32 × (Nat → Int32) × (Nat → Int32) × (Nat → Int32))) : Nat → Int32 → Int32 → (Int32 → Int32 → Option (Int32 × (Nat → Int32) × (Nat → Int32) × (Nat → Int32) × Int32)) → Option (Int32 × (Nat → Int32) × (Nat → Int32) × (Nat → Int32) × Int32)
  | 0, _, _, _ => none
  | n_22 + 1, x2_22, x3_22, k_22 =>
    if (6 : Int32) ≤ x3_22 then (k_22 x2_22 x3_22)
    else (m_X7_rank_L31 f_site_units f_site_traits r_3 FU x2_22 (0 : Int32) fun x2_31 x4_31 =>
    m_X7_rank_L22 f_site_units f_site_traits r_3 n_22 x2_31 (x3_22 + (1 : Int32)) k_22)
def m_X7_rank (f_site_units : Int32) (f_site_ties : Int32) (f_site_traits : (Nat → Int32)) (f_site_upper : (Nat → Int32)) (f_site_lower : (Nat → Int32)) (f_web_units : Int32) (f_web_under : (Nat → Int32)) (f_web_above : (Nat → Int32)) (f_web_reach : (Nat → Int32)) (a_1 : Int32) : Option (Int32 × (Nat → Int32) × (Nat → Int32) × (Nat → Int32) × Int32) :=
  cl (m_X7_isPhase a_1) fun r_1 =>
  if r_1 = 0 then (some (f_web_units, f_web_under, f_web_above, f_web_reach, (-1 : Int32)))
  else (cl (m_X7_woven f_site_units f_site_ties f_site_upper f_site_lower f_web_units f_web_under f_web_above f_web_reach) fun r_3 =>
  cl (m_X7_phasesUnder f_site_units f_site_traits r_3.1 r_3.2.2.2 a_1) fun r_5 =>
  m_X7_rank_L22 f_site_units f_site_traits r_3 FU r_5 (1 : Int32) fun x2_22 x3_22 =>
  cl (m_J6_bitCount_0f7a4 (x2_22 &&& (((1 : Int32) <<< (a_1 &&& 31)) ^^^ (-1 : Int32)))) fun r_11 =>
  some (r_3.1, r_3.2.1, r_3.2.2.1, r_3.2.2.2, r_11))
def m_X7_bounds (f_site_units : Int32) (f_site_ties : Int32) (f_site_traits : (Nat → Int32)) (f_site_upper : (Nat → Int32)) (f_site_lower : (Nat → Int32)) (f_web_units : Int32) (f_web_under : (Nat → Int32)) (f_web_above : (Nat → Int32)) (f_web_reach : (Nat → Int32)) (a_1 : Int32) (a_2 : Int32) : Option (Int32 × (Nat → Int32) × (Nat → Int32) × (Nat → Int32) × Int32) :=
  cl (m_X2_isUnit f_site_units a_1) fun r_1 =>
  if r_1 = 0 then (some (f_web_units, f_web_under, f_web_above, f_web_reach, (-1 : Int32)))
  else (if a_2 < 0 then (some (f_web_units, f_web_under, f_web_above, f_web_reach, (-1 : Int32)))
  else (if a_2 ≤ (1 : Int32) then (cl (m_X7_woven f_site_units f_site_ties f_site_upper f_site_lower f_web_units f_web_under f_web_above f_web_reach) fun r_3 =>
  cl (m_X5_hasCycle r_3.1 r_3.2.2.2) fun r_5 =>
  if r_5 = 0 then (if a_2 = 0 then (cl (m_X5_earliest r_3.1 r_3.2.2.2 f_site_traits a_1) fun r_9 =>
  some (r_3.1, r_3.2.1, r_3.2.2.1, r_3.2.2.2, r_9))
  else (cl (m_X5_latest r_3.1 r_3.2.2.2 f_site_traits a_1) fun r_7 =>
  some (r_3.1, r_3.2.1, r_3.2.2.1, r_3.2.2.2, r_7)))
  else (some (r_3.1, r_3.2.1, r_3.2.2.1, r_3.2.2.2, (-3 : Int32))))
  else (some (f_web_units, f_web_under, f_web_above, f_web_reach, (-1 : Int32)))))
def m_X7_middleOf (f_site_traits : (Nat → Int32)) (f_web_units : Int32) (f_web_reach : (Nat → Int32)) (a_1 : Int32) : Option UInt64 :=
  cl (m_X5_earliest f_web_units f_web_reach f_site_traits a_1) fun r_1 =>
  cl (m_X5_latest f_web_units f_web_reach f_site_traits a_1) fun r_3 =>
  fgd (FP.dadd (FP.i2d r_1) (FP.i2d r_3)) fun v_5 =>
  fgd (FP.ddiv v_5 (4611686018427387904 : UInt64)) fun v_6 =>
  some v_6
def m_X7_bitsOfDouble_L18  : Nat → UInt64 → Int64 → Int32 → (UInt64 → Int64 → Int32 → Option Int64) → Option Int64
  | 0, _, _, _, _ => none
  | n_18 + 1, x2_18, x4_18, x6_18, k_18 =>
    if (1100 : Int32) ≤ x6_18 then (k_18 x2_18 x4_18 x6_18)
    else (if (Op.cmpValue (FP.dcmp x2_18 (4611686018427387904 : UInt64)) .l) < 0 then (k_18 x2_18 x4_18 x6_18)
    else (fgd (FP.ddiv x2_18 (4611686018427387904 : UInt64)) fun v_1 =>
    m_X7_bitsOfDouble_L18  n_18 v_1 (x4_18 + (1 : Int64)) (x6_18 + (1 : Int32)) k_18))
def m_X7_bitsOfDouble_L55  : Nat → UInt64 → Int64 → Int32 → (UInt64 → Int64 → Int32 → Option Int64) → Option Int64
  | 0, _, _, _, _ => none
  | n_55 + 1, x2_55, x4_55, x6_55, k_55 =>
    if (1100 : Int32) ≤ x6_55 then (k_55 x2_55 x4_55 x6_55)
    else (if 0 ≤ (Op.cmpValue (FP.dcmp x2_55 FP.dconst1) .g) then (k_55 x2_55 x4_55 x6_55)
    else (fgd (FP.dmul x2_55 (4611686018427387904 : UInt64)) fun v_2 =>
    m_X7_bitsOfDouble_L55  n_55 v_2 (x4_55 - (1 : Int64)) (x6_55 + (1 : Int32)) k_55))
def m_X7_bitsOfDouble (a_1 : UInt64) : Option Int64 :=
  if 0 < (Op.cmpValue (FP.dcmp a_1 FP.dconst0) .l) then (m_X7_bitsOfDouble_L18  FU a_1 (1023 : Int64) (0 : Int32) fun x2_18 x4_18 x6_18 =>
  m_X7_bitsOfDouble_L55  FU x2_18 x4_18 (0 : Int32) fun x2_55 x4_55 x6_55 =>
  fgd (FP.dsub x2_55 FP.dconst1) fun v_3 =>
  fgd (FP.dmul v_3 (4841369599423283200 : UInt64)) fun v_4 =>
  some ((x4_55 <<< (((52 : Int32)).toInt64 &&& 63)) ||| (FP.d2l v_4)))
  else (some (0 : Int64))
def m_X7_middle (f_site_units : Int32) (f_site_ties : Int32) (f_site_traits : (Nat → Int32)) (f_site_upper : (Nat → Int32)) (f_site_lower : (Nat → Int32)) (f_web_units : Int32) (f_web_under : (Nat → Int32)) (f_web_above : (Nat → Int32)) (f_web_reach : (Nat → Int32)) (a_1 : Int32) : Option (Int32 × (Nat → Int32) × (Nat → Int32) × (Nat → Int32) × Int64) :=
  cl (m_X2_isUnit f_site_units a_1) fun r_1 =>
  if r_1 = 0 then (some (f_web_units, f_web_under, f_web_above, f_web_reach, (-9223372036854775808 : Int64)))
  else (cl (m_X7_woven f_site_units f_site_ties f_site_upper f_site_lower f_web_units f_web_under f_web_above f_web_reach) fun r_3 =>
  cl (m_X5_hasCycle r_3.1 r_3.2.2.2) fun r_5 =>
  if r_5 = 0 then (cl (m_X7_middleOf f_site_traits r_3.1 r_3.2.2.2 a_1) fun r_7 =>
  cl (m_X7_bitsOfDouble r_7) fun r_9 =>
  some (r_3.1, r_3.2.1, r_3.2.2.1, r_3.2.2.2, r_9))
  else (some (r_3.1, r_3.2.1, r_3.2.2.1, r_3.2.2.2, (-9223372036854775808 : Int64))))
def m_X7_bitsOfFloat_L15  : Nat → UInt32 → Int32 → Int32 → (UInt32 → Int32 → Int32 → Option Int32) → Option Int32
  | 0, _, _, _, _ => none
  | n_15 + 1, x1_15, x2_15, x3_15, k_15 =>
    if (200 : Int32) ≤ x3_15 then (k_15 x1_15 x2_15 x3_15)
    else (if (Op.cmpValue (FP.fcmp x1_15 FP.fconst2) .l) < 0 then (k_15 x1_15 x2_15 x3_15)
    else (fgf (FP.fdiv x1_15 FP.fconst2) fun v_1 =>
    m_X7_bitsOfFloat_L15  n_15 v_1 (x2_15 + (1 : Int32)) (x3_15 + (1 : Int32)) k_15))
def m_X7_bitsOfFloat_L43  : Nat → UInt32 → Int32 → Int32 → (UInt32 → Int32 → Int32 → Option Int32) → Option Int32
  | 0, _, _, _, _ => none
  | n_43 + 1, x1_43, x2_43, x3_43, k_43 =>
    if (200 : Int32) ≤ x3_43 then (k_43 x1_43 x2_43 x3_43)
    else (if 0 ≤ (Op.cmpValue (FP.fcmp x1_43 FP.fconst1) .g) then (k_43 x1_43 x2_43 x3_43)
    else (fgf (FP.fmul x1_43 FP.fconst2) fun v_2 =>
    m_X7_bitsOfFloat_L43  n_43 v_2 (x2_43 + (-1 : Int32)) (x3_43 + (1 : Int32)) k_43))
def m_X7_bitsOfFloat (a_1 : UInt32) : Option Int32 :=
  if 0 < (Op.cmpValue (FP.fcmp a_1 FP.fconst0) .l) then (m_X7_bitsOfFloat_L15  FU a_1 (127 : Int32) (0 : Int32) fun x1_15 x2_15 x3_15 =>
  m_X7_bitsOfFloat_L43  FU x1_15 x2_15 (0 : Int32) fun x1_43 x2_43 x3_43 =>
  fgf (FP.fsub x1_43 FP.fconst1) fun v_3 =>
  fgf (FP.fmul v_3 (1258291200 : UInt32)) fun v_4 =>
  some ((x2_43 <<< ((23 : Int32) &&& 31)) ||| (FP.f2i v_4)))
  else (some (0 : Int32))
def m_X7_rate (f_site_units : Int32) (f_site_ties : Int32) (f_site_traits : (Nat → Int32)) (f_site_upper : (Nat → Int32)) (f_site_lower : (Nat → Int32)) (f_web_units : Int32) (f_web_under : (Nat → Int32)) (f_web_above : (Nat → Int32)) (f_web_reach : (Nat → Int32)) (a_1 : Int32) : Option (Int32 × (Nat → Int32) × (Nat → Int32) × (Nat → Int32) × Int32) :=
  cl (m_X2_isUnit f_site_units a_1) fun r_1 =>
  if r_1 = 0 then (some (f_web_units, f_web_under, f_web_above, f_web_reach, (-1 : Int32)))
  else (cl (m_X7_woven f_site_units f_site_ties f_site_upper f_site_lower f_web_units f_web_under f_web_above f_web_reach) fun r_3 =>
  cl (m_X5_hasCycle r_3.1 r_3.2.2.2) fun r_5 =>
  if r_5 = 0 then (cl (m_X5_latest r_3.1 r_3.2.2.2 f_site_traits a_1) fun r_7 =>
  cl (m_X5_earliest r_3.1 r_3.2.2.2 f_site_traits a_1) fun r_9 =>
  lt (((r_7 - r_9) + (1 : Int32))) fun v_11 =>
  if (1 : Int32) ≤ v_11 then (cl (m_X2_trait f_site_traits (1 : Int32) a_1) fun r_12 =>
  fgf (FP.fdiv (FP.i2f r_12) (FP.i2f v_11)) fun v_14 =>
  cl (m_X7_bitsOfFloat v_14) fun r_15 =>
  some (r_3.1, r_3.2.1, r_3.2.2.1, r_3.2.2.2, r_15))
  else (some (r_3.1, r_3.2.1, r_3.2.2.1, r_3.2.2.2, (0 : Int32))))
  else (some (r_3.1, r_3.2.1, r_3.2.2.1, r_3.2.2.2, (-3 : Int32))))
def m_X7_ageOf_L8 (f_site_units : Int32) (f_web_units : Int32) (f_site_traits : (Nat → Int32)) (f_web_reach : (Nat → Int32)) (a_1 : Int32) : Nat → UInt64 → Int32 → Int32 → (UInt64 → Int32 → Int32 → Option UInt64) → Option UInt64
  | 0, _, _, _, _ => none
  | n_8 + 1, x2_8, x4_8, x5_8, k_8 =>
    if f_site_units ≤ x5_8 then (k_8 x2_8 x4_8 x5_8)
    else (cl (m_X2_trait f_site_traits (4 : Int32) x5_8) fun r_1 =>
    if r_1 = a_1 then (cl (m_X7_middleOf f_site_traits f_web_units f_web_reach x5_8) fun r_3 =>
    cl (m_X2_trait f_site_traits (1 : Int32) x5_8) fun r_5 =>
    fgd (FP.dmul r_3 (FP.i2d r_5)) fun v_7 =>
    fgd (FP.dadd x2_8 v_7) fun v_8 =>
    cl (m_X2_trait f_site_traits (1 : Int32) x5_8) fun r_9 =>
    m_X7_ageOf_L8 f_site_units f_web_units f_site_traits f_web_reach a_1 n_8 v_8 (x4_8 + r_9) (x5_8 + (1 : Int32)) k_8)
    else (m_X7_ageOf_L8 f_site_units f_web_units f_site_traits f_web_reach a_1 n_8 x2_8 x4_8 (x5_8 + (1 : Int32)) k_8))
def m_X7_ageOf (f_site_units : Int32) (f_site_traits : (Nat → Int32)) (f_web_units : Int32) (f_web_reach : (Nat → Int32)) (a_1 : Int32) : Option UInt64 :=
  m_X7_ageOf_L8 f_site_units f_web_units f_site_traits f_web_reach a_1 FU FP.dconst0 (0 : Int32) (0 : Int32) fun x2_8 x4_8 x5_8 =>
  if x4_8 = 0 then (some FP.dconst0)
  else (fgd (FP.ddiv x2_8 (FP.i2d x4_8)) fun v_11 =>
  some v_11)
def m_X7_age (f_site_units : Int32) (f_site_ties : Int32) (f_site_traits : (Nat → Int32)) (f_site_upper : (Nat → Int32)) (f_site_lower : (Nat → Int32)) (f_web_units : Int32) (f_web_under : (Nat → Int32)) (f_web_above : (Nat → Int32)) (f_web_reach : (Nat → Int32)) (a_1 : Int32) (a_2 : Int32) : Option (Int32 × (Nat → Int32) × (Nat → Int32) × (Nat → Int32) × Int64) :=
  cl (m_X7_isPhase a_1) fun r_1 =>
  if r_1 = 0 then (some (f_web_units, f_web_under, f_web_above, f_web_reach, (-9223372036854775808 : Int64)))
  else (if a_2 < 0 then (some (f_web_units, f_web_under, f_web_above, f_web_reach, (-9223372036854775808 : Int64)))
  else (if a_2 ≤ (1 : Int32) then (cl (m_X2_unitsOfPhase f_site_units f_site_traits a_1) fun r_3 =>
  if r_3 = 0 then (some (f_web_units, f_web_under, f_web_above, f_web_reach, (-9223372036854775808 : Int64)))
  else (cl (m_X7_woven f_site_units f_site_ties f_site_upper f_site_lower f_web_units f_web_under f_web_above f_web_reach) fun r_5 =>
  cl (m_X5_hasCycle r_5.1 r_5.2.2.2) fun r_7 =>
  if r_7 = 0 then (cl (m_X7_ageOf f_site_units f_site_traits r_5.1 r_5.2.2.2 a_1) fun r_9 =>
  if a_2 = 0 then (cl (m_X7_bitsOfDouble r_9) fun r_12 =>
  some (r_5.1, r_5.2.1, r_5.2.2.1, r_5.2.2.2, r_12))
  else (fgd (FP.dadd r_9 (4602678819172646912 : UInt64)) fun v_11 =>
  some (r_5.1, r_5.2.1, r_5.2.2.1, r_5.2.2.2, (FP.d2l v_11))))
  else (some (r_5.1, r_5.2.1, r_5.2.2.1, r_5.2.2.2, (-9223372036854775808 : Int64)))))
  else (some (f_web_units, f_web_under, f_web_above, f_web_reach, (-9223372036854775808 : Int64)))))
def m_X7_dig (f_site_units : Int32) (f_site_ties : Int32) (f_site_digs : Int32) (f_site_upper : (Nat → Int32)) (f_site_lower : (Nat → Int32)) (f_site_digRow : (Nat → Int32)) (f_web_units : Int32) (f_web_under : (Nat → Int32)) (f_web_above : (Nat → Int32)) (f_web_reach : (Nat → Int32)) (a_1 : Int32) : Option (Int32 × (Nat → Int32) × Int32 × (Nat → Int32) × (Nat → Int32) × (Nat → Int32) × Int32) :=
  cl (m_X2_isUnit f_site_units a_1) fun r_1 =>
  if r_1 = 0 then (some (f_site_digs, f_site_digRow, f_web_units, f_web_under, f_web_above, f_web_reach, (-1 : Int32)))
  else (cl (m_X2_isDug f_site_digs f_site_digRow a_1) fun r_3 =>
  if r_3 = 0 then (cl (m_X7_woven f_site_units f_site_ties f_site_upper f_site_lower f_web_units f_web_under f_web_above f_web_reach) fun r_5 =>
  ag r_5.2.2.1 12 a_1 fun v_7 =>
  cl (m_X2_dugUnits f_site_digs f_site_digRow) fun r_8 =>
  if (v_7 &&& (r_8 ^^^ (-1 : Int32))) = 0 then (cl (m_X2_addDug f_site_digs f_site_digRow a_1) fun r_10 =>
  some (r_10.1, r_10.2, r_5.1, r_5.2.1, r_5.2.2.1, r_5.2.2.2, r_10.1))
  else (some (f_site_digs, f_site_digRow, r_5.1, r_5.2.1, r_5.2.2.1, r_5.2.2.2, (-3 : Int32))))
  else (some (f_site_digs, f_site_digRow, f_web_units, f_web_under, f_web_above, f_web_reach, (-3 : Int32))))
def m_X7_lay (f_site_digs : Int32) (f_site_digRow : (Nat → Int32)) : Option (Int32 × Int32) :=
  if f_site_digs = 0 then (some (f_site_digs, (-3 : Int32)))
  else (ag f_site_digRow 12 (f_site_digs - (1 : Int32)) fun v_1 =>
  some ((f_site_digs - (1 : Int32)), v_1))
def m_X7_dug (f_site_digs : Int32) (f_site_digRow : (Nat → Int32)) (a_1 : Int32) : Option Int32 :=
  if 0 ≤ a_1 then (if f_site_digs ≤ a_1 then (some (-5 : Int32))
  else (ag f_site_digRow 12 a_1 fun v_1 =>
  some v_1))
  else (some (-1 : Int32))
def m_X7_lawfulOrders (f_web_units : Int32) (f_web_under : (Nat → Int32)) (f_web_above : (Nat → Int32)) (f_web_reach : (Nat → Int32)) (f_ways_table : (Nat → Int64)) (f_ways_blockers : (Nat → Int32)) (f_ways_left : Int32) (p1_units : Int32) (p1_ties : Int32) (p1_digs : Int32) (p1_upper : (Nat → Int32)) (p1_lower : (Nat → Int32)) (p1_digRow : (Nat → Int32)) : Option (Int32 × (Nat → Int32) × (Nat → Int32) × (Nat → Int32) × (Nat → Int64) × (Nat → Int32) × Int32 × Int64) :=
  cl (m_X5_weave f_web_units f_web_under f_web_above f_web_reach p1_units p1_ties p1_upper p1_lower (-1 : Int32)) fun r_1 =>
  cl (m_X5_hasCycle r_1.1 r_1.2.2.2) fun r_3 =>
  if r_3 = 0 then (cl (m_X2_allUnits p1_units) fun r_5 =>
  cl (m_X2_dugUnits p1_digs p1_digRow) fun r_7 =>
  cl (m_X4_number f_ways_table f_ways_blockers f_ways_left r_1.2.2.1 12 (r_5 &&& (r_7 ^^^ (-1 : Int32)))) fun r_9 =>
  some (r_1.1, r_1.2.1, r_1.2.2.1, r_1.2.2.2, r_9.1, r_9.2.1, r_9.2.2.1, r_9.2.2.2))
  else (some (r_1.1, r_1.2.1, r_1.2.2.1, r_1.2.2.2, f_ways_table, f_ways_blockers, f_ways_left, (0 : Int64)))
def m_X7_orders (f_site_units : Int32) (f_site_ties : Int32) (f_site_digs : Int32) (f_site_upper : (Nat → Int32)) (f_site_lower : (Nat → Int32)) (f_site_digRow : (Nat → Int32)) (f_web_units : Int32) (f_web_under : (Nat → Int32)) (f_web_above : (Nat → Int32)) (f_web_reach : (Nat → Int32)) (f_ways_table : (Nat → Int64)) (f_ways_blockers : (Nat → Int32)) (f_ways_left : Int32) : Option (Int32 × (Nat → Int32) × (Nat → Int32) × (Nat → Int32) × (Nat → Int64) × (Nat → Int32) × Int32 × Int64) :=
  cl (m_X7_lawfulOrders f_web_units f_web_under f_web_above f_web_reach f_ways_table f_ways_blockers f_ways_left f_site_units f_site_ties f_site_digs f_site_upper f_site_lower f_site_digRow) fun r_1 =>
  some (r_1.1, r_1.2.1, r_1.2.2.1, r_1.2.2.2.1, r_1.2.2.2.2.1, r_1.2.2.2.2.2.1, r_1.2.2.2.2.2.2.1, r_1.2.2.2.2.2.2.2)
def m_X7_order (f_site_units : Int32) (f_site_ties : Int32) (f_site_digs : Int32) (f_site_upper : (Nat → Int32)) (f_site_lower : (Nat → Int32)) (f_site_digRow : (Nat → Int32)) (f_web_units : Int32) (f_web_under : (Nat → Int32)) (f_web_above : (Nat → Int32)) (f_web_reach : (Nat → Int32)) (f_ways_table : (Nat → Int64)) (f_ways_blockers : (Nat → Int32)) (f_ways_left : Int32) (a_1 : Int64) (a_2 : Int32) : Option (Int32 × (Nat → Int32) × (Nat → Int32) × (Nat → Int32) × (Nat → Int64) × (Nat → Int32) × Int32 × Int32) :=
  if (lg_cmp a_1 (0 : Int64)) < 0 then (some (f_web_units, f_web_under, f_web_above, f_web_reach, f_ways_table, f_ways_blockers, f_ways_left, (-1 : Int32)))
  else (cl (m_X7_lawfulOrders f_web_units f_web_under f_web_above f_web_reach f_ways_table f_ways_blockers f_ways_left f_site_units f_site_ties f_site_digs f_site_upper f_site_lower f_site_digRow) fun r_1 =>
  if 0 ≤ (lg_cmp a_1 r_1.2.2.2.2.2.2.2) then (some (r_1.1, r_1.2.1, r_1.2.2.1, r_1.2.2.2.1, r_1.2.2.2.2.1, r_1.2.2.2.2.2.1, r_1.2.2.2.2.2.2.1, (-1 : Int32)))
  else (if a_2 < 0 then (some (r_1.1, r_1.2.1, r_1.2.2.1, r_1.2.2.2.1, r_1.2.2.2.2.1, r_1.2.2.2.2.2.1, r_1.2.2.2.2.2.2.1, (-1 : Int32)))
  else (if a_2 < (f_site_units - f_site_digs) then (cl (m_X4_unitOfOrder r_1.2.2.2.2.1 r_1.2.2.2.2.2.1 r_1.2.2.2.2.2.2.1 a_1 a_2) fun r_3 =>
  some (r_1.1, r_1.2.1, r_1.2.2.1, r_1.2.2.2.1, r_1.2.2.2.2.1, r_1.2.2.2.2.2.1, r_1.2.2.2.2.2.2.1, r_3))
  else (some (r_1.1, r_1.2.1, r_1.2.2.1, r_1.2.2.2.1, r_1.2.2.2.2.1, r_1.2.2.2.2.2.1, r_1.2.2.2.2.2.2.1, (-1 : Int32))))))
def m_X7_isTray (a_1 : Int32) : Option Int32 :=
  if a_1 < 0 then (some (0 : Int32))
  else (if (3 : Int32) ≤ a_1 then (some (0 : Int32))
  else (some (1 : Int32)))
def m_X7_isPlace (a_1 : Int32) : Option Int32 :=
  if a_1 < 0 then (some (0 : Int32))
  else (if (4 : Int32) ≤ a_1 then (some (0 : Int32))
  else (some (1 : Int32)))
def m_X7_takes (a_1 : Int32) (a_2 : Int32) : Option Int32 :=
  if a_1 = (1 : Int32) then (cl (m_X7_isCut a_2) fun r_1 =>
  zg r_1 (some r_1))
  else (if a_1 = 0 then (some (1 : Int32))
  else (if a_2 = (3 : Int32) then (some (1 : Int32))
  else (some (0 : Int32))))
def m_X7_tray (f_site_units : Int32) (f_site_traits : (Nat → Int32)) (f_site_heldUnit : (Nat → Int32)) (f_site_heldKind : (Nat → Int32)) (a_1 : Int32) (a_2 : Int32) (a_3 : Int32) : Option ((Nat → Int32) × (Nat → Int32) × Int32) :=
  cl (m_X7_isTray a_1) fun r_1 =>
  if r_1 = 0 then (some (f_site_heldUnit, f_site_heldKind, (-1 : Int32)))
  else (jn (fun x_25 : (Unit) =>
  cl (m_X7_isPlace a_2) fun r_3 =>
  if r_3 = 0 then (some (f_site_heldUnit, f_site_heldKind, (-13 : Int32)))
  else (jn (fun x_59 : (Unit) =>
  lt (((a_1 * (4 : Int32)) + a_2)) fun v_5 =>
  ag f_site_heldUnit 12 v_5 fun v_6 =>
  au f_site_heldUnit 12 v_5 a_3 fun g_7 =>
  if a_3 = (-1 : Int32) then (au f_site_heldKind 12 v_5 (-1 : Int32) fun g_11 =>
  if v_6 = (-1 : Int32) then (some (g_7, g_11, (-5 : Int32)))
  else (some (g_7, g_11, v_6)))
  else (cl (m_X2_trait f_site_traits (0 : Int32) a_3) fun r_8 =>
  au f_site_heldKind 12 v_5 r_8 fun g_10 =>
  if v_6 = (-1 : Int32) then (some (g_7, g_10, (-5 : Int32)))
  else (some (g_7, g_10, v_6)))) fun j_59 =>
  if a_3 = (-1 : Int32) then (j_59 ())
  else (cl (m_X2_trait f_site_traits (0 : Int32) a_3) fun r_12 =>
  cl (m_X7_takes a_1 r_12) fun r_14 =>
  if r_14 = 0 then (some (f_site_heldUnit, f_site_heldKind, (-12 : Int32)))
  else (j_59 ())))) fun j_25 =>
  if a_3 = (-1 : Int32) then (j_25 ())
  else (cl (m_X2_isUnit f_site_units a_3) fun r_16 =>
  if r_16 = 0 then (some (f_site_heldUnit, f_site_heldKind, (-1 : Int32)))
  else (j_25 ())))
def m_X7_held (f_site_heldUnit : (Nat → Int32)) (f_site_heldKind : (Nat → Int32)) (a_1 : Int32) (a_2 : Int32) (a_3 : Int32) : Option Int32 :=
  cl (m_X7_isTray a_1) fun r_1 =>
  if r_1 = 0 then (some (-1 : Int32))
  else (if a_3 < 0 then (some (-1 : Int32))
  else (if a_3 ≤ (1 : Int32) then (cl (m_X7_isPlace a_2) fun r_3 =>
  if r_3 = 0 then (some (-13 : Int32))
  else (lt (((a_1 * (4 : Int32)) + a_2)) fun v_5 =>
  ag f_site_heldUnit 12 v_5 fun v_6 =>
  if v_6 = (-1 : Int32) then (some (-5 : Int32))
  else (if a_3 = 0 then (ag f_site_heldUnit 12 v_5 fun v_8 =>
  some v_8)
  else (ag f_site_heldKind 12 v_5 fun v_7 =>
  some v_7))))
  else (some (-1 : Int32))))
def m_X7_feed (f_words_text : (Nat → Int32)) (f_words_length : Int32) (a_1 : Int32) : Option ((Nat → Int32) × Int32 × Int32) :=
  if a_1 < 0 then (some (f_words_text, f_words_length, (-2 : Int32)))
  else (if a_1 ≤ (127 : Int32) then (if f_words_length < (100 : Int32) then (au f_words_text 100 f_words_length a_1 fun g_1 =>
  some (g_1, (f_words_length + (1 : Int32)), (f_words_length + (1 : Int32))))
  else (some (f_words_text, f_words_length, (-4 : Int32))))
  else (some (f_words_text, f_words_length, (-2 : Int32))))
def m_X7_joinsPhase (f_site_units : Int32) (f_site_traits : (Nat → Int32)) (a_1 : Int32) (a_2 : Int32) : Option ((Nat → Int32) × Int32) :=
  cl (m_X2_isUnit f_site_units a_1) fun r_1 =>
  if r_1 = 0 then (some (f_site_traits, (0 : Int32)))
  else (cl (m_X2_isUnit f_site_units a_2) fun r_3 =>
  if r_3 = 0 then (some (f_site_traits, (0 : Int32)))
  else (cl (m_X2_trait f_site_traits (4 : Int32) a_2) fun r_5 =>
  cl (m_X2_putTrait f_site_traits (4 : Int32) a_1 r_5) fun r_7 =>
  some (r_7, (1 : Int32))))
def m_X7_obeys (f_site_units : Int32) (f_site_ties : Int32) (f_site_traits : (Nat → Int32)) (f_site_upper : (Nat → Int32)) (f_site_lower : (Nat → Int32)) (a_1 : Int32) (a_2 : Int32) (a_3 : Int32) : Option (Int32 × (Nat → Int32) × (Nat → Int32) × (Nat → Int32) × Int32) :=
  if a_1 = (4 : Int32) then (cl (m_X7_joinsPhase f_site_units f_site_traits a_2 a_3) fun r_9 =>
  zg r_9.2 (some (f_site_ties, r_9.1, f_site_upper, f_site_lower, r_9.2)))
  else (jn (fun x_32 : (Int32 × Int32 × (Nat → Int32) × (Nat → Int32)) =>
  if 0 ≤ x_32.1 then (if a_1 = (2 : Int32) then (cl (m_X2_putTrait f_site_traits (0 : Int32) a_2 (1 : Int32)) fun r_3 =>
  some (x_32.2.1, r_3, x_32.2.2.1, x_32.2.2.2, (1 : Int32)))
  else (if a_1 = (3 : Int32) then (cl (m_X2_putTrait f_site_traits (0 : Int32) a_2 (2 : Int32)) fun r_1 =>
  some (x_32.2.1, r_1, x_32.2.2.1, x_32.2.2.2, (1 : Int32)))
  else (some (x_32.2.1, f_site_traits, x_32.2.2.1, x_32.2.2.2, (1 : Int32)))))
  else (some (x_32.2.1, f_site_traits, x_32.2.2.1, x_32.2.2.2, (0 : Int32)))) fun j_32 =>
  if a_1 = (1 : Int32) then (cl (m_X7_tie f_site_units f_site_ties f_site_upper f_site_lower a_3 a_2) fun r_7 =>
  j_32 (r_7.2.2.2, r_7.1, r_7.2.1, r_7.2.2.1))
  else (cl (m_X7_tie f_site_units f_site_ties f_site_upper f_site_lower a_2 a_3) fun r_5 =>
  j_32 (r_5.2.2.2, r_5.1, r_5.2.1, r_5.2.2.1)))
def m_X7_read_L26 (f_site_units : Int32) (r_1 : ((Nat → Int32) × (Nat → Int32) × (Nat → Int32) × Int32 × Int32 × Int32 × Int32)) : Nat → Int32 → Int32 → Int32 → (Nat → Int32) → (Nat → Int32) → (Nat → Int32) → (Int32 → Int32 → Int32 → (Nat → Int32) → (Nat → Int32) → (Nat → Int32) → Option (Int32 × (Nat → Int32) × (Nat → Int32) × (Nat → Int32) × Int32 × (Nat → Int32) × (Nat → Int32) × (Nat → Int32) × Int32 × Int32 × Int32 × Int32)) → Option (Int32 × (Nat → Int32) × (Nat → Int32) × (Nat → Int32) × Int32 × (Nat → Int32) × (Nat → Int32) × (Nat → Int32) × Int32 × Int32 × Int32 × Int32)
  | 0, _, _, _, _, _, _, _ => none
  | n_26 + 1, x2_26, x3_26, y_f_site_ties_26, y_f_site_traits_26, y_f_site_upper_26, y_f_site_lower_26, k_26 =>
    if r_1.2.2.2.1 ≤ x3_26 then (k_26 x2_26 x3_26 y_f_site_ties_26 y_f_site_traits_26 y_f_site_upper_26 y_f_site_lower_26)
    else (ag r_1.2.1 8 x3_26 fun v_3 =>
    ag r_1.1 8 x3_26 fun v_4 =>
    ag r_1.2.2.1 8 x3_26 fun v_5 =>
    cl (m_X7_obeys f_site_units y_f_site_ties_26 y_f_site_traits_26 y_f_site_upper_26 y_f_site_lower_26 v_3 v_4 v_5) fun r_6 =>
    if r_6.2.2.2.2 = 0 then (m_X7_read_L26 f_site_units r_1 n_26 x2_26 (x3_26 + (1 : Int32)) r_6.1 r_6.2.1 r_6.2.2.1 r_6.2.2.2.1 k_26)
    else (m_X7_read_L26 f_site_units r_1 n_26 (x2_26 + (1 : Int32)) (x3_26 + (1 : Int32)) r_6.1 r_6.2.1 r_6.2.2.1 r_6.2.2.2.1 k_26))
def m_X7_read (f_site_units : Int32) (f_site_ties : Int32) (f_site_traits : (Nat → Int32)) (f_site_upper : (Nat → Int32)) (f_site_lower : (Nat → Int32)) (f_words_text : (Nat → Int32)) (f_words_length : Int32) (f_words_first : (Nat → Int32)) (f_words_verb : (Nat → Int32)) (f_words_second : (Nat → Int32)) (f_words_sentences : Int32) (f_words_at : Int32) (f_words_fault : Int32) : Option (Int32 × (Nat → Int32) × (Nat → Int32) × (Nat → Int32) × Int32 × (Nat → Int32) × (Nat → Int32) × (Nat → Int32) × Int32 × Int32 × Int32 × Int32) :=
  cl (m_X6_parse f_words_text f_words_length f_words_first f_words_verb f_words_second f_words_sentences f_words_at f_words_fault) fun r_1 =>
  if r_1.2.2.2.2.2.2 = 0 then (m_X7_read_L26 f_site_units r_1 FU (0 : Int32) (0 : Int32) f_site_ties f_site_traits f_site_upper f_site_lower fun x2_26 x3_26 y_f_site_ties_26 y_f_site_traits_26 y_f_site_upper_26 y_f_site_lower_26 =>
  some (y_f_site_ties_26, y_f_site_traits_26, y_f_site_upper_26, y_f_site_lower_26, (0 : Int32), r_1.1, r_1.2.1, r_1.2.2.1, r_1.2.2.2.1, r_1.2.2.2.2.1, r_1.2.2.2.2.2.1, x2_26))
  else (some (f_site_ties, f_site_traits, f_site_upper, f_site_lower, (0 : Int32), r_1.1, r_1.2.1, r_1.2.2.1, r_1.2.2.2.1, r_1.2.2.2.2.1, r_1.2.2.2.2.2.1, r_1.2.2.2.2.2.2))
def m_X7_draw (f_site_units : Int32) (f_site_ties : Int32) (f_site_upper : (Nat → Int32)) (f_site_lower : (Nat → Int32)) (f_web_units : Int32) (f_web_under : (Nat → Int32)) (f_web_above : (Nat → Int32)) (f_web_reach : (Nat → Int32)) (f_web_levelRow : (Nat → Int32)) (f_web_shown : (Nat → Int32)) (f_web_stepsBack : (Nat → Int32)) (f_sheet_bytes : (Nat → Int32)) (f_sheet_length : Int32) (a_1 : Int32) : Option (Int32 × (Nat → Int32) × (Nat → Int32) × (Nat → Int32) × (Nat → Int32) × (Nat → Int32) × (Nat → Int32) × (Nat → Int32) × Int32 × Int32) :=
  if a_1 < 0 then (some (f_web_units, f_web_under, f_web_above, f_web_reach, f_web_levelRow, f_web_shown, f_web_stepsBack, f_sheet_bytes, f_sheet_length, (-1 : Int32)))
  else (if a_1 ≤ (1 : Int32) then (cl (m_X7_woven f_site_units f_site_ties f_site_upper f_site_lower f_web_units f_web_under f_web_above f_web_reach) fun r_1 =>
  if a_1 = 0 then (cl (m_X1_drawTies f_sheet_bytes f_sheet_length r_1.1 r_1.2.1 r_1.2.2.2) fun r_9 =>
  some (r_1.1, r_1.2.1, r_1.2.2.1, r_1.2.2.2, f_web_levelRow, f_web_shown, f_web_stepsBack, r_9.1, r_9.2, r_9.2))
  else (cl (m_X5_hasCycle r_1.1 r_1.2.2.2) fun r_3 =>
  if r_3 = 0 then (cl (m_X1_drawLevels f_sheet_bytes f_sheet_length r_1.1 r_1.2.1 f_web_levelRow) fun r_5 =>
  some (r_1.1, r_1.2.1, r_1.2.2.1, r_1.2.2.2, r_5.2.2, f_web_shown, f_web_stepsBack, r_5.1, r_5.2.1, r_5.2.1))
  else (cl (m_X1_drawCycle f_sheet_bytes f_sheet_length r_1.1 r_1.2.1 r_1.2.2.2 f_web_shown f_web_stepsBack) fun r_7 =>
  some (r_1.1, r_1.2.1, r_1.2.2.1, r_1.2.2.2, f_web_levelRow, r_7.2.2.1, r_7.2.2.2, r_7.1, r_7.2.1, r_7.2.1))))
  else (some (f_web_units, f_web_under, f_web_above, f_web_reach, f_web_levelRow, f_web_shown, f_web_stepsBack, f_sheet_bytes, f_sheet_length, (-1 : Int32))))
def m_X7_paper (f_sheet_bytes : (Nat → Int32)) (f_sheet_length : Int32) (a_1 : Int32) : Option Int32 :=
  if 0 ≤ a_1 then (if f_sheet_length ≤ a_1 then (some (-5 : Int32))
  else (ag f_sheet_bytes 160 a_1 fun v_1 =>
  some v_1))
  else (some (-1 : Int32))
def m_X7_see (f_site_units : Int32) (f_site_sights : Int32) (f_site_seenFirst : (Nat → Int32)) (f_site_seenSecond : (Nat → Int32)) (f_site_seenIs : (Nat → Int32)) (a_1 : Int32) (a_2 : Int32) (a_3 : Int32) : Option (Int32 × (Nat → Int32) × (Nat → Int32) × (Nat → Int32) × Int32) :=
  if a_1 = (-1 : Int32) then (some ((0 : Int32), f_site_seenFirst, f_site_seenSecond, f_site_seenIs, (0 : Int32)))
  else (cl (m_X2_isUnit f_site_units a_1) fun r_1 =>
  if r_1 = 0 then (some (f_site_sights, f_site_seenFirst, f_site_seenSecond, f_site_seenIs, (-1 : Int32)))
  else (cl (m_X2_isUnit f_site_units a_2) fun r_3 =>
  if r_3 = 0 then (some (f_site_sights, f_site_seenFirst, f_site_seenSecond, f_site_seenIs, (-1 : Int32)))
  else (if f_site_sights < (5 : Int32) then (cl (m_X2_addSeen f_site_sights f_site_seenFirst f_site_seenSecond f_site_seenIs a_1 a_2 a_3) fun r_5 =>
  some (r_5.1, r_5.2.1, r_5.2.2.1, r_5.2.2.2, r_5.1))
  else (some (f_site_sights, f_site_seenFirst, f_site_seenSecond, f_site_seenIs, (-4 : Int32))))))
def m_X7_fits_L15 (f_site_units : Int32) (f_site_ties : Int32) (f_site_sights : Int32) (f_site_upper : (Nat → Int32)) (f_site_lower : (Nat → Int32)) (f_site_seenFirst : (Nat → Int32)) (f_site_seenSecond : (Nat → Int32)) (f_site_seenIs : (Nat → Int32)) (a_1 : Int32) : Nat → Int32 → Int32 → Int32 → (Nat → Int32) → (Nat → Int32) → (Nat → Int32) → (Int32 → Int32 → Int32 → (Nat → Int32) → (Nat → Int32) → (Nat → Int32) → Option (Int32 × (Nat → Int32) × (Nat → Int32) × (Nat → Int32) × Int32)) → Option (Int32 × (Nat → Int32) × (Nat → Int32) × (Nat → Int32) × Int32)
  | 0, _, _, _, _, _, _, _ => none
  | n_15 + 1, x2_15, x3_15, y_f_web_units_15, y_f_web_under_15, y_f_web_above_15, y_f_web_reach_15, k_15 =>
    if f_site_ties ≤ x3_15 then (k_15 x2_15 x3_15 y_f_web_units_15 y_f_web_under_15 y_f_web_above_15 y_f_web_reach_15)
    else (cl (m_X5_weave y_f_web_units_15 y_f_web_under_15 y_f_web_above_15 y_f_web_reach_15 f_site_units f_site_ties f_site_upper f_site_lower x3_15) fun r_1 =>
    cl (m_X5_agrees r_1.2.2.2 f_site_sights f_site_seenFirst f_site_seenSecond f_site_seenIs) fun r_3 =>
    if r_3 = 0 then (m_X7_fits_L15 f_site_units f_site_ties f_site_sights f_site_upper f_site_lower f_site_seenFirst f_site_seenSecond f_site_seenIs a_1 n_15 x2_15 (x3_15 + (1 : Int32)) r_1.1 r_1.2.1 r_1.2.2.1 r_1.2.2.2 k_15)
    else (if a_1 = (1 : Int32) then (cl (m_X2_tieTold f_site_upper f_site_lower x3_15) fun r_5 =>
    some (r_1.1, r_1.2.1, r_1.2.2.1, r_1.2.2.2, r_5))
    else (m_X7_fits_L15 f_site_units f_site_ties f_site_sights f_site_upper f_site_lower f_site_seenFirst f_site_seenSecond f_site_seenIs a_1 n_15 (x2_15 + (1 : Int32)) (x3_15 + (1 : Int32)) r_1.1 r_1.2.1 r_1.2.2.1 r_1.2.2.2 k_15)))
def m_X7_fits (f_site_units : Int32) (f_site_ties : Int32) (f_site_sights : Int32) (f_site_upper : (Nat → Int32)) (f_site_lower : (Nat → Int32)) (f_site_seenFirst : (Nat → Int32)) (f_site_seenSecond : (Nat → Int32)) (f_site_seenIs : (Nat → Int32)) (f_web_units : Int32) (f_web_under : (Nat → Int32)) (f_web_above : (Nat → Int32)) (f_web_reach : (Nat → Int32)) (a_1 : Int32) : Option (Int32 × (Nat → Int32) × (Nat → Int32) × (Nat → Int32) × Int32) :=
  if a_1 < 0 then (some (f_web_units, f_web_under, f_web_above, f_web_reach, (-1 : Int32)))
  else (if a_1 ≤ (1 : Int32) then (m_X7_fits_L15 f_site_units f_site_ties f_site_sights f_site_upper f_site_lower f_site_seenFirst f_site_seenSecond f_site_seenIs a_1 FU (0 : Int32) (0 : Int32) f_web_units f_web_under f_web_above f_web_reach fun x2_15 x3_15 y_f_web_units_15 y_f_web_under_15 y_f_web_above_15 y_f_web_reach_15 =>
  if a_1 = 0 then (some (y_f_web_units_15, y_f_web_under_15, y_f_web_above_15, y_f_web_reach_15, x2_15))
  else (some (y_f_web_units_15, y_f_web_under_15, y_f_web_above_15, y_f_web_reach_15, (-5 : Int32))))
  else (some (f_web_units, f_web_under, f_web_above, f_web_reach, (-1 : Int32))))
def m_X7_event (f_site_units : Int32) (f_site_events : Int32) (f_site_eventWhat : (Nat → Int32)) (f_site_eventUnit : (Nat → Int32)) (a_1 : Int32) (a_2 : Int32) : Option (Int32 × (Nat → Int32) × (Nat → Int32) × Int32) :=
  if a_1 = (-1 : Int32) then (some ((0 : Int32), f_site_eventWhat, f_site_eventUnit, (0 : Int32)))
  else (if a_1 < 0 then (some (f_site_events, f_site_eventWhat, f_site_eventUnit, (-1 : Int32)))
  else (if (3 : Int32) < a_1 then (some (f_site_events, f_site_eventWhat, f_site_eventUnit, (-1 : Int32)))
  else (cl (m_X2_isUnit f_site_units a_2) fun r_1 =>
  if r_1 = 0 then (some (f_site_events, f_site_eventWhat, f_site_eventUnit, (-1 : Int32)))
  else (if f_site_events < (8 : Int32) then (cl (m_X2_addEvent f_site_events f_site_eventWhat f_site_eventUnit a_1 a_2) fun r_3 =>
  some (r_3.1, r_3.2.1, r_3.2.2, r_3.1))
  else (some (f_site_events, f_site_eventWhat, f_site_eventUnit, (-4 : Int32)))))))
def m_X7_after (f_site_units : Int32) (f_site_ties : Int32) (f_site_digs : Int32) (f_site_sights : Int32) (f_site_events : Int32) (f_site_traits : (Nat → Int32)) (f_site_upper : (Nat → Int32)) (f_site_lower : (Nat → Int32)) (f_site_digRow : (Nat → Int32)) (f_site_heldUnit : (Nat → Int32)) (f_site_heldKind : (Nat → Int32)) (f_site_seenFirst : (Nat → Int32)) (f_site_seenSecond : (Nat → Int32)) (f_site_seenIs : (Nat → Int32)) (f_site_eventWhat : (Nat → Int32)) (f_site_eventUnit : (Nat → Int32)) (f_trial_units : Int32) (f_trial_ties : Int32) (f_trial_digs : Int32) (f_trial_sights : Int32) (f_trial_events : Int32) (f_trial_traits : (Nat → Int32)) (f_trial_upper : (Nat → Int32)) (f_trial_lower : (Nat → Int32)) (f_trial_digRow : (Nat → Int32)) (f_trial_heldUnit : (Nat → Int32)) (f_trial_heldKind : (Nat → Int32)) (f_trial_seenFirst : (Nat → Int32)) (f_trial_seenSecond : (Nat → Int32)) (f_trial_seenIs : (Nat → Int32)) (f_trial_eventWhat : (Nat → Int32)) (f_trial_eventUnit : (Nat → Int32)) (f_web_units : Int32) (f_web_under : (Nat → Int32)) (f_web_above : (Nat → Int32)) (f_web_reach : (Nat → Int32)) (f_ways_table : (Nat → Int64)) (f_ways_blockers : (Nat → Int32)) (f_ways_left : Int32) (a_1 : Int32) : Option (Int32 × Int32 × Int32 × Int32 × Int32 × (Nat → Int32) × (Nat → Int32) × (Nat → Int32) × (Nat → Int32) × (Nat → Int32) × (Nat → Int32) × (Nat → Int32) × (Nat → Int32) × (Nat → Int32) × (Nat → Int32) × (Nat → Int32) × Int32 × (Nat → Int32) × (Nat → Int32) × (Nat → Int32) × (Nat → Int64) × (Nat → Int32) × Int32 × Int64) :=
  if a_1 < 0 then (some (f_trial_units, f_trial_ties, f_trial_digs, f_trial_sights, f_trial_events, f_trial_traits, f_trial_upper, f_trial_lower, f_trial_digRow, f_trial_heldUnit, f_trial_heldKind, f_trial_seenFirst, f_trial_seenSecond, f_trial_seenIs, f_trial_eventWhat, f_trial_eventUnit, f_web_units, f_web_under, f_web_above, f_web_reach, f_ways_table, f_ways_blockers, f_ways_left, (-9223372036854775808 : Int64)))
  else (if a_1 ≤ (1 : Int32) then (cl (m_X2_become f_trial_units f_trial_ties f_trial_digs f_trial_sights f_trial_events f_trial_traits f_trial_upper f_trial_lower f_trial_digRow f_trial_heldUnit f_trial_heldKind f_trial_seenFirst f_trial_seenSecond f_trial_seenIs f_trial_eventWhat f_trial_eventUnit f_site_units f_site_ties f_site_digs f_site_sights f_site_events f_site_traits f_site_upper f_site_lower f_site_digRow f_site_heldUnit f_site_heldKind f_site_seenFirst f_site_seenSecond f_site_seenIs f_site_eventWhat f_site_eventUnit) fun r_1 =>
  cl (m_X2_happen r_1.2.1 r_1.2.2.1 r_1.2.2.2.2.1 r_1.2.2.2.2.2.1 r_1.2.2.2.2.2.2.1 r_1.2.2.2.2.2.2.2.1 r_1.2.2.2.2.2.2.2.2.1 r_1.2.2.2.2.2.2.2.2.2.2.2.2.2.2.1 r_1.2.2.2.2.2.2.2.2.2.2.2.2.2.2.2) fun r_3 =>
  if a_1 = 0 then (cl (m_X7_lawfulOrders f_web_units f_web_under f_web_above f_web_reach f_ways_table f_ways_blockers f_ways_left r_1.1 r_3.1 r_3.2.1 r_3.2.2.2.1 r_3.2.2.2.2.1 r_3.2.2.2.2.2) fun r_13 =>
  some (r_1.1, r_3.1, r_3.2.1, r_1.2.2.2.1, r_1.2.2.2.2.1, r_3.2.2.1, r_3.2.2.2.1, r_3.2.2.2.2.1, r_3.2.2.2.2.2, r_1.2.2.2.2.2.2.2.2.2.1, r_1.2.2.2.2.2.2.2.2.2.2.1, r_1.2.2.2.2.2.2.2.2.2.2.2.1, r_1.2.2.2.2.2.2.2.2.2.2.2.2.1, r_1.2.2.2.2.2.2.2.2.2.2.2.2.2.1, r_1.2.2.2.2.2.2.2.2.2.2.2.2.2.2.1, r_1.2.2.2.2.2.2.2.2.2.2.2.2.2.2.2, r_13.1, r_13.2.1, r_13.2.2.1, r_13.2.2.2.1, r_13.2.2.2.2.1, r_13.2.2.2.2.2.1, r_13.2.2.2.2.2.2.1, r_13.2.2.2.2.2.2.2))
  else (cl (m_X5_weave f_web_units f_web_under f_web_above f_web_reach r_1.1 r_3.1 r_3.2.2.2.1 r_3.2.2.2.2.1 (-1 : Int32)) fun r_5 =>
  cl (m_X5_hasCycle r_5.1 r_5.2.2.2) fun r_7 =>
  if r_7 = 0 then (cl (m_X5_crossing r_5.1 r_5.2.2.2 r_3.2.2.1) fun r_9 =>
  cl (m_J6_bitCount_0f7a4 r_9) fun r_11 =>
  some (r_1.1, r_3.1, r_3.2.1, r_1.2.2.2.1, r_1.2.2.2.2.1, r_3.2.2.1, r_3.2.2.2.1, r_3.2.2.2.2.1, r_3.2.2.2.2.2, r_1.2.2.2.2.2.2.2.2.2.1, r_1.2.2.2.2.2.2.2.2.2.2.1, r_1.2.2.2.2.2.2.2.2.2.2.2.1, r_1.2.2.2.2.2.2.2.2.2.2.2.2.1, r_1.2.2.2.2.2.2.2.2.2.2.2.2.2.1, r_1.2.2.2.2.2.2.2.2.2.2.2.2.2.2.1, r_1.2.2.2.2.2.2.2.2.2.2.2.2.2.2.2, r_5.1, r_5.2.1, r_5.2.2.1, r_5.2.2.2, f_ways_table, f_ways_blockers, f_ways_left, (r_11).toInt64))
  else (some (r_1.1, r_3.1, r_3.2.1, r_1.2.2.2.1, r_1.2.2.2.2.1, r_3.2.2.1, r_3.2.2.2.1, r_3.2.2.2.2.1, r_3.2.2.2.2.2, r_1.2.2.2.2.2.2.2.2.2.1, r_1.2.2.2.2.2.2.2.2.2.2.1, r_1.2.2.2.2.2.2.2.2.2.2.2.1, r_1.2.2.2.2.2.2.2.2.2.2.2.2.1, r_1.2.2.2.2.2.2.2.2.2.2.2.2.2.1, r_1.2.2.2.2.2.2.2.2.2.2.2.2.2.2.1, r_1.2.2.2.2.2.2.2.2.2.2.2.2.2.2.2, r_5.1, r_5.2.1, r_5.2.2.1, r_5.2.2.2, f_ways_table, f_ways_blockers, f_ways_left, (-5 : Int64)))))
  else (some (f_trial_units, f_trial_ties, f_trial_digs, f_trial_sights, f_trial_events, f_trial_traits, f_trial_upper, f_trial_lower, f_trial_digRow, f_trial_heldUnit, f_trial_heldKind, f_trial_seenFirst, f_trial_seenSecond, f_trial_seenIs, f_trial_eventWhat, f_trial_eventUnit, f_web_units, f_web_under, f_web_above, f_web_reach, f_ways_table, f_ways_blockers, f_ways_left, (-9223372036854775808 : Int64))))
def m_X7_judge_L55 (f_site_units : Int32) (f_site_traits : (Nat → Int32)) (f_reels_length : (Nat → Int32)) (f_reels_items : (Nat → Int64)) (a_1 : Int32) (a_2 : Int32) (r_5 : (Int32 × (Nat → Int32) × (Nat → Int32) × (Nat → Int32))) : Nat → Int32 → (Int32 → Option (Int32 × (Nat → Int32) × (Nat → Int32) × (Nat → Int32) × Int32)) → Option (Int32 × (Nat → Int32) × (Nat → Int32) × (Nat → Int32) × Int32)
  | 0, _, _ => none
  | n_55 + 1, x3_55, k_55 =>
    if f_site_units ≤ x3_55 then (k_55 x3_55)
    else (if (60 : Int32) < a_2 then (some (r_5.1, r_5.2.1, r_5.2.2.1, r_5.2.2.2, ((100 : Int32) + x3_55)))
    else (cl (m_X0_hasPlace f_reels_length a_1 (a_2 + x3_55) (1 : Int32)) fun r_9 =>
    if r_9 = 0 then (some (r_5.1, r_5.2.1, r_5.2.2.1, r_5.2.2.2, ((100 : Int32) + x3_55)))
    else (cl (m_X0_at f_reels_items a_1 (a_2 + x3_55)) fun r_11 =>
    cl (m_X5_earliest r_5.1 r_5.2.2.2 f_site_traits x3_55) fun r_13 =>
    if (lg_cmp r_11 (r_13).toInt64) = 0 then (m_X7_judge_L55 f_site_units f_site_traits f_reels_length f_reels_items a_1 a_2 r_5 n_55 (x3_55 + (1 : Int32)) k_55)
    else (some (r_5.1, r_5.2.1, r_5.2.2.1, r_5.2.2.2, x3_55)))))
def m_X7_judge (f_site_units : Int32) (f_site_ties : Int32) (f_site_traits : (Nat → Int32)) (f_site_upper : (Nat → Int32)) (f_site_lower : (Nat → Int32)) (f_web_units : Int32) (f_web_under : (Nat → Int32)) (f_web_above : (Nat → Int32)) (f_web_reach : (Nat → Int32)) (f_reels_sort : (Nat → Int32)) (f_reels_length : (Nat → Int32)) (f_reels_items : (Nat → Int64)) (a_1 : Int32) (a_2 : Int32) : Option (Int32 × (Nat → Int32) × (Nat → Int32) × (Nat → Int32) × Int32) :=
  cl (m_X0_isTape a_1) fun r_1 =>
  if r_1 = 0 then (some (f_web_units, f_web_under, f_web_above, f_web_reach, (-1 : Int32)))
  else (cl (m_X0_isEmpty f_reels_sort a_1) fun r_3 =>
  jn (fun x_40 : (Unit) =>
  cl (m_X7_woven f_site_units f_site_ties f_site_upper f_site_lower f_web_units f_web_under f_web_above f_web_reach) fun r_5 =>
  cl (m_X5_hasCycle r_5.1 r_5.2.2.2) fun r_7 =>
  if r_7 = 0 then (m_X7_judge_L55 f_site_units f_site_traits f_reels_length f_reels_items a_1 a_2 r_5 FU (0 : Int32) fun x3_55 =>
  some (r_5.1, r_5.2.1, r_5.2.2.1, r_5.2.2.2, (-5 : Int32)))
  else (some (r_5.1, r_5.2.1, r_5.2.2.1, r_5.2.2.2, (-3 : Int32)))) fun j_40 =>
  if r_3 = 0 then (ag f_reels_sort 6 a_1 fun v_15 =>
  if v_15 = (1 : Int32) then (j_40 ())
  else (some (f_web_units, f_web_under, f_web_above, f_web_reach, (-12 : Int32))))
  else (j_40 ()))
def m_X7_image (f_site_units : Int32) (f_site_ties : Int32) (f_site_digs : Int32) (f_site_sights : Int32) (f_site_events : Int32) (f_site_traits : (Nat → Int32)) (f_site_upper : (Nat → Int32)) (f_site_lower : (Nat → Int32)) (f_site_digRow : (Nat → Int32)) (f_site_heldUnit : (Nat → Int32)) (f_site_heldKind : (Nat → Int32)) (f_site_seenFirst : (Nat → Int32)) (f_site_seenSecond : (Nat → Int32)) (f_site_seenIs : (Nat → Int32)) (f_site_eventWhat : (Nat → Int32)) (f_site_eventUnit : (Nat → Int32)) (f_picture_units : Int32) (f_picture_ties : Int32) (f_picture_digs : Int32) (f_picture_sights : Int32) (f_picture_events : Int32) (f_picture_traits : (Nat → Int32)) (f_picture_upper : (Nat → Int32)) (f_picture_lower : (Nat → Int32)) (f_picture_digRow : (Nat → Int32)) (f_picture_heldUnit : (Nat → Int32)) (f_picture_heldKind : (Nat → Int32)) (f_picture_seenFirst : (Nat → Int32)) (f_picture_seenSecond : (Nat → Int32)) (f_picture_seenIs : (Nat → Int32)) (f_picture_eventWhat : (Nat → Int32)) (f_picture_eventUnit : (Nat → Int32)) (f_pictured : Int32) : Option (Int32 × Int32 × Int32 × Int32 × Int32 × (Nat → Int32) × (Nat → Int32) × (Nat → Int32) × (Nat → Int32) × (Nat → Int32) × (Nat → Int32) × (Nat → Int32) × (Nat → Int32) × (Nat → Int32) × (Nat → Int32) × (Nat → Int32) × Int32 × Int32) :=
  cl (m_X2_become f_picture_units f_picture_ties f_picture_digs f_picture_sights f_picture_events f_picture_traits f_picture_upper f_picture_lower f_picture_digRow f_picture_heldUnit f_picture_heldKind f_picture_seenFirst f_picture_seenSecond f_picture_seenIs f_picture_eventWhat f_picture_eventUnit f_site_units f_site_ties f_site_digs f_site_sights f_site_events f_site_traits f_site_upper f_site_lower f_site_digRow f_site_heldUnit f_site_heldKind f_site_seenFirst f_site_seenSecond f_site_seenIs f_site_eventWhat f_site_eventUnit) fun r_1 =>
  some (r_1.1, r_1.2.1, r_1.2.2.1, r_1.2.2.2.1, r_1.2.2.2.2.1, r_1.2.2.2.2.2.1, r_1.2.2.2.2.2.2.1, r_1.2.2.2.2.2.2.2.1, r_1.2.2.2.2.2.2.2.2.1, r_1.2.2.2.2.2.2.2.2.2.1, r_1.2.2.2.2.2.2.2.2.2.2.1, r_1.2.2.2.2.2.2.2.2.2.2.2.1, r_1.2.2.2.2.2.2.2.2.2.2.2.2.1, r_1.2.2.2.2.2.2.2.2.2.2.2.2.2.1, r_1.2.2.2.2.2.2.2.2.2.2.2.2.2.2.1, r_1.2.2.2.2.2.2.2.2.2.2.2.2.2.2.2, (1 : Int32), f_site_units)
def m_X7_undo (f_site_units : Int32) (f_site_ties : Int32) (f_site_digs : Int32) (f_site_sights : Int32) (f_site_events : Int32) (f_site_traits : (Nat → Int32)) (f_site_upper : (Nat → Int32)) (f_site_lower : (Nat → Int32)) (f_site_digRow : (Nat → Int32)) (f_site_heldUnit : (Nat → Int32)) (f_site_heldKind : (Nat → Int32)) (f_site_seenFirst : (Nat → Int32)) (f_site_seenSecond : (Nat → Int32)) (f_site_seenIs : (Nat → Int32)) (f_site_eventWhat : (Nat → Int32)) (f_site_eventUnit : (Nat → Int32)) (f_picture_units : Int32) (f_picture_ties : Int32) (f_picture_digs : Int32) (f_picture_sights : Int32) (f_picture_events : Int32) (f_picture_traits : (Nat → Int32)) (f_picture_upper : (Nat → Int32)) (f_picture_lower : (Nat → Int32)) (f_picture_digRow : (Nat → Int32)) (f_picture_heldUnit : (Nat → Int32)) (f_picture_heldKind : (Nat → Int32)) (f_picture_seenFirst : (Nat → Int32)) (f_picture_seenSecond : (Nat → Int32)) (f_picture_seenIs : (Nat → Int32)) (f_picture_eventWhat : (Nat → Int32)) (f_picture_eventUnit : (Nat → Int32)) (f_pictured : Int32) : Option (Int32 × Int32 × Int32 × Int32 × Int32 × (Nat → Int32) × (Nat → Int32) × (Nat → Int32) × (Nat → Int32) × (Nat → Int32) × (Nat → Int32) × (Nat → Int32) × (Nat → Int32) × (Nat → Int32) × (Nat → Int32) × (Nat → Int32) × Int32) :=
  if f_pictured = 0 then (some (f_site_units, f_site_ties, f_site_digs, f_site_sights, f_site_events, f_site_traits, f_site_upper, f_site_lower, f_site_digRow, f_site_heldUnit, f_site_heldKind, f_site_seenFirst, f_site_seenSecond, f_site_seenIs, f_site_eventWhat, f_site_eventUnit, (-3 : Int32)))
  else (cl (m_X2_become f_site_units f_site_ties f_site_digs f_site_sights f_site_events f_site_traits f_site_upper f_site_lower f_site_digRow f_site_heldUnit f_site_heldKind f_site_seenFirst f_site_seenSecond f_site_seenIs f_site_eventWhat f_site_eventUnit f_picture_units f_picture_ties f_picture_digs f_picture_sights f_picture_events f_picture_traits f_picture_upper f_picture_lower f_picture_digRow f_picture_heldUnit f_picture_heldKind f_picture_seenFirst f_picture_seenSecond f_picture_seenIs f_picture_eventWhat f_picture_eventUnit) fun r_1 =>
  some (r_1.1, r_1.2.1, r_1.2.2.1, r_1.2.2.2.1, r_1.2.2.2.2.1, r_1.2.2.2.2.2.1, r_1.2.2.2.2.2.2.1, r_1.2.2.2.2.2.2.2.1, r_1.2.2.2.2.2.2.2.2.1, r_1.2.2.2.2.2.2.2.2.2.1, r_1.2.2.2.2.2.2.2.2.2.2.1, r_1.2.2.2.2.2.2.2.2.2.2.2.1, r_1.2.2.2.2.2.2.2.2.2.2.2.2.1, r_1.2.2.2.2.2.2.2.2.2.2.2.2.2.1, r_1.2.2.2.2.2.2.2.2.2.2.2.2.2.2.1, r_1.2.2.2.2.2.2.2.2.2.2.2.2.2.2.2, r_1.1))
def m_X7_count (f_site_sights : Int32) (f_site_events : Int32) (f_words_length : Int32) (f_sheet_length : Int32) (a_1 : Int32) : Option Int32 :=
  if a_1 = 0 then (some f_site_sights)
  else (if a_1 = 1 then (some f_site_events)
  else (if a_1 = 2 then (some f_words_length)
  else (if a_1 = 3 then (some f_sheet_length)
  else (some (-2 : Int32)))))
def m_X7_tape (f_reels_sort : (Nat → Int32)) (f_reels_length : (Nat → Int32)) (f_reels_items : (Nat → Int64)) (a_1 : Int32) (a_2 : Int32) (a_3 : Int32) : Option ((Nat → Int32) × (Nat → Int32) × (Nat → Int64) × Int32) :=
  cl (m_X0_isTape a_1) fun r_1 =>
  if r_1 = 0 then (some (f_reels_sort, f_reels_length, f_reels_items, (-1 : Int32)))
  else (if a_2 = (-1 : Int32) then (cl (m_X0_clear f_reels_sort f_reels_length a_1) fun r_5 =>
  some (r_5.1, r_5.2, f_reels_items, (1 : Int32)))
  else (if a_2 < 0 then (some (f_reels_sort, f_reels_length, f_reels_items, (-2 : Int32)))
  else (if (4 : Int32) < a_2 then (some (f_reels_sort, f_reels_length, f_reels_items, (-2 : Int32)))
  else (if a_3 ≤ (60 : Int32) then (if 0 ≤ a_3 then (cl (m_X0_make f_reels_sort f_reels_length f_reels_items a_1 a_2 a_3) fun r_3 =>
  some (r_3.1, r_3.2.1, r_3.2.2, (1 : Int32)))
  else (some (f_reels_sort, f_reels_length, f_reels_items, (-14 : Int32))))
  else (some (f_reels_sort, f_reels_length, f_reels_items, (-2 : Int32)))))))
def m_X7_item (f_reels_sort : (Nat → Int32)) (f_reels_length : (Nat → Int32)) (f_reels_items : (Nat → Int64)) (a_1 : Int32) (a_2 : Int32) (a_3 : Int64) : Option ((Nat → Int64) × Int32) :=
  cl (m_X0_isTape a_1) fun r_1 =>
  if r_1 = 0 then (some (f_reels_items, (-1 : Int32)))
  else (cl (m_X0_isEmpty f_reels_sort a_1) fun r_3 =>
  if r_3 = 0 then (cl (m_X0_hasPlace f_reels_length a_1 a_2 (1 : Int32)) fun r_5 =>
  if r_5 = 0 then (some (f_reels_items, (-13 : Int32)))
  else (cl (m_X0_put f_reels_sort f_reels_items a_1 a_2 a_3) fun r_7 =>
  some (r_7, (1 : Int32))))
  else (some (f_reels_items, (-11 : Int32))))
def m_X7_peek (f_reels_sort : (Nat → Int32)) (f_reels_length : (Nat → Int32)) (f_reels_items : (Nat → Int64)) (a_1 : Int32) (a_2 : Int32) : Option Int64 :=
  cl (m_X0_isTape a_1) fun r_1 =>
  if r_1 = 0 then (some (-9223372036854775808 : Int64))
  else (cl (m_X0_isEmpty f_reels_sort a_1) fun r_3 =>
  if r_3 = 0 then (cl (m_X0_hasPlace f_reels_length a_1 a_2 (1 : Int32)) fun r_5 =>
  if r_5 = 0 then (some (-9223372036854775808 : Int64))
  else (cl (m_X0_at f_reels_items a_1 a_2) fun r_7 =>
  some r_7))
  else (some (-9223372036854775808 : Int64)))
def m_X7_shift (f_reels_sort : (Nat → Int32)) (f_reels_length : (Nat → Int32)) (f_reels_items : (Nat → Int64)) (a_1 : Int32) (a_2 : Int32) (a_3 : Int32) (a_4 : Int32) (a_5 : Int32) : Option ((Nat → Int64) × Int32) :=
  cl (m_X0_isTape a_1) fun r_1 =>
  if r_1 = 0 then (some (f_reels_items, (-1 : Int32)))
  else (cl (m_X0_isTape a_3) fun r_3 =>
  if r_3 = 0 then (some (f_reels_items, (-1 : Int32)))
  else (cl (m_X0_isEmpty f_reels_sort a_1) fun r_5 =>
  if r_5 = 0 then (cl (m_X0_isEmpty f_reels_sort a_3) fun r_7 =>
  if r_7 = 0 then (ag f_reels_sort 6 a_1 fun v_9 =>
  ag f_reels_sort 6 a_3 fun v_10 =>
  if v_9 = v_10 then (cl (m_X0_hasPlace f_reels_length a_1 a_2 a_5) fun r_11 =>
  if r_11 = 0 then (some (f_reels_items, (-13 : Int32)))
  else (cl (m_X0_hasPlace f_reels_length a_3 a_4 a_5) fun r_13 =>
  if r_13 = 0 then (some (f_reels_items, (-13 : Int32)))
  else (cl (m_X0_move f_reels_items a_1 a_2 a_3 a_4 a_5) fun r_15 =>
  some (r_15, a_5))))
  else (some (f_reels_items, (-12 : Int32))))
  else (some (f_reels_items, (-11 : Int32))))
  else (some (f_reels_items, (-11 : Int32)))))
def m_X8_in (a_1 : Int32) (a_2 : Int32) (a_3 : Int32) : Option Int32 :=
  if a_1 < a_2 then (some (0 : Int32))
  else (if a_3 < a_1 then (some (0 : Int32))
  else (some (1 : Int32)))
def m_X8_isUnit (f_units : Int32) (a_1 : Int32) : Option Int32 :=
  cl (m_X8_in a_1 (0 : Int32) (f_units - (1 : Int32))) fun r_1 =>
  zg r_1 (some r_1)
def m_X8_areTwo (f_units : Int32) (a_1 : Int32) (a_2 : Int32) : Option Int32 :=
  cl (m_X8_isUnit f_units a_1) fun r_1 =>
  if r_1 = 0 then (some (0 : Int32))
  else (cl (m_X8_isUnit f_units a_2) fun r_3 =>
  if r_3 = 0 then (some (0 : Int32))
  else (if a_1 = a_2 then (some (0 : Int32))
  else (some (1 : Int32))))
def m_X8_isPhase (a_1 : Int32) : Option Int32 :=
  cl (m_X8_in a_1 (0 : Int32) (5 : Int32)) fun r_1 =>
  zg r_1 (some r_1)
def m_X8_has (a_1 : Int32) (a_2 : Int32) : Option Int32 :=
  if ((a_1 >>> (a_2 &&& 31)) &&& (1 : Int32)) = (1 : Int32) then (some (1 : Int32))
  else (some (0 : Int32))
def m_X8_sizeOf_L4 (a_1 : Int32) : Nat → Int32 → Int32 → (Int32 → Int32 → Option Int32) → Option Int32
  | 0, _, _, _ => none
  | n_4 + 1, x1_4, x2_4, k_4 =>
    if (12 : Int32) ≤ x2_4 then (k_4 x1_4 x2_4)
    else (lt ((x1_4 + ((a_1 >>> (x2_4 &&& 31)) &&& (1 : Int32)))) fun v_1 =>
    m_X8_sizeOf_L4 a_1 n_4 v_1 (x2_4 + (1 : Int32)) k_4)
def m_X8_sizeOf (a_1 : Int32) : Option Int32 :=
  m_X8_sizeOf_L4 a_1 FU (0 : Int32) (0 : Int32) fun x1_4 x2_4 =>
  some x1_4
def m_X8_leastOf_L2 (a_1 : Int32) : Nat → Int32 → (Int32 → Option Int32) → Option Int32
  | 0, _, _ => none
  | n_2 + 1, x1_2, k_2 =>
    if (12 : Int32) ≤ x1_2 then (k_2 x1_2)
    else (cl (m_X8_has a_1 x1_2) fun r_1 =>
    if r_1 = 0 then (m_X8_leastOf_L2 a_1 n_2 (x1_2 + (1 : Int32)) k_2)
    else (some x1_2))
def m_X8_leastOf (a_1 : Int32) : Option Int32 :=
  m_X8_leastOf_L2 a_1 FU (0 : Int32) fun x1_2 =>
  some (-1 : Int32)
def m_X8_unit (f_units : Int32) (f_kinds : (Nat → Int32)) (f_thicks : (Nat → Int32)) (f_froms : (Nat → Int32)) (f_tos : (Nat → Int32)) (f_phases : (Nat → Int32)) (a_1 : Int32) : Option (Int32 × (Nat → Int32) × (Nat → Int32) × (Nat → Int32) × (Nat → Int32) × (Nat → Int32) × Int32) :=
  cl (m_X8_in a_1 (0 : Int32) (5 : Int32)) fun r_1 =>
  if r_1 = 0 then (some (f_units, f_kinds, f_thicks, f_froms, f_tos, f_phases, (-2 : Int32)))
  else (if f_units = (12 : Int32) then (some (f_units, f_kinds, f_thicks, f_froms, f_tos, f_phases, (-4 : Int32)))
  else (au f_kinds 12 f_units a_1 fun g_3 =>
  au f_thicks 12 f_units (1 : Int32) fun g_4 =>
  au f_froms 12 f_units (0 : Int32) fun g_5 =>
  au f_tos 12 f_units (2000 : Int32) fun g_6 =>
  au f_phases 12 f_units (-1 : Int32) fun g_7 =>
  some ((f_units + (1 : Int32)), g_3, g_4, g_5, g_6, g_7, ((f_units + (1 : Int32)) - (1 : Int32)))))
def m_X8_isSet (a_1 : Int32) (a_2 : Int32) : Option Int32 :=
  if a_1 = 0 then (cl (m_X8_in a_2 (0 : Int32) (5 : Int32)) fun r_1 =>
  zg r_1 (some r_1))
  else (if a_1 = 1 then (cl (m_X8_in a_2 (0 : Int32) (99 : Int32)) fun r_3 =>
  zg r_3 (some r_3))
  else (if a_1 = 2 then (cl (m_X8_in a_2 (0 : Int32) (2000 : Int32)) fun r_5 =>
  zg r_5 (some r_5))
  else (if a_1 = 3 then (cl (m_X8_in a_2 (0 : Int32) (2000 : Int32)) fun r_7 =>
  zg r_7 (some r_7))
  else (cl (m_X8_in a_2 (-1 : Int32) (5 : Int32)) fun r_9 =>
  zg r_9 (some r_9)))))
def m_X8_heldBy (f_kinds : (Nat → Int32)) (f_thicks : (Nat → Int32)) (f_froms : (Nat → Int32)) (f_tos : (Nat → Int32)) (f_phases : (Nat → Int32)) (a_1 : Int32) (a_2 : Int32) : Option Int32 :=
  if a_2 = 0 then (ag f_kinds 12 a_1 fun v_1 =>
  some v_1)
  else (if a_2 = 1 then (ag f_thicks 12 a_1 fun v_2 =>
  some v_2)
  else (if a_2 = 2 then (ag f_froms 12 a_1 fun v_3 =>
  some v_3)
  else (if a_2 = 3 then (ag f_tos 12 a_1 fun v_4 =>
  some v_4)
  else (ag f_phases 12 a_1 fun v_5 =>
  if v_5 = (-1 : Int32) then (some (-5 : Int32))
  else (ag f_phases 12 a_1 fun v_6 =>
  some v_6)))))
def m_X8_lays (f_kinds : (Nat → Int32)) (f_thicks : (Nat → Int32)) (f_froms : (Nat → Int32)) (f_tos : (Nat → Int32)) (f_phases : (Nat → Int32)) (a_1 : Int32) (a_2 : Int32) (a_3 : Int32) : Option ((Nat → Int32) × (Nat → Int32) × (Nat → Int32) × (Nat → Int32) × (Nat → Int32)) :=
  if a_2 = 0 then (au f_kinds 12 a_1 a_3 fun g_1 =>
  some (g_1, f_thicks, f_froms, f_tos, f_phases))
  else (if a_2 = 1 then (au f_thicks 12 a_1 a_3 fun g_2 =>
  some (f_kinds, g_2, f_froms, f_tos, f_phases))
  else (if a_2 = 2 then (au f_froms 12 a_1 a_3 fun g_3 =>
  some (f_kinds, f_thicks, g_3, f_tos, f_phases))
  else (if a_2 = 3 then (au f_tos 12 a_1 a_3 fun g_4 =>
  some (f_kinds, f_thicks, f_froms, g_4, f_phases))
  else (au f_phases 12 a_1 a_3 fun g_5 =>
  some (f_kinds, f_thicks, f_froms, f_tos, g_5)))))
def m_X8_set (f_units : Int32) (f_kinds : (Nat → Int32)) (f_thicks : (Nat → Int32)) (f_froms : (Nat → Int32)) (f_tos : (Nat → Int32)) (f_phases : (Nat → Int32)) (a_1 : Int32) (a_2 : Int32) (a_3 : Int32) : Option ((Nat → Int32) × (Nat → Int32) × (Nat → Int32) × (Nat → Int32) × (Nat → Int32) × Int32) :=
  cl (m_X8_isUnit f_units a_1) fun r_1 =>
  if r_1 = 0 then (some (f_kinds, f_thicks, f_froms, f_tos, f_phases, (-1 : Int32)))
  else (cl (m_X8_in a_2 (0 : Int32) (4 : Int32)) fun r_3 =>
  if r_3 = 0 then (some (f_kinds, f_thicks, f_froms, f_tos, f_phases, (-1 : Int32)))
  else (cl (m_X8_isSet a_2 a_3) fun r_5 =>
  if r_5 = 0 then (some (f_kinds, f_thicks, f_froms, f_tos, f_phases, (-2 : Int32)))
  else (cl (m_X8_heldBy f_kinds f_thicks f_froms f_tos f_phases a_1 a_2) fun r_7 =>
  cl (m_X8_lays f_kinds f_thicks f_froms f_tos f_phases a_1 a_2 a_3) fun r_9 =>
  some (r_9.1, r_9.2.1, r_9.2.2.1, r_9.2.2.2.1, r_9.2.2.2.2, r_7))))
def m_X8_dugSet_L4 (f_dugMany : Int32) (f_dug : (Nat → Int32)) : Nat → Int32 → Int32 → (Int32 → Int32 → Option Int32) → Option Int32
  | 0, _, _, _ => none
  | n_4 + 1, x1_4, x2_4, k_4 =>
    if f_dugMany ≤ x2_4 then (k_4 x1_4 x2_4)
    else (ag f_dug 12 x2_4 fun v_1 =>
    lt ((x1_4 ||| ((1 : Int32) <<< (v_1 &&& 31)))) fun v_2 =>
    m_X8_dugSet_L4 f_dugMany f_dug n_4 v_2 (x2_4 + (1 : Int32)) k_4)
def m_X8_dugSet (f_dug : (Nat → Int32)) (f_dugMany : Int32) : Option Int32 :=
  m_X8_dugSet_L4 f_dugMany f_dug FU (0 : Int32) (0 : Int32) fun x1_4 x2_4 =>
  some x1_4
def m_X8_of (f_units : Int32) (f_kinds : (Nat → Int32)) (f_thicks : (Nat → Int32)) (f_froms : (Nat → Int32)) (f_tos : (Nat → Int32)) (f_phases : (Nat → Int32)) (f_dug : (Nat → Int32)) (f_dugMany : Int32) (a_1 : Int32) (a_2 : Int32) : Option Int32 :=
  cl (m_X8_isUnit f_units a_1) fun r_1 =>
  if r_1 = 0 then (some (-1 : Int32))
  else (cl (m_X8_in a_2 (0 : Int32) (5 : Int32)) fun r_3 =>
  if r_3 = 0 then (some (-1 : Int32))
  else (if a_2 = (5 : Int32) then (cl (m_X8_dugSet f_dug f_dugMany) fun r_7 =>
  some ((r_7 >>> (a_1 &&& 31)) &&& (1 : Int32)))
  else (cl (m_X8_heldBy f_kinds f_thicks f_froms f_tos f_phases a_1 a_2) fun r_5 =>
  some r_5)))
def m_X8_tieAt_L5 (f_ties : Int32) (f_aboves : (Nat → Int32)) (f_belows : (Nat → Int32)) (a_1 : Int32) (a_2 : Int32) : Nat → Int32 → Int32 → (Int32 → Int32 → Option Int32) → Option Int32
  | 0, _, _, _ => none
  | n_5 + 1, x3_5, x4_5, k_5 =>
    if f_ties ≤ x4_5 then (k_5 x3_5 x4_5)
    else (ag f_aboves 40 x4_5 fun v_1 =>
    if v_1 = a_1 then (ag f_belows 40 x4_5 fun v_2 =>
    if v_2 = a_2 then (m_X8_tieAt_L5 f_ties f_aboves f_belows a_1 a_2 n_5 x4_5 (x4_5 + (1 : Int32)) k_5)
    else (m_X8_tieAt_L5 f_ties f_aboves f_belows a_1 a_2 n_5 x3_5 (x4_5 + (1 : Int32)) k_5))
    else (m_X8_tieAt_L5 f_ties f_aboves f_belows a_1 a_2 n_5 x3_5 (x4_5 + (1 : Int32)) k_5))
def m_X8_tieAt (f_ties : Int32) (f_aboves : (Nat → Int32)) (f_belows : (Nat → Int32)) (a_1 : Int32) (a_2 : Int32) : Option Int32 :=
  m_X8_tieAt_L5 f_ties f_aboves f_belows a_1 a_2 FU (-1 : Int32) (0 : Int32) fun x3_5 x4_5 =>
  some x3_5
def m_X8_tie (f_units : Int32) (f_ties : Int32) (f_aboves : (Nat → Int32)) (f_belows : (Nat → Int32)) (a_1 : Int32) (a_2 : Int32) : Option (Int32 × (Nat → Int32) × (Nat → Int32) × Int32) :=
  cl (m_X8_areTwo f_units a_1 a_2) fun r_1 =>
  if r_1 = 0 then (some (f_ties, f_aboves, f_belows, (-1 : Int32)))
  else (cl (m_X8_tieAt f_ties f_aboves f_belows a_1 a_2) fun r_3 =>
  if r_3 = (-1 : Int32) then (if f_ties = (40 : Int32) then (some (f_ties, f_aboves, f_belows, (-4 : Int32)))
  else (au f_aboves 40 f_ties a_1 fun g_5 =>
  au f_belows 40 f_ties a_2 fun g_6 =>
  some ((f_ties + (1 : Int32)), g_5, g_6, (f_ties + (1 : Int32)))))
  else (some (f_ties, f_aboves, f_belows, (-3 : Int32))))
def m_X8_drops_L12 (f_ties : Int32) : Nat → Int32 → (Nat → Int32) → (Nat → Int32) → (Int32 → (Nat → Int32) → (Nat → Int32) → Option (Int32 × (Nat → Int32) × (Nat → Int32))) → Option (Int32 × (Nat → Int32) × (Nat → Int32))
  | 0, _, _, _, _ => none
  | n_12 + 1, x2_12, y_f_aboves_12, y_f_belows_12, k_12 =>
    if (f_ties - (1 : Int32)) ≤ x2_12 then (k_12 x2_12 y_f_aboves_12 y_f_belows_12)
    else (ag y_f_aboves_12 40 (x2_12 + (1 : Int32)) fun v_1 =>
    au y_f_aboves_12 40 x2_12 v_1 fun g_2 =>
    ag y_f_belows_12 40 (x2_12 + (1 : Int32)) fun v_3 =>
    au y_f_belows_12 40 x2_12 v_3 fun g_4 =>
    m_X8_drops_L12 f_ties n_12 (x2_12 + (1 : Int32)) g_2 g_4 k_12)
def m_X8_drops (f_ties : Int32) (f_aboves : (Nat → Int32)) (f_belows : (Nat → Int32)) (a_1 : Int32) : Option (Int32 × (Nat → Int32) × (Nat → Int32)) :=
  m_X8_drops_L12 f_ties FU a_1 f_aboves f_belows fun x2_12 y_f_aboves_12 y_f_belows_12 =>
  some ((f_ties - (1 : Int32)), y_f_aboves_12, y_f_belows_12)
def m_X8_untie (f_units : Int32) (f_ties : Int32) (f_aboves : (Nat → Int32)) (f_belows : (Nat → Int32)) (a_1 : Int32) (a_2 : Int32) : Option (Int32 × (Nat → Int32) × (Nat → Int32) × Int32) :=
  cl (m_X8_areTwo f_units a_1 a_2) fun r_1 =>
  if r_1 = 0 then (some (f_ties, f_aboves, f_belows, (-1 : Int32)))
  else (cl (m_X8_tieAt f_ties f_aboves f_belows a_1 a_2) fun r_3 =>
  if r_3 = (-1 : Int32) then (some (f_ties, f_aboves, f_belows, (-3 : Int32)))
  else (cl (m_X8_drops f_ties f_aboves f_belows r_3) fun r_5 =>
  some (r_5.1, r_5.2.1, r_5.2.2, r_5.1)))
def m_X8_works_L2  : Nat → Int32 → (Nat → Int32) → (Nat → Int32) → (Nat → Int32) → (Int32 → (Nat → Int32) → (Nat → Int32) → (Nat → Int32) → Option ((Nat → Int32) × (Nat → Int32) × (Nat → Int32) × (Nat → Int32))) → Option ((Nat → Int32) × (Nat → Int32) × (Nat → Int32) × (Nat → Int32))
  | 0, _, _, _, _, _ => none
  | n_2 + 1, x2_2, y_f_under_2, y_f_over_2, y_f_reaching_2, k_2 =>
    if (12 : Int32) ≤ x2_2 then (k_2 x2_2 y_f_under_2 y_f_over_2 y_f_reaching_2)
    else (au y_f_under_2 12 x2_2 (0 : Int32) fun g_1 =>
    au y_f_over_2 12 x2_2 (0 : Int32) fun g_2 =>
    au y_f_reaching_2 12 x2_2 (0 : Int32) fun g_3 =>
    m_X8_works_L2  n_2 (x2_2 + (1 : Int32)) g_1 g_2 g_3 k_2)
def m_X8_works_L37 (f_ties : Int32) (f_aboves : (Nat → Int32)) (f_belows : (Nat → Int32)) (a_1 : Int32) : Nat → Int32 → (Nat → Int32) → (Nat → Int32) → (Int32 → (Nat → Int32) → (Nat → Int32) → Option ((Nat → Int32) × (Nat → Int32) × (Nat → Int32) × (Nat → Int32))) → Option ((Nat → Int32) × (Nat → Int32) × (Nat → Int32) × (Nat → Int32))
  | 0, _, _, _, _ => none
  | n_37 + 1, x2_37, y_f_under_37, y_f_over_37, k_37 =>
    if f_ties ≤ x2_37 then (k_37 x2_37 y_f_under_37 y_f_over_37)
    else (if x2_37 = a_1 then (m_X8_works_L37 f_ties f_aboves f_belows a_1 n_37 (x2_37 + (1 : Int32)) y_f_under_37 y_f_over_37 k_37)
    else (ag f_aboves 40 x2_37 fun v_4 =>
    ag y_f_under_37 12 v_4 fun v_5 =>
    ag f_belows 40 x2_37 fun v_6 =>
    au y_f_under_37 12 v_4 (v_5 ||| ((1 : Int32) <<< (v_6 &&& 31))) fun g_7 =>
    ag f_belows 40 x2_37 fun v_8 =>
    ag y_f_over_37 12 v_8 fun v_9 =>
    ag f_aboves 40 x2_37 fun v_10 =>
    au y_f_over_37 12 v_8 (v_9 ||| ((1 : Int32) <<< (v_10 &&& 31))) fun g_11 =>
    m_X8_works_L37 f_ties f_aboves f_belows a_1 n_37 (x2_37 + (1 : Int32)) g_7 g_11 k_37))
def m_X8_works_L102 (y_f_under_37 : (Nat → Int32)) : Nat → Int32 → (Nat → Int32) → (Int32 → (Nat → Int32) → Option ((Nat → Int32) × (Nat → Int32) × (Nat → Int32) × (Nat → Int32))) → Option ((Nat → Int32) × (Nat → Int32) × (Nat → Int32) × (Nat → Int32))
  | 0, _, _, _ => none
  | n_102 + 1, x2_102, y_f_reached_102, k_102 =>
    if (12 : Int32) ≤ x2_102 then (k_102 x2_102 y_f_reached_102)
    else (ag y_f_under_37 12 x2_102 fun v_12 =>
    au y_f_reached_102 12 x2_102 v_12 fun g_13 =>
    m_X8_works_L102 y_f_under_37 n_102 (x2_102 + (1 : Int32)) g_13 k_102)
def m_X8_works_L138 (f_units : Int32) (x2_128 : Int32) : Nat → Int32 → (Nat → Int32) → (Int32 → (Nat → Int32) → Option ((Nat → Int32) × (Nat → Int32) × (Nat → Int32) × (Nat → Int32))) → Option ((Nat → Int32) × (Nat → Int32) × (Nat → Int32) × (Nat → Int32))
  | 0, _, _, _ => none
  | n_138 + 1, x3_138, y_f_reached_138, k_138 =>
    if f_units ≤ x3_138 then (k_138 x3_138 y_f_reached_138)
    else (ag y_f_reached_138 12 x3_138 fun v_14 =>
    ag y_f_reached_138 12 x3_138 fun v_15 =>
    cl (m_X8_has v_15 x2_128) fun r_16 =>
    if r_16 = 0 then (au y_f_reached_138 12 x3_138 (v_14 ||| (0 : Int32)) fun g_18 =>
    m_X8_works_L138 f_units x2_128 n_138 (x3_138 + (1 : Int32)) g_18 k_138)
    else (ag y_f_reached_138 12 x2_128 fun v_19 =>
    au y_f_reached_138 12 x3_138 (v_14 ||| v_19) fun g_20 =>
    m_X8_works_L138 f_units x2_128 n_138 (x3_138 + (1 : Int32)) g_20 k_138))
def m_X8_works_L128 (f_units : Int32) : Nat → Int32 → (Nat → Int32) → (Int32 → (Nat → Int32) → Option ((Nat → Int32) × (Nat → Int32) × (Nat → Int32) × (Nat → Int32))) → Option ((Nat → Int32) × (Nat → Int32) × (Nat → Int32) × (Nat → Int32))
  | 0, _, _, _ => none
  | n_128 + 1, x2_128, y_f_reached_128, k_128 =>
    if f_units ≤ x2_128 then (k_128 x2_128 y_f_reached_128)
    else (m_X8_works_L138 f_units x2_128 FU (0 : Int32) y_f_reached_128 fun x3_138 y_f_reached_138 =>
    m_X8_works_L128 f_units n_128 (x2_128 + (1 : Int32)) y_f_reached_138 k_128)
def m_X8_works_L202 (f_units : Int32) (y_f_reached_128 : (Nat → Int32)) (x2_192 : Int32) : Nat → Int32 → (Nat → Int32) → (Int32 → (Nat → Int32) → Option ((Nat → Int32) × (Nat → Int32) × (Nat → Int32) × (Nat → Int32))) → Option ((Nat → Int32) × (Nat → Int32) × (Nat → Int32) × (Nat → Int32))
  | 0, _, _, _ => none
  | n_202 + 1, x3_202, y_f_reaching_202, k_202 =>
    if f_units ≤ x3_202 then (k_202 x3_202 y_f_reaching_202)
    else (ag y_f_reaching_202 12 x2_192 fun v_21 =>
    ag y_f_reached_128 12 x3_202 fun v_22 =>
    cl (m_X8_has v_22 x2_192) fun r_23 =>
    if r_23 = 0 then (au y_f_reaching_202 12 x2_192 (v_21 ||| (0 : Int32)) fun g_25 =>
    m_X8_works_L202 f_units y_f_reached_128 x2_192 n_202 (x3_202 + (1 : Int32)) g_25 k_202)
    else (au y_f_reaching_202 12 x2_192 (v_21 ||| ((1 : Int32) <<< (x3_202 &&& 31))) fun g_26 =>
    m_X8_works_L202 f_units y_f_reached_128 x2_192 n_202 (x3_202 + (1 : Int32)) g_26 k_202))
def m_X8_works_L192 (f_units : Int32) (y_f_reached_128 : (Nat → Int32)) : Nat → Int32 → (Nat → Int32) → (Int32 → (Nat → Int32) → Option ((Nat → Int32) × (Nat → Int32) × (Nat → Int32) × (Nat → Int32))) → Option ((Nat → Int32) × (Nat → Int32) × (Nat → Int32) × (Nat → Int32))
  | 0, _, _, _ => none
  | n_192 + 1, x2_192, y_f_reaching_192, k_192 =>
    if f_units ≤ x2_192 then (k_192 x2_192 y_f_reaching_192)
    else (m_X8_works_L202 f_units y_f_reached_128 x2_192 FU (0 : Int32) y_f_reaching_192 fun x3_202 y_f_reaching_202 =>
    m_X8_works_L192 f_units y_f_reached_128 n_192 (x2_192 + (1 : Int32)) y_f_reaching_202 k_192)
def m_X8_works (f_units : Int32) (f_ties : Int32) (f_aboves : (Nat → Int32)) (f_belows : (Nat → Int32)) (f_under : (Nat → Int32)) (f_over : (Nat → Int32)) (f_reached : (Nat → Int32)) (f_reaching : (Nat → Int32)) (a_1 : Int32) : Option ((Nat → Int32) × (Nat → Int32) × (Nat → Int32) × (Nat → Int32)) :=
  m_X8_works_L2  FU (0 : Int32) f_under f_over f_reaching fun x2_2 y_f_under_2 y_f_over_2 y_f_reaching_2 =>
  m_X8_works_L37 f_ties f_aboves f_belows a_1 FU (0 : Int32) y_f_under_2 y_f_over_2 fun x2_37 y_f_under_37 y_f_over_37 =>
  m_X8_works_L102 y_f_under_37 FU (0 : Int32) f_reached fun x2_102 y_f_reached_102 =>
  m_X8_works_L128 f_units FU (0 : Int32) y_f_reached_102 fun x2_128 y_f_reached_128 =>
  m_X8_works_L192 f_units y_f_reached_128 FU (0 : Int32) y_f_reaching_2 fun x2_192 y_f_reaching_192 =>
  some (y_f_under_37, y_f_over_37, y_f_reached_128, y_f_reaching_192)
def m_X8_works_ (f_units : Int32) (f_ties : Int32) (f_aboves : (Nat → Int32)) (f_belows : (Nat → Int32)) (f_under : (Nat → Int32)) (f_over : (Nat → Int32)) (f_reached : (Nat → Int32)) (f_reaching : (Nat → Int32)) : Option ((Nat → Int32) × (Nat → Int32) × (Nat → Int32) × (Nat → Int32)) :=
  cl (m_X8_works f_units f_ties f_aboves f_belows f_under f_over f_reached f_reaching (-1 : Int32)) fun r_1 =>
  some (r_1.1, r_1.2.1, r_1.2.2.1, r_1.2.2.2)
def m_X8_round_L4 (f_units : Int32) (f_reached : (Nat → Int32)) : Nat → Int32 → Int32 → (Int32 → Int32 → Option Int32) → Option Int32
  | 0, _, _, _ => none
  | n_4 + 1, x1_4, x2_4, k_4 =>
    if f_units ≤ x2_4 then (k_4 x1_4 x2_4)
    else (ag f_reached 12 x2_4 fun v_1 =>
    cl (m_X8_has v_1 x2_4) fun r_2 =>
    if r_2 = 0 then (m_X8_round_L4 f_units f_reached n_4 (x1_4 ||| (0 : Int32)) (x2_4 + (1 : Int32)) k_4)
    else (lt ((x1_4 ||| ((1 : Int32) <<< (x2_4 &&& 31)))) fun v_4 =>
    m_X8_round_L4 f_units f_reached n_4 v_4 (x2_4 + (1 : Int32)) k_4))
def m_X8_round (f_units : Int32) (f_reached : (Nat → Int32)) : Option Int32 :=
  m_X8_round_L4 f_units f_reached FU (0 : Int32) (0 : Int32) fun x1_4 x2_4 =>
  some x1_4
def m_X8_isRound (f_units : Int32) (f_reached : (Nat → Int32)) : Option Int32 :=
  cl (m_X8_round f_units f_reached) fun r_1 =>
  if r_1 = 0 then (some (0 : Int32))
  else (some (1 : Int32))
def m_X8_isReduced_L11 (f_units : Int32) (f_aboves : (Nat → Int32)) (f_belows : (Nat → Int32)) (f_reached : (Nat → Int32)) (a_1 : Int32) : Nat → Int32 → (Int32 → Option Int32) → Option Int32
  | 0, _, _ => none
  | n_11 + 1, x2_11, k_11 =>
    if f_units ≤ x2_11 then (k_11 x2_11)
    else (ag f_aboves 40 a_1 fun v_3 =>
    if x2_11 = v_3 then (m_X8_isReduced_L11 f_units f_aboves f_belows f_reached a_1 n_11 (x2_11 + (1 : Int32)) k_11)
    else (ag f_belows 40 a_1 fun v_4 =>
    if x2_11 = v_4 then (m_X8_isReduced_L11 f_units f_aboves f_belows f_reached a_1 n_11 (x2_11 + (1 : Int32)) k_11)
    else (ag f_aboves 40 a_1 fun v_5 =>
    ag f_reached 12 v_5 fun v_6 =>
    cl (m_X8_has v_6 x2_11) fun r_7 =>
    if r_7 = 0 then (m_X8_isReduced_L11 f_units f_aboves f_belows f_reached a_1 n_11 (x2_11 + (1 : Int32)) k_11)
    else (ag f_reached 12 x2_11 fun v_9 =>
    ag f_belows 40 a_1 fun v_10 =>
    cl (m_X8_has v_9 v_10) fun r_11 =>
    if r_11 = 0 then (m_X8_isReduced_L11 f_units f_aboves f_belows f_reached a_1 n_11 (x2_11 + (1 : Int32)) k_11)
    else (some (0 : Int32))))))
def m_X8_isReduced (f_units : Int32) (f_aboves : (Nat → Int32)) (f_belows : (Nat → Int32)) (f_reached : (Nat → Int32)) (a_1 : Int32) : Option Int32 :=
  cl (m_X8_isRound f_units f_reached) fun r_1 =>
  if r_1 = 0 then (m_X8_isReduced_L11 f_units f_aboves f_belows f_reached a_1 FU (0 : Int32) fun x2_11 =>
  some (1 : Int32))
  else (some (1 : Int32))
def m_X8_reducedOf_L4 (f_units : Int32) (f_ties : Int32) (f_aboves : (Nat → Int32)) (f_belows : (Nat → Int32)) (f_reached : (Nat → Int32)) (a_1 : Int32) : Nat → Int32 → Int32 → (Int32 → Int32 → Option Int32) → Option Int32
  | 0, _, _, _ => none
  | n_4 + 1, x2_4, x3_4, k_4 =>
    if f_ties ≤ x3_4 then (k_4 x2_4 x3_4)
    else (ag f_aboves 40 x3_4 fun v_1 =>
    if v_1 = a_1 then (cl (m_X8_isReduced f_units f_aboves f_belows f_reached x3_4) fun r_2 =>
    if r_2 = 0 then (m_X8_reducedOf_L4 f_units f_ties f_aboves f_belows f_reached a_1 n_4 (x2_4 ||| (0 : Int32)) (x3_4 + (1 : Int32)) k_4)
    else (ag f_belows 40 x3_4 fun v_4 =>
    lt ((x2_4 ||| ((1 : Int32) <<< (v_4 &&& 31)))) fun v_5 =>
    m_X8_reducedOf_L4 f_units f_ties f_aboves f_belows f_reached a_1 n_4 v_5 (x3_4 + (1 : Int32)) k_4))
    else (m_X8_reducedOf_L4 f_units f_ties f_aboves f_belows f_reached a_1 n_4 (x2_4 ||| (0 : Int32)) (x3_4 + (1 : Int32)) k_4))
def m_X8_reducedOf (f_units : Int32) (f_ties : Int32) (f_aboves : (Nat → Int32)) (f_belows : (Nat → Int32)) (f_reached : (Nat → Int32)) (a_1 : Int32) : Option Int32 :=
  m_X8_reducedOf_L4 f_units f_ties f_aboves f_belows f_reached a_1 FU (0 : Int32) (0 : Int32) fun x2_4 x3_4 =>
  some x2_4
def m_X8_reducedMany_L4 (f_units : Int32) (f_ties : Int32) (f_aboves : (Nat → Int32)) (f_belows : (Nat → Int32)) (f_reached : (Nat → Int32)) : Nat → Int32 → Int32 → (Int32 → Int32 → Option Int32) → Option Int32
  | 0, _, _, _ => none
  | n_4 + 1, x1_4, x2_4, k_4 =>
    if f_ties ≤ x2_4 then (k_4 x1_4 x2_4)
    else (cl (m_X8_isReduced f_units f_aboves f_belows f_reached x2_4) fun r_1 =>
    if r_1 = 0 then (m_X8_reducedMany_L4 f_units f_ties f_aboves f_belows f_reached n_4 (x1_4 + (0 : Int32)) (x2_4 + (1 : Int32)) k_4)
    else (m_X8_reducedMany_L4 f_units f_ties f_aboves f_belows f_reached n_4 (x1_4 + (1 : Int32)) (x2_4 + (1 : Int32)) k_4))
def m_X8_reducedMany (f_units : Int32) (f_ties : Int32) (f_aboves : (Nat → Int32)) (f_belows : (Nat → Int32)) (f_reached : (Nat → Int32)) : Option Int32 :=
  m_X8_reducedMany_L4 f_units f_ties f_aboves f_belows f_reached FU (0 : Int32) (0 : Int32) fun x1_4 x2_4 =>
  some x1_4
def m_X8_levelsOf_L4 (f_units : Int32) : Nat → Int32 → (Nat → Int32) → (Int32 → (Nat → Int32) → Option ((Nat → Int32) × Int32)) → Option ((Nat → Int32) × Int32)
  | 0, _, _, _ => none
  | n_4 + 1, x2_4, y_f_levels_4, k_4 =>
    if f_units ≤ x2_4 then (k_4 x2_4 y_f_levels_4)
    else (au y_f_levels_4 12 x2_4 (0 : Int32) fun g_1 =>
    m_X8_levelsOf_L4 f_units n_4 (x2_4 + (1 : Int32)) g_1 k_4)
def m_X8_levelsOf_L37 (f_ties : Int32) (f_aboves : (Nat → Int32)) (f_belows : (Nat → Int32)) : Nat → Int32 → (Nat → Int32) → (Int32 → (Nat → Int32) → Option ((Nat → Int32) × Int32)) → Option ((Nat → Int32) × Int32)
  | 0, _, _, _ => none
  | n_37 + 1, x3_37, y_f_levels_37, k_37 =>
    if f_ties ≤ x3_37 then (k_37 x3_37 y_f_levels_37)
    else (ag f_belows 40 x3_37 fun v_2 =>
    ag y_f_levels_37 12 v_2 fun v_3 =>
    ag f_aboves 40 x3_37 fun v_4 =>
    ag f_aboves 40 x3_37 fun v_5 =>
    ag y_f_levels_37 12 v_5 fun v_6 =>
    if (v_3 + (1 : Int32)) ≤ v_6 then (ag f_aboves 40 x3_37 fun v_7 =>
    ag y_f_levels_37 12 v_7 fun v_8 =>
    au y_f_levels_37 12 v_4 v_8 fun g_9 =>
    m_X8_levelsOf_L37 f_ties f_aboves f_belows n_37 (x3_37 + (1 : Int32)) g_9 k_37)
    else (au y_f_levels_37 12 v_4 (v_3 + (1 : Int32)) fun g_10 =>
    m_X8_levelsOf_L37 f_ties f_aboves f_belows n_37 (x3_37 + (1 : Int32)) g_10 k_37))
def m_X8_levelsOf_L27 (f_units : Int32) (f_ties : Int32) (f_aboves : (Nat → Int32)) (f_belows : (Nat → Int32)) : Nat → Int32 → (Nat → Int32) → (Int32 → (Nat → Int32) → Option ((Nat → Int32) × Int32)) → Option ((Nat → Int32) × Int32)
  | 0, _, _, _ => none
  | n_27 + 1, x2_27, y_f_levels_27, k_27 =>
    if f_units ≤ x2_27 then (k_27 x2_27 y_f_levels_27)
    else (m_X8_levelsOf_L37 f_ties f_aboves f_belows FU (0 : Int32) y_f_levels_27 fun x3_37 y_f_levels_37 =>
    m_X8_levelsOf_L27 f_units f_ties f_aboves f_belows n_27 (x2_27 + (1 : Int32)) y_f_levels_37 k_27)
def m_X8_levelsOf_L117 (f_units : Int32) (y_f_levels_27 : (Nat → Int32)) : Nat → Int32 → Int32 → (Int32 → Int32 → Option ((Nat → Int32) × Int32)) → Option ((Nat → Int32) × Int32)
  | 0, _, _, _ => none
  | n_117 + 1, x1_117, x2_117, k_117 =>
    if f_units ≤ x2_117 then (k_117 x1_117 x2_117)
    else (ag y_f_levels_27 12 x2_117 fun v_11 =>
    if (v_11 + (1 : Int32)) ≤ x1_117 then (m_X8_levelsOf_L117 f_units y_f_levels_27 n_117 x1_117 (x2_117 + (1 : Int32)) k_117)
    else (ag y_f_levels_27 12 x2_117 fun v_12 =>
    m_X8_levelsOf_L117 f_units y_f_levels_27 n_117 (v_12 + (1 : Int32)) (x2_117 + (1 : Int32)) k_117))
def m_X8_levelsOf (f_units : Int32) (f_ties : Int32) (f_aboves : (Nat → Int32)) (f_belows : (Nat → Int32)) (f_levels : (Nat → Int32)) : Option ((Nat → Int32) × Int32) :=
  m_X8_levelsOf_L4 f_units FU (0 : Int32) f_levels fun x2_4 y_f_levels_4 =>
  m_X8_levelsOf_L27 f_units f_ties f_aboves f_belows FU (0 : Int32) y_f_levels_4 fun x2_27 y_f_levels_27 =>
  m_X8_levelsOf_L117 f_units y_f_levels_27 FU (0 : Int32) (0 : Int32) fun x1_117 x2_117 =>
  some (y_f_levels_27, x1_117)
def m_X8_phaseBits_L4 (f_units : Int32) (f_phases : (Nat → Int32)) : Nat → Int32 → Int32 → (Int32 → Int32 → Option Int32) → Option Int32
  | 0, _, _, _ => none
  | n_4 + 1, x1_4, x2_4, k_4 =>
    if f_units ≤ x2_4 then (k_4 x1_4 x2_4)
    else (ag f_phases 12 x2_4 fun v_1 =>
    if v_1 = (-1 : Int32) then (m_X8_phaseBits_L4 f_units f_phases n_4 (x1_4 ||| (0 : Int32)) (x2_4 + (1 : Int32)) k_4)
    else (ag f_phases 12 x2_4 fun v_2 =>
    lt ((x1_4 ||| ((1 : Int32) <<< (v_2 &&& 31)))) fun v_3 =>
    m_X8_phaseBits_L4 f_units f_phases n_4 v_3 (x2_4 + (1 : Int32)) k_4))
def m_X8_phaseBits (f_units : Int32) (f_phases : (Nat → Int32)) : Option Int32 :=
  m_X8_phaseBits_L4 f_units f_phases FU (0 : Int32) (0 : Int32) fun x1_4 x2_4 =>
  some x1_4
def m_X8_told (f_units : Int32) (f_phases : (Nat → Int32)) (f_ties : Int32) (f_aboves : (Nat → Int32)) (f_belows : (Nat → Int32)) (f_dugMany : Int32) (f_under : (Nat → Int32)) (f_over : (Nat → Int32)) (f_reached : (Nat → Int32)) (f_reaching : (Nat → Int32)) (f_levels : (Nat → Int32)) (a_1 : Int32) : Option ((Nat → Int32) × (Nat → Int32) × (Nat → Int32) × (Nat → Int32) × (Nat → Int32) × Int32) :=
  cl (m_X8_works_ f_units f_ties f_aboves f_belows f_under f_over f_reached f_reaching) fun r_1 =>
  if a_1 = 0 then (some (r_1.1, r_1.2.1, r_1.2.2.1, r_1.2.2.2, f_levels, f_units))
  else (if a_1 = 1 then (some (r_1.1, r_1.2.1, r_1.2.2.1, r_1.2.2.2, f_levels, f_ties))
  else (if a_1 = 2 then (cl (m_X8_reducedMany f_units f_ties f_aboves f_belows r_1.2.2.1) fun r_3 =>
  some (r_1.1, r_1.2.1, r_1.2.2.1, r_1.2.2.2, f_levels, r_3))
  else (if a_1 = 3 then (cl (m_X8_isRound f_units r_1.2.2.1) fun r_5 =>
  if r_5 = 0 then (cl (m_X8_levelsOf f_units f_ties f_aboves f_belows f_levels) fun r_7 =>
  some (r_1.1, r_1.2.1, r_1.2.2.1, r_1.2.2.2, r_7.1, r_7.2))
  else (some (r_1.1, r_1.2.1, r_1.2.2.1, r_1.2.2.2, f_levels, (-5 : Int32))))
  else (if a_1 = 4 then (cl (m_X8_round f_units r_1.2.2.1) fun r_9 =>
  cl (m_X8_sizeOf r_9) fun r_11 =>
  some (r_1.1, r_1.2.1, r_1.2.2.1, r_1.2.2.2, f_levels, r_11))
  else (if a_1 = 5 then (some (r_1.1, r_1.2.1, r_1.2.2.1, r_1.2.2.2, f_levels, f_dugMany))
  else (if a_1 = 6 then (cl (m_X8_phaseBits f_units f_phases) fun r_13 =>
  some (r_1.1, r_1.2.1, r_1.2.2.1, r_1.2.2.2, f_levels, r_13))
  else (some (r_1.1, r_1.2.1, r_1.2.2.1, r_1.2.2.2, f_levels, (-1 : Int32)))))))))
def m_X8_below (f_units : Int32) (f_ties : Int32) (f_aboves : (Nat → Int32)) (f_belows : (Nat → Int32)) (f_under : (Nat → Int32)) (f_over : (Nat → Int32)) (f_reached : (Nat → Int32)) (f_reaching : (Nat → Int32)) (a_1 : Int32) (a_2 : Int32) : Option ((Nat → Int32) × (Nat → Int32) × (Nat → Int32) × (Nat → Int32) × Int32) :=
  cl (m_X8_isUnit f_units a_1) fun r_1 =>
  if r_1 = 0 then (some (f_under, f_over, f_reached, f_reaching, (-1 : Int32)))
  else (cl (m_X8_works_ f_units f_ties f_aboves f_belows f_under f_over f_reached f_reaching) fun r_3 =>
  if a_2 = 0 then (ag r_3.1 12 a_1 fun v_5 =>
  some (r_3.1, r_3.2.1, r_3.2.2.1, r_3.2.2.2, v_5))
  else (if a_2 = 1 then (ag r_3.2.2.1 12 a_1 fun v_6 =>
  some (r_3.1, r_3.2.1, r_3.2.2.1, r_3.2.2.2, v_6))
  else (if a_2 = 2 then (cl (m_X8_reducedOf f_units f_ties f_aboves f_belows r_3.2.2.1 a_1) fun r_7 =>
  some (r_3.1, r_3.2.1, r_3.2.2.1, r_3.2.2.2, r_7))
  else (if a_2 = 3 then (ag r_3.2.1 12 a_1 fun v_9 =>
  some (r_3.1, r_3.2.1, r_3.2.2.1, r_3.2.2.2, v_9))
  else (if a_2 = 4 then (ag r_3.2.2.2 12 a_1 fun v_10 =>
  some (r_3.1, r_3.2.1, r_3.2.2.1, r_3.2.2.2, v_10))
  else (some (r_3.1, r_3.2.1, r_3.2.2.1, r_3.2.2.2, (-1 : Int32))))))))
def m_X8_shows_L17 (f_units : Int32) (f_under : (Nat → Int32)) (r_3 : (Int32)) : Nat → Int32 → (Nat → Int32) → (Int32 → (Nat → Int32) → Option ((Nat → Int32) × (Nat → Int32) × Int32)) → Option ((Nat → Int32) × (Nat → Int32) × Int32)
  | 0, _, _, _ => none
  | n_17 + 1, x2_17, y_f_far_17, k_17 =>
    if f_units ≤ x2_17 then (k_17 x2_17 y_f_far_17)
    else (ag f_under 12 x2_17 fun v_5 =>
    cl (m_X8_has v_5 r_3) fun r_6 =>
    if r_6 = 0 then (au y_f_far_17 12 x2_17 (99 : Int32) fun g_8 =>
    m_X8_shows_L17 f_units f_under r_3 n_17 (x2_17 + (1 : Int32)) g_8 k_17)
    else (au y_f_far_17 12 x2_17 (1 : Int32) fun g_9 =>
    m_X8_shows_L17 f_units f_under r_3 n_17 (x2_17 + (1 : Int32)) g_9 k_17))
def m_X8_shows_L79 (f_units : Int32) (f_under : (Nat → Int32)) (x3_68 : Int32) : Nat → Int32 → (Nat → Int32) → (Int32 → (Nat → Int32) → Option ((Nat → Int32) × (Nat → Int32) × Int32)) → Option ((Nat → Int32) × (Nat → Int32) × Int32)
  | 0, _, _, _ => none
  | n_79 + 1, x4_79, y_f_far_79, k_79 =>
    if f_units ≤ x4_79 then (k_79 x4_79 y_f_far_79)
    else (ag f_under 12 x3_68 fun v_10 =>
    cl (m_X8_has v_10 x4_79) fun r_11 =>
    if r_11 = 0 then (ag y_f_far_79 12 x3_68 fun v_13 =>
    au y_f_far_79 12 x3_68 v_13 fun g_14 =>
    m_X8_shows_L79 f_units f_under x3_68 n_79 (x4_79 + (1 : Int32)) g_14 k_79)
    else (ag y_f_far_79 12 x4_79 fun v_15 =>
    ag y_f_far_79 12 x3_68 fun v_16 =>
    if v_16 ≤ (v_15 + (1 : Int32)) then (ag y_f_far_79 12 x3_68 fun v_17 =>
    au y_f_far_79 12 x3_68 v_17 fun g_18 =>
    m_X8_shows_L79 f_units f_under x3_68 n_79 (x4_79 + (1 : Int32)) g_18 k_79)
    else (ag y_f_far_79 12 x4_79 fun v_19 =>
    au y_f_far_79 12 x3_68 (v_19 + (1 : Int32)) fun g_20 =>
    m_X8_shows_L79 f_units f_under x3_68 n_79 (x4_79 + (1 : Int32)) g_20 k_79)))
def m_X8_shows_L68 (f_units : Int32) (f_under : (Nat → Int32)) : Nat → Int32 → (Nat → Int32) → (Int32 → (Nat → Int32) → Option ((Nat → Int32) × (Nat → Int32) × Int32)) → Option ((Nat → Int32) × (Nat → Int32) × Int32)
  | 0, _, _, _ => none
  | n_68 + 1, x3_68, y_f_far_68, k_68 =>
    if f_units ≤ x3_68 then (k_68 x3_68 y_f_far_68)
    else (m_X8_shows_L79 f_units f_under x3_68 FU (0 : Int32) y_f_far_68 fun x4_79 y_f_far_79 =>
    m_X8_shows_L68 f_units f_under n_68 (x3_68 + (1 : Int32)) y_f_far_79 k_68)
def m_X8_shows_L58 (f_units : Int32) (f_under : (Nat → Int32)) : Nat → Int32 → (Nat → Int32) → (Int32 → (Nat → Int32) → Option ((Nat → Int32) × (Nat → Int32) × Int32)) → Option ((Nat → Int32) × (Nat → Int32) × Int32)
  | 0, _, _, _ => none
  | n_58 + 1, x2_58, y_f_far_58, k_58 =>
    if f_units ≤ x2_58 then (k_58 x2_58 y_f_far_58)
    else (m_X8_shows_L68 f_units f_under FU (0 : Int32) y_f_far_58 fun x3_68 y_f_far_68 =>
    m_X8_shows_L58 f_units f_under n_58 (x2_58 + (1 : Int32)) y_f_far_68 k_58)
def m_X8_shows_L194 (f_under : (Nat → Int32)) (y_f_far_58 : (Nat → Int32)) (v_21 : Int32) (x3_178 : Int32) (y_f_shown_178 : (Nat → Int32)) : Nat → Int32 → Int32 → (Int32 → Int32 → Option ((Nat → Int32) × (Nat → Int32) × Int32)) → Option ((Nat → Int32) × (Nat → Int32) × Int32)
  | 0, _, _, _ => none
  | n_194 + 1, x4_194, x5_194, k_194 =>
    if x5_194 < 0 then (k_194 x4_194 x5_194)
    else (ag y_f_shown_178 12 (x3_178 - (1 : Int32)) fun v_23 =>
    ag f_under 12 v_23 fun v_24 =>
    cl (m_X8_has v_24 x5_194) fun r_25 =>
    if r_25 = 0 then (m_X8_shows_L194 f_under y_f_far_58 v_21 x3_178 y_f_shown_178 n_194 x4_194 (x5_194 + (-1 : Int32)) k_194)
    else (ag y_f_far_58 12 x5_194 fun v_27 =>
    if v_27 = (v_21 - x3_178) then (m_X8_shows_L194 f_under y_f_far_58 v_21 x3_178 y_f_shown_178 n_194 x5_194 (x5_194 + (-1 : Int32)) k_194)
    else (m_X8_shows_L194 f_under y_f_far_58 v_21 x3_178 y_f_shown_178 n_194 x4_194 (x5_194 + (-1 : Int32)) k_194)))
def m_X8_shows_L178 (f_units : Int32) (f_under : (Nat → Int32)) (y_f_far_58 : (Nat → Int32)) (v_21 : Int32) : Nat → Int32 → (Nat → Int32) → (Int32 → (Nat → Int32) → Option ((Nat → Int32) × (Nat → Int32) × Int32)) → Option ((Nat → Int32) × (Nat → Int32) × Int32)
  | 0, _, _, _ => none
  | n_178 + 1, x3_178, y_f_shown_178, k_178 =>
    if v_21 ≤ x3_178 then (k_178 x3_178 y_f_shown_178)
    else (m_X8_shows_L194 f_under y_f_far_58 v_21 x3_178 y_f_shown_178 FU (-1 : Int32) (f_units - (1 : Int32)) fun x4_194 x5_194 =>
    au y_f_shown_178 12 x3_178 x4_194 fun g_28 =>
    m_X8_shows_L178 f_units f_under y_f_far_58 v_21 n_178 (x3_178 + (1 : Int32)) g_28 k_178)
def m_X8_shows (f_units : Int32) (f_under : (Nat → Int32)) (f_reached : (Nat → Int32)) (f_shown : (Nat → Int32)) (f_far : (Nat → Int32)) : Option ((Nat → Int32) × (Nat → Int32) × Int32) :=
  cl (m_X8_round f_units f_reached) fun r_1 =>
  cl (m_X8_leastOf r_1) fun r_3 =>
  if r_3 = (-1 : Int32) then (some (f_shown, f_far, (0 : Int32)))
  else (m_X8_shows_L17 f_units f_under r_3 FU (0 : Int32) f_far fun x2_17 y_f_far_17 =>
  m_X8_shows_L58 f_units f_under FU (0 : Int32) y_f_far_17 fun x2_58 y_f_far_58 =>
  ag y_f_far_58 12 r_3 fun v_21 =>
  au f_shown 12 (0 : Int32) r_3 fun g_22 =>
  m_X8_shows_L178 f_units f_under y_f_far_58 v_21 FU (1 : Int32) g_22 fun x3_178 y_f_shown_178 =>
  some (y_f_shown_178, y_f_far_58, v_21))
def m_X8_cycle (f_units : Int32) (f_ties : Int32) (f_aboves : (Nat → Int32)) (f_belows : (Nat → Int32)) (f_under : (Nat → Int32)) (f_over : (Nat → Int32)) (f_reached : (Nat → Int32)) (f_reaching : (Nat → Int32)) (f_shown : (Nat → Int32)) (f_far : (Nat → Int32)) (a_1 : Int32) : Option ((Nat → Int32) × (Nat → Int32) × (Nat → Int32) × (Nat → Int32) × (Nat → Int32) × (Nat → Int32) × Int32) :=
  if (-1 : Int32) ≤ a_1 then (cl (m_X8_works_ f_units f_ties f_aboves f_belows f_under f_over f_reached f_reaching) fun r_1 =>
  cl (m_X8_shows f_units r_1.1 r_1.2.2.1 f_shown f_far) fun r_3 =>
  if a_1 = (-1 : Int32) then (some (r_1.1, r_1.2.1, r_1.2.2.1, r_1.2.2.2, r_3.1, r_3.2.1, r_3.2.2))
  else (if r_3.2.2 ≤ a_1 then (some (r_1.1, r_1.2.1, r_1.2.2.1, r_1.2.2.2, r_3.1, r_3.2.1, (-5 : Int32)))
  else (ag r_3.1 12 a_1 fun v_5 =>
  some (r_1.1, r_1.2.1, r_1.2.2.1, r_1.2.2.2, r_3.1, r_3.2.1, v_5))))
  else (some (f_under, f_over, f_reached, f_reaching, f_shown, f_far, (-1 : Int32)))
def m_X8_level (f_units : Int32) (f_ties : Int32) (f_aboves : (Nat → Int32)) (f_belows : (Nat → Int32)) (f_under : (Nat → Int32)) (f_over : (Nat → Int32)) (f_reached : (Nat → Int32)) (f_reaching : (Nat → Int32)) (f_levels : (Nat → Int32)) (a_1 : Int32) : Option ((Nat → Int32) × (Nat → Int32) × (Nat → Int32) × (Nat → Int32) × (Nat → Int32) × Int32) :=
  cl (m_X8_isUnit f_units a_1) fun r_1 =>
  if r_1 = 0 then (some (f_under, f_over, f_reached, f_reaching, f_levels, (-1 : Int32)))
  else (cl (m_X8_works_ f_units f_ties f_aboves f_belows f_under f_over f_reached f_reaching) fun r_3 =>
  cl (m_X8_isRound f_units r_3.2.2.1) fun r_5 =>
  if r_5 = 0 then (cl (m_X8_levelsOf f_units f_ties f_aboves f_belows f_levels) fun r_7 =>
  ag r_7.1 12 a_1 fun v_9 =>
  some (r_3.1, r_3.2.1, r_3.2.2.1, r_3.2.2.2, r_7.1, v_9))
  else (some (r_3.1, r_3.2.1, r_3.2.2.1, r_3.2.2.2, f_levels, (-3 : Int32))))
def m_X8_idle_L14 (f_units : Int32) (f_ties : Int32) (f_aboves : (Nat → Int32)) (f_belows : (Nat → Int32)) (a_1 : Int32) (r_1 : ((Nat → Int32) × (Nat → Int32) × (Nat → Int32) × (Nat → Int32))) : Nat → Int32 → Int32 → (Int32 → Int32 → Option ((Nat → Int32) × (Nat → Int32) × (Nat → Int32) × (Nat → Int32) × Int32)) → Option ((Nat → Int32) × (Nat → Int32) × (Nat → Int32) × (Nat → Int32) × Int32)
  | 0, _, _, _ => none
  | n_14 + 1, x2_14, x3_14, k_14 =>
    if f_ties ≤ x3_14 then (k_14 x2_14 x3_14)
    else (cl (m_X8_isReduced f_units f_aboves f_belows r_1.2.2.1 x3_14) fun r_3 =>
    if r_3 = 0 then (if x2_14 = a_1 then (ag f_aboves 40 x3_14 fun v_5 =>
    ag f_belows 40 x3_14 fun v_6 =>
    some (r_1.1, r_1.2.1, r_1.2.2.1, r_1.2.2.2, (((100 : Int32) * v_5) + v_6)))
    else (m_X8_idle_L14 f_units f_ties f_aboves f_belows a_1 r_1 n_14 (x2_14 + (1 : Int32)) (x3_14 + (1 : Int32)) k_14))
    else (m_X8_idle_L14 f_units f_ties f_aboves f_belows a_1 r_1 n_14 x2_14 (x3_14 + (1 : Int32)) k_14))
def m_X8_idle (f_units : Int32) (f_ties : Int32) (f_aboves : (Nat → Int32)) (f_belows : (Nat → Int32)) (f_under : (Nat → Int32)) (f_over : (Nat → Int32)) (f_reached : (Nat → Int32)) (f_reaching : (Nat → Int32)) (a_1 : Int32) : Option ((Nat → Int32) × (Nat → Int32) × (Nat → Int32) × (Nat → Int32) × Int32) :=
  if 0 ≤ a_1 then (cl (m_X8_works_ f_units f_ties f_aboves f_belows f_under f_over f_reached f_reaching) fun r_1 =>
  m_X8_idle_L14 f_units f_ties f_aboves f_belows a_1 r_1 FU (0 : Int32) (0 : Int32) fun x2_14 x3_14 =>
  some (r_1.1, r_1.2.1, r_1.2.2.1, r_1.2.2.2, (-5 : Int32)))
  else (some (f_under, f_over, f_reached, f_reaching, (-1 : Int32)))
def m_X8_earliest_L9 (f_units : Int32) (f_froms : (Nat → Int32)) (f_reached : (Nat → Int32)) (a_1 : Int32) : Nat → Int32 → Int32 → (Int32 → Int32 → Option Int32) → Option Int32
  | 0, _, _, _ => none
  | n_9 + 1, x2_9, x3_9, k_9 =>
    if f_units ≤ x3_9 then (k_9 x2_9 x3_9)
    else (ag f_reached 12 a_1 fun v_2 =>
    cl (m_X8_has v_2 x3_9) fun r_3 =>
    if r_3 = 0 then (m_X8_earliest_L9 f_units f_froms f_reached a_1 n_9 x2_9 (x3_9 + (1 : Int32)) k_9)
    else (ag f_froms 12 x3_9 fun v_5 =>
    if v_5 ≤ x2_9 then (m_X8_earliest_L9 f_units f_froms f_reached a_1 n_9 x2_9 (x3_9 + (1 : Int32)) k_9)
    else (ag f_froms 12 x3_9 fun v_6 =>
    m_X8_earliest_L9 f_units f_froms f_reached a_1 n_9 v_6 (x3_9 + (1 : Int32)) k_9)))
def m_X8_earliest (f_units : Int32) (f_froms : (Nat → Int32)) (f_reached : (Nat → Int32)) (a_1 : Int32) : Option Int32 :=
  ag f_froms 12 a_1 fun v_1 =>
  m_X8_earliest_L9 f_units f_froms f_reached a_1 FU v_1 (0 : Int32) fun x2_9 x3_9 =>
  some x2_9
def m_X8_latest_L9 (f_units : Int32) (f_tos : (Nat → Int32)) (f_reaching : (Nat → Int32)) (a_1 : Int32) : Nat → Int32 → Int32 → (Int32 → Int32 → Option Int32) → Option Int32
  | 0, _, _, _ => none
  | n_9 + 1, x2_9, x3_9, k_9 =>
    if f_units ≤ x3_9 then (k_9 x2_9 x3_9)
    else (ag f_reaching 12 a_1 fun v_2 =>
    cl (m_X8_has v_2 x3_9) fun r_3 =>
    if r_3 = 0 then (m_X8_latest_L9 f_units f_tos f_reaching a_1 n_9 x2_9 (x3_9 + (1 : Int32)) k_9)
    else (ag f_tos 12 x3_9 fun v_5 =>
    if x2_9 ≤ v_5 then (m_X8_latest_L9 f_units f_tos f_reaching a_1 n_9 x2_9 (x3_9 + (1 : Int32)) k_9)
    else (ag f_tos 12 x3_9 fun v_6 =>
    m_X8_latest_L9 f_units f_tos f_reaching a_1 n_9 v_6 (x3_9 + (1 : Int32)) k_9)))
def m_X8_latest (f_units : Int32) (f_tos : (Nat → Int32)) (f_reaching : (Nat → Int32)) (a_1 : Int32) : Option Int32 :=
  ag f_tos 12 a_1 fun v_1 =>
  m_X8_latest_L9 f_units f_tos f_reaching a_1 FU v_1 (0 : Int32) fun x2_9 x3_9 =>
  some x2_9
def m_X8_inPhase_L4 (f_units : Int32) (f_phases : (Nat → Int32)) (a_1 : Int32) : Nat → Int32 → Int32 → (Int32 → Int32 → Option Int32) → Option Int32
  | 0, _, _, _ => none
  | n_4 + 1, x2_4, x3_4, k_4 =>
    if f_units ≤ x3_4 then (k_4 x2_4 x3_4)
    else (ag f_phases 12 x3_4 fun v_1 =>
    if v_1 = a_1 then (lt ((x2_4 ||| ((1 : Int32) <<< (x3_4 &&& 31)))) fun v_2 =>
    m_X8_inPhase_L4 f_units f_phases a_1 n_4 v_2 (x3_4 + (1 : Int32)) k_4)
    else (m_X8_inPhase_L4 f_units f_phases a_1 n_4 (x2_4 ||| (0 : Int32)) (x3_4 + (1 : Int32)) k_4))
def m_X8_inPhase (f_units : Int32) (f_phases : (Nat → Int32)) (a_1 : Int32) : Option Int32 :=
  m_X8_inPhase_L4 f_units f_phases a_1 FU (0 : Int32) (0 : Int32) fun x2_4 x3_4 =>
  some x2_4
def m_X8_reacher_L9 (f_units : Int32) (f_phases : (Nat → Int32)) (f_reached : (Nat → Int32)) (a_2 : Int32) (r_1 : (Int32)) : Nat → Int32 → (Int32 → Option Int32) → Option Int32
  | 0, _, _ => none
  | n_9 + 1, x4_9, k_9 =>
    if f_units ≤ x4_9 then (k_9 x4_9)
    else (cl (m_X8_has r_1 x4_9) fun r_3 =>
    if r_3 = 0 then (m_X8_reacher_L9 f_units f_phases f_reached a_2 r_1 n_9 (x4_9 + (1 : Int32)) k_9)
    else (ag f_reached 12 x4_9 fun v_5 =>
    cl (m_X8_inPhase f_units f_phases a_2) fun r_6 =>
    if (v_5 &&& r_6) = 0 then (m_X8_reacher_L9 f_units f_phases f_reached a_2 r_1 n_9 (x4_9 + (1 : Int32)) k_9)
    else (some x4_9)))
def m_X8_reacher (f_units : Int32) (f_phases : (Nat → Int32)) (f_reached : (Nat → Int32)) (a_1 : Int32) (a_2 : Int32) : Option Int32 :=
  cl (m_X8_inPhase f_units f_phases a_1) fun r_1 =>
  m_X8_reacher_L9 f_units f_phases f_reached a_2 r_1 FU (0 : Int32) fun x4_9 =>
  some (-1 : Int32)
def m_X8_faults (f_code : Int32) (f_cause : Int32) (f_last : Int32) (a_1 : Int32) (a_2 : Int32) (a_3 : Int32) : Option (Int32 × Int32 × Int32) :=
  if f_code = 0 then (some (a_1, a_2, a_3))
  else (some (f_code, f_cause, f_last))
def m_X8_isBare_L30 (f_units : Int32) (f_kinds : (Nat → Int32)) (r_2 : (Int32)) : Nat → Int32 → (Int32 → Option Int32) → Option Int32
  | 0, _, _ => none
  | n_30 + 1, x3_30, k_30 =>
    if f_units ≤ x3_30 then (k_30 x3_30)
    else (cl (m_X8_has r_2 x3_30) fun r_4 =>
    if r_4 = 0 then (m_X8_isBare_L30 f_units f_kinds r_2 n_30 (x3_30 + (1 : Int32)) k_30)
    else (ag f_kinds 12 x3_30 fun v_6 =>
    if v_6 = (1 : Int32) then (some (0 : Int32))
    else (ag f_kinds 12 x3_30 fun v_7 =>
    if v_7 = (4 : Int32) then (some (0 : Int32))
    else (m_X8_isBare_L30 f_units f_kinds r_2 n_30 (x3_30 + (1 : Int32)) k_30))))
def m_X8_isBare (f_units : Int32) (f_kinds : (Nat → Int32)) (f_ties : Int32) (f_aboves : (Nat → Int32)) (f_belows : (Nat → Int32)) (f_reached : (Nat → Int32)) (a_1 : Int32) : Option Int32 :=
  ag f_kinds 12 a_1 fun v_1 =>
  jn (fun x_22 : (Unit) =>
  cl (m_X8_reducedOf f_units f_ties f_aboves f_belows f_reached a_1) fun r_2 =>
  m_X8_isBare_L30 f_units f_kinds r_2 FU (0 : Int32) fun x3_30 =>
  some (1 : Int32)) fun j_22 =>
  if v_1 = (2 : Int32) then (j_22 ())
  else (ag f_kinds 12 a_1 fun v_8 =>
  if v_8 = (5 : Int32) then (j_22 ())
  else (some (0 : Int32)))
def m_X8_proves_L36 (f_units : Int32) (f_ties : Int32) (f_kinds : (Nat → Int32)) (f_aboves : (Nat → Int32)) (f_belows : (Nat → Int32)) (r_1 : ((Nat → Int32) × (Nat → Int32) × (Nat → Int32) × (Nat → Int32))) : Nat → Int32 → Int32 → Int32 → Int32 → (Int32 → Int32 → Int32 → Int32 → Option ((Nat → Int32) × (Nat → Int32) × (Nat → Int32) × (Nat → Int32) × (Nat → Int32) × (Nat → Int32) × Int32 × Int32 × Int32)) → Option ((Nat → Int32) × (Nat → Int32) × (Nat → Int32) × (Nat → Int32) × (Nat → Int32) × (Nat → Int32) × Int32 × Int32 × Int32)
  | 0, _, _, _, _, _ => none
  | n_36 + 1, x1_36, y_f_code_36, y_f_cause_36, y_f_last_36, k_36 =>
    if f_units ≤ x1_36 then (k_36 x1_36 y_f_code_36 y_f_cause_36 y_f_last_36)
    else (cl (m_X8_isBare f_units f_kinds f_ties f_aboves f_belows r_1.2.2.1 x1_36) fun r_5 =>
    if r_5 = 0 then (m_X8_proves_L36 f_units f_ties f_kinds f_aboves f_belows r_1 n_36 (x1_36 + (1 : Int32)) y_f_code_36 y_f_cause_36 y_f_last_36 k_36)
    else (cl (m_X8_faults y_f_code_36 y_f_cause_36 y_f_last_36 (2 : Int32) x1_36 (-5 : Int32)) fun r_7 =>
    m_X8_proves_L36 f_units f_ties f_kinds f_aboves f_belows r_1 n_36 (x1_36 + (1 : Int32)) r_7.1 r_7.2.1 r_7.2.2 k_36))
def m_X8_proves_L78 (f_units : Int32) (f_phases : (Nat → Int32)) (r_1 : ((Nat → Int32) × (Nat → Int32) × (Nat → Int32) × (Nat → Int32))) (x1_68 : Int32) : Nat → Int32 → Int32 → Int32 → Int32 → (Int32 → Int32 → Int32 → Int32 → Option ((Nat → Int32) × (Nat → Int32) × (Nat → Int32) × (Nat → Int32) × (Nat → Int32) × (Nat → Int32) × Int32 × Int32 × Int32)) → Option ((Nat → Int32) × (Nat → Int32) × (Nat → Int32) × (Nat → Int32) × (Nat → Int32) × (Nat → Int32) × Int32 × Int32 × Int32)
  | 0, _, _, _, _, _ => none
  | n_78 + 1, x2_78, y_f_code_78, y_f_cause_78, y_f_last_78, k_78 =>
    if (6 : Int32) ≤ x2_78 then (k_78 x2_78 y_f_code_78 y_f_cause_78 y_f_last_78)
    else (cl (m_X8_reacher f_units f_phases r_1.2.2.1 x1_68 x2_78) fun r_9 =>
    if r_9 = (-1 : Int32) then (m_X8_proves_L78 f_units f_phases r_1 x1_68 n_78 (x2_78 + (1 : Int32)) y_f_code_78 y_f_cause_78 y_f_last_78 k_78)
    else (cl (m_X8_reacher f_units f_phases r_1.2.2.1 x2_78 x1_68) fun r_11 =>
    if r_11 = (-1 : Int32) then (m_X8_proves_L78 f_units f_phases r_1 x1_68 n_78 (x2_78 + (1 : Int32)) y_f_code_78 y_f_cause_78 y_f_last_78 k_78)
    else (ag r_1.2.2.1 12 r_9 fun v_13 =>
    cl (m_X8_inPhase f_units f_phases x2_78) fun r_14 =>
    cl (m_X8_leastOf (v_13 &&& r_14)) fun r_16 =>
    cl (m_X8_faults y_f_code_78 y_f_cause_78 y_f_last_78 (3 : Int32) (((10 : Int32) * x1_68) + x2_78) (((100 : Int32) * r_9) + r_16)) fun r_18 =>
    m_X8_proves_L78 f_units f_phases r_1 x1_68 n_78 (x2_78 + (1 : Int32)) r_18.1 r_18.2.1 r_18.2.2 k_78)))
def m_X8_proves_L68 (f_units : Int32) (f_phases : (Nat → Int32)) (r_1 : ((Nat → Int32) × (Nat → Int32) × (Nat → Int32) × (Nat → Int32))) : Nat → Int32 → Int32 → Int32 → Int32 → (Int32 → Int32 → Int32 → Int32 → Option ((Nat → Int32) × (Nat → Int32) × (Nat → Int32) × (Nat → Int32) × (Nat → Int32) × (Nat → Int32) × Int32 × Int32 × Int32)) → Option ((Nat → Int32) × (Nat → Int32) × (Nat → Int32) × (Nat → Int32) × (Nat → Int32) × (Nat → Int32) × Int32 × Int32 × Int32)
  | 0, _, _, _, _, _ => none
  | n_68 + 1, x1_68, y_f_code_68, y_f_cause_68, y_f_last_68, k_68 =>
    if (6 : Int32) ≤ x1_68 then (k_68 x1_68 y_f_code_68 y_f_cause_68 y_f_last_68)
    else (m_X8_proves_L78 f_units f_phases r_1 x1_68 FU (x1_68 + (1 : Int32)) y_f_code_68 y_f_cause_68 y_f_last_68 fun x2_78 y_f_code_78 y_f_cause_78 y_f_last_78 =>
    m_X8_proves_L68 f_units f_phases r_1 n_68 (x1_68 + (1 : Int32)) y_f_code_78 y_f_cause_78 y_f_last_78 k_68)
def m_X8_proves_L151 (f_units : Int32) (f_froms : (Nat → Int32)) (f_tos : (Nat → Int32)) (r_1 : ((Nat → Int32) × (Nat → Int32) × (Nat → Int32) × (Nat → Int32))) : Nat → Int32 → Int32 → Int32 → Int32 → (Int32 → Int32 → Int32 → Int32 → Option ((Nat → Int32) × (Nat → Int32) × (Nat → Int32) × (Nat → Int32) × (Nat → Int32) × (Nat → Int32) × Int32 × Int32 × Int32)) → Option ((Nat → Int32) × (Nat → Int32) × (Nat → Int32) × (Nat → Int32) × (Nat → Int32) × (Nat → Int32) × Int32 × Int32 × Int32)
  | 0, _, _, _, _, _ => none
  | n_151 + 1, x1_151, y_f_code_151, y_f_cause_151, y_f_last_151, k_151 =>
    if f_units ≤ x1_151 then (k_151 x1_151 y_f_code_151 y_f_cause_151 y_f_last_151)
    else (cl (m_X8_earliest f_units f_froms r_1.2.2.1 x1_151) fun r_20 =>
    cl (m_X8_latest f_units f_tos r_1.2.2.2 x1_151) fun r_22 =>
    if r_20 ≤ r_22 then (m_X8_proves_L151 f_units f_froms f_tos r_1 n_151 (x1_151 + (1 : Int32)) y_f_code_151 y_f_cause_151 y_f_last_151 k_151)
    else (cl (m_X8_earliest f_units f_froms r_1.2.2.1 x1_151) fun r_24 =>
    cl (m_X8_latest f_units f_tos r_1.2.2.2 x1_151) fun r_26 =>
    cl (m_X8_faults y_f_code_151 y_f_cause_151 y_f_last_151 (4 : Int32) x1_151 (r_24 - r_26)) fun r_28 =>
    m_X8_proves_L151 f_units f_froms f_tos r_1 n_151 (x1_151 + (1 : Int32)) r_28.1 r_28.2.1 r_28.2.2 k_151))
def m_X8_proves (f_units : Int32) (f_kinds : (Nat → Int32)) (f_froms : (Nat → Int32)) (f_tos : (Nat → Int32)) (f_phases : (Nat → Int32)) (f_ties : Int32) (f_aboves : (Nat → Int32)) (f_belows : (Nat → Int32)) (f_under : (Nat → Int32)) (f_over : (Nat → Int32)) (f_reached : (Nat → Int32)) (f_reaching : (Nat → Int32)) (f_shown : (Nat → Int32)) (f_far : (Nat → Int32)) (f_code : Int32) (f_cause : Int32) (f_last : Int32) : Option ((Nat → Int32) × (Nat → Int32) × (Nat → Int32) × (Nat → Int32) × (Nat → Int32) × (Nat → Int32) × Int32 × Int32 × Int32) :=
  cl (m_X8_works_ f_units f_ties f_aboves f_belows f_under f_over f_reached f_reaching) fun r_1 =>
  cl (m_X8_isRound f_units r_1.2.2.1) fun r_3 =>
  if r_3 = 0 then (m_X8_proves_L36 f_units f_ties f_kinds f_aboves f_belows r_1 FU (0 : Int32) (0 : Int32) f_cause f_last fun x1_36 y_f_code_36 y_f_cause_36 y_f_last_36 =>
  m_X8_proves_L68 f_units f_phases r_1 FU (0 : Int32) y_f_code_36 y_f_cause_36 y_f_last_36 fun x1_68 y_f_code_68 y_f_cause_68 y_f_last_68 =>
  m_X8_proves_L151 f_units f_froms f_tos r_1 FU (0 : Int32) y_f_code_68 y_f_cause_68 y_f_last_68 fun x1_151 y_f_code_151 y_f_cause_151 y_f_last_151 =>
  some (r_1.1, r_1.2.1, r_1.2.2.1, r_1.2.2.2, f_shown, f_far, y_f_code_151, y_f_cause_151, y_f_last_151))
  else (cl (m_X8_shows f_units r_1.1 r_1.2.2.1 f_shown f_far) fun r_30 =>
  ag r_30.1 12 (0 : Int32) fun v_32 =>
  cl (m_X8_faults (0 : Int32) f_cause f_last (1 : Int32) v_32 r_30.2.2) fun r_33 =>
  some (r_1.1, r_1.2.1, r_1.2.2.1, r_1.2.2.2, r_30.1, r_30.2.1, r_33.1, r_33.2.1, r_33.2.2))
def m_X8_proof (f_units : Int32) (f_kinds : (Nat → Int32)) (f_froms : (Nat → Int32)) (f_tos : (Nat → Int32)) (f_phases : (Nat → Int32)) (f_ties : Int32) (f_aboves : (Nat → Int32)) (f_belows : (Nat → Int32)) (f_under : (Nat → Int32)) (f_over : (Nat → Int32)) (f_reached : (Nat → Int32)) (f_reaching : (Nat → Int32)) (f_shown : (Nat → Int32)) (f_far : (Nat → Int32)) (f_code : Int32) (f_cause : Int32) (f_last : Int32) (a_1 : Int32) : Option ((Nat → Int32) × (Nat → Int32) × (Nat → Int32) × (Nat → Int32) × (Nat → Int32) × (Nat → Int32) × Int32 × Int32 × Int32 × Int32) :=
  if 0 ≤ a_1 then (cl (m_X8_proves f_units f_kinds f_froms f_tos f_phases f_ties f_aboves f_belows f_under f_over f_reached f_reaching f_shown f_far f_code f_cause f_last) fun r_1 =>
  if a_1 = 0 then (some (r_1.1, r_1.2.1, r_1.2.2.1, r_1.2.2.2.1, r_1.2.2.2.2.1, r_1.2.2.2.2.2.1, r_1.2.2.2.2.2.2.1, r_1.2.2.2.2.2.2.2.1, r_1.2.2.2.2.2.2.2.2, r_1.2.2.2.2.2.2.1))
  else (if r_1.2.2.2.2.2.2.1 = 0 then (some (r_1.1, r_1.2.1, r_1.2.2.1, r_1.2.2.2.1, r_1.2.2.2.2.1, r_1.2.2.2.2.2.1, r_1.2.2.2.2.2.2.1, r_1.2.2.2.2.2.2.2.1, r_1.2.2.2.2.2.2.2.2, (-5 : Int32)))
  else (if a_1 ≤ (2 : Int32) then (if a_1 = (1 : Int32) then (some (r_1.1, r_1.2.1, r_1.2.2.1, r_1.2.2.2.1, r_1.2.2.2.2.1, r_1.2.2.2.2.2.1, r_1.2.2.2.2.2.2.1, r_1.2.2.2.2.2.2.2.1, r_1.2.2.2.2.2.2.2.2, r_1.2.2.2.2.2.2.2.1))
  else (some (r_1.1, r_1.2.1, r_1.2.2.1, r_1.2.2.2.1, r_1.2.2.2.2.1, r_1.2.2.2.2.2.1, r_1.2.2.2.2.2.2.1, r_1.2.2.2.2.2.2.2.1, r_1.2.2.2.2.2.2.2.2, r_1.2.2.2.2.2.2.2.2)))
  else (some (r_1.1, r_1.2.1, r_1.2.2.1, r_1.2.2.2.1, r_1.2.2.2.2.1, r_1.2.2.2.2.2.1, r_1.2.2.2.2.2.2.1, r_1.2.2.2.2.2.2.2.1, r_1.2.2.2.2.2.2.2.2, (-5 : Int32))))))
  else (some (f_under, f_over, f_reached, f_reaching, f_shown, f_far, f_code, f_cause, f_last, (-1 : Int32)))
def m_X8_isOver (f_units : Int32) (f_phases : (Nat → Int32)) (f_reached : (Nat → Int32)) (a_1 : Int32) (a_2 : Int32) : Option Int32 :=
  cl (m_X8_reacher f_units f_phases f_reached a_1 a_2) fun r_1 =>
  if r_1 = (-1 : Int32) then (some (0 : Int32))
  else (cl (m_X8_reacher f_units f_phases f_reached a_2 a_1) fun r_3 =>
  if r_3 = (-1 : Int32) then (some (1 : Int32))
  else (some (0 : Int32)))
def m_X8_over (f_units : Int32) (f_phases : (Nat → Int32)) (f_ties : Int32) (f_aboves : (Nat → Int32)) (f_belows : (Nat → Int32)) (f_under : (Nat → Int32)) (f_over : (Nat → Int32)) (f_reached : (Nat → Int32)) (f_reaching : (Nat → Int32)) (a_1 : Int32) (a_2 : Int32) : Option ((Nat → Int32) × (Nat → Int32) × (Nat → Int32) × (Nat → Int32) × Int32) :=
  cl (m_X8_isPhase a_1) fun r_1 =>
  if r_1 = 0 then (some (f_under, f_over, f_reached, f_reaching, (-1 : Int32)))
  else (cl (m_X8_isPhase a_2) fun r_3 =>
  if r_3 = 0 then (some (f_under, f_over, f_reached, f_reaching, (-1 : Int32)))
  else (if a_1 = a_2 then (some (f_under, f_over, f_reached, f_reaching, (-1 : Int32)))
  else (cl (m_X8_works_ f_units f_ties f_aboves f_belows f_under f_over f_reached f_reaching) fun r_5 =>
  cl (m_X8_isOver f_units f_phases r_5.2.2.1 a_1 a_2) fun r_7 =>
  if r_7 = 0 then (some (r_5.1, r_5.2.1, r_5.2.2.1, r_5.2.2.2, (0 : Int32)))
  else (some (r_5.1, r_5.2.1, r_5.2.2.1, r_5.2.2.2, (1 : Int32))))))
def m_X8_rank_L38 (f_units : Int32) (f_phases : (Nat → Int32)) (r_3 : ((Nat → Int32) × (Nat → Int32) × (Nat → Int32) × (Nat → Int32))) (x4_28 : Int32) : Nat → Int32 → Int32 → (Int32 → Int32 → Option ((Nat → Int32) × (Nat → Int32) × (Nat → Int32) × (Nat → Int32) × Int32)) → Option ((Nat → Int32) × (Nat → Int32) × (Nat → Int32) × (Nat → Int32) × Int32)
  | 0, _, _, _ => none
  | n_38 + 1, x2_38, x5_38, k_38 =>
    if (6 : Int32) ≤ x5_38 then (k_38 x2_38 x5_38)
    else (cl (m_X8_has x2_38 x4_28) fun r_6 =>
    if r_6 = 0 then (m_X8_rank_L38 f_units f_phases r_3 x4_28 n_38 (x2_38 ||| (0 : Int32)) (x5_38 + (1 : Int32)) k_38)
    else (if x4_28 = x5_38 then (m_X8_rank_L38 f_units f_phases r_3 x4_28 n_38 (x2_38 ||| (0 : Int32)) (x5_38 + (1 : Int32)) k_38)
    else (cl (m_X8_isOver f_units f_phases r_3.2.2.1 x4_28 x5_38) fun r_8 =>
    if r_8 = 0 then (m_X8_rank_L38 f_units f_phases r_3 x4_28 n_38 (x2_38 ||| (0 : Int32)) (x5_38 + (1 : Int32)) k_38)
    else (lt ((x2_38 ||| ((1 : Int32) <<< (x5_38 &&& 31)))) fun v_10 =>
    m_X8_rank_L38 f_units f_phases r_3 x4_28 n_38 v_10 (x5_38 + (1 : Int32)) k_38))))
def m_X8_rank_L28 (f_units : Int32) (f_phases : (Nat → Int32)) (r_3 : ((Nat → Int32) × (Nat → Int32) × (Nat → Int32) × (Nat → Int32))) : Nat → Int32 → Int32 → (Int32 → Int32 → Option ((Nat → Int32) × (Nat → Int32) × (Nat → Int32) × (Nat → Int32) × Int32)) → Option ((Nat → Int32) × (Nat → Int32) × (Nat → Int32) × (Nat → Int32) × Int32)
  | 0, _, _, _ => none
  | n_28 + 1, x2_28, x4_28, k_28 =>
    if (6 : Int32) ≤ x4_28 then (k_28 x2_28 x4_28)
    else (m_X8_rank_L38 f_units f_phases r_3 x4_28 FU x2_28 (0 : Int32) fun x2_38 x5_38 =>
    m_X8_rank_L28 f_units f_phases r_3 n_28 x2_38 (x4_28 + (1 : Int32)) k_28)
def m_X8_rank_L19 (f_units : Int32) (f_phases : (Nat → Int32)) (r_3 : ((Nat → Int32) × (Nat → Int32) × (Nat → Int32) × (Nat → Int32))) : Nat → Int32 → Int32 → (Int32 → Int32 → Option ((Nat → Int32) × (Nat → Int32) × (Nat → Int32) × (Nat → Int32) × Int32)) → Option ((Nat → Int32) × (Nat → Int32) × (Nat → Int32) × (Nat → Int32) × Int32)
  | 0, _, _, _ => none
  | n_19 + 1, x2_19, x3_19, k_19 =>
    if (6 : Int32) ≤ x3_19 then (k_19 x2_19 x3_19)
    else (m_X8_rank_L28 f_units f_phases r_3 FU x2_19 (0 : Int32) fun x2_28 x4_28 =>
    m_X8_rank_L19 f_units f_phases r_3 n_19 x2_28 (x3_19 + (1 : Int32)) k_19)
def m_X8_rank (f_units : Int32) (f_phases : (Nat → Int32)) (f_ties : Int32) (f_aboves : (Nat → Int32)) (f_belows : (Nat → Int32)) (f_under : (Nat → Int32)) (f_over : (Nat → Int32)) (f_reached : (Nat → Int32)) (f_reaching : (Nat → Int32)) (a_1 : Int32) : Option ((Nat → Int32) × (Nat → Int32) × (Nat → Int32) × (Nat → Int32) × Int32) :=
  cl (m_X8_isPhase a_1) fun r_1 =>
  if r_1 = 0 then (some (f_under, f_over, f_reached, f_reaching, (-1 : Int32)))
  else (cl (m_X8_works_ f_units f_ties f_aboves f_belows f_under f_over f_reached f_reaching) fun r_3 =>
  lt (((1 : Int32) <<< (a_1 &&& 31))) fun v_5 =>
  m_X8_rank_L19 f_units f_phases r_3 FU v_5 (0 : Int32) fun x2_19 x3_19 =>
  cl (m_X8_sizeOf x2_19) fun r_11 =>
  some (r_3.1, r_3.2.1, r_3.2.2.1, r_3.2.2.2, (r_11 - (1 : Int32))))
def m_X8_bounds (f_units : Int32) (f_froms : (Nat → Int32)) (f_tos : (Nat → Int32)) (f_ties : Int32) (f_aboves : (Nat → Int32)) (f_belows : (Nat → Int32)) (f_under : (Nat → Int32)) (f_over : (Nat → Int32)) (f_reached : (Nat → Int32)) (f_reaching : (Nat → Int32)) (a_1 : Int32) (a_2 : Int32) : Option ((Nat → Int32) × (Nat → Int32) × (Nat → Int32) × (Nat → Int32) × Int32) :=
  cl (m_X8_isUnit f_units a_1) fun r_1 =>
  if r_1 = 0 then (some (f_under, f_over, f_reached, f_reaching, (-1 : Int32)))
  else (cl (m_X8_in a_2 (0 : Int32) (1 : Int32)) fun r_3 =>
  if r_3 = 0 then (some (f_under, f_over, f_reached, f_reaching, (-1 : Int32)))
  else (cl (m_X8_works_ f_units f_ties f_aboves f_belows f_under f_over f_reached f_reaching) fun r_5 =>
  cl (m_X8_isRound f_units r_5.2.2.1) fun r_7 =>
  if r_7 = 0 then (if a_2 = 0 then (cl (m_X8_earliest f_units f_froms r_5.2.2.1 a_1) fun r_11 =>
  some (r_5.1, r_5.2.1, r_5.2.2.1, r_5.2.2.2, r_11))
  else (cl (m_X8_latest f_units f_tos r_5.2.2.2 a_1) fun r_9 =>
  some (r_5.1, r_5.2.1, r_5.2.2.1, r_5.2.2.2, r_9)))
  else (some (r_5.1, r_5.2.1, r_5.2.2.1, r_5.2.2.2, (-3 : Int32)))))
def m_X8_middleOf (f_units : Int32) (f_froms : (Nat → Int32)) (f_tos : (Nat → Int32)) (f_reached : (Nat → Int32)) (f_reaching : (Nat → Int32)) (a_1 : Int32) : Option UInt64 :=
  cl (m_X8_earliest f_units f_froms f_reached a_1) fun r_1 =>
  cl (m_X8_latest f_units f_tos f_reaching a_1) fun r_3 =>
  fgd (FP.dadd (FP.i2d r_1) (FP.i2d r_3)) fun v_5 =>
  fgd (FP.ddiv v_5 (4611686018427387904 : UInt64)) fun v_6 =>
  some v_6
def m_Jxe99ae_isNaN_b9ae7 (a_1 : UInt64) : Option Int32 :=
  if (Op.cmpValue (FP.dcmp a_1 a_1) .l) = 0 then (some (0 : Int32))
  else (some (1 : Int32))
def m_Jxe99ae_doubleToLongBits_ccdee (a_1 : UInt64) : Option Int64 :=
  cl (m_Jxe99ae_isNaN_b9ae7 a_1) fun r_1 =>
  if r_1 = 0 then (some (a_1).toInt64)
  else (some (9221120237041090560 : Int64))
def m_X8_middle (f_units : Int32) (f_froms : (Nat → Int32)) (f_tos : (Nat → Int32)) (f_ties : Int32) (f_aboves : (Nat → Int32)) (f_belows : (Nat → Int32)) (f_under : (Nat → Int32)) (f_over : (Nat → Int32)) (f_reached : (Nat → Int32)) (f_reaching : (Nat → Int32)) (a_1 : Int32) : Option ((Nat → Int32) × (Nat → Int32) × (Nat → Int32) × (Nat → Int32) × Int64) :=
  cl (m_X8_works_ f_units f_ties f_aboves f_belows f_under f_over f_reached f_reaching) fun r_1 =>
  cl (m_X8_isUnit f_units a_1) fun r_3 =>
  if r_3 = 0 then (some (r_1.1, r_1.2.1, r_1.2.2.1, r_1.2.2.2, (-9223372036854775808 : Int64)))
  else (cl (m_X8_isRound f_units r_1.2.2.1) fun r_5 =>
  if r_5 = 0 then (cl (m_X8_middleOf f_units f_froms f_tos r_1.2.2.1 r_1.2.2.2 a_1) fun r_7 =>
  cl (m_Jxe99ae_doubleToLongBits_ccdee r_7) fun r_9 =>
  some (r_1.1, r_1.2.1, r_1.2.2.1, r_1.2.2.2, r_9))
  else (some (r_1.1, r_1.2.1, r_1.2.2.1, r_1.2.2.2, (-9223372036854775808 : Int64))))
def m_Jxf58ca_isNaN_12338 (a_1 : UInt32) : Option Int32 :=
  if (Op.cmpValue (FP.fcmp a_1 a_1) .l) = 0 then (some (0 : Int32))
  else (some (1 : Int32))
def m_Jxf58ca_floatToIntBits_5c35a (a_1 : UInt32) : Option Int32 :=
  cl (m_Jxf58ca_isNaN_12338 a_1) fun r_1 =>
  if r_1 = 0 then (some (a_1).toInt32)
  else (some (2143289344 : Int32))
def m_X8_rate (f_units : Int32) (f_thicks : (Nat → Int32)) (f_froms : (Nat → Int32)) (f_tos : (Nat → Int32)) (f_ties : Int32) (f_aboves : (Nat → Int32)) (f_belows : (Nat → Int32)) (f_under : (Nat → Int32)) (f_over : (Nat → Int32)) (f_reached : (Nat → Int32)) (f_reaching : (Nat → Int32)) (a_1 : Int32) : Option ((Nat → Int32) × (Nat → Int32) × (Nat → Int32) × (Nat → Int32) × Int32) :=
  cl (m_X8_isUnit f_units a_1) fun r_1 =>
  if r_1 = 0 then (some (f_under, f_over, f_reached, f_reaching, (-1 : Int32)))
  else (cl (m_X8_works_ f_units f_ties f_aboves f_belows f_under f_over f_reached f_reaching) fun r_3 =>
  cl (m_X8_isRound f_units r_3.2.2.1) fun r_5 =>
  if r_5 = 0 then (cl (m_X8_latest f_units f_tos r_3.2.2.2 a_1) fun r_7 =>
  cl (m_X8_earliest f_units f_froms r_3.2.2.1 a_1) fun r_9 =>
  lt (((r_7 - r_9) + (1 : Int32))) fun v_11 =>
  if (1 : Int32) ≤ v_11 then (ag f_thicks 12 a_1 fun v_12 =>
  fgf (FP.fdiv (FP.i2f v_12) (FP.i2f v_11)) fun v_13 =>
  cl (m_Jxf58ca_floatToIntBits_5c35a v_13) fun r_14 =>
  some (r_3.1, r_3.2.1, r_3.2.2.1, r_3.2.2.2, r_14))
  else (cl (m_Jxf58ca_floatToIntBits_5c35a FP.fconst0) fun r_16 =>
  some (r_3.1, r_3.2.1, r_3.2.2.1, r_3.2.2.2, r_16)))
  else (some (r_3.1, r_3.2.1, r_3.2.2.1, r_3.2.2.2, (-3 : Int32))))
def m_X8_age_L47 (f_units : Int32) (f_thicks : (Nat → Int32)) (f_froms : (Nat → Int32)) (f_tos : (Nat → Int32)) (f_phases : (Nat → Int32)) (a_1 : Int32) (r_1 : ((Nat → Int32) × (Nat → Int32) × (Nat → Int32) × (Nat → Int32))) : Nat → UInt64 → Int32 → Int32 → (UInt64 → Int32 → Int32 → Option ((Nat → Int32) × (Nat → Int32) × (Nat → Int32) × (Nat → Int32) × Int64)) → Option ((Nat → Int32) × (Nat → Int32) × (Nat → Int32) × (Nat → Int32) × Int64)
  | 0, _, _, _, _ => none
  | n_47 + 1, x3_47, x5_47, x6_47, k_47 =>
    if f_units ≤ x6_47 then (k_47 x3_47 x5_47 x6_47)
    else (ag f_phases 12 x6_47 fun v_11 =>
    if v_11 = a_1 then (cl (m_X8_middleOf f_units f_froms f_tos r_1.2.2.1 r_1.2.2.2 x6_47) fun r_12 =>
    ag f_thicks 12 x6_47 fun v_14 =>
    fgd (FP.dmul r_12 (FP.i2d v_14)) fun v_15 =>
    fgd (FP.dadd x3_47 v_15) fun v_16 =>
    ag f_thicks 12 x6_47 fun v_17 =>
    m_X8_age_L47 f_units f_thicks f_froms f_tos f_phases a_1 r_1 n_47 v_16 (x5_47 + v_17) (x6_47 + (1 : Int32)) k_47)
    else (m_X8_age_L47 f_units f_thicks f_froms f_tos f_phases a_1 r_1 n_47 x3_47 x5_47 (x6_47 + (1 : Int32)) k_47))
def m_X8_age (f_units : Int32) (f_thicks : (Nat → Int32)) (f_froms : (Nat → Int32)) (f_tos : (Nat → Int32)) (f_phases : (Nat → Int32)) (f_ties : Int32) (f_aboves : (Nat → Int32)) (f_belows : (Nat → Int32)) (f_under : (Nat → Int32)) (f_over : (Nat → Int32)) (f_reached : (Nat → Int32)) (f_reaching : (Nat → Int32)) (a_1 : Int32) (a_2 : Int32) : Option ((Nat → Int32) × (Nat → Int32) × (Nat → Int32) × (Nat → Int32) × Int64) :=
  cl (m_X8_works_ f_units f_ties f_aboves f_belows f_under f_over f_reached f_reaching) fun r_1 =>
  cl (m_X8_isPhase a_1) fun r_3 =>
  if r_3 = 0 then (some (r_1.1, r_1.2.1, r_1.2.2.1, r_1.2.2.2, (-9223372036854775808 : Int64)))
  else (cl (m_X8_inPhase f_units f_phases a_1) fun r_5 =>
  if r_5 = 0 then (some (r_1.1, r_1.2.1, r_1.2.2.1, r_1.2.2.2, (-9223372036854775808 : Int64)))
  else (cl (m_X8_in a_2 (0 : Int32) (1 : Int32)) fun r_7 =>
  if r_7 = 0 then (some (r_1.1, r_1.2.1, r_1.2.2.1, r_1.2.2.2, (-9223372036854775808 : Int64)))
  else (cl (m_X8_isRound f_units r_1.2.2.1) fun r_9 =>
  if r_9 = 0 then (m_X8_age_L47 f_units f_thicks f_froms f_tos f_phases a_1 r_1 FU FP.dconst0 (0 : Int32) (0 : Int32) fun x3_47 x5_47 x6_47 =>
  if x5_47 = 0 then (if a_2 = 0 then (cl (m_Jxe99ae_doubleToLongBits_ccdee FP.dconst0) fun r_23 =>
  some (r_1.1, r_1.2.1, r_1.2.2.1, r_1.2.2.2, r_23))
  else (fgd (FP.dadd FP.dconst0 (4602678819172646912 : UInt64)) fun v_22 =>
  some (r_1.1, r_1.2.1, r_1.2.2.1, r_1.2.2.2, (FP.d2l v_22))))
  else (fgd (FP.ddiv x3_47 (FP.i2d x5_47)) fun v_18 =>
  if a_2 = 0 then (cl (m_Jxe99ae_doubleToLongBits_ccdee v_18) fun r_20 =>
  some (r_1.1, r_1.2.1, r_1.2.2.1, r_1.2.2.2, r_20))
  else (fgd (FP.dadd v_18 (4602678819172646912 : UInt64)) fun v_19 =>
  some (r_1.1, r_1.2.1, r_1.2.2.1, r_1.2.2.2, (FP.d2l v_19)))))
  else (some (r_1.1, r_1.2.1, r_1.2.2.1, r_1.2.2.2, (-9223372036854775808 : Int64))))))
def m_X8_dig (f_units : Int32) (f_ties : Int32) (f_aboves : (Nat → Int32)) (f_belows : (Nat → Int32)) (f_dug : (Nat → Int32)) (f_dugMany : Int32) (f_under : (Nat → Int32)) (f_over : (Nat → Int32)) (f_reached : (Nat → Int32)) (f_reaching : (Nat → Int32)) (a_1 : Int32) : Option ((Nat → Int32) × Int32 × (Nat → Int32) × (Nat → Int32) × (Nat → Int32) × (Nat → Int32) × Int32) :=
  cl (m_X8_isUnit f_units a_1) fun r_1 =>
  if r_1 = 0 then (some (f_dug, f_dugMany, f_under, f_over, f_reached, f_reaching, (-1 : Int32)))
  else (cl (m_X8_works_ f_units f_ties f_aboves f_belows f_under f_over f_reached f_reaching) fun r_3 =>
  cl (m_X8_dugSet f_dug f_dugMany) fun r_5 =>
  cl (m_X8_has r_5 a_1) fun r_7 =>
  if r_7 = 0 then (ag r_3.2.1 12 a_1 fun v_9 =>
  cl (m_X8_dugSet f_dug f_dugMany) fun r_10 =>
  if (v_9 &&& (r_10 ^^^ (-1 : Int32))) = 0 then (au f_dug 12 f_dugMany a_1 fun g_12 =>
  some (g_12, (f_dugMany + (1 : Int32)), r_3.1, r_3.2.1, r_3.2.2.1, r_3.2.2.2, (f_dugMany + (1 : Int32))))
  else (some (f_dug, f_dugMany, r_3.1, r_3.2.1, r_3.2.2.1, r_3.2.2.2, (-3 : Int32))))
  else (some (f_dug, f_dugMany, r_3.1, r_3.2.1, r_3.2.2.1, r_3.2.2.2, (-3 : Int32))))
def m_X8_lay (f_dug : (Nat → Int32)) (f_dugMany : Int32) : Option (Int32 × Int32) :=
  if f_dugMany = 0 then (some (f_dugMany, (-3 : Int32)))
  else (ag f_dug 12 (f_dugMany - (1 : Int32)) fun v_1 =>
  some ((f_dugMany - (1 : Int32)), v_1))
def m_X8_dug (f_dug : (Nat → Int32)) (f_dugMany : Int32) (a_1 : Int32) : Option Int32 :=
  if 0 ≤ a_1 then (if f_dugMany ≤ a_1 then (some (-5 : Int32))
  else (ag f_dug 12 a_1 fun v_1 =>
  some v_1))
  else (some (-1 : Int32))
def m_X8_counts_L29 (f_units : Int32) (f_over : (Nat → Int32)) (x2_20 : Int32) (y_f_ways_20 : (Nat → Int64)) : Nat → Int64 → Int32 → (Int64 → Int32 → Option (Nat → Int64)) → Option (Nat → Int64)
  | 0, _, _, _ => none
  | n_29 + 1, x3_29, x5_29, k_29 =>
    if f_units ≤ x5_29 then (k_29 x3_29 x5_29)
    else (cl (m_X8_has x2_20 x5_29) fun r_3 =>
    if r_3 = 0 then (ag f_over 12 x5_29 fun v_5 =>
    if (v_5 &&& (x2_20 ^^^ (-1 : Int32))) = 0 then (ag y_f_ways_20 4096 (x2_20 ||| ((1 : Int32) <<< (x5_29 &&& 31))) fun v_6 =>
    m_X8_counts_L29 f_units f_over x2_20 y_f_ways_20 n_29 (x3_29 + v_6) (x5_29 + (1 : Int32)) k_29)
    else (m_X8_counts_L29 f_units f_over x2_20 y_f_ways_20 n_29 (x3_29 + (0 : Int64)) (x5_29 + (1 : Int32)) k_29))
    else (m_X8_counts_L29 f_units f_over x2_20 y_f_ways_20 n_29 (x3_29 + (0 : Int64)) (x5_29 + (1 : Int32)) k_29))
def m_X8_counts_L20 (f_units : Int32) (f_over : (Nat → Int32)) : Nat → Int32 → (Nat → Int64) → (Int32 → (Nat → Int64) → Option (Nat → Int64)) → Option (Nat → Int64)
  | 0, _, _, _ => none
  | n_20 + 1, x2_20, y_f_ways_20, k_20 =>
    if x2_20 < 0 then (k_20 x2_20 y_f_ways_20)
    else (m_X8_counts_L29 f_units f_over x2_20 y_f_ways_20 FU (0 : Int64) (0 : Int32) fun x3_29 x5_29 =>
    al y_f_ways_20 4096 x2_20 x3_29 fun g_7 =>
    m_X8_counts_L20 f_units f_over n_20 (x2_20 + (-1 : Int32)) g_7 k_20)
def m_X8_counts (f_units : Int32) (f_over : (Nat → Int32)) (f_ways : (Nat → Int64)) : Option (Nat → Int64) :=
  lt ((((1 : Int32) <<< (f_units &&& 31)) - (1 : Int32))) fun v_1 =>
  al f_ways 4096 v_1 (1 : Int64) fun g_2 =>
  m_X8_counts_L20 f_units f_over FU (v_1 - (1 : Int32)) g_2 fun x2_20 y_f_ways_20 =>
  some y_f_ways_20
def m_X8_ordersFrom (f_units : Int32) (f_over : (Nat → Int32)) (f_reached : (Nat → Int32)) (f_ways : (Nat → Int64)) (a_1 : Int32) : Option ((Nat → Int64) × Int64) :=
  cl (m_X8_isRound f_units f_reached) fun r_1 =>
  if r_1 = 0 then (cl (m_X8_counts f_units f_over f_ways) fun r_3 =>
  ag r_3 4096 a_1 fun v_5 =>
  some (r_3, v_5))
  else (some (f_ways, (0 : Int64)))
def m_X8_orders (f_units : Int32) (f_ties : Int32) (f_aboves : (Nat → Int32)) (f_belows : (Nat → Int32)) (f_dug : (Nat → Int32)) (f_dugMany : Int32) (f_under : (Nat → Int32)) (f_over : (Nat → Int32)) (f_reached : (Nat → Int32)) (f_reaching : (Nat → Int32)) (f_ways : (Nat → Int64)) : Option ((Nat → Int32) × (Nat → Int32) × (Nat → Int32) × (Nat → Int32) × (Nat → Int64) × Int64) :=
  cl (m_X8_works_ f_units f_ties f_aboves f_belows f_under f_over f_reached f_reaching) fun r_1 =>
  cl (m_X8_dugSet f_dug f_dugMany) fun r_3 =>
  cl (m_X8_ordersFrom f_units r_1.2.1 r_1.2.2.1 f_ways r_3) fun r_5 =>
  some (r_1.1, r_1.2.1, r_1.2.2.1, r_1.2.2.2, r_5.1, r_5.2)
def m_X8_order_L69 (f_units : Int32) (r_1 : ((Nat → Int32) × (Nat → Int32) × (Nat → Int32) × (Nat → Int32))) (r_5 : ((Nat → Int64) × Int64)) (x4_57 : Int32) : Nat → Int64 → Int32 → Int32 → (Int64 → Int32 → Int32 → Option ((Nat → Int32) × (Nat → Int32) × (Nat → Int32) × (Nat → Int32) × (Nat → Int64) × Int32)) → Option ((Nat → Int32) × (Nat → Int32) × (Nat → Int32) × (Nat → Int32) × (Nat → Int64) × Int32)
  | 0, _, _, _, _ => none
  | n_69 + 1, x5_69, x7_69, x9_69, k_69 =>
    if f_units ≤ x9_69 then (k_69 x5_69 x7_69 x9_69)
    else (if x7_69 = (-1 : Int32) then (cl (m_X8_has x4_57 x9_69) fun r_9 =>
    if r_9 = 0 then (ag r_1.2.1 12 x9_69 fun v_11 =>
    if (v_11 &&& (x4_57 ^^^ (-1 : Int32))) = 0 then (ag r_5.1 4096 (x4_57 ||| ((1 : Int32) <<< (x9_69 &&& 31))) fun v_12 =>
    if 0 ≤ (lg_cmp x5_69 v_12) then (if 0 ≤ (lg_cmp x5_69 v_12) then (m_X8_order_L69 f_units r_1 r_5 x4_57 n_69 (x5_69 - v_12) (-1 : Int32) (x9_69 + (1 : Int32)) k_69)
    else (m_X8_order_L69 f_units r_1 r_5 x4_57 n_69 (x5_69 - (0 : Int64)) (-1 : Int32) (x9_69 + (1 : Int32)) k_69))
    else (if 0 ≤ (lg_cmp x5_69 v_12) then (m_X8_order_L69 f_units r_1 r_5 x4_57 n_69 (x5_69 - v_12) x9_69 (x9_69 + (1 : Int32)) k_69)
    else (m_X8_order_L69 f_units r_1 r_5 x4_57 n_69 (x5_69 - (0 : Int64)) x9_69 (x9_69 + (1 : Int32)) k_69)))
    else (m_X8_order_L69 f_units r_1 r_5 x4_57 n_69 x5_69 x7_69 (x9_69 + (1 : Int32)) k_69))
    else (m_X8_order_L69 f_units r_1 r_5 x4_57 n_69 x5_69 x7_69 (x9_69 + (1 : Int32)) k_69))
    else (k_69 x5_69 x7_69 x9_69))
def m_X8_order_L57 (f_units : Int32) (a_2 : Int32) (r_1 : ((Nat → Int32) × (Nat → Int32) × (Nat → Int32) × (Nat → Int32))) (r_5 : ((Nat → Int64) × Int64)) : Nat → Int32 → Int64 → Int32 → Int32 → (Int32 → Int64 → Int32 → Int32 → Option ((Nat → Int32) × (Nat → Int32) × (Nat → Int32) × (Nat → Int32) × (Nat → Int64) × Int32)) → Option ((Nat → Int32) × (Nat → Int32) × (Nat → Int32) × (Nat → Int32) × (Nat → Int64) × Int32)
  | 0, _, _, _, _, _ => none
  | n_57 + 1, x4_57, x5_57, x7_57, x8_57, k_57 =>
    if a_2 < x8_57 then (k_57 x4_57 x5_57 x7_57 x8_57)
    else (m_X8_order_L69 f_units r_1 r_5 x4_57 FU x5_57 (-1 : Int32) (0 : Int32) fun x5_69 x7_69 x9_69 =>
    lt ((x4_57 ||| ((1 : Int32) <<< (x7_69 &&& 31)))) fun v_13 =>
    m_X8_order_L57 f_units a_2 r_1 r_5 n_57 v_13 x5_69 x7_69 (x8_57 + (1 : Int32)) k_57)
def m_X8_order (f_units : Int32) (f_ties : Int32) (f_aboves : (Nat → Int32)) (f_belows : (Nat → Int32)) (f_dug : (Nat → Int32)) (f_dugMany : Int32) (f_under : (Nat → Int32)) (f_over : (Nat → Int32)) (f_reached : (Nat → Int32)) (f_reaching : (Nat → Int32)) (f_ways : (Nat → Int64)) (a_1 : Int64) (a_2 : Int32) : Option ((Nat → Int32) × (Nat → Int32) × (Nat → Int32) × (Nat → Int32) × (Nat → Int64) × Int32) :=
  cl (m_X8_works_ f_units f_ties f_aboves f_belows f_under f_over f_reached f_reaching) fun r_1 =>
  cl (m_X8_dugSet f_dug f_dugMany) fun r_3 =>
  if (lg_cmp a_1 (0 : Int64)) < 0 then (some (r_1.1, r_1.2.1, r_1.2.2.1, r_1.2.2.2, f_ways, (-1 : Int32)))
  else (cl (m_X8_ordersFrom f_units r_1.2.1 r_1.2.2.1 f_ways r_3) fun r_5 =>
  if 0 ≤ (lg_cmp a_1 r_5.2) then (some (r_1.1, r_1.2.1, r_1.2.2.1, r_1.2.2.2, r_5.1, (-1 : Int32)))
  else (cl (m_X8_in a_2 (0 : Int32) ((f_units - f_dugMany) - (1 : Int32))) fun r_7 =>
  if r_7 = 0 then (some (r_1.1, r_1.2.1, r_1.2.2.1, r_1.2.2.2, r_5.1, (-1 : Int32)))
  else (m_X8_order_L57 f_units a_2 r_1 r_5 FU r_3 a_1 (-1 : Int32) (0 : Int32) fun x4_57 x5_57 x7_57 x8_57 =>
  some (r_1.1, r_1.2.1, r_1.2.2.1, r_1.2.2.2, r_5.1, x7_57))))
def m_X8_isTaken (f_kinds : (Nat → Int32)) (a_1 : Int32) (a_2 : Int32) : Option Int32 :=
  ag f_kinds 12 a_2 fun v_1 =>
  if a_1 = 0 then (some (1 : Int32))
  else (if a_1 = (1 : Int32) then (if v_1 = (1 : Int32) then (some (1 : Int32))
  else (if v_1 = (4 : Int32) then (some (1 : Int32))
  else (some (0 : Int32))))
  else (if v_1 = (3 : Int32) then (some (1 : Int32))
  else (some (0 : Int32))))
def m_X8_tray (f_units : Int32) (f_kinds : (Nat → Int32)) (f_trayUnit : (Nat → Int32)) (f_trayKind : (Nat → Int32)) (a_1 : Int32) (a_2 : Int32) (a_3 : Int32) : Option ((Nat → Int32) × (Nat → Int32) × Int32) :=
  cl (m_X8_in a_1 (0 : Int32) (2 : Int32)) fun r_1 =>
  if r_1 = 0 then (some (f_trayUnit, f_trayKind, (-1 : Int32)))
  else (jn (fun x_24 : (Unit) =>
  cl (m_X8_in a_2 (0 : Int32) (3 : Int32)) fun r_3 =>
  if r_3 = 0 then (some (f_trayUnit, f_trayKind, (-13 : Int32)))
  else (jn (fun x_53 : (Unit) =>
  ag f_trayUnit 12 (((4 : Int32) * a_1) + a_2) fun v_5 =>
  au f_trayUnit 12 (((4 : Int32) * a_1) + a_2) a_3 fun g_6 =>
  if a_3 = (-1 : Int32) then (au f_trayKind 12 (((4 : Int32) * a_1) + a_2) (0 : Int32) fun g_9 =>
  if v_5 = (-1 : Int32) then (some (g_6, g_9, (-5 : Int32)))
  else (some (g_6, g_9, v_5)))
  else (ag f_kinds 12 a_3 fun v_7 =>
  au f_trayKind 12 (((4 : Int32) * a_1) + a_2) v_7 fun g_8 =>
  if v_5 = (-1 : Int32) then (some (g_6, g_8, (-5 : Int32)))
  else (some (g_6, g_8, v_5)))) fun j_53 =>
  if a_3 = (-1 : Int32) then (j_53 ())
  else (cl (m_X8_isTaken f_kinds a_1 a_3) fun r_10 =>
  if r_10 = 0 then (some (f_trayUnit, f_trayKind, (-12 : Int32)))
  else (j_53 ())))) fun j_24 =>
  if a_3 = (-1 : Int32) then (j_24 ())
  else (cl (m_X8_isUnit f_units a_3) fun r_12 =>
  if r_12 = 0 then (some (f_trayUnit, f_trayKind, (-1 : Int32)))
  else (j_24 ())))
def m_X8_held (f_trayUnit : (Nat → Int32)) (f_trayKind : (Nat → Int32)) (a_1 : Int32) (a_2 : Int32) (a_3 : Int32) : Option Int32 :=
  cl (m_X8_in a_1 (0 : Int32) (2 : Int32)) fun r_1 =>
  if r_1 = 0 then (some (-1 : Int32))
  else (cl (m_X8_in a_3 (0 : Int32) (1 : Int32)) fun r_3 =>
  if r_3 = 0 then (some (-1 : Int32))
  else (cl (m_X8_in a_2 (0 : Int32) (3 : Int32)) fun r_5 =>
  if r_5 = 0 then (some (-13 : Int32))
  else (ag f_trayUnit 12 (((4 : Int32) * a_1) + a_2) fun v_7 =>
  if v_7 = (-1 : Int32) then (some (-5 : Int32))
  else (if a_3 = 0 then (ag f_trayUnit 12 (((4 : Int32) * a_1) + a_2) fun v_9 =>
  some v_9)
  else (ag f_trayKind 12 (((4 : Int32) * a_1) + a_2) fun v_8 =>
  some v_8)))))
def m_X8_feed (f_text : (Nat → Int32)) (f_texted : Int32) (a_1 : Int32) : Option ((Nat → Int32) × Int32 × Int32) :=
  cl (m_X8_in a_1 (0 : Int32) (127 : Int32)) fun r_1 =>
  if r_1 = 0 then (some (f_text, f_texted, (-2 : Int32)))
  else (if f_texted = (100 : Int32) then (some (f_text, f_texted, (-4 : Int32)))
  else (au f_text 100 f_texted a_1 fun g_3 =>
  some (g_3, (f_texted + (1 : Int32)), (f_texted + (1 : Int32)))))
def m_X8_here (f_text : (Nat → Int32)) (f_at : Int32) (a_1 : Int32) : Option Int32 :=
  if a_1 ≤ f_at then (some (-1 : Int32))
  else (ag f_text 100 f_at fun v_1 =>
  some v_1)
def m_X8_verbOf_L41 (f_text : (Nat → Int32)) (f_verbs : (Nat → Int32)) (a_1 : Int32) (x3_2 : Int32) (x_21 : (Int32)) : Nat → Int32 → Int32 → (Int32 → Int32 → Option Int32) → Option Int32
  | 0, _, _, _ => none
  | n_41 + 1, x5_41, x6_41, k_41 =>
    if x_21 ≤ x6_41 then (k_41 x5_41 x6_41)
    else (if x5_41 = 0 then (k_41 x5_41 x6_41)
    else (ag f_text 100 (a_1 + x6_41) fun v_1 =>
    ag f_verbs 25 (((5 : Int32) * x3_2) + x6_41) fun v_2 =>
    if v_1 = v_2 then (m_X8_verbOf_L41 f_text f_verbs a_1 x3_2 x_21 n_41 (1 : Int32) (x6_41 + (1 : Int32)) k_41)
    else (m_X8_verbOf_L41 f_text f_verbs a_1 x3_2 x_21 n_41 (0 : Int32) (x6_41 + (1 : Int32)) k_41)))
def m_X8_verbOf_L2 (f_text : (Nat → Int32)) (f_verbs : (Nat → Int32)) (a_1 : Int32) (a_2 : Int32) : Nat → Int32 → (Int32 → Option Int32) → Option Int32
  | 0, _, _ => none
  | n_2 + 1, x3_2, k_2 =>
    if (5 : Int32) ≤ x3_2 then (k_2 x3_2)
    else (jn (fun x_21 : (Int32) =>
    jn (fun x_36 : (Int32) =>
    m_X8_verbOf_L41 f_text f_verbs a_1 x3_2 x_21 FU x_36 (0 : Int32) fun x5_41 x6_41 =>
    if x5_41 = 0 then (m_X8_verbOf_L2 f_text f_verbs a_1 a_2 n_2 (x3_2 + (1 : Int32)) k_2)
    else (some x3_2)) fun j_36 =>
    if (a_2 - a_1) = x_21 then (j_36 (1 : Int32))
    else (j_36 (0 : Int32))) fun j_21 =>
    jn (fun x_16 : (Unit) =>
    j_21 (4 : Int32)) fun j_16 =>
    if x3_2 = 0 then (j_16 ())
    else (if x3_2 = (2 : Int32) then (j_16 ())
    else (j_21 (5 : Int32))))
def m_X8_verbOf (f_text : (Nat → Int32)) (f_verbs : (Nat → Int32)) (a_1 : Int32) (a_2 : Int32) : Option Int32 :=
  m_X8_verbOf_L2 f_text f_verbs a_1 a_2 FU (0 : Int32) fun x3_2 =>
  some (-1 : Int32)
def m_X8_unitAt (f_text : (Nat → Int32)) (f_at : Int32) (f_fault : Int32) (f_sentences : (Nat → Int32)) (a_1 : Int32) (a_2 : Int32) (a_3 : Int32) : Option (Int32 × Int32 × (Nat → Int32) × Int32) :=
  cl (m_X8_here f_text f_at a_3) fun r_1 =>
  cl (m_X8_in r_1 (97 : Int32) (108 : Int32)) fun r_3 =>
  if r_3 = 0 then (some (f_at, ((-100 : Int32) - f_at), f_sentences, (0 : Int32)))
  else (ag f_text 100 f_at fun v_5 =>
  au f_sentences 24 (((3 : Int32) * a_1) + a_2) (v_5 - (97 : Int32)) fun g_6 =>
  some ((f_at + (1 : Int32)), f_fault, g_6, (1 : Int32)))
def m_X8_blank (f_text : (Nat → Int32)) (f_at : Int32) (f_fault : Int32) (a_1 : Int32) : Option (Int32 × Int32 × Int32) :=
  cl (m_X8_here f_text f_at a_1) fun r_1 =>
  if r_1 = (32 : Int32) then (some ((f_at + (1 : Int32)), f_fault, (1 : Int32)))
  else (some (f_at, ((-100 : Int32) - f_at), (0 : Int32)))
def m_X8_verbAt_L5 (f_text : (Nat → Int32)) (a_2 : Int32) : Nat → Int32 → (Int32 → Option (Int32 × Int32 × (Nat → Int32) × Int32)) → Option (Int32 × Int32 × (Nat → Int32) × Int32)
  | 0, _, _ => none
  | n_5 + 1, y_f_at_5, k_5 =>
    cl (m_X8_here f_text y_f_at_5 a_2) fun r_1 =>
    cl (m_X8_in r_1 (97 : Int32) (122 : Int32)) fun r_3 =>
    if r_3 = 0 then (k_5 y_f_at_5)
    else (m_X8_verbAt_L5 f_text a_2 n_5 (y_f_at_5 + (1 : Int32)) k_5)
def m_X8_verbAt (f_text : (Nat → Int32)) (f_at : Int32) (f_fault : Int32) (f_sentences : (Nat → Int32)) (f_verbs : (Nat → Int32)) (a_1 : Int32) (a_2 : Int32) : Option (Int32 × Int32 × (Nat → Int32) × Int32) :=
  m_X8_verbAt_L5 f_text a_2 FU f_at fun y_f_at_5 =>
  if y_f_at_5 = f_at then (some (y_f_at_5, ((-100 : Int32) - y_f_at_5), f_sentences, (0 : Int32)))
  else (cl (m_X8_verbOf f_text f_verbs f_at y_f_at_5) fun r_5 =>
  au f_sentences 24 (((3 : Int32) * a_1) + (1 : Int32)) r_5 fun g_7 =>
  if r_5 = (-1 : Int32) then (if r_5 = (-1 : Int32) then (some (y_f_at_5, ((-300 : Int32) - f_at), g_7, (0 : Int32)))
  else (some (y_f_at_5, ((-300 : Int32) - f_at), g_7, (1 : Int32))))
  else (if r_5 = (-1 : Int32) then (some (y_f_at_5, f_fault, g_7, (0 : Int32)))
  else (some (y_f_at_5, f_fault, g_7, (1 : Int32)))))
def m_X8_sentence (f_text : (Nat → Int32)) (f_at : Int32) (f_fault : Int32) (f_sentences : (Nat → Int32)) (f_verbs : (Nat → Int32)) (a_1 : Int32) (a_2 : Int32) : Option (Int32 × Int32 × (Nat → Int32) × Int32) :=
  cl (m_X8_unitAt f_text f_at f_fault f_sentences a_1 (0 : Int32) a_2) fun r_1 =>
  if r_1.2.2.2 = 0 then (some (r_1.1, r_1.2.1, r_1.2.2.1, (0 : Int32)))
  else (cl (m_X8_blank f_text r_1.1 r_1.2.1 a_2) fun r_3 =>
  if r_3.2.2 = 0 then (some (r_3.1, r_3.2.1, r_1.2.2.1, (0 : Int32)))
  else (cl (m_X8_verbAt f_text r_3.1 r_3.2.1 r_1.2.2.1 f_verbs a_1 a_2) fun r_5 =>
  if r_5.2.2.2 = 0 then (some (r_5.1, r_5.2.1, r_5.2.2.1, (0 : Int32)))
  else (cl (m_X8_blank f_text r_5.1 r_5.2.1 a_2) fun r_7 =>
  if r_7.2.2 = 0 then (some (r_7.1, r_7.2.1, r_5.2.2.1, (0 : Int32)))
  else (cl (m_X8_unitAt f_text r_7.1 r_7.2.1 r_5.2.2.1 a_1 (2 : Int32) a_2) fun r_9 =>
  if r_9.2.2.2 = 0 then (some (r_9.1, r_9.2.1, r_9.2.2.1, (0 : Int32)))
  else (some (r_9.1, r_9.2.1, r_9.2.2.1, (1 : Int32)))))))
def m_X8_does (f_units : Int32) (f_kinds : (Nat → Int32)) (f_phases : (Nat → Int32)) (f_ties : Int32) (f_aboves : (Nat → Int32)) (f_belows : (Nat → Int32)) (f_sentences : (Nat → Int32)) (a_1 : Int32) : Option ((Nat → Int32) × (Nat → Int32) × Int32 × (Nat → Int32) × (Nat → Int32) × Int32) :=
  ag f_sentences 24 ((3 : Int32) * a_1) fun v_1 =>
  ag f_sentences 24 (((3 : Int32) * a_1) + (1 : Int32)) fun v_2 =>
  ag f_sentences 24 (((3 : Int32) * a_1) + (2 : Int32)) fun v_3 =>
  if v_2 = (4 : Int32) then (cl (m_X8_isUnit f_units v_1) fun r_12 =>
  jn (fun x_67 : ((Nat → Int32)) =>
  cl (m_X8_isUnit f_units v_1) fun r_14 =>
  if r_14 = 0 then (some (f_kinds, x_67, f_ties, f_aboves, f_belows, (0 : Int32)))
  else (cl (m_X8_isUnit f_units v_3) fun r_16 =>
  if r_16 = 0 then (some (f_kinds, x_67, f_ties, f_aboves, f_belows, (0 : Int32)))
  else (some (f_kinds, x_67, f_ties, f_aboves, f_belows, (1 : Int32))))) fun j_67 =>
  if r_12 = 0 then (j_67 f_phases)
  else (cl (m_X8_isUnit f_units v_3) fun r_18 =>
  if r_18 = 0 then (j_67 f_phases)
  else (ag f_phases 12 v_3 fun v_20 =>
  au f_phases 12 v_1 v_20 fun g_21 =>
  j_67 g_21)))
  else (if v_2 = (1 : Int32) then (cl (m_X8_tie f_units f_ties f_aboves f_belows v_3 v_1) fun r_8 =>
  if r_8.2.2.2 < 0 then (if (0 : Int32) = 0 then (some (f_kinds, f_phases, r_8.1, r_8.2.1, r_8.2.2.1, (0 : Int32)))
  else (if v_2 ≤ (1 : Int32) then (some (f_kinds, f_phases, r_8.1, r_8.2.1, r_8.2.2.1, (0 : Int32)))
  else (au f_kinds 12 v_1 (v_2 - (1 : Int32)) fun g_10 =>
  some (g_10, f_phases, r_8.1, r_8.2.1, r_8.2.2.1, (0 : Int32)))))
  else (if (1 : Int32) = 0 then (some (f_kinds, f_phases, r_8.1, r_8.2.1, r_8.2.2.1, (1 : Int32)))
  else (if v_2 ≤ (1 : Int32) then (some (f_kinds, f_phases, r_8.1, r_8.2.1, r_8.2.2.1, (1 : Int32)))
  else (au f_kinds 12 v_1 (v_2 - (1 : Int32)) fun g_11 =>
  some (g_11, f_phases, r_8.1, r_8.2.1, r_8.2.2.1, (1 : Int32))))))
  else (cl (m_X8_tie f_units f_ties f_aboves f_belows v_1 v_3) fun r_4 =>
  if r_4.2.2.2 < 0 then (if (0 : Int32) = 0 then (some (f_kinds, f_phases, r_4.1, r_4.2.1, r_4.2.2.1, (0 : Int32)))
  else (if v_2 ≤ (1 : Int32) then (some (f_kinds, f_phases, r_4.1, r_4.2.1, r_4.2.2.1, (0 : Int32)))
  else (au f_kinds 12 v_1 (v_2 - (1 : Int32)) fun g_6 =>
  some (g_6, f_phases, r_4.1, r_4.2.1, r_4.2.2.1, (0 : Int32)))))
  else (if (1 : Int32) = 0 then (some (f_kinds, f_phases, r_4.1, r_4.2.1, r_4.2.2.1, (1 : Int32)))
  else (if v_2 ≤ (1 : Int32) then (some (f_kinds, f_phases, r_4.1, r_4.2.1, r_4.2.2.1, (1 : Int32)))
  else (au f_kinds 12 v_1 (v_2 - (1 : Int32)) fun g_7 =>
  some (g_7, f_phases, r_4.1, r_4.2.1, r_4.2.2.1, (1 : Int32)))))))
def m_X8_read_L24 (f_texted : Int32) (f_text : (Nat → Int32)) (f_verbs : (Nat → Int32)) : Nat → Int32 → Int32 → Int32 → Int32 → (Nat → Int32) → (Int32 → Int32 → Int32 → Int32 → (Nat → Int32) → Option ((Nat → Int32) × (Nat → Int32) × Int32 × (Nat → Int32) × (Nat → Int32) × Int32 × Int32 × Int32 × (Nat → Int32) × Int32)) → Option ((Nat → Int32) × (Nat → Int32) × Int32 × (Nat → Int32) × (Nat → Int32) × Int32 × Int32 × Int32 × (Nat → Int32) × Int32)
  | 0, _, _, _, _, _, _ => none
  | n_24 + 1, x2_24, x3_24, y_f_at_24, y_f_fault_24, y_f_sentences_24, k_24 =>
    if x3_24 = 0 then (k_24 x2_24 x3_24 y_f_at_24 y_f_fault_24 y_f_sentences_24)
    else (if (8 : Int32) ≤ x2_24 then (k_24 x2_24 x3_24 y_f_at_24 y_f_fault_24 y_f_sentences_24)
    else (cl (m_X8_here f_text y_f_at_24 f_texted) fun r_3 =>
    if r_3 = (59 : Int32) then (cl (m_X8_sentence f_text (y_f_at_24 + (1 : Int32)) y_f_fault_24 y_f_sentences_24 f_verbs x2_24 f_texted) fun r_5 =>
    m_X8_read_L24 f_texted f_text f_verbs n_24 (x2_24 + (1 : Int32)) r_5.2.2.2 r_5.1 r_5.2.1 r_5.2.2.1 k_24)
    else (k_24 x2_24 x3_24 y_f_at_24 y_f_fault_24 y_f_sentences_24)))
def m_X8_read_L98 (f_units : Int32) (x2_24 : Int32) (y_f_sentences_24 : (Nat → Int32)) : Nat → Int32 → Int32 → (Nat → Int32) → (Nat → Int32) → Int32 → (Nat → Int32) → (Nat → Int32) → (Int32 → Int32 → (Nat → Int32) → (Nat → Int32) → Int32 → (Nat → Int32) → (Nat → Int32) → Option ((Nat → Int32) × (Nat → Int32) × Int32 × (Nat → Int32) × (Nat → Int32) × Int32 × Int32 × Int32 × (Nat → Int32) × Int32)) → Option ((Nat → Int32) × (Nat → Int32) × Int32 × (Nat → Int32) × (Nat → Int32) × Int32 × Int32 × Int32 × (Nat → Int32) × Int32)
  | 0, _, _, _, _, _, _, _, _ => none
  | n_98 + 1, x4_98, x5_98, y_f_kinds_98, y_f_phases_98, y_f_ties_98, y_f_aboves_98, y_f_belows_98, k_98 =>
    if x2_24 ≤ x5_98 then (k_98 x4_98 x5_98 y_f_kinds_98 y_f_phases_98 y_f_ties_98 y_f_aboves_98 y_f_belows_98)
    else (cl (m_X8_does f_units y_f_kinds_98 y_f_phases_98 y_f_ties_98 y_f_aboves_98 y_f_belows_98 y_f_sentences_24 x5_98) fun r_7 =>
    if r_7.2.2.2.2.2 = 0 then (m_X8_read_L98 f_units x2_24 y_f_sentences_24 n_98 (x4_98 + (0 : Int32)) (x5_98 + (1 : Int32)) r_7.1 r_7.2.1 r_7.2.2.1 r_7.2.2.2.1 r_7.2.2.2.2.1 k_98)
    else (m_X8_read_L98 f_units x2_24 y_f_sentences_24 n_98 (x4_98 + (1 : Int32)) (x5_98 + (1 : Int32)) r_7.1 r_7.2.1 r_7.2.2.1 r_7.2.2.2.1 r_7.2.2.2.2.1 k_98))
def m_X8_read (f_units : Int32) (f_kinds : (Nat → Int32)) (f_phases : (Nat → Int32)) (f_ties : Int32) (f_aboves : (Nat → Int32)) (f_belows : (Nat → Int32)) (f_text : (Nat → Int32)) (f_texted : Int32) (f_at : Int32) (f_fault : Int32) (f_sentences : (Nat → Int32)) (f_verbs : (Nat → Int32)) : Option ((Nat → Int32) × (Nat → Int32) × Int32 × (Nat → Int32) × (Nat → Int32) × Int32 × Int32 × Int32 × (Nat → Int32) × Int32) :=
  cl (m_X8_sentence f_text (0 : Int32) f_fault f_sentences f_verbs (0 : Int32) f_texted) fun r_1 =>
  m_X8_read_L24 f_texted f_text f_verbs FU (1 : Int32) r_1.2.2.2 r_1.1 r_1.2.1 r_1.2.2.1 fun x2_24 x3_24 y_f_at_24 y_f_fault_24 y_f_sentences_24 =>
  if x3_24 = 0 then (some (f_kinds, f_phases, f_ties, f_aboves, f_belows, (0 : Int32), y_f_at_24, y_f_fault_24, y_f_sentences_24, y_f_fault_24))
  else (if f_texted ≤ y_f_at_24 then (m_X8_read_L98 f_units x2_24 y_f_sentences_24 FU (0 : Int32) (0 : Int32) f_kinds f_phases f_ties f_aboves f_belows fun x4_98 x5_98 y_f_kinds_98 y_f_phases_98 y_f_ties_98 y_f_aboves_98 y_f_belows_98 =>
  some (y_f_kinds_98, y_f_phases_98, y_f_ties_98, y_f_aboves_98, y_f_belows_98, (0 : Int32), y_f_at_24, y_f_fault_24, y_f_sentences_24, x4_98))
  else (some (f_kinds, f_phases, f_ties, f_aboves, f_belows, (0 : Int32), y_f_at_24, y_f_fault_24, y_f_sentences_24, ((-100 : Int32) - y_f_at_24))))
def m_X8_writes (f_paper : (Nat → Int32)) (f_papered : Int32) (a_1 : Int32) : Option ((Nat → Int32) × Int32) :=
  au f_paper 200 f_papered a_1 fun g_1 =>
  some (g_1, (f_papered + (1 : Int32)))
def m_X8_draws_L18 (f_units : Int32) (x1_2 : Int32) (r_1 : (Int32)) : Nat → Int32 → (Nat → Int32) → Int32 → (Int32 → (Nat → Int32) → Int32 → Option ((Nat → Int32) × Int32)) → Option ((Nat → Int32) × Int32)
  | 0, _, _, _, _ => none
  | n_18 + 1, x3_18, y_f_paper_18, y_f_papered_18, k_18 =>
    if f_units ≤ x3_18 then (k_18 x3_18 y_f_paper_18 y_f_papered_18)
    else (cl (m_X8_has r_1 x3_18) fun r_3 =>
    if r_3 = 0 then (m_X8_draws_L18 f_units x1_2 r_1 n_18 (x3_18 + (1 : Int32)) y_f_paper_18 y_f_papered_18 k_18)
    else (if y_f_papered_18 ≤ 0 then (cl (m_X8_writes y_f_paper_18 y_f_papered_18 ((97 : Int32) + x1_2)) fun r_5 =>
    cl (m_X8_writes r_5.1 r_5.2 (62 : Int32)) fun r_7 =>
    cl (m_X8_writes r_7.1 r_7.2 ((97 : Int32) + x3_18)) fun r_9 =>
    m_X8_draws_L18 f_units x1_2 r_1 n_18 (x3_18 + (1 : Int32)) r_9.1 r_9.2 k_18)
    else (cl (m_X8_writes y_f_paper_18 y_f_papered_18 (59 : Int32)) fun r_11 =>
    cl (m_X8_writes r_11.1 r_11.2 ((97 : Int32) + x1_2)) fun r_13 =>
    cl (m_X8_writes r_13.1 r_13.2 (62 : Int32)) fun r_15 =>
    cl (m_X8_writes r_15.1 r_15.2 ((97 : Int32) + x3_18)) fun r_17 =>
    m_X8_draws_L18 f_units x1_2 r_1 n_18 (x3_18 + (1 : Int32)) r_17.1 r_17.2 k_18)))
def m_X8_draws_L2 (f_units : Int32) (f_ties : Int32) (f_aboves : (Nat → Int32)) (f_belows : (Nat → Int32)) (f_reached : (Nat → Int32)) : Nat → Int32 → (Nat → Int32) → Int32 → (Int32 → (Nat → Int32) → Int32 → Option ((Nat → Int32) × Int32)) → Option ((Nat → Int32) × Int32)
  | 0, _, _, _, _ => none
  | n_2 + 1, x1_2, y_f_paper_2, y_f_papered_2, k_2 =>
    if f_units ≤ x1_2 then (k_2 x1_2 y_f_paper_2 y_f_papered_2)
    else (cl (m_X8_reducedOf f_units f_ties f_aboves f_belows f_reached x1_2) fun r_1 =>
    m_X8_draws_L18 f_units x1_2 r_1 FU (0 : Int32) y_f_paper_2 y_f_papered_2 fun x3_18 y_f_paper_18 y_f_papered_18 =>
    m_X8_draws_L2 f_units f_ties f_aboves f_belows f_reached n_2 (x1_2 + (1 : Int32)) y_f_paper_18 y_f_papered_18 k_2)
def m_X8_draws (f_units : Int32) (f_ties : Int32) (f_aboves : (Nat → Int32)) (f_belows : (Nat → Int32)) (f_reached : (Nat → Int32)) (f_paper : (Nat → Int32)) (f_papered : Int32) : Option ((Nat → Int32) × Int32) :=
  m_X8_draws_L2 f_units f_ties f_aboves f_belows f_reached FU (0 : Int32) f_paper f_papered fun x1_2 y_f_paper_2 y_f_papered_2 =>
  some (y_f_paper_2, y_f_papered_2)
def m_X8_drawsLevels_L15 (f_units : Int32) (r_1 : ((Nat → Int32) × Int32)) (x2_9 : Int32) : Nat → Int32 → (Nat → Int32) → Int32 → (Int32 → (Nat → Int32) → Int32 → Option ((Nat → Int32) × (Nat → Int32) × Int32)) → Option ((Nat → Int32) × (Nat → Int32) × Int32)
  | 0, _, _, _, _ => none
  | n_15 + 1, x3_15, y_f_paper_15, y_f_papered_15, k_15 =>
    if f_units ≤ x3_15 then (k_15 x3_15 y_f_paper_15 y_f_papered_15)
    else (ag r_1.1 12 x3_15 fun v_3 =>
    if v_3 = x2_9 then (cl (m_X8_writes y_f_paper_15 y_f_papered_15 ((97 : Int32) + x3_15)) fun r_4 =>
    m_X8_drawsLevels_L15 f_units r_1 x2_9 n_15 (x3_15 + (1 : Int32)) r_4.1 r_4.2 k_15)
    else (m_X8_drawsLevels_L15 f_units r_1 x2_9 n_15 (x3_15 + (1 : Int32)) y_f_paper_15 y_f_papered_15 k_15))
def m_X8_drawsLevels_L9 (f_units : Int32) (r_1 : ((Nat → Int32) × Int32)) : Nat → Int32 → (Nat → Int32) → Int32 → (Int32 → (Nat → Int32) → Int32 → Option ((Nat → Int32) × (Nat → Int32) × Int32)) → Option ((Nat → Int32) × (Nat → Int32) × Int32)
  | 0, _, _, _, _ => none
  | n_9 + 1, x2_9, y_f_paper_9, y_f_papered_9, k_9 =>
    if x2_9 < 0 then (k_9 x2_9 y_f_paper_9 y_f_papered_9)
    else (m_X8_drawsLevels_L15 f_units r_1 x2_9 FU (0 : Int32) y_f_paper_9 y_f_papered_9 fun x3_15 y_f_paper_15 y_f_papered_15 =>
    if x2_9 ≤ 0 then (m_X8_drawsLevels_L9 f_units r_1 n_9 (x2_9 + (-1 : Int32)) y_f_paper_15 y_f_papered_15 k_9)
    else (cl (m_X8_writes y_f_paper_15 y_f_papered_15 (124 : Int32)) fun r_6 =>
    m_X8_drawsLevels_L9 f_units r_1 n_9 (x2_9 + (-1 : Int32)) r_6.1 r_6.2 k_9))
def m_X8_drawsLevels (f_units : Int32) (f_ties : Int32) (f_aboves : (Nat → Int32)) (f_belows : (Nat → Int32)) (f_levels : (Nat → Int32)) (f_paper : (Nat → Int32)) (f_papered : Int32) : Option ((Nat → Int32) × (Nat → Int32) × Int32) :=
  cl (m_X8_levelsOf f_units f_ties f_aboves f_belows f_levels) fun r_1 =>
  m_X8_drawsLevels_L9 f_units r_1 FU (r_1.2 - (1 : Int32)) f_paper f_papered fun x2_9 y_f_paper_9 y_f_papered_9 =>
  some (r_1.1, y_f_paper_9, y_f_papered_9)
def m_X8_drawsCycle_L7 (r_1 : ((Nat → Int32) × (Nat → Int32) × Int32)) : Nat → Int32 → (Nat → Int32) → Int32 → (Int32 → (Nat → Int32) → Int32 → Option ((Nat → Int32) × (Nat → Int32) × (Nat → Int32) × Int32)) → Option ((Nat → Int32) × (Nat → Int32) × (Nat → Int32) × Int32)
  | 0, _, _, _, _ => none
  | n_7 + 1, x2_7, y_f_paper_7, y_f_papered_7, k_7 =>
    if r_1.2.2 ≤ x2_7 then (k_7 x2_7 y_f_paper_7 y_f_papered_7)
    else (ag r_1.1 12 x2_7 fun v_3 =>
    cl (m_X8_writes y_f_paper_7 y_f_papered_7 ((97 : Int32) + v_3)) fun r_4 =>
    cl (m_X8_writes r_4.1 r_4.2 (62 : Int32)) fun r_6 =>
    m_X8_drawsCycle_L7 r_1 n_7 (x2_7 + (1 : Int32)) r_6.1 r_6.2 k_7)
def m_X8_drawsCycle (f_units : Int32) (f_under : (Nat → Int32)) (f_reached : (Nat → Int32)) (f_shown : (Nat → Int32)) (f_far : (Nat → Int32)) (f_paper : (Nat → Int32)) (f_papered : Int32) : Option ((Nat → Int32) × (Nat → Int32) × (Nat → Int32) × Int32) :=
  cl (m_X8_shows f_units f_under f_reached f_shown f_far) fun r_1 =>
  m_X8_drawsCycle_L7 r_1 FU (0 : Int32) f_paper f_papered fun x2_7 y_f_paper_7 y_f_papered_7 =>
  ag r_1.1 12 (0 : Int32) fun v_8 =>
  cl (m_X8_writes y_f_paper_7 y_f_papered_7 ((97 : Int32) + v_8)) fun r_9 =>
  some (r_1.1, r_1.2.1, r_9.1, r_9.2)
def m_X8_draw (f_units : Int32) (f_ties : Int32) (f_aboves : (Nat → Int32)) (f_belows : (Nat → Int32)) (f_under : (Nat → Int32)) (f_over : (Nat → Int32)) (f_reached : (Nat → Int32)) (f_reaching : (Nat → Int32)) (f_levels : (Nat → Int32)) (f_shown : (Nat → Int32)) (f_far : (Nat → Int32)) (f_paper : (Nat → Int32)) (f_papered : Int32) (a_1 : Int32) : Option ((Nat → Int32) × (Nat → Int32) × (Nat → Int32) × (Nat → Int32) × (Nat → Int32) × (Nat → Int32) × (Nat → Int32) × (Nat → Int32) × Int32 × Int32) :=
  cl (m_X8_in a_1 (0 : Int32) (1 : Int32)) fun r_1 =>
  if r_1 = 0 then (some (f_under, f_over, f_reached, f_reaching, f_levels, f_shown, f_far, f_paper, f_papered, (-1 : Int32)))
  else (cl (m_X8_works_ f_units f_ties f_aboves f_belows f_under f_over f_reached f_reaching) fun r_3 =>
  if a_1 = 0 then (cl (m_X8_draws f_units f_ties f_aboves f_belows r_3.2.2.1 f_paper (0 : Int32)) fun r_11 =>
  some (r_3.1, r_3.2.1, r_3.2.2.1, r_3.2.2.2, f_levels, f_shown, f_far, r_11.1, r_11.2, r_11.2))
  else (cl (m_X8_isRound f_units r_3.2.2.1) fun r_5 =>
  if r_5 = 0 then (cl (m_X8_drawsLevels f_units f_ties f_aboves f_belows f_levels f_paper (0 : Int32)) fun r_7 =>
  some (r_3.1, r_3.2.1, r_3.2.2.1, r_3.2.2.2, r_7.1, f_shown, f_far, r_7.2.1, r_7.2.2, r_7.2.2))
  else (cl (m_X8_drawsCycle f_units r_3.1 r_3.2.2.1 f_shown f_far f_paper (0 : Int32)) fun r_9 =>
  some (r_3.1, r_3.2.1, r_3.2.2.1, r_3.2.2.2, f_levels, r_9.1, r_9.2.1, r_9.2.2.1, r_9.2.2.2, r_9.2.2.2))))
def m_X8_paper (f_paper : (Nat → Int32)) (f_papered : Int32) (a_1 : Int32) : Option Int32 :=
  if 0 ≤ a_1 then (if f_papered ≤ a_1 then (some (-5 : Int32))
  else (ag f_paper 200 a_1 fun v_1 =>
  some v_1))
  else (some (-1 : Int32))
def m_X8_see (f_units : Int32) (f_seen : (Nat → Int32)) (f_seenMany : Int32) (a_1 : Int32) (a_2 : Int32) (a_3 : Int32) : Option ((Nat → Int32) × Int32 × Int32) :=
  if a_1 = (-1 : Int32) then (some (f_seen, (0 : Int32), (0 : Int32)))
  else (cl (m_X8_isUnit f_units a_1) fun r_1 =>
  if r_1 = 0 then (some (f_seen, f_seenMany, (-1 : Int32)))
  else (cl (m_X8_isUnit f_units a_2) fun r_3 =>
  if r_3 = 0 then (some (f_seen, f_seenMany, (-1 : Int32)))
  else (if f_seenMany = (5 : Int32) then (some (f_seen, f_seenMany, (-4 : Int32)))
  else (au f_seen 15 ((3 : Int32) * f_seenMany) a_1 fun g_5 =>
  au g_5 15 (((3 : Int32) * f_seenMany) + (1 : Int32)) a_2 fun g_6 =>
  if a_3 = 0 then (au g_6 15 (((3 : Int32) * f_seenMany) + (2 : Int32)) (0 : Int32) fun g_7 =>
  some (g_7, (f_seenMany + (1 : Int32)), (f_seenMany + (1 : Int32))))
  else (au g_6 15 (((3 : Int32) * f_seenMany) + (2 : Int32)) (1 : Int32) fun g_8 =>
  some (g_8, (f_seenMany + (1 : Int32)), (f_seenMany + (1 : Int32))))))))
def m_X8_areSo_L4 (f_seenMany : Int32) (f_reached : (Nat → Int32)) (f_seen : (Nat → Int32)) : Nat → Int32 → Int32 → (Int32 → Int32 → Option Int32) → Option Int32
  | 0, _, _, _ => none
  | n_4 + 1, x1_4, x2_4, k_4 =>
    if f_seenMany ≤ x2_4 then (k_4 x1_4 x2_4)
    else (if x1_4 = 0 then (k_4 x1_4 x2_4)
    else (ag f_seen 15 ((3 : Int32) * x2_4) fun v_1 =>
    ag f_reached 12 v_1 fun v_2 =>
    ag f_seen 15 (((3 : Int32) * x2_4) + (1 : Int32)) fun v_3 =>
    ag f_seen 15 (((3 : Int32) * x2_4) + (2 : Int32)) fun v_4 =>
    if ((v_2 >>> (v_3 &&& 31)) &&& (1 : Int32)) = v_4 then (m_X8_areSo_L4 f_seenMany f_reached f_seen n_4 (1 : Int32) (x2_4 + (1 : Int32)) k_4)
    else (m_X8_areSo_L4 f_seenMany f_reached f_seen n_4 (0 : Int32) (x2_4 + (1 : Int32)) k_4)))
def m_X8_areSo (f_reached : (Nat → Int32)) (f_seen : (Nat → Int32)) (f_seenMany : Int32) : Option Int32 :=
  m_X8_areSo_L4 f_seenMany f_reached f_seen FU (1 : Int32) (0 : Int32) fun x1_4 x2_4 =>
  zg x1_4 (some x1_4)
def m_X8_fits_L24 (f_units : Int32) (f_ties : Int32) (f_seenMany : Int32) (f_aboves : (Nat → Int32)) (f_belows : (Nat → Int32)) (f_seen : (Nat → Int32)) : Nat → Int32 → Int32 → Int32 → (Nat → Int32) → (Nat → Int32) → (Nat → Int32) → (Nat → Int32) → (Int32 → Int32 → Int32 → (Nat → Int32) → (Nat → Int32) → (Nat → Int32) → (Nat → Int32) → Option ((Nat → Int32) × (Nat → Int32) × (Nat → Int32) × (Nat → Int32) × Int32)) → Option ((Nat → Int32) × (Nat → Int32) × (Nat → Int32) × (Nat → Int32) × Int32)
  | 0, _, _, _, _, _, _, _, _ => none
  | n_24 + 1, x2_24, x3_24, x4_24, y_f_under_24, y_f_over_24, y_f_reached_24, y_f_reaching_24, k_24 =>
    if x4_24 < 0 then (k_24 x2_24 x3_24 x4_24 y_f_under_24 y_f_over_24 y_f_reached_24 y_f_reaching_24)
    else (cl (m_X8_works f_units f_ties f_aboves f_belows y_f_under_24 y_f_over_24 y_f_reached_24 y_f_reaching_24 x4_24) fun r_3 =>
    cl (m_X8_areSo r_3.2.2.1 f_seen f_seenMany) fun r_5 =>
    if r_5 = 0 then (m_X8_fits_L24 f_units f_ties f_seenMany f_aboves f_belows f_seen n_24 x2_24 x3_24 (x4_24 + (-1 : Int32)) r_3.1 r_3.2.1 r_3.2.2.1 r_3.2.2.2 k_24)
    else (ag f_aboves 40 x4_24 fun v_7 =>
    ag f_belows 40 x4_24 fun v_8 =>
    lt ((((100 : Int32) * v_7) + v_8)) fun v_9 =>
    m_X8_fits_L24 f_units f_ties f_seenMany f_aboves f_belows f_seen n_24 (x2_24 + (1 : Int32)) v_9 (x4_24 + (-1 : Int32)) r_3.1 r_3.2.1 r_3.2.2.1 r_3.2.2.2 k_24))
def m_X8_fits (f_units : Int32) (f_ties : Int32) (f_aboves : (Nat → Int32)) (f_belows : (Nat → Int32)) (f_under : (Nat → Int32)) (f_over : (Nat → Int32)) (f_reached : (Nat → Int32)) (f_reaching : (Nat → Int32)) (f_seen : (Nat → Int32)) (f_seenMany : Int32) (a_1 : Int32) : Option ((Nat → Int32) × (Nat → Int32) × (Nat → Int32) × (Nat → Int32) × Int32) :=
  cl (m_X8_in a_1 (0 : Int32) (1 : Int32)) fun r_1 =>
  if r_1 = 0 then (some (f_under, f_over, f_reached, f_reaching, (-1 : Int32)))
  else (m_X8_fits_L24 f_units f_ties f_seenMany f_aboves f_belows f_seen FU (0 : Int32) (-5 : Int32) (f_ties - (1 : Int32)) f_under f_over f_reached f_reaching fun x2_24 x3_24 x4_24 y_f_under_24 y_f_over_24 y_f_reached_24 y_f_reaching_24 =>
  if a_1 = 0 then (some (y_f_under_24, y_f_over_24, y_f_reached_24, y_f_reaching_24, x2_24))
  else (some (y_f_under_24, y_f_over_24, y_f_reached_24, y_f_reaching_24, x3_24)))
def m_X8_event (f_units : Int32) (f_events : (Nat → Int32)) (f_eventMany : Int32) (a_1 : Int32) (a_2 : Int32) : Option ((Nat → Int32) × Int32 × Int32) :=
  if a_1 = (-1 : Int32) then (some (f_events, (0 : Int32), (0 : Int32)))
  else (cl (m_X8_in a_1 (0 : Int32) (3 : Int32)) fun r_1 =>
  if r_1 = 0 then (some (f_events, f_eventMany, (-1 : Int32)))
  else (cl (m_X8_isUnit f_units a_2) fun r_3 =>
  if r_3 = 0 then (some (f_events, f_eventMany, (-1 : Int32)))
  else (if f_eventMany = (8 : Int32) then (some (f_events, f_eventMany, (-4 : Int32)))
  else (au f_events 16 ((2 : Int32) * f_eventMany) a_1 fun g_5 =>
  au g_5 16 (((2 : Int32) * f_eventMany) + (1 : Int32)) a_2 fun g_6 =>
  some (g_6, (f_eventMany + (1 : Int32)), (f_eventMany + (1 : Int32)))))))
def m_X8_crossed_L14 (f_units : Int32) (f_froms : (Nat → Int32)) (f_tos : (Nat → Int32)) (f_reached : (Nat → Int32)) (f_reaching : (Nat → Int32)) : Nat → Int32 → Int32 → (Int32 → Int32 → Option Int32) → Option Int32
  | 0, _, _, _ => none
  | n_14 + 1, x1_14, x2_14, k_14 =>
    if f_units ≤ x2_14 then (k_14 x1_14 x2_14)
    else (cl (m_X8_earliest f_units f_froms f_reached x2_14) fun r_3 =>
    cl (m_X8_latest f_units f_tos f_reaching x2_14) fun r_5 =>
    if r_3 ≤ r_5 then (m_X8_crossed_L14 f_units f_froms f_tos f_reached f_reaching n_14 (x1_14 + (0 : Int32)) (x2_14 + (1 : Int32)) k_14)
    else (m_X8_crossed_L14 f_units f_froms f_tos f_reached f_reaching n_14 (x1_14 + (1 : Int32)) (x2_14 + (1 : Int32)) k_14))
def m_X8_crossed (f_units : Int32) (f_froms : (Nat → Int32)) (f_tos : (Nat → Int32)) (f_reached : (Nat → Int32)) (f_reaching : (Nat → Int32)) : Option Int32 :=
  cl (m_X8_isRound f_units f_reached) fun r_1 =>
  if r_1 = 0 then (m_X8_crossed_L14 f_units f_froms f_tos f_reached f_reaching FU (0 : Int32) (0 : Int32) fun x1_14 x2_14 =>
  some x1_14)
  else (some (-5 : Int32))
def m_X8_happens_L18 (a_2 : Int32) (a_3 : Int32) : Nat → Int32 → Int32 → (Nat → Int32) → (Nat → Int32) → (Int32 → Int32 → (Nat → Int32) → (Nat → Int32) → Option ((Nat → Int32) × (Nat → Int32) × Int32 × (Nat → Int32) × (Nat → Int32) × Int32)) → Option ((Nat → Int32) × (Nat → Int32) × Int32 × (Nat → Int32) × (Nat → Int32) × Int32)
  | 0, _, _, _, _, _ => none
  | n_18 + 1, x4_18, y_f_ties_18, y_f_aboves_18, y_f_belows_18, k_18 =>
    if x4_18 < 0 then (k_18 x4_18 y_f_ties_18 y_f_aboves_18 y_f_belows_18)
    else (if a_2 = (1 : Int32) then (ag y_f_aboves_18 40 x4_18 fun v_1 =>
    if v_1 = a_3 then (cl (m_X8_drops y_f_ties_18 y_f_aboves_18 y_f_belows_18 x4_18) fun r_2 =>
    m_X8_happens_L18 a_2 a_3 n_18 (x4_18 + (-1 : Int32)) r_2.1 r_2.2.1 r_2.2.2 k_18)
    else (m_X8_happens_L18 a_2 a_3 n_18 (x4_18 + (-1 : Int32)) y_f_ties_18 y_f_aboves_18 y_f_belows_18 k_18))
    else (k_18 x4_18 y_f_ties_18 y_f_aboves_18 y_f_belows_18))
def m_X8_happens (f_froms : (Nat → Int32)) (f_tos : (Nat → Int32)) (f_ties : Int32) (f_aboves : (Nat → Int32)) (f_belows : (Nat → Int32)) (a_1 : Int32) (a_2 : Int32) (a_3 : Int32) : Option ((Nat → Int32) × (Nat → Int32) × Int32 × (Nat → Int32) × (Nat → Int32) × Int32) :=
  if a_2 = 0 then (some (f_froms, f_tos, f_ties, f_aboves, f_belows, (a_1 ||| ((1 : Int32) <<< (a_3 &&& 31)))))
  else (m_X8_happens_L18 a_2 a_3 FU (f_ties - (1 : Int32)) f_ties f_aboves f_belows fun x4_18 y_f_ties_18 y_f_aboves_18 y_f_belows_18 =>
  if a_2 = (2 : Int32) then (au f_froms 12 a_3 (1000 : Int32) fun g_9 =>
  if a_2 = (3 : Int32) then (au f_tos 12 a_3 (1000 : Int32) fun g_12 =>
  some (g_9, g_12, y_f_ties_18, y_f_aboves_18, y_f_belows_18, a_1))
  else (ag f_tos 12 a_3 fun v_10 =>
  au f_tos 12 a_3 v_10 fun g_11 =>
  some (g_9, g_11, y_f_ties_18, y_f_aboves_18, y_f_belows_18, a_1)))
  else (ag f_froms 12 a_3 fun v_4 =>
  au f_froms 12 a_3 v_4 fun g_5 =>
  if a_2 = (3 : Int32) then (au f_tos 12 a_3 (1000 : Int32) fun g_8 =>
  some (g_5, g_8, y_f_ties_18, y_f_aboves_18, y_f_belows_18, a_1))
  else (ag f_tos 12 a_3 fun v_6 =>
  au f_tos 12 a_3 v_6 fun g_7 =>
  some (g_5, g_7, y_f_ties_18, y_f_aboves_18, y_f_belows_18, a_1))))
def m_X8_after_L20 (f_aboves : (Nat → Int32)) (f_belows : (Nat → Int32)) : Nat → Int32 → (Nat → Int32) → (Nat → Int32) → (Int32 → (Nat → Int32) → (Nat → Int32) → Option ((Nat → Int32) × (Nat → Int32) × Int32 × (Nat → Int32) × (Nat → Int32) × (Nat → Int32) × (Nat → Int32) × (Nat → Int32) × (Nat → Int32) × (Nat → Int64) × (Nat → Int32) × (Nat → Int32) × (Nat → Int32) × (Nat → Int32) × Int64)) → Option ((Nat → Int32) × (Nat → Int32) × Int32 × (Nat → Int32) × (Nat → Int32) × (Nat → Int32) × (Nat → Int32) × (Nat → Int32) × (Nat → Int32) × (Nat → Int64) × (Nat → Int32) × (Nat → Int32) × (Nat → Int32) × (Nat → Int32) × Int64)
  | 0, _, _, _, _ => none
  | n_20 + 1, x3_20, y_f_wasAbove_20, y_f_wasBelow_20, k_20 =>
    if (40 : Int32) ≤ x3_20 then (k_20 x3_20 y_f_wasAbove_20 y_f_wasBelow_20)
    else (ag f_aboves 40 x3_20 fun v_3 =>
    au y_f_wasAbove_20 40 x3_20 v_3 fun g_4 =>
    ag f_belows 40 x3_20 fun v_5 =>
    au y_f_wasBelow_20 40 x3_20 v_5 fun g_6 =>
    m_X8_after_L20 f_aboves f_belows n_20 (x3_20 + (1 : Int32)) g_4 g_6 k_20)
def m_X8_after_L58 (f_froms : (Nat → Int32)) (f_tos : (Nat → Int32)) : Nat → Int32 → (Nat → Int32) → (Nat → Int32) → (Int32 → (Nat → Int32) → (Nat → Int32) → Option ((Nat → Int32) × (Nat → Int32) × Int32 × (Nat → Int32) × (Nat → Int32) × (Nat → Int32) × (Nat → Int32) × (Nat → Int32) × (Nat → Int32) × (Nat → Int64) × (Nat → Int32) × (Nat → Int32) × (Nat → Int32) × (Nat → Int32) × Int64)) → Option ((Nat → Int32) × (Nat → Int32) × Int32 × (Nat → Int32) × (Nat → Int32) × (Nat → Int32) × (Nat → Int32) × (Nat → Int32) × (Nat → Int32) × (Nat → Int64) × (Nat → Int32) × (Nat → Int32) × (Nat → Int32) × (Nat → Int32) × Int64)
  | 0, _, _, _, _ => none
  | n_58 + 1, x3_58, y_f_wasFrom_58, y_f_wasTo_58, k_58 =>
    if (12 : Int32) ≤ x3_58 then (k_58 x3_58 y_f_wasFrom_58 y_f_wasTo_58)
    else (ag f_froms 12 x3_58 fun v_7 =>
    au y_f_wasFrom_58 12 x3_58 v_7 fun g_8 =>
    ag f_tos 12 x3_58 fun v_9 =>
    au y_f_wasTo_58 12 x3_58 v_9 fun g_10 =>
    m_X8_after_L58 f_froms f_tos n_58 (x3_58 + (1 : Int32)) g_8 g_10 k_58)
def m_X8_after_L102 (f_eventMany : Int32) (f_events : (Nat → Int32)) : Nat → Int32 → Int32 → (Nat → Int32) → (Nat → Int32) → Int32 → (Nat → Int32) → (Nat → Int32) → (Int32 → Int32 → (Nat → Int32) → (Nat → Int32) → Int32 → (Nat → Int32) → (Nat → Int32) → Option ((Nat → Int32) × (Nat → Int32) × Int32 × (Nat → Int32) × (Nat → Int32) × (Nat → Int32) × (Nat → Int32) × (Nat → Int32) × (Nat → Int32) × (Nat → Int64) × (Nat → Int32) × (Nat → Int32) × (Nat → Int32) × (Nat → Int32) × Int64)) → Option ((Nat → Int32) × (Nat → Int32) × Int32 × (Nat → Int32) × (Nat → Int32) × (Nat → Int32) × (Nat → Int32) × (Nat → Int32) × (Nat → Int32) × (Nat → Int64) × (Nat → Int32) × (Nat → Int32) × (Nat → Int32) × (Nat → Int32) × Int64)
  | 0, _, _, _, _, _, _, _, _ => none
  | n_102 + 1, x3_102, x4_102, y_f_froms_102, y_f_tos_102, y_f_ties_102, y_f_aboves_102, y_f_belows_102, k_102 =>
    if f_eventMany ≤ x4_102 then (k_102 x3_102 x4_102 y_f_froms_102 y_f_tos_102 y_f_ties_102 y_f_aboves_102 y_f_belows_102)
    else (ag f_events 16 ((2 : Int32) * x4_102) fun v_13 =>
    ag f_events 16 (((2 : Int32) * x4_102) + (1 : Int32)) fun v_14 =>
    cl (m_X8_happens y_f_froms_102 y_f_tos_102 y_f_ties_102 y_f_aboves_102 y_f_belows_102 x3_102 v_13 v_14) fun r_15 =>
    m_X8_after_L102 f_eventMany f_events n_102 r_15.2.2.2.2.2 (x4_102 + (1 : Int32)) r_15.1 r_15.2.1 r_15.2.2.1 r_15.2.2.2.1 r_15.2.2.2.2.1 k_102)
def m_X8_after_L174 (y_f_wasAbove_20 : (Nat → Int32)) (y_f_wasBelow_20 : (Nat → Int32)) : Nat → Int32 → (Nat → Int32) → (Nat → Int32) → (Int32 → (Nat → Int32) → (Nat → Int32) → Option ((Nat → Int32) × (Nat → Int32) × Int32 × (Nat → Int32) × (Nat → Int32) × (Nat → Int32) × (Nat → Int32) × (Nat → Int32) × (Nat → Int32) × (Nat → Int64) × (Nat → Int32) × (Nat → Int32) × (Nat → Int32) × (Nat → Int32) × Int64)) → Option ((Nat → Int32) × (Nat → Int32) × Int32 × (Nat → Int32) × (Nat → Int32) × (Nat → Int32) × (Nat → Int32) × (Nat → Int32) × (Nat → Int32) × (Nat → Int64) × (Nat → Int32) × (Nat → Int32) × (Nat → Int32) × (Nat → Int32) × Int64)
  | 0, _, _, _, _ => none
  | n_174 + 1, x6_174, y_f_aboves_174, y_f_belows_174, k_174 =>
    if (40 : Int32) ≤ x6_174 then (k_174 x6_174 y_f_aboves_174 y_f_belows_174)
    else (ag y_f_wasAbove_20 40 x6_174 fun v_19 =>
    au y_f_aboves_174 40 x6_174 v_19 fun g_20 =>
    ag y_f_wasBelow_20 40 x6_174 fun v_21 =>
    au y_f_belows_174 40 x6_174 v_21 fun g_22 =>
    m_X8_after_L174 y_f_wasAbove_20 y_f_wasBelow_20 n_174 (x6_174 + (1 : Int32)) g_20 g_22 k_174)
def m_X8_after_L218 (y_f_wasFrom_58 : (Nat → Int32)) (y_f_wasTo_58 : (Nat → Int32)) : Nat → Int32 → (Nat → Int32) → (Nat → Int32) → (Int32 → (Nat → Int32) → (Nat → Int32) → Option ((Nat → Int32) × (Nat → Int32) × Int32 × (Nat → Int32) × (Nat → Int32) × (Nat → Int32) × (Nat → Int32) × (Nat → Int32) × (Nat → Int32) × (Nat → Int64) × (Nat → Int32) × (Nat → Int32) × (Nat → Int32) × (Nat → Int32) × Int64)) → Option ((Nat → Int32) × (Nat → Int32) × Int32 × (Nat → Int32) × (Nat → Int32) × (Nat → Int32) × (Nat → Int32) × (Nat → Int32) × (Nat → Int32) × (Nat → Int64) × (Nat → Int32) × (Nat → Int32) × (Nat → Int32) × (Nat → Int32) × Int64)
  | 0, _, _, _, _ => none
  | n_218 + 1, x6_218, y_f_froms_218, y_f_tos_218, k_218 =>
    if (12 : Int32) ≤ x6_218 then (k_218 x6_218 y_f_froms_218 y_f_tos_218)
    else (ag y_f_wasFrom_58 12 x6_218 fun v_23 =>
    au y_f_froms_218 12 x6_218 v_23 fun g_24 =>
    ag y_f_wasTo_58 12 x6_218 fun v_25 =>
    au y_f_tos_218 12 x6_218 v_25 fun g_26 =>
    m_X8_after_L218 y_f_wasFrom_58 y_f_wasTo_58 n_218 (x6_218 + (1 : Int32)) g_24 g_26 k_218)
def m_X8_after (f_units : Int32) (f_froms : (Nat → Int32)) (f_tos : (Nat → Int32)) (f_ties : Int32) (f_aboves : (Nat → Int32)) (f_belows : (Nat → Int32)) (f_dug : (Nat → Int32)) (f_dugMany : Int32) (f_under : (Nat → Int32)) (f_over : (Nat → Int32)) (f_reached : (Nat → Int32)) (f_reaching : (Nat → Int32)) (f_ways : (Nat → Int64)) (f_events : (Nat → Int32)) (f_eventMany : Int32) (f_wasAbove : (Nat → Int32)) (f_wasBelow : (Nat → Int32)) (f_wasFrom : (Nat → Int32)) (f_wasTo : (Nat → Int32)) (a_1 : Int32) : Option ((Nat → Int32) × (Nat → Int32) × Int32 × (Nat → Int32) × (Nat → Int32) × (Nat → Int32) × (Nat → Int32) × (Nat → Int32) × (Nat → Int32) × (Nat → Int64) × (Nat → Int32) × (Nat → Int32) × (Nat → Int32) × (Nat → Int32) × Int64) :=
  cl (m_X8_in a_1 (0 : Int32) (1 : Int32)) fun r_1 =>
  if r_1 = 0 then (some (f_froms, f_tos, f_ties, f_aboves, f_belows, f_under, f_over, f_reached, f_reaching, f_ways, f_wasAbove, f_wasBelow, f_wasFrom, f_wasTo, (-9223372036854775808 : Int64)))
  else (m_X8_after_L20 f_aboves f_belows FU (0 : Int32) f_wasAbove f_wasBelow fun x3_20 y_f_wasAbove_20 y_f_wasBelow_20 =>
  m_X8_after_L58 f_froms f_tos FU (0 : Int32) f_wasFrom f_wasTo fun x3_58 y_f_wasFrom_58 y_f_wasTo_58 =>
  cl (m_X8_dugSet f_dug f_dugMany) fun r_11 =>
  m_X8_after_L102 f_eventMany f_events FU r_11 (0 : Int32) f_froms f_tos f_ties f_aboves f_belows fun x3_102 x4_102 y_f_froms_102 y_f_tos_102 y_f_ties_102 y_f_aboves_102 y_f_belows_102 =>
  cl (m_X8_works_ f_units y_f_ties_102 y_f_aboves_102 y_f_belows_102 f_under f_over f_reached f_reaching) fun r_17 =>
  jn (fun x_164 : (Int64 × (Nat → Int64)) =>
  m_X8_after_L174 y_f_wasAbove_20 y_f_wasBelow_20 FU (0 : Int32) y_f_aboves_102 y_f_belows_102 fun x6_174 y_f_aboves_174 y_f_belows_174 =>
  m_X8_after_L218 y_f_wasFrom_58 y_f_wasTo_58 FU (0 : Int32) y_f_froms_102 y_f_tos_102 fun x6_218 y_f_froms_218 y_f_tos_218 =>
  some (y_f_froms_218, y_f_tos_218, f_ties, y_f_aboves_174, y_f_belows_174, r_17.1, r_17.2.1, r_17.2.2.1, r_17.2.2.2, x_164.2, y_f_wasAbove_20, y_f_wasBelow_20, y_f_wasFrom_58, y_f_wasTo_58, x_164.1)) fun j_164 =>
  if a_1 = 0 then (cl (m_X8_ordersFrom f_units r_17.2.1 r_17.2.2.1 f_ways x3_102) fun r_29 =>
  j_164 (r_29.2, r_29.1))
  else (cl (m_X8_crossed f_units y_f_froms_102 y_f_tos_102 r_17.2.2.1 r_17.2.2.2) fun r_27 =>
  j_164 ((r_27).toInt64, f_ways)))
def m_X8_isTape (a_1 : Int32) : Option Int32 :=
  cl (m_X8_in a_1 (0 : Int32) (5 : Int32)) fun r_1 =>
  zg r_1 (some r_1)
def m_X8_judge_L48 (f_units : Int32) (f_froms : (Nat → Int32)) (f_sorts : (Nat → Int32)) (f_sizes : (Nat → Int32)) (f_cells : (Nat → Int64)) (a_1 : Int32) (a_2 : Int32) (r_4 : ((Nat → Int32) × (Nat → Int32) × (Nat → Int32) × (Nat → Int32))) : Nat → Int32 → (Int32 → Option ((Nat → Int32) × (Nat → Int32) × (Nat → Int32) × (Nat → Int32) × Int32)) → Option ((Nat → Int32) × (Nat → Int32) × (Nat → Int32) × (Nat → Int32) × Int32)
  | 0, _, _ => none
  | n_48 + 1, x3_48, k_48 =>
    if f_units ≤ x3_48 then (k_48 x3_48)
    else (ag f_sorts 6 a_1 fun v_8 =>
    if v_8 = (-1 : Int32) then (some (r_4.1, r_4.2.1, r_4.2.2.1, r_4.2.2.2, ((100 : Int32) + x3_48)))
    else (if a_2 < 0 then (some (r_4.1, r_4.2.1, r_4.2.2.1, r_4.2.2.2, ((100 : Int32) + x3_48)))
    else (ag f_sizes 6 a_1 fun v_9 =>
    if a_2 ≤ ((v_9 - (1 : Int32)) - x3_48) then (ag f_cells 360 ((((60 : Int32) * a_1) + a_2) + x3_48) fun v_10 =>
    cl (m_X8_earliest f_units f_froms r_4.2.2.1 x3_48) fun r_11 =>
    if (lg_cmp v_10 (r_11).toInt64) = 0 then (m_X8_judge_L48 f_units f_froms f_sorts f_sizes f_cells a_1 a_2 r_4 n_48 (x3_48 + (1 : Int32)) k_48)
    else (some (r_4.1, r_4.2.1, r_4.2.2.1, r_4.2.2.2, x3_48)))
    else (some (r_4.1, r_4.2.1, r_4.2.2.1, r_4.2.2.2, ((100 : Int32) + x3_48))))))
def m_X8_judge (f_units : Int32) (f_froms : (Nat → Int32)) (f_ties : Int32) (f_aboves : (Nat → Int32)) (f_belows : (Nat → Int32)) (f_under : (Nat → Int32)) (f_over : (Nat → Int32)) (f_reached : (Nat → Int32)) (f_reaching : (Nat → Int32)) (f_sorts : (Nat → Int32)) (f_sizes : (Nat → Int32)) (f_cells : (Nat → Int64)) (a_1 : Int32) (a_2 : Int32) : Option ((Nat → Int32) × (Nat → Int32) × (Nat → Int32) × (Nat → Int32) × Int32) :=
  cl (m_X8_isTape a_1) fun r_1 =>
  if r_1 = 0 then (some (f_under, f_over, f_reached, f_reaching, (-1 : Int32)))
  else (ag f_sorts 6 a_1 fun v_3 =>
  jn (fun x_32 : (Unit) =>
  cl (m_X8_works_ f_units f_ties f_aboves f_belows f_under f_over f_reached f_reaching) fun r_4 =>
  cl (m_X8_isRound f_units r_4.2.2.1) fun r_6 =>
  if r_6 = 0 then (m_X8_judge_L48 f_units f_froms f_sorts f_sizes f_cells a_1 a_2 r_4 FU (0 : Int32) fun x3_48 =>
  some (r_4.1, r_4.2.1, r_4.2.2.1, r_4.2.2.2, (-5 : Int32)))
  else (some (r_4.1, r_4.2.1, r_4.2.2.1, r_4.2.2.2, (-3 : Int32)))) fun j_32 =>
  if v_3 = (-1 : Int32) then (j_32 ())
  else (ag f_sorts 6 a_1 fun v_13 =>
  if v_13 = (1 : Int32) then (j_32 ())
  else (some (f_under, f_over, f_reached, f_reaching, (-12 : Int32)))))
def m_X8_carries_L3 (n_p1 : Nat) (a_2 : Int32) (a_3 : Int32) (a_4 : Int32) : Nat → Int32 → (Nat → Int32) → (Nat → Int32) → (Int32 → (Nat → Int32) → (Nat → Int32) → Option ((Nat → Int32) × (Nat → Int32) × Int32)) → Option ((Nat → Int32) × (Nat → Int32) × Int32)
  | 0, _, _, _, _ => none
  | n_3 + 1, x5_3, y_f_kept_3, y_p1_row_3, k_3 =>
    if a_2 ≤ x5_3 then (k_3 x5_3 y_f_kept_3 y_p1_row_3)
    else (if a_4 = 0 then (ag y_p1_row_3 n_p1 x5_3 fun v_1 =>
    au y_f_kept_3 240 (a_3 + x5_3) v_1 fun g_2 =>
    m_X8_carries_L3 n_p1 a_2 a_3 a_4 n_3 (x5_3 + (1 : Int32)) g_2 y_p1_row_3 k_3)
    else (ag y_f_kept_3 240 (a_3 + x5_3) fun v_3 =>
    au y_p1_row_3 n_p1 x5_3 v_3 fun g_4 =>
    m_X8_carries_L3 n_p1 a_2 a_3 a_4 n_3 (x5_3 + (1 : Int32)) y_f_kept_3 g_4 k_3))
def m_X8_carries (f_kept : (Nat → Int32)) (p1_row : (Nat → Int32)) (n_p1 : Nat) (a_2 : Int32) (a_3 : Int32) (a_4 : Int32) : Option ((Nat → Int32) × (Nat → Int32) × Int32) :=
  m_X8_carries_L3 n_p1 a_2 a_3 a_4 FU (0 : Int32) f_kept p1_row fun x5_3 y_f_kept_3 y_p1_row_3 =>
  some (y_f_kept_3, y_p1_row_3, (a_3 + a_2))
def m_X8_carriesAll (f_kinds : (Nat → Int32)) (f_thicks : (Nat → Int32)) (f_froms : (Nat → Int32)) (f_tos : (Nat → Int32)) (f_phases : (Nat → Int32)) (f_aboves : (Nat → Int32)) (f_belows : (Nat → Int32)) (f_dug : (Nat → Int32)) (f_trayUnit : (Nat → Int32)) (f_trayKind : (Nat → Int32)) (f_seen : (Nat → Int32)) (f_events : (Nat → Int32)) (f_kept : (Nat → Int32)) (f_numbers : (Nat → Int32)) (a_1 : Int32) : Option ((Nat → Int32) × (Nat → Int32) × (Nat → Int32) × (Nat → Int32) × (Nat → Int32) × (Nat → Int32) × (Nat → Int32) × (Nat → Int32) × (Nat → Int32) × (Nat → Int32) × (Nat → Int32) × (Nat → Int32) × (Nat → Int32) × (Nat → Int32)) :=
  cl (m_X8_carries f_kept f_kinds 12 (12 : Int32) (0 : Int32) a_1) fun r_1 =>
  cl (m_X8_carries r_1.1 f_thicks 12 (12 : Int32) r_1.2.2 a_1) fun r_3 =>
  cl (m_X8_carries r_3.1 f_froms 12 (12 : Int32) r_3.2.2 a_1) fun r_5 =>
  cl (m_X8_carries r_5.1 f_tos 12 (12 : Int32) r_5.2.2 a_1) fun r_7 =>
  cl (m_X8_carries r_7.1 f_phases 12 (12 : Int32) r_7.2.2 a_1) fun r_9 =>
  cl (m_X8_carries r_9.1 f_dug 12 (12 : Int32) r_9.2.2 a_1) fun r_11 =>
  cl (m_X8_carries r_11.1 f_aboves 40 (40 : Int32) r_11.2.2 a_1) fun r_13 =>
  cl (m_X8_carries r_13.1 f_belows 40 (40 : Int32) r_13.2.2 a_1) fun r_15 =>
  cl (m_X8_carries r_15.1 f_trayUnit 12 (12 : Int32) r_15.2.2 a_1) fun r_17 =>
  cl (m_X8_carries r_17.1 f_trayKind 12 (12 : Int32) r_17.2.2 a_1) fun r_19 =>
  cl (m_X8_carries r_19.1 f_seen 15 (15 : Int32) r_19.2.2 a_1) fun r_21 =>
  cl (m_X8_carries r_21.1 f_events 16 (16 : Int32) r_21.2.2 a_1) fun r_23 =>
  cl (m_X8_carries r_23.1 f_numbers 5 (5 : Int32) r_23.2.2 a_1) fun r_25 =>
  some (r_1.2.1, r_3.2.1, r_5.2.1, r_7.2.1, r_9.2.1, r_13.2.1, r_15.2.1, r_11.2.1, r_17.2.1, r_19.2.1, r_21.2.1, r_23.2.1, r_25.1, r_25.2.1)
def m_X8_image (f_units : Int32) (f_kinds : (Nat → Int32)) (f_thicks : (Nat → Int32)) (f_froms : (Nat → Int32)) (f_tos : (Nat → Int32)) (f_phases : (Nat → Int32)) (f_ties : Int32) (f_aboves : (Nat → Int32)) (f_belows : (Nat → Int32)) (f_dug : (Nat → Int32)) (f_dugMany : Int32) (f_trayUnit : (Nat → Int32)) (f_trayKind : (Nat → Int32)) (f_seen : (Nat → Int32)) (f_seenMany : Int32) (f_events : (Nat → Int32)) (f_eventMany : Int32) (f_kept : (Nat → Int32)) (f_numbers : (Nat → Int32)) (f_hasImage : Int32) : Option ((Nat → Int32) × (Nat → Int32) × (Nat → Int32) × (Nat → Int32) × (Nat → Int32) × (Nat → Int32) × (Nat → Int32) × (Nat → Int32) × (Nat → Int32) × (Nat → Int32) × (Nat → Int32) × (Nat → Int32) × (Nat → Int32) × (Nat → Int32) × Int32 × Int32) :=
  au f_numbers 5 (0 : Int32) f_units fun g_1 =>
  au g_1 5 (1 : Int32) f_ties fun g_2 =>
  au g_2 5 (2 : Int32) f_dugMany fun g_3 =>
  au g_3 5 (3 : Int32) f_seenMany fun g_4 =>
  au g_4 5 (4 : Int32) f_eventMany fun g_5 =>
  cl (m_X8_carriesAll f_kinds f_thicks f_froms f_tos f_phases f_aboves f_belows f_dug f_trayUnit f_trayKind f_seen f_events f_kept g_5 (0 : Int32)) fun r_6 =>
  some (r_6.1, r_6.2.1, r_6.2.2.1, r_6.2.2.2.1, r_6.2.2.2.2.1, r_6.2.2.2.2.2.1, r_6.2.2.2.2.2.2.1, r_6.2.2.2.2.2.2.2.1, r_6.2.2.2.2.2.2.2.2.1, r_6.2.2.2.2.2.2.2.2.2.1, r_6.2.2.2.2.2.2.2.2.2.2.1, r_6.2.2.2.2.2.2.2.2.2.2.2.1, r_6.2.2.2.2.2.2.2.2.2.2.2.2.1, r_6.2.2.2.2.2.2.2.2.2.2.2.2.2, (1 : Int32), f_units)
def m_X8_undo (f_units : Int32) (f_kinds : (Nat → Int32)) (f_thicks : (Nat → Int32)) (f_froms : (Nat → Int32)) (f_tos : (Nat → Int32)) (f_phases : (Nat → Int32)) (f_ties : Int32) (f_aboves : (Nat → Int32)) (f_belows : (Nat → Int32)) (f_dug : (Nat → Int32)) (f_dugMany : Int32) (f_trayUnit : (Nat → Int32)) (f_trayKind : (Nat → Int32)) (f_seen : (Nat → Int32)) (f_seenMany : Int32) (f_events : (Nat → Int32)) (f_eventMany : Int32) (f_kept : (Nat → Int32)) (f_numbers : (Nat → Int32)) (f_hasImage : Int32) : Option (Int32 × (Nat → Int32) × (Nat → Int32) × (Nat → Int32) × (Nat → Int32) × (Nat → Int32) × Int32 × (Nat → Int32) × (Nat → Int32) × (Nat → Int32) × Int32 × (Nat → Int32) × (Nat → Int32) × (Nat → Int32) × Int32 × (Nat → Int32) × Int32 × (Nat → Int32) × (Nat → Int32) × Int32) :=
  if f_hasImage = 0 then (some (f_units, f_kinds, f_thicks, f_froms, f_tos, f_phases, f_ties, f_aboves, f_belows, f_dug, f_dugMany, f_trayUnit, f_trayKind, f_seen, f_seenMany, f_events, f_eventMany, f_kept, f_numbers, (-3 : Int32)))
  else (cl (m_X8_carriesAll f_kinds f_thicks f_froms f_tos f_phases f_aboves f_belows f_dug f_trayUnit f_trayKind f_seen f_events f_kept f_numbers (1 : Int32)) fun r_1 =>
  ag r_1.2.2.2.2.2.2.2.2.2.2.2.2.2 5 (0 : Int32) fun v_3 =>
  ag r_1.2.2.2.2.2.2.2.2.2.2.2.2.2 5 (1 : Int32) fun v_4 =>
  ag r_1.2.2.2.2.2.2.2.2.2.2.2.2.2 5 (2 : Int32) fun v_5 =>
  ag r_1.2.2.2.2.2.2.2.2.2.2.2.2.2 5 (3 : Int32) fun v_6 =>
  ag r_1.2.2.2.2.2.2.2.2.2.2.2.2.2 5 (4 : Int32) fun v_7 =>
  some (v_3, r_1.1, r_1.2.1, r_1.2.2.1, r_1.2.2.2.1, r_1.2.2.2.2.1, v_4, r_1.2.2.2.2.2.1, r_1.2.2.2.2.2.2.1, r_1.2.2.2.2.2.2.2.1, v_5, r_1.2.2.2.2.2.2.2.2.1, r_1.2.2.2.2.2.2.2.2.2.1, r_1.2.2.2.2.2.2.2.2.2.2.1, v_6, r_1.2.2.2.2.2.2.2.2.2.2.2.1, v_7, r_1.2.2.2.2.2.2.2.2.2.2.2.2.1, r_1.2.2.2.2.2.2.2.2.2.2.2.2.2, v_3))
def m_X8_count (f_texted : Int32) (f_papered : Int32) (f_seenMany : Int32) (f_eventMany : Int32) (a_1 : Int32) : Option Int32 :=
  if a_1 = 0 then (some f_seenMany)
  else (if a_1 = 1 then (some f_eventMany)
  else (if a_1 = 2 then (some f_texted)
  else (if a_1 = 3 then (some f_papered)
  else (some (-2 : Int32)))))
def m_X8_tape_L70 (a_1 : Int32) : Nat → Int32 → (Nat → Int64) → (Int32 → (Nat → Int64) → Option ((Nat → Int32) × (Nat → Int32) × (Nat → Int64) × Int32)) → Option ((Nat → Int32) × (Nat → Int32) × (Nat → Int64) × Int32)
  | 0, _, _, _ => none
  | n_70 + 1, x4_70, y_f_cells_70, k_70 =>
    if (60 : Int32) ≤ x4_70 then (k_70 x4_70 y_f_cells_70)
    else (al y_f_cells_70 360 (((60 : Int32) * a_1) + x4_70) (0 : Int64) fun g_7 =>
    m_X8_tape_L70 a_1 n_70 (x4_70 + (1 : Int32)) g_7 k_70)
def m_X8_tape (f_sorts : (Nat → Int32)) (f_sizes : (Nat → Int32)) (f_cells : (Nat → Int64)) (a_1 : Int32) (a_2 : Int32) (a_3 : Int32) : Option ((Nat → Int32) × (Nat → Int32) × (Nat → Int64) × Int32) :=
  cl (m_X8_isTape a_1) fun r_1 =>
  if r_1 = 0 then (some (f_sorts, f_sizes, f_cells, (-1 : Int32)))
  else (cl (m_X8_in a_2 (-1 : Int32) (4 : Int32)) fun r_3 =>
  if r_3 = 0 then (some (f_sorts, f_sizes, f_cells, (-2 : Int32)))
  else (jn (fun x_32 : (Unit) =>
  jn (fun x_44 : (Unit) =>
  au f_sorts 6 a_1 a_2 fun g_5 =>
  jn (fun x_66 : (Int32 × Int32) =>
  au f_sizes 6 x_66.2 x_66.1 fun g_6 =>
  m_X8_tape_L70 a_1 FU (0 : Int32) f_cells fun x4_70 y_f_cells_70 =>
  some (g_5, g_6, y_f_cells_70, (1 : Int32))) fun j_66 =>
  if a_2 = (-1 : Int32) then (j_66 ((0 : Int32), a_1))
  else (j_66 (a_3, a_1))) fun j_44 =>
  if a_2 = (-1 : Int32) then (j_44 ())
  else (if 0 ≤ a_3 then (j_44 ())
  else (some (f_sorts, f_sizes, f_cells, (-14 : Int32))))) fun j_32 =>
  if a_2 = (-1 : Int32) then (j_32 ())
  else (if a_3 ≤ (60 : Int32) then (j_32 ())
  else (some (f_sorts, f_sizes, f_cells, (-2 : Int32))))))
def m_X8_heldBy_ (a_1 : Int32) (a_2 : Int64) : Option Int64 :=
  if a_1 = 0 then (some (((a_2).toInt32).toInt8.toInt32).toInt64)
  else (if a_1 = 1 then (some (((a_2).toInt32).toInt16.toInt32).toInt64)
  else (if a_1 = 2 then (some ((a_2).toInt32).toInt64)
  else (if a_1 = 3 then (some a_2)
  else (if (lg_cmp a_2 (0 : Int64)) = 0 then (some (0 : Int64))
  else (some (1 : Int64))))))
def m_X8_item (f_sorts : (Nat → Int32)) (f_sizes : (Nat → Int32)) (f_cells : (Nat → Int64)) (a_1 : Int32) (a_2 : Int32) (a_3 : Int64) : Option ((Nat → Int64) × Int32) :=
  cl (m_X8_isTape a_1) fun r_1 =>
  if r_1 = 0 then (some (f_cells, (-1 : Int32)))
  else (ag f_sorts 6 a_1 fun v_3 =>
  if v_3 = (-1 : Int32) then (some (f_cells, (-11 : Int32)))
  else (ag f_sizes 6 a_1 fun v_4 =>
  cl (m_X8_in a_2 (0 : Int32) (v_4 - (1 : Int32))) fun r_5 =>
  if r_5 = 0 then (some (f_cells, (-13 : Int32)))
  else (ag f_sorts 6 a_1 fun v_7 =>
  cl (m_X8_heldBy_ v_7 a_3) fun r_8 =>
  al f_cells 360 (((60 : Int32) * a_1) + a_2) r_8 fun g_10 =>
  some (g_10, (1 : Int32)))))
def m_X8_peek (f_sorts : (Nat → Int32)) (f_sizes : (Nat → Int32)) (f_cells : (Nat → Int64)) (a_1 : Int32) (a_2 : Int32) : Option Int64 :=
  cl (m_X8_isTape a_1) fun r_1 =>
  if r_1 = 0 then (some (-9223372036854775808 : Int64))
  else (ag f_sorts 6 a_1 fun v_3 =>
  if v_3 = (-1 : Int32) then (some (-9223372036854775808 : Int64))
  else (ag f_sizes 6 a_1 fun v_4 =>
  cl (m_X8_in a_2 (0 : Int32) (v_4 - (1 : Int32))) fun r_5 =>
  if r_5 = 0 then (some (-9223372036854775808 : Int64))
  else (ag f_cells 360 (((60 : Int32) * a_1) + a_2) fun v_7 =>
  some v_7)))
def m_X8_shift_L125 (f_cells : (Nat → Int64)) (a_1 : Int32) (a_2 : Int32) (a_5 : Int32) : Nat → Int32 → (Nat → Int64) → (Int32 → (Nat → Int64) → Option ((Nat → Int64) × (Nat → Int64) × Int32)) → Option ((Nat → Int64) × (Nat → Int64) × Int32)
  | 0, _, _, _ => none
  | n_125 + 1, x6_125, y_f_carried_125, k_125 =>
    if a_5 ≤ x6_125 then (k_125 x6_125 y_f_carried_125)
    else (ag f_cells 360 ((((60 : Int32) * a_1) + a_2) + x6_125) fun v_13 =>
    al y_f_carried_125 60 x6_125 v_13 fun g_14 =>
    m_X8_shift_L125 f_cells a_1 a_2 a_5 n_125 (x6_125 + (1 : Int32)) g_14 k_125)
def m_X8_shift_L162 (a_3 : Int32) (a_4 : Int32) (a_5 : Int32) (y_f_carried_125 : (Nat → Int64)) : Nat → Int32 → (Nat → Int64) → (Int32 → (Nat → Int64) → Option ((Nat → Int64) × (Nat → Int64) × Int32)) → Option ((Nat → Int64) × (Nat → Int64) × Int32)
  | 0, _, _, _ => none
  | n_162 + 1, x6_162, y_f_cells_162, k_162 =>
    if a_5 ≤ x6_162 then (k_162 x6_162 y_f_cells_162)
    else (ag y_f_carried_125 60 x6_162 fun v_15 =>
    al y_f_cells_162 360 ((((60 : Int32) * a_3) + a_4) + x6_162) v_15 fun g_16 =>
    m_X8_shift_L162 a_3 a_4 a_5 y_f_carried_125 n_162 (x6_162 + (1 : Int32)) g_16 k_162)
def m_X8_shift (f_sorts : (Nat → Int32)) (f_sizes : (Nat → Int32)) (f_cells : (Nat → Int64)) (f_carried : (Nat → Int64)) (a_1 : Int32) (a_2 : Int32) (a_3 : Int32) (a_4 : Int32) (a_5 : Int32) : Option ((Nat → Int64) × (Nat → Int64) × Int32) :=
  cl (m_X8_isTape a_1) fun r_1 =>
  if r_1 = 0 then (some (f_cells, f_carried, (-1 : Int32)))
  else (cl (m_X8_isTape a_3) fun r_3 =>
  if r_3 = 0 then (some (f_cells, f_carried, (-1 : Int32)))
  else (ag f_sorts 6 a_1 fun v_5 =>
  if v_5 = (-1 : Int32) then (some (f_cells, f_carried, (-11 : Int32)))
  else (ag f_sorts 6 a_3 fun v_6 =>
  if v_6 = (-1 : Int32) then (some (f_cells, f_carried, (-11 : Int32)))
  else (ag f_sorts 6 a_1 fun v_7 =>
  ag f_sorts 6 a_3 fun v_8 =>
  if v_7 = v_8 then (if a_5 < 0 then (some (f_cells, f_carried, (-13 : Int32)))
  else (if a_2 < 0 then (some (f_cells, f_carried, (-13 : Int32)))
  else (if a_4 < 0 then (some (f_cells, f_carried, (-13 : Int32)))
  else (ag f_sizes 6 a_1 fun v_9 =>
  if v_9 < a_2 then (some (f_cells, f_carried, (-13 : Int32)))
  else (ag f_sizes 6 a_3 fun v_10 =>
  if v_10 < a_4 then (some (f_cells, f_carried, (-13 : Int32)))
  else (ag f_sizes 6 a_1 fun v_11 =>
  if (v_11 - a_2) < a_5 then (some (f_cells, f_carried, (-13 : Int32)))
  else (ag f_sizes 6 a_3 fun v_12 =>
  if a_5 ≤ (v_12 - a_4) then (m_X8_shift_L125 f_cells a_1 a_2 a_5 FU (0 : Int32) f_carried fun x6_125 y_f_carried_125 =>
  m_X8_shift_L162 a_3 a_4 a_5 y_f_carried_125 FU (0 : Int32) f_cells fun x6_162 y_f_cells_162 =>
  some (y_f_cells_162, y_f_carried_125, a_5))
  else (some (f_cells, f_carried, (-13 : Int32))))))))))
  else (some (f_cells, f_carried, (-12 : Int32)))))))
