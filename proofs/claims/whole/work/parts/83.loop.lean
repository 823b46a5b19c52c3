/-! ===== the law's loop ===== -/
theorem lim6 {L i : Nat} (hL : L ≤ 3072) (hi : i ≤ 3078) : ((Int32.ofNat L) - 6 < nI i) ↔ L < i + 6 := by
  have e1 : (Int32.ofNat L).toInt = (L : Int) := nI_toInt (by omega)
  have e2 : (nI i).toInt = (i : Int) := nI_toInt (by omega)
  have e3 : (6 : Int32).toInt = 6 := rfl
  rw [Int32.lt_iff_toInt_lt, Int32.toInt_sub, e1, e2, e3, Int.bmod_eq_of_le (by omega) (by omega)]
  omega
theorem hin_j {i L j : Nat} (hL : L ≤ 3072) (h : i + 6 ≤ L) (hj : j < 6) {x : Int32} (hx : x = nI j) : vp_in (nI i + x) L := by
  rw [hx, nI_add]; exact vp_in_nI (by omega) (by omega)
set_option maxHeartbeats 4000000 in
set_option maxRecDepth 100000 in
theorem law_sw0 {p : Program} {l : Launch} {e : Env} {s : State} {m : MethodId} {below : List Frame} {meth : Method} {c : Code} {b L : Nat} {xs : Nat → Int32} {G : GT} (X : LX p s m c b L xs G) (hL : L ≤ 3072) (a : A7) (bb : A8) (s7 : S7) (t8 : S8) (i : Nat) (hi : i + 6 ≤ L) (hr : Rel s7 t8) (kk : ∀ (s7 : S7) (t8 : S8) (H : Heap) (locs : List Loc) (ls : Array Slot), Rel s7 t8 → va_P (gD G) vwCl (W7 G a s7 ++ W8 G bb t8) H → va_D (fun q : Nat => s.heap.size ≤ q) (W7 G a s7 ++ W8 G bb t8) → va_S (fun q : Nat => s.heap.size ≤ q) s.heap H locs → lv_has ls 4 [(0, .ref b), (1, .ref a.1), (2, .ref bb.1), (3, .int (nI i))] → W p l e room_1 s m #[Value.ref b] below meth c H locs 95 11109 (lw_Z below #[Value.ref b] s) (F0 m 1429 ls [])) (H : Heap) (locs : List Loc) (ls : Array Slot) (hP : va_P (gD G) vwCl (W7 G a s7 ++ W8 G bb t8) H) (hD : va_D (fun q : Nat => s.heap.size ≤ q) (W7 G a s7 ++ W8 G bb t8)) (hS : va_S (fun q : Nat => s.heap.size ≤ q) s.heap H locs) (hl : lv_has ls 4 [(0, .ref b), (1, .ref a.1), (2, .ref bb.1), (3, .int (nI i))]) (j : Nat) (h1 : 0 ≤ j) (h2 : j < 10) : W p l e room_1 s m #[Value.ref b] below meth c H locs 95 11109 (lw_Z below #[Value.ref b] s) (F0 m 33 ls [.int (nI j)]) := by
  have hx := X.1
  have hb := X.2.1
  rcases (show j = 0 ∨ j = 1 ∨ j = 2 ∨ j = 3 ∨ j = 4 ∨ j = 5 ∨ j = 6 ∨ j = 7 ∨ j = 8 ∨ j = 9 by omega) with rfl | rfl | rfl | rfl | rfl | rfl | rfl | rfl | rfl | rfl
  · exact lv_tableIn (off := 175) (tgt := 208) hx hb dL_law_33 (by decide) (by decide) (by decide +kernel) (by decide) (st_0 X ok_0 a bb s7 t8 (nI i) (hin_j hL hi (j := 1) (by omega) rfl) hr kk H locs ls hP hD hS hl)
  · exact lv_tableIn (off := 198) (tgt := 231) hx hb dL_law_33 (by decide) (by decide) (by decide +kernel) (by decide) (st_1 X ok_1 a bb s7 t8 (nI i) (hin_j hL hi (j := 1) (by omega) rfl) (hin_j hL hi (j := 2) (by omega) rfl) (hin_j hL hi (j := 3) (by omega) rfl) hr kk H locs ls hP hD hS hl)
  · exact lv_tableIn (off := 241) (tgt := 274) hx hb dL_law_33 (by decide) (by decide) (by decide +kernel) (by decide) (st_2 X ok_2 a bb s7 t8 (nI i) (hin_j hL hi (j := 1) (by omega) rfl) (hin_j hL hi (j := 2) (by omega) rfl) hr kk H locs ls hP hD hS hl)
  · exact lv_tableIn (off := 274) (tgt := 307) hx hb dL_law_33 (by decide) (by decide) (by decide +kernel) (by decide) (st_3 X ok_3 a bb s7 t8 (nI i) (hin_j hL hi (j := 1) (by omega) rfl) (hin_j hL hi (j := 2) (by omega) rfl) hr kk H locs ls hP hD hS hl)
  · exact lv_tableIn (off := 307) (tgt := 340) hx hb dL_law_33 (by decide) (by decide) (by decide +kernel) (by decide) (st_4 X ok_4 a bb s7 t8 (nI i) (hin_j hL hi (j := 1) (by omega) rfl) (hin_j hL hi (j := 2) (by omega) rfl) hr kk H locs ls hP hD hS hl)
  · exact lv_tableIn (off := 340) (tgt := 373) hx hb dL_law_33 (by decide) (by decide) (by decide +kernel) (by decide) (st_5 X ok_5 a bb s7 t8 (nI i) (hin_j hL hi (j := 1) (by omega) rfl) hr kk H locs ls hP hD hS hl)
  · exact lv_tableIn (off := 363) (tgt := 396) hx hb dL_law_33 (by decide) (by decide) (by decide +kernel) (by decide) (st_6 X ok_6 a bb s7 t8 (nI i) (hin_j hL hi (j := 1) (by omega) rfl) (hin_j hL hi (j := 2) (by omega) rfl) hr kk H locs ls hP hD hS hl)
  · exact lv_tableIn (off := 396) (tgt := 429) hx hb dL_law_33 (by decide) (by decide) (by decide +kernel) (by decide) (st_7 X ok_7 a bb s7 t8 (nI i) (hin_j hL hi (j := 1) (by omega) rfl) hr kk H locs ls hP hD hS hl)
  · exact lv_tableIn (off := 419) (tgt := 452) hx hb dL_law_33 (by decide) (by decide) (by decide +kernel) (by decide) (st_8 X ok_8 a bb s7 t8 (nI i) (hin_j hL hi (j := 1) (by omega) rfl) hr kk H locs ls hP hD hS hl)
  · exact lv_tableIn (off := 442) (tgt := 475) hx hb dL_law_33 (by decide) (by decide) (by decide +kernel) (by decide) (st_9 X ok_9 a bb s7 t8 (nI i) (hin_j hL hi (j := 1) (by omega) rfl) hr kk H locs ls hP hD hS hl)
set_option maxHeartbeats 4000000 in
set_option maxRecDepth 100000 in
theorem law_sw1 {p : Program} {l : Launch} {e : Env} {s : State} {m : MethodId} {below : List Frame} {meth : Method} {c : Code} {b L : Nat} {xs : Nat → Int32} {G : GT} (X : LX p s m c b L xs G) (hL : L ≤ 3072) (a : A7) (bb : A8) (s7 : S7) (t8 : S8) (i : Nat) (hi : i + 6 ≤ L) (hr : Rel s7 t8) (kk : ∀ (s7 : S7) (t8 : S8) (H : Heap) (locs : List Loc) (ls : Array Slot), Rel s7 t8 → va_P (gD G) vwCl (W7 G a s7 ++ W8 G bb t8) H → va_D (fun q : Nat => s.heap.size ≤ q) (W7 G a s7 ++ W8 G bb t8) → va_S (fun q : Nat => s.heap.size ≤ q) s.heap H locs → lv_has ls 4 [(0, .ref b), (1, .ref a.1), (2, .ref bb.1), (3, .int (nI i))] → W p l e room_1 s m #[Value.ref b] below meth c H locs 95 11109 (lw_Z below #[Value.ref b] s) (F0 m 1429 ls [])) (H : Heap) (locs : List Loc) (ls : Array Slot) (hP : va_P (gD G) vwCl (W7 G a s7 ++ W8 G bb t8) H) (hD : va_D (fun q : Nat => s.heap.size ≤ q) (W7 G a s7 ++ W8 G bb t8)) (hS : va_S (fun q : Nat => s.heap.size ≤ q) s.heap H locs) (hl : lv_has ls 4 [(0, .ref b), (1, .ref a.1), (2, .ref bb.1), (3, .int (nI i))]) (j : Nat) (h1 : 10 ≤ j) (h2 : j < 20) : W p l e room_1 s m #[Value.ref b] below meth c H locs 95 11109 (lw_Z below #[Value.ref b] s) (F0 m 33 ls [.int (nI j)]) := by
  have hx := X.1
  have hb := X.2.1
  rcases (show j = 10 ∨ j = 11 ∨ j = 12 ∨ j = 13 ∨ j = 14 ∨ j = 15 ∨ j = 16 ∨ j = 17 ∨ j = 18 ∨ j = 19 by omega) with rfl | rfl | rfl | rfl | rfl | rfl | rfl | rfl | rfl | rfl
  · exact lv_tableIn (off := 465) (tgt := 498) hx hb dL_law_33 (by decide) (by decide) (by decide +kernel) (by decide) (st_10 X ok_10 a bb s7 t8 (nI i) (hin_j hL hi (j := 1) (by omega) rfl) hr kk H locs ls hP hD hS hl)
  · exact lv_tableIn (off := 488) (tgt := 521) hx hb dL_law_33 (by decide) (by decide) (by decide +kernel) (by decide) (st_11 X ok_11 a bb s7 t8 (nI i) (hin_j hL hi (j := 1) (by omega) rfl) (hin_j hL hi (j := 2) (by omega) rfl) hr kk H locs ls hP hD hS hl)
  · exact lv_tableIn (off := 521) (tgt := 554) hx hb dL_law_33 (by decide) (by decide) (by decide +kernel) (by decide) (st_12 X ok_12 a bb s7 t8 (nI i) (hin_j hL hi (j := 1) (by omega) rfl) hr kk H locs ls hP hD hS hl)
  · exact lv_tableIn (off := 544) (tgt := 577) hx hb dL_law_33 (by decide) (by decide) (by decide +kernel) (by decide) (st_13 X ok_13 a bb s7 t8 (nI i) (hin_j hL hi (j := 1) (by omega) rfl) (hin_j hL hi (j := 2) (by omega) rfl) hr kk H locs ls hP hD hS hl)
  · exact lv_tableIn (off := 577) (tgt := 610) hx hb dL_law_33 (by decide) (by decide) (by decide +kernel) (by decide) (st_14 X ok_14 a bb s7 t8 (nI i) (hin_j hL hi (j := 1) (by omega) rfl) hr kk H locs ls hP hD hS hl)
  · exact lv_tableIn (off := 601) (tgt := 634) hx hb dL_law_33 (by decide) (by decide) (by decide +kernel) (by decide) (st_15 X ok_15 a bb s7 t8 (nI i) (hin_j hL hi (j := 1) (by omega) rfl) hr kk H locs ls hP hD hS hl)
  · exact lv_tableIn (off := 624) (tgt := 657) hx hb dL_law_33 (by decide) (by decide) (by decide +kernel) (by decide) (st_16 X ok_16 a bb s7 t8 (nI i) (hin_j hL hi (j := 1) (by omega) rfl) (hin_j hL hi (j := 2) (by omega) rfl) hr kk H locs ls hP hD hS hl)
  · exact lv_tableIn (off := 658) (tgt := 691) hx hb dL_law_33 (by decide) (by decide) (by decide +kernel) (by decide) (st_17 X ok_17 a bb s7 t8 (nI i) (hin_j hL hi (j := 1) (by omega) rfl) hr kk H locs ls hP hD hS hl)
  · exact lv_tableIn (off := 681) (tgt := 714) hx hb dL_law_33 (by decide) (by decide) (by decide +kernel) (by decide) (st_18 X ok_18 a bb s7 t8 (nI i)  hr kk H locs ls hP hD hS hl)
  · exact lv_tableIn (off := 694) (tgt := 727) hx hb dL_law_33 (by decide) (by decide) (by decide +kernel) (by decide) (st_19 X ok_19 a bb s7 t8 (nI i) (hin_j hL hi (j := 1) (by omega) rfl) hr kk H locs ls hP hD hS hl)
set_option maxHeartbeats 4000000 in
set_option maxRecDepth 100000 in
theorem law_sw2 {p : Program} {l : Launch} {e : Env} {s : State} {m : MethodId} {below : List Frame} {meth : Method} {c : Code} {b L : Nat} {xs : Nat → Int32} {G : GT} (X : LX p s m c b L xs G) (hL : L ≤ 3072) (a : A7) (bb : A8) (s7 : S7) (t8 : S8) (i : Nat) (hi : i + 6 ≤ L) (hr : Rel s7 t8) (kk : ∀ (s7 : S7) (t8 : S8) (H : Heap) (locs : List Loc) (ls : Array Slot), Rel s7 t8 → va_P (gD G) vwCl (W7 G a s7 ++ W8 G bb t8) H → va_D (fun q : Nat => s.heap.size ≤ q) (W7 G a s7 ++ W8 G bb t8) → va_S (fun q : Nat => s.heap.size ≤ q) s.heap H locs → lv_has ls 4 [(0, .ref b), (1, .ref a.1), (2, .ref bb.1), (3, .int (nI i))] → W p l e room_1 s m #[Value.ref b] below meth c H locs 95 11109 (lw_Z below #[Value.ref b] s) (F0 m 1429 ls [])) (H : Heap) (locs : List Loc) (ls : Array Slot) (hP : va_P (gD G) vwCl (W7 G a s7 ++ W8 G bb t8) H) (hD : va_D (fun q : Nat => s.heap.size ≤ q) (W7 G a s7 ++ W8 G bb t8)) (hS : va_S (fun q : Nat => s.heap.size ≤ q) s.heap H locs) (hl : lv_has ls 4 [(0, .ref b), (1, .ref a.1), (2, .ref bb.1), (3, .int (nI i))]) (j : Nat) (h1 : 20 ≤ j) (h2 : j < 30) : W p l e room_1 s m #[Value.ref b] below meth c H locs 95 11109 (lw_Z below #[Value.ref b] s) (F0 m 33 ls [.int (nI j)]) := by
  have hx := X.1
  have hb := X.2.1
  rcases (show j = 20 ∨ j = 21 ∨ j = 22 ∨ j = 23 ∨ j = 24 ∨ j = 25 ∨ j = 26 ∨ j = 27 ∨ j = 28 ∨ j = 29 by omega) with rfl | rfl | rfl | rfl | rfl | rfl | rfl | rfl | rfl | rfl
  · exact lv_tableIn (off := 717) (tgt := 750) hx hb dL_law_33 (by decide) (by decide) (by decide +kernel) (by decide) (st_20 X ok_20 a bb s7 t8 (nI i)  hr kk H locs ls hP hD hS hl)
  · exact lv_tableIn (off := 731) (tgt := 764) hx hb dL_law_33 (by decide) (by decide) (by decide +kernel) (by decide) (st_21 X ok_21 a bb s7 t8 (nI i) (hin_j hL hi (j := 1) (by omega) rfl) (hin_j hL hi (j := 2) (by omega) rfl) (hin_j hL hi (j := 3) (by omega) rfl) hr kk H locs ls hP hD hS hl)
  · exact lv_tableIn (off := 794) (tgt := 827) hx hb dL_law_33 (by decide) (by decide) (by decide +kernel) (by decide) (st_22 X ok_22 a bb s7 t8 (nI i) (hin_j hL hi (j := 1) (by omega) rfl) (hin_j hL hi (j := 2) (by omega) rfl) (hin_j hL hi (j := 3) (by omega) rfl) hr kk H locs ls hP hD hS hl)
  · exact lv_tableIn (off := 837) (tgt := 870) hx hb dL_law_33 (by decide) (by decide) (by decide +kernel) (by decide) (st_23 X ok_23 a bb s7 t8 (nI i) (hin_j hL hi (j := 1) (by omega) rfl) (hin_j hL hi (j := 2) (by omega) rfl) (hin_j hL hi (j := 3) (by omega) rfl) hr kk H locs ls hP hD hS hl)
  · exact lv_tableIn (off := 880) (tgt := 913) hx hb dL_law_33 (by decide) (by decide) (by decide +kernel) (by decide) (st_24 X ok_24 a bb s7 t8 (nI i) (hin_j hL hi (j := 1) (by omega) rfl) hr kk H locs ls hP hD hS hl)
  · exact lv_tableIn (off := 903) (tgt := 936) hx hb dL_law_33 (by decide) (by decide) (by decide +kernel) (by decide) (st_25 X ok_25 a bb s7 t8 (nI i)  hr kk H locs ls hP hD hS hl)
  · exact lv_tableIn (off := 916) (tgt := 949) hx hb dL_law_33 (by decide) (by decide) (by decide +kernel) (by decide) (st_26 X ok_26 a bb s7 t8 (nI i) (hin_j hL hi (j := 1) (by omega) rfl) hr kk H locs ls hP hD hS hl)
  · exact lv_tableIn (off := 939) (tgt := 972) hx hb dL_law_33 (by decide) (by decide) (by decide +kernel) (by decide) (st_27 X ok_27 a bb s7 t8 (nI i) (hin_j hL hi (j := 1) (by omega) rfl) hr kk H locs ls hP hD hS hl)
  · exact lv_tableIn (off := 962) (tgt := 995) hx hb dL_law_33 (by decide) (by decide) (by decide +kernel) (by decide) (st_28 X ok_28 a bb s7 t8 (nI i) (hin_j hL hi (j := 1) (by omega) rfl) (hin_j hL hi (j := 2) (by omega) rfl) (hin_j hL hi (j := 3) (by omega) rfl) hr kk H locs ls hP hD hS hl)
  · exact lv_tableIn (off := 1021) (tgt := 1054) hx hb dL_law_33 (by decide) (by decide) (by decide +kernel) (by decide) (st_29 X ok_29 a bb s7 t8 (nI i) (hin_j hL hi (j := 1) (by omega) rfl) hr kk H locs ls hP hD hS hl)
set_option maxHeartbeats 4000000 in
set_option maxRecDepth 100000 in
theorem law_sw3 {p : Program} {l : Launch} {e : Env} {s : State} {m : MethodId} {below : List Frame} {meth : Method} {c : Code} {b L : Nat} {xs : Nat → Int32} {G : GT} (X : LX p s m c b L xs G) (hL : L ≤ 3072) (a : A7) (bb : A8) (s7 : S7) (t8 : S8) (i : Nat) (hi : i + 6 ≤ L) (hr : Rel s7 t8) (kk : ∀ (s7 : S7) (t8 : S8) (H : Heap) (locs : List Loc) (ls : Array Slot), Rel s7 t8 → va_P (gD G) vwCl (W7 G a s7 ++ W8 G bb t8) H → va_D (fun q : Nat => s.heap.size ≤ q) (W7 G a s7 ++ W8 G bb t8) → va_S (fun q : Nat => s.heap.size ≤ q) s.heap H locs → lv_has ls 4 [(0, .ref b), (1, .ref a.1), (2, .ref bb.1), (3, .int (nI i))] → W p l e room_1 s m #[Value.ref b] below meth c H locs 95 11109 (lw_Z below #[Value.ref b] s) (F0 m 1429 ls [])) (H : Heap) (locs : List Loc) (ls : Array Slot) (hP : va_P (gD G) vwCl (W7 G a s7 ++ W8 G bb t8) H) (hD : va_D (fun q : Nat => s.heap.size ≤ q) (W7 G a s7 ++ W8 G bb t8)) (hS : va_S (fun q : Nat => s.heap.size ≤ q) s.heap H locs) (hl : lv_has ls 4 [(0, .ref b), (1, .ref a.1), (2, .ref bb.1), (3, .int (nI i))]) (j : Nat) (h1 : 30 ≤ j) (h2 : j < 40) : W p l e room_1 s m #[Value.ref b] below meth c H locs 95 11109 (lw_Z below #[Value.ref b] s) (F0 m 33 ls [.int (nI j)]) := by
  have hx := X.1
  have hb := X.2.1
  rcases (show j = 30 ∨ j = 31 ∨ j = 32 ∨ j = 33 ∨ j = 34 ∨ j = 35 ∨ j = 36 ∨ j = 37 ∨ j = 38 ∨ j = 39 by omega) with rfl | rfl | rfl | rfl | rfl | rfl | rfl | rfl | rfl | rfl
  · exact lv_tableIn (off := 1044) (tgt := 1077) hx hb dL_law_33 (by decide) (by decide) (by decide +kernel) (by decide) (st_30 X ok_30 a bb s7 t8 (nI i) (hin_j hL hi (j := 1) (by omega) rfl) (hin_j hL hi (j := 2) (by omega) rfl) hr kk H locs ls hP hD hS hl)
  · exact lv_tableIn (off := 1077) (tgt := 1110) hx hb dL_law_33 (by decide) (by decide) (by decide +kernel) (by decide) (st_31 X ok_31 a bb s7 t8 (nI i) (hin_j hL hi (j := 1) (by omega) rfl) hr kk H locs ls hP hD hS hl)
  · exact lv_tableIn (off := 1101) (tgt := 1134) hx hb dL_law_33 (by decide) (by decide) (by decide +kernel) (by decide) (st_32 X ok_32 a bb s7 t8 (nI i) (hin_j hL hi (j := 1) (by omega) rfl) (hin_j hL hi (j := 2) (by omega) rfl) hr kk H locs ls hP hD hS hl)
  · exact lv_tableIn (off := 1134) (tgt := 1167) hx hb dL_law_33 (by decide) (by decide) (by decide +kernel) (by decide) (st_33 X ok_33 a bb s7 t8 (nI i)  hr kk H locs ls hP hD hS hl)
  · exact lv_tableIn (off := 1147) (tgt := 1180) hx hb dL_law_33 (by decide) (by decide) (by decide +kernel) (by decide) (st_34 X ok_34 a bb s7 t8 (nI i)  hr kk H locs ls hP hD hS hl)
  · exact lv_tableIn (off := 1160) (tgt := 1193) hx hb dL_law_33 (by decide) (by decide) (by decide +kernel) (by decide) (st_35 X ok_35 a bb s7 t8 (nI i) (hin_j hL hi (j := 1) (by omega) rfl) hr kk H locs ls hP hD hS hl)
  · exact lv_tableIn (off := 1183) (tgt := 1216) hx hb dL_law_33 (by decide) (by decide) (by decide +kernel) (by decide) (st_36 X ok_36 a bb s7 t8 (nI i) (hin_j hL hi (j := 1) (by omega) rfl) (hin_j hL hi (j := 2) (by omega) rfl) (hin_j hL hi (j := 3) (by omega) rfl) hr kk H locs ls hP hD hS hl)
  · exact lv_tableIn (off := 1226) (tgt := 1259) hx hb dL_law_33 (by decide) (by decide) (by decide +kernel) (by decide) (st_37 X ok_37 a bb s7 t8 (nI i) (hin_j hL hi (j := 1) (by omega) rfl) (hin_j hL hi (j := 2) (by omega) rfl) (hin_j hL hi (j := 3) (by omega) rfl) (hin_j hL hi (j := 4) (by omega) rfl) hr kk H locs ls hP hD hS hl)
  · exact lv_tableIn (off := 1299) (tgt := 1332) hx hb dL_law_33 (by decide) (by decide) (by decide +kernel) (by decide) (st_38 X ok_38 a bb s7 t8 (nI i) (hin_j hL hi (j := 1) (by omega) rfl) (hin_j hL hi (j := 2) (by omega) rfl) hr kk H locs ls hP hD hS hl)
  · exact lv_tableIn (off := 1333) (tgt := 1366) hx hb dL_law_33 (by decide) (by decide) (by decide +kernel) (by decide) (st_39 X ok_39 a bb s7 t8 (nI i) (hin_j hL hi (j := 1) (by omega) rfl) (hin_j hL hi (j := 2) (by omega) rfl) (hin_j hL hi (j := 3) (by omega) rfl) (hin_j hL hi (j := 4) (by omega) rfl) (hin_j hL hi (j := 5) (by omega) rfl) hr kk H locs ls hP hD hS hl)
set_option maxHeartbeats 4000000 in
set_option maxRecDepth 100000 in
theorem law_loop {p : Program} {l : Launch} {e : Env} {s : State} {m : MethodId} {below : List Frame} {meth : Method} {c : Code} {b L : Nat} {xs : Nat → Int32} {G : GT} (X : LX p s m c b L xs G) (hr : meth.sig.returnType = ret) (hlocks : meth.locks = false) (hL : L ≤ 3072) (a : A7) (bb : A8) : ∀ (n i : Nat), L < i + 6 * n → i ≤ 3078 → ∀ (s7 : S7) (t8 : S8) (H : Heap) (locs : List Loc) (ls : Array Slot), Rel s7 t8 → va_P (gD G) vwCl (W7 G a s7 ++ W8 G bb t8) H → va_D (fun q : Nat => s.heap.size ≤ q) (W7 G a s7 ++ W8 G bb t8) → va_S (fun q : Nat => s.heap.size ≤ q) s.heap H locs → lv_has ls 4 [(0, .ref b), (1, .ref a.1), (2, .ref bb.1), (3, .int (nI i))] → W p l e room_1 s m #[Value.ref b] below meth c H locs 95 11109 (lw_Z below #[Value.ref b] s) (F0 m 18 ls []) := by
  intro n
  induction n with
  | zero =>
    intro i h1 h2 s7 t8 H locs ls hrel hP hD hS hl
    obtain ⟨hx, hb, hml, hown, hts, hK, hG, hX, hbl⟩ := X
    have hbA : ¬ (fun q : Nat => s.heap.size ≤ q) b := Nat.not_le.mpr hbl
    refine lv_iload_n hx hb dL_law_18 rfl (lv_at hl 3 rfl) ?_
    refine lv_aload_n hx hb dL_law_19 rfl (lv_at hl 0 rfl) ?_
    refine va_slen hx hb hX hbl hbA hS dL_law_20 ?_
    refine lv_bipush (v := 6) hx hb dL_law_21 (by decide) ?_
    refine lv_isub hx hb dL_law_23 ?_
    refine lv_icmp_gt (tgt := 1435) hx hb dL_law_24 (by decide) (fun c_10 => ?_) (fun c_10 => absurd ((lim6 hL h2).mpr (by omega)) c_10)
    refine lv_iconst (v := 1) hx hb dL_law_1435 (by decide) ?_
    refine va_forget (fun q hq => hS.2.2 q hq) ?_
    refine W.base ?_
    exact lw_ret (Drawn.sameBut.refl s.drawn lw_cs) hx hb hr hlocks dL_law_1436
  | succ n ih =>
    intro i h1 h2 s7 t8 H locs ls hrel hP hD hS hl
    obtain ⟨hx, hb, hml, hown, hts, hK, hG, hX, hbl⟩ := id X
    have hbA : ¬ (fun q : Nat => s.heap.size ≤ q) b := Nat.not_le.mpr hbl
    refine lv_iload_n hx hb dL_law_18 rfl (lv_at hl 3 rfl) ?_
    refine lv_aload_n hx hb dL_law_19 rfl (lv_at hl 0 rfl) ?_
    refine va_slen hx hb hX hbl hbA hS dL_law_20 ?_
    refine lv_bipush (v := 6) hx hb dL_law_21 (by decide) ?_
    refine lv_isub hx hb dL_law_23 ?_
    refine lv_icmp_gt (tgt := 1435) hx hb dL_law_24 (by decide) (fun c_10 => ?_) (fun c_10 => ?_)
    · refine lv_iconst (v := 1) hx hb dL_law_1435 (by decide) ?_
      refine va_forget (fun q hq => hS.2.2 q hq) ?_
      refine W.base ?_
      exact lw_ret (Drawn.sameBut.refl s.drawn lw_cs) hx hb hr hlocks dL_law_1436
    · have hi : i + 6 ≤ L := Nat.not_lt.mp (fun q => c_10 ((lim6 hL h2).mpr q))
      have kk : ∀ (s7 : S7) (t8 : S8) (H : Heap) (locs : List Loc) (ls : Array Slot), Rel s7 t8 → va_P (gD G) vwCl (W7 G a s7 ++ W8 G bb t8) H → va_D (fun q : Nat => s.heap.size ≤ q) (W7 G a s7 ++ W8 G bb t8) → va_S (fun q : Nat => s.heap.size ≤ q) s.heap H locs → lv_has ls 4 [(0, .ref b), (1, .ref a.1), (2, .ref bb.1), (3, .int (nI i))] → W p l e room_1 s m #[Value.ref b] below meth c H locs 95 11109 (lw_Z below #[Value.ref b] s) (F0 m 1429 ls []) := by
        intro s7 t8 H locs ls hrel hP hD hS hl
        refine lv_iinc (v := nI (i + 6)) (lv' := [(3, .int (nI (i + 6))), (0, .ref b), (1, .ref a.1), (2, .ref bb.1)]) hx hb dL_law_1429 hl (k := 3) rfl (nI_add i 6) (by decide) rfl (fun ls hl => ?_)
        refine lv_goto (tgt := 18) hx hb dL_law_1432 (by decide) ?_
        exact ih (i + 6) (by omega) (by omega) s7 t8 H locs ls hrel hP hD hS (lv_sub hl [1, 2, 3, 0] rfl)
      refine lv_aload_n hx hb dL_law_27 rfl (lv_at hl 0 rfl) ?_
      refine lv_iload_n hx hb dL_law_28 rfl (lv_at hl 3 rfl) ?_
      refine va_sld hx hb hX hbl hbA hS (vp_in_nI (by omega) (by omega)) dL_law_29 ?_
      refine lv_bipush (v := 63) hx hb dL_law_30 (by decide) ?_
      refine lv_iand hx hb dL_law_32 ?_
      generalize (xs (nI i).toNatClampNeg &&& 63) = v
      have hout : v.toInt < 0 ∨ 39 < v.toInt → W p l e room_1 s m #[Value.ref b] below meth c H locs 95 11109 (lw_Z below #[Value.ref b] s) (F0 m 33 ls [.int v]) := fun q => lv_tableOut (tgt := 1429) hx hb dL_law_33 q (by decide) (kk s7 t8 H locs ls hrel hP hD hS hl)
      rcases pk_ix v (n := 40) (by omega) with h | h | ⟨j, hj, rfl⟩
      · exact hout (Or.inl (by rw [Int32.lt_iff_toInt_lt] at h; exact h))
      · refine hout (Or.inr ?_)
        rw [Int32.le_iff_toInt_le, nI_toInt (by omega)] at h
        omega
      · rcases (show j < 10 ∨ (10 ≤ j ∧ j < 20) ∨ (20 ≤ j ∧ j < 30) ∨ (30 ≤ j ∧ j < 40) by omega) with h | ⟨h, h'⟩ | ⟨h, h'⟩ | ⟨h, h'⟩
        · exact law_sw0 X hL a bb s7 t8 i hi hrel kk H locs ls hP hD hS hl j (Nat.zero_le j) h
        · exact law_sw1 X hL a bb s7 t8 i hi hrel kk H locs ls hP hD hS hl j h h'
        · exact law_sw2 X hL a bb s7 t8 i hi hrel kk H locs ls hP hD hS hl j h h'
        · exact law_sw3 X hL a bb s7 t8 i hi hrel kk H locs ls hP hD hS hl j h h'
