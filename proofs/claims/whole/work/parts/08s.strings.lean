theorem bw89 : Cond.initialized RJ0 ∈ BIG := big_of 89 (by decide +kernel) (by decide +kernel)
theorem bw90 : Cond.initialized RJ1 ∈ BIG := big_of 90 (by decide +kernel) (by decide +kernel)
theorem bw91 : Cond.initialized RJ3 ∈ BIG := big_of 91 (by decide +kernel) (by decide +kernel)
theorem bw758 : Cond.instanceMethod yJ0_length_8abf5 ∈ BIG := big_of 758 (by decide +kernel) (by decide +kernel)
theorem bw759 : Cond.selects RJ0 yJ0_length_8abf5 yJ0_length_8abf5 ∈ BIG := big_of 759 (by decide +kernel) (by decide +kernel)
theorem bw760 : Cond.code yJ0_length_8abf5 prog_15_method_54_code 1 (Option.some .int) ∈ BIG := big_of 760 (by decide +kernel) (by decide +kernel)
theorem bw761 : Cond.methodLink RJ0 335 yJ0_coder_7d493 ∈ BIG := big_of 761 (by decide +kernel) (by decide +kernel)
theorem bw762 : Cond.instanceMethod yJ0_coder_7d493 ∈ BIG := big_of 762 (by decide +kernel) (by decide +kernel)
theorem bw763 : Cond.selects RJ0 yJ0_coder_7d493 yJ0_coder_7d493 ∈ BIG := big_of 763 (by decide +kernel) (by decide +kernel)
theorem bw764 : Cond.code yJ0_coder_7d493 prog_15_method_152_code 1 (Option.some .byte) ∈ BIG := big_of 764 (by decide +kernel) (by decide +kernel)
theorem bw765 : Cond.fieldLink RJ0 38 RJ0 "COMPACT_STRINGS" "Z" ∈ BIG := big_of 765 (by decide +kernel) (by decide +kernel)
theorem bw768 : Cond.instanceMethod yJ0_charAt_5068e ∈ BIG := big_of 768 (by decide +kernel) (by decide +kernel)
theorem bw769 : Cond.selects RJ0 yJ0_charAt_5068e yJ0_charAt_5068e ∈ BIG := big_of 769 (by decide +kernel) (by decide +kernel)
theorem bw770 : Cond.code yJ0_charAt_5068e prog_15_method_56_code 2 (Option.some .char) ∈ BIG := big_of 770 (by decide +kernel) (by decide +kernel)
theorem bw771 : Cond.methodLink RJ0 492 yJ0_isLatin1_aae02 ∈ BIG := big_of 771 (by decide +kernel) (by decide +kernel)
theorem bw772 : Cond.instanceMethod yJ0_isLatin1_aae02 ∈ BIG := big_of 772 (by decide +kernel) (by decide +kernel)
theorem bw773 : Cond.selects RJ0 yJ0_isLatin1_aae02 yJ0_isLatin1_aae02 ∈ BIG := big_of 773 (by decide +kernel) (by decide +kernel)
theorem bw774 : Cond.code yJ0_isLatin1_aae02 prog_15_method_154_code 1 (Option.some .boolean) ∈ BIG := big_of 774 (by decide +kernel) (by decide +kernel)
theorem bw775 : Cond.methodLink RJ0 495 yJ1_charAt_3b067 ∈ BIG := big_of 775 (by decide +kernel) (by decide +kernel)
theorem bw776 : Cond.static yJ1_charAt_3b067 ∈ BIG := big_of 776 (by decide +kernel) (by decide +kernel)
theorem bw777 : Cond.code yJ1_charAt_3b067 prog_16_method_2_code 2 (Option.some .char) ∈ BIG := big_of 777 (by decide +kernel) (by decide +kernel)
theorem bw778 : Cond.methodLink RJ1 9 yJ0_checkIndex_df160 ∈ BIG := big_of 778 (by decide +kernel) (by decide +kernel)
theorem bw779 : Cond.static yJ0_checkIndex_df160 ∈ BIG := big_of 779 (by decide +kernel) (by decide +kernel)
theorem bw780 : Cond.code yJ0_checkIndex_df160 prog_15_method_155_code 2 Option.none ∈ BIG := big_of 780 (by decide +kernel) (by decide +kernel)
theorem bw781 : Cond.fieldLink RJ0 1053 RJ3 "SIOOBE_FORMATTER" "Ljava/util/function/BiFunction;" ∈ BIG := big_of 781 (by decide +kernel) (by decide +kernel)
theorem bw783 : Cond.methodLink RJ0 1059 yJ3_checkIndex_8e157 ∈ BIG := big_of 783 (by decide +kernel) (by decide +kernel)
theorem bw784 : Cond.static yJ3_checkIndex_8e157 ∈ BIG := big_of 784 (by decide +kernel) (by decide +kernel)
theorem bw785 : Cond.code yJ3_checkIndex_8e157 prog_19_method_11_code 3 (Option.some .int) ∈ BIG := big_of 785 (by decide +kernel) (by decide +kernel)
theorem bw1513 : Cond.fieldLink RJ0 9 RJ0 "value" "[B" ∈ BIG := big_of 1513 (by decide +kernel) (by decide +kernel)
theorem bw1514 : Cond.fieldLink RJ0 15 RJ0 "coder" "B" ∈ BIG := big_of 1514 (by decide +kernel) (by decide +kernel)
theorem kc_J0_coder_7d493 : KC yJ0_coder_7d493 cJ0_coder_7d493 1 (some .byte) 0 := ⟨bw764, bw89, ⟨by decide +kernel, by decide +kernel⟩, by decide +kernel⟩
theorem ki_J0_coder_7d493 : KI yJ0_coder_7d493 := ⟨bw762, bw763⟩
theorem kc_J0_isLatin1_aae02 : KC yJ0_isLatin1_aae02 cJ0_isLatin1_aae02 1 (some .boolean) 0 := ⟨bw774, bw89, ⟨by decide +kernel, by decide +kernel⟩, by decide +kernel⟩
theorem ki_J0_isLatin1_aae02 : KI yJ0_isLatin1_aae02 := ⟨bw772, bw773⟩
theorem kc_J0_length_8abf5 : KC yJ0_length_8abf5 cJ0_length_8abf5 1 (some .int) 0 := ⟨bw760, bw89, ⟨by decide +kernel, by decide +kernel⟩, by decide +kernel⟩
theorem ki_J0_length_8abf5 : KI yJ0_length_8abf5 := ⟨bw758, bw759⟩
theorem kc_J0_charAt_5068e : KC yJ0_charAt_5068e cJ0_charAt_5068e 2 (some .char) 1 := ⟨bw770, bw89, ⟨by decide +kernel, by decide +kernel⟩, by decide +kernel⟩
theorem ki_J0_charAt_5068e : KI yJ0_charAt_5068e := ⟨bw768, bw769⟩
theorem kc_J0_checkIndex_df160 : KC yJ0_checkIndex_df160 cJ0_checkIndex_df160 2 none 2 := ⟨bw780, bw89, ⟨by decide +kernel, by decide +kernel⟩, by decide +kernel⟩
theorem ks_J0_checkIndex_df160 : Cond.static yJ0_checkIndex_df160 ∈ BIG := bw779
theorem kc_J1_charAt_3b067 : KC yJ1_charAt_3b067 cJ1_charAt_3b067 2 (some .char) 2 := ⟨bw777, bw90, ⟨by decide +kernel, by decide +kernel⟩, by decide +kernel⟩
theorem ks_J1_charAt_3b067 : Cond.static yJ1_charAt_3b067 ∈ BIG := bw776
theorem kc_J3_checkIndex_8e157 : KC yJ3_checkIndex_8e157 cJ3_checkIndex_8e157 3 (some .int) 3 := ⟨bw785, bw91, ⟨by decide +kernel, by decide +kernel⟩, by decide +kernel⟩
theorem ks_J3_checkIndex_8e157 : Cond.static yJ3_checkIndex_8e157 ∈ BIG := bw784
section ST
variable {p : Program} {l : Launch} {e : Env} {R : Room} {s : State} {m : MethodId} {args : Array Value} {below : List Frame} {meth : Method} {c : Code} {H : Heap} {locs : List Loc} {cells slots : Nat} {Q : State → Prop}
variable {cc : ByteArray} {pc : Nat} {ls : Array Slot} {rest : List Value} {G : GT} {A : Nat → Prop} {ws : va_W} {nL : Nat}
/-- behind a call that has no cells of the caller's -/
theorem w_run0 {rv : Option Value} {st0 : List Value} {av : Array Value} (hS : va_S A s.heap H locs) (hA : ∀ q, s.heap.size ≤ q → A q)
    (hr : va_Run p l e R s m args below meth c H locs cells slots 0 0 (F0 m pc ls st0) rest (QV G rv [] (va_A [] H.size) av) (va_A [] H.size))
    (kk : ∀ (H1 : Heap) (locs1 : List Loc), (∀ q, q < H.size → H1[q]? = H[q]?) → va_S A s.heap H1 locs1 → W p l e R s m args below meth c H1 locs1 cells slots Q (F0 m (pc + 3) ls (rv.toList ++ rest))) : W p l e R s m args below meth c H locs cells slots Q (F0 m pc ls st0) := by
  intro T hT X
  have hF : ∀ q, va_A [] H.size q → A q := fun q h => by
    rcases h with ⟨k, e0, h⟩ | h
    · simp at h
    · exact hA q (Nat.le_trans hS.1 h)
  obtain ⟨v, st₀, t, T', L, h0, X', hL, e1, e2, ⟨⟨hv, hP1, hD1⟩, hz, hk⟩, st⟩ := hr T hT X
  cases hv
  rw [h0] at hz hk
  rw [← e1] at hz hk
  have hk2 : ∀ q, q < H.size → T'.heap[q]? = H[q]? := fun q h1 => hk q h1 (fun z => by
    rcases z with ⟨k, e0, h⟩ | h
    · simp at h
    · omega)
  obtain ⟨t2, a1, b1⟩ := kk T'.heap (locs ++ L) hk2
    ⟨Nat.le_trans hS.1 hz, fun q h1 h2 => by rw [hk2 q (Nat.lt_of_lt_of_le h1 hS.1)]; exact hS.2.1 q h1 h2, fun q hq => by
      rcases List.mem_append.mp hq with h | h
      · exact hS.2.2 q h
      · exact hF _ (hL q h)⟩ T' rfl X'
  exact ⟨t2, st t2 a1, b1⟩
theorem PRE_at0 (hK : va_K (gD G) vwCl (gT G) s) (hG : GL G A s s.heap) (hS : va_S A s.heap H locs) (hA : ∀ q, s.heap.size ≤ q → A q) (As : List Value) : ∀ U : State, U.heap = H → s.WarmedH U.vm → va_Pc As (PRE G [] H.size) As.toArray U := by
  intro U hU hW
  have hF : ∀ q, va_A [] H.size q → A q := fun q h => by
    rcases h with ⟨k, e0, h⟩ | h
    · simp at h
    · exact hA q (Nat.le_trans hS.1 h)
  refine ⟨rfl, by rw [hU], fun k q h => by simp at h, va_K.moved hW.alike hK, ⟨fun i j p q h => by simp at h, fun k q h => by simp at h⟩, ?_⟩
  rw [hU]
  exact ((hG.kept hS.2.1).narrow hF).warm hW
theorem w_callS0 {own : String} {index maxL n fr lo : Nat} {y : MethodName} {bytes : ByteArray} {ret : Option FieldType} {As : List Value} {rv : Option Value} {st0 : List Value}
    (hx : p.tables.exec = Jvm.exec) (hb : c.code = cc) (hml : c.maxLocals = nL) (hown : s.vm.findClass own = some m.cls) (hts : ∀ w ∈ BIG, w.before args s = true) (hK : va_K (gD G) vwCl (gT G) s) (hG : GL G A s s.heap) (hS : va_S A s.heap H locs) (hA : ∀ q, s.heap.size ≤ q → A q)
    (hM : CT G l y bytes maxL ret fr lo As [] [] rv) (kc : KC y bytes maxL ret n) (ki : Cond.static y ∈ BIG) (hl : Cond.methodLink own index y ∈ BIG)
    (hn0 : As.length = n) (hls : ls.size = nL) (hst : st0 = As.reverse ++ rest) (hr8 : (rest.map fun v => v.category).sum ≤ 8) (hdg : decode cc pc = .ok (.invokestatic index, 3)) (hf : fr + 1 ≤ R.frames) (ho : 8 + (maxL + 11) + lo ≤ R.locals) (hcs : cells ≤ R.cells ∧ slots ≤ R.slots)
    (kk : ∀ (H1 : Heap) (locs1 : List Loc), (∀ q, q < H.size → H1[q]? = H[q]?) → va_S A s.heap H1 locs1 → W p l e R s m args below meth c H1 locs1 cells slots Q (F0 m (pc + 3) ls (rv.toList ++ rest))) : W p l e R s m args below meth c H locs cells slots Q (F0 m pc ls st0) :=
  w_run0 hS hA (va_runS (As := As) (rest := rest) ⟨hx, hb, hml, hown, hts⟩ (hM H.size) ⟨KC_callB hts kc hl hf ho, hts _ ki⟩ ⟨PRE_blind G _ _ _, PRE_at0 hK hG hS hA As⟩ rfl hn0 hls hst (lv_room (m := m) (pc := pc) (ls := ls) (rest := st0) hr8) hdg hcs) kk
/-- a call of a method of a String constant -/
theorem w_callT {own : String} {index maxL n fr lo i : Nat} {y : MethodName} {bytes : ByteArray} {ret : Option FieldType} {As : List Value} {rv : Option Value} {st0 : List Value}
    (hx : p.tables.exec = Jvm.exec) (hb : c.code = cc) (hml : c.maxLocals = nL) (hown : s.vm.findClass own = some m.cls) (hts : ∀ w ∈ BIG, w.before args s = true) (hK : va_K (gD G) vwCl (gT G) s) (hG : GL G A s s.heap) (hS : va_S A s.heap H locs) (hA : ∀ q, s.heap.size ≤ q → A q) (hi : i < 5) (hyc : y.cls = "java/lang/String")
    (hM : CT G l y bytes maxL ret fr lo (.ref (gK G i) :: As) [] [] rv) (kc : KC y bytes maxL ret n) (ki : KI y) (hl : Cond.methodLink own index y ∈ BIG)
    (hn0 : As.length = n) (hls : ls.size = nL) (hst : st0 = As.reverse ++ .ref (gK G i) :: rest) (hr8 : (rest.map fun v => v.category).sum ≤ 8) (hdg : decode cc pc = .ok (.invokevirtual index, 3)) (hf : fr + 1 ≤ R.frames) (ho : 8 + (maxL + 11) + lo ≤ R.locals) (hcs : cells ≤ R.cells ∧ slots ≤ R.slots)
    (kk : ∀ (H1 : Heap) (locs1 : List Loc), (∀ q, q < H.size → H1[q]? = H[q]?) → va_S A s.heap H1 locs1 → W p l e R s m args below meth c H1 locs1 cells slots Q (F0 m (pc + 3) ls (rv.toList ++ rest))) : W p l e R s m args below meth c H locs cells slots Q (F0 m pc ls st0) :=
  w_run0 hS hA (va_runV (C := y.cls) (As := As) (b := gK G i) (rest := rest) ⟨hx, hb, hml, hown, hts⟩ (hM H.size) ⟨KC_callB hts kc hl hf ho, hts _ ki.1, hts _ ki.2⟩ ⟨PRE_blind G _ _ _, by rw [hyc]; exact vk_recv hG.2.2.2.2.1 hi hS, PRE_at0 hK hG hS hA (.ref (gK G i) :: As)⟩ rfl hn0 hls hst (lv_room (m := m) (pc := pc) (ls := ls) (rest := st0) hr8) hdg hcs) kk
end ST
set_option maxHeartbeats 4000000 in
set_option maxRecDepth 100000 in
theorem c_coder (G : GT) (l : Launch) (i : Nat) (hi : i < 5) : CT G l yJ0_coder_7d493 cJ0_coder_7d493 1 (some .byte) 0 0 [.ref (gK G i)] [] [] (some (.int 0)) := by
  refine ctN (G := G) (l := l) (y := yJ0_coder_7d493) (cc := cJ0_coder_7d493) (maxL := 1) (fr := 0) (lo := 0) (As := [.ref (gK G i)]) (res := ()) (fun _ => []) (fun _ => (0 : Int32)) (fun _ => rfl) (plainFor_of_name (by decide)) (Nat.le_of_ble_eq_true rfl) ?_
  intro p e s m below meth c A ls Q hx hb hml hown hts hK hG hA hP hD hS hl fin
  have hown : s.vm.findClass RJ0 = some m.cls := hown
  have hl : lv_has ls 1 [(0, .ref (gK G i))] := hl
  refine va_gets hx hb hG.2.2.1 hS hown (hts _ bw765) (fun _ h => h) dJ0_coder_7d493_0 ?_
  refine lv_if_eq (tgt := 13) hx hb dJ0_coder_7d493_3 (by decide) (fun h => absurd h (by decide)) (fun _ => ?_)
  refine lv_aload_n hx hb dJ0_coder_7d493_6 rfl (lv_at hl 0 rfl) ?_
  refine vk_getf hx hb (hG.2.2.2.2.1.1 i hi).2.1 hS hown (hts _ bw1514) (fun _ h => h) dJ0_coder_7d493_7 ?_
  refine lv_goto (tgt := 14) hx hb dJ0_coder_7d493_10 (by decide) ?_
  exact fin _ _ ls _ () rfl dJ0_coder_7d493_14 hP hD hS
set_option maxHeartbeats 4000000 in
set_option maxRecDepth 100000 in
theorem c_lat (G : GT) (l : Launch) (i : Nat) (hi : i < 5) : CT G l yJ0_isLatin1_aae02 cJ0_isLatin1_aae02 1 (some .boolean) 0 0 [.ref (gK G i)] [] [] (some (.int 1)) := by
  refine ctZ (G := G) (l := l) (y := yJ0_isLatin1_aae02) (cc := cJ0_isLatin1_aae02) (maxL := 1) (fr := 0) (lo := 0) (As := [.ref (gK G i)]) (res := ()) (fun _ => []) (fun _ => (1 : Int32)) (plainFor_of_name (by decide)) (Nat.le_of_ble_eq_true rfl) ?_
  intro p e s m below meth c A ls Q hx hb hml hown hts hK hG hA hP hD hS hl fin
  have hown : s.vm.findClass RJ0 = some m.cls := hown
  have hl : lv_has ls 1 [(0, .ref (gK G i))] := hl
  refine va_gets hx hb hG.2.2.1 hS hown (hts _ bw765) (fun _ h => h) dJ0_isLatin1_aae02_0 ?_
  refine lv_if_eq (tgt := 17) hx hb dJ0_isLatin1_aae02_3 (by decide) (fun h => absurd h (by decide)) (fun _ => ?_)
  refine lv_aload_n hx hb dJ0_isLatin1_aae02_6 rfl (lv_at hl 0 rfl) ?_
  refine vk_getf hx hb (hG.2.2.2.2.1.1 i hi).2.1 hS hown (hts _ bw1514) (fun _ h => h) dJ0_isLatin1_aae02_7 ?_
  refine lv_if_ne (tgt := 17) hx hb dJ0_isLatin1_aae02_10 (by decide) (fun h => absurd rfl h) (fun _ => ?_)
  refine lv_iconst (v := 1) hx hb dJ0_isLatin1_aae02_13 (by decide) ?_
  refine lv_goto (tgt := 18) hx hb dJ0_isLatin1_aae02_14 (by decide) ?_
  exact fin _ _ ls _ () rfl dJ0_isLatin1_aae02_18 (Or.inr rfl) hP hD hS
theorem ishr0 (n : Nat) (h : n < 2 ^ 31) : (Int32.ofNat n >>> ((0 : Int32) &&& 31)) = Int32.ofNat n := by
  have e : ((0 : Int32) &&& 31) = 0 := by decide
  rw [e]
  simp
set_option maxHeartbeats 4000000 in
set_option maxRecDepth 100000 in
theorem c_slen (G : GT) (l : Launch) (i : Nat) (hi : i < 5) : CT G l yJ0_length_8abf5 cJ0_length_8abf5 1 (some .int) 1 20 [.ref (gK G i)] [] [] (some (.int (Int32.ofNat (slen.getD i 0)))) := by
  refine ctI (G := G) (l := l) (y := yJ0_length_8abf5) (cc := cJ0_length_8abf5) (maxL := 1) (fr := 1) (lo := 20) (As := [.ref (gK G i)]) (res := ()) (fun _ => []) (fun _ => Int32.ofNat (slen.getD i 0)) (plainFor_of_name (by decide)) (Nat.le_of_ble_eq_true rfl) ?_
  intro p e s m below meth c A ls Q hx hb hml hown hts hK hG hA hP hD hS hl fin
  have hown : s.vm.findClass RJ0 = some m.cls := hown
  have hl : lv_has ls 1 [(0, .ref (gK G i))] := hl
  have h31 : slen.getD i 0 < 2 ^ 31 := by rcases (by omega : i = 0 ∨ i = 1 ∨ i = 2 ∨ i = 3 ∨ i = 4) with h | h | h | h | h <;> subst h <;> decide
  refine lv_aload_n hx hb dJ0_length_8abf5_0 rfl (lv_at hl 0 rfl) ?_
  refine vk_getf hx hb (hG.2.2.2.2.1.1 i hi).2.2.1 hS hown (hts _ bw1513) (fun _ h => h) dJ0_length_8abf5_1 ?_
  refine va_tlen (v := Int32.ofNat (slen.getD i 0)) hx hb (hG.2.2.2.2.1.1 i hi).2.2.2 hS rfl dJ0_length_8abf5_4 ?_
  refine lv_aload_n hx hb dJ0_length_8abf5_5 rfl (lv_at hl 0 rfl) ?_
  refine w_callT (As := []) (rest := [.int (Int32.ofNat (slen.getD i 0))]) hx hb hml hown hts hK hG hS hA hi rfl (c_coder G l i hi) kc_J0_coder_7d493 ki_J0_coder_7d493 bw761 rfl hl.1 rfl (Nat.le_of_ble_eq_true rfl) dJ0_length_8abf5_6 (Nat.le_of_ble_eq_true rfl) (Nat.le_of_ble_eq_true rfl) ⟨Nat.le_refl _, Nat.le_refl _⟩ (fun H locs hq hS => ?_)
  have hP : va_P (gD G) vwCl [] H := fun k q h => by simp at h
  refine lv_ishr hx hb dJ0_length_8abf5_9 ?_
  rw [ishr0 _ h31]
  exact fin _ _ ls _ () rfl dJ0_length_8abf5_10 hP hD hS
set_option maxHeartbeats 4000000 in
set_option maxRecDepth 100000 in
theorem c_pre (G : GT) (l : Launch) (j n : Int32) (fv : Value) (hfv : fv = .null ∨ ∃ t, fv = .ref t) (h0 : ¬ j < 0) (h1 : j < n) : CT G l yJ3_checkIndex_8e157 cJ3_checkIndex_8e157 3 (some .int) 0 0 [.int j, .int n, fv] [] [] (some (.int j)) := by
  refine ctI (G := G) (l := l) (y := yJ3_checkIndex_8e157) (cc := cJ3_checkIndex_8e157) (maxL := 3) (fr := 0) (lo := 0) (As := [.int j, .int n, fv]) (res := ()) (fun _ => []) (fun _ => j) (plainFor_of_name (by decide)) (by rcases hfv with rfl | ⟨t, rfl⟩ <;> exact Nat.le_of_ble_eq_true rfl) ?_
  intro p e s m below meth c A ls Q hx hb hml hown hts hK hG hA hP hD hS hl fin
  have hown : s.vm.findClass RJ3 = some m.cls := hown
  have hl : lv_has ls 3 [(0, .int j), (1, .int n), (2, fv)] := by rcases hfv with rfl | ⟨t, rfl⟩ <;> exact hl
  refine lv_iload_n hx hb dJ3_checkIndex_8e157_0 rfl (lv_at hl 0 rfl) ?_
  refine lv_if_lt (tgt := 9) hx hb dJ3_checkIndex_8e157_1 (by decide) (fun h => absurd h h0) (fun _ => ?_)
  refine lv_iload_n hx hb dJ3_checkIndex_8e157_4 rfl (lv_at hl 0 rfl) ?_
  refine lv_iload_n hx hb dJ3_checkIndex_8e157_5 rfl (lv_at hl 1 rfl) ?_
  refine lv_icmp_lt (tgt := 16) hx hb dJ3_checkIndex_8e157_6 (by decide) (fun _ => ?_) (fun h => absurd h1 h)
  refine lv_iload_n hx hb dJ3_checkIndex_8e157_16 rfl (lv_at hl 0 rfl) ?_
  exact fin _ _ ls _ () rfl dJ3_checkIndex_8e157_17 hP hD hS
set_option maxHeartbeats 4000000 in
set_option maxRecDepth 100000 in
theorem c_chk (G : GT) (l : Launch) (j n : Int32) (h0 : ¬ j < 0) (h1 : j < n) : CT G l yJ0_checkIndex_df160 cJ0_checkIndex_df160 2 none 1 22 [.int j, .int n] [] [] none := by
  refine ctV (G := G) (l := l) (y := yJ0_checkIndex_df160) (cc := cJ0_checkIndex_df160) (maxL := 2) (fr := 1) (lo := 22) (As := [.int j, .int n]) (res := ()) (fun _ => []) (plainFor_of_name (by decide)) (Nat.le_of_ble_eq_true rfl) ?_
  intro p e s m below meth c A ls Q hx hb hml hown hts hK hG hA hP hD hS hl fin
  have hown : s.vm.findClass RJ0 = some m.cls := hown
  have hl : lv_has ls 2 [(0, .int j), (1, .int n)] := hl
  refine lv_iload_n hx hb dJ0_checkIndex_df160_0 rfl (lv_at hl 0 rfl) ?_
  refine lv_iload_n hx hb dJ0_checkIndex_df160_1 rfl (lv_at hl 1 rfl) ?_
  rcases hG.2.2.2.1 with hz | ⟨t, hz⟩
  · refine va_gets hx hb hz hS hown (hts _ bw781) (fun _ h => h) dJ0_checkIndex_df160_2 ?_
    refine w_callS0 (As := [.int j, .int n, .null]) (rest := []) hx hb hml hown hts hK hG hS hA (c_pre G l j n (.null) (Or.inl rfl) h0 h1) kc_J3_checkIndex_8e157 ks_J3_checkIndex_8e157 bw783 rfl hl.1 rfl (Nat.le_of_ble_eq_true rfl) dJ0_checkIndex_df160_5 (Nat.le_of_ble_eq_true rfl) (Nat.le_of_ble_eq_true rfl) ⟨Nat.le_refl _, Nat.le_refl _⟩ (fun H locs hq hS => ?_)
    have hP : va_P (gD G) vwCl [] H := fun k q h => by simp at h
    refine lv_pop hx hb dJ0_checkIndex_df160_8 rfl ?_
    exact fin _ _ ls _ () rfl dJ0_checkIndex_df160_9 hP hD hS
  · refine va_gets hx hb hz hS hown (hts _ bw781) (fun _ h => h) dJ0_checkIndex_df160_2 ?_
    refine w_callS0 (As := [.int j, .int n, .ref t]) (rest := []) hx hb hml hown hts hK hG hS hA (c_pre G l j n (.ref t) (Or.inr ⟨t, rfl⟩) h0 h1) kc_J3_checkIndex_8e157 ks_J3_checkIndex_8e157 bw783 rfl hl.1 rfl (Nat.le_of_ble_eq_true rfl) dJ0_checkIndex_df160_5 (Nat.le_of_ble_eq_true rfl) (Nat.le_of_ble_eq_true rfl) ⟨Nat.le_refl _, Nat.le_refl _⟩ (fun H locs hq hS => ?_)
    have hP : va_P (gD G) vwCl [] H := fun k q h => by simp at h
    refine lv_pop hx hb dJ0_checkIndex_df160_8 rfl ?_
    exact fin _ _ ls _ () rfl dJ0_checkIndex_df160_9 hP hD hS
theorem chr_ok : ∀ i, i < 5 → ∀ j, j < slen.getD i 0 → ((((sbyt.getD i []).getD j 0) &&& (255 : Int32)).toUInt32 % 65536).toInt32 = (sbyt.getD i []).getD j 0 ∧ narrow .char (.int ((sbyt.getD i []).getD j 0)) = .int ((sbyt.getD i []).getD j 0) := by decide +kernel
theorem in_lt {j : Int32} {n : Nat} (h : vp_in j n) (hn : n < 2 ^ 31) : ¬ j < 0 ∧ j < Int32.ofNat n := by
  refine ⟨fun q => h (Or.inl q), ?_⟩
  obtain ⟨h1, h2⟩ := vp_in_iff.mp h
  rw [Int32.lt_iff_toInt_lt, Int32.toInt_ofNat_small hn]
  exact h2
set_option maxHeartbeats 4000000 in
set_option maxRecDepth 100000 in
theorem c_l1 (G : GT) (l : Launch) (i : Nat) (j : Int32) (hi : i < 5) (hin : vp_in j (slen.getD i 0)) : CT G l yJ1_charAt_3b067 cJ1_charAt_3b067 2 (some .char) 2 43 [.ref (gV G i), .int j] [] [] (some (.int ((sbyt.getD i []).getD j.toNatClampNeg 0))) := by
  refine ctN (G := G) (l := l) (y := yJ1_charAt_3b067) (cc := cJ1_charAt_3b067) (maxL := 2) (fr := 2) (lo := 43) (As := [.ref (gV G i), .int j]) (res := ()) (fun _ => []) (fun _ => ((sbyt.getD i []).getD j.toNatClampNeg 0)) (fun _ => (chr_ok i hi j.toNatClampNeg (Nat.not_le.mp fun q => hin (Or.inr q))).2) (plainFor_of_name (by decide)) (Nat.le_of_ble_eq_true rfl) ?_
  intro p e s m below meth c A ls Q hx hb hml hown hts hK hG hA hP hD hS hl fin
  have hown : s.vm.findClass RJ1 = some m.cls := hown
  have h31 : slen.getD i 0 < 2 ^ 31 := by rcases (by omega : i = 0 ∨ i = 1 ∨ i = 2 ∨ i = 3 ∨ i = 4) with h | h | h | h | h <;> subst h <;> decide
  have hj := chr_ok i hi j.toNatClampNeg (Nat.not_le.mp fun q => hin (Or.inr q))
  have hl : lv_has ls 2 [(0, .ref (gV G i)), (1, .int j)] := hl
  refine lv_iload_n hx hb dJ1_charAt_3b067_0 rfl (lv_at hl 1 rfl) ?_
  refine lv_aload_n hx hb dJ1_charAt_3b067_1 rfl (lv_at hl 0 rfl) ?_
  refine va_tlen (v := Int32.ofNat (slen.getD i 0)) hx hb (hG.2.2.2.2.1.1 i hi).2.2.2 hS rfl dJ1_charAt_3b067_2 ?_
  refine w_callS0 (As := [.int j, .int (Int32.ofNat (slen.getD i 0))]) (rest := []) hx hb hml hown hts hK hG hS hA (c_chk G l j (Int32.ofNat (slen.getD i 0)) (in_lt hin h31).1 (in_lt hin h31).2) kc_J0_checkIndex_df160 ks_J0_checkIndex_df160 bw778 rfl hl.1 rfl (Nat.le_of_ble_eq_true rfl) dJ1_charAt_3b067_3 (Nat.le_of_ble_eq_true rfl) (Nat.le_of_ble_eq_true rfl) ⟨Nat.le_refl _, Nat.le_refl _⟩ (fun H locs hq hS => ?_)
  have hP : va_P (gD G) vwCl [] H := fun k q h => by simp at h
  refine lv_aload_n hx hb dJ1_charAt_3b067_6 rfl (lv_at hl 0 rfl) ?_
  refine lv_iload_n hx hb dJ1_charAt_3b067_7 rfl (lv_at hl 1 rfl) ?_
  refine va_tb (v := .int ((sbyt.getD i []).getD j.toNatClampNeg 0)) hx hb (hG.2.2.2.2.1.1 i hi).2.2.2 hS hin rfl dJ1_charAt_3b067_8 ?_
  refine lv_sipush (v := 255) hx hb dJ1_charAt_3b067_9 (by decide) ?_
  refine lv_iand hx hb dJ1_charAt_3b067_12 ?_
  refine lv_i2c (v := ((sbyt.getD i []).getD j.toNatClampNeg 0)) hx hb dJ1_charAt_3b067_13 hj.1 ?_
  exact fin _ _ ls _ () rfl dJ1_charAt_3b067_14 hP hD hS
set_option maxHeartbeats 4000000 in
set_option maxRecDepth 100000 in
theorem c_schar (G : GT) (l : Launch) (i : Nat) (j : Int32) (hi : i < 5) (hin : vp_in j (slen.getD i 0)) : CT G l yJ0_charAt_5068e cJ0_charAt_5068e 2 (some .char) 3 64 [.ref (gK G i), .int j] [] [] (some (.int ((sbyt.getD i []).getD j.toNatClampNeg 0))) := by
  refine ctN (G := G) (l := l) (y := yJ0_charAt_5068e) (cc := cJ0_charAt_5068e) (maxL := 2) (fr := 3) (lo := 64) (As := [.ref (gK G i), .int j]) (res := ()) (fun _ => []) (fun _ => ((sbyt.getD i []).getD j.toNatClampNeg 0)) (fun _ => (chr_ok i hi j.toNatClampNeg (Nat.not_le.mp fun q => hin (Or.inr q))).2) (plainFor_of_name (by decide)) (Nat.le_of_ble_eq_true rfl) ?_
  intro p e s m below meth c A ls Q hx hb hml hown hts hK hG hA hP hD hS hl fin
  have hown : s.vm.findClass RJ0 = some m.cls := hown
  have hl : lv_has ls 2 [(0, .ref (gK G i)), (1, .int j)] := hl
  refine lv_aload_n hx hb dJ0_charAt_5068e_0 rfl (lv_at hl 0 rfl) ?_
  refine w_callT (As := []) (rest := []) hx hb hml hown hts hK hG hS hA hi rfl (c_lat G l i hi) kc_J0_isLatin1_aae02 ki_J0_isLatin1_aae02 bw771 rfl hl.1 rfl (Nat.le_of_ble_eq_true rfl) dJ0_charAt_5068e_1 (Nat.le_of_ble_eq_true rfl) (Nat.le_of_ble_eq_true rfl) ⟨Nat.le_refl _, Nat.le_refl _⟩ (fun H locs hq hS => ?_)
  refine lv_if_eq (tgt := 16) hx hb dJ0_charAt_5068e_4 (by decide) (fun h => absurd h (by decide)) (fun _ => ?_)
  refine lv_aload_n hx hb dJ0_charAt_5068e_7 rfl (lv_at hl 0 rfl) ?_
  refine vk_getf hx hb (hG.2.2.2.2.1.1 i hi).2.2.1 hS hown (hts _ bw1513) (fun _ h => h) dJ0_charAt_5068e_8 ?_
  refine lv_iload_n hx hb dJ0_charAt_5068e_11 rfl (lv_at hl 1 rfl) ?_
  refine w_callS0 (As := [.ref (gV G i), .int j]) (rest := []) hx hb hml hown hts hK hG hS hA (c_l1 G l i j hi hin) kc_J1_charAt_3b067 ks_J1_charAt_3b067 bw775 rfl hl.1 rfl (Nat.le_of_ble_eq_true rfl) dJ0_charAt_5068e_12 (Nat.le_of_ble_eq_true rfl) (Nat.le_of_ble_eq_true rfl) ⟨Nat.le_refl _, Nat.le_refl _⟩ (fun H locs hq hS => ?_)
  have hP : va_P (gD G) vwCl [] H := fun k q h => by simp at h
  exact fin _ _ ls _ () rfl dJ0_charAt_5068e_15 hP hD hS
section ST2
variable {p : Program} {l : Launch} {e : Env} {R : Room} {s : State} {m : MethodId} {args : Array Value} {below : List Frame} {meth : Method} {c : Code} {H : Heap} {locs : List Loc} {cells slots : Nat} {Q : State → Prop}
variable {cc : ByteArray} {pc : Nat} {ls : Array Slot} {rest : List Value} {G : GT} {A : Nat → Prop} {ws : va_W} {nL : Nat}
variable {β : Type} {r : β}
theorem w_slen {own : String} {index i : Nat} (hx : p.tables.exec = Jvm.exec) (hb : c.code = cc) (hml : c.maxLocals = nL) (hls : ls.size = nL) (hts : ∀ w ∈ BIG, w.before args s = true) (hown : s.vm.findClass own = some m.cls) (hK : va_K (gD G) vwCl (gT G) s) (hl : Cond.methodLink own index yJ0_length_8abf5 ∈ BIG) (hG : GL G A s s.heap) (hP : va_P (gD G) vwCl ws H) (hD : va_D A ws) (hS : va_S A s.heap H locs) (hA : ∀ q, s.heap.size ≤ q → A q) (hi : i < 5) (hdg : decode cc pc = .ok (.invokevirtual index, 3)) (hr8 : (rest.map fun v => v.category).sum ≤ 8) (hf : 2 ≤ R.frames ∧ 40 ≤ R.locals) (hcs : cells ≤ R.cells ∧ slots ≤ R.slots)
    (kk : ∀ (H : Heap) (locs : List Loc), va_P (gD G) vwCl ws H → va_S A s.heap H locs → W p l e R s m args below meth c H locs cells slots Q (F0 m (pc + 3) ls (.int (Int32.ofNat (slen.getD i 0)) :: rest))) : W p l e R s m args below meth c H locs cells slots Q (F0 m pc ls (.ref (gK G i) :: rest)) :=
  w_callT (As := []) (rest := rest) hx hb hml hown hts hK hG hS hA hi rfl (c_slen G l i hi) kc_J0_length_8abf5 ki_J0_length_8abf5 hl rfl hls rfl hr8 hdg hf.1 hf.2 hcs (fun H1 locs1 hq hS => kk H1 locs1 (hP.kept (fun k q hk => hq q.1 ((hP k q hk).lt))) hS)
theorem w_schar {own : String} {index i : Nat} {j : Int32} {k : Int32 → Option β} (hx : p.tables.exec = Jvm.exec) (hb : c.code = cc) (hml : c.maxLocals = nL) (hls : ls.size = nL) (hts : ∀ w ∈ BIG, w.before args s = true) (hown : s.vm.findClass own = some m.cls) (hK : va_K (gD G) vwCl (gT G) s) (hl : Cond.methodLink own index yJ0_charAt_5068e ∈ BIG) (hG : GL G A s s.heap) (hP : va_P (gD G) vwCl ws H) (hD : va_D A ws) (hS : va_S A s.heap H locs) (hA : ∀ q, s.heap.size ≤ q → A q) (hi : i < 5) (hm : ag (fun j => (sbyt.getD i []).getD j 0) (slen.getD i 0) j k = some r) (hdg : decode cc pc = .ok (.invokevirtual index, 3)) (hr8 : (rest.map fun v => v.category).sum ≤ 8) (hf : 4 ≤ R.frames ∧ 85 ≤ R.locals) (hcs : cells ≤ R.cells ∧ slots ≤ R.slots)
    (kk : ∀ (v : Int32) (H : Heap) (locs : List Loc), k v = some r → va_P (gD G) vwCl ws H → va_S A s.heap H locs → W p l e R s m args below meth c H locs cells slots Q (F0 m (pc + 3) ls (.int v :: rest))) : W p l e R s m args below meth c H locs cells slots Q (F0 m pc ls (.int j :: .ref (gK G i) :: rest)) :=
  w_callT (As := [.int j]) (rest := rest) hx hb hml hown hts hK hG hS hA hi rfl (c_schar G l i j hi (ag_elim hm).1) kc_J0_charAt_5068e ki_J0_charAt_5068e hl rfl hls rfl hr8 hdg hf.1 hf.2 hcs (fun H1 locs1 hq hS => kk _ H1 locs1 (ag_elim hm).2 (hP.kept (fun k q hk => hq q.1 ((hP k q hk).lt))) hS)
end ST2
