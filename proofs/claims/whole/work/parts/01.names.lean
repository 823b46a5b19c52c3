-- ===== PART A: goes FIRST, ahead of the names: the tables' words, and 'selects' of the private methods out of them =====
/-- a private method of a class that the tables say can be made, by its rows of tables_1 -/
def lw_okq (q : MethodName × Nat) : Prop := (q.1.cls ≠ "java/lang/invoke/MethodHandle" ∧ q.1.cls ≠ "java/lang/invoke/VarHandle") ∧ Cond.instantiable q.1.cls q.2 ∈ tables_1 ∧ Cond.privateMethod q.1 ∈ tables_1 ∧ Cond.instanceMethod q.1 ∈ tables_1
theorem lw_p0 : lw_okq (⟨"DigOrder", "traitTold", "(II)I"⟩, 10) := ⟨⟨by decide +kernel, by decide +kernel⟩, List.mem_of_getElem? (i := 20) (by decide +kernel), List.mem_of_getElem? (i := 300) (by decide +kernel), List.mem_of_getElem? (i := 301) (by decide +kernel)⟩
theorem lw_p1 : lw_okq (⟨"DigOrder", "isPair", "(II)Z"⟩, 10) := ⟨⟨by decide +kernel, by decide +kernel⟩, List.mem_of_getElem? (i := 20) (by decide +kernel), List.mem_of_getElem? (i := 328) (by decide +kernel), List.mem_of_getElem? (i := 329) (by decide +kernel)⟩
theorem lw_p2 : lw_okq (⟨"DigOrder", "woven", "()LDigOrder$Web;"⟩, 10) := ⟨⟨by decide +kernel, by decide +kernel⟩, List.mem_of_getElem? (i := 20) (by decide +kernel), List.mem_of_getElem? (i := 352) (by decide +kernel), List.mem_of_getElem? (i := 353) (by decide +kernel)⟩
theorem lw_p3 : lw_okq (⟨"DigOrder$Web", "closeChains", "()V"⟩, 7) := ⟨⟨by decide +kernel, by decide +kernel⟩, List.mem_of_getElem? (i := 104) (by decide +kernel), List.mem_of_getElem? (i := 360) (by decide +kernel), List.mem_of_getElem? (i := 361) (by decide +kernel)⟩
theorem lw_p4 : lw_okq (⟨"DigOrder", "phasesInUse", "()I"⟩, 10) := ⟨⟨by decide +kernel, by decide +kernel⟩, List.mem_of_getElem? (i := 20) (by decide +kernel), List.mem_of_getElem? (i := 394) (by decide +kernel), List.mem_of_getElem? (i := 395) (by decide +kernel)⟩
theorem lw_p5 : lw_okq (⟨"DigOrder$Web", "stepsRound", "(I)I"⟩, 7) := ⟨⟨by decide +kernel, by decide +kernel⟩, List.mem_of_getElem? (i := 104) (by decide +kernel), List.mem_of_getElem? (i := 423) (by decide +kernel), List.mem_of_getElem? (i := 424) (by decide +kernel)⟩
theorem lw_p6 : lw_okq (⟨"DigOrder$Web", "rightAbove", "(I)I"⟩, 7) := ⟨⟨by decide +kernel, by decide +kernel⟩, List.mem_of_getElem? (i := 104) (by decide +kernel), List.mem_of_getElem? (i := 427) (by decide +kernel), List.mem_of_getElem? (i := 428) (by decide +kernel)⟩
theorem lw_p7 : lw_okq (⟨"DigOrder$Verdict", "write", "(III)V"⟩, 2) := ⟨⟨by decide +kernel, by decide +kernel⟩, List.mem_of_getElem? (i := 159) (by decide +kernel), List.mem_of_getElem? (i := 457) (by decide +kernel), List.mem_of_getElem? (i := 458) (by decide +kernel)⟩
theorem lw_p8 : lw_okq (⟨"DigOrder$Verdict", "findsBareFill", "(LDigOrder$Site;LDigOrder$Web;)Z"⟩, 2) := ⟨⟨by decide +kernel, by decide +kernel⟩, List.mem_of_getElem? (i := 159) (by decide +kernel), List.mem_of_getElem? (i := 461) (by decide +kernel), List.mem_of_getElem? (i := 462) (by decide +kernel)⟩
theorem lw_p9 : lw_okq (⟨"DigOrder$Verdict", "findsMixedPhases", "(LDigOrder$Site;LDigOrder$Web;)Z"⟩, 2) := ⟨⟨by decide +kernel, by decide +kernel⟩, List.mem_of_getElem? (i := 159) (by decide +kernel), List.mem_of_getElem? (i := 473) (by decide +kernel), List.mem_of_getElem? (i := 474) (by decide +kernel)⟩
theorem lw_p10 : lw_okq (⟨"DigOrder$Verdict", "findsCrossing", "(LDigOrder$Site;LDigOrder$Web;)Z"⟩, 2) := ⟨⟨by decide +kernel, by decide +kernel⟩, List.mem_of_getElem? (i := 159) (by decide +kernel), List.mem_of_getElem? (i := 490) (by decide +kernel), List.mem_of_getElem? (i := 491) (by decide +kernel)⟩
theorem lw_p11 : lw_okq (⟨"DigOrder", "isOver", "(II)Z"⟩, 10) := ⟨⟨by decide +kernel, by decide +kernel⟩, List.mem_of_getElem? (i := 20) (by decide +kernel), List.mem_of_getElem? (i := 521) (by decide +kernel), List.mem_of_getElem? (i := 522) (by decide +kernel)⟩
theorem lw_p12 : lw_okq (⟨"DigOrder", "phasesUnder", "(I)I"⟩, 10) := ⟨⟨by decide +kernel, by decide +kernel⟩, List.mem_of_getElem? (i := 20) (by decide +kernel), List.mem_of_getElem? (i := 530) (by decide +kernel), List.mem_of_getElem? (i := 531) (by decide +kernel)⟩
theorem lw_p13 : lw_okq (⟨"DigOrder", "middleOf", "(I)D"⟩, 10) := ⟨⟨by decide +kernel, by decide +kernel⟩, List.mem_of_getElem? (i := 20) (by decide +kernel), List.mem_of_getElem? (i := 546) (by decide +kernel), List.mem_of_getElem? (i := 547) (by decide +kernel)⟩
theorem lw_p14 : lw_okq (⟨"DigOrder", "ageOf", "(I)D"⟩, 10) := ⟨⟨by decide +kernel, by decide +kernel⟩, List.mem_of_getElem? (i := 20) (by decide +kernel), List.mem_of_getElem? (i := 568) (by decide +kernel), List.mem_of_getElem? (i := 569) (by decide +kernel)⟩
theorem lw_p15 : lw_okq (⟨"DigOrder", "lawfulOrders", "(LDigOrder$Site;)J"⟩, 10) := ⟨⟨by decide +kernel, by decide +kernel⟩, List.mem_of_getElem? (i := 20) (by decide +kernel), List.mem_of_getElem? (i := 595) (by decide +kernel), List.mem_of_getElem? (i := 596) (by decide +kernel)⟩
def lw_privs_1 : List (MethodName × Nat) := [(⟨"DigOrder", "traitTold", "(II)I"⟩, 10), (⟨"DigOrder", "isPair", "(II)Z"⟩, 10), (⟨"DigOrder", "woven", "()LDigOrder$Web;"⟩, 10), (⟨"DigOrder$Web", "closeChains", "()V"⟩, 7), (⟨"DigOrder", "phasesInUse", "()I"⟩, 10), (⟨"DigOrder$Web", "stepsRound", "(I)I"⟩, 7), (⟨"DigOrder$Web", "rightAbove", "(I)I"⟩, 7), (⟨"DigOrder$Verdict", "write", "(III)V"⟩, 2), (⟨"DigOrder$Verdict", "findsBareFill", "(LDigOrder$Site;LDigOrder$Web;)Z"⟩, 2), (⟨"DigOrder$Verdict", "findsMixedPhases", "(LDigOrder$Site;LDigOrder$Web;)Z"⟩, 2), (⟨"DigOrder$Verdict", "findsCrossing", "(LDigOrder$Site;LDigOrder$Web;)Z"⟩, 2), (⟨"DigOrder", "isOver", "(II)Z"⟩, 10), (⟨"DigOrder", "phasesUnder", "(I)I"⟩, 10), (⟨"DigOrder", "middleOf", "(I)D"⟩, 10), (⟨"DigOrder", "ageOf", "(I)D"⟩, 10), (⟨"DigOrder", "lawfulOrders", "(LDigOrder$Site;)J"⟩, 10)]
theorem lw_r1 : ∀ q ∈ lw_privs_1, lw_okq q := List.forall_mem_cons.mpr ⟨lw_p0, List.forall_mem_cons.mpr ⟨lw_p1, List.forall_mem_cons.mpr ⟨lw_p2, List.forall_mem_cons.mpr ⟨lw_p3, List.forall_mem_cons.mpr ⟨lw_p4, List.forall_mem_cons.mpr ⟨lw_p5, List.forall_mem_cons.mpr ⟨lw_p6, List.forall_mem_cons.mpr ⟨lw_p7, List.forall_mem_cons.mpr ⟨lw_p8, List.forall_mem_cons.mpr ⟨lw_p9, List.forall_mem_cons.mpr ⟨lw_p10, List.forall_mem_cons.mpr ⟨lw_p11, List.forall_mem_cons.mpr ⟨lw_p12, List.forall_mem_cons.mpr ⟨lw_p13, List.forall_mem_cons.mpr ⟨lw_p14, List.forall_mem_cons.mpr ⟨lw_p15, fun _ h => absurd h List.not_mem_nil⟩⟩⟩⟩⟩⟩⟩⟩⟩⟩⟩⟩⟩⟩⟩⟩
theorem lw_p16 : lw_okq (⟨"DigOrder$Ways", "fillTable", "()V"⟩, 3) := ⟨⟨by decide +kernel, by decide +kernel⟩, List.mem_of_getElem? (i := 142) (by decide +kernel), List.mem_of_getElem? (i := 608) (by decide +kernel), List.mem_of_getElem? (i := 609) (by decide +kernel)⟩
theorem lw_p17 : lw_okq (⟨"DigOrder$Ways", "sumOver", "(I)J"⟩, 3) := ⟨⟨by decide +kernel, by decide +kernel⟩, List.mem_of_getElem? (i := 142) (by decide +kernel), List.mem_of_getElem? (i := 612) (by decide +kernel), List.mem_of_getElem? (i := 613) (by decide +kernel)⟩
theorem lw_p18 : lw_okq (⟨"DigOrder$Ways", "isFree", "(II)Z"⟩, 3) := ⟨⟨by decide +kernel, by decide +kernel⟩, List.mem_of_getElem? (i := 142) (by decide +kernel), List.mem_of_getElem? (i := 624) (by decide +kernel), List.mem_of_getElem? (i := 625) (by decide +kernel)⟩
theorem lw_p19 : lw_okq (⟨"DigOrder$Words", "takeSentence", "()V"⟩, 8) := ⟨⟨by decide +kernel, by decide +kernel⟩, List.mem_of_getElem? (i := 174) (by decide +kernel), List.mem_of_getElem? (i := 658) (by decide +kernel), List.mem_of_getElem? (i := 659) (by decide +kernel)⟩
theorem lw_p20 : lw_okq (⟨"DigOrder$Words", "takeLetter", "()I"⟩, 8) := ⟨⟨by decide +kernel, by decide +kernel⟩, List.mem_of_getElem? (i := 174) (by decide +kernel), List.mem_of_getElem? (i := 662) (by decide +kernel), List.mem_of_getElem? (i := 663) (by decide +kernel)⟩
theorem lw_p21 : lw_okq (⟨"DigOrder$Words", "takeSign", "(I)V"⟩, 8) := ⟨⟨by decide +kernel, by decide +kernel⟩, List.mem_of_getElem? (i := 174) (by decide +kernel), List.mem_of_getElem? (i := 666) (by decide +kernel), List.mem_of_getElem? (i := 667) (by decide +kernel)⟩
theorem lw_p22 : lw_okq (⟨"DigOrder$Words", "takeVerb", "()I"⟩, 8) := ⟨⟨by decide +kernel, by decide +kernel⟩, List.mem_of_getElem? (i := 174) (by decide +kernel), List.mem_of_getElem? (i := 670) (by decide +kernel), List.mem_of_getElem? (i := 671) (by decide +kernel)⟩
theorem lw_p23 : lw_okq (⟨"DigOrder$Words", "verbOf", "(II)I"⟩, 8) := ⟨⟨by decide +kernel, by decide +kernel⟩, List.mem_of_getElem? (i := 174) (by decide +kernel), List.mem_of_getElem? (i := 674) (by decide +kernel), List.mem_of_getElem? (i := 675) (by decide +kernel)⟩
theorem lw_p24 : lw_okq (⟨"DigOrder$Words", "says", "(Ljava/lang/String;II)Z"⟩, 8) := ⟨⟨by decide +kernel, by decide +kernel⟩, List.mem_of_getElem? (i := 174) (by decide +kernel), List.mem_of_getElem? (i := 679) (by decide +kernel), List.mem_of_getElem? (i := 680) (by decide +kernel)⟩
theorem lw_p25 : lw_okq (⟨"DigOrder", "obeys", "(III)Z"⟩, 10) := ⟨⟨by decide +kernel, by decide +kernel⟩, List.mem_of_getElem? (i := 20) (by decide +kernel), List.mem_of_getElem? (i := 735) (by decide +kernel), List.mem_of_getElem? (i := 736) (by decide +kernel)⟩
theorem lw_p26 : lw_okq (⟨"DigOrder", "joinsPhase", "(II)Z"⟩, 10) := ⟨⟨by decide +kernel, by decide +kernel⟩, List.mem_of_getElem? (i := 20) (by decide +kernel), List.mem_of_getElem? (i := 739) (by decide +kernel), List.mem_of_getElem? (i := 740) (by decide +kernel)⟩
theorem lw_p27 : lw_okq (⟨"DigOrder$Sheet", "writeBetween", "(I)V"⟩, 2) := ⟨⟨by decide +kernel, by decide +kernel⟩, List.mem_of_getElem? (i := 211) (by decide +kernel), List.mem_of_getElem? (i := 755) (by decide +kernel), List.mem_of_getElem? (i := 756) (by decide +kernel)⟩
theorem lw_p28 : lw_okq (⟨"DigOrder$Sheet", "write", "(I)V"⟩, 2) := ⟨⟨by decide +kernel, by decide +kernel⟩, List.mem_of_getElem? (i := 211) (by decide +kernel), List.mem_of_getElem? (i := 759) (by decide +kernel), List.mem_of_getElem? (i := 760) (by decide +kernel)⟩
theorem lw_p29 : lw_okq (⟨"DigOrder$Sheet", "writeUnit", "(I)V"⟩, 2) := ⟨⟨by decide +kernel, by decide +kernel⟩, List.mem_of_getElem? (i := 211) (by decide +kernel), List.mem_of_getElem? (i := 763) (by decide +kernel), List.mem_of_getElem? (i := 764) (by decide +kernel)⟩
theorem lw_p30 : lw_okq (⟨"DigOrderModel", "isUnit", "(I)Z"⟩, 48) := ⟨⟨by decide +kernel, by decide +kernel⟩, List.mem_of_getElem? (i := 900) (by decide +kernel), List.mem_of_getElem? (i := 1061) (by decide +kernel), List.mem_of_getElem? (i := 1062) (by decide +kernel)⟩
theorem lw_p31 : lw_okq (⟨"DigOrderModel", "heldBy", "(II)I"⟩, 48) := ⟨⟨by decide +kernel, by decide +kernel⟩, List.mem_of_getElem? (i := 900) (by decide +kernel), List.mem_of_getElem? (i := 1068) (by decide +kernel), List.mem_of_getElem? (i := 1069) (by decide +kernel)⟩
def lw_privs_2 : List (MethodName × Nat) := [(⟨"DigOrder$Ways", "fillTable", "()V"⟩, 3), (⟨"DigOrder$Ways", "sumOver", "(I)J"⟩, 3), (⟨"DigOrder$Ways", "isFree", "(II)Z"⟩, 3), (⟨"DigOrder$Words", "takeSentence", "()V"⟩, 8), (⟨"DigOrder$Words", "takeLetter", "()I"⟩, 8), (⟨"DigOrder$Words", "takeSign", "(I)V"⟩, 8), (⟨"DigOrder$Words", "takeVerb", "()I"⟩, 8), (⟨"DigOrder$Words", "verbOf", "(II)I"⟩, 8), (⟨"DigOrder$Words", "says", "(Ljava/lang/String;II)Z"⟩, 8), (⟨"DigOrder", "obeys", "(III)Z"⟩, 10), (⟨"DigOrder", "joinsPhase", "(II)Z"⟩, 10), (⟨"DigOrder$Sheet", "writeBetween", "(I)V"⟩, 2), (⟨"DigOrder$Sheet", "write", "(I)V"⟩, 2), (⟨"DigOrder$Sheet", "writeUnit", "(I)V"⟩, 2), (⟨"DigOrderModel", "isUnit", "(I)Z"⟩, 48), (⟨"DigOrderModel", "heldBy", "(II)I"⟩, 48)]
theorem lw_r2 : ∀ q ∈ lw_privs_2, lw_okq q := List.forall_mem_cons.mpr ⟨lw_p16, List.forall_mem_cons.mpr ⟨lw_p17, List.forall_mem_cons.mpr ⟨lw_p18, List.forall_mem_cons.mpr ⟨lw_p19, List.forall_mem_cons.mpr ⟨lw_p20, List.forall_mem_cons.mpr ⟨lw_p21, List.forall_mem_cons.mpr ⟨lw_p22, List.forall_mem_cons.mpr ⟨lw_p23, List.forall_mem_cons.mpr ⟨lw_p24, List.forall_mem_cons.mpr ⟨lw_p25, List.forall_mem_cons.mpr ⟨lw_p26, List.forall_mem_cons.mpr ⟨lw_p27, List.forall_mem_cons.mpr ⟨lw_p28, List.forall_mem_cons.mpr ⟨lw_p29, List.forall_mem_cons.mpr ⟨lw_p30, List.forall_mem_cons.mpr ⟨lw_p31, fun _ h => absurd h List.not_mem_nil⟩⟩⟩⟩⟩⟩⟩⟩⟩⟩⟩⟩⟩⟩⟩⟩
theorem lw_p32 : lw_okq (⟨"DigOrderModel", "lays", "(III)V"⟩, 48) := ⟨⟨by decide +kernel, by decide +kernel⟩, List.mem_of_getElem? (i := 900) (by decide +kernel), List.mem_of_getElem? (i := 1072) (by decide +kernel), List.mem_of_getElem? (i := 1073) (by decide +kernel)⟩
theorem lw_p33 : lw_okq (⟨"DigOrderModel", "dugSet", "()I"⟩, 48) := ⟨⟨by decide +kernel, by decide +kernel⟩, List.mem_of_getElem? (i := 900) (by decide +kernel), List.mem_of_getElem? (i := 1080) (by decide +kernel), List.mem_of_getElem? (i := 1081) (by decide +kernel)⟩
theorem lw_p34 : lw_okq (⟨"DigOrderModel", "areTwo", "(II)Z"⟩, 48) := ⟨⟨by decide +kernel, by decide +kernel⟩, List.mem_of_getElem? (i := 900) (by decide +kernel), List.mem_of_getElem? (i := 1088) (by decide +kernel), List.mem_of_getElem? (i := 1089) (by decide +kernel)⟩
theorem lw_p35 : lw_okq (⟨"DigOrderModel", "tieAt", "(II)I"⟩, 48) := ⟨⟨by decide +kernel, by decide +kernel⟩, List.mem_of_getElem? (i := 900) (by decide +kernel), List.mem_of_getElem? (i := 1092) (by decide +kernel), List.mem_of_getElem? (i := 1093) (by decide +kernel)⟩
theorem lw_p36 : lw_okq (⟨"DigOrderModel", "drops", "(I)V"⟩, 48) := ⟨⟨by decide +kernel, by decide +kernel⟩, List.mem_of_getElem? (i := 900) (by decide +kernel), List.mem_of_getElem? (i := 1100) (by decide +kernel), List.mem_of_getElem? (i := 1101) (by decide +kernel)⟩
theorem lw_p37 : lw_okq (⟨"DigOrderModel", "works", "()V"⟩, 48) := ⟨⟨by decide +kernel, by decide +kernel⟩, List.mem_of_getElem? (i := 900) (by decide +kernel), List.mem_of_getElem? (i := 1108) (by decide +kernel), List.mem_of_getElem? (i := 1109) (by decide +kernel)⟩
theorem lw_p38 : lw_okq (⟨"DigOrderModel", "works", "(I)V"⟩, 48) := ⟨⟨by decide +kernel, by decide +kernel⟩, List.mem_of_getElem? (i := 900) (by decide +kernel), List.mem_of_getElem? (i := 1112) (by decide +kernel), List.mem_of_getElem? (i := 1113) (by decide +kernel)⟩
theorem lw_p39 : lw_okq (⟨"DigOrderModel", "reducedMany", "()I"⟩, 48) := ⟨⟨by decide +kernel, by decide +kernel⟩, List.mem_of_getElem? (i := 900) (by decide +kernel), List.mem_of_getElem? (i := 1119) (by decide +kernel), List.mem_of_getElem? (i := 1120) (by decide +kernel)⟩
theorem lw_p40 : lw_okq (⟨"DigOrderModel", "isReduced", "(I)Z"⟩, 48) := ⟨⟨by decide +kernel, by decide +kernel⟩, List.mem_of_getElem? (i := 900) (by decide +kernel), List.mem_of_getElem? (i := 1123) (by decide +kernel), List.mem_of_getElem? (i := 1124) (by decide +kernel)⟩
theorem lw_p41 : lw_okq (⟨"DigOrderModel", "isRound", "()Z"⟩, 48) := ⟨⟨by decide +kernel, by decide +kernel⟩, List.mem_of_getElem? (i := 900) (by decide +kernel), List.mem_of_getElem? (i := 1127) (by decide +kernel), List.mem_of_getElem? (i := 1128) (by decide +kernel)⟩
theorem lw_p42 : lw_okq (⟨"DigOrderModel", "round", "()I"⟩, 48) := ⟨⟨by decide +kernel, by decide +kernel⟩, List.mem_of_getElem? (i := 900) (by decide +kernel), List.mem_of_getElem? (i := 1131) (by decide +kernel), List.mem_of_getElem? (i := 1132) (by decide +kernel)⟩
theorem lw_p43 : lw_okq (⟨"DigOrderModel", "levelsOf", "()I"⟩, 48) := ⟨⟨by decide +kernel, by decide +kernel⟩, List.mem_of_getElem? (i := 900) (by decide +kernel), List.mem_of_getElem? (i := 1135) (by decide +kernel), List.mem_of_getElem? (i := 1136) (by decide +kernel)⟩
theorem lw_p44 : lw_okq (⟨"DigOrderModel", "phaseBits", "()I"⟩, 48) := ⟨⟨by decide +kernel, by decide +kernel⟩, List.mem_of_getElem? (i := 900) (by decide +kernel), List.mem_of_getElem? (i := 1142) (by decide +kernel), List.mem_of_getElem? (i := 1143) (by decide +kernel)⟩
theorem lw_p45 : lw_okq (⟨"DigOrderModel", "reducedOf", "(I)I"⟩, 48) := ⟨⟨by decide +kernel, by decide +kernel⟩, List.mem_of_getElem? (i := 900) (by decide +kernel), List.mem_of_getElem? (i := 1150) (by decide +kernel), List.mem_of_getElem? (i := 1151) (by decide +kernel)⟩
theorem lw_p46 : lw_okq (⟨"DigOrderModel", "shows", "()I"⟩, 48) := ⟨⟨by decide +kernel, by decide +kernel⟩, List.mem_of_getElem? (i := 900) (by decide +kernel), List.mem_of_getElem? (i := 1158) (by decide +kernel), List.mem_of_getElem? (i := 1159) (by decide +kernel)⟩
theorem lw_p47 : lw_okq (⟨"DigOrderModel", "proves", "()V"⟩, 48) := ⟨⟨by decide +kernel, by decide +kernel⟩, List.mem_of_getElem? (i := 900) (by decide +kernel), List.mem_of_getElem? (i := 1177) (by decide +kernel), List.mem_of_getElem? (i := 1178) (by decide +kernel)⟩
def lw_privs_3 : List (MethodName × Nat) := [(⟨"DigOrderModel", "lays", "(III)V"⟩, 48), (⟨"DigOrderModel", "dugSet", "()I"⟩, 48), (⟨"DigOrderModel", "areTwo", "(II)Z"⟩, 48), (⟨"DigOrderModel", "tieAt", "(II)I"⟩, 48), (⟨"DigOrderModel", "drops", "(I)V"⟩, 48), (⟨"DigOrderModel", "works", "()V"⟩, 48), (⟨"DigOrderModel", "works", "(I)V"⟩, 48), (⟨"DigOrderModel", "reducedMany", "()I"⟩, 48), (⟨"DigOrderModel", "isReduced", "(I)Z"⟩, 48), (⟨"DigOrderModel", "isRound", "()Z"⟩, 48), (⟨"DigOrderModel", "round", "()I"⟩, 48), (⟨"DigOrderModel", "levelsOf", "()I"⟩, 48), (⟨"DigOrderModel", "phaseBits", "()I"⟩, 48), (⟨"DigOrderModel", "reducedOf", "(I)I"⟩, 48), (⟨"DigOrderModel", "shows", "()I"⟩, 48), (⟨"DigOrderModel", "proves", "()V"⟩, 48)]
theorem lw_r3 : ∀ q ∈ lw_privs_3, lw_okq q := List.forall_mem_cons.mpr ⟨lw_p32, List.forall_mem_cons.mpr ⟨lw_p33, List.forall_mem_cons.mpr ⟨lw_p34, List.forall_mem_cons.mpr ⟨lw_p35, List.forall_mem_cons.mpr ⟨lw_p36, List.forall_mem_cons.mpr ⟨lw_p37, List.forall_mem_cons.mpr ⟨lw_p38, List.forall_mem_cons.mpr ⟨lw_p39, List.forall_mem_cons.mpr ⟨lw_p40, List.forall_mem_cons.mpr ⟨lw_p41, List.forall_mem_cons.mpr ⟨lw_p42, List.forall_mem_cons.mpr ⟨lw_p43, List.forall_mem_cons.mpr ⟨lw_p44, List.forall_mem_cons.mpr ⟨lw_p45, List.forall_mem_cons.mpr ⟨lw_p46, List.forall_mem_cons.mpr ⟨lw_p47, fun _ h => absurd h List.not_mem_nil⟩⟩⟩⟩⟩⟩⟩⟩⟩⟩⟩⟩⟩⟩⟩⟩
theorem lw_p48 : lw_okq (⟨"DigOrderModel", "faults", "(III)V"⟩, 48) := ⟨⟨by decide +kernel, by decide +kernel⟩, List.mem_of_getElem? (i := 900) (by decide +kernel), List.mem_of_getElem? (i := 1181) (by decide +kernel), List.mem_of_getElem? (i := 1182) (by decide +kernel)⟩
theorem lw_p49 : lw_okq (⟨"DigOrderModel", "isBare", "(I)Z"⟩, 48) := ⟨⟨by decide +kernel, by decide +kernel⟩, List.mem_of_getElem? (i := 900) (by decide +kernel), List.mem_of_getElem? (i := 1185) (by decide +kernel), List.mem_of_getElem? (i := 1186) (by decide +kernel)⟩
theorem lw_p50 : lw_okq (⟨"DigOrderModel", "reacher", "(II)I"⟩, 48) := ⟨⟨by decide +kernel, by decide +kernel⟩, List.mem_of_getElem? (i := 900) (by decide +kernel), List.mem_of_getElem? (i := 1189) (by decide +kernel), List.mem_of_getElem? (i := 1190) (by decide +kernel)⟩
theorem lw_p51 : lw_okq (⟨"DigOrderModel", "inPhase", "(I)I"⟩, 48) := ⟨⟨by decide +kernel, by decide +kernel⟩, List.mem_of_getElem? (i := 900) (by decide +kernel), List.mem_of_getElem? (i := 1193) (by decide +kernel), List.mem_of_getElem? (i := 1194) (by decide +kernel)⟩
theorem lw_p52 : lw_okq (⟨"DigOrderModel", "earliest", "(I)I"⟩, 48) := ⟨⟨by decide +kernel, by decide +kernel⟩, List.mem_of_getElem? (i := 900) (by decide +kernel), List.mem_of_getElem? (i := 1197) (by decide +kernel), List.mem_of_getElem? (i := 1198) (by decide +kernel)⟩
theorem lw_p53 : lw_okq (⟨"DigOrderModel", "latest", "(I)I"⟩, 48) := ⟨⟨by decide +kernel, by decide +kernel⟩, List.mem_of_getElem? (i := 900) (by decide +kernel), List.mem_of_getElem? (i := 1201) (by decide +kernel), List.mem_of_getElem? (i := 1202) (by decide +kernel)⟩
theorem lw_p54 : lw_okq (⟨"DigOrderModel", "isOver", "(II)Z"⟩, 48) := ⟨⟨by decide +kernel, by decide +kernel⟩, List.mem_of_getElem? (i := 900) (by decide +kernel), List.mem_of_getElem? (i := 1212) (by decide +kernel), List.mem_of_getElem? (i := 1213) (by decide +kernel)⟩
theorem lw_p55 : lw_okq (⟨"DigOrderModel", "middleOf", "(I)D"⟩, 48) := ⟨⟨by decide +kernel, by decide +kernel⟩, List.mem_of_getElem? (i := 900) (by decide +kernel), List.mem_of_getElem? (i := 1229) (by decide +kernel), List.mem_of_getElem? (i := 1230) (by decide +kernel)⟩
theorem lw_p56 : lw_okq (⟨"DigOrderModel", "ordersFrom", "(I)J"⟩, 48) := ⟨⟨by decide +kernel, by decide +kernel⟩, List.mem_of_getElem? (i := 900) (by decide +kernel), List.mem_of_getElem? (i := 1279) (by decide +kernel), List.mem_of_getElem? (i := 1280) (by decide +kernel)⟩
theorem lw_p57 : lw_okq (⟨"DigOrderModel", "counts", "()V"⟩, 48) := ⟨⟨by decide +kernel, by decide +kernel⟩, List.mem_of_getElem? (i := 900) (by decide +kernel), List.mem_of_getElem? (i := 1283) (by decide +kernel), List.mem_of_getElem? (i := 1284) (by decide +kernel)⟩
theorem lw_p58 : lw_okq (⟨"DigOrderModel", "isTaken", "(II)Z"⟩, 48) := ⟨⟨by decide +kernel, by decide +kernel⟩, List.mem_of_getElem? (i := 900) (by decide +kernel), List.mem_of_getElem? (i := 1295) (by decide +kernel), List.mem_of_getElem? (i := 1296) (by decide +kernel)⟩
theorem lw_p59 : lw_okq (⟨"DigOrderModel", "sentence", "(II)Z"⟩, 48) := ⟨⟨by decide +kernel, by decide +kernel⟩, List.mem_of_getElem? (i := 900) (by decide +kernel), List.mem_of_getElem? (i := 1311) (by decide +kernel), List.mem_of_getElem? (i := 1312) (by decide +kernel)⟩
theorem lw_p60 : lw_okq (⟨"DigOrderModel", "unitAt", "(III)Z"⟩, 48) := ⟨⟨by decide +kernel, by decide +kernel⟩, List.mem_of_getElem? (i := 900) (by decide +kernel), List.mem_of_getElem? (i := 1315) (by decide +kernel), List.mem_of_getElem? (i := 1316) (by decide +kernel)⟩
theorem lw_p61 : lw_okq (⟨"DigOrderModel", "here", "(I)I"⟩, 48) := ⟨⟨by decide +kernel, by decide +kernel⟩, List.mem_of_getElem? (i := 900) (by decide +kernel), List.mem_of_getElem? (i := 1319) (by decide +kernel), List.mem_of_getElem? (i := 1320) (by decide +kernel)⟩
theorem lw_p62 : lw_okq (⟨"DigOrderModel", "blank", "(I)Z"⟩, 48) := ⟨⟨by decide +kernel, by decide +kernel⟩, List.mem_of_getElem? (i := 900) (by decide +kernel), List.mem_of_getElem? (i := 1323) (by decide +kernel), List.mem_of_getElem? (i := 1324) (by decide +kernel)⟩
theorem lw_p63 : lw_okq (⟨"DigOrderModel", "verbAt", "(II)Z"⟩, 48) := ⟨⟨by decide +kernel, by decide +kernel⟩, List.mem_of_getElem? (i := 900) (by decide +kernel), List.mem_of_getElem? (i := 1327) (by decide +kernel), List.mem_of_getElem? (i := 1328) (by decide +kernel)⟩
def lw_privs_4 : List (MethodName × Nat) := [(⟨"DigOrderModel", "faults", "(III)V"⟩, 48), (⟨"DigOrderModel", "isBare", "(I)Z"⟩, 48), (⟨"DigOrderModel", "reacher", "(II)I"⟩, 48), (⟨"DigOrderModel", "inPhase", "(I)I"⟩, 48), (⟨"DigOrderModel", "earliest", "(I)I"⟩, 48), (⟨"DigOrderModel", "latest", "(I)I"⟩, 48), (⟨"DigOrderModel", "isOver", "(II)Z"⟩, 48), (⟨"DigOrderModel", "middleOf", "(I)D"⟩, 48), (⟨"DigOrderModel", "ordersFrom", "(I)J"⟩, 48), (⟨"DigOrderModel", "counts", "()V"⟩, 48), (⟨"DigOrderModel", "isTaken", "(II)Z"⟩, 48), (⟨"DigOrderModel", "sentence", "(II)Z"⟩, 48), (⟨"DigOrderModel", "unitAt", "(III)Z"⟩, 48), (⟨"DigOrderModel", "here", "(I)I"⟩, 48), (⟨"DigOrderModel", "blank", "(I)Z"⟩, 48), (⟨"DigOrderModel", "verbAt", "(II)Z"⟩, 48)]
theorem lw_r4 : ∀ q ∈ lw_privs_4, lw_okq q := List.forall_mem_cons.mpr ⟨lw_p48, List.forall_mem_cons.mpr ⟨lw_p49, List.forall_mem_cons.mpr ⟨lw_p50, List.forall_mem_cons.mpr ⟨lw_p51, List.forall_mem_cons.mpr ⟨lw_p52, List.forall_mem_cons.mpr ⟨lw_p53, List.forall_mem_cons.mpr ⟨lw_p54, List.forall_mem_cons.mpr ⟨lw_p55, List.forall_mem_cons.mpr ⟨lw_p56, List.forall_mem_cons.mpr ⟨lw_p57, List.forall_mem_cons.mpr ⟨lw_p58, List.forall_mem_cons.mpr ⟨lw_p59, List.forall_mem_cons.mpr ⟨lw_p60, List.forall_mem_cons.mpr ⟨lw_p61, List.forall_mem_cons.mpr ⟨lw_p62, List.forall_mem_cons.mpr ⟨lw_p63, fun _ h => absurd h List.not_mem_nil⟩⟩⟩⟩⟩⟩⟩⟩⟩⟩⟩⟩⟩⟩⟩⟩
theorem lw_p64 : lw_okq (⟨"DigOrderModel", "verbOf", "(II)I"⟩, 48) := ⟨⟨by decide +kernel, by decide +kernel⟩, List.mem_of_getElem? (i := 900) (by decide +kernel), List.mem_of_getElem? (i := 1331) (by decide +kernel), List.mem_of_getElem? (i := 1332) (by decide +kernel)⟩
theorem lw_p65 : lw_okq (⟨"DigOrderModel", "does", "(I)Z"⟩, 48) := ⟨⟨by decide +kernel, by decide +kernel⟩, List.mem_of_getElem? (i := 900) (by decide +kernel), List.mem_of_getElem? (i := 1335) (by decide +kernel), List.mem_of_getElem? (i := 1336) (by decide +kernel)⟩
theorem lw_p66 : lw_okq (⟨"DigOrderModel", "draws", "()V"⟩, 48) := ⟨⟨by decide +kernel, by decide +kernel⟩, List.mem_of_getElem? (i := 900) (by decide +kernel), List.mem_of_getElem? (i := 1344) (by decide +kernel), List.mem_of_getElem? (i := 1345) (by decide +kernel)⟩
theorem lw_p67 : lw_okq (⟨"DigOrderModel", "writes", "(I)V"⟩, 48) := ⟨⟨by decide +kernel, by decide +kernel⟩, List.mem_of_getElem? (i := 900) (by decide +kernel), List.mem_of_getElem? (i := 1348) (by decide +kernel), List.mem_of_getElem? (i := 1349) (by decide +kernel)⟩
theorem lw_p68 : lw_okq (⟨"DigOrderModel", "drawsCycle", "()V"⟩, 48) := ⟨⟨by decide +kernel, by decide +kernel⟩, List.mem_of_getElem? (i := 900) (by decide +kernel), List.mem_of_getElem? (i := 1352) (by decide +kernel), List.mem_of_getElem? (i := 1353) (by decide +kernel)⟩
theorem lw_p69 : lw_okq (⟨"DigOrderModel", "drawsLevels", "()V"⟩, 48) := ⟨⟨by decide +kernel, by decide +kernel⟩, List.mem_of_getElem? (i := 900) (by decide +kernel), List.mem_of_getElem? (i := 1356) (by decide +kernel), List.mem_of_getElem? (i := 1357) (by decide +kernel)⟩
theorem lw_p70 : lw_okq (⟨"DigOrderModel", "areSo", "()Z"⟩, 48) := ⟨⟨by decide +kernel, by decide +kernel⟩, List.mem_of_getElem? (i := 900) (by decide +kernel), List.mem_of_getElem? (i := 1372) (by decide +kernel), List.mem_of_getElem? (i := 1373) (by decide +kernel)⟩
theorem lw_p71 : lw_okq (⟨"DigOrderModel", "happens", "(III)I"⟩, 48) := ⟨⟨by decide +kernel, by decide +kernel⟩, List.mem_of_getElem? (i := 900) (by decide +kernel), List.mem_of_getElem? (i := 1384) (by decide +kernel), List.mem_of_getElem? (i := 1385) (by decide +kernel)⟩
theorem lw_p72 : lw_okq (⟨"DigOrderModel", "crossed", "()I"⟩, 48) := ⟨⟨by decide +kernel, by decide +kernel⟩, List.mem_of_getElem? (i := 900) (by decide +kernel), List.mem_of_getElem? (i := 1388) (by decide +kernel), List.mem_of_getElem? (i := 1389) (by decide +kernel)⟩
theorem lw_p73 : lw_okq (⟨"DigOrderModel", "carriesAll", "(Z)V"⟩, 48) := ⟨⟨by decide +kernel, by decide +kernel⟩, List.mem_of_getElem? (i := 900) (by decide +kernel), List.mem_of_getElem? (i := 1403) (by decide +kernel), List.mem_of_getElem? (i := 1404) (by decide +kernel)⟩
theorem lw_p74 : lw_okq (⟨"DigOrderModel", "carries", "([IIIZ)I"⟩, 48) := ⟨⟨by decide +kernel, by decide +kernel⟩, List.mem_of_getElem? (i := 900) (by decide +kernel), List.mem_of_getElem? (i := 1407) (by decide +kernel), List.mem_of_getElem? (i := 1408) (by decide +kernel)⟩
def lw_privs_5 : List (MethodName × Nat) := [(⟨"DigOrderModel", "verbOf", "(II)I"⟩, 48), (⟨"DigOrderModel", "does", "(I)Z"⟩, 48), (⟨"DigOrderModel", "draws", "()V"⟩, 48), (⟨"DigOrderModel", "writes", "(I)V"⟩, 48), (⟨"DigOrderModel", "drawsCycle", "()V"⟩, 48), (⟨"DigOrderModel", "drawsLevels", "()V"⟩, 48), (⟨"DigOrderModel", "areSo", "()Z"⟩, 48), (⟨"DigOrderModel", "happens", "(III)I"⟩, 48), (⟨"DigOrderModel", "crossed", "()I"⟩, 48), (⟨"DigOrderModel", "carriesAll", "(Z)V"⟩, 48), (⟨"DigOrderModel", "carries", "([IIIZ)I"⟩, 48)]
theorem lw_r5 : ∀ q ∈ lw_privs_5, lw_okq q := List.forall_mem_cons.mpr ⟨lw_p64, List.forall_mem_cons.mpr ⟨lw_p65, List.forall_mem_cons.mpr ⟨lw_p66, List.forall_mem_cons.mpr ⟨lw_p67, List.forall_mem_cons.mpr ⟨lw_p68, List.forall_mem_cons.mpr ⟨lw_p69, List.forall_mem_cons.mpr ⟨lw_p70, List.forall_mem_cons.mpr ⟨lw_p71, List.forall_mem_cons.mpr ⟨lw_p72, List.forall_mem_cons.mpr ⟨lw_p73, List.forall_mem_cons.mpr ⟨lw_p74, fun _ h => absurd h List.not_mem_nil⟩⟩⟩⟩⟩⟩⟩⟩⟩⟩⟩
def lw_privs : List (MethodName × Nat) := lw_privs_1 ++ (lw_privs_2 ++ (lw_privs_3 ++ (lw_privs_4 ++ (lw_privs_5))))
def lw_tbl : List Cond := k2_sels lw_privs ++ tables_1
theorem lw_privs_ok : ∀ q ∈ lw_privs, lw_okq q := by
  show ∀ q ∈ lw_privs_1 ++ (lw_privs_2 ++ (lw_privs_3 ++ (lw_privs_4 ++ (lw_privs_5)))), lw_okq q
  exact List.forall_mem_append.mpr ⟨lw_r1, List.forall_mem_append.mpr ⟨lw_r2, List.forall_mem_append.mpr ⟨lw_r3, List.forall_mem_append.mpr ⟨lw_r4, lw_r5⟩⟩⟩⟩
/-- the streams that the claim lets the run draw from -/
abbrev lw_cs : List Choice := [Jvm.Choice.named "NaN.bits"]
theorem lw_bits : nanBits ∈ lw_cs := by first | decide | exact List.mem_cons_self | simp [lw_cs, nanBits]

theorem goodIn_r {big : List Cond} (ws : List Cond) (ps : List Nat) (hp : ws = ps.filterMap (fun i => big[i]?)) (h : ws.all goodWord = true) : GoodIn big ws := by
  intro w hw
  have h1 := List.all_eq_true.mp h w hw
  rw [hp] at hw
  obtain ⟨i, -, hi⟩ := List.mem_filterMap.mp hw
  have hm : w ∈ big := by first | exact List.mem_of_getElem? hi | exact List.getElem?_mem hi
  exact ⟨hm, good_of_word h1⟩
theorem goodIn_app {big a b : List Cond} (ha : GoodIn big a) (hb : GoodIn big b) : GoodIn big (a ++ b) := fun w h => (List.mem_append.mp h).elim (ha w) (hb w)
theorem goodIn_ca {big a b : List Cond} {c : Cond} (ha : GoodIn big (c :: a)) (hb : GoodIn big b) : GoodIn big (c :: (a ++ b)) := fun w h => (List.mem_cons.mp h).elim (fun e => ha w (List.mem_cons.mpr (Or.inl e))) (fun h => (List.mem_append.mp h).elim (fun h => ha w (List.mem_cons.mpr (Or.inr h))) (hb w))
theorem goodIn_sub {big ws : List Cond} (hm : ∀ w ∈ ws, w ∈ big) (h : ws.all goodWord = true) : GoodIn big ws := fun w hw => ⟨hm w hw, good_of_word (List.all_eq_true.mp h w hw)⟩
def RX0 : String := "DigOrder$Reels"
def TX0 : u_T := fun k => match k with
  | 0 => ("DigOrder$Reels", "sort", "[I", true)
  | 1 => ("DigOrder$Reels", "length", "[I", true)
  | _ => ("DigOrder$Reels", "items", "[J", true)
def tyX0 : Nat → FieldType := fun k => match k with
  | 0 => .array .int
  | 1 => .array .int
  | _ => .array .long
abbrev wsX00 : List Cond := u_ws RX0 TX0 3
theorem nmX0 : ∀ a, a < 3 → ∀ b, b < 3 → a ≠ b → (TX0 a).2.1 ≠ (TX0 b).2.1 := by decide +kernel
theorem tyX0_ok : ∀ k, k < 3 → parseFieldDescriptor (TX0 k).2.2.1 = some (tyX0 k) := by decide +kernel
abbrev cX0_init : ByteArray := prog_2_method_1_code
def yX0_init : MethodName := ⟨RX0, "<init>", "()V"⟩
abbrev cX0_isTape : ByteArray := prog_2_method_2_code
def yX0_isTape : MethodName := ⟨RX0, "isTape", "(I)Z"⟩
abbrev cX0_isEmpty : ByteArray := prog_2_method_3_code
def yX0_isEmpty : MethodName := ⟨RX0, "isEmpty", "(I)Z"⟩
abbrev cX0_hasPlace : ByteArray := prog_2_method_4_code
def yX0_hasPlace : MethodName := ⟨RX0, "hasPlace", "(III)Z"⟩
abbrev cX0_clear : ByteArray := prog_2_method_5_code
def yX0_clear : MethodName := ⟨RX0, "clear", "(I)V"⟩
abbrev cX0_make : ByteArray := prog_2_method_6_code
def yX0_make : MethodName := ⟨RX0, "make", "(III)V"⟩
abbrev cX0_at : ByteArray := prog_2_method_7_code
def yX0_at : MethodName := ⟨RX0, "at", "(II)J"⟩
abbrev cX0_put : ByteArray := prog_2_method_8_code
def yX0_put : MethodName := ⟨RX0, "put", "(IIJ)V"⟩
abbrev cX0_cutDown : ByteArray := prog_2_method_9_code
def yX0_cutDown : MethodName := ⟨RX0, "cutDown", "(IJ)J"⟩
abbrev cX0_move : ByteArray := prog_2_method_10_code
def yX0_move : MethodName := ⟨RX0, "move", "(IIIII)V"⟩
def RX1 : String := "DigOrder$Sheet"
def TX1 : u_T := fun k => match k with
  | 0 => ("DigOrder$Sheet", "bytes", "[I", true)
  | _ => ("DigOrder$Sheet", "length", "I", false)
def tyX1 : Nat → FieldType := fun k => match k with
  | 0 => .array .int
  | _ => .int
abbrev wsX10 : List Cond := u_ws RX1 TX1 2
theorem nmX1 : ∀ a, a < 2 → ∀ b, b < 2 → a ≠ b → (TX1 a).2.1 ≠ (TX1 b).2.1 := by decide +kernel
theorem tyX1_ok : ∀ k, k < 2 → parseFieldDescriptor (TX1 k).2.2.1 = some (tyX1 k) := by decide +kernel
abbrev cX1_init : ByteArray := prog_3_method_1_code
def yX1_init : MethodName := ⟨RX1, "<init>", "()V"⟩
abbrev cX1_write : ByteArray := prog_3_method_2_code
def yX1_write : MethodName := ⟨RX1, "write", "(I)V"⟩
abbrev cX1_writeUnit : ByteArray := prog_3_method_3_code
def yX1_writeUnit : MethodName := ⟨RX1, "writeUnit", "(I)V"⟩
abbrev cX1_writeBetween : ByteArray := prog_3_method_4_code
def yX1_writeBetween : MethodName := ⟨RX1, "writeBetween", "(I)V"⟩
abbrev cX1_drawTies : ByteArray := prog_3_method_5_code
def yX1_drawTies : MethodName := ⟨RX1, "drawTies", "(LDigOrder$Web;)V"⟩
abbrev cX1_drawLevels : ByteArray := prog_3_method_6_code
def yX1_drawLevels : MethodName := ⟨RX1, "drawLevels", "(LDigOrder$Web;)V"⟩
abbrev cX1_drawCycle : ByteArray := prog_3_method_7_code
def yX1_drawCycle : MethodName := ⟨RX1, "drawCycle", "(LDigOrder$Web;)V"⟩
def RX2 : String := "DigOrder$Site"
def TX2 : u_T := fun k => match k with
  | 0 => ("DigOrder$Site", "units", "I", false)
  | 1 => ("DigOrder$Site", "ties", "I", false)
  | 2 => ("DigOrder$Site", "digs", "I", false)
  | 3 => ("DigOrder$Site", "sights", "I", false)
  | 4 => ("DigOrder$Site", "events", "I", false)
  | 5 => ("DigOrder$Site", "traits", "[I", true)
  | 6 => ("DigOrder$Site", "upper", "[I", true)
  | 7 => ("DigOrder$Site", "lower", "[I", true)
  | 8 => ("DigOrder$Site", "digRow", "[I", true)
  | 9 => ("DigOrder$Site", "heldUnit", "[I", true)
  | 10 => ("DigOrder$Site", "heldKind", "[I", true)
  | 11 => ("DigOrder$Site", "seenFirst", "[I", true)
  | 12 => ("DigOrder$Site", "seenSecond", "[I", true)
  | 13 => ("DigOrder$Site", "seenIs", "[Z", true)
  | 14 => ("DigOrder$Site", "eventWhat", "[I", true)
  | _ => ("DigOrder$Site", "eventUnit", "[I", true)
def tyX2 : Nat → FieldType := fun k => match k with
  | 0 => .int
  | 1 => .int
  | 2 => .int
  | 3 => .int
  | 4 => .int
  | 5 => .array .int
  | 6 => .array .int
  | 7 => .array .int
  | 8 => .array .int
  | 9 => .array .int
  | 10 => .array .int
  | 11 => .array .int
  | 12 => .array .int
  | 13 => .array .boolean
  | 14 => .array .int
  | _ => .array .int
abbrev wsX20 : List Cond := u_ws RX2 TX2 16
theorem nmX2 : ∀ a, a < 16 → ∀ b, b < 16 → a ≠ b → (TX2 a).2.1 ≠ (TX2 b).2.1 := by decide +kernel
theorem tyX2_ok : ∀ k, k < 16 → parseFieldDescriptor (TX2 k).2.2.1 = some (tyX2 k) := by decide +kernel
abbrev cX2_init : ByteArray := prog_4_method_1_code
def yX2_init : MethodName := ⟨RX2, "<init>", "()V"⟩
abbrev cX2_isUnit : ByteArray := prog_4_method_2_code
def yX2_isUnit : MethodName := ⟨RX2, "isUnit", "(I)Z"⟩
abbrev cX2_allUnits : ByteArray := prog_4_method_3_code
def yX2_allUnits : MethodName := ⟨RX2, "allUnits", "()I"⟩
abbrev cX2_trait : ByteArray := prog_4_method_4_code
def yX2_trait : MethodName := ⟨RX2, "trait", "(II)I"⟩
abbrev cX2_putTrait : ByteArray := prog_4_method_5_code
def yX2_putTrait : MethodName := ⟨RX2, "putTrait", "(III)V"⟩
abbrev cX2_addUnit : ByteArray := prog_4_method_6_code
def yX2_addUnit : MethodName := ⟨RX2, "addUnit", "(I)I"⟩
abbrev cX2_unitsOfPhase : ByteArray := prog_4_method_7_code
def yX2_unitsOfPhase : MethodName := ⟨RX2, "unitsOfPhase", "(I)I"⟩
abbrev cX2_tieNumber : ByteArray := prog_4_method_8_code
def yX2_tieNumber : MethodName := ⟨RX2, "tieNumber", "(II)I"⟩
abbrev cX2_tieTold : ByteArray := prog_4_method_9_code
def yX2_tieTold : MethodName := ⟨RX2, "tieTold", "(I)I"⟩
abbrev cX2_addTie : ByteArray := prog_4_method_10_code
def yX2_addTie : MethodName := ⟨RX2, "addTie", "(II)V"⟩
abbrev cX2_dropTie : ByteArray := prog_4_method_11_code
def yX2_dropTie : MethodName := ⟨RX2, "dropTie", "(I)V"⟩
abbrev cX2_dropTiesFrom : ByteArray := prog_4_method_12_code
def yX2_dropTiesFrom : MethodName := ⟨RX2, "dropTiesFrom", "(I)V"⟩
abbrev cX2_dugUnits : ByteArray := prog_4_method_13_code
def yX2_dugUnits : MethodName := ⟨RX2, "dugUnits", "()I"⟩
abbrev cX2_isDug : ByteArray := prog_4_method_14_code
def yX2_isDug : MethodName := ⟨RX2, "isDug", "(I)Z"⟩
abbrev cX2_addDug : ByteArray := prog_4_method_15_code
def yX2_addDug : MethodName := ⟨RX2, "addDug", "(I)V"⟩
abbrev cX2_addSeen : ByteArray := prog_4_method_16_code
def yX2_addSeen : MethodName := ⟨RX2, "addSeen", "(IIZ)V"⟩
abbrev cX2_addEvent : ByteArray := prog_4_method_17_code
def yX2_addEvent : MethodName := ⟨RX2, "addEvent", "(II)V"⟩
abbrev cX2_happen : ByteArray := prog_4_method_18_code
def yX2_happen : MethodName := ⟨RX2, "happen", "()V"⟩
abbrev cX2_become : ByteArray := prog_4_method_19_code
def yX2_become : MethodName := ⟨RX2, "become", "(LDigOrder$Site;)V"⟩
abbrev cX2_copyRow : ByteArray := prog_4_method_20_code
def yX2_copyRow : MethodName := ⟨RX2, "copyRow", "([I[I)V"⟩
def RX3 : String := "DigOrder$Verdict"
def TX3 : u_T := fun k => match k with
  | 0 => ("DigOrder$Verdict", "numbers", "[I", true)
  | _ => ("DigOrder$Verdict", "size", "I", false)
def tyX3 : Nat → FieldType := fun k => match k with
  | 0 => .array .int
  | _ => .int
abbrev wsX30 : List Cond := u_ws RX3 TX3 2
theorem nmX3 : ∀ a, a < 2 → ∀ b, b < 2 → a ≠ b → (TX3 a).2.1 ≠ (TX3 b).2.1 := by decide +kernel
theorem tyX3_ok : ∀ k, k < 2 → parseFieldDescriptor (TX3 k).2.2.1 = some (tyX3 k) := by decide +kernel
abbrev cX3_init : ByteArray := prog_5_method_1_code
def yX3_init : MethodName := ⟨RX3, "<init>", "()V"⟩
abbrev cX3_examine : ByteArray := prog_5_method_2_code
def yX3_examine : MethodName := ⟨RX3, "examine", "(LDigOrder$Site;LDigOrder$Web;)V"⟩
abbrev cX3_write : ByteArray := prog_5_method_3_code
def yX3_write : MethodName := ⟨RX3, "write", "(III)V"⟩
abbrev cX3_findsBareFill : ByteArray := prog_5_method_4_code
def yX3_findsBareFill : MethodName := ⟨RX3, "findsBareFill", "(LDigOrder$Site;LDigOrder$Web;)Z"⟩
abbrev cX3_findsMixedPhases : ByteArray := prog_5_method_5_code
def yX3_findsMixedPhases : MethodName := ⟨RX3, "findsMixedPhases", "(LDigOrder$Site;LDigOrder$Web;)Z"⟩
abbrev cX3_findsCrossing : ByteArray := prog_5_method_6_code
def yX3_findsCrossing : MethodName := ⟨RX3, "findsCrossing", "(LDigOrder$Site;LDigOrder$Web;)Z"⟩
def RX4 : String := "DigOrder$Ways"
def TX4 : u_T := fun k => match k with
  | 0 => ("DigOrder$Ways", "table", "[J", true)
  | 1 => ("DigOrder$Ways", "blockers", "[I", true)
  | _ => ("DigOrder$Ways", "left", "I", false)
def tyX4 : Nat → FieldType := fun k => match k with
  | 0 => .array .long
  | 1 => .array .int
  | _ => .int
abbrev wsX40 : List Cond := u_ws RX4 TX4 3
theorem nmX4 : ∀ a, a < 3 → ∀ b, b < 3 → a ≠ b → (TX4 a).2.1 ≠ (TX4 b).2.1 := by decide +kernel
theorem tyX4_ok : ∀ k, k < 3 → parseFieldDescriptor (TX4 k).2.2.1 = some (tyX4 k) := by decide +kernel
abbrev cX4_init : ByteArray := prog_6_method_1_code
def yX4_init : MethodName := ⟨RX4, "<init>", "()V"⟩
abbrev cX4_number : ByteArray := prog_6_method_2_code
def yX4_number : MethodName := ⟨RX4, "number", "([II)J"⟩
abbrev cX4_fillTable : ByteArray := prog_6_method_3_code
def yX4_fillTable : MethodName := ⟨RX4, "fillTable", "()V"⟩
abbrev cX4_sumOver : ByteArray := prog_6_method_4_code
def yX4_sumOver : MethodName := ⟨RX4, "sumOver", "(I)J"⟩
abbrev cX4_isFree : ByteArray := prog_6_method_5_code
def yX4_isFree : MethodName := ⟨RX4, "isFree", "(II)Z"⟩
abbrev cX4_unitOfOrder : ByteArray := prog_6_method_6_code
def yX4_unitOfOrder : MethodName := ⟨RX4, "unitOfOrder", "(JI)I"⟩
def RX5 : String := "DigOrder$Web"
def TX5 : u_T := fun k => match k with
  | 0 => ("DigOrder$Web", "units", "I", false)
  | 1 => ("DigOrder$Web", "under", "[I", true)
  | 2 => ("DigOrder$Web", "above", "[I", true)
  | 3 => ("DigOrder$Web", "reach", "[I", true)
  | 4 => ("DigOrder$Web", "levelRow", "[I", true)
  | 5 => ("DigOrder$Web", "shown", "[I", true)
  | _ => ("DigOrder$Web", "stepsBack", "[I", true)
def tyX5 : Nat → FieldType := fun k => match k with
  | 0 => .int
  | 1 => .array .int
  | 2 => .array .int
  | 3 => .array .int
  | 4 => .array .int
  | 5 => .array .int
  | _ => .array .int
abbrev wsX50 : List Cond := u_ws RX5 TX5 7
theorem nmX5 : ∀ a, a < 7 → ∀ b, b < 7 → a ≠ b → (TX5 a).2.1 ≠ (TX5 b).2.1 := by decide +kernel
theorem tyX5_ok : ∀ k, k < 7 → parseFieldDescriptor (TX5 k).2.2.1 = some (tyX5 k) := by decide +kernel
abbrev cX5_init : ByteArray := prog_7_method_1_code
def yX5_init : MethodName := ⟨RX5, "<init>", "()V"⟩
abbrev cX5_weave : ByteArray := prog_7_method_2_code
def yX5_weave : MethodName := ⟨RX5, "weave", "(LDigOrder$Site;I)V"⟩
abbrev cX5_closeChains : ByteArray := prog_7_method_3_code
def yX5_closeChains : MethodName := ⟨RX5, "closeChains", "()V"⟩
abbrev cX5_selfReachers : ByteArray := prog_7_method_4_code
def yX5_selfReachers : MethodName := ⟨RX5, "selfReachers", "()I"⟩
abbrev cX5_hasCycle : ByteArray := prog_7_method_5_code
def yX5_hasCycle : MethodName := ⟨RX5, "hasCycle", "()Z"⟩
abbrev cX5_reachersOf : ByteArray := prog_7_method_6_code
def yX5_reachersOf : MethodName := ⟨RX5, "reachersOf", "(I)I"⟩
abbrev cX5_reducedUnder : ByteArray := prog_7_method_7_code
def yX5_reducedUnder : MethodName := ⟨RX5, "reducedUnder", "(I)I"⟩
abbrev cX5_isReduced : ByteArray := prog_7_method_8_code
def yX5_isReduced : MethodName := ⟨RX5, "isReduced", "(II)Z"⟩
abbrev cX5_reducedTies : ByteArray := prog_7_method_9_code
def yX5_reducedTies : MethodName := ⟨RX5, "reducedTies", "()I"⟩
abbrev cX5_rankLevels : ByteArray := prog_7_method_10_code
def yX5_rankLevels : MethodName := ⟨RX5, "rankLevels", "()I"⟩
abbrev cX5_showCycle : ByteArray := prog_7_method_11_code
def yX5_showCycle : MethodName := ⟨RX5, "showCycle", "()I"⟩
abbrev cX5_stepsRound : ByteArray := prog_7_method_12_code
def yX5_stepsRound : MethodName := ⟨RX5, "stepsRound", "(I)I"⟩
abbrev cX5_rightAbove : ByteArray := prog_7_method_13_code
def yX5_rightAbove : MethodName := ⟨RX5, "rightAbove", "(I)I"⟩
abbrev cX5_leastOf : ByteArray := prog_7_method_14_code
def yX5_leastOf : MethodName := ⟨RX5, "leastOf", "(I)I"⟩
abbrev cX5_agrees : ByteArray := prog_7_method_15_code
def yX5_agrees : MethodName := ⟨RX5, "agrees", "(LDigOrder$Site;)Z"⟩
abbrev cX5_phaseReaches : ByteArray := prog_7_method_16_code
def yX5_phaseReaches : MethodName := ⟨RX5, "phaseReaches", "(LDigOrder$Site;II)Z"⟩
abbrev cX5_firstOfPhaseReaching : ByteArray := prog_7_method_17_code
def yX5_firstOfPhaseReaching : MethodName := ⟨RX5, "firstOfPhaseReaching", "(LDigOrder$Site;II)I"⟩
abbrev cX5_earliest : ByteArray := prog_7_method_18_code
def yX5_earliest : MethodName := ⟨RX5, "earliest", "(LDigOrder$Site;I)I"⟩
abbrev cX5_latest : ByteArray := prog_7_method_19_code
def yX5_latest : MethodName := ⟨RX5, "latest", "(LDigOrder$Site;I)I"⟩
abbrev cX5_crossing : ByteArray := prog_7_method_20_code
def yX5_crossing : MethodName := ⟨RX5, "crossing", "(LDigOrder$Site;)I"⟩
def RX6 : String := "DigOrder$Words"
def TX6 : u_T := fun k => match k with
  | 0 => ("DigOrder$Words", "text", "[I", true)
  | 1 => ("DigOrder$Words", "length", "I", false)
  | 2 => ("DigOrder$Words", "first", "[I", true)
  | 3 => ("DigOrder$Words", "verb", "[I", true)
  | 4 => ("DigOrder$Words", "second", "[I", true)
  | 5 => ("DigOrder$Words", "sentences", "I", false)
  | 6 => ("DigOrder$Words", "at", "I", false)
  | _ => ("DigOrder$Words", "fault", "I", false)
def tyX6 : Nat → FieldType := fun k => match k with
  | 0 => .array .int
  | 1 => .int
  | 2 => .array .int
  | 3 => .array .int
  | 4 => .array .int
  | 5 => .int
  | 6 => .int
  | _ => .int
abbrev wsX60 : List Cond := u_ws RX6 TX6 8
theorem nmX6 : ∀ a, a < 8 → ∀ b, b < 8 → a ≠ b → (TX6 a).2.1 ≠ (TX6 b).2.1 := by decide +kernel
theorem tyX6_ok : ∀ k, k < 8 → parseFieldDescriptor (TX6 k).2.2.1 = some (tyX6 k) := by decide +kernel
abbrev cX6_init : ByteArray := prog_8_method_1_code
def yX6_init : MethodName := ⟨RX6, "<init>", "()V"⟩
abbrev cX6_parse : ByteArray := prog_8_method_2_code
def yX6_parse : MethodName := ⟨RX6, "parse", "()I"⟩
abbrev cX6_takeSentence : ByteArray := prog_8_method_3_code
def yX6_takeSentence : MethodName := ⟨RX6, "takeSentence", "()V"⟩
abbrev cX6_takeSign : ByteArray := prog_8_method_4_code
def yX6_takeSign : MethodName := ⟨RX6, "takeSign", "(I)V"⟩
abbrev cX6_takeLetter : ByteArray := prog_8_method_5_code
def yX6_takeLetter : MethodName := ⟨RX6, "takeLetter", "()I"⟩
abbrev cX6_takeVerb : ByteArray := prog_8_method_6_code
def yX6_takeVerb : MethodName := ⟨RX6, "takeVerb", "()I"⟩
abbrev cX6_verbOf : ByteArray := prog_8_method_7_code
def yX6_verbOf : MethodName := ⟨RX6, "verbOf", "(II)I"⟩
abbrev cX6_says : ByteArray := prog_8_method_8_code
def yX6_says : MethodName := ⟨RX6, "says", "(Ljava/lang/String;II)Z"⟩
def RX7 : String := "DigOrder"
def TX7 : u_T := fun k => match k with
  | 0 => ("DigOrder", "site", "LDigOrder$Site;", true)
  | 1 => ("DigOrder", "picture", "LDigOrder$Site;", true)
  | 2 => ("DigOrder", "trial", "LDigOrder$Site;", true)
  | 3 => ("DigOrder", "pictured", "Z", false)
  | 4 => ("DigOrder", "web", "LDigOrder$Web;", true)
  | 5 => ("DigOrder", "ways", "LDigOrder$Ways;", true)
  | 6 => ("DigOrder", "verdict", "LDigOrder$Verdict;", true)
  | 7 => ("DigOrder", "words", "LDigOrder$Words;", true)
  | 8 => ("DigOrder", "sheet", "LDigOrder$Sheet;", true)
  | _ => ("DigOrder", "reels", "LDigOrder$Reels;", true)
def tyX7 : Nat → FieldType := fun k => match k with
  | 0 => .object "DigOrder$Site"
  | 1 => .object "DigOrder$Site"
  | 2 => .object "DigOrder$Site"
  | 3 => .boolean
  | 4 => .object "DigOrder$Web"
  | 5 => .object "DigOrder$Ways"
  | 6 => .object "DigOrder$Verdict"
  | 7 => .object "DigOrder$Words"
  | 8 => .object "DigOrder$Sheet"
  | _ => .object "DigOrder$Reels"
abbrev wsX70 : List Cond := u_ws RX7 TX7 10
theorem nmX7 : ∀ a, a < 10 → ∀ b, b < 10 → a ≠ b → (TX7 a).2.1 ≠ (TX7 b).2.1 := by decide +kernel
theorem tyX7_ok : ∀ k, k < 10 → parseFieldDescriptor (TX7 k).2.2.1 = some (tyX7 k) := by decide +kernel
abbrev cX7_init : ByteArray := prog_1_method_1_code
def yX7_init : MethodName := ⟨RX7, "<init>", "()V"⟩
abbrev cX7_unit : ByteArray := prog_1_method_2_code
def yX7_unit : MethodName := ⟨RX7, "unit", "(I)I"⟩
abbrev cX7_set : ByteArray := prog_1_method_3_code
def yX7_set : MethodName := ⟨RX7, "set", "(III)I"⟩
abbrev cX7_of : ByteArray := prog_1_method_4_code
def yX7_of : MethodName := ⟨RX7, "of", "(II)I"⟩
abbrev cX7_tie : ByteArray := prog_1_method_5_code
def yX7_tie : MethodName := ⟨RX7, "tie", "(II)I"⟩
abbrev cX7_untie : ByteArray := prog_1_method_6_code
def yX7_untie : MethodName := ⟨RX7, "untie", "(II)I"⟩
abbrev cX7_told : ByteArray := prog_1_method_7_code
def yX7_told : MethodName := ⟨RX7, "told", "(I)I"⟩
abbrev cX7_below : ByteArray := prog_1_method_8_code
def yX7_below : MethodName := ⟨RX7, "below", "(II)I"⟩
abbrev cX7_cycle : ByteArray := prog_1_method_9_code
def yX7_cycle : MethodName := ⟨RX7, "cycle", "(I)I"⟩
abbrev cX7_level : ByteArray := prog_1_method_10_code
def yX7_level : MethodName := ⟨RX7, "level", "(I)I"⟩
abbrev cX7_idle : ByteArray := prog_1_method_11_code
def yX7_idle : MethodName := ⟨RX7, "idle", "(I)I"⟩
abbrev cX7_proof : ByteArray := prog_1_method_12_code
def yX7_proof : MethodName := ⟨RX7, "proof", "(I)I"⟩
abbrev cX7_over : ByteArray := prog_1_method_13_code
def yX7_over : MethodName := ⟨RX7, "over", "(II)I"⟩
abbrev cX7_rank : ByteArray := prog_1_method_14_code
def yX7_rank : MethodName := ⟨RX7, "rank", "(I)I"⟩
abbrev cX7_bounds : ByteArray := prog_1_method_15_code
def yX7_bounds : MethodName := ⟨RX7, "bounds", "(II)I"⟩
abbrev cX7_middle : ByteArray := prog_1_method_16_code
def yX7_middle : MethodName := ⟨RX7, "middle", "(I)J"⟩
abbrev cX7_rate : ByteArray := prog_1_method_17_code
def yX7_rate : MethodName := ⟨RX7, "rate", "(I)I"⟩
abbrev cX7_age : ByteArray := prog_1_method_18_code
def yX7_age : MethodName := ⟨RX7, "age", "(II)J"⟩
abbrev cX7_dig : ByteArray := prog_1_method_19_code
def yX7_dig : MethodName := ⟨RX7, "dig", "(I)I"⟩
abbrev cX7_lay : ByteArray := prog_1_method_20_code
def yX7_lay : MethodName := ⟨RX7, "lay", "()I"⟩
abbrev cX7_dug : ByteArray := prog_1_method_21_code
def yX7_dug : MethodName := ⟨RX7, "dug", "(I)I"⟩
abbrev cX7_orders : ByteArray := prog_1_method_22_code
def yX7_orders : MethodName := ⟨RX7, "orders", "()J"⟩
abbrev cX7_order : ByteArray := prog_1_method_23_code
def yX7_order : MethodName := ⟨RX7, "order", "(JI)I"⟩
abbrev cX7_tray : ByteArray := prog_1_method_24_code
def yX7_tray : MethodName := ⟨RX7, "tray", "(III)I"⟩
abbrev cX7_held : ByteArray := prog_1_method_25_code
def yX7_held : MethodName := ⟨RX7, "held", "(III)I"⟩
abbrev cX7_feed : ByteArray := prog_1_method_26_code
def yX7_feed : MethodName := ⟨RX7, "feed", "(I)I"⟩
abbrev cX7_read : ByteArray := prog_1_method_27_code
def yX7_read : MethodName := ⟨RX7, "read", "()I"⟩
abbrev cX7_draw : ByteArray := prog_1_method_28_code
def yX7_draw : MethodName := ⟨RX7, "draw", "(I)I"⟩
abbrev cX7_paper : ByteArray := prog_1_method_29_code
def yX7_paper : MethodName := ⟨RX7, "paper", "(I)I"⟩
abbrev cX7_see : ByteArray := prog_1_method_30_code
def yX7_see : MethodName := ⟨RX7, "see", "(IIZ)I"⟩
abbrev cX7_fits : ByteArray := prog_1_method_31_code
def yX7_fits : MethodName := ⟨RX7, "fits", "(I)I"⟩
abbrev cX7_event : ByteArray := prog_1_method_32_code
def yX7_event : MethodName := ⟨RX7, "event", "(II)I"⟩
abbrev cX7_after : ByteArray := prog_1_method_33_code
def yX7_after : MethodName := ⟨RX7, "after", "(I)J"⟩
abbrev cX7_judge : ByteArray := prog_1_method_34_code
def yX7_judge : MethodName := ⟨RX7, "judge", "(II)I"⟩
abbrev cX7_image : ByteArray := prog_1_method_35_code
def yX7_image : MethodName := ⟨RX7, "image", "()I"⟩
abbrev cX7_undo : ByteArray := prog_1_method_36_code
def yX7_undo : MethodName := ⟨RX7, "undo", "()I"⟩
abbrev cX7_count : ByteArray := prog_1_method_37_code
def yX7_count : MethodName := ⟨RX7, "count", "(I)I"⟩
abbrev cX7_tape : ByteArray := prog_1_method_38_code
def yX7_tape : MethodName := ⟨RX7, "tape", "(III)I"⟩
abbrev cX7_item : ByteArray := prog_1_method_39_code
def yX7_item : MethodName := ⟨RX7, "item", "(IIJ)I"⟩
abbrev cX7_peek : ByteArray := prog_1_method_40_code
def yX7_peek : MethodName := ⟨RX7, "peek", "(II)J"⟩
abbrev cX7_shift : ByteArray := prog_1_method_41_code
def yX7_shift : MethodName := ⟨RX7, "shift", "(IIIII)I"⟩
abbrev cX7_hasBit : ByteArray := prog_1_method_42_code
def yX7_hasBit : MethodName := ⟨RX7, "hasBit", "(II)Z"⟩
abbrev cX7_isPhase : ByteArray := prog_1_method_43_code
def yX7_isPhase : MethodName := ⟨RX7, "isPhase", "(I)Z"⟩
abbrev cX7_isTray : ByteArray := prog_1_method_44_code
def yX7_isTray : MethodName := ⟨RX7, "isTray", "(I)Z"⟩
abbrev cX7_isPlace : ByteArray := prog_1_method_45_code
def yX7_isPlace : MethodName := ⟨RX7, "isPlace", "(I)Z"⟩
abbrev cX7_isCut : ByteArray := prog_1_method_46_code
def yX7_isCut : MethodName := ⟨RX7, "isCut", "(I)Z"⟩
abbrev cX7_isFill : ByteArray := prog_1_method_47_code
def yX7_isFill : MethodName := ⟨RX7, "isFill", "(I)Z"⟩
abbrev cX7_takes : ByteArray := prog_1_method_48_code
def yX7_takes : MethodName := ⟨RX7, "takes", "(II)Z"⟩
abbrev cX7_isPair : ByteArray := prog_1_method_49_code
def yX7_isPair : MethodName := ⟨RX7, "isPair", "(II)Z"⟩
abbrev cX7_traitTold : ByteArray := prog_1_method_50_code
def yX7_traitTold : MethodName := ⟨RX7, "traitTold", "(II)I"⟩
abbrev cX7_woven : ByteArray := prog_1_method_51_code
def yX7_woven : MethodName := ⟨RX7, "woven", "()LDigOrder$Web;"⟩
abbrev cX7_phasesInUse : ByteArray := prog_1_method_52_code
def yX7_phasesInUse : MethodName := ⟨RX7, "phasesInUse", "()I"⟩
abbrev cX7_isOver : ByteArray := prog_1_method_53_code
def yX7_isOver : MethodName := ⟨RX7, "isOver", "(II)Z"⟩
abbrev cX7_phasesUnder : ByteArray := prog_1_method_54_code
def yX7_phasesUnder : MethodName := ⟨RX7, "phasesUnder", "(I)I"⟩
abbrev cX7_middleOf : ByteArray := prog_1_method_55_code
def yX7_middleOf : MethodName := ⟨RX7, "middleOf", "(I)D"⟩
abbrev cX7_ageOf : ByteArray := prog_1_method_56_code
def yX7_ageOf : MethodName := ⟨RX7, "ageOf", "(I)D"⟩
abbrev cX7_lawfulOrders : ByteArray := prog_1_method_57_code
def yX7_lawfulOrders : MethodName := ⟨RX7, "lawfulOrders", "(LDigOrder$Site;)J"⟩
abbrev cX7_obeys : ByteArray := prog_1_method_58_code
def yX7_obeys : MethodName := ⟨RX7, "obeys", "(III)Z"⟩
abbrev cX7_joinsPhase : ByteArray := prog_1_method_59_code
def yX7_joinsPhase : MethodName := ⟨RX7, "joinsPhase", "(II)Z"⟩
abbrev cX7_bitsOfDouble : ByteArray := prog_1_method_60_code
def yX7_bitsOfDouble : MethodName := ⟨RX7, "bitsOfDouble", "(D)J"⟩
abbrev cX7_bitsOfFloat : ByteArray := prog_1_method_61_code
def yX7_bitsOfFloat : MethodName := ⟨RX7, "bitsOfFloat", "(F)I"⟩
def RX8 : String := "DigOrderModel"
def TX8 : u_T := fun k => match k with
  | 0 => ("DigOrderModel", "thrown", "I", false)
  | 1 => ("DigOrderModel", "units", "I", false)
  | 2 => ("DigOrderModel", "kinds", "[I", true)
  | 3 => ("DigOrderModel", "thicks", "[I", true)
  | 4 => ("DigOrderModel", "froms", "[I", true)
  | 5 => ("DigOrderModel", "tos", "[I", true)
  | 6 => ("DigOrderModel", "phases", "[I", true)
  | 7 => ("DigOrderModel", "ties", "I", false)
  | 8 => ("DigOrderModel", "aboves", "[I", true)
  | 9 => ("DigOrderModel", "belows", "[I", true)
  | 10 => ("DigOrderModel", "dug", "[I", true)
  | 11 => ("DigOrderModel", "dugMany", "I", false)
  | 12 => ("DigOrderModel", "under", "[I", true)
  | 13 => ("DigOrderModel", "over", "[I", true)
  | 14 => ("DigOrderModel", "reached", "[I", true)
  | 15 => ("DigOrderModel", "reaching", "[I", true)
  | 16 => ("DigOrderModel", "levels", "[I", true)
  | 17 => ("DigOrderModel", "shown", "[I", true)
  | 18 => ("DigOrderModel", "far", "[I", true)
  | 19 => ("DigOrderModel", "code", "I", false)
  | 20 => ("DigOrderModel", "cause", "I", false)
  | 21 => ("DigOrderModel", "last", "I", false)
  | 22 => ("DigOrderModel", "ways", "[J", true)
  | 23 => ("DigOrderModel", "trayUnit", "[I", true)
  | 24 => ("DigOrderModel", "trayKind", "[I", true)
  | 25 => ("DigOrderModel", "text", "[I", true)
  | 26 => ("DigOrderModel", "texted", "I", false)
  | 27 => ("DigOrderModel", "at", "I", false)
  | 28 => ("DigOrderModel", "fault", "I", false)
  | 29 => ("DigOrderModel", "sentences", "[I", true)
  | 30 => ("DigOrderModel", "verbs", "[I", true)
  | 31 => ("DigOrderModel", "paper", "[I", true)
  | 32 => ("DigOrderModel", "papered", "I", false)
  | 33 => ("DigOrderModel", "seen", "[I", true)
  | 34 => ("DigOrderModel", "seenMany", "I", false)
  | 35 => ("DigOrderModel", "events", "[I", true)
  | 36 => ("DigOrderModel", "eventMany", "I", false)
  | 37 => ("DigOrderModel", "wasAbove", "[I", true)
  | 38 => ("DigOrderModel", "wasBelow", "[I", true)
  | 39 => ("DigOrderModel", "wasFrom", "[I", true)
  | 40 => ("DigOrderModel", "wasTo", "[I", true)
  | 41 => ("DigOrderModel", "kept", "[I", true)
  | 42 => ("DigOrderModel", "numbers", "[I", true)
  | 43 => ("DigOrderModel", "hasImage", "Z", false)
  | 44 => ("DigOrderModel", "sorts", "[I", true)
  | 45 => ("DigOrderModel", "sizes", "[I", true)
  | 46 => ("DigOrderModel", "cells", "[J", true)
  | _ => ("DigOrderModel", "carried", "[J", true)
def tyX8 : Nat → FieldType := fun k => match k with
  | 0 => .int
  | 1 => .int
  | 2 => .array .int
  | 3 => .array .int
  | 4 => .array .int
  | 5 => .array .int
  | 6 => .array .int
  | 7 => .int
  | 8 => .array .int
  | 9 => .array .int
  | 10 => .array .int
  | 11 => .int
  | 12 => .array .int
  | 13 => .array .int
  | 14 => .array .int
  | 15 => .array .int
  | 16 => .array .int
  | 17 => .array .int
  | 18 => .array .int
  | 19 => .int
  | 20 => .int
  | 21 => .int
  | 22 => .array .long
  | 23 => .array .int
  | 24 => .array .int
  | 25 => .array .int
  | 26 => .int
  | 27 => .int
  | 28 => .int
  | 29 => .array .int
  | 30 => .array .int
  | 31 => .array .int
  | 32 => .int
  | 33 => .array .int
  | 34 => .int
  | 35 => .array .int
  | 36 => .int
  | 37 => .array .int
  | 38 => .array .int
  | 39 => .array .int
  | 40 => .array .int
  | 41 => .array .int
  | 42 => .array .int
  | 43 => .boolean
  | 44 => .array .int
  | 45 => .array .int
  | 46 => .array .long
  | _ => .array .long
abbrev wsX80 : List Cond := u_ws RX8 TX8 48
theorem nmX8 : ∀ a, a < 48 → ∀ b, b < 48 → a ≠ b → (TX8 a).2.1 ≠ (TX8 b).2.1 := by decide +kernel
theorem tyX8_ok : ∀ k, k < 48 → parseFieldDescriptor (TX8 k).2.2.1 = some (tyX8 k) := by decide +kernel
abbrev cX8_init : ByteArray := prog_10_method_1_code
def yX8_init : MethodName := ⟨RX8, "<init>", "()V"⟩
abbrev cX8_in : ByteArray := prog_10_method_3_code
def yX8_in : MethodName := ⟨RX8, "in", "(III)Z"⟩
abbrev cX8_isUnit : ByteArray := prog_10_method_4_code
def yX8_isUnit : MethodName := ⟨RX8, "isUnit", "(I)Z"⟩
abbrev cX8_areTwo : ByteArray := prog_10_method_5_code
def yX8_areTwo : MethodName := ⟨RX8, "areTwo", "(II)Z"⟩
abbrev cX8_isPhase : ByteArray := prog_10_method_6_code
def yX8_isPhase : MethodName := ⟨RX8, "isPhase", "(I)Z"⟩
abbrev cX8_has : ByteArray := prog_10_method_7_code
def yX8_has : MethodName := ⟨RX8, "has", "(II)Z"⟩
abbrev cX8_sizeOf : ByteArray := prog_10_method_8_code
def yX8_sizeOf : MethodName := ⟨RX8, "sizeOf", "(I)I"⟩
abbrev cX8_leastOf : ByteArray := prog_10_method_9_code
def yX8_leastOf : MethodName := ⟨RX8, "leastOf", "(I)I"⟩
abbrev cX8_unit : ByteArray := prog_10_method_10_code
def yX8_unit : MethodName := ⟨RX8, "unit", "(I)I"⟩
abbrev cX8_isSet : ByteArray := prog_10_method_11_code
def yX8_isSet : MethodName := ⟨RX8, "isSet", "(II)Z"⟩
abbrev cX8_heldBy : ByteArray := prog_10_method_12_code
def yX8_heldBy : MethodName := ⟨RX8, "heldBy", "(II)I"⟩
abbrev cX8_lays : ByteArray := prog_10_method_13_code
def yX8_lays : MethodName := ⟨RX8, "lays", "(III)V"⟩
abbrev cX8_set : ByteArray := prog_10_method_14_code
def yX8_set : MethodName := ⟨RX8, "set", "(III)I"⟩
abbrev cX8_dugSet : ByteArray := prog_10_method_15_code
def yX8_dugSet : MethodName := ⟨RX8, "dugSet", "()I"⟩
abbrev cX8_of : ByteArray := prog_10_method_16_code
def yX8_of : MethodName := ⟨RX8, "of", "(II)I"⟩
abbrev cX8_tieAt : ByteArray := prog_10_method_17_code
def yX8_tieAt : MethodName := ⟨RX8, "tieAt", "(II)I"⟩
abbrev cX8_tie : ByteArray := prog_10_method_18_code
def yX8_tie : MethodName := ⟨RX8, "tie", "(II)I"⟩
abbrev cX8_drops : ByteArray := prog_10_method_19_code
def yX8_drops : MethodName := ⟨RX8, "drops", "(I)V"⟩
abbrev cX8_untie : ByteArray := prog_10_method_20_code
def yX8_untie : MethodName := ⟨RX8, "untie", "(II)I"⟩
abbrev cX8_works : ByteArray := prog_10_method_21_code
def yX8_works : MethodName := ⟨RX8, "works", "(I)V"⟩
abbrev cX8_works_ : ByteArray := prog_10_method_22_code
def yX8_works_ : MethodName := ⟨RX8, "works", "()V"⟩
abbrev cX8_round : ByteArray := prog_10_method_23_code
def yX8_round : MethodName := ⟨RX8, "round", "()I"⟩
abbrev cX8_isRound : ByteArray := prog_10_method_24_code
def yX8_isRound : MethodName := ⟨RX8, "isRound", "()Z"⟩
abbrev cX8_isReduced : ByteArray := prog_10_method_25_code
def yX8_isReduced : MethodName := ⟨RX8, "isReduced", "(I)Z"⟩
abbrev cX8_reducedOf : ByteArray := prog_10_method_26_code
def yX8_reducedOf : MethodName := ⟨RX8, "reducedOf", "(I)I"⟩
abbrev cX8_reducedMany : ByteArray := prog_10_method_27_code
def yX8_reducedMany : MethodName := ⟨RX8, "reducedMany", "()I"⟩
abbrev cX8_levelsOf : ByteArray := prog_10_method_28_code
def yX8_levelsOf : MethodName := ⟨RX8, "levelsOf", "()I"⟩
abbrev cX8_phaseBits : ByteArray := prog_10_method_29_code
def yX8_phaseBits : MethodName := ⟨RX8, "phaseBits", "()I"⟩
abbrev cX8_told : ByteArray := prog_10_method_30_code
def yX8_told : MethodName := ⟨RX8, "told", "(I)I"⟩
abbrev cX8_below : ByteArray := prog_10_method_31_code
def yX8_below : MethodName := ⟨RX8, "below", "(II)I"⟩
abbrev cX8_shows : ByteArray := prog_10_method_32_code
def yX8_shows : MethodName := ⟨RX8, "shows", "()I"⟩
abbrev cX8_cycle : ByteArray := prog_10_method_33_code
def yX8_cycle : MethodName := ⟨RX8, "cycle", "(I)I"⟩
abbrev cX8_level : ByteArray := prog_10_method_34_code
def yX8_level : MethodName := ⟨RX8, "level", "(I)I"⟩
abbrev cX8_idle : ByteArray := prog_10_method_35_code
def yX8_idle : MethodName := ⟨RX8, "idle", "(I)I"⟩
abbrev cX8_earliest : ByteArray := prog_10_method_36_code
def yX8_earliest : MethodName := ⟨RX8, "earliest", "(I)I"⟩
abbrev cX8_latest : ByteArray := prog_10_method_37_code
def yX8_latest : MethodName := ⟨RX8, "latest", "(I)I"⟩
abbrev cX8_inPhase : ByteArray := prog_10_method_38_code
def yX8_inPhase : MethodName := ⟨RX8, "inPhase", "(I)I"⟩
abbrev cX8_reacher : ByteArray := prog_10_method_39_code
def yX8_reacher : MethodName := ⟨RX8, "reacher", "(II)I"⟩
abbrev cX8_faults : ByteArray := prog_10_method_40_code
def yX8_faults : MethodName := ⟨RX8, "faults", "(III)V"⟩
abbrev cX8_isBare : ByteArray := prog_10_method_41_code
def yX8_isBare : MethodName := ⟨RX8, "isBare", "(I)Z"⟩
abbrev cX8_proves : ByteArray := prog_10_method_42_code
def yX8_proves : MethodName := ⟨RX8, "proves", "()V"⟩
abbrev cX8_proof : ByteArray := prog_10_method_43_code
def yX8_proof : MethodName := ⟨RX8, "proof", "(I)I"⟩
abbrev cX8_isOver : ByteArray := prog_10_method_44_code
def yX8_isOver : MethodName := ⟨RX8, "isOver", "(II)Z"⟩
abbrev cX8_over : ByteArray := prog_10_method_45_code
def yX8_over : MethodName := ⟨RX8, "over", "(II)I"⟩
abbrev cX8_rank : ByteArray := prog_10_method_46_code
def yX8_rank : MethodName := ⟨RX8, "rank", "(I)I"⟩
abbrev cX8_bounds : ByteArray := prog_10_method_47_code
def yX8_bounds : MethodName := ⟨RX8, "bounds", "(II)I"⟩
abbrev cX8_middleOf : ByteArray := prog_10_method_48_code
def yX8_middleOf : MethodName := ⟨RX8, "middleOf", "(I)D"⟩
abbrev cX8_middle : ByteArray := prog_10_method_49_code
def yX8_middle : MethodName := ⟨RX8, "middle", "(I)J"⟩
abbrev cX8_rate : ByteArray := prog_10_method_50_code
def yX8_rate : MethodName := ⟨RX8, "rate", "(I)I"⟩
abbrev cX8_age : ByteArray := prog_10_method_51_code
def yX8_age : MethodName := ⟨RX8, "age", "(II)J"⟩
abbrev cX8_dig : ByteArray := prog_10_method_52_code
def yX8_dig : MethodName := ⟨RX8, "dig", "(I)I"⟩
abbrev cX8_lay : ByteArray := prog_10_method_53_code
def yX8_lay : MethodName := ⟨RX8, "lay", "()I"⟩
abbrev cX8_dug : ByteArray := prog_10_method_54_code
def yX8_dug : MethodName := ⟨RX8, "dug", "(I)I"⟩
abbrev cX8_counts : ByteArray := prog_10_method_55_code
def yX8_counts : MethodName := ⟨RX8, "counts", "()V"⟩
abbrev cX8_ordersFrom : ByteArray := prog_10_method_56_code
def yX8_ordersFrom : MethodName := ⟨RX8, "ordersFrom", "(I)J"⟩
abbrev cX8_orders : ByteArray := prog_10_method_57_code
def yX8_orders : MethodName := ⟨RX8, "orders", "()J"⟩
abbrev cX8_order : ByteArray := prog_10_method_58_code
def yX8_order : MethodName := ⟨RX8, "order", "(JI)I"⟩
abbrev cX8_isTaken : ByteArray := prog_10_method_59_code
def yX8_isTaken : MethodName := ⟨RX8, "isTaken", "(II)Z"⟩
abbrev cX8_tray : ByteArray := prog_10_method_60_code
def yX8_tray : MethodName := ⟨RX8, "tray", "(III)I"⟩
abbrev cX8_held : ByteArray := prog_10_method_61_code
def yX8_held : MethodName := ⟨RX8, "held", "(III)I"⟩
abbrev cX8_feed : ByteArray := prog_10_method_62_code
def yX8_feed : MethodName := ⟨RX8, "feed", "(I)I"⟩
abbrev cX8_here : ByteArray := prog_10_method_63_code
def yX8_here : MethodName := ⟨RX8, "here", "(I)I"⟩
abbrev cX8_verbOf : ByteArray := prog_10_method_64_code
def yX8_verbOf : MethodName := ⟨RX8, "verbOf", "(II)I"⟩
abbrev cX8_unitAt : ByteArray := prog_10_method_65_code
def yX8_unitAt : MethodName := ⟨RX8, "unitAt", "(III)Z"⟩
abbrev cX8_blank : ByteArray := prog_10_method_66_code
def yX8_blank : MethodName := ⟨RX8, "blank", "(I)Z"⟩
abbrev cX8_verbAt : ByteArray := prog_10_method_67_code
def yX8_verbAt : MethodName := ⟨RX8, "verbAt", "(II)Z"⟩
abbrev cX8_sentence : ByteArray := prog_10_method_68_code
def yX8_sentence : MethodName := ⟨RX8, "sentence", "(II)Z"⟩
abbrev cX8_does : ByteArray := prog_10_method_69_code
def yX8_does : MethodName := ⟨RX8, "does", "(I)Z"⟩
abbrev cX8_read : ByteArray := prog_10_method_70_code
def yX8_read : MethodName := ⟨RX8, "read", "()I"⟩
abbrev cX8_writes : ByteArray := prog_10_method_71_code
def yX8_writes : MethodName := ⟨RX8, "writes", "(I)V"⟩
abbrev cX8_draws : ByteArray := prog_10_method_72_code
def yX8_draws : MethodName := ⟨RX8, "draws", "()V"⟩
abbrev cX8_drawsLevels : ByteArray := prog_10_method_73_code
def yX8_drawsLevels : MethodName := ⟨RX8, "drawsLevels", "()V"⟩
abbrev cX8_drawsCycle : ByteArray := prog_10_method_74_code
def yX8_drawsCycle : MethodName := ⟨RX8, "drawsCycle", "()V"⟩
abbrev cX8_draw : ByteArray := prog_10_method_75_code
def yX8_draw : MethodName := ⟨RX8, "draw", "(I)I"⟩
abbrev cX8_paper : ByteArray := prog_10_method_76_code
def yX8_paper : MethodName := ⟨RX8, "paper", "(I)I"⟩
abbrev cX8_see : ByteArray := prog_10_method_77_code
def yX8_see : MethodName := ⟨RX8, "see", "(IIZ)I"⟩
abbrev cX8_areSo : ByteArray := prog_10_method_78_code
def yX8_areSo : MethodName := ⟨RX8, "areSo", "()Z"⟩
abbrev cX8_fits : ByteArray := prog_10_method_79_code
def yX8_fits : MethodName := ⟨RX8, "fits", "(I)I"⟩
abbrev cX8_event : ByteArray := prog_10_method_80_code
def yX8_event : MethodName := ⟨RX8, "event", "(II)I"⟩
abbrev cX8_crossed : ByteArray := prog_10_method_81_code
def yX8_crossed : MethodName := ⟨RX8, "crossed", "()I"⟩
abbrev cX8_happens : ByteArray := prog_10_method_82_code
def yX8_happens : MethodName := ⟨RX8, "happens", "(III)I"⟩
abbrev cX8_after : ByteArray := prog_10_method_83_code
def yX8_after : MethodName := ⟨RX8, "after", "(I)J"⟩
abbrev cX8_judge : ByteArray := prog_10_method_84_code
def yX8_judge : MethodName := ⟨RX8, "judge", "(II)I"⟩
abbrev cX8_carries : ByteArray := prog_10_method_85_code
def yX8_carries : MethodName := ⟨RX8, "carries", "([IIIZ)I"⟩
abbrev cX8_carriesAll : ByteArray := prog_10_method_86_code
def yX8_carriesAll : MethodName := ⟨RX8, "carriesAll", "(Z)V"⟩
abbrev cX8_image : ByteArray := prog_10_method_87_code
def yX8_image : MethodName := ⟨RX8, "image", "()I"⟩
abbrev cX8_undo : ByteArray := prog_10_method_88_code
def yX8_undo : MethodName := ⟨RX8, "undo", "()I"⟩
abbrev cX8_count : ByteArray := prog_10_method_89_code
def yX8_count : MethodName := ⟨RX8, "count", "(I)I"⟩
abbrev cX8_isTape : ByteArray := prog_10_method_90_code
def yX8_isTape : MethodName := ⟨RX8, "isTape", "(I)Z"⟩
abbrev cX8_tape : ByteArray := prog_10_method_91_code
def yX8_tape : MethodName := ⟨RX8, "tape", "(III)I"⟩
abbrev cX8_heldBy_ : ByteArray := prog_10_method_92_code
def yX8_heldBy_ : MethodName := ⟨RX8, "heldBy", "(IJ)J"⟩
abbrev cX8_item : ByteArray := prog_10_method_93_code
def yX8_item : MethodName := ⟨RX8, "item", "(IIJ)I"⟩
abbrev cX8_peek : ByteArray := prog_10_method_94_code
def yX8_peek : MethodName := ⟨RX8, "peek", "(II)J"⟩
abbrev cX8_shift : ByteArray := prog_10_method_95_code
def yX8_shift : MethodName := ⟨RX8, "shift", "(IIIII)I"⟩
def RJxe99ae : String := "java/lang/Double"
def TJxe99ae : u_T := fun k => match k with
  | _ => ("", "", "", false)
def tyJxe99ae : Nat → FieldType := fun k => match k with
  | _ => .int
abbrev wsJxe99ae0 : List Cond := u_ws RJxe99ae TJxe99ae 0
theorem nmJxe99ae : ∀ a, a < 0 → ∀ b, b < 0 → a ≠ b → (TJxe99ae a).2.1 ≠ (TJxe99ae b).2.1 := by decide +kernel
theorem tyJxe99ae_ok : ∀ k, k < 0 → parseFieldDescriptor (TJxe99ae k).2.2.1 = some (tyJxe99ae k) := by decide +kernel
abbrev cJxe99ae_isNaN_b9ae7 : ByteArray := prog_11_method_6_code
def yJxe99ae_isNaN_b9ae7 : MethodName := ⟨RJxe99ae, "isNaN", "(D)Z"⟩
abbrev cJxe99ae_doubleToLongBits_ccdee : ByteArray := prog_11_method_23_code
def yJxe99ae_doubleToLongBits_ccdee : MethodName := ⟨RJxe99ae, "doubleToLongBits", "(D)J"⟩
def RJxf58ca : String := "java/lang/Float"
def TJxf58ca : u_T := fun k => match k with
  | _ => ("", "", "", false)
def tyJxf58ca : Nat → FieldType := fun k => match k with
  | _ => .int
abbrev wsJxf58ca0 : List Cond := u_ws RJxf58ca TJxf58ca 0
theorem nmJxf58ca : ∀ a, a < 0 → ∀ b, b < 0 → a ≠ b → (TJxf58ca a).2.1 ≠ (TJxf58ca b).2.1 := by decide +kernel
theorem tyJxf58ca_ok : ∀ k, k < 0 → parseFieldDescriptor (TJxf58ca k).2.2.1 = some (tyJxf58ca k) := by decide +kernel
abbrev cJxf58ca_isNaN_12338 : ByteArray := prog_12_method_6_code
def yJxf58ca_isNaN_12338 : MethodName := ⟨RJxf58ca, "isNaN", "(F)Z"⟩
abbrev cJxf58ca_floatToIntBits_5c35a : ByteArray := prog_12_method_24_code
def yJxf58ca_floatToIntBits_5c35a : MethodName := ⟨RJxf58ca, "floatToIntBits", "(F)I"⟩
def RJ6 : String := "java/lang/Integer"
def TJ6 : u_T := fun k => match k with
  | _ => ("", "", "", false)
def tyJ6 : Nat → FieldType := fun k => match k with
  | _ => .int
abbrev wsJ60 : List Cond := u_ws RJ6 TJ6 0
theorem nmJ6 : ∀ a, a < 0 → ∀ b, b < 0 → a ≠ b → (TJ6 a).2.1 ≠ (TJ6 b).2.1 := by decide +kernel
theorem tyJ6_ok : ∀ k, k < 0 → parseFieldDescriptor (TJ6 k).2.2.1 = some (tyJ6 k) := by decide +kernel
abbrev cJ6_bitCount_0f7a4 : ByteArray := prog_13_method_49_code
def yJ6_bitCount_0f7a4 : MethodName := ⟨RJ6, "bitCount", "(I)I"⟩
def RJ9 : String := "java/lang/Math"
def TJ9 : u_T := fun k => match k with
  | _ => ("", "", "", false)
def tyJ9 : Nat → FieldType := fun k => match k with
  | _ => .int
abbrev wsJ90 : List Cond := u_ws RJ9 TJ9 0
theorem nmJ9 : ∀ a, a < 0 → ∀ b, b < 0 → a ≠ b → (TJ9 a).2.1 ≠ (TJ9 b).2.1 := by decide +kernel
theorem tyJ9_ok : ∀ k, k < 0 → parseFieldDescriptor (TJ9 k).2.2.1 = some (tyJ9 k) := by decide +kernel
abbrev cJ9_max_7cf53 : ByteArray := prog_14_method_65_code
def yJ9_max_7cf53 : MethodName := ⟨RJ9, "max", "(II)I"⟩
abbrev cJ9_min_7cf53 : ByteArray := prog_14_method_69_code
def yJ9_min_7cf53 : MethodName := ⟨RJ9, "min", "(II)I"⟩
def RJ0 : String := "java/lang/String"
def TJ0 : u_T := fun k => match k with
  | _ => ("", "", "", false)
def tyJ0 : Nat → FieldType := fun k => match k with
  | _ => .int
abbrev wsJ00 : List Cond := u_ws RJ0 TJ0 0
theorem nmJ0 : ∀ a, a < 0 → ∀ b, b < 0 → a ≠ b → (TJ0 a).2.1 ≠ (TJ0 b).2.1 := by decide +kernel
theorem tyJ0_ok : ∀ k, k < 0 → parseFieldDescriptor (TJ0 k).2.2.1 = some (tyJ0 k) := by decide +kernel
abbrev cJ0_length_8abf5 : ByteArray := prog_15_method_54_code
def yJ0_length_8abf5 : MethodName := ⟨RJ0, "length", "()I"⟩
abbrev cJ0_charAt_5068e : ByteArray := prog_15_method_56_code
def yJ0_charAt_5068e : MethodName := ⟨RJ0, "charAt", "(I)C"⟩
abbrev cJ0_coder_7d493 : ByteArray := prog_15_method_152_code
def yJ0_coder_7d493 : MethodName := ⟨RJ0, "coder", "()B"⟩
abbrev cJ0_isLatin1_aae02 : ByteArray := prog_15_method_154_code
def yJ0_isLatin1_aae02 : MethodName := ⟨RJ0, "isLatin1", "()Z"⟩
abbrev cJ0_checkIndex_df160 : ByteArray := prog_15_method_155_code
def yJ0_checkIndex_df160 : MethodName := ⟨RJ0, "checkIndex", "(II)V"⟩
def RJ1 : String := "java/lang/StringLatin1"
def TJ1 : u_T := fun k => match k with
  | _ => ("", "", "", false)
def tyJ1 : Nat → FieldType := fun k => match k with
  | _ => .int
abbrev wsJ10 : List Cond := u_ws RJ1 TJ1 0
theorem nmJ1 : ∀ a, a < 0 → ∀ b, b < 0 → a ≠ b → (TJ1 a).2.1 ≠ (TJ1 b).2.1 := by decide +kernel
theorem tyJ1_ok : ∀ k, k < 0 → parseFieldDescriptor (TJ1 k).2.2.1 = some (tyJ1 k) := by decide +kernel
abbrev cJ1_charAt_3b067 : ByteArray := prog_16_method_2_code
def yJ1_charAt_3b067 : MethodName := ⟨RJ1, "charAt", "([BI)C"⟩
def RJ2 : String := "java/lang/StringUTF16"
def TJ2 : u_T := fun k => match k with
  | _ => ("", "", "", false)
def tyJ2 : Nat → FieldType := fun k => match k with
  | _ => .int
abbrev wsJ20 : List Cond := u_ws RJ2 TJ2 0
theorem nmJ2 : ∀ a, a < 0 → ∀ b, b < 0 → a ≠ b → (TJ2 a).2.1 ≠ (TJ2 b).2.1 := by decide +kernel
theorem tyJ2_ok : ∀ k, k < 0 → parseFieldDescriptor (TJ2 k).2.2.1 = some (tyJ2 k) := by decide +kernel
abbrev cJ2_getChar_3b067 : ByteArray := prog_17_method_5_code
def yJ2_getChar_3b067 : MethodName := ⟨RJ2, "getChar", "([BI)C"⟩
abbrev cJ2_length_9d52b : ByteArray := prog_17_method_6_code
def yJ2_length_9d52b : MethodName := ⟨RJ2, "length", "([B)I"⟩
abbrev cJ2_charAt_3b067 : ByteArray := prog_17_method_83_code
def yJ2_charAt_3b067 : MethodName := ⟨RJ2, "charAt", "([BI)C"⟩
abbrev cJ2_checkIndex_2214a : ByteArray := prog_17_method_91_code
def yJ2_checkIndex_2214a : MethodName := ⟨RJ2, "checkIndex", "(I[B)V"⟩
def RJ10 : String := "java/lang/System"
def TJ10 : u_T := fun k => match k with
  | _ => ("", "", "", false)
def tyJ10 : Nat → FieldType := fun k => match k with
  | _ => .int
abbrev wsJ100 : List Cond := u_ws RJ10 TJ10 0
theorem nmJ10 : ∀ a, a < 0 → ∀ b, b < 0 → a ≠ b → (TJ10 a).2.1 ≠ (TJ10 b).2.1 := by decide +kernel
theorem tyJ10_ok : ∀ k, k < 0 → parseFieldDescriptor (TJ10 k).2.2.1 = some (tyJ10 k) := by decide +kernel
def RJ3 : String := "jdk/internal/util/Preconditions"
def TJ3 : u_T := fun k => match k with
  | _ => ("", "", "", false)
def tyJ3 : Nat → FieldType := fun k => match k with
  | _ => .int
abbrev wsJ30 : List Cond := u_ws RJ3 TJ3 0
theorem nmJ3 : ∀ a, a < 0 → ∀ b, b < 0 → a ≠ b → (TJ3 a).2.1 ≠ (TJ3 b).2.1 := by decide +kernel
theorem tyJ3_ok : ∀ k, k < 0 → parseFieldDescriptor (TJ3 k).2.2.1 = some (tyJ3 k) := by decide +kernel
abbrev cJ3_checkIndex_8e157 : ByteArray := prog_19_method_11_code
def yJ3_checkIndex_8e157 : MethodName := ⟨RJ3, "checkIndex", "(IILjava/util/function/BiFunction;)I"⟩
def RL : String := "DigOrderLaw"
abbrev cL_law : ByteArray := code
def yL_law : MethodName := ⟨RL, "law", "([I)Z"⟩
abbrev vwCl : List vw_C := [(RX0, TX0, 3), (RX1, TX1, 2), (RX2, TX2, 16), (RX3, TX3, 2), (RX4, TX4, 3), (RX5, TX5, 7), (RX6, TX6, 8), (RX7, TX7, 10), (RX8, TX8, 48)]

/-- the words that may go into a contract -/
def BIG : List Cond := lw_tbl.filter goodWord
theorem big_of {w : Cond} (i : Nat) (h : lw_tbl[i]? = some w) (g : goodWord w = true) : w ∈ BIG := List.mem_filter.mpr ⟨List.mem_of_getElem? h, g⟩
theorem big_all {ws : List Cond} (ps : List Nat) (hp : ws = ps.filterMap (fun i => lw_tbl[i]?)) (h : ws.all goodWord = true) : ∀ w ∈ ws, w ∈ BIG := by
  intro w hw
  have h1 := List.all_eq_true.mp h w hw
  rw [hp] at hw
  obtain ⟨i, -, hi⟩ := List.mem_filterMap.mp hw
  exact big_of i hi h1
theorem big_good {big : List Cond} (hb : ∀ w ∈ BIG, w ∈ big) : GoodIn big BIG := fun w hw => ⟨hb w hw, good_of_word (List.mem_filter.mp hw).2⟩
theorem uX0 : ∀ w ∈ wsX00, w ∈ BIG := big_all [310, 312, 314] (by decide +kernel) (by decide +kernel)
theorem uX1 : ∀ w ∈ wsX10, w ∈ BIG := big_all [295, 297] (by decide +kernel) (by decide +kernel)
theorem uX2 : ∀ w ∈ wsX20, w ∈ BIG := big_all [143, 145, 147, 149, 151, 153, 155, 157, 159, 161, 163, 165, 167, 169, 171, 173] (by decide +kernel) (by decide +kernel)
theorem uX3 : ∀ w ∈ wsX30, w ∈ BIG := big_all [243, 245] (by decide +kernel) (by decide +kernel)
theorem uX4 : ∀ w ∈ wsX40, w ∈ BIG := big_all [225, 227, 229] (by decide +kernel) (by decide +kernel)
theorem uX5 : ∀ w ∈ wsX50, w ∈ BIG := big_all [201, 203, 205, 207, 209, 211, 213] (by decide +kernel) (by decide +kernel)
theorem uX6 : ∀ w ∈ wsX60, w ∈ BIG := big_all [268, 270, 272, 274, 276, 278, 280, 282] (by decide +kernel) (by decide +kernel)
theorem uX7 : ∀ w ∈ wsX70, w ∈ BIG := big_all [327, 329, 331, 333, 335, 337, 339, 341, 343, 345] (by decide +kernel) (by decide +kernel)
theorem uX8 : ∀ w ∈ wsX80, w ∈ BIG := big_all [1027, 1029, 1031, 1033, 1035, 1037, 1039, 1041, 1043, 1045, 1047, 1049, 1051, 1053, 1055, 1057, 1059, 1061, 1063, 1065, 1067, 1069, 1071, 1073, 1075, 1077, 1079, 1081, 1083, 1085, 1087, 1089, 1091, 1093, 1095, 1097, 1099, 1101, 1103, 1105, 1107, 1109, 1111, 1113, 1115, 1117, 1119, 1121] (by decide +kernel) (by decide +kernel)
