/-! ===== BASE: one frame for all contracts ===== -/
/-! the words of the models: each step that may fail says so -/
def inb (i : Int32) (n : Nat) : Bool := !(decide (i < 0) || decide (n ≤ i.toNatClampNeg))
theorem inb_in {i : Int32} {n : Nat} (h : inb i n = true) : vp_in i n := by
  unfold inb at h
  intro q
  rcases q with q | q
  · simp [q] at h
  · simp [q] at h
theorem in_inb {i : Int32} {n : Nat} (h : vp_in i n) : inb i n = true := by
  unfold inb
  have h1 : ¬ i < 0 := fun q => h (Or.inl q)
  have h2 : ¬ n ≤ i.toNatClampNeg := fun q => h (Or.inr q)
  simp [h1, h2]
/-- a place of an array is read -/
def ag {α β : Type} (f : Nat → α) (n : Nat) (i : Int32) (k : α → Option β) : Option β := if inb i n = true then k (f i.toNatClampNeg) else none
/-- a place of an array is written -/
def au {β : Type} (f : Nat → Int32) (n : Nat) (i x : Int32) (k : (Nat → Int32) → Option β) : Option β := if inb i n = true then k (upd f i.toNatClampNeg x) else none
def al {β : Type} (f : Nat → Int64) (n : Nat) (i : Int32) (x : Int64) (k : (Nat → Int64) → Option β) : Option β := if inb i n = true then k (vp_updL f i.toNatClampNeg x) else none
def az {β : Type} (f : Nat → Int32) (n : Nat) (i x : Int32) (k : (Nat → Int32) → Option β) : Option β := if inb i n = true then k (upd f i.toNatClampNeg (vp_nar .boolean x)) else none
/-- a call -/
def cl {α β : Type} (m : Option α) (k : α → Option β) : Option β := match m with
  | some a => k a
  | none => none
/-- a number gets a name -/
def lt {α β : Type} (a : α) (k : α → Option β) : Option β := k a
/-- a place where ways meet -/
def jn {α β : Type} (r : α → Option β) (b : (α → Option β) → Option β) : Option β := b r
/-- a double, a float that is no NaN -/
def fgd {β : Type} (x : UInt64) (k : UInt64 → Option β) : Option β := if x &&& 0x7fffffffffffffff ≤ 0x7ff0000000000000 then k x else none
def fgf {β : Type} (x : UInt32) (k : UInt32 → Option β) : Option β := if x &&& 0x7fffffff ≤ 0x7f800000 then k x else none
/-- an answer that is 0 or 1 -/
def zg {β : Type} (v : Int32) (k : Option β) : Option β := if v = 0 ∨ v = 1 then k else none
/-- items are copied -/
def cpb (sp dp n : Int32) (n0 n1 : Nat) : Bool := !decide (sp < 0) && !decide (dp < 0) && !decide (n < 0) && decide (sp.toNatClampNeg + n.toNatClampNeg ≤ n0) && decide (dp.toNatClampNeg + n.toNatClampNeg ≤ n1)
def cpi {α β : Type} (f g : Nat → α) (n0 n1 : Nat) (sp dp n : Int32) (k : (Nat → α) → Option β) : Option β := if cpb sp dp n n0 n1 = true then k (va_cpy f g sp.toNatClampNeg dp.toNatClampNeg n.toNatClampNeg) else none
def cpz {β : Type} (f g : Nat → Int32) (n0 n1 : Nat) (sp dp n : Int32) (k : (Nat → Int32) → Option β) : Option β := if cpb sp dp n n0 n1 = true ∧ ∀ i, i < n.toNatClampNeg → f (sp.toNatClampNeg + i) = 0 ∨ f (sp.toNatClampNeg + i) = 1 then k (va_cpy f g sp.toNatClampNeg dp.toNatClampNeg n.toNatClampNeg) else none
theorem cl_elim {α β : Type} {m : Option α} {k : α → Option β} {r : β} (h : cl m k = some r) : ∃ a, m = some a ∧ k a = some r := by
  cases m with
  | none => cases h
  | some a => exact ⟨a, rfl, h⟩
theorem cpb_spec {sp dp n : Int32} {n0 n1 : Nat} (h : cpb sp dp n n0 n1 = true) : ¬ sp < 0 ∧ ¬ dp < 0 ∧ ¬ n < 0 ∧ sp.toNatClampNeg + n.toNatClampNeg ≤ n0 ∧ dp.toNatClampNeg + n.toNatClampNeg ≤ n1 := by
  unfold cpb at h
  simp only [Bool.and_eq_true, Bool.not_eq_true', decide_eq_false_iff_not, decide_eq_true_eq] at h
  exact ⟨h.1.1.1.1, h.1.1.1.2, h.1.1.2, h.1.2, h.2⟩
theorem jn_use {α β : Type} {r : α → Option β} {b : (α → Option β) → Option β} {res : β} {P : α → Prop} {Gl : Prop} (hm : jn r b = some res) (h1 : ∀ x, r x = some res → P x) (h2 : ∀ j : α → Option β, (∀ x, j x = some res → P x) → b j = some res → Gl) : Gl := h2 r h1 hm
/-! what every contract takes as given beside its cells -/
abbrev GT : Type := (Nat → ClassId) × (Nat → Nat → Nat) × ClassId × ClassId × ClassId × Nat × Nat × (Nat → Nat) × (Nat → Nat)
def gD (G : GT) : va_G := (G.1, G.2.1)
def gI (G : GT) : ClassId := G.2.2.1
def gJ (G : GT) : ClassId := G.2.2.2.1
def gZ (G : GT) : ClassId := G.2.2.2.2.1
def gL (G : GT) : Nat := G.2.2.2.2.2.1
def gG (G : GT) : Nat := G.2.2.2.2.2.2.1
def gK (G : GT) : Nat → Nat := G.2.2.2.2.2.2.2.1
def gV (G : GT) : Nat → Nat := G.2.2.2.2.2.2.2.2
def gT (G : GT) : List (ClassId × FieldType) := [(gI G, .int), (gJ G, .long), (gZ G, .boolean)]
def tabL : Nat → Int32 := fun j => ([0, 0, 0, 0, -1] : List Int32).getD j 0
def tabG : Nat → Int32 := fun j => ([5, 99, 2000, 2000, 5] : List Int32).getD j 0
def strs : List (Nat × String × Nat) := [(55, "over", 0), (61, "under", 1), (63, "cuts", 2), (65, "fills", 3), (67, "joins", 4)]
def slen : List Nat := [4, 5, 4, 5, 5]
def sbyt : List (List Int32) := [[111, 118, 101, 114], [117, 110, 100, 101, 114], [99, 117, 116, 115], [102, 105, 108, 108, 115], [106, 111, 105, 110, 115]]
def nestM : List (String × Nat × MethodName × String) := [("DigOrder", 30, ⟨"DigOrder$Web", "<init>", "()V"⟩, "DigOrder"), ("DigOrder", 37, ⟨"DigOrder$Ways", "<init>", "()V"⟩, "DigOrder"), ("DigOrder", 44, ⟨"DigOrder$Verdict", "<init>", "()V"⟩, "DigOrder"), ("DigOrder", 51, ⟨"DigOrder$Words", "<init>", "()V"⟩, "DigOrder"), ("DigOrder", 58, ⟨"DigOrder$Sheet", "<init>", "()V"⟩, "DigOrder"), ("DigOrder$Site", 84, ⟨"DigOrder", "hasBit", "(II)Z"⟩, "DigOrder"), ("DigOrder$Web", 49, ⟨"DigOrder", "hasBit", "(II)Z"⟩, "DigOrder"), ("DigOrder$Verdict", 55, ⟨"DigOrder", "isCut", "(I)Z"⟩, "DigOrder"), ("DigOrder$Verdict", 59, ⟨"DigOrder", "isFill", "(I)Z"⟩, "DigOrder"), ("DigOrder$Verdict", 80, ⟨"DigOrder$Web", "leastOf", "(I)I"⟩, "DigOrder"), ("DigOrder$Ways", 23, ⟨"DigOrder", "hasBit", "(II)Z"⟩, "DigOrder"), ("DigOrder$Sheet", 32, ⟨"DigOrder", "hasBit", "(II)Z"⟩, "DigOrder")]
def nestF : List (String × Nat × String × String × String × String) := [("DigOrder$Site", 66, "DigOrder", "LEAST", "[I", "DigOrder"), ("DigOrder$Site", 69, "DigOrder", "GREATEST", "[I", "DigOrder")]
def NW (U : State) : Prop := (∀ q ∈ nestM, va_Nw (.methodLinkNest q.1 q.2.1 q.2.2.1 q.2.2.2) U) ∧ ∀ q ∈ nestF, va_Nw (.fieldLinkNest q.1 q.2.1 q.2.2.1 q.2.2.2.1 q.2.2.2.2.1 q.2.2.2.2.2) U
def GL (G : GT) (A : Nat → Prop) (U : State) (H : Heap) : Prop :=
  (va_Z "DigOrder" "LEAST" "[I" (.ref (gL G)) A U H ∧ va_T .int (gL G) 5 (fun j => .int (tabL j)) A U H) ∧ (va_Z "DigOrder" "GREATEST" "[I" (.ref (gG G)) A U H ∧ va_T .int (gG G) 5 (fun j => .int (tabG j)) A U H) ∧
  va_Z "java/lang/String" "COMPACT_STRINGS" "Z" (.int 1) A U H ∧ va_Zq "jdk/internal/util/Preconditions" "SIOOBE_FORMATTER" "Ljava/util/function/BiFunction;" A U H ∧
  vk_S 5 slen sbyt (gK G) (gV G) A U H ∧ (∀ q ∈ strs, vk_R "DigOrder$Words" q.1 q.2.1 (gK G q.2.2) U) ∧ NW U
theorem NW.same {u U : State} (h : u.vm = U.vm) (n : NW u) : NW U := ⟨fun q hq => (n.1 q hq).same rfl h, fun q hq => (n.2 q hq).same rfl h⟩
theorem NW.warm {s U : State} (hW : s.WarmedH U.vm) (n : NW s) : NW U := ⟨fun q hq => va_Nw.warmM hW (n.1 q hq), fun q hq => va_Nw.warmF hW (n.2 q hq)⟩
theorem GL.kept {G : GT} {A : Nat → Prop} {U : State} {H H1 : Heap} (h : GL G A U H) (hq : ∀ a : Nat, a < H.size → ¬ A a → H1[a]? = H[a]?) : GL G A U H1 :=
  ⟨⟨h.1.1.kept hq, h.1.2.kept hq⟩, ⟨h.2.1.1.kept hq, h.2.1.2.kept hq⟩, h.2.2.1.kept hq, h.2.2.2.1.kept hq, h.2.2.2.2.1.kept hq, h.2.2.2.2.2⟩
theorem GL.narrow {G : GT} {A B : Nat → Prop} {U : State} {H : Heap} (h : GL G A U H) (hq : ∀ q, B q → A q) : GL G B U H :=
  ⟨⟨h.1.1.narrow hq, h.1.2.narrow hq⟩, ⟨h.2.1.1.narrow hq, h.2.1.2.narrow hq⟩, h.2.2.1.narrow hq, h.2.2.2.1.narrow hq, h.2.2.2.2.1.narrow hq, h.2.2.2.2.2⟩
theorem GL.warm {G : GT} {A : Nat → Prop} {s U : State} {H : Heap} (hW : s.WarmedH U.vm) (h : GL G A s H) : GL G A U H :=
  ⟨⟨h.1.1.moved hW.alike, h.1.2.moved hW.alike⟩, ⟨h.2.1.1.moved hW.alike, h.2.1.2.moved hW.alike⟩, h.2.2.1.moved hW.alike, h.2.2.2.1.moved hW.alike, h.2.2.2.2.1.moved hW.alike, fun q hq => (h.2.2.2.2.2.1 q hq).warm hW, h.2.2.2.2.2.2.warm hW⟩
theorem GL.same {G : GT} {A : Nat → Prop} {u U : State} {H : Heap} (hv : u.vm = U.vm) (h : GL G A u H) : GL G A U H := by
  have ha : u.vm.Alike U.vm := hv ▸ Vm.Alike.refl u.vm
  exact ⟨⟨h.1.1.moved ha, h.1.2.moved ha⟩, ⟨h.2.1.1.moved ha, h.2.1.2.moved ha⟩, h.2.2.1.moved ha, h.2.2.2.1.moved ha, h.2.2.2.2.1.moved ha, fun q hq => (h.2.2.2.2.2.1 q hq).same hv.symm, h.2.2.2.2.2.2.same hv⟩
def PRE (G : GT) (C : va_W) (sz : Nat) (U : State) : Prop := U.heap.size = sz ∧ va_P (gD G) vwCl C U.heap ∧ va_K (gD G) vwCl (gT G) U ∧ va_D (fun _ => True) C ∧ GL G (va_A C sz) U U.heap
def QV (G : GT) (rv : Option Value) (C' : va_W) (A : Nat → Prop) : Array Value → State → Outcome → State → Prop := fun _ st oc t => (oc = .returned rv ∧ va_P (gD G) vwCl C' t.heap ∧ va_D A C') ∧ va_F A st t
/-- A CONTRACT: from the cells C and the arguments As the method comes back with rv and the cells C' -/
def CT (G : GT) (l : Launch) (y : MethodName) (cc : ByteArray) (maxL : Nat) (ret : Option FieldType) (fr lo : Nat) (As : List Value) (C C' : va_W) (rv : Option Value) : Prop :=
  ∀ sz : Nat, Met l y (.code y cc maxL ret :: BIG) { frames := fr, cells := 0, slots := 0, locals := lo } (va_Pc As (PRE G C sz)) (QV G rv C' (va_A C sz)) 0 0 (va_A C sz)
/-- the words of a method that is called -/
def KC (y : MethodName) (cc : ByteArray) (maxL : Nat) (ret : Option FieldType) (n : Nat) : Prop := Cond.code y cc maxL ret ∈ BIG ∧ Cond.initialized y.cls ∈ BIG ∧ (y.cls ≠ "java/lang/invoke/MethodHandle" ∧ y.cls ≠ "java/lang/invoke/VarHandle") ∧ (parseMethodDescriptor y.desc).map (fun d => d.parameters.length) = some n
def KI (y : MethodName) : Prop := Cond.instanceMethod y ∈ BIG ∧ Cond.selects y.cls y y ∈ BIG
theorem PRE_blind (G : GT) (As : List Value) (C : va_W) (sz : Nat) : FrameBlind (va_Pc As (PRE G C sz)) := fun a U g mk q => by
  obtain ⟨q0, q1, qP, qK, qD, qG⟩ := q
  exact ⟨q0, q1, qP, va_K.moved (u := U) (U := U.calling g mk a) (Vm.Alike.refl U.vm) qK, qD, GL.same (u := U) (U := U.calling g mk a) rfl qG⟩
theorem P_sub {D : va_G} {cl : List vw_C} {ws ws' : va_W} {H : Heap} (h : va_P D cl ws H) (is : List Nat) (hs : is.map (fun i => ws[i]?) = ws'.map some) : va_P D cl ws' H := by
  intro k q hk
  have h1 : (is.map (fun i => ws[i]?))[k]? = some (some q) := by rw [hs, List.getElem?_map, hk]; rfl
  rw [List.getElem?_map] at h1
  cases hi : is[k]? with
  | none => rw [hi] at h1; cases h1
  | some i => rw [hi] at h1; exact h i q (Option.some.inj h1)
theorem KC_good {y : MethodName} {cc : ByteArray} {maxL n : Nat} {ret : Option FieldType} (k : KC y cc maxL ret n) : GoodIn BIG (Cond.code y cc maxL ret :: BIG) := by
  intro w hw
  rcases List.mem_cons.mp hw with rfl | h
  · exact big_good (fun _ h => h) _ k.1
  · exact big_good (fun _ h => h) _ h
section BS
variable {p : Program} {l : Launch} {e : Env} {R : Room} {s : State} {m : MethodId} {args : Array Value} {below : List Frame} {meth : Method} {c : Code} {H : Heap} {locs : List Loc} {cells slots : Nat} {Q : State → Prop}
variable {cc : ByteArray} {pc : Nat} {ls : Array Slot} {rest : List Value} {G : GT} {A : Nat → Prop} {a : Nat} {ws : va_W} {nL : Nat}
theorem PRE_at (hK : va_K (gD G) vwCl (gT G) s) (hG : GL G A s s.heap) (hP : va_P (gD G) vwCl ws H) (hD : va_D A ws) (hS : va_S A s.heap H locs) (hA : ∀ q, s.heap.size ≤ q → A q) {wc : va_W} (isC : List Nat) (hn : va_nd isC = true) (hC : isC.map (fun i => ws[i]?) = wc.map some) (As : List Value) : ∀ U : State, U.heap = H → s.WarmedH U.vm → va_Pc As (PRE G wc H.size) As.toArray U := by
  intro U hU hW
  have hF := va_free hD hS hA isC hC
  refine ⟨rfl, by rw [hU], by rw [hU]; exact P_sub hP isC hC, va_K.moved hW.alike hK, (hD.sub isC hn hC).weaken (fun _ _ _ _ => trivial), ?_⟩
  rw [hU]
  exact ((hG.kept hS.2.1).narrow hF).warm hW
/-- behind a call -/
theorem w_run {rv : Option Value} {w1 wc wr W1 : va_W} {st0 : List Value} {av : Array Value} (hP : va_P (gD G) vwCl ws H) (hD : va_D A ws) (hS : va_S A s.heap H locs) (hA : ∀ q, s.heap.size ≤ q → A q)
    (isC isR is : List Nat) (hC : isC.map (fun i => ws[i]?) = wc.map some) (hR : isR.map (fun i => ws[i]?) = wr.map some) (hn : va_nd isR = true) (hdis : ∀ i ∈ isR, i ∉ isC) (hW1 : is.map (fun i => (wr ++ w1)[i]?) = W1.map some) (hn1 : va_nd is = true)
    (hr : va_Run p l e R s m args below meth c H locs cells slots 0 0 (F0 m pc ls st0) rest (QV G rv w1 (va_A wc H.size) av) (va_A wc H.size))
    (kk : ∀ (H1 : Heap) (locs1 : List Loc), va_P (gD G) vwCl W1 H1 → va_D A W1 → va_S A s.heap H1 locs1 → W p l e R s m args below meth c H1 locs1 cells slots Q (F0 m (pc + 3) ls (rv.toList ++ rest))) : W p l e R s m args below meth c H locs cells slots Q (F0 m pc ls st0) := by
  intro T hT X
  have hF := va_free hD hS hA isC hC
  obtain ⟨v, st₀, t, T', L, h0, X', hL, e1, e2, ⟨⟨hv, hP1, hD1⟩, hz, hk⟩, st⟩ := hr T hT X
  cases hv
  rw [h0] at hz hk
  rw [← e1] at hz hk hP1
  obtain ⟨hP2, hD2⟩ := va_join hP hD isC isR hC hR hn hdis hk hF hP1 hD1
  obtain ⟨t2, a1, b1⟩ := kk T'.heap (locs ++ L) (P_sub hP2 is hW1) (hD2.sub is hn1 hW1)
    ⟨Nat.le_trans hS.1 hz, fun q h1 h2 => by rw [hk q (Nat.lt_of_lt_of_le h1 hS.1) (fun z => h2 (hF q z))]; exact hS.2.1 q h1 h2, fun q hq => by
      rcases List.mem_append.mp hq with h | h
      · exact hS.2.2 q h
      · exact hF _ (hL q h)⟩ T' rfl X'
  exact ⟨t2, st t2 a1, b1⟩
/-- the call's words: a CallB out of BIG -/
theorem KC_callB {own : String} {index maxL n fr lo : Nat} {y : MethodName} {bytes : ByteArray} {ret : Option FieldType} (hts : ∀ w ∈ BIG, w.before args s = true) (kc : KC y bytes maxL ret n) (hl : Cond.methodLink own index y ∈ BIG) (hf : fr + 1 ≤ R.frames) (ho : 8 + (maxL + 11) + lo ≤ R.locals) :
    CallB R s args own index y bytes maxL ret (Cond.code y bytes maxL ret :: BIG) { frames := fr, cells := 0, slots := 0, locals := lo } 0 0 n := by
  refine ⟨rfl, rfl, hf, ho, pay_in hts (KC_good kc), List.mem_cons_self, hts _ kc.1, hts _ kc.2.1, kc.2.2.1, fun sig h => ?_, hts _ hl⟩
  have h2 := kc.2.2.2
  rw [h] at h2
  exact (Option.some.inj h2).symm
theorem KC_callN {own host : String} {index maxL n fr lo : Nat} {y : MethodName} {bytes : ByteArray} {ret : Option FieldType} (hts : ∀ w ∈ BIG, w.before args s = true) (kc : KC y bytes maxL ret n) (hl : va_Nw (.methodLinkNest own index y host) s) (hf : fr + 1 ≤ R.frames) (ho : 8 + (maxL + 11) + lo ≤ R.locals) :
    va_CN R s args own index y host bytes maxL ret (Cond.code y bytes maxL ret :: BIG) { frames := fr, cells := 0, slots := 0, locals := lo } 0 0 n := by
  refine ⟨⟨rfl, rfl, hf, ho, pay_in hts (KC_good kc), List.mem_cons_self⟩, hts _ kc.1, hts _ kc.2.1, kc.2.2.1, fun sig h => ?_, va_Nw.use rfl hl⟩
  have h2 := kc.2.2.2
  rw [h] at h2
  exact (Option.some.inj h2).symm
/-- a call of a method of an object -/
theorem w_callV {own : String} {index maxL n fr lo q0 ci : Nat} {y : MethodName} {bytes : ByteArray} {ret : Option FieldType} {b : Nat} {As fs : List Value} {rv : Option Value} {w1 wc wr W1 : va_W} {st0 : List Value} {T : u_T} {N : Nat}
    (hx : p.tables.exec = Jvm.exec) (hb : c.code = cc) (hml : c.maxLocals = nL) (hown : s.vm.findClass own = some m.cls) (hts : ∀ w ∈ BIG, w.before args s = true) (hK : va_K (gD G) vwCl (gT G) s) (hG : GL G A s s.heap) (hP : va_P (gD G) vwCl ws H) (hD : va_D A ws) (hS : va_S A s.heap H locs) (hA : ∀ q, s.heap.size ≤ q → A q)
    (hM : CT G l y bytes maxL ret fr lo (.ref b :: As) wc w1 rv) (kc : KC y bytes maxL ret n) (ki : KI y) (hl : Cond.methodLink own index y ∈ BIG)
    (hc : vwCl[ci]? = some (y.cls, T, N)) (he : ws[q0]? = some (b, .inr (ci, fs))) (hn0 : As.length = n) (hls : ls.size = nL) (hst : st0 = As.reverse ++ .ref b :: rest) (hr8 : (rest.map fun v => v.category).sum ≤ 8) (hdg : decode cc pc = .ok (.invokevirtual index, 3)) (hf : fr + 1 ≤ R.frames) (ho : 8 + (maxL + 11) + lo ≤ R.locals) (hcs : cells ≤ R.cells ∧ slots ≤ R.slots)
    (isC isR is : List Nat) (hC : isC.map (fun i => ws[i]?) = wc.map some) (hR : isR.map (fun i => ws[i]?) = wr.map some) (hnC : va_nd isC = true) (hn : va_nd isR = true) (hdis : ∀ i ∈ isR, i ∉ isC) (hW1 : is.map (fun i => (wr ++ w1)[i]?) = W1.map some) (hn1 : va_nd is = true)
    (kk : ∀ (H1 : Heap) (locs1 : List Loc), va_P (gD G) vwCl W1 H1 → va_D A W1 → va_S A s.heap H1 locs1 → W p l e R s m args below meth c H1 locs1 cells slots Q (F0 m (pc + 3) ls (rv.toList ++ rest))) : W p l e R s m args below meth c H locs cells slots Q (F0 m pc ls st0) :=
  w_run hP hD hS hA isC isR is hC hR hn hdis hW1 hn1 (va_runV (C := y.cls) (As := As) (b := b) (rest := rest) ⟨hx, hb, hml, hown, hts⟩ (hM H.size) ⟨KC_callB hts kc hl hf ho, hts _ ki.1, hts _ ki.2⟩ ⟨PRE_blind G _ _ _, va_recv hK hP hc he, PRE_at hK hG hP hD hS hA isC hnC hC (.ref b :: As)⟩ rfl hn0 hls hst (lv_room (m := m) (pc := pc) (ls := ls) (rest := st0) hr8) hdg hcs) kk
/-- a call of a static method -/
theorem w_callS {own : String} {index maxL n fr lo : Nat} {y : MethodName} {bytes : ByteArray} {ret : Option FieldType} {As : List Value} {rv : Option Value} {w1 wc wr W1 : va_W} {st0 : List Value}
    (hx : p.tables.exec = Jvm.exec) (hb : c.code = cc) (hml : c.maxLocals = nL) (hown : s.vm.findClass own = some m.cls) (hts : ∀ w ∈ BIG, w.before args s = true) (hK : va_K (gD G) vwCl (gT G) s) (hG : GL G A s s.heap) (hP : va_P (gD G) vwCl ws H) (hD : va_D A ws) (hS : va_S A s.heap H locs) (hA : ∀ q, s.heap.size ≤ q → A q)
    (hM : CT G l y bytes maxL ret fr lo As wc w1 rv) (kc : KC y bytes maxL ret n) (ki : Cond.static y ∈ BIG) (hl : Cond.methodLink own index y ∈ BIG)
    (hn0 : As.length = n) (hls : ls.size = nL) (hst : st0 = As.reverse ++ rest) (hr8 : (rest.map fun v => v.category).sum ≤ 8) (hdg : decode cc pc = .ok (.invokestatic index, 3)) (hf : fr + 1 ≤ R.frames) (ho : 8 + (maxL + 11) + lo ≤ R.locals) (hcs : cells ≤ R.cells ∧ slots ≤ R.slots)
    (isC isR is : List Nat) (hC : isC.map (fun i => ws[i]?) = wc.map some) (hR : isR.map (fun i => ws[i]?) = wr.map some) (hnC : va_nd isC = true) (hn : va_nd isR = true) (hdis : ∀ i ∈ isR, i ∉ isC) (hW1 : is.map (fun i => (wr ++ w1)[i]?) = W1.map some) (hn1 : va_nd is = true)
    (kk : ∀ (H1 : Heap) (locs1 : List Loc), va_P (gD G) vwCl W1 H1 → va_D A W1 → va_S A s.heap H1 locs1 → W p l e R s m args below meth c H1 locs1 cells slots Q (F0 m (pc + 3) ls (rv.toList ++ rest))) : W p l e R s m args below meth c H locs cells slots Q (F0 m pc ls st0) :=
  w_run hP hD hS hA isC isR is hC hR hn hdis hW1 hn1 (va_runS (As := As) (rest := rest) ⟨hx, hb, hml, hown, hts⟩ (hM H.size) ⟨KC_callB hts kc hl hf ho, hts _ ki⟩ ⟨PRE_blind G _ _ _, PRE_at hK hG hP hD hS hA isC hnC hC As⟩ rfl hn0 hls hst (lv_room (m := m) (pc := pc) (ls := ls) (rest := st0) hr8) hdg hcs) kk
/-- a call of a nest mate's private static method -/
theorem w_callN {own host : String} {index maxL n fr lo : Nat} {y : MethodName} {bytes : ByteArray} {ret : Option FieldType} {As : List Value} {rv : Option Value} {w1 wc wr W1 : va_W} {st0 : List Value}
    (hx : p.tables.exec = Jvm.exec) (hb : c.code = cc) (hml : c.maxLocals = nL) (hown : s.vm.findClass own = some m.cls) (hts : ∀ w ∈ BIG, w.before args s = true) (hK : va_K (gD G) vwCl (gT G) s) (hG : GL G A s s.heap) (hP : va_P (gD G) vwCl ws H) (hD : va_D A ws) (hS : va_S A s.heap H locs) (hA : ∀ q, s.heap.size ≤ q → A q)
    (hM : CT G l y bytes maxL ret fr lo As wc w1 rv) (kc : KC y bytes maxL ret n) (ki : Cond.static y ∈ BIG) (hl : (own, index, y, host) ∈ nestM)
    (hn0 : As.length = n) (hls : ls.size = nL) (hst : st0 = As.reverse ++ rest) (hr8 : (rest.map fun v => v.category).sum ≤ 8) (hdg : decode cc pc = .ok (.invokestatic index, 3)) (hf : fr + 1 ≤ R.frames) (ho : 8 + (maxL + 11) + lo ≤ R.locals) (hcs : cells ≤ R.cells ∧ slots ≤ R.slots)
    (isC isR is : List Nat) (hC : isC.map (fun i => ws[i]?) = wc.map some) (hR : isR.map (fun i => ws[i]?) = wr.map some) (hnC : va_nd isC = true) (hn : va_nd isR = true) (hdis : ∀ i ∈ isR, i ∉ isC) (hW1 : is.map (fun i => (wr ++ w1)[i]?) = W1.map some) (hn1 : va_nd is = true)
    (kk : ∀ (H1 : Heap) (locs1 : List Loc), va_P (gD G) vwCl W1 H1 → va_D A W1 → va_S A s.heap H1 locs1 → W p l e R s m args below meth c H1 locs1 cells slots Q (F0 m (pc + 3) ls (rv.toList ++ rest))) : W p l e R s m args below meth c H locs cells slots Q (F0 m pc ls st0) :=
  w_run hP hD hS hA isC isR is hC hR hn hdis hW1 hn1 (va_runSN (As := As) (rest := rest) ⟨hx, hb, hml, hown, hts⟩ (hM H.size) ⟨KC_callN hts kc (hG.2.2.2.2.2.2.1 (own, index, y, host) hl) hf ho, hts _ ki, trivial⟩ ⟨PRE_blind G _ _ _, PRE_at hK hG hP hD hS hA isC hnC hC As⟩ rfl hn0 hls hst (lv_room (m := m) (pc := pc) (ls := ls) (rest := st0) hr8) hdg hcs) kk
end BS
