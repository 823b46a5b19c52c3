/-! ===== CONSTRUCTORS: cells come ===== -/
def QE {S : Type} (G : GT) (C' : S → va_W) (A : Nat → Prop) : Array Value → State → Outcome → State → Prop := fun _ st oc t => (oc = .returned none ∧ ∃ u : S, va_P (gD G) vwCl (C' u) t.heap ∧ va_D A (C' u)) ∧ va_F A st t
/-- A CONSTRUCTOR's CONTRACT: from a blank object at q it comes back, with cells at some addresses u -/
def CI {S : Type} (G : GT) (l : Launch) (y : MethodName) (cc : ByteArray) (maxL fr mc ms lo : Nat) (q : Nat) (C : va_W) (C' : S → va_W) : Prop :=
  ∀ sz : Nat, Met l y (.code y cc maxL none :: BIG) { frames := fr, cells := mc, slots := ms, locals := lo } (va_Pc [.ref q] (PRE G C sz)) (QE G C' (va_A C sz)) mc ms (va_A C sz)
theorem cti {G : GT} {l : Launch} {y : MethodName} {cc : ByteArray} {maxL fr mc ms lo q : Nat} {C : va_W} {S : Type} (C' : S → va_W) (hy : plainFor y = true) (hle : 1 ≤ maxL) (hyn : y.name = "<init>")
    (body : ∀ (p : Program) (e : Env) (s : State) (m : MethodId) (below : List Frame) (meth : Method) (c : Code) (A : Nat → Prop) (ls : Array Slot) (Q : State → Prop), p.tables.exec = Jvm.exec → c.code = cc → c.maxLocals = maxL → s.vm.findClass y.cls = some m.cls → meth.name = "<init>" → (∀ w ∈ BIG, w.before ([.ref q] : List Value).toArray s = true) → va_K (gD G) vwCl (gT G) s → GL G A s s.heap → (∀ q, s.heap.size ≤ q → A q) → va_P (gD G) vwCl C s.heap → va_D A C → va_S A s.heap s.heap [] → lv_has ls maxL [(0, .ref q)] →
      (∀ (H : Heap) (locs : List Loc) (ls : Array Slot) (pc : Nat) (u : S), decode cc pc = .ok (.return_, 1) → va_P (gD G) vwCl (C' u) H → va_D A (C' u) → va_S A s.heap H locs → W p l e { frames := fr, cells := mc, slots := ms, locals := lo } s m ([.ref q] : List Value).toArray below meth c H locs mc ms Q (F0 m pc ls [])) →
      W p l e { frames := fr, cells := mc, slots := ms, locals := lo } s m ([.ref q] : List Value).toArray below meth c s.heap [] 0 0 Q (F0 m 0 ls [])) : CI G l y cc maxL fr mc ms lo q C C' := by
  intro sz
  refine Met_ofWF hy rfl ?_
  intro p e s m args below meth c s₁ B hml hv
  obtain ⟨rfl, hsz, hP, hK, hD0, hG⟩ := hv
  subst hsz
  have hx := B.exec
  have hb := B.bytes
  have hr := B.returns
  have hlocks := B.notSynchronized
  have hts := atoms_spec (ws := Cond.code y cc maxL none :: BIG) B.pre
  rw [lg_entry_eq]
  refine body p e s m below meth c (va_A C s.heap.size) _ _ hx hb hml (findClass_of_methodNamed B.named) ((name_of_methodNamed B.named B.method).1.trans hyn) (fun w h => hts w (List.mem_cons_of_mem _ h)) hK hG (fun q h => Or.inr h) hP hD0.self va_S.rf (lv_entry [.ref q] hle) ?_
  intro H locs ls pc u hd hP hD hS
  exact W.vret hx hb hr (fun t ht hW => ⟨⟨rfl, u, by rw [ht]; exact hP, hD⟩, hS.F ht⟩) hS.2.2 hd
section IN
variable {p : Program} {l : Launch} {e : Env} {R : Room} {s : State} {m : MethodId} {args : Array Value} {below : List Frame} {meth : Method} {c : Code} {H : Heap} {locs : List Loc} {cells slots : Nat} {Q : State → Prop}
variable {cc : ByteArray} {pc : Nat} {ls : Array Slot} {rest : List Value} {G : GT} {A : Nat → Prop} {a : Nat} {ws W1 : va_W} {nL : Nat}
theorem w_obj (hx : p.tables.exec = Jvm.exec) (hb : c.code = cc) (hml : c.maxLocals = nL) (hls : ls.size = nL) {own : String} {idx : Nat} (hts : ∀ w ∈ BIG, w.before args s = true) (hown : s.vm.findClass own = some m.cls) (h1 : Cond.methodLink own idx Lib.objectInit ∈ BIG) (h2 : Cond.instanceMethod Lib.objectInit ∈ BIG) (h3 : Cond.code Lib.objectInit ⟨#[0xb1]⟩ 1 none ∈ BIG) (hdg : decode cc pc = .ok (.invokespecial idx, 3)) (hf : 1 ≤ R.frames) (ho : (rest.map fun v => v.category).sum + 12 ≤ R.locals)
    (kk : W p l e R s m args below meth c H locs cells slots Q (F0 m (pc + 3) ls rest)) : W p l e R s m args below meth c H locs cells slots Q (F0 m pc ls (.ref a :: rest)) :=
  W.objInit (g := F0 m pc ls (.ref a :: rest)) hx hb hown (hts _ h1) (hts _ h2) (hts _ h3) rfl (by rw [hml]; exact hls) rfl hdg hf (by show 2 * 0 + _ + 12 ≤ _; omega) kk
/-- an array of the known class comes -/
theorem w_newa (hx : p.tables.exec = Jvm.exec) (hb : c.code = cc) {atype : ArrayType} {ty : FieldType} (hts : ∀ w ∈ BIG, w.before args s = true) (harr : Cond.arrayClass (newarray.typeOf atype) ∈ BIG) (hty : newarray.typeOf atype = ty) (hK : va_K (gD G) vwCl (gT G) s) (hP : va_P (gD G) vwCl ws H) (hD : va_D A ws) (hS : va_S A s.heap H locs) (hA : ∀ q, s.heap.size ≤ q → A q)
    {cA0 : ClassId} (t0 : Nat) (ht0 : (gT G)[t0]? = some (cA0, ty)) (hno : ∀ C, ty ≠ .object C) {n : Int32} {N' : Nat} {a0 : vp_A} (ha : ∀ cA : ClassId, vp_cell cA a0 = arrV cA N' (fun _ => defaultValue ty)) (hn : ¬ n < 0) (hN : n.toNatClampNeg = N') (hbytes : N' * componentBytes ty ≤ 536870912) (hcells : cells + 1 ≤ R.cells) (hslots : slots + N' ≤ R.slots) (hdg : decode cc pc = .ok (.newarray atype, 2))
    (kk : ∀ (q : Nat) (H1 : Heap), va_P (gD G) vwCl (ws ++ [(q, .inl (cA0, a0))]) H1 → va_D A (ws ++ [(q, .inl (cA0, a0))]) → va_S A s.heap H1 locs → W p l e R s m args below meth c H1 locs (cells + 1) (slots + N') Q (F0 m (pc + 2) ls (.ref q :: rest))) : W p l e R s m args below meth c H locs cells slots Q (F0 m pc ls (.int n :: rest)) := by
  refine va_newa hx hb (hts _ harr) hty hK hP hD hS hA ha hn hN hbytes hcells hslots hdg (fun q cA H1 hK1 hP1 hD1 hS1 => ?_)
  have h1 : va_RA s cA ty := (hK1.2 (gT G).length (cA, ty) (by simp)).2
  have h2 : va_RA s cA0 ty := (hK.2 t0 _ ht0).2
  have he : cA = cA0 := by
    cases ty with
    | object C => exact absurd rfl (hno C)
    | _ => exact Option.some.inj (h1.symm.trans h2)
  subst he
  exact kk q H1 hP1 hD1 hS1
theorem w_putF (hx : p.tables.exec = Jvm.exec) (hb : c.code = cc) {own C : String} {T : u_T} {N ci index : Nat} (hts : ∀ w ∈ BIG, w.before args s = true) (hin : ∀ w ∈ u_ws C T N, w ∈ BIG) (ty0 : Nat → FieldType) (hty : ∀ k, k < N → parseFieldDescriptor (T k).2.2.1 = some (ty0 k)) (hnm : ∀ a, a < N → ∀ b, b < N → a ≠ b → (T a).2.1 ≠ (T b).2.1) (hown : s.vm.findClass own = some m.cls) (hin2 : meth.name = "<init>") (hK : va_K (gD G) vwCl (gT G) s) (hP : va_P (gD G) vwCl ws H) (hD : va_D A ws) (hS : va_S A s.heap H locs) (q0 : Nat) {fs : List Value} (he : ws[q0]? = some (a, .inr (ci, fs))) (hc : vwCl[ci]? = some (C, T, N)) (k : Nat) (hk : k < N) (hl : Cond.fieldLink own index (T k).1 (T k).2.1 (T k).2.2.1 ∈ BIG) (hfin : (T k).2.2.2 = true) (hdecl : (T k).1 = own) {v : Value} (hn : narrow (ty0 k) v = v) (hfit : fits (ty0 k) v = true) (hle : k < fs.length) (hdg : decode cc pc = .ok (.putfield index, 3)) (hW : ws.set q0 (a, .inr (ci, fs.set k v)) = W1)
    (kk : ∀ (H1 : Heap) (locs1 : List Loc), va_P (gD G) vwCl W1 H1 → va_D A W1 → va_S A s.heap H1 locs1 → W p l e R s m args below meth c H1 locs1 cells slots Q (F0 m (pc + 3) ls rest)) : W p l e R s m args below meth c H locs cells slots Q (F0 m pc ls (v :: .ref a :: rest)) := by
  refine va_putF hx hb hts hin ty0 hty hnm hown hK hP hD hS q0 he hc k hk (hts _ hl) (fun _ h => h) hfin hin2 hdecl (hty k hk) hn hfit hle hdg (fun H1 locs1 hP hD hS => ?_)
  rw [hW] at hP hD
  exact kk H1 locs1 hP hD hS
/-- behind a constructor's call -/
theorem w_runE {S : Type} {mc ms : Nat} {w1 : S → va_W} {wc wr : va_W} {W2 : S → va_W} {st0 : List Value} {av : Array Value} (hP : va_P (gD G) vwCl ws H) (hD : va_D A ws) (hS : va_S A s.heap H locs) (hA : ∀ q, s.heap.size ≤ q → A q)
    (isC isR is : List Nat) (hC : isC.map (fun i => ws[i]?) = wc.map some) (hR : isR.map (fun i => ws[i]?) = wr.map some) (hn : va_nd isR = true) (hdis : ∀ i ∈ isR, i ∉ isC) (hW1 : ∀ u, is.map (fun i => (wr ++ w1 u)[i]?) = (W2 u).map some) (hn1 : va_nd is = true)
    (hr : va_Run p l e R s m args below meth c H locs cells slots mc ms (F0 m pc ls st0) rest (QE G w1 (va_A wc H.size) av) (va_A wc H.size))
    (kk : ∀ (u : S) (H1 : Heap) (locs1 : List Loc), va_P (gD G) vwCl (W2 u) H1 → va_D A (W2 u) → va_S A s.heap H1 locs1 → W p l e R s m args below meth c H1 locs1 (cells + mc) (slots + ms) Q (F0 m (pc + 3) ls rest)) : W p l e R s m args below meth c H locs cells slots Q (F0 m pc ls st0) := by
  intro T hT X
  have hF := va_free hD hS hA isC hC
  obtain ⟨v, st₀, t, T', L, h0, X', hL, e1, e2, ⟨⟨hv, u, hP1, hD1⟩, hz, hk⟩, st⟩ := hr T hT X
  cases hv
  rw [h0] at hz hk
  rw [← e1] at hz hk hP1
  obtain ⟨hP2, hD2⟩ := va_join hP hD isC isR hC hR hn hdis hk hF hP1 hD1
  obtain ⟨t2, a1, b1⟩ := kk u T'.heap (locs ++ L) (P_sub hP2 is (hW1 u)) (hD2.sub is hn1 (hW1 u))
    ⟨Nat.le_trans hS.1 hz, fun q h1 h2 => by rw [hk q (Nat.lt_of_lt_of_le h1 hS.1) (fun z => h2 (hF q z))]; exact hS.2.1 q h1 h2, fun q hq => by
      rcases List.mem_append.mp hq with h | h
      · exact hS.2.2 q h
      · exact hF _ (hL q h)⟩ T' rfl X'
  exact ⟨t2, st t2 a1, b1⟩
theorem KC_callI {own : String} {index maxL n fr mc ms lo : Nat} {y : MethodName} {bytes : ByteArray} {ret : Option FieldType} (hts : ∀ w ∈ BIG, w.before args s = true) (kc : KC y bytes maxL ret n) (hl : Cond.methodLink own index y ∈ BIG) (hf : fr + 1 ≤ R.frames) (ho : 8 + (maxL + 11) + lo ≤ R.locals) :
    CallB R s args own index y bytes maxL ret (Cond.code y bytes maxL ret :: BIG) { frames := fr, cells := mc, slots := ms, locals := lo } mc ms n := by
  refine ⟨rfl, rfl, hf, ho, pay_in hts (KC_good kc), List.mem_cons_self, hts _ kc.1, hts _ kc.2.1, kc.2.2.1, fun sig h => ?_, hts _ hl⟩
  have h2 := kc.2.2.2
  rw [h] at h2
  exact (Option.some.inj h2).symm
theorem KC_callIN {own host : String} {index maxL n fr mc ms lo : Nat} {y : MethodName} {bytes : ByteArray} {ret : Option FieldType} (hts : ∀ w ∈ BIG, w.before args s = true) (kc : KC y bytes maxL ret n) (hl : va_Nw (.methodLinkNest own index y host) s) (hf : fr + 1 ≤ R.frames) (ho : 8 + (maxL + 11) + lo ≤ R.locals) :
    va_CN R s args own index y host bytes maxL ret (Cond.code y bytes maxL ret :: BIG) { frames := fr, cells := mc, slots := ms, locals := lo } mc ms n := by
  refine ⟨⟨rfl, rfl, hf, ho, pay_in hts (KC_good kc), List.mem_cons_self⟩, hts _ kc.1, hts _ kc.2.1, kc.2.2.1, fun sig h => ?_, va_Nw.use rfl hl⟩
  have h2 := kc.2.2.2
  rw [h] at h2
  exact (Option.some.inj h2).symm
theorem w_callI {S : Type} {own : String} {index maxL fr mc ms lo : Nat} {y : MethodName} {bytes : ByteArray} {b : Nat} {w1 : S → va_W} {wc wr : va_W} {W2 : S → va_W} {st0 : List Value}
    (hx : p.tables.exec = Jvm.exec) (hb : c.code = cc) (hml : c.maxLocals = nL) (hown : s.vm.findClass own = some m.cls) (hts : ∀ w ∈ BIG, w.before args s = true) (hK : va_K (gD G) vwCl (gT G) s) (hG : GL G A s s.heap) (hP : va_P (gD G) vwCl ws H) (hD : va_D A ws) (hS : va_S A s.heap H locs) (hA : ∀ q, s.heap.size ≤ q → A q)
    (hM : CI G l y bytes maxL fr mc ms lo b wc w1) (kc : KC y bytes maxL none 0) (ki : Cond.instanceMethod y ∈ BIG) (hyn : y.name = "<init>") (hl : Cond.methodLink own index y ∈ BIG)
    (hls : ls.size = nL) (hst : st0 = .ref b :: rest) (hr8 : (rest.map fun v => v.category).sum ≤ 8) (hdg : decode cc pc = .ok (.invokespecial index, 3)) (hf : fr + 1 ≤ R.frames) (ho : 8 + (maxL + 11) + lo ≤ R.locals) (hcs : cells + mc ≤ R.cells ∧ slots + ms ≤ R.slots)
    (isC isR is : List Nat) (hC : isC.map (fun i => ws[i]?) = wc.map some) (hR : isR.map (fun i => ws[i]?) = wr.map some) (hnC : va_nd isC = true) (hn : va_nd isR = true) (hdis : ∀ i ∈ isR, i ∉ isC) (hW1 : ∀ u, is.map (fun i => (wr ++ w1 u)[i]?) = (W2 u).map some) (hn1 : va_nd is = true)
    (kk : ∀ (u : S) (H1 : Heap) (locs1 : List Loc), va_P (gD G) vwCl (W2 u) H1 → va_D A (W2 u) → va_S A s.heap H1 locs1 → W p l e R s m args below meth c H1 locs1 (cells + mc) (slots + ms) Q (F0 m (pc + 3) ls rest)) : W p l e R s m args below meth c H locs cells slots Q (F0 m pc ls st0) :=
  w_runE hP hD hS hA isC isR is hC hR hn hdis hW1 hn1 (va_runI (As := []) (b := b) (rest := rest) ⟨hx, hb, hml, hown, hts⟩ (hM H.size) ⟨KC_callI hts kc hl hf ho, hyn, hts _ ki⟩ ⟨PRE_blind G _ _ _, PRE_at hK hG hP hD hS hA isC hnC hC [.ref b]⟩ rfl rfl hls hst (lv_room (m := m) (pc := pc) (ls := ls) (rest := st0) hr8) hdg hcs) kk
theorem w_callIN {S : Type} {own host : String} {index maxL fr mc ms lo : Nat} {y : MethodName} {bytes : ByteArray} {b : Nat} {w1 : S → va_W} {wc wr : va_W} {W2 : S → va_W} {st0 : List Value}
    (hx : p.tables.exec = Jvm.exec) (hb : c.code = cc) (hml : c.maxLocals = nL) (hown : s.vm.findClass own = some m.cls) (hts : ∀ w ∈ BIG, w.before args s = true) (hK : va_K (gD G) vwCl (gT G) s) (hG : GL G A s s.heap) (hP : va_P (gD G) vwCl ws H) (hD : va_D A ws) (hS : va_S A s.heap H locs) (hA : ∀ q, s.heap.size ≤ q → A q)
    (hM : CI G l y bytes maxL fr mc ms lo b wc w1) (kc : KC y bytes maxL none 0) (ki : Cond.instanceMethod y ∈ BIG) (hyn : y.name = "<init>") (hl : (own, index, y, host) ∈ nestM)
    (hls : ls.size = nL) (hst : st0 = .ref b :: rest) (hr8 : (rest.map fun v => v.category).sum ≤ 8) (hdg : decode cc pc = .ok (.invokespecial index, 3)) (hf : fr + 1 ≤ R.frames) (ho : 8 + (maxL + 11) + lo ≤ R.locals) (hcs : cells + mc ≤ R.cells ∧ slots + ms ≤ R.slots)
    (isC isR is : List Nat) (hC : isC.map (fun i => ws[i]?) = wc.map some) (hR : isR.map (fun i => ws[i]?) = wr.map some) (hnC : va_nd isC = true) (hn : va_nd isR = true) (hdis : ∀ i ∈ isR, i ∉ isC) (hW1 : ∀ u, is.map (fun i => (wr ++ w1 u)[i]?) = (W2 u).map some) (hn1 : va_nd is = true)
    (kk : ∀ (u : S) (H1 : Heap) (locs1 : List Loc), va_P (gD G) vwCl (W2 u) H1 → va_D A (W2 u) → va_S A s.heap H1 locs1 → W p l e R s m args below meth c H1 locs1 (cells + mc) (slots + ms) Q (F0 m (pc + 3) ls rest)) : W p l e R s m args below meth c H locs cells slots Q (F0 m pc ls st0) :=
  w_runE hP hD hS hA isC isR is hC hR hn hdis hW1 hn1 (va_runIN (As := []) (b := b) (rest := rest) ⟨hx, hb, hml, hown, hts⟩ (hM H.size) ⟨KC_callIN hts kc (hG.2.2.2.2.2.2.1 (own, index, y, host) hl) hf ho, hyn, hts _ ki⟩ ⟨PRE_blind G _ _ _, PRE_at hK hG hP hD hS hA isC hnC hC [.ref b]⟩ rfl rfl hls hst (lv_room (m := m) (pc := pc) (ls := ls) (rest := st0) hr8) hdg hcs) kk
end IN
