/-! ===== ROWS: an instruction of the machine beside a step of the model ===== -/
theorem nar_z {v : Int32} (h : v = 0 ∨ v = 1) : narrow .boolean (.int v) = .int v := by
  rcases h with rfl | rfl <;> rfl
theorem Met_ofWF {l : Launch} {y : MethodName} {ws ws' : List Cond} {rm : Room} {Pc : Array Value → State → Prop} {Qc : Array Value → State → Outcome → State → Prop} {mc ms : Nat} {free : Addr → Prop} {cc : ByteArray} {maxL : Nat} {ret : Option FieldType}
    (hy : plainFor y = true) (hw : ws = Cond.code y cc maxL ret :: ws')
    (body : ∀ p e s m args below meth c s₁, BodyLoose p l y (headSpec ws rm) cc maxL ret e s m args below meth c s₁ → c.maxLocals = maxL → Pc args s →
      W p l e (headSpec ws rm).room s m args below meth c s.heap [] 0 0 (MQ below Qc args s mc ms free) (entryFrame m args maxL)) : Met l y ws rm Pc Qc mc ms free := by
  refine MetFree.of_bodySF (code := cc) (maxLocals := maxL) (ret := ret) hy ?_ ?_
  · intro args s m h hn
    obtain ⟨meth, c, h1, h2, h3, h4, h5, h6, -, -⟩ := Cond.code_spec hn (atoms_spec (ws := ws) h _ (by rw [hw]; exact List.mem_cons_self))
    exact ⟨meth, c, h1, h2, h3, h4, h5, h6⟩
  · intro p e s m args below meth c s₁ B hml hP _
    have hh0 : s₁.heap = s.heap := by rw [B.state]; rfl
    obtain ⟨t, a1, o, b1, b2, b3⟩ := body p e s m args below meth c s₁ B hml hP s₁ hh0 (Stand.of_body B)
    exact ⟨t, o, a1, b1, b2, ⟨b3.1, b3.2⟩⟩
section CTS
variable {G : GT} {l : Launch} {y : MethodName} {cc : ByteArray} {maxL fr lo : Nat} {As : List Value} {C : va_W}
theorem ctI {β : Type} {res : β} (Cf : β → va_W) (vf : β → Int32) (hy : plainFor y = true) (hle : (lg_sl As).length ≤ maxL)
    (body : ∀ (p : Program) (e : Env) (s : State) (m : MethodId) (below : List Frame) (meth : Method) (c : Code) (A : Nat → Prop) (ls : Array Slot) (Q : State → Prop), p.tables.exec = Jvm.exec → c.code = cc → c.maxLocals = maxL → s.vm.findClass y.cls = some m.cls → (∀ w ∈ BIG, w.before As.toArray s = true) → va_K (gD G) vwCl (gT G) s → GL G A s s.heap → (∀ q, s.heap.size ≤ q → A q) → va_P (gD G) vwCl C s.heap → va_D A C → va_S A s.heap s.heap [] → lv_has ls maxL (lv_args 0 As) →
      (∀ (H : Heap) (locs : List Loc) (ls : Array Slot) (pc : Nat) (x : β), x = res → decode cc pc = .ok (.ireturn, 1) → va_P (gD G) vwCl (Cf x) H → va_D A (Cf x) → va_S A s.heap H locs → W p l e { frames := fr, cells := 0, slots := 0, locals := lo } s m As.toArray below meth c H locs 0 0 Q (F0 m pc ls [.int (vf x)])) →
      W p l e { frames := fr, cells := 0, slots := 0, locals := lo } s m As.toArray below meth c s.heap [] 0 0 Q (F0 m 0 ls [])) : CT G l y cc maxL (some .int) fr lo As C (Cf res) (some (.int (vf res))) := by
  intro sz
  refine Met_ofWF hy rfl ?_
  intro p e s m args below meth c s₁ B hml hv
  obtain ⟨rfl, hsz, hP, hK, hD0, hG⟩ := hv
  subst hsz
  have hx := B.exec
  have hb := B.bytes
  have hr := B.returns
  have hlocks := B.notSynchronized
  have hts := atoms_spec (ws := Cond.code y cc maxL (some .int) :: BIG) B.pre
  rw [lg_entry_eq]
  refine body p e s m below meth c (va_A C s.heap.size) _ _ hx hb hml (findClass_of_methodNamed B.named) (fun w h => hts w (List.mem_cons_of_mem _ h)) hK hG (fun q h => Or.inr h) hP hD0.self va_S.rf (lv_entry As hle) ?_
  intro H locs ls pc x hxr hd hP hD hS
  subst hxr
  exact W.iret hx hb hr (fun t ht hW => ⟨⟨rfl, by rw [ht]; exact hP, hD⟩, hS.F ht⟩) hS.2.2 hd
theorem ctZ {β : Type} {res : β} (Cf : β → va_W) (vf : β → Int32) (hy : plainFor y = true) (hle : (lg_sl As).length ≤ maxL)
    (body : ∀ (p : Program) (e : Env) (s : State) (m : MethodId) (below : List Frame) (meth : Method) (c : Code) (A : Nat → Prop) (ls : Array Slot) (Q : State → Prop), p.tables.exec = Jvm.exec → c.code = cc → c.maxLocals = maxL → s.vm.findClass y.cls = some m.cls → (∀ w ∈ BIG, w.before As.toArray s = true) → va_K (gD G) vwCl (gT G) s → GL G A s s.heap → (∀ q, s.heap.size ≤ q → A q) → va_P (gD G) vwCl C s.heap → va_D A C → va_S A s.heap s.heap [] → lv_has ls maxL (lv_args 0 As) →
      (∀ (H : Heap) (locs : List Loc) (ls : Array Slot) (pc : Nat) (x : β), x = res → decode cc pc = .ok (.ireturn, 1) → (vf x = 0 ∨ vf x = 1) → va_P (gD G) vwCl (Cf x) H → va_D A (Cf x) → va_S A s.heap H locs → W p l e { frames := fr, cells := 0, slots := 0, locals := lo } s m As.toArray below meth c H locs 0 0 Q (F0 m pc ls [.int (vf x)])) →
      W p l e { frames := fr, cells := 0, slots := 0, locals := lo } s m As.toArray below meth c s.heap [] 0 0 Q (F0 m 0 ls [])) : CT G l y cc maxL (some .boolean) fr lo As C (Cf res) (some (.int (vf res))) := by
  intro sz
  refine Met_ofWF hy rfl ?_
  intro p e s m args below meth c s₁ B hml hv
  obtain ⟨rfl, hsz, hP, hK, hD0, hG⟩ := hv
  subst hsz
  have hx := B.exec
  have hb := B.bytes
  have hr := B.returns
  have hlocks := B.notSynchronized
  have hts := atoms_spec (ws := Cond.code y cc maxL (some .boolean) :: BIG) B.pre
  rw [lg_entry_eq]
  refine body p e s m below meth c (va_A C s.heap.size) _ _ hx hb hml (findClass_of_methodNamed B.named) (fun w h => hts w (List.mem_cons_of_mem _ h)) hK hG (fun q h => Or.inr h) hP hD0.self va_S.rf (lv_entry As hle) ?_
  intro H locs ls pc x hxr hd hz hP hD hS
  subst hxr
  exact W.zret hx hb hr (nar_z hz) (fun t ht hW => ⟨⟨rfl, by rw [ht]; exact hP, hD⟩, hS.F ht⟩) hS.2.2 hd
theorem ctJ {β : Type} {res : β} (Cf : β → va_W) (vf : β → Int64) (hy : plainFor y = true) (hle : (lg_sl As).length ≤ maxL)
    (body : ∀ (p : Program) (e : Env) (s : State) (m : MethodId) (below : List Frame) (meth : Method) (c : Code) (A : Nat → Prop) (ls : Array Slot) (Q : State → Prop), p.tables.exec = Jvm.exec → c.code = cc → c.maxLocals = maxL → s.vm.findClass y.cls = some m.cls → (∀ w ∈ BIG, w.before As.toArray s = true) → va_K (gD G) vwCl (gT G) s → GL G A s s.heap → (∀ q, s.heap.size ≤ q → A q) → va_P (gD G) vwCl C s.heap → va_D A C → va_S A s.heap s.heap [] → lv_has ls maxL (lv_args 0 As) →
      (∀ (H : Heap) (locs : List Loc) (ls : Array Slot) (pc : Nat) (x : β), x = res → decode cc pc = .ok (.lreturn, 1) → va_P (gD G) vwCl (Cf x) H → va_D A (Cf x) → va_S A s.heap H locs → W p l e { frames := fr, cells := 0, slots := 0, locals := lo } s m As.toArray below meth c H locs 0 0 Q (F0 m pc ls [.long (vf x)])) →
      W p l e { frames := fr, cells := 0, slots := 0, locals := lo } s m As.toArray below meth c s.heap [] 0 0 Q (F0 m 0 ls [])) : CT G l y cc maxL (some .long) fr lo As C (Cf res) (some (.long (vf res))) := by
  intro sz
  refine Met_ofWF hy rfl ?_
  intro p e s m args below meth c s₁ B hml hv
  obtain ⟨rfl, hsz, hP, hK, hD0, hG⟩ := hv
  subst hsz
  have hx := B.exec
  have hb := B.bytes
  have hr := B.returns
  have hlocks := B.notSynchronized
  have hts := atoms_spec (ws := Cond.code y cc maxL (some .long) :: BIG) B.pre
  rw [lg_entry_eq]
  refine body p e s m below meth c (va_A C s.heap.size) _ _ hx hb hml (findClass_of_methodNamed B.named) (fun w h => hts w (List.mem_cons_of_mem _ h)) hK hG (fun q h => Or.inr h) hP hD0.self va_S.rf (lv_entry As hle) ?_
  intro H locs ls pc x hxr hd hP hD hS
  subst hxr
  exact W.lret hx hb hr (fun t ht hW => ⟨⟨rfl, by rw [ht]; exact hP, hD⟩, hS.F ht⟩) hS.2.2 hd
theorem ctD {β : Type} {res : β} (Cf : β → va_W) (vf : β → UInt64) (hy : plainFor y = true) (hle : (lg_sl As).length ≤ maxL)
    (body : ∀ (p : Program) (e : Env) (s : State) (m : MethodId) (below : List Frame) (meth : Method) (c : Code) (A : Nat → Prop) (ls : Array Slot) (Q : State → Prop), p.tables.exec = Jvm.exec → c.code = cc → c.maxLocals = maxL → s.vm.findClass y.cls = some m.cls → (∀ w ∈ BIG, w.before As.toArray s = true) → va_K (gD G) vwCl (gT G) s → GL G A s s.heap → (∀ q, s.heap.size ≤ q → A q) → va_P (gD G) vwCl C s.heap → va_D A C → va_S A s.heap s.heap [] → lv_has ls maxL (lv_args 0 As) →
      (∀ (H : Heap) (locs : List Loc) (ls : Array Slot) (pc : Nat) (x : β), x = res → decode cc pc = .ok (.dreturn, 1) → va_P (gD G) vwCl (Cf x) H → va_D A (Cf x) → va_S A s.heap H locs → W p l e { frames := fr, cells := 0, slots := 0, locals := lo } s m As.toArray below meth c H locs 0 0 Q (F0 m pc ls [.double (vf x)])) →
      W p l e { frames := fr, cells := 0, slots := 0, locals := lo } s m As.toArray below meth c s.heap [] 0 0 Q (F0 m 0 ls [])) : CT G l y cc maxL (some .double) fr lo As C (Cf res) (some (.double (vf res))) := by
  intro sz
  refine Met_ofWF hy rfl ?_
  intro p e s m args below meth c s₁ B hml hv
  obtain ⟨rfl, hsz, hP, hK, hD0, hG⟩ := hv
  subst hsz
  have hx := B.exec
  have hb := B.bytes
  have hr := B.returns
  have hlocks := B.notSynchronized
  have hts := atoms_spec (ws := Cond.code y cc maxL (some .double) :: BIG) B.pre
  rw [lg_entry_eq]
  refine body p e s m below meth c (va_A C s.heap.size) _ _ hx hb hml (findClass_of_methodNamed B.named) (fun w h => hts w (List.mem_cons_of_mem _ h)) hK hG (fun q h => Or.inr h) hP hD0.self va_S.rf (lv_entry As hle) ?_
  intro H locs ls pc x hxr hd hP hD hS
  subst hxr
  exact W.dret hx hb hr (fun t ht hW => ⟨⟨rfl, by rw [ht]; exact hP, hD⟩, hS.F ht⟩) hS.2.2 hd
theorem ctV {β : Type} {res : β} (Cf : β → va_W) (hy : plainFor y = true) (hle : (lg_sl As).length ≤ maxL)
    (body : ∀ (p : Program) (e : Env) (s : State) (m : MethodId) (below : List Frame) (meth : Method) (c : Code) (A : Nat → Prop) (ls : Array Slot) (Q : State → Prop), p.tables.exec = Jvm.exec → c.code = cc → c.maxLocals = maxL → s.vm.findClass y.cls = some m.cls → (∀ w ∈ BIG, w.before As.toArray s = true) → va_K (gD G) vwCl (gT G) s → GL G A s s.heap → (∀ q, s.heap.size ≤ q → A q) → va_P (gD G) vwCl C s.heap → va_D A C → va_S A s.heap s.heap [] → lv_has ls maxL (lv_args 0 As) →
      (∀ (H : Heap) (locs : List Loc) (ls : Array Slot) (pc : Nat) (x : β), x = res → decode cc pc = .ok (.return_, 1) → va_P (gD G) vwCl (Cf x) H → va_D A (Cf x) → va_S A s.heap H locs → W p l e { frames := fr, cells := 0, slots := 0, locals := lo } s m As.toArray below meth c H locs 0 0 Q (F0 m pc ls [])) →
      W p l e { frames := fr, cells := 0, slots := 0, locals := lo } s m As.toArray below meth c s.heap [] 0 0 Q (F0 m 0 ls [])) : CT G l y cc maxL none fr lo As C (Cf res) none := by
  intro sz
  refine Met_ofWF hy rfl ?_
  intro p e s m args below meth c s₁ B hml hv
  obtain ⟨rfl, hsz, hP, hK, hD0, hG⟩ := hv
  subst hsz
  have hx := B.exec
  have hb := B.bytes
  have hr := B.returns
  have hlocks := B.notSynchronized
  have hts := atoms_spec (ws := Cond.code y cc maxL none :: BIG) B.pre
  rw [lg_entry_eq]
  refine body p e s m below meth c (va_A C s.heap.size) _ _ hx hb hml (findClass_of_methodNamed B.named) (fun w h => hts w (List.mem_cons_of_mem _ h)) hK hG (fun q h => Or.inr h) hP hD0.self va_S.rf (lv_entry As hle) ?_
  intro H locs ls pc x hxr hd hP hD hS
  subst hxr
  exact W.vret hx hb hr (fun t ht hW => ⟨⟨rfl, by rw [ht]; exact hP, hD⟩, hS.F ht⟩) hS.2.2 hd
theorem ctA {β : Type} {res : β} (Cf : β → va_W) (vf : β → Nat) {rt : FieldType} (hrt : (∃ n, rt = .object n) ∨ ∃ t, rt = .array t) (hy : plainFor y = true) (hle : (lg_sl As).length ≤ maxL)
    (body : ∀ (p : Program) (e : Env) (s : State) (m : MethodId) (below : List Frame) (meth : Method) (c : Code) (A : Nat → Prop) (ls : Array Slot) (Q : State → Prop), p.tables.exec = Jvm.exec → c.code = cc → c.maxLocals = maxL → s.vm.findClass y.cls = some m.cls → (∀ w ∈ BIG, w.before As.toArray s = true) → va_K (gD G) vwCl (gT G) s → GL G A s s.heap → (∀ q, s.heap.size ≤ q → A q) → va_P (gD G) vwCl C s.heap → va_D A C → va_S A s.heap s.heap [] → lv_has ls maxL (lv_args 0 As) →
      (∀ (H : Heap) (locs : List Loc) (ls : Array Slot) (pc : Nat) (x : β), x = res → decode cc pc = .ok (.areturn, 1) → va_P (gD G) vwCl (Cf x) H → va_D A (Cf x) → va_S A s.heap H locs → W p l e { frames := fr, cells := 0, slots := 0, locals := lo } s m As.toArray below meth c H locs 0 0 Q (F0 m pc ls [.ref (vf x)])) →
      W p l e { frames := fr, cells := 0, slots := 0, locals := lo } s m As.toArray below meth c s.heap [] 0 0 Q (F0 m 0 ls [])) : CT G l y cc maxL (some rt) fr lo As C (Cf res) (some (.ref (vf res))) := by
  intro sz
  refine Met_ofWF hy rfl ?_
  intro p e s m args below meth c s₁ B hml hv
  obtain ⟨rfl, hsz, hP, hK, hD0, hG⟩ := hv
  subst hsz
  have hx := B.exec
  have hb := B.bytes
  have hr := B.returns
  have hlocks := B.notSynchronized
  have hts := atoms_spec (ws := Cond.code y cc maxL (some rt) :: BIG) B.pre
  rw [lg_entry_eq]
  refine body p e s m below meth c (va_A C s.heap.size) _ _ hx hb hml (findClass_of_methodNamed B.named) (fun w h => hts w (List.mem_cons_of_mem _ h)) hK hG (fun q h => Or.inr h) hP hD0.self va_S.rf (lv_entry As hle) ?_
  intro H locs ls pc x hxr hd hP hD hS
  subst hxr
  exact W.aret hx hb hr hrt (Or.inr ⟨_, rfl⟩) (fun t ht hW => ⟨⟨rfl, by rw [ht]; exact hP, hD⟩, hS.F ht⟩) hS.2.2 hd
theorem ctN {β : Type} {res : β} (Cf : β → va_W) (vf : β → Int32) {rt : FieldType} (hnar : ∀ x, narrow rt (.int (vf x)) = .int (vf x)) (hy : plainFor y = true) (hle : (lg_sl As).length ≤ maxL)
    (body : ∀ (p : Program) (e : Env) (s : State) (m : MethodId) (below : List Frame) (meth : Method) (c : Code) (A : Nat → Prop) (ls : Array Slot) (Q : State → Prop), p.tables.exec = Jvm.exec → c.code = cc → c.maxLocals = maxL → s.vm.findClass y.cls = some m.cls → (∀ w ∈ BIG, w.before As.toArray s = true) → va_K (gD G) vwCl (gT G) s → GL G A s s.heap → (∀ q, s.heap.size ≤ q → A q) → va_P (gD G) vwCl C s.heap → va_D A C → va_S A s.heap s.heap [] → lv_has ls maxL (lv_args 0 As) →
      (∀ (H : Heap) (locs : List Loc) (ls : Array Slot) (pc : Nat) (x : β), x = res → decode cc pc = .ok (.ireturn, 1) → va_P (gD G) vwCl (Cf x) H → va_D A (Cf x) → va_S A s.heap H locs → W p l e { frames := fr, cells := 0, slots := 0, locals := lo } s m As.toArray below meth c H locs 0 0 Q (F0 m pc ls [.int (vf x)])) →
      W p l e { frames := fr, cells := 0, slots := 0, locals := lo } s m As.toArray below meth c s.heap [] 0 0 Q (F0 m 0 ls [])) : CT G l y cc maxL (some rt) fr lo As C (Cf res) (some (.int (vf res))) := by
  intro sz
  refine Met_ofWF hy rfl ?_
  intro p e s m args below meth c s₁ B hml hv
  obtain ⟨rfl, hsz, hP, hK, hD0, hG⟩ := hv
  subst hsz
  have hx := B.exec
  have hb := B.bytes
  have hr := B.returns
  have hlocks := B.notSynchronized
  have hts := atoms_spec (ws := Cond.code y cc maxL (some rt) :: BIG) B.pre
  rw [lg_entry_eq]
  refine body p e s m below meth c (va_A C s.heap.size) _ _ hx hb hml (findClass_of_methodNamed B.named) (fun w h => hts w (List.mem_cons_of_mem _ h)) hK hG (fun q h => Or.inr h) hP hD0.self va_S.rf (lv_entry As hle) ?_
  intro H locs ls pc x hxr hd hP hD hS
  subst hxr
  exact W.zret hx hb hr (hnar x) (fun t ht hW => ⟨⟨rfl, by rw [ht]; exact hP, hD⟩, hS.F ht⟩) hS.2.2 hd
end CTS
section RW
variable {p : Program} {l : Launch} {e : Env} {R : Room} {s : State} {m : MethodId} {args : Array Value} {below : List Frame} {meth : Method} {c : Code} {H : Heap} {locs : List Loc} {cells slots : Nat} {Q : State → Prop}
variable {cc : ByteArray} {pc : Nat} {ls : Array Slot} {rest : List Value} {G : GT} {A : Nat → Prop} {a : Nat} {ws W1 : va_W} {nL : Nat} {β : Type} {r : β}
theorem if_eq (hx : p.tables.exec = Jvm.exec) (hb : c.code = cc) {x : Int32} {off : Int} {tgt : Nat} (hdg : decode cc pc = .ok (.ifCond .eq off, 3)) (ht : (pc : Int) + off = (tgt : Int)) {a1 b1 : Option β} (hm : (if x = 0 then a1 else b1) = some r)
    (kt : a1 = some r → W p l e R s m args below meth c H locs cells slots Q (F0 m tgt ls rest)) (kf : b1 = some r → W p l e R s m args below meth c H locs cells slots Q (F0 m (pc + 3) ls rest)) : W p l e R s m args below meth c H locs cells slots Q (F0 m pc ls (.int x :: rest)) :=
  lv_if_eq hx hb hdg ht (fun h => kt (((if_pos h).symm.trans hm))) (fun h => kf ((if_neg h).symm.trans hm))
theorem ic_eq (hx : p.tables.exec = Jvm.exec) (hb : c.code = cc) {x y : Int32} {off : Int} {tgt : Nat} (hdg : decode cc pc = .ok (.if_icmp .eq off, 3)) (ht : (pc : Int) + off = (tgt : Int)) {a1 b1 : Option β} (hm : (if x = y then a1 else b1) = some r)
    (kt : a1 = some r → W p l e R s m args below meth c H locs cells slots Q (F0 m tgt ls rest)) (kf : b1 = some r → W p l e R s m args below meth c H locs cells slots Q (F0 m (pc + 3) ls rest)) : W p l e R s m args below meth c H locs cells slots Q (F0 m pc ls (.int y :: .int x :: rest)) :=
  lv_icmp_eq hx hb hdg ht (fun h => kt (((if_pos h).symm.trans hm))) (fun h => kf ((if_neg h).symm.trans hm))
theorem if_ne (hx : p.tables.exec = Jvm.exec) (hb : c.code = cc) {x : Int32} {off : Int} {tgt : Nat} (hdg : decode cc pc = .ok (.ifCond .ne off, 3)) (ht : (pc : Int) + off = (tgt : Int)) {a1 b1 : Option β} (hm : (if x = 0 then a1 else b1) = some r)
    (kt : b1 = some r → W p l e R s m args below meth c H locs cells slots Q (F0 m tgt ls rest)) (kf : a1 = some r → W p l e R s m args below meth c H locs cells slots Q (F0 m (pc + 3) ls rest)) : W p l e R s m args below meth c H locs cells slots Q (F0 m pc ls (.int x :: rest)) :=
  lv_if_ne hx hb hdg ht (fun h => kt (((if_neg h).symm.trans hm))) (fun h => kf ((if_pos h).symm.trans hm))
theorem ic_ne (hx : p.tables.exec = Jvm.exec) (hb : c.code = cc) {x y : Int32} {off : Int} {tgt : Nat} (hdg : decode cc pc = .ok (.if_icmp .ne off, 3)) (ht : (pc : Int) + off = (tgt : Int)) {a1 b1 : Option β} (hm : (if x = y then a1 else b1) = some r)
    (kt : b1 = some r → W p l e R s m args below meth c H locs cells slots Q (F0 m tgt ls rest)) (kf : a1 = some r → W p l e R s m args below meth c H locs cells slots Q (F0 m (pc + 3) ls rest)) : W p l e R s m args below meth c H locs cells slots Q (F0 m pc ls (.int y :: .int x :: rest)) :=
  lv_icmp_ne hx hb hdg ht (fun h => kt (((if_neg h).symm.trans hm))) (fun h => kf ((if_pos h).symm.trans hm))
theorem if_lt (hx : p.tables.exec = Jvm.exec) (hb : c.code = cc) {x : Int32} {off : Int} {tgt : Nat} (hdg : decode cc pc = .ok (.ifCond .lt off, 3)) (ht : (pc : Int) + off = (tgt : Int)) {a1 b1 : Option β} (hm : (if x < 0 then a1 else b1) = some r)
    (kt : a1 = some r → W p l e R s m args below meth c H locs cells slots Q (F0 m tgt ls rest)) (kf : b1 = some r → W p l e R s m args below meth c H locs cells slots Q (F0 m (pc + 3) ls rest)) : W p l e R s m args below meth c H locs cells slots Q (F0 m pc ls (.int x :: rest)) :=
  lv_if_lt hx hb hdg ht (fun h => kt (((if_pos h).symm.trans hm))) (fun h => kf ((if_neg h).symm.trans hm))
theorem ic_lt (hx : p.tables.exec = Jvm.exec) (hb : c.code = cc) {x y : Int32} {off : Int} {tgt : Nat} (hdg : decode cc pc = .ok (.if_icmp .lt off, 3)) (ht : (pc : Int) + off = (tgt : Int)) {a1 b1 : Option β} (hm : (if x < y then a1 else b1) = some r)
    (kt : a1 = some r → W p l e R s m args below meth c H locs cells slots Q (F0 m tgt ls rest)) (kf : b1 = some r → W p l e R s m args below meth c H locs cells slots Q (F0 m (pc + 3) ls rest)) : W p l e R s m args below meth c H locs cells slots Q (F0 m pc ls (.int y :: .int x :: rest)) :=
  lv_icmp_lt hx hb hdg ht (fun h => kt (((if_pos h).symm.trans hm))) (fun h => kf ((if_neg h).symm.trans hm))
theorem if_ge (hx : p.tables.exec = Jvm.exec) (hb : c.code = cc) {x : Int32} {off : Int} {tgt : Nat} (hdg : decode cc pc = .ok (.ifCond .ge off, 3)) (ht : (pc : Int) + off = (tgt : Int)) {a1 b1 : Option β} (hm : (if 0 ≤ x then a1 else b1) = some r)
    (kt : a1 = some r → W p l e R s m args below meth c H locs cells slots Q (F0 m tgt ls rest)) (kf : b1 = some r → W p l e R s m args below meth c H locs cells slots Q (F0 m (pc + 3) ls rest)) : W p l e R s m args below meth c H locs cells slots Q (F0 m pc ls (.int x :: rest)) :=
  lv_if_ge hx hb hdg ht (fun h => kt (((if_pos h).symm.trans hm))) (fun h => kf ((if_neg h).symm.trans hm))
theorem ic_ge (hx : p.tables.exec = Jvm.exec) (hb : c.code = cc) {x y : Int32} {off : Int} {tgt : Nat} (hdg : decode cc pc = .ok (.if_icmp .ge off, 3)) (ht : (pc : Int) + off = (tgt : Int)) {a1 b1 : Option β} (hm : (if y ≤ x then a1 else b1) = some r)
    (kt : a1 = some r → W p l e R s m args below meth c H locs cells slots Q (F0 m tgt ls rest)) (kf : b1 = some r → W p l e R s m args below meth c H locs cells slots Q (F0 m (pc + 3) ls rest)) : W p l e R s m args below meth c H locs cells slots Q (F0 m pc ls (.int y :: .int x :: rest)) :=
  lv_icmp_ge hx hb hdg ht (fun h => kt (((if_pos h).symm.trans hm))) (fun h => kf ((if_neg h).symm.trans hm))
theorem if_gt (hx : p.tables.exec = Jvm.exec) (hb : c.code = cc) {x : Int32} {off : Int} {tgt : Nat} (hdg : decode cc pc = .ok (.ifCond .gt off, 3)) (ht : (pc : Int) + off = (tgt : Int)) {a1 b1 : Option β} (hm : (if 0 < x then a1 else b1) = some r)
    (kt : a1 = some r → W p l e R s m args below meth c H locs cells slots Q (F0 m tgt ls rest)) (kf : b1 = some r → W p l e R s m args below meth c H locs cells slots Q (F0 m (pc + 3) ls rest)) : W p l e R s m args below meth c H locs cells slots Q (F0 m pc ls (.int x :: rest)) :=
  lv_if_gt hx hb hdg ht (fun h => kt (((if_pos h).symm.trans hm))) (fun h => kf ((if_neg h).symm.trans hm))
theorem ic_gt (hx : p.tables.exec = Jvm.exec) (hb : c.code = cc) {x y : Int32} {off : Int} {tgt : Nat} (hdg : decode cc pc = .ok (.if_icmp .gt off, 3)) (ht : (pc : Int) + off = (tgt : Int)) {a1 b1 : Option β} (hm : (if y < x then a1 else b1) = some r)
    (kt : a1 = some r → W p l e R s m args below meth c H locs cells slots Q (F0 m tgt ls rest)) (kf : b1 = some r → W p l e R s m args below meth c H locs cells slots Q (F0 m (pc + 3) ls rest)) : W p l e R s m args below meth c H locs cells slots Q (F0 m pc ls (.int y :: .int x :: rest)) :=
  lv_icmp_gt hx hb hdg ht (fun h => kt (((if_pos h).symm.trans hm))) (fun h => kf ((if_neg h).symm.trans hm))
theorem if_le (hx : p.tables.exec = Jvm.exec) (hb : c.code = cc) {x : Int32} {off : Int} {tgt : Nat} (hdg : decode cc pc = .ok (.ifCond .le off, 3)) (ht : (pc : Int) + off = (tgt : Int)) {a1 b1 : Option β} (hm : (if x ≤ 0 then a1 else b1) = some r)
    (kt : a1 = some r → W p l e R s m args below meth c H locs cells slots Q (F0 m tgt ls rest)) (kf : b1 = some r → W p l e R s m args below meth c H locs cells slots Q (F0 m (pc + 3) ls rest)) : W p l e R s m args below meth c H locs cells slots Q (F0 m pc ls (.int x :: rest)) :=
  lv_if_le hx hb hdg ht (fun h => kt (((if_pos h).symm.trans hm))) (fun h => kf ((if_neg h).symm.trans hm))
theorem ic_le (hx : p.tables.exec = Jvm.exec) (hb : c.code = cc) {x y : Int32} {off : Int} {tgt : Nat} (hdg : decode cc pc = .ok (.if_icmp .le off, 3)) (ht : (pc : Int) + off = (tgt : Int)) {a1 b1 : Option β} (hm : (if x ≤ y then a1 else b1) = some r)
    (kt : a1 = some r → W p l e R s m args below meth c H locs cells slots Q (F0 m tgt ls rest)) (kf : b1 = some r → W p l e R s m args below meth c H locs cells slots Q (F0 m (pc + 3) ls rest)) : W p l e R s m args below meth c H locs cells slots Q (F0 m pc ls (.int y :: .int x :: rest)) :=
  lv_icmp_le hx hb hdg ht (fun h => kt (((if_pos h).symm.trans hm))) (fun h => kf ((if_neg h).symm.trans hm))
theorem ag_elim {α : Type} {f : Nat → α} {n : Nat} {i : Int32} {k : α → Option β} (h : ag f n i k = some r) : vp_in i n ∧ k (f i.toNatClampNeg) = some r := by
  unfold ag at h
  by_cases q : inb i n = true
  · rw [if_pos q] at h; exact ⟨inb_in q, h⟩
  · rw [if_neg q] at h; cases h
theorem au_elim {f : Nat → Int32} {n : Nat} {i x : Int32} {k : (Nat → Int32) → Option β} (h : au f n i x k = some r) : vp_in i n ∧ k (upd f i.toNatClampNeg x) = some r := by
  unfold au at h
  by_cases q : inb i n = true
  · rw [if_pos q] at h; exact ⟨inb_in q, h⟩
  · rw [if_neg q] at h; cases h
theorem al_elim {f : Nat → Int64} {n : Nat} {i : Int32} {x : Int64} {k : (Nat → Int64) → Option β} (h : al f n i x k = some r) : vp_in i n ∧ k (vp_updL f i.toNatClampNeg x) = some r := by
  unfold al at h
  by_cases q : inb i n = true
  · rw [if_pos q] at h; exact ⟨inb_in q, h⟩
  · rw [if_neg q] at h; cases h
theorem az_elim {f : Nat → Int32} {n : Nat} {i x : Int32} {k : (Nat → Int32) → Option β} (h : az f n i x k = some r) : vp_in i n ∧ k (upd f i.toNatClampNeg (vp_nar .boolean x)) = some r := by
  unfold az at h
  by_cases q : inb i n = true
  · rw [if_pos q] at h; exact ⟨inb_in q, h⟩
  · rw [if_neg q] at h; cases h
theorem zg_elim {v : Int32} {k : Option β} (h : zg v k = some r) : (v = 0 ∨ v = 1) ∧ k = some r := by
  unfold zg at h
  by_cases q : v = 0 ∨ v = 1
  · rw [if_pos q] at h; exact ⟨q, h⟩
  · rw [if_neg q] at h; cases h
theorem fgd_elim {x : UInt64} {k : UInt64 → Option β} (h : fgd x k = some r) : vf_n64 x ∧ k x = some r := by
  unfold fgd at h
  by_cases q : x &&& 0x7fffffffffffffff ≤ 0x7ff0000000000000
  · rw [if_pos q] at h; exact ⟨q, h⟩
  · rw [if_neg q] at h; cases h
theorem fgf_elim {x : UInt32} {k : UInt32 → Option β} (h : fgf x k = some r) : vf_n32 x ∧ k x = some r := by
  unfold fgf at h
  by_cases q : x &&& 0x7fffffff ≤ 0x7f800000
  · rw [if_pos q] at h; exact ⟨q, h⟩
  · rw [if_neg q] at h; cases h
theorem cpi_elim {α : Type} {f g : Nat → α} {n0 n1 : Nat} {sp dp n : Int32} {k : (Nat → α) → Option β} (h : cpi f g n0 n1 sp dp n k = some r) : cpb sp dp n n0 n1 = true ∧ k (va_cpy f g sp.toNatClampNeg dp.toNatClampNeg n.toNatClampNeg) = some r := by
  unfold cpi at h
  by_cases q : cpb sp dp n n0 n1 = true
  · rw [if_pos q] at h; exact ⟨q, h⟩
  · rw [if_neg q] at h; cases h
theorem cpz_elim {f g : Nat → Int32} {n0 n1 : Nat} {sp dp n : Int32} {k : (Nat → Int32) → Option β} (h : cpz f g n0 n1 sp dp n k = some r) : (cpb sp dp n n0 n1 = true ∧ ∀ i, i < n.toNatClampNeg → f (sp.toNatClampNeg + i) = 0 ∨ f (sp.toNatClampNeg + i) = 1) ∧ k (va_cpy f g sp.toNatClampNeg dp.toNatClampNeg n.toNatClampNeg) = some r := by
  unfold cpz at h
  by_cases q : cpb sp dp n n0 n1 = true ∧ ∀ i, i < n.toNatClampNeg → f (sp.toNatClampNeg + i) = 0 ∨ f (sp.toNatClampNeg + i) = 1
  · rw [if_pos q] at h; exact ⟨q, h⟩
  · rw [if_neg q] at h; cases h
theorem w_iald (hx : p.tables.exec = Jvm.exec) (hb : c.code = cc) (hK : va_K (gD G) vwCl (gT G) s) (hP : va_P (gD G) vwCl ws H) (q0 : Nat) {n : Nat} {f : Nat → Int32} (ha : ws[q0]? = some (a, .inl (gI G, n, .inl f))) {i : Int32} {k : Int32 → Option β} (hm : ag f n i k = some r) (hdg : decode cc pc = .ok (.iaload, 1))
    (kk : ∀ v : Int32, k v = some r → W p l e R s m args below meth c H locs cells slots Q (F0 m (pc + 1) ls (.int v :: rest))) : W p l e R s m args below meth c H locs cells slots Q (F0 m pc ls (.int i :: .ref a :: rest)) :=
  va_iald hx hb hK hP q0 0 ha rfl (ag_elim hm).1 hdg (kk _ (ag_elim hm).2)
theorem w_zald (hx : p.tables.exec = Jvm.exec) (hb : c.code = cc) (hK : va_K (gD G) vwCl (gT G) s) (hP : va_P (gD G) vwCl ws H) (q0 : Nat) {n : Nat} {f : Nat → Int32} (ha : ws[q0]? = some (a, .inl (gZ G, n, .inl f))) {i : Int32} {k : Int32 → Option β} (hm : ag f n i k = some r) (hdg : decode cc pc = .ok (.baload, 1))
    (kk : ∀ v : Int32, k v = some r → W p l e R s m args below meth c H locs cells slots Q (F0 m (pc + 1) ls (.int v :: rest))) : W p l e R s m args below meth c H locs cells slots Q (F0 m pc ls (.int i :: .ref a :: rest)) :=
  va_zald hx hb hK hP q0 2 ha rfl (ag_elim hm).1 hdg (kk _ (ag_elim hm).2)
theorem w_lald (hx : p.tables.exec = Jvm.exec) (hb : c.code = cc) (hK : va_K (gD G) vwCl (gT G) s) (hP : va_P (gD G) vwCl ws H) (q0 : Nat) {n : Nat} {f : Nat → Int64} (ha : ws[q0]? = some (a, .inl (gJ G, n, .inr (.inl f)))) {i : Int32} {k : Int64 → Option β} (hm : ag f n i k = some r) (hdg : decode cc pc = .ok (.laload, 1))
    (kk : ∀ v : Int64, k v = some r → W p l e R s m args below meth c H locs cells slots Q (F0 m (pc + 1) ls (.long v :: rest))) : W p l e R s m args below meth c H locs cells slots Q (F0 m pc ls (.int i :: .ref a :: rest)) :=
  va_lald hx hb hK hP q0 1 ha rfl (ag_elim hm).1 hdg (kk _ (ag_elim hm).2)
theorem w_tabL (hx : p.tables.exec = Jvm.exec) (hb : c.code = cc) (hG : GL G A s s.heap) (hS : va_S A s.heap H locs) {i : Int32} {k : Int32 → Option β} (hm : ag tabL 5 i k = some r) (hdg : decode cc pc = .ok (.iaload, 1))
    (kk : ∀ v : Int32, k v = some r → W p l e R s m args below meth c H locs cells slots Q (F0 m (pc + 1) ls (.int v :: rest))) : W p l e R s m args below meth c H locs cells slots Q (F0 m pc ls (.int i :: .ref (gL G) :: rest)) :=
  va_ti hx hb hG.1.2 hS (ag_elim hm).1 rfl hdg (kk _ (ag_elim hm).2)
theorem w_tabG (hx : p.tables.exec = Jvm.exec) (hb : c.code = cc) (hG : GL G A s s.heap) (hS : va_S A s.heap H locs) {i : Int32} {k : Int32 → Option β} (hm : ag tabG 5 i k = some r) (hdg : decode cc pc = .ok (.iaload, 1))
    (kk : ∀ v : Int32, k v = some r → W p l e R s m args below meth c H locs cells slots Q (F0 m (pc + 1) ls (.int v :: rest))) : W p l e R s m args below meth c H locs cells slots Q (F0 m pc ls (.int i :: .ref (gG G) :: rest)) :=
  va_ti hx hb hG.2.1.2 hS (ag_elim hm).1 rfl hdg (kk _ (ag_elim hm).2)
theorem w_gstL (hx : p.tables.exec = Jvm.exec) (hb : c.code = cc) {own : String} {index : Nat} (hts : ∀ w ∈ BIG, w.before args s = true) (hG : GL G A s s.heap) (hS : va_S A s.heap H locs) (hown : s.vm.findClass own = some m.cls) (hl : Cond.fieldLink own index "DigOrder" "LEAST" "[I" ∈ BIG) (hdg : decode cc pc = .ok (.getstatic index, 3))
    (kk : W p l e R s m args below meth c H locs cells slots Q (F0 m (pc + 3) ls (.ref (gL G) :: rest))) : W p l e R s m args below meth c H locs cells slots Q (F0 m pc ls rest) :=
  va_gets hx hb hG.1.1 hS hown (hts _ hl) (fun _ h => h) hdg kk
theorem w_gstNL (hx : p.tables.exec = Jvm.exec) (hb : c.code = cc) {own host : String} {index : Nat} (hG : GL G A s s.heap) (hS : va_S A s.heap H locs) (hown : s.vm.findClass own = some m.cls) (hl : (own, index, "DigOrder", "LEAST", "[I", host) ∈ nestF) (hdg : decode cc pc = .ok (.getstatic index, 3))
    (kk : W p l e R s m args below meth c H locs cells slots Q (F0 m (pc + 3) ls (.ref (gL G) :: rest))) : W p l e R s m args below meth c H locs cells slots Q (F0 m pc ls rest) :=
  va_getsN hx hb hG.1.1 hS hown (va_Nw.use rfl (hG.2.2.2.2.2.2.2 _ hl)) (fun _ h => h) hdg kk
theorem w_gstG (hx : p.tables.exec = Jvm.exec) (hb : c.code = cc) {own : String} {index : Nat} (hts : ∀ w ∈ BIG, w.before args s = true) (hG : GL G A s s.heap) (hS : va_S A s.heap H locs) (hown : s.vm.findClass own = some m.cls) (hl : Cond.fieldLink own index "DigOrder" "GREATEST" "[I" ∈ BIG) (hdg : decode cc pc = .ok (.getstatic index, 3))
    (kk : W p l e R s m args below meth c H locs cells slots Q (F0 m (pc + 3) ls (.ref (gG G) :: rest))) : W p l e R s m args below meth c H locs cells slots Q (F0 m pc ls rest) :=
  va_gets hx hb hG.2.1.1 hS hown (hts _ hl) (fun _ h => h) hdg kk
theorem w_gstNG (hx : p.tables.exec = Jvm.exec) (hb : c.code = cc) {own host : String} {index : Nat} (hG : GL G A s s.heap) (hS : va_S A s.heap H locs) (hown : s.vm.findClass own = some m.cls) (hl : (own, index, "DigOrder", "GREATEST", "[I", host) ∈ nestF) (hdg : decode cc pc = .ok (.getstatic index, 3))
    (kk : W p l e R s m args below meth c H locs cells slots Q (F0 m (pc + 3) ls (.ref (gG G) :: rest))) : W p l e R s m args below meth c H locs cells slots Q (F0 m pc ls rest) :=
  va_getsN hx hb hG.2.1.1 hS hown (va_Nw.use rfl (hG.2.2.2.2.2.2.2 _ hl)) (fun _ h => h) hdg kk
theorem w_iast (hx : p.tables.exec = Jvm.exec) (hb : c.code = cc) (hK : va_K (gD G) vwCl (gT G) s) (hP : va_P (gD G) vwCl ws H) (hD : va_D A ws) (hS : va_S A s.heap H locs) (q0 : Nat) {n : Nat} {f : Nat → Int32} (ha : ws[q0]? = some (a, .inl (gI G, n, .inl f))) {i : Int32} {x : Int32} {k : (Nat → Int32) → Option β} (hm : au f n i x k = some r) (hdg : decode cc pc = .ok (.iastore, 1))
    (W2 : (Nat → Int32) → va_W) (hW : ∀ g : Nat → Int32, ws.set q0 (a, .inl (gI G, n, .inl g)) = W2 g)
    (kk : ∀ (g : Nat → Int32) (H1 : Heap) (locs1 : List Loc), k g = some r → va_P (gD G) vwCl (W2 g) H1 → va_D A (W2 g) → va_S A s.heap H1 locs1 → W p l e R s m args below meth c H1 locs1 cells slots Q (F0 m (pc + 1) ls rest)) : W p l e R s m args below meth c H locs cells slots Q (F0 m pc ls (.int x :: .int i :: .ref a :: rest)) := by
  refine va_iast hx hb hK hP hD hS q0 0 ha rfl (au_elim hm).1 hdg (fun H1 locs1 hP hD hS => ?_)
  rw [hW] at hP hD
  exact kk _ H1 locs1 (au_elim hm).2 hP hD hS
theorem w_zast (hx : p.tables.exec = Jvm.exec) (hb : c.code = cc) (hK : va_K (gD G) vwCl (gT G) s) (hP : va_P (gD G) vwCl ws H) (hD : va_D A ws) (hS : va_S A s.heap H locs) (q0 : Nat) {n : Nat} {f : Nat → Int32} (ha : ws[q0]? = some (a, .inl (gZ G, n, .inl f))) {i : Int32} {x : Int32} {k : (Nat → Int32) → Option β} (hm : az f n i x k = some r) (hdg : decode cc pc = .ok (.bastore, 1))
    (W2 : (Nat → Int32) → va_W) (hW : ∀ g : Nat → Int32, ws.set q0 (a, .inl (gZ G, n, .inl g)) = W2 g)
    (kk : ∀ (g : Nat → Int32) (H1 : Heap) (locs1 : List Loc), k g = some r → va_P (gD G) vwCl (W2 g) H1 → va_D A (W2 g) → va_S A s.heap H1 locs1 → W p l e R s m args below meth c H1 locs1 cells slots Q (F0 m (pc + 1) ls rest)) : W p l e R s m args below meth c H locs cells slots Q (F0 m pc ls (.int x :: .int i :: .ref a :: rest)) := by
  refine va_zast hx hb hK hP hD hS q0 2 ha rfl (az_elim hm).1 hdg (fun H1 locs1 hP hD hS => ?_)
  rw [hW] at hP hD
  exact kk _ H1 locs1 (az_elim hm).2 hP hD hS
theorem w_last (hx : p.tables.exec = Jvm.exec) (hb : c.code = cc) (hK : va_K (gD G) vwCl (gT G) s) (hP : va_P (gD G) vwCl ws H) (hD : va_D A ws) (hS : va_S A s.heap H locs) (q0 : Nat) {n : Nat} {f : Nat → Int64} (ha : ws[q0]? = some (a, .inl (gJ G, n, .inr (.inl f)))) {i : Int32} {x : Int64} {k : (Nat → Int64) → Option β} (hm : al f n i x k = some r) (hdg : decode cc pc = .ok (.lastore, 1))
    (W2 : (Nat → Int64) → va_W) (hW : ∀ g : Nat → Int64, ws.set q0 (a, .inl (gJ G, n, .inr (.inl g))) = W2 g)
    (kk : ∀ (g : Nat → Int64) (H1 : Heap) (locs1 : List Loc), k g = some r → va_P (gD G) vwCl (W2 g) H1 → va_D A (W2 g) → va_S A s.heap H1 locs1 → W p l e R s m args below meth c H1 locs1 cells slots Q (F0 m (pc + 1) ls rest)) : W p l e R s m args below meth c H locs cells slots Q (F0 m pc ls (.long x :: .int i :: .ref a :: rest)) := by
  refine va_last hx hb hK hP hD hS q0 1 ha rfl (al_elim hm).1 hdg (fun H1 locs1 hP hD hS => ?_)
  rw [hW] at hP hD
  exact kk _ H1 locs1 (al_elim hm).2 hP hD hS
theorem nmi {x : Int32} {k : Int32 → Option β} (hm : lt x k = some r) (kk : ∀ v : Int32, k v = some r → W p l e R s m args below meth c H locs cells slots Q (F0 m pc ls (.int v :: rest))) : W p l e R s m args below meth c H locs cells slots Q (F0 m pc ls (.int x :: rest)) := kk x hm
theorem nml {x : Int64} {k : Int64 → Option β} (hm : lt x k = some r) (kk : ∀ v : Int64, k v = some r → W p l e R s m args below meth c H locs cells slots Q (F0 m pc ls (.long v :: rest))) : W p l e R s m args below meth c H locs cells slots Q (F0 m pc ls (.long x :: rest)) := kk x hm
theorem nmf {x : UInt32} {k : UInt32 → Option β} (hm : lt x k = some r) (kk : ∀ v : UInt32, k v = some r → W p l e R s m args below meth c H locs cells slots Q (F0 m pc ls (.float v :: rest))) : W p l e R s m args below meth c H locs cells slots Q (F0 m pc ls (.float x :: rest)) := kk x hm
theorem nmd {x : UInt64} {k : UInt64 → Option β} (hm : lt x k = some r) (kk : ∀ v : UInt64, k v = some r → W p l e R s m args below meth c H locs cells slots Q (F0 m pc ls (.double v :: rest))) : W p l e R s m args below meth c H locs cells slots Q (F0 m pc ls (.double x :: rest)) := kk x hm
theorem w_dadd (hx : p.tables.exec = Jvm.exec) (hb : c.code = cc) {x y : UInt64} {k : UInt64 → Option β} (hm : fgd (FP.dadd x y) k = some r) (hdg : decode cc pc = .ok (.dadd, 1))
    (kk : ∀ v : UInt64, k v = some r → W p l e R s m args below meth c H locs cells slots Q (F0 m (pc + 1) ls (.double v :: rest))) : W p l e R s m args below meth c H locs cells slots Q (F0 m pc ls (.double y :: .double x :: rest)) := lv_dadd hx hb hdg (fgd_elim hm).1 (kk _ (fgd_elim hm).2)
theorem w_dsub (hx : p.tables.exec = Jvm.exec) (hb : c.code = cc) {x y : UInt64} {k : UInt64 → Option β} (hm : fgd (FP.dsub x y) k = some r) (hdg : decode cc pc = .ok (.dsub, 1))
    (kk : ∀ v : UInt64, k v = some r → W p l e R s m args below meth c H locs cells slots Q (F0 m (pc + 1) ls (.double v :: rest))) : W p l e R s m args below meth c H locs cells slots Q (F0 m pc ls (.double y :: .double x :: rest)) := lv_dsub hx hb hdg (fgd_elim hm).1 (kk _ (fgd_elim hm).2)
theorem w_dmul (hx : p.tables.exec = Jvm.exec) (hb : c.code = cc) {x y : UInt64} {k : UInt64 → Option β} (hm : fgd (FP.dmul x y) k = some r) (hdg : decode cc pc = .ok (.dmul, 1))
    (kk : ∀ v : UInt64, k v = some r → W p l e R s m args below meth c H locs cells slots Q (F0 m (pc + 1) ls (.double v :: rest))) : W p l e R s m args below meth c H locs cells slots Q (F0 m pc ls (.double y :: .double x :: rest)) := lv_dmul hx hb hdg (fgd_elim hm).1 (kk _ (fgd_elim hm).2)
theorem w_ddiv (hx : p.tables.exec = Jvm.exec) (hb : c.code = cc) {x y : UInt64} {k : UInt64 → Option β} (hm : fgd (FP.ddiv x y) k = some r) (hdg : decode cc pc = .ok (.ddiv, 1))
    (kk : ∀ v : UInt64, k v = some r → W p l e R s m args below meth c H locs cells slots Q (F0 m (pc + 1) ls (.double v :: rest))) : W p l e R s m args below meth c H locs cells slots Q (F0 m pc ls (.double y :: .double x :: rest)) := lv_ddiv hx hb hdg (fgd_elim hm).1 (kk _ (fgd_elim hm).2)
theorem w_fsub (hx : p.tables.exec = Jvm.exec) (hb : c.code = cc) {x y : UInt32} {k : UInt32 → Option β} (hm : fgf (FP.fsub x y) k = some r) (hdg : decode cc pc = .ok (.fsub, 1))
    (kk : ∀ v : UInt32, k v = some r → W p l e R s m args below meth c H locs cells slots Q (F0 m (pc + 1) ls (.float v :: rest))) : W p l e R s m args below meth c H locs cells slots Q (F0 m pc ls (.float y :: .float x :: rest)) := lv_fsub hx hb hdg (fgf_elim hm).1 (kk _ (fgf_elim hm).2)
theorem w_fmul (hx : p.tables.exec = Jvm.exec) (hb : c.code = cc) {x y : UInt32} {k : UInt32 → Option β} (hm : fgf (FP.fmul x y) k = some r) (hdg : decode cc pc = .ok (.fmul, 1))
    (kk : ∀ v : UInt32, k v = some r → W p l e R s m args below meth c H locs cells slots Q (F0 m (pc + 1) ls (.float v :: rest))) : W p l e R s m args below meth c H locs cells slots Q (F0 m pc ls (.float y :: .float x :: rest)) := lv_fmul hx hb hdg (fgf_elim hm).1 (kk _ (fgf_elim hm).2)
theorem w_fdiv (hx : p.tables.exec = Jvm.exec) (hb : c.code = cc) {x y : UInt32} {k : UInt32 → Option β} (hm : fgf (FP.fdiv x y) k = some r) (hdg : decode cc pc = .ok (.fdiv, 1))
    (kk : ∀ v : UInt32, k v = some r → W p l e R s m args below meth c H locs cells slots Q (F0 m (pc + 1) ls (.float v :: rest))) : W p l e R s m args below meth c H locs cells slots Q (F0 m pc ls (.float y :: .float x :: rest)) := lv_fdiv hx hb hdg (fgf_elim hm).1 (kk _ (fgf_elim hm).2)
theorem w_get (hx : p.tables.exec = Jvm.exec) (hb : c.code = cc) {own C : String} {T : u_T} {N ci index : Nat} (hts : ∀ w ∈ BIG, w.before args s = true) (hin : ∀ w ∈ u_ws C T N, w ∈ BIG) (hown : s.vm.findClass own = some m.cls) (hK : va_K (gD G) vwCl (gT G) s) (hP : va_P (gD G) vwCl ws H) (q0 : Nat) {fs : List Value} (he : ws[q0]? = some (a, .inr (ci, fs))) (hc : vwCl[ci]? = some (C, T, N)) (k : Nat) (hk : k < N) (hl : Cond.fieldLink own index (T k).1 (T k).2.1 (T k).2.2.1 ∈ BIG) {v : Value} (hv : fs[k]? = some v) (hdg : decode cc pc = .ok (.getfield index, 3))
    (kk : W p l e R s m args below meth c H locs cells slots Q (F0 m (pc + 3) ls (v :: rest))) : W p l e R s m args below meth c H locs cells slots Q (F0 m pc ls (.ref a :: rest)) :=
  va_get hx hb hts hin hown hK hP q0 he hc k hk (hts _ hl) (fun _ h => h) hv hdg kk
theorem w_put (hx : p.tables.exec = Jvm.exec) (hb : c.code = cc) {own C : String} {T : u_T} {N ci index : Nat} (hts : ∀ w ∈ BIG, w.before args s = true) (hin : ∀ w ∈ u_ws C T N, w ∈ BIG) (ty0 : Nat → FieldType) (hty : ∀ k, k < N → parseFieldDescriptor (T k).2.2.1 = some (ty0 k)) (hnm : ∀ a, a < N → ∀ b, b < N → a ≠ b → (T a).2.1 ≠ (T b).2.1) (hown : s.vm.findClass own = some m.cls) (hK : va_K (gD G) vwCl (gT G) s) (hP : va_P (gD G) vwCl ws H) (hD : va_D A ws) (hS : va_S A s.heap H locs) (q0 : Nat) {fs : List Value} (he : ws[q0]? = some (a, .inr (ci, fs))) (hc : vwCl[ci]? = some (C, T, N)) (k : Nat) (hk : k < N) (hl : Cond.fieldLink own index (T k).1 (T k).2.1 (T k).2.2.1 ∈ BIG) (hfin : (T k).2.2.2 = false) {v : Value} (hn : narrow (ty0 k) v = v) (hfit : fits (ty0 k) v = true) (hle : k < fs.length) (hdg : decode cc pc = .ok (.putfield index, 3)) (hW : ws.set q0 (a, .inr (ci, fs.set k v)) = W1)
    (kk : ∀ (H1 : Heap) (locs1 : List Loc), va_P (gD G) vwCl W1 H1 → va_D A W1 → va_S A s.heap H1 locs1 → W p l e R s m args below meth c H1 locs1 cells slots Q (F0 m (pc + 3) ls rest)) : W p l e R s m args below meth c H locs cells slots Q (F0 m pc ls (v :: .ref a :: rest)) := by
  refine va_put hx hb hts hin ty0 hty hnm hown hK hP hD hS q0 he hc k hk (hts _ hl) (fun _ h => h) hfin (hty k hk) hn hfit hle hdg (fun H1 locs1 hP hD hS => ?_)
  rw [hW] at hP hD
  exact kk H1 locs1 hP hD hS
theorem w_max (hx : p.tables.exec = Jvm.exec) (hb : c.code = cc) (hml : c.maxLocals = nL) (hls : ls.size = nL) {own : String} {index : Nat} (hts : ∀ w ∈ BIG, w.before args s = true) (hown : s.vm.findClass own = some m.cls) (h1 : Cond.methodLink own index Lib.Math.max.name ∈ BIG) (h2 : Cond.static Lib.Math.max.name ∈ BIG) (h3 : Cond.initialized "java/lang/Math" ∈ BIG) (h4 : Cond.code Lib.Math.max.name Lib.Math.max.code 2 (some .int) ∈ BIG)
    (hf : 1 ≤ R.frames) (ho : (rest.map fun v => v.category).sum + 13 ≤ R.locals) (hcs : cells ≤ R.cells ∧ slots ≤ R.slots) {x y : Int32} (hdg : decode cc pc = .ok (.invokestatic index, 3)) {k : Int32 → Option β} (hm : lt (if x < y then y else x) k = some r)
    (kk : ∀ v : Int32, k v = some r → W p l e R s m args below meth c H locs cells slots Q (F0 m (pc + 3) ls (.int v :: rest))) : W p l e R s m args below meth c H locs cells slots Q (F0 m pc ls (.int y :: .int x :: rest)) :=
  va_mmax hx hb (hml.trans hls.symm) hown (hts _ h1) (hts _ h2) (hts _ h3) (hts _ h4) hf ho hcs.1 hcs.2 hdg (kk _ hm)
theorem w_min (hx : p.tables.exec = Jvm.exec) (hb : c.code = cc) (hml : c.maxLocals = nL) (hls : ls.size = nL) {own : String} {index : Nat} (hts : ∀ w ∈ BIG, w.before args s = true) (hown : s.vm.findClass own = some m.cls) (h1 : Cond.methodLink own index Lib.Math.min.name ∈ BIG) (h2 : Cond.static Lib.Math.min.name ∈ BIG) (h3 : Cond.initialized "java/lang/Math" ∈ BIG) (h4 : Cond.code Lib.Math.min.name Lib.Math.min.code 2 (some .int) ∈ BIG)
    (hf : 1 ≤ R.frames) (ho : (rest.map fun v => v.category).sum + 13 ≤ R.locals) (hcs : cells ≤ R.cells ∧ slots ≤ R.slots) {x y : Int32} (hdg : decode cc pc = .ok (.invokestatic index, 3)) {k : Int32 → Option β} (hm : lt (if y < x then y else x) k = some r)
    (kk : ∀ v : Int32, k v = some r → W p l e R s m args below meth c H locs cells slots Q (F0 m (pc + 3) ls (.int v :: rest))) : W p l e R s m args below meth c H locs cells slots Q (F0 m pc ls (.int y :: .int x :: rest)) :=
  va_mmin hx hb (hml.trans hls.symm) hown (hts _ h1) (hts _ h2) (hts _ h3) (hts _ h4) hf ho hcs.1 hcs.2 hdg (kk _ hm)
theorem w_copyi (hx : p.tables.exec = Jvm.exec) (hb : c.code = cc) (hml : c.maxLocals = nL) (hls : ls.size = nL) {own : String} {index : Nat} (hts : ∀ w ∈ BIG, w.before args s = true) (hown : s.vm.findClass own = some m.cls) (h1 : Cond.methodLink own index arraycopyName ∈ BIG) (h2 : Cond.native arraycopyName ∈ BIG) (h3 : Cond.static arraycopyName ∈ BIG) (h4 : Cond.initialized "java/lang/System" ∈ BIG)
    (hK : va_K (gD G) vwCl (gT G) s) (hP : va_P (gD G) vwCl ws H) (hD : va_D A ws) (hS : va_S A s.heap H locs) (q0 q1 : Nat) {a0 n0 n1 : Nat} {f g : Nat → Int32} (ha0 : ws[q0]? = some (a0, .inl (gI G, n0, .inl f))) (ha1 : ws[q1]? = some (a, .inl (gI G, n1, .inl g))) {sp dp n : Int32} {k : (Nat → Int32) → Option β} (hm : cpi f g n0 n1 sp dp n k = some r)
    (hf : 1 ≤ R.frames) (ho : (rest.map fun v => v.category).sum + (nativeFrameWords "java/lang/System" "arraycopy" 5 + 11) ≤ R.locals) (hdg : decode cc pc = .ok (.invokestatic index, 3)) (W2 : (Nat → Int32) → va_W) (hW : ∀ g : Nat → Int32, ws.set q1 (a, .inl (gI G, n1, .inl g)) = W2 g)
    (kk : ∀ (g : Nat → Int32) (H1 : Heap) (locs1 : List Loc), k g = some r → va_P (gD G) vwCl (W2 g) H1 → va_D A (W2 g) → va_S A s.heap H1 locs1 → W p l e R s m args below meth c H1 locs1 cells slots Q (F0 m (pc + 3) ls rest)) : W p l e R s m args below meth c H locs cells slots Q (F0 m pc ls (.int n :: .int dp :: .ref a :: .int sp :: .ref a0 :: rest)) := by
  obtain ⟨h9, hm⟩ := cpi_elim hm
  obtain ⟨b1, b2, b3, b4, b5⟩ := cpb_spec h9
  refine va_copyi hx hb (hml.trans hls.symm) hown (hts _ h1) (hts _ h2) (hts _ h3) (hts _ h4) hK hP hD hS q0 q1 0 0 ha0 ha1 rfl rfl rfl b1 b2 b3 b4 b5 (fun _ _ => rfl) hf ho hdg (fun H1 locs1 hP hD hS => ?_)
  rw [hW] at hP hD
  exact kk _ H1 locs1 hm hP hD hS
theorem w_copyz (hx : p.tables.exec = Jvm.exec) (hb : c.code = cc) (hml : c.maxLocals = nL) (hls : ls.size = nL) {own : String} {index : Nat} (hts : ∀ w ∈ BIG, w.before args s = true) (hown : s.vm.findClass own = some m.cls) (h1 : Cond.methodLink own index arraycopyName ∈ BIG) (h2 : Cond.native arraycopyName ∈ BIG) (h3 : Cond.static arraycopyName ∈ BIG) (h4 : Cond.initialized "java/lang/System" ∈ BIG)
    (hK : va_K (gD G) vwCl (gT G) s) (hP : va_P (gD G) vwCl ws H) (hD : va_D A ws) (hS : va_S A s.heap H locs) (q0 q1 : Nat) {a0 n0 n1 : Nat} {f g : Nat → Int32} (ha0 : ws[q0]? = some (a0, .inl (gZ G, n0, .inl f))) (ha1 : ws[q1]? = some (a, .inl (gZ G, n1, .inl g))) {sp dp n : Int32} {k : (Nat → Int32) → Option β} (hm : cpz f g n0 n1 sp dp n k = some r)
    (hf : 1 ≤ R.frames) (ho : (rest.map fun v => v.category).sum + (nativeFrameWords "java/lang/System" "arraycopy" 5 + 11) ≤ R.locals) (hdg : decode cc pc = .ok (.invokestatic index, 3)) (W2 : (Nat → Int32) → va_W) (hW : ∀ g : Nat → Int32, ws.set q1 (a, .inl (gZ G, n1, .inl g)) = W2 g)
    (kk : ∀ (g : Nat → Int32) (H1 : Heap) (locs1 : List Loc), k g = some r → va_P (gD G) vwCl (W2 g) H1 → va_D A (W2 g) → va_S A s.heap H1 locs1 → W p l e R s m args below meth c H1 locs1 cells slots Q (F0 m (pc + 3) ls rest)) : W p l e R s m args below meth c H locs cells slots Q (F0 m pc ls (.int n :: .int dp :: .ref a :: .int sp :: .ref a0 :: rest)) := by
  obtain ⟨h9, hm⟩ := cpz_elim hm
  obtain ⟨b1, b2, b3, b4, b5⟩ := cpb_spec h9.1
  refine va_copyi hx hb (hml.trans hls.symm) hown (hts _ h1) (hts _ h2) (hts _ h3) (hts _ h4) hK hP hD hS q0 q1 2 2 ha0 ha1 rfl rfl rfl b1 b2 b3 b4 b5 (fun i hi => (by rcases h9.2 i hi with h | h <;> rw [h] <;> rfl)) hf ho hdg (fun H1 locs1 hP hD hS => ?_)
  rw [hW] at hP hD
  exact kk _ H1 locs1 hm hP hD hS
theorem w_copyl (hx : p.tables.exec = Jvm.exec) (hb : c.code = cc) (hml : c.maxLocals = nL) (hls : ls.size = nL) {own : String} {index : Nat} (hts : ∀ w ∈ BIG, w.before args s = true) (hown : s.vm.findClass own = some m.cls) (h1 : Cond.methodLink own index arraycopyName ∈ BIG) (h2 : Cond.native arraycopyName ∈ BIG) (h3 : Cond.static arraycopyName ∈ BIG) (h4 : Cond.initialized "java/lang/System" ∈ BIG)
    (hK : va_K (gD G) vwCl (gT G) s) (hP : va_P (gD G) vwCl ws H) (hD : va_D A ws) (hS : va_S A s.heap H locs) (q0 q1 : Nat) {a0 n0 n1 : Nat} {f g : Nat → Int64} (ha0 : ws[q0]? = some (a0, .inl (gJ G, n0, .inr (.inl f)))) (ha1 : ws[q1]? = some (a, .inl (gJ G, n1, .inr (.inl g)))) {sp dp n : Int32} {k : (Nat → Int64) → Option β} (hm : cpi f g n0 n1 sp dp n k = some r)
    (hf : 1 ≤ R.frames) (ho : (rest.map fun v => v.category).sum + (nativeFrameWords "java/lang/System" "arraycopy" 5 + 11) ≤ R.locals) (hdg : decode cc pc = .ok (.invokestatic index, 3)) (W2 : (Nat → Int64) → va_W) (hW : ∀ g : Nat → Int64, ws.set q1 (a, .inl (gJ G, n1, .inr (.inl g))) = W2 g)
    (kk : ∀ (g : Nat → Int64) (H1 : Heap) (locs1 : List Loc), k g = some r → va_P (gD G) vwCl (W2 g) H1 → va_D A (W2 g) → va_S A s.heap H1 locs1 → W p l e R s m args below meth c H1 locs1 cells slots Q (F0 m (pc + 3) ls rest)) : W p l e R s m args below meth c H locs cells slots Q (F0 m pc ls (.int n :: .int dp :: .ref a :: .int sp :: .ref a0 :: rest)) := by
  obtain ⟨h9, hm⟩ := cpi_elim hm
  obtain ⟨b1, b2, b3, b4, b5⟩ := cpb_spec h9
  refine va_copyl hx hb (hml.trans hls.symm) hown (hts _ h1) (hts _ h2) (hts _ h3) (hts _ h4) hK hP hD hS q0 q1 1 1 ha0 ha1 rfl rfl rfl b1 b2 b3 b4 b5 (fun _ _ => rfl) hf ho hdg (fun H1 locs1 hP hD hS => ?_)
  rw [hW] at hP hD
  exact kk _ H1 locs1 hm hP hD hS
theorem w_d2l (hx : p.tables.exec = Jvm.exec) (hb : c.code = cc) (hml : c.maxLocals = nL) (hls : ls.size = nL) {own : String} {index : Nat} (hts : ∀ w ∈ BIG, w.before args s = true) (hown : s.vm.findClass own = some m.cls) (h1 : Cond.methodLink own index ⟨"java/lang/Double", "doubleToRawLongBits", "(D)J"⟩ ∈ BIG) (h2 : Cond.native ⟨"java/lang/Double", "doubleToRawLongBits", "(D)J"⟩ ∈ BIG) (h3 : Cond.static ⟨"java/lang/Double", "doubleToRawLongBits", "(D)J"⟩ ∈ BIG) (h4 : Cond.initialized "java/lang/Double" ∈ BIG) {b : UInt64}
    (hf : 1 ≤ R.frames) (ho : (rest.map fun v => v.category).sum + 15 ≤ R.locals) (hdg : decode cc pc = .ok (.invokestatic index, 3)) (kk : W p l e R s m args below meth c H locs cells slots Q (F0 m (pc + 3) ls (.long b.toInt64 :: rest))) : W p l e R s m args below meth c H locs cells slots Q (F0 m pc ls (.double b :: rest)) :=
  vn_d2l hx hb (hml.trans hls.symm) hown (hts _ h1) (hts _ h2) (hts _ h3) (hts _ h4) hf ho hdg kk
theorem w_f2i (hx : p.tables.exec = Jvm.exec) (hb : c.code = cc) (hml : c.maxLocals = nL) (hls : ls.size = nL) {own : String} {index : Nat} (hts : ∀ w ∈ BIG, w.before args s = true) (hown : s.vm.findClass own = some m.cls) (h1 : Cond.methodLink own index ⟨"java/lang/Float", "floatToRawIntBits", "(F)I"⟩ ∈ BIG) (h2 : Cond.native ⟨"java/lang/Float", "floatToRawIntBits", "(F)I"⟩ ∈ BIG) (h3 : Cond.static ⟨"java/lang/Float", "floatToRawIntBits", "(F)I"⟩ ∈ BIG) (h4 : Cond.initialized "java/lang/Float" ∈ BIG) {b : UInt32}
    (hf : 1 ≤ R.frames) (ho : (rest.map fun v => v.category).sum + 15 ≤ R.locals) (hdg : decode cc pc = .ok (.invokestatic index, 3)) (kk : W p l e R s m args below meth c H locs cells slots Q (F0 m (pc + 3) ls (.int b.toInt32 :: rest))) : W p l e R s m args below meth c H locs cells slots Q (F0 m pc ls (.float b :: rest)) :=
  vn_f2i hx hb (hml.trans hls.symm) hown (hts _ h1) (hts _ h2) (hts _ h3) (hts _ h4) hf ho hdg kk
end RW
