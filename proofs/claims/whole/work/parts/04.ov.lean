/-! A method of java.lang.Math that the machine runs by an entry of its table of natives, though it has code. -/
theorem ov_some {tb : Tables} {e : Jvm.Env} {s : State} {f : JFrame} {k : Class} {x : Method} {row : NativeRow} (hpc : f.pc = 0) (hk : s.vm.classes[f.method.cls]? = some k) (hin : overriddenIn.contains k.name = true) (hb : k.loader = none) (hx : k.methods[f.method.idx]? = some x) (hrow : NativeRow.find? tb.natives k.name x.name x.desc = some row) : overridden tb e s f = some row := by
  unfold overridden
  rw [hpc, hk]
  simp only [hin, hb, hx, hrow]
  rfl
/-- what is read back out of the entry's locals: the arguments -/
def ovGiven (m : MethodId) (a : Array Value) (n k : Nat) : Array Value := ((entryFrame m a n).locals.toList.filterMap fun | .val v => some v | _ => none).toArray.extract 0 k
theorem ov_steps (p : Program) {e : Jvm.Env} {below : List Frame} {s target : State} {g : JFrame} {c : Code} (X : At s g.method c below)
    {m : MethodId} {meth : Method} {k : Class} {cm : Code} {a : Array Value} {row : NativeRow} {v : Value} {np : Nat} (acts : List Action)
    (hk : s.vm.classes[m.cls]? = some k) (hx : k.methods[m.idx]? = some meth) (hboot : k.loader = none) (hin : overriddenIn.contains k.name = true) (hrow : NativeRow.find? p.tables.natives k.name meth.name meth.desc = some row)
    (hnp : argCount s m = np) (hc : meth.code = some cm) (hl : meth.locks = false) (hgv : ovGiven m a cm.maxLocals np = a) (hrun : ∀ S : State, ∃ acts, (row.sem a).run e S = .ok (some v) S acts)
    (hfull : e.platform.stackFull (s.setTop g).me (s.setTop g).frames cm.maxLocals = false) {ig : Instr} {len : Nat} (hdg : decode c.code g.pc = .ok (ig, len))
    (hrest : Steps p.tables e below (s.setTop { g with pc := g.pc + len, stack := v :: g.stack }) target) :
    Steps p.tables e below (doInvoke e (s.setTop g) acts m a).1 target := by
  obtain ⟨g₀, hg⟩ := Option.isSome_iff_exists.mp X.top
  obtain ⟨r, hr⟩ := State.topJava?_eq_some.mp hg
  obtain ⟨mid, hmid⟩ := X.above
  have hcur : s.cur < s.threads.size := State.cur_lt_of_frames hr
  have hm : s.vm.method? m = some meth := by simp [Vm.method?, hk, hx]
  have htop : s.setTop g = s.setFrames (.java g :: r) := State.setTop_of_frames _ hr
  rw [(doInvoke_java (s := s.setTop g) (e := e) (acts := acts) (args := a) (meth := meth) (code := cm) hm hc hl hfull).1]
  have hU : (s.setTop g).pushFrame (.java { method := m, pc := 0, locals := argsToLocals a cm.maxLocals, stack := [], locked := none }) = s.setFrames (.java (entryFrame m a cm.maxLocals) :: .java g :: r) := by
    rw [State.pushFrame, State.frames_setTop _ hr, htop, State.setFrames_setFrames]
    rfl
  rw [hU]
  have hf1 : (s.setFrames (.java (entryFrame m a cm.maxLocals) :: .java g :: r)).frames = .java (entryFrame m a cm.maxLocals) :: .java g :: r := State.frames_setFrames _ hcur
  have hov : overridden p.tables e (s.setFrames (.java (entryFrame m a cm.maxLocals) :: .java g :: r)) (entryFrame m a cm.maxLocals) = some row := ov_some (k := k) (x := meth) rfl hk hin hboot hx hrow
  have hcode : ∀ F : List Frame, (s.setFrames F).code? g.method = some c := fun F => X.code
  obtain ⟨acts2, hr2⟩ := hrun (s.setFrames (.native { method := m, args := a } :: .java g :: r))
  have hfs : handOver (s.setFrames (.native { method := m, args := a } :: .java g :: r)) (some v) (.java g :: r) = some (.java { g with pc := g.pc + len, stack := v :: g.stack } :: r) := by
    simp [handOver, hcode, hdg, Except.toOption]
  have hnp2 : argCount (s.setFrames (.java (entryFrame m a cm.maxLocals) :: .java g :: r)) (entryFrame m a cm.maxLocals).method = np := hnp
  have hstep2 : (stepThread p.tables e (s.setFrames (.java (entryFrame m a cm.maxLocals) :: .java g :: r))).1 = s.setTop { g with pc := g.pc + len, stack := v :: g.stack } := by
    have key : ∀ b : Array Value, b = a → (afterNative e { method := m, args := b, locked := none } (.java g :: r) ((row.sem b).run e ((s.setFrames (.java (entryFrame m a cm.maxLocals) :: .java g :: r)).setFrames (.native { method := m, args := b, locked := none } :: .java g :: r)))).1 = s.setTop { g with pc := g.pc + len, stack := v :: g.stack } := by
      intro b hb
      subst hb
      rw [State.setFrames_setFrames, hr2]
      simp only [afterNative]
      rw [doReturn_native (f := { method := m, args := b }) (below := .java g :: r) (State.frames_setFrames _ hcur) rfl hfs, State.setFrames_setFrames, ← State.setTop_of_frames _ hr]
    unfold stepThread
    simp only [hf1, hov, hnp2]
    exact key _ hgv
  refine Steps.head ⟨X.running, by simpa using X.runnable, by simpa using X.alone⟩ ⟨.java (entryFrame m a cm.maxLocals) :: .java g :: mid, by rw [hf1]; rw [hr] at hmid; simp at hmid; simp [hmid], by simp, by simp⟩ ?_
  rw [hstep2]
  exact hrest

section
variable {p : Program} {l : Launch} {e : Jvm.Env} {R : Room} {s : State} {m : MethodId} {args : Array Value} {below : List Frame} {meth : Method} {c : Code} {H : Heap} {locs : List Loc} {cells slots : Nat} {Q : State → Prop}
theorem W_ov {cc : ByteArray} {pc : Nat} {ls : Array Slot} {rest st : List Value} (hexec : p.tables.exec = Jvm.exec) (hb : c.code = cc) (hml : c.maxLocals = ls.size) {own : String} {index maxL : Nat} {y : MethodName} {bytes : ByteArray} {ret : Option FieldType} (hown : s.vm.findClass own = some m.cls)
    (hlink : (Cond.methodLink own index y).before args s = true) (hstat : (Cond.static y).before args s = true) (hinit : (Cond.initialized y.cls).before args s = true) (hcode : (Cond.code y bytes maxL ret).before args s = true)
    (hy : y.cls ≠ "java/lang/invoke/MethodHandle" ∧ y.cls ≠ "java/lang/invoke/VarHandle") (hin : overriddenIn.contains y.cls = true) {row : NativeRow} (hrow : NativeRow.find? p.tables.natives y.cls y.name y.desc = some row) {As : List Value} {v : Value}
    (hrun : ∀ S : State, ∃ acts, (row.sem As.toArray).run e S = .ok (some v) S acts) (hlen : ∀ sig, parseMethodDescriptor y.desc = some sig → As.length = sig.parameters.length) (hgv : ∀ mk : MethodId, ovGiven mk As.toArray maxL As.length = As.toArray)
    (hframes : 1 ≤ R.frames) (hlocals : (rest.map fun v => v.category).sum + (maxL + 11) ≤ R.locals) (hst : st = As.reverse ++ rest) (hdg : decode cc pc = .ok (.invokestatic index, 3))
    (k : W p l e R s m args below meth c H locs cells slots Q (F0 m (pc + 3) ls (v :: rest))) : W p l e R s m args below meth c H locs cells slots Q (F0 m pc ls st) := by
  intro T hT X
  obtain ⟨mk, hnamed⟩ := Cond.code_named hcode
  obtain ⟨methM, cM, hmethM, hcodeM, -, hlocM, -, hlockM, -, hsigM⟩ := Cond.code_spec hnamed hcode
  have hstatic : methM.isStatic = true := Cond.static_spec hnamed hmethM hstat
  obtain ⟨kP, hkP, -⟩ := className_of_methodNamed hnamed
  have hinitP : kP.init = .initialized := Cond.initialized_spec (findClass_of_methodNamed hnamed) hkP hinit
  obtain ⟨vm', X', step⟩ := X.invokestatic hexec hown hlink hnamed hmethM hstatic hkP hinitP hy (g := F0 m pc ls st) rfl (argsL := As) (rest := rest) (hlen _ hsigM) hst (by rw [hb]; exact hdg)
  obtain ⟨t, a1, b1⟩ := k (T.setVm vm') hT X'
  refine ⟨t, step t fun acts => ?_, b1⟩
  have hnamed' := X'.named hnamed
  have hcode' : (Cond.code y bytes maxL ret).before args (T.setVm vm') = true := by
    have q := hcode
    rw [← Cond.code_setVm X'.warmed.alike] at q
    simp only [Cond.before, Cond.holds, Cond.value, State.methodNamed?, State.vm_setVm] at q ⊢
    exact q
  have hstat' : (Cond.static y).before args (T.setVm vm') = true := word_at X'.warmed (Or.inl (by first | rfl | simp [Cond.onTables, Cond.keeps, Cond.steady])) hstat
  obtain ⟨meth2, c2, hmeth2, hcode2, -, hloc2, -, hlock2, -, hsig2⟩ := Cond.code_spec hnamed' hcode'
  obtain ⟨k2, hk2, hkn2⟩ := className_of_methodNamed hnamed'
  obtain ⟨hmn2, hmd2⟩ := name_of_methodNamed hnamed' hmeth2
  have hk3 : vm'.classes[mk.cls]? = some k2 := hk2
  have hx2 : k2.methods[mk.idx]? = some meth2 := by simpa [Vm.method?, hk3] using hmeth2
  have hboot2 : k2.loader = none := Vm.bootOf_findClass (findClass_of_methodNamed hnamed') hk2
  have hst2 : meth2.isStatic = true := Cond.static_spec hnamed' hmeth2 hstat'
  exact ov_steps p (g := F0 m pc ls rest) (ig := .invokestatic index) (len := 3) (np := As.length) X'.here acts hk2 hx2 hboot2 (by rw [hkn2]; exact hin) (by rw [hkn2, hmn2, hmd2]; exact hrow)
    (by unfold argCount; rw [hk2]; simp only [Option.bind_some, hx2, hst2]; rw [hlen _ hsig2]; rfl) hcode2 hlock2 (by rw [hloc2]; exact hgv mk) hrun (X'.notFull (g := F0 m pc ls rest) (by show ls.size = _; rw [hml]) (vars := c2.maxLocals) hframes (by rw [hloc2]; show 2 * 0 + (rest.map fun v => v.category).sum + (maxL + 11) ≤ R.locals; omega)) (by rw [hb]; exact hdg) a1
end
theorem nz32 {a : UInt32} (h : vf_n32 (a &&& 0x7fffffff)) : (a &&& 0x7fffffff) &&& 0x7fffffff ≤ 0x7f800000 := h
theorem nz64 {a : UInt64} (h : vf_n64 (a &&& 0x7fffffffffffffff)) : (a &&& 0x7fffffffffffffff) &&& 0x7fffffffffffffff ≤ 0x7ff0000000000000 := h
def ovRow (n d : String) : NativeRow := (NativeRow.find? Jvm.Native.java_lang_Math.nans.rows "java/lang/Math" n d).getD { cls := "", name := "", desc := "", sem := fun _ => Pure.pure none }
set_option maxRecDepth 100000 in
theorem ovr_absF (p : Program) : NativeRow.find? p.tables.natives "java/lang/Math" "abs" "(F)F" = some (ovRow "abs" "(F)F") := by cases p <;> rfl
set_option maxRecDepth 100000 in
theorem ovr_absD (p : Program) : NativeRow.find? p.tables.natives "java/lang/Math" "abs" "(D)D" = some (ovRow "abs" "(D)D") := by cases p <;> rfl
set_option maxRecDepth 100000 in
theorem ovr_maxD (p : Program) : NativeRow.find? p.tables.natives "java/lang/Math" "max" "(DD)D" = some (ovRow "max" "(DD)D") := by cases p <;> rfl
set_option maxRecDepth 100000 in
theorem ovr_minD (p : Program) : NativeRow.find? p.tables.natives "java/lang/Math" "min" "(DD)D" = some (ovRow "min" "(DD)D") := by cases p <;> rfl
theorem run_of_wp {t : Sem (Option Value)} {v : Value} {e : Jvm.Env} {S : State} (hw : wpRun t (fun w s₂ _ => w = some v ∧ s₂ = S) (fun _ _ _ => False) e S) : ∃ acts, t.run e S = .ok (some v) S acts := by
  have hw' := (wpRun_iff_run _ _ _ _ _).mp hw
  cases hr : t.run e S with
  | ok w s₂ acts₂ => rw [hr] at hw'; obtain ⟨rfl, rfl⟩ := hw'; exact ⟨_, rfl⟩
  | ctl x s₂ acts₂ => rw [hr] at hw'; cases x <;> exact hw'.elim
theorem run_absF {a : UInt32} (h : vf_n32 (a &&& 0x7fffffff)) (e : Jvm.Env) (S : State) : ∃ acts, ((ovRow "abs" "(F)F").sem [Value.float a].toArray).run e S = .ok (some (.float (a &&& 0x7fffffff))) S acts := by
  have hn := nz32 h
  have hs : (ovRow "abs" "(F)F").sem [Value.float a].toArray = (do
      let r ← anyNaN32 (a &&& 0x7fffffff)
      mark "nat.java_lang_Math.abs/float"
      Pure.pure (some (.float r))) := rfl
  rw [hs]
  refine run_of_wp ?_
  simp [jvm, wpRun, anyNaN32, hn]
theorem run_absD {a : UInt64} (h : vf_n64 (a &&& 0x7fffffffffffffff)) (e : Jvm.Env) (S : State) : ∃ acts, ((ovRow "abs" "(D)D").sem [Value.double a].toArray).run e S = .ok (some (.double (a &&& 0x7fffffffffffffff))) S acts := by
  have hn := nz64 h
  have hs : (ovRow "abs" "(D)D").sem [Value.double a].toArray = (do
      let r ← anyNaN64 (a &&& 0x7fffffffffffffff)
      mark "nat.java_lang_Math.abs"
      Pure.pure (some (.double r))) := rfl
  rw [hs]
  refine run_of_wp ?_
  simp [jvm, wpRun, anyNaN64, hn]
theorem run_maxD {a b : UInt64} (ha : FP.dIsNaN a = false) (hb : FP.dIsNaN b = false) (e : Jvm.Env) (S : State) : ∃ acts, ((ovRow "max" "(DD)D").sem [Value.double a, Value.double b].toArray).run e S = .ok (some (.double (Native.java_lang_Math.nans.pick64 true a b))) S acts := by
  have hs : (ovRow "max" "(DD)D").sem [Value.double a, Value.double b].toArray = (do
      let r ← if FP.dIsNaN a then anyNaN64 a else if FP.dIsNaN b then anyNaN64 b else Pure.pure (Native.java_lang_Math.nans.pick64 true a b)
      mark "nat.java_lang_Math.max"
      Pure.pure (some (.double r))) := rfl
  rw [hs]
  refine run_of_wp ?_
  simp [jvm, wpRun, ha, hb]
theorem run_minD {a b : UInt64} (ha : FP.dIsNaN a = false) (hb : FP.dIsNaN b = false) (e : Jvm.Env) (S : State) : ∃ acts, ((ovRow "min" "(DD)D").sem [Value.double a, Value.double b].toArray).run e S = .ok (some (.double (Native.java_lang_Math.nans.pick64 false a b))) S acts := by
  have hs : (ovRow "min" "(DD)D").sem [Value.double a, Value.double b].toArray = (do
      let r ← if FP.dIsNaN a then anyNaN64 a else if FP.dIsNaN b then anyNaN64 b else Pure.pure (Native.java_lang_Math.nans.pick64 false a b)
      mark "nat.java_lang_Math.min"
      Pure.pure (some (.double r))) := rfl
  rw [hs]
  refine run_of_wp ?_
  simp [jvm, wpRun, ha, hb]
theorem G_absF {wl : pfW} {E : pfE} {cc : ByteArray} {own : String} {rm : Room} {nL : Nat} {A : St} {pc : Nat} {lv : List (Nat × Value)} {rest : List Value} {a : UInt32} {index : Nat} (X : CX wl E cc own rm nL) (ok : OkS yJ9_abs_f6c48 cJ9_abs_f6c48 1 (some .float) 1) (hw : (Cond.methodLink own index yJ9_abs_f6c48) ∈ lw_all) (hn : vf_n32 (a &&& 0x7fffffff)) (hfr : 1 ≤ rm.frames) (hlo : (rest.map fun v => v.category).sum + 12 ≤ rm.locals) (d : decode cc pc = .ok (.invokestatic index, 3)) (k : GG wl E A (pc + 3) lv (.float (a &&& 0x7fffffff) :: rest)) : GG wl E A pc lv (.float a :: rest) := fun H locs ls hP hS hl =>
  W_ov X.ex X.cd (by rw [X.ml, ← X.nl]; exact hl.1.symm) X.ow (X.ws _ hw) (X.ws _ ok.1) (X.ws _ ok.2.1) (X.ws _ ok.2.2.1) ⟨ok.2.2.2.1, ok.2.2.2.2.1⟩ (by decide) (ovr_absF _) (As := [Value.float a]) (fun S => run_absF hn _ S) (fun sig h => by have h2 := ok.2.2.2.2.2; rw [h] at h2; exact (Option.some.inj h2).symm) (fun mk => by simp [ovGiven, entryFrame, argsToLocals, Value.category]) (by rw [X.r]; exact hfr) (by rw [X.r]; exact hlo) rfl d (k H locs ls hP hS hl)
theorem G_absD {wl : pfW} {E : pfE} {cc : ByteArray} {own : String} {rm : Room} {nL : Nat} {A : St} {pc : Nat} {lv : List (Nat × Value)} {rest : List Value} {a : UInt64} {index : Nat} (X : CX wl E cc own rm nL) (ok : OkS yJ9_abs_294c1 cJ9_abs_294c1 2 (some .double) 1) (hw : (Cond.methodLink own index yJ9_abs_294c1) ∈ lw_all) (hn : vf_n64 (a &&& 0x7fffffffffffffff)) (hfr : 1 ≤ rm.frames) (hlo : (rest.map fun v => v.category).sum + 13 ≤ rm.locals) (d : decode cc pc = .ok (.invokestatic index, 3)) (k : GG wl E A (pc + 3) lv (.double (a &&& 0x7fffffffffffffff) :: rest)) : GG wl E A pc lv (.double a :: rest) := fun H locs ls hP hS hl =>
  W_ov X.ex X.cd (by rw [X.ml, ← X.nl]; exact hl.1.symm) X.ow (X.ws _ hw) (X.ws _ ok.1) (X.ws _ ok.2.1) (X.ws _ ok.2.2.1) ⟨ok.2.2.2.1, ok.2.2.2.2.1⟩ (by decide) (ovr_absD _) (As := [Value.double a]) (fun S => run_absD hn _ S) (fun sig h => by have h2 := ok.2.2.2.2.2; rw [h] at h2; exact (Option.some.inj h2).symm) (fun mk => by simp [ovGiven, entryFrame, argsToLocals, Value.category]) (by rw [X.r]; exact hfr) (by rw [X.r]; exact hlo) rfl d (k H locs ls hP hS hl)
theorem G_maxD {wl : pfW} {E : pfE} {cc : ByteArray} {own : String} {rm : Room} {nL : Nat} {A : St} {pc : Nat} {lv : List (Nat × Value)} {rest : List Value} {a b : UInt64} {index : Nat} (X : CX wl E cc own rm nL) (ok : OkS yJ9_max_eb370 cJ9_max_eb370 4 (some .double) 2) (hw : (Cond.methodLink own index yJ9_max_eb370) ∈ lw_all) (hn : FP.dIsNaN a = false ∧ FP.dIsNaN b = false) (hfr : 1 ≤ rm.frames) (hlo : (rest.map fun v => v.category).sum + 15 ≤ rm.locals) (d : decode cc pc = .ok (.invokestatic index, 3)) (k : GG wl E A (pc + 3) lv (.double (Native.java_lang_Math.nans.pick64 true a b) :: rest)) : GG wl E A pc lv (.double b :: .double a :: rest) := fun H locs ls hP hS hl =>
  W_ov X.ex X.cd (by rw [X.ml, ← X.nl]; exact hl.1.symm) X.ow (X.ws _ hw) (X.ws _ ok.1) (X.ws _ ok.2.1) (X.ws _ ok.2.2.1) ⟨ok.2.2.2.1, ok.2.2.2.2.1⟩ (by decide) (ovr_maxD _) (As := [Value.double a, Value.double b]) (fun S => run_maxD hn.1 hn.2 _ S) (fun sig h => by have h2 := ok.2.2.2.2.2; rw [h] at h2; exact (Option.some.inj h2).symm) (fun mk => by simp [ovGiven, entryFrame, argsToLocals, Value.category]) (by rw [X.r]; exact hfr) (by rw [X.r]; exact hlo) rfl d (k H locs ls hP hS hl)
theorem G_minD {wl : pfW} {E : pfE} {cc : ByteArray} {own : String} {rm : Room} {nL : Nat} {A : St} {pc : Nat} {lv : List (Nat × Value)} {rest : List Value} {a b : UInt64} {index : Nat} (X : CX wl E cc own rm nL) (ok : OkS yJ9_min_eb370 cJ9_min_eb370 4 (some .double) 2) (hw : (Cond.methodLink own index yJ9_min_eb370) ∈ lw_all) (hn : FP.dIsNaN a = false ∧ FP.dIsNaN b = false) (hfr : 1 ≤ rm.frames) (hlo : (rest.map fun v => v.category).sum + 15 ≤ rm.locals) (d : decode cc pc = .ok (.invokestatic index, 3)) (k : GG wl E A (pc + 3) lv (.double (Native.java_lang_Math.nans.pick64 false a b) :: rest)) : GG wl E A pc lv (.double b :: .double a :: rest) := fun H locs ls hP hS hl =>
  W_ov X.ex X.cd (by rw [X.ml, ← X.nl]; exact hl.1.symm) X.ow (X.ws _ hw) (X.ws _ ok.1) (X.ws _ ok.2.1) (X.ws _ ok.2.2.1) ⟨ok.2.2.2.1, ok.2.2.2.2.1⟩ (by decide) (ovr_minD _) (As := [Value.double a, Value.double b]) (fun S => run_minD hn.1 hn.2 _ S) (fun sig h => by have h2 := ok.2.2.2.2.2; rw [h] at h2; exact (Option.some.inj h2).symm) (fun mk => by simp [ovGiven, entryFrame, argsToLocals, Value.category]) (by rw [X.r]; exact hfr) (by rw [X.r]; exact hlo) rfl d (k H locs ls hP hS hl)
