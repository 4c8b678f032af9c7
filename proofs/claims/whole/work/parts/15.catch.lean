/-! a handler of the method's own takes the exception: its entries' classes cold or warm -/
abbrev vh_quad (x : ExceptionTableEntry) : Nat × Nat × Nat × Nat := (x.startPc, x.endPc, x.handlerPc, x.catchType)
/-- the search over the entries at pc, a thrown X: it comes to h -/
def vh_ok (args : Array Value) (s : State) (own X : String) (pc h : Nat) : List (Nat × Nat × Nat × Nat) → Prop
  | [] => False
  | q :: t => ((decide (q.1 ≤ pc) && decide (pc < q.2.1)) = false ∧ vh_ok args s own X pc h t) ∨ ((decide (q.1 ≤ pc) && decide (pc < q.2.1)) = true ∧ q.2.2.2 ≠ 0 ∧ ∃ name : String, (Cond.classLink own q.2.2.2 name).before args s = true ∧ ((name = X ∧ q.2.2.1 = h) ∨ (va_Nc X name s ∧ vh_ok args s own X pc h t)))
theorem vh_pass {args : Array Value} {s : State} {own X : String} {pc h : Nat} {q : Nat × Nat × Nat × Nat} {t : List (Nat × Nat × Nat × Nat)} (hc : (decide (q.1 ≤ pc) && decide (pc < q.2.1)) = true) (h0 : q.2.2.2 ≠ 0) {name : String} (hl : (Cond.classLink own q.2.2.2 name).before args s = true) (hn : va_Nc X name s) (hr : vh_ok args s own X pc h t) : vh_ok args s own X pc h (q :: t) := Or.inr ⟨hc, h0, name, hl, Or.inr ⟨hn, hr⟩⟩
theorem vh_skip {args : Array Value} {s : State} {own X : String} {pc h : Nat} {q : Nat × Nat × Nat × Nat} {t : List (Nat × Nat × Nat × Nat)} (hc : (decide (q.1 ≤ pc) && decide (pc < q.2.1)) = false) (hr : vh_ok args s own X pc h t) : vh_ok args s own X pc h (q :: t) := Or.inl ⟨hc, hr⟩
theorem vh_take {args : Array Value} {s : State} {own X : String} {pc : Nat} {q : Nat × Nat × Nat × Nat} {t : List (Nat × Nat × Nat × Nat)} (hc : (decide (q.1 ≤ pc) && decide (pc < q.2.1)) = true) (h0 : q.2.2.2 ≠ 0) (hl : (Cond.classLink own q.2.2.2 X).before args s = true) : vh_ok args s own X pc q.2.2.1 (q :: t) := Or.inr ⟨hc, h0, X, hl, Or.inl ⟨rfl, rfl⟩⟩
section VH1
variable {e : Env} {f : JFrame} {a : Addr}
theorem vh_entry {s : State} {Q : Handler → Pre} {E : CtlPost} {d : Bool} {acts : List Action} {x : ExceptionTableEntry} {t : List ExceptionTableEntry} {k : ClassId} {cell : Cell} (b : Bool) (hx : covers x f.pc = true) (h0 : x.catchType ≠ 0)
    (hl : s.vm.ClassLinks e.platform f.method.cls x.catchType k) (hcell : s.heap[a]? = some cell) (hobj : ∀ j, cell.vm ≠ .statics j) (hk : ∃ q, s.vm.classes[cell.cls]? = some q) (hc : ∃ q, s.vm.classes[k]? = some q) (hb : s.vm.assignable cell.cls k = b) :
    wp (findHandler.go f a (x :: t)) Q E e d acts s ↔ if b = true then Q (.found x.handlerPc) d acts (s.setVm (s.vm.noted f.method.cls x.catchType (.cls k))) else wp (findHandler.go f a t) Q E e d acts (s.setVm (s.vm.noted f.method.cls x.catchType (.cls k))) := by
  simp only [covers] at hx
  obtain ⟨h1, h2⟩ := (resolveClass_links e.toSetting hl).op (op := VmOp.resolveClass f.method.cls x.catchType) rfl
  have hal : s.vm.Alike (s.vm.noted f.method.cls x.catchType (.cls k)) := (Vm.Alike.refl s.vm).noted _ _ _
  obtain ⟨q1, hq1⟩ := hk
  obtain ⟨q2, hq2⟩ := hc
  obtain ⟨q1', hq1', -⟩ := hal.2.2 _ _ hq1
  obtain ⟨q2', hq2', -⟩ := hal.2.2 _ _ hq2
  have hb' : (s.vm.noted f.method.cls x.catchType (.cls k)).assignable cell.cls k = b := by rw [hal.assignable]; exact hb
  cases b <;> simp [findHandler.go, hx, h0, h1, h2, hcell, hobj, hq1', hq2', hb', VmOp.dirties, VmOp.acts]
theorem vh_go {s₀ : State} {args : Array Value} {own X : String} {h : Nat} {cell : Cell} (hpl : e.platform.magicAccessors = ({} : Platform).magicAccessors) (hown : s₀.vm.findClass own = some f.method.cls) (hX : s₀.vm.findClass X = some cell.cls) (hself : s₀.vm.assignable cell.cls cell.cls = true) (hobj : ∀ k, cell.vm ≠ .statics k) :
    ∀ (L : List ExceptionTableEntry) (S : State), s₀.WarmedH S.vm → S.heap[a]? = some cell → vh_ok args s₀ own X f.pc h (L.map vh_quad) →
      ∃ vm', s₀.WarmedH vm' ∧ ∀ (Q : Handler → Pre) (E : CtlPost) (d : Bool) (acts : List Action), wp (findHandler.go f a L) Q E e d acts S ↔ Q (.found h) d acts (S.setVm vm') := by
  intro L
  induction L with
  | nil => intro S _ _ h; exact h.elim
  | cons x t ih =>
    intro S hW hcell hok
    obtain ⟨k0, hk0⟩ := Vm.classAt_of_findClass hX
    obtain ⟨k0', hk0', -⟩ := hW.alike.2.2 _ _ hk0
    rcases hok with ⟨hc, hrest⟩ | ⟨hc, h0, name, hlink, hlast⟩
    · obtain ⟨vm', hW', hq⟩ := ih S hW hcell hrest
      exact ⟨vm', hW', fun Q E d acts => (W.findHandler_go_skip hc).trans (hq Q E d acts)⟩
    · obtain ⟨k, hk, hcl⟩ := Cond.classLink_spec hown hlink e.platform hpl
      obtain ⟨dk, _, _, kt, hd, _, _, _, _, hkt, _, hopen⟩ := hcl.here
      obtain ⟨kt', hkt', -⟩ := hW.alike.2.2 _ _ hkt
      have hW1 : s₀.WarmedH (S.vm.noted f.method.cls x.catchType (.cls k)) := hW.noted hd hopen (State.rightAt_cls hcl)
      rcases hlast with ⟨rfl, rfl⟩ | ⟨⟨c1, c2, g1, g2, g3⟩, hrest⟩
      · cases hX.symm.trans hk
        exact ⟨_, hW1, fun Q E d acts => (vh_entry true hc h0 (hW.classLinks hcl) hcell hobj ⟨k0', hk0'⟩ ⟨kt', hkt'⟩ (by rw [hW.alike.assignable]; exact hself)).trans (by rw [if_pos rfl])⟩
      · cases hX.symm.trans g1
        cases hk.symm.trans g2
        obtain ⟨vm', hW', hq⟩ := ih (S.setVm (S.vm.noted f.method.cls x.catchType (.cls k))) hW1 hcell hrest
        exact ⟨vm', hW', fun Q E d acts => ((vh_entry false hc h0 (hW.classLinks hcl) hcell hobj ⟨k0', hk0'⟩ ⟨kt', hkt'⟩ (by rw [hW.alike.assignable]; exact g3)).trans (by rw [if_neg (by decide)])).trans (hq Q E d acts)⟩
theorem vh_steps {tb : Tables} {s target : State} {g : JFrame} {c : Code} {below : List Frame} (h : At s g.method c below) {pc : Nat} {vm' : Vm}
    (hfind : ∀ (Q : Handler → Pre) (E : CtlPost) (d : Bool) (acts : List Action), wp (findHandler g a) Q E e d acts ((s.setTop g).pushFrame (.throwing a)) ↔ Q (.found pc) d acts (((s.setTop g).pushFrame (.throwing a)).setVm vm'))
    (hrest : Steps tb e below ((s.setVm vm').setTop { g with pc := pc, stack := [.ref a] }) target) : Steps tb e below ((s.setTop g).pushFrame (.throwing a)) target := by
  obtain ⟨hgo, hw⟩ := h.throwing a
  refine Steps.head hgo hw ?_
  have hstep : (stepThrowing e ((s.setTop g).pushFrame (.throwing a)) a (.java g :: s.frames.tail)).Is ((((s.setTop g).pushFrame (.throwing a)).setVm vm').setFrames (.java { g with pc := pc, stack := [.ref a] } :: s.frames.tail)) [] := by
    simp only [stepThrowing, searchFrame, vmDo]
    generalize hres : Sem.go _ e false [] ((s.setTop g).pushFrame (.throwing a)) = res
    obtain ⟨as, rfl, has⟩ := Sem.eq_ok_of hres (a := Handler.found pc) (s' := ((s.setTop g).pushFrame (.throwing a)).setVm vm') (acts' := []) (by simp [hfind _ _ _ _])
    exact ⟨rfl, has⟩
  rw [stepThread_throwing (frames_entered h.top _), hstep.1]
  obtain ⟨g₀, hg⟩ := Option.isSome_iff_exists.mp h.top
  obtain ⟨r, hr⟩ := State.topJava?_eq_some.mp hg
  have e0 : ∀ (u : State) (F : List Frame), (u.setFrames F).setVm vm' = (u.setVm vm').setFrames F := fun _ _ => rfl
  have hr' : (s.setVm vm').frames = .java g₀ :: r := hr
  rw [State.setTop_of_frames _ hr'] at hrest
  rw [hr, List.tail_cons, State.pushFrame, State.setTop_of_frames _ hr, e0, e0, State.setFrames_setFrames, State.setFrames_setFrames]
  exact hrest
end VH1
section VH2
variable {p : Program} {l : Launch} {e : Env} {R : Room} {s : State} {m : MethodId} {args : Array Value} {below : List Frame} {meth : Method} {c : Code} {H : Heap} {locs : List Loc} {cells slots : Nat} {Q : State → Prop}
theorem WT.caught {hh : List (Nat × Nat × Nat × Nat)} {own : String} {k h : Nat} {x : Addr} {t : State} {pc : Nat} {ls : Array Slot} {st : List Value} (hexc : c.exceptionTable.toList.map vh_quad = hh) (hown : s.vm.findClass own = some m.cls) (hX : vx_X k x t) (ht : t.heap = H) (hal : s.vm.Alike t.vm) (hins : (Cond.instantiable (vx_cls k) 6).before args s = true)
    (hok : vh_ok args s own (vx_cls k) pc h hh) (kk : W p l e R s m args below meth c H locs cells slots Q (F0 m h ls [.ref x])) : WT p l e R s m args below meth c H locs cells slots Q x (F0 m pc ls st) := by
  intro T hT X
  obtain ⟨cell, h1, h2, h3⟩ := hX
  obtain ⟨cX, kX, i1, i2, i3, -⟩ := Cond.instantiable_spec hins
  have hc : s.vm.findClass (vx_cls k) = some cell.cls := by first | (rw [← hal.findClass]; exact h3) | (rw [hal.findClass] at h3; exact h3)
  cases i1.symm.trans hc
  have hself : s.vm.assignable cell.cls cell.cls = true := va_assign (C := vx_cls k) ⟨hc, kX, i2, i3⟩
  have hcell : T.heap[x]? = some cell := by rw [hT, ← ht]; exact h1
  have hpl : e.platform.magicAccessors = ({} : Platform).magicAccessors := by rw [X.admits.platform]
  obtain ⟨vm', hW', hq⟩ := vh_go (e := e) (f := F0 m pc ls st) (a := x) (args := args) (own := own) (X := vx_cls k) (h := h) hpl hown hc hself (fun j hj => by rw [h2] at hj; cases hj) c.exceptionTable.toList ((T.setTop (F0 m pc ls st)).pushFrame (.throwing x)) X.warmed hcell (by rw [hexc]; exact hok)
  obtain ⟨u, a1, b1⟩ := kk (T.setVm vm') hT (X.noted hW')
  exact ⟨u, vh_steps (g := F0 m pc ls st) X.here (fun Q E d acts => (W.findHandler_eq X.method' X.code).trans (hq Q E d acts)) a1, b1⟩
/-- the method ends as its contract says, whatever it made so far -/
theorem vh_widen {g : JFrame} {k n : Nat} (h1 : cells ≤ k) (h2 : slots ≤ n) {Qc : Array Value → State → Outcome → State → Prop} {free : Addr → Prop} (kk : W p l e R s m args below meth c H locs cells slots (XQ below Qc args s cells slots free) g) : W p l e R s m args below meth c H locs cells slots (XQ below Qc args s k n free) g := W.widenX h1 h2 kk
end VH2
/-! what holds at every point of a walk, of a method with handlers -/
def cxh (p : Program) (l : Launch) (e : Env) (R : Room) (s : State) (m : MethodId) (args : Array Value) (meth : Method) (c : Code) (dC : Nat → ClassId) (dI : Nat → Nat → Nat) (A : Nat → Prop) (own : String) (cc : ByteArray) (nL : Nat) (ret : Option FieldType) (fr lo : Nat) (tys : List (ClassId × FieldType)) (hh : List (Nat × Nat × Nat × Nat)) : Prop :=
  p.tables.exec = Jvm.exec ∧ c.code = cc ∧ meth.sig.returnType = ret ∧ c.maxLocals = nL ∧ s.vm.findClass own = some m.cls ∧ (∀ w ∈ lw_g, w.before args s = true) ∧ meth.locks = false ∧ va_K (dC, dI) classes tys s ∧ (∀ q : Nat, s.heap.size ≤ q → A q) ∧ vs_All A s s.heap ∧ e.platform.stackTraces = false ∧ c.exceptionTable.toList.map vh_quad = hh ∧ fr ≤ R.frames ∧ lo ≤ R.locals ∧ l.flags = flags0
theorem cx.toH {p : Program} {l : Launch} {e : Env} {R : Room} {s : State} {m : MethodId} {args : Array Value} {meth : Method} {c : Code} {dC : Nat → ClassId} {dI : Nat → Nat → Nat} {A : Nat → Prop} {own : String} {cc : ByteArray} {nL : Nat} {ret : Option FieldType} {fr lo : Nat} {tys : List (ClassId × FieldType)} (C : cx p l e R s m args meth c dC dI A own cc nL ret fr lo tys) : cxh p l e R s m args meth c dC dI A own cc nL ret fr lo tys [] := by
  obtain ⟨hx, hb, hr, hml, hown, hts, hlk, hK, hA, hV, htr, hex, hF, hL, hfl⟩ := C
  refine ⟨hx, hb, hr, hml, hown, hts, hlk, hK, hA, hV, htr, ?_, hF, hL, hfl⟩
  cases h9 : c.exceptionTable.toList with
  | nil => rfl
  | cons y t => exact (hex y (by rw [h9]; exact List.mem_cons_self)).elim
theorem MetX.ofWH {l : Launch} {y : MethodName} {ws ws' : List Cond} {rm : Room} {Pc : Array Value → State → Prop} {Qc : Array Value → State → Outcome → State → Prop} {mc ms : Nat} {free : Addr → Prop} {cc : ByteArray} {maxL : Nat} {ret : Option FieldType} {hh : List (Nat × Nat × Nat × Nat)} (hy : plainName y.cls = true) (hw : ws = Cond.codeWith y cc maxL ret hh :: ws')
    (body : ∀ p e s m args below meth c s₁, BodyLoose p l y (headSpec ws rm) cc maxL ret e s m args below meth c s₁ → c.maxLocals = maxL → c.exceptionTable.toList.map vh_quad = hh → Pc args s →
      W p l e (headSpec ws rm).room s m args below meth c s.heap [] 0 0 (XQ below Qc args s mc ms free) (entryFrame m args maxL)) : MetX l y ws rm Pc Qc mc ms free := by
  refine MetFree.of_bodyS (code := cc) (maxLocals := maxL) (ret := ret) hy ?_ ?_
  · intro args s m h hn
    obtain ⟨m9, meth, c, hn9, h1, h2, h3, h4, -, h5, h6, -⟩ := Cond.codeWith_spec (atoms_spec (ws := ws) h _ (by rw [hw]; exact List.mem_cons_self))
    cases hn.symm.trans hn9
    exact ⟨meth, c, h1, h2, h3, h4, h5, h6⟩
  · intro p e s m args below meth c s₁ B hml hP _
    have hh0 : s₁.heap = s.heap := by rw [B.state]; rfl
    have hexc : c.exceptionTable.toList.map vh_quad = hh := by
      obtain ⟨m9, meth9, c9, hn9, h1, h2, -, -, h4, -⟩ := Cond.codeWith_spec (atoms_spec (ws := ws) B.pre _ (by rw [hw]; exact List.mem_cons_self))
      cases B.named.symm.trans hn9
      cases B.method.symm.trans h1
      cases (Stand.of_body B).code.symm.trans h2
      exact h4
    obtain ⟨t, a1, o, b1, b2, b3⟩ := body p e s m args below meth c s₁ B hml hexc hP s₁ hh0 (Stand.of_body B)
    exact ⟨t, o, a1, b1, b2, ⟨b3.1, b3.2⟩⟩
theorem dh_entry {p : Program} {l : Launch} {e : Env} {s s₁ : State} {m : MethodId} {args : Array Value} {below : List Frame} {meth : Method} {c : Code} {dC : Nat → ClassId} {dI : Nat → Nat → Nat} {y : MethodName} {cc : ByteArray} {nL : Nat} {ret : Option FieldType} {hh : List (Nat × Nat × Nat × Nat)} {rm : Room} {tys : List (ClassId × FieldType)} {av : List Value} {sz : Nat} {ws : va_W} (hfl : l.flags = flags0)
    (B : BodyLoose p l y (headSpec (Cond.codeWith y cc nL ret hh :: lw_g) rm) cc nL ret e s m args below meth c s₁) (hml : c.maxLocals = nL) (hexc : c.exceptionTable.toList.map vh_quad = hh) (hP : vx_Pre dC dI tys av sz ws args s) :
    args = av.toArray ∧ s.heap.size = sz ∧ cxh p l e (headSpec (Cond.codeWith y cc nL ret hh :: lw_g) rm).room s m args meth c dC dI (va_A ws s.heap.size) y.cls cc nL ret rm.frames rm.locals tys hh ∧ va_P (dC, dI) classes ws s.heap ∧ va_D (va_A ws s.heap.size) ws ∧ va_S (va_A ws s.heap.size) s.heap s.heap [] := by
  obtain ⟨h0, h1, h2, h3, h4, h5⟩ := hP
  subst h1
  have hts := atoms_spec (ws := Cond.codeWith y cc nL ret hh :: lw_g) B.pre
  exact ⟨h0, rfl, ⟨B.exec, B.bytes, B.returns, hml, findClass_of_methodNamed B.named, fun w hw => hts w (List.mem_cons_of_mem _ hw), B.notSynchronized, h3, fun q h => Or.inr h, h5, Launch.traces_off hfl B.admits, hexc, Nat.le_refl _, Nat.le_refl _, hfl⟩, h2, h4.self (sz := s.heap.size), va_S.rf⟩
/-! calls at any count of cells; callees with handlers -/
section VH3
variable {p : Program} {l : Launch} {e : Env} {R : Room} {s : State} {m : MethodId} {args : Array Value} {below : List Frame} {meth : Method} {c : Code} {H : Heap} {locs : List Loc} {cells slots : Nat} {Q : State → Prop}
  {y : MethodName} {bytes cc : ByteArray} {maxL nL mc ms n index : Nat} {ret : Option FieldType} {hh : List (Nat × Nat × Nat × Nat)} {ws : List Cond} {rm : Room} {Pc : Array Value → State → Prop} {Qc : Array Value → State → Outcome → State → Prop} {free : Addr → Prop} {Ts : List Cond} {own C : String} {b : Addr} {As rest : List Value} {g : JFrame}
abbrev vh_CB (R : Room) (s : State) (args : Array Value) (own : String) (index : Nat) (y : MethodName) (bytes : ByteArray) (maxL : Nat) (ret : Option FieldType) (hh : List (Nat × Nat × Nat × Nat)) (ws : List Cond) (rm : Room) (mc ms n : Nat) : Prop :=
  rm.cells = mc ∧ rm.slots = ms ∧ rm.frames + 1 ≤ R.frames ∧ 8 + (maxL + 11) + rm.locals ≤ R.locals ∧ (∀ w ∈ ws, ∀ (a' : Array Value) (U : State), s.WarmedH U.vm → w.before a' U = true) ∧ Cond.codeWith y bytes maxL ret hh ∈ ws ∧ (Cond.codeWith y bytes maxL ret hh).before args s = true ∧ (Cond.initialized y.cls).before args s = true ∧ (y.cls ≠ "java/lang/invoke/MethodHandle" ∧ y.cls ≠ "java/lang/invoke/VarHandle") ∧ (∀ sig, parseMethodDescriptor y.desc = some sig → n = sig.parameters.length) ∧ (Cond.methodLink own index y).before args s = true
theorem vh_runS (S : CallFix p m c cc nL s args Ts own) (hM : Met l y ws rm Pc Qc mc ms free) (cw : vh_CB R s args own index y bytes maxL ret hh ws rm mc ms n ∧ (Cond.static y).before args s = true) (hp : PreS s H Pc As)
    (hg : g.method = m) (hn : As.length = n) (hsize : g.locals.size = nL) (hstack : g.stack = As.reverse ++ rest) (hW : 2 * g.monitorRoom + (rest.map fun v => v.category).sum ≤ 8) (hdg : decode cc g.pc = .ok (.invokestatic index, 3)) (hf : cells + mc ≤ R.cells ∧ slots + ms ≤ R.slots) :
    va_Run p l e R s m args below meth c H locs cells slots mc ms g rest (Qc As.toArray) (free) := by
  obtain ⟨⟨hrc, hrs, hfr, hlo, hws, hcw, hcode, hini, hy, hlen, hl⟩, hstt⟩ := cw
  have hK : Back l R p e below s args y 3 8 (PreOf R mc ms Pc) (PostOf Qc mc ms free) := va_backW (hh := hh) (bytes := bytes) (maxL := maxL) (ret := ret) hM hp.1 hrc hrs hfr hlo hws hcw (fun a' U hW => word_at hW (Or.inl (by first | rfl | simp [Cond.onTables, Cond.keeps, Cond.steady])) hini)
  obtain ⟨hx, hb, hml, ho, -⟩ := S
  intro T hT X
  obtain ⟨mk, methM, cM, hnamed, hmethM, -, -, -, -, -, -, hsigM⟩ := Cond.codeWith_spec hcode
  have hstatic : methM.isStatic = true := Cond.static_spec hnamed hmethM hstt
  obtain ⟨kP, hkP, -⟩ := className_of_methodNamed hnamed
  have hinitP : kP.init = .initialized := Cond.initialized_spec (findClass_of_methodNamed hnamed) hkP hini
  obtain ⟨vm₁, X₁, hstep₁⟩ := X.invokestatic hx ho hl hnamed hmethM hstatic hkP hinitP hy (g := g) hg (argsL := As) (rest := rest) (hn.trans (hlen _ hsigM)) hstack (by rw [hb]; exact hdg)
  obtain ⟨v, ⟨U', l2, c2, s2⟩, X', ⟨g', mk', t, L, e1, e2, hq, h1, hL, h2, h3⟩, st⟩ := hK m meth c ⟨T.setVm vm₁, locs, cells, slots⟩ { g with stack := rest } (.invokestatic index) mk As.toArray X₁ hg (hsize.trans hml.symm) (by rw [hb]; exact hdg) hW (X₁.named hnamed) ⟨hf.1, hf.2, hp.2 (T.setVm vm₁) hT X₁.warmed⟩
  dsimp only [Pt.U, Pt.locs, Pt.cells, Pt.slots] at X' e1 e2 h1 h2 h3 st
  subst h1; subst h2; subst h3
  exact ⟨v, (T.setVm vm₁).calling g' mk' As.toArray, t, U', L, hT, X', hL, e1, e2, hq, fun tg h => hstep₁ _ fun acts => by rw [doInvoke_state]; exact st.trans h⟩
theorem vh_runV (S : CallFix p m c cc nL s args Ts own) (hM : Met l y ws rm Pc Qc mc ms free) (cw : vh_CB R s args own index y bytes maxL ret hh ws rm mc ms n ∧ (Cond.instanceMethod y).before args s = true ∧ (Cond.selects C y y).before args s = true) (hp : PreV s H C b Pc As)
    (hg : g.method = m) (hn : As.length = n) (hsize : g.locals.size = nL) (hstack : g.stack = As.reverse ++ .ref b :: rest) (hW : 2 * g.monitorRoom + (rest.map fun v => v.category).sum ≤ 8) (hdg : decode cc g.pc = .ok (.invokevirtual index, 3)) (hf : cells + mc ≤ R.cells ∧ slots + ms ≤ R.slots) :
    va_Run p l e R s m args below meth c H locs cells slots mc ms g rest (Qc (Value.ref b :: As).toArray) (free) := by
  obtain ⟨⟨hrc, hrs, hfr, hlo, hws, hcw, hcode, hini, hy, hlen, hl⟩, hinst, hsel⟩ := cw
  have hK : Back l R p e below s args y 3 8 (PreOf R mc ms Pc) (PostOf Qc mc ms free) := va_backW (hh := hh) (bytes := bytes) (maxL := maxL) (ret := ret) hM hp.1 hrc hrs hfr hlo hws hcw (fun a' U hW => word_at hW (Or.inl (by first | rfl | simp [Cond.onTables, Cond.keeps, Cond.steady])) hini)
  obtain ⟨hx, hb, hml, ho, -⟩ := S
  obtain ⟨hblind, ⟨cellB, hcB, hobj, hcls⟩, hPc⟩ := hp
  intro T hT X
  obtain ⟨mk, methM, hnamed, hmethM, hstM, habM⟩ := Cond.instanceMethod_spec hinst
  obtain ⟨mk9, methM', cM, hnamed', hmethM', -, -, -, -, -, -, hsigM⟩ := Cond.codeWith_spec hcode
  cases hnamed.symm.trans hnamed'
  cases hmethM.symm.trans hmethM'
  obtain ⟨c2, r2, m2, q1, q2, q3, q4, kP, hkP, hkPi⟩ := Cond.selects_spec hsel
  cases hcls.symm.trans q1
  cases (State.methodFound?_of_named hnamed hy).symm.trans q2
  cases hnamed.symm.trans q3
  have hselP : selectMethod e.platform s.vm cellB.cls mk = .method mk := by rw [Launch.admits_selectMethod X.admits]; exact q4
  obtain ⟨vm₁, X₁, hstep₁⟩ := X.invokevirtual hx ho hl hnamed hmethM hstM hkP hkPi hy (a := b) (cell := cellB) (by rw [hT]; exact hcB)
    (fun z h => by rw [h] at hobj; cases hobj) hselP hmethM habM hkP hkPi (g := g) hg (argsL := As) (rest := rest) (hn.trans (hlen _ hsigM)) hstack (by rw [hb]; exact hdg)
  obtain ⟨v, ⟨U', l2, c2, s2⟩, X', ⟨g', mk', t, L, e1, e2, hq, h1, hL, h2, h3⟩, st⟩ := hK m meth c ⟨T.setVm vm₁, locs, cells, slots⟩ { g with stack := rest } (.invokevirtual index) mk (Value.ref b :: As).toArray X₁ hg (hsize.trans hml.symm) (by rw [hb]; exact hdg) hW (X₁.named hnamed) ⟨hf.1, hf.2, hPc (T.setVm vm₁) hT X₁.warmed⟩
  dsimp only [Pt.U, Pt.locs, Pt.cells, Pt.slots] at X' e1 e2 h1 h2 h3 st
  subst h1; subst h2; subst h3
  exact ⟨v, (T.setVm vm₁).calling g' mk' (Value.ref b :: As).toArray, t, U', L, hT, X', hL, e1, e2, hq, fun tg h => hstep₁ _ fun acts => by rw [doInvoke_state]; exact st.trans h⟩
end VH3
section VH4
variable {p : Program} {l : Launch} {e : Env} {R : Room} {s : State} {m : MethodId} {args : Array Value} {below : List Frame} {meth : Method} {c : Code} {H : Heap} {locs : List Loc} {cells slots : Nat} {Q : State → Prop} {dC : Nat → ClassId} {dI : Nat → Nat → Nat} {A : Nat → Prop}
  {cc : ByteArray} {pc : Nat} {ls : Array Slot} {st0 rest : List Value} {tys tysc : List (ClassId × FieldType)} {ws wc wr : va_W}
theorem dg_back {mc ms : Nat} {ρ S : Type} {val : ρ → Option Value} {w1 : S → va_W} {o : ρ × S} {a : Array Value}
    (run : va_Run p l e R s m args below meth c H locs cells slots mc ms (F0 m pc ls st0) rest (vx_Q val (.inl o) (fun u t => vx_B dC dI tysc (va_A wc H.size) (w1 u) t) (va_A wc H.size) a) (va_A wc H.size))
    (hP : va_P (dC, dI) classes ws H) (hD : va_D A ws) (hS : va_S A s.heap H locs) (hA : ∀ q : Nat, s.heap.size ≤ q → A q) (isC isR : List Nat) (hC : isC.map (fun i => ws[i]?) = wc.map some) (hR : isR.map (fun i => ws[i]?) = wr.map some) (hn : va_nd isR = true) (hdis : ∀ i ∈ isR, i ∉ isC)
    (kk : ∀ (H1 : Heap) (locs1 : List Loc), va_P (dC, dI) classes (wr ++ w1 o.2) H1 → va_D A (wr ++ w1 o.2) → va_S A s.heap H1 locs1 → W p l e R s m args below meth c H1 locs1 (cells + mc) (slots + ms) Q (F0 m (pc + 3) ls ((val o.1).toList ++ rest))) : W p l e R s m args below meth c H locs cells slots Q (F0 m pc ls st0) := by
  intro T hT X
  obtain ⟨v, st₀, t, T', L, h1, X', hL, h2, h3, ⟨⟨hv, hB1, hB2, hB3⟩, hF1, hF2⟩, hgo⟩ := run T hT X
  have hFc := va_free hD hS hA isC hC
  cases hv
  rw [h1] at hF1 hF2
  rw [← h2] at hB1 hF1 hF2
  obtain ⟨hP', hD'⟩ := va_join (wr := wr) (w1 := w1 o.2) hP hD isC isR hC hR hn hdis hF2 hFc hB1 hB3
  have hS' : va_S A s.heap T'.heap (locs ++ L) := ⟨Nat.le_trans hS.1 hF1, fun q g1 g2 => by rw [hF2 q (Nat.lt_of_lt_of_le g1 hS.1) (fun h => g2 (hFc q h))]; exact hS.2.1 q g1 g2, t_lL hS.2.2 (fun q hq => hFc _ (hL q hq))⟩
  obtain ⟨u, a1, b1⟩ := kk T'.heap (locs ++ L) hP' hD' hS' T' rfl X'
  exact ⟨u, hgo u a1, b1⟩
theorem dg_backT {ρ S : Type} {val : ρ → Option Value} {w1 : S → va_W} {u : Nat × S} {a : Array Value}
    (run : vx_RunT p l e R s m args below meth c H locs cells slots 1 6 (F0 m pc ls st0) rest (vx_Q val (.inr u) (fun u t => vx_B dC dI tysc (va_A wc H.size) (w1 u) t) (va_A wc H.size) a) (va_A wc H.size))
    (hP : va_P (dC, dI) classes ws H) (hD : va_D A ws) (hS : va_S A s.heap H locs) (hA : ∀ q : Nat, s.heap.size ≤ q → A q) (isC isR : List Nat) (hC : isC.map (fun i => ws[i]?) = wc.map some) (hR : isR.map (fun i => ws[i]?) = wr.map some) (hn : va_nd isR = true) (hdis : ∀ i ∈ isR, i ∉ isC)
    (kk : ∀ (x : Addr) (t : State) (H1 : Heap) (locs1 : List Loc), s.heap.size ≤ x → vx_X u.1 x t → t.heap = H1 → s.vm.Alike t.vm → va_P (dC, dI) classes (wr ++ w1 u.2) H1 → va_D A (wr ++ w1 u.2) → va_S A s.heap H1 locs1 → WT p l e R s m args below meth c H1 locs1 (cells + 1) (slots + 6) Q x (F0 m pc ls rest)) : W p l e R s m args below meth c H locs cells slots Q (F0 m pc ls st0) := by
  intro T hT X
  obtain ⟨x, st₀, t, T', L, h1, X', hL, h2, h3, ⟨⟨x', hv, hX, hnew, hB1, hB2, hB3⟩, hF1, hF2⟩, hgo⟩ := run T hT X
  have hFc := va_free hD hS hA isC hC
  cases hv
  rw [h1] at hF1 hF2 hnew
  rw [← h2] at hB1 hF1 hF2
  obtain ⟨hP', hD'⟩ := va_join (wr := wr) (w1 := w1 u.2) hP hD isC isR hC hR hn hdis hF2 hFc hB1 hB3
  have hS' : va_S A s.heap T'.heap (locs ++ L) := ⟨Nat.le_trans hS.1 hF1, fun q g1 g2 => by rw [hF2 q (Nat.lt_of_lt_of_le g1 hS.1) (fun h => g2 (hFc q h))]; exact hS.2.1 q g1 g2, t_lL hS.2.2 (fun q hq => hFc _ (hL q hq))⟩
  obtain ⟨z, a1, b1⟩ := kk x t T'.heap (locs ++ L) (Nat.le_trans hS.1 hnew) hX h2.symm (by rw [← h3]; exact X'.warmed.alike) hP' hD' hS' T' rfl X'
  exact ⟨z, hgo z a1, b1⟩
end VH4
section VH5
variable {p : Program} {l : Launch} {e : Env} {R : Room} {s : State} {m : MethodId} {args : Array Value} {below : List Frame} {meth : Method} {c : Code} {H : Heap} {locs : List Loc} {cells slots : Nat} {Q : State → Prop} {dC : Nat → ClassId} {dI : Nat → Nat → Nat} {A : Nat → Prop}
  {cc : ByteArray} {pc : Nat} {ls : Array Slot} {st0 rest : List Value} {tys tysc : List (ClassId × FieldType)} {ws wc wr : va_W} {own : String} {nL fr lo : Nat} {ret : Option FieldType}
  {y : MethodName} {bytes : ByteArray} {maxL idx fr' lo' n : Nat} {ret' : Option FieldType} {As : List Value} {ρ S : Type} {val : ρ → Option Value} {w1 : S → va_W} {hh hh' : List (Nat × Nat × Nat × Nat)}
theorem dh_callS (C : cxh p l e R s m args meth c dC dI A own cc nL ret fr lo tys hh) (hcs : cells ≤ R.cells ∧ slots ≤ R.slots) {o : ρ × S}
    (hM : MetX l y (Cond.code y bytes maxL ret' :: lw_g) (rmx fr' lo' 0 0) (vx_Pre dC dI tysc As H.size wc) (vx_Q val (.inl o) (fun u t => vx_B dC dI tysc (va_A wc H.size) (w1 u) t) (va_A wc H.size)) 0 0 (va_A wc H.size))
    (hcw : Cond.code y bytes maxL ret' ∈ lw_g) (hini : Cond.initialized y.cls ∈ lw_g) (hl : Cond.methodLink own idx y ∈ lw_g) (hst : Cond.static y ∈ lw_g)
    (hd : y.cls ≠ "java/lang/invoke/MethodHandle" ∧ y.cls ≠ "java/lang/invoke/VarHandle" ∧ (parseMethodDescriptor y.desc).map (fun d => d.parameters.length) = some n) (hR' : fr' + 1 ≤ fr ∧ 8 + (maxL + 11) + lo' ≤ lo)
    (hlen : As.length = n) (hst0 : st0 = As.reverse ++ rest) (hw : (rest.map fun v => v.category).sum ≤ 8) (hdg : decode cc pc = .ok (.invokestatic idx, 3))
    (hP : va_P (dC, dI) classes ws H) (hD : va_D A ws) (hS : va_S A s.heap H locs) (hsz : ls.size = nL) (isC isR isT : List Nat) (hC : isC.map (fun i => ws[i]?) = wc.map some) (hnC : va_nd isC = true) (hR : isR.map (fun i => ws[i]?) = wr.map some) (hnR : va_nd isR = true) (hdis : ∀ i ∈ isR, i ∉ isC) (hT : isT.map (fun i => tys[i]?) = tysc.map some)
    (kk : ∀ (H1 : Heap) (locs1 : List Loc), va_P (dC, dI) classes (wr ++ w1 o.2) H1 → va_D A (wr ++ w1 o.2) → va_S A s.heap H1 locs1 → W p l e R s m args below meth c H1 locs1 cells slots Q (F0 m (pc + 3) ls ((val o.1).toList ++ rest))) : W p l e R s m args below meth c H locs cells slots Q (F0 m pc ls st0) := by
  obtain ⟨hx, hb, hr, hml, hown, hts, hlk, hK, hA, hV, htr, hex, hF, hL, -⟩ := C
  have hlen2 : ∀ sig, parseMethodDescriptor y.desc = some sig → n = sig.parameters.length := fun sig h => by
    have h2 := hd.2.2
    rw [h] at h2
    exact (Option.some.inj h2).symm
  have run := va_runS (l := l) (e := e) (R := R) (below := below) (meth := meth) (locs := locs) (cells := cells) (slots := slots) (rest := rest) (g := F0 m pc ls st0) (⟨hx, hb, hml, hown, hts⟩ : CallFix p m c cc nL s args lw_g own) (dc_met hM) ⟨⟨rfl, rfl, Nat.le_trans hR'.1 hF, Nat.le_trans hR'.2 hL, pay_in hts (dc_good _ hcw), List.mem_cons_self, hts _ hcw, hts _ hini, ⟨hd.1, hd.2.1⟩, hlen2, hts _ hl⟩, hts _ hst⟩ (dc_pre hP hD hS hA hV hK isC isT hC hnC hT As) rfl hlen hsz hst0 (by show 2 * 0 + _ ≤ 8; omega) hdg ⟨hcs.1, hcs.2⟩
  exact dg_back (mc := 0) (ms := 0) run hP hD hS hA isC isR hC hR hnR hdis kk
theorem dw_good (w : Cond) (h : w ∈ lw_g) : GoodIn lw_g (w :: lw_g) := dc_good w h
theorem dw_callS (C : cxh p l e R s m args meth c dC dI A own cc nL ret fr lo tys hh) {mc ms : Nat} (hcs : cells + mc ≤ R.cells ∧ slots + ms ≤ R.slots) {o : ρ × S}
    (hM : MetX l y (Cond.codeWith y bytes maxL ret' hh' :: lw_g) (rmx fr' lo' mc ms) (vx_Pre dC dI tysc As H.size wc) (vx_Q val (.inl o) (fun u t => vx_B dC dI tysc (va_A wc H.size) (w1 u) t) (va_A wc H.size)) mc ms (va_A wc H.size))
    (hcw : Cond.codeWith y bytes maxL ret' hh' ∈ lw_g) (hini : Cond.initialized y.cls ∈ lw_g) (hl : Cond.methodLink own idx y ∈ lw_g) (hst : Cond.static y ∈ lw_g)
    (hd : y.cls ≠ "java/lang/invoke/MethodHandle" ∧ y.cls ≠ "java/lang/invoke/VarHandle" ∧ (parseMethodDescriptor y.desc).map (fun d => d.parameters.length) = some n) (hR' : fr' + 1 ≤ fr ∧ 8 + (maxL + 11) + lo' ≤ lo)
    (hlen : As.length = n) (hst0 : st0 = As.reverse ++ rest) (hw : (rest.map fun v => v.category).sum ≤ 8) (hdg : decode cc pc = .ok (.invokestatic idx, 3))
    (hP : va_P (dC, dI) classes ws H) (hD : va_D A ws) (hS : va_S A s.heap H locs) (hsz : ls.size = nL) (isC isR isT : List Nat) (hC : isC.map (fun i => ws[i]?) = wc.map some) (hnC : va_nd isC = true) (hR : isR.map (fun i => ws[i]?) = wr.map some) (hnR : va_nd isR = true) (hdis : ∀ i ∈ isR, i ∉ isC) (hT : isT.map (fun i => tys[i]?) = tysc.map some)
    (kk : ∀ (H1 : Heap) (locs1 : List Loc), va_P (dC, dI) classes (wr ++ w1 o.2) H1 → va_D A (wr ++ w1 o.2) → va_S A s.heap H1 locs1 → W p l e R s m args below meth c H1 locs1 (cells + mc) (slots + ms) Q (F0 m (pc + 3) ls ((val o.1).toList ++ rest))) : W p l e R s m args below meth c H locs cells slots Q (F0 m pc ls st0) := by
  obtain ⟨hx, hb, hr, hml, hown, hts, hlk, hK, hA, hV, htr, hex, hF, hL, -⟩ := C
  have hlen2 : ∀ sig, parseMethodDescriptor y.desc = some sig → n = sig.parameters.length := fun sig h => by
    have h2 := hd.2.2
    rw [h] at h2
    exact (Option.some.inj h2).symm
  have run := vh_runS (l := l) (e := e) (R := R) (below := below) (meth := meth) (locs := locs) (cells := cells) (slots := slots) (rest := rest) (g := F0 m pc ls st0) (⟨hx, hb, hml, hown, hts⟩ : CallFix p m c cc nL s args lw_g own) (dc_met hM) ⟨⟨rfl, rfl, Nat.le_trans hR'.1 hF, Nat.le_trans hR'.2 hL, pay_in hts (dw_good _ hcw), List.mem_cons_self, hts _ hcw, hts _ hini, ⟨hd.1, hd.2.1⟩, hlen2, hts _ hl⟩, hts _ hst⟩ (dc_pre hP hD hS hA hV hK isC isT hC hnC hT As) rfl hlen hsz hst0 (by show 2 * 0 + _ ≤ 8; omega) hdg ⟨hcs.1, hcs.2⟩
  exact dg_back run hP hD hS hA isC isR hC hR hnR hdis kk
theorem dh_callSN (C : cxh p l e R s m args meth c dC dI A own cc nL ret fr lo tys hh) (hcs : cells ≤ R.cells ∧ slots ≤ R.slots) {o : ρ × S}
    (hM : MetX l y (Cond.code y bytes maxL ret' :: lw_g) (rmx fr' lo' 0 0) (vx_Pre dC dI tysc As H.size wc) (vx_Q val (.inl o) (fun u t => vx_B dC dI tysc (va_A wc H.size) (w1 u) t) (va_A wc H.size)) 0 0 (va_A wc H.size))
    (hcw : Cond.code y bytes maxL ret' ∈ lw_g) (hini : Cond.initialized y.cls ∈ lw_g) {host : String} (hl : Cond.methodLinkNest own idx y host ∈ vx_nw) (hst : Cond.static y ∈ lw_g)
    (hd : y.cls ≠ "java/lang/invoke/MethodHandle" ∧ y.cls ≠ "java/lang/invoke/VarHandle" ∧ (parseMethodDescriptor y.desc).map (fun d => d.parameters.length) = some n) (hR' : fr' + 1 ≤ fr ∧ 8 + (maxL + 11) + lo' ≤ lo)
    (hlen : As.length = n) (hst0 : st0 = As.reverse ++ rest) (hw : (rest.map fun v => v.category).sum ≤ 8) (hdg : decode cc pc = .ok (.invokestatic idx, 3))
    (hP : va_P (dC, dI) classes ws H) (hD : va_D A ws) (hS : va_S A s.heap H locs) (hsz : ls.size = nL) (isC isR isT : List Nat) (hC : isC.map (fun i => ws[i]?) = wc.map some) (hnC : va_nd isC = true) (hR : isR.map (fun i => ws[i]?) = wr.map some) (hnR : va_nd isR = true) (hdis : ∀ i ∈ isR, i ∉ isC) (hT : isT.map (fun i => tys[i]?) = tysc.map some)
    (kk : ∀ (H1 : Heap) (locs1 : List Loc), va_P (dC, dI) classes (wr ++ w1 o.2) H1 → va_D A (wr ++ w1 o.2) → va_S A s.heap H1 locs1 → W p l e R s m args below meth c H1 locs1 cells slots Q (F0 m (pc + 3) ls ((val o.1).toList ++ rest))) : W p l e R s m args below meth c H locs cells slots Q (F0 m pc ls st0) := by
  obtain ⟨hx, hb, hr, hml, hown, hts, hlk, hK, hA, hV, htr, hex, hF, hL, -⟩ := C
  have hlen2 : ∀ sig, parseMethodDescriptor y.desc = some sig → n = sig.parameters.length := fun sig h => by
    have h2 := hd.2.2
    rw [h] at h2
    exact (Option.some.inj h2).symm
  have run := va_runSN (l := l) (e := e) (R := R) (below := below) (meth := meth) (locs := locs) (cells := cells) (slots := slots) (rest := rest) (g := F0 m pc ls st0) (⟨hx, hb, hml, hown, hts⟩ : CallFix p m c cc nL s args lw_g own) (dc_met hM) ⟨⟨⟨rfl, rfl, Nat.le_trans hR'.1 hF, Nat.le_trans hR'.2 hL, pay_in hts (dc_good _ hcw), List.mem_cons_self⟩, hts _ hcw, hts _ hini, ⟨hd.1, hd.2.1⟩, hlen2, va_Nw.use rfl (hV.1.2.2.1 _ hl)⟩, hts _ hst, trivial⟩ (dc_pre hP hD hS hA hV hK isC isT hC hnC hT As) rfl hlen hsz hst0 (by show 2 * 0 + _ ≤ 8; omega) hdg ⟨hcs.1, hcs.2⟩
  exact dg_back (mc := 0) (ms := 0) run hP hD hS hA isC isR hC hR hnR hdis kk
theorem dh_callV (C : cxh p l e R s m args meth c dC dI A own cc nL ret fr lo tys hh) (hcs : cells ≤ R.cells ∧ slots ≤ R.slots) {o : ρ × S}
    (hcw : Cond.code y bytes maxL ret' ∈ lw_g) (hini : Cond.initialized y.cls ∈ lw_g) (hl : Cond.methodLink own idx y ∈ lw_g) (hin : Cond.instanceMethod y ∈ lw_g) (hse : Cond.selects y.cls y y ∈ lw_g) {b q0 ci : Nat} {cq : vw_C} {fs : List Value} (hcq : classes[ci]? = some cq) (hyc : cq.1 = y.cls) (he : ws[q0]? = some (b, .inr (ci, fs)))
    (hM : MetX l y (Cond.code y bytes maxL ret' :: lw_g) (rmx fr' lo' 0 0) (vx_Pre dC dI tysc (.ref b :: As) H.size wc) (vx_Q val (.inl o) (fun u t => vx_B dC dI tysc (va_A wc H.size) (w1 u) t) (va_A wc H.size)) 0 0 (va_A wc H.size))
    (hd : y.cls ≠ "java/lang/invoke/MethodHandle" ∧ y.cls ≠ "java/lang/invoke/VarHandle" ∧ (parseMethodDescriptor y.desc).map (fun d => d.parameters.length) = some n) (hR' : fr' + 1 ≤ fr ∧ 8 + (maxL + 11) + lo' ≤ lo)
    (hlen : As.length = n) (hst0 : st0 = As.reverse ++ .ref b :: rest) (hw : (rest.map fun v => v.category).sum ≤ 8) (hdg : decode cc pc = .ok (.invokevirtual idx, 3))
    (hP : va_P (dC, dI) classes ws H) (hD : va_D A ws) (hS : va_S A s.heap H locs) (hsz : ls.size = nL) (isC isR isT : List Nat) (hC : isC.map (fun i => ws[i]?) = wc.map some) (hnC : va_nd isC = true) (hR : isR.map (fun i => ws[i]?) = wr.map some) (hnR : va_nd isR = true) (hdis : ∀ i ∈ isR, i ∉ isC) (hT : isT.map (fun i => tys[i]?) = tysc.map some)
    (kk : ∀ (H1 : Heap) (locs1 : List Loc), va_P (dC, dI) classes (wr ++ w1 o.2) H1 → va_D A (wr ++ w1 o.2) → va_S A s.heap H1 locs1 → W p l e R s m args below meth c H1 locs1 cells slots Q (F0 m (pc + 3) ls ((val o.1).toList ++ rest))) : W p l e R s m args below meth c H locs cells slots Q (F0 m pc ls st0) := by
  obtain ⟨hx, hb, hr, hml, hown, hts, hlk, hK, hA, hV, htr, hex, hF, hL, -⟩ := C
  have hlen2 : ∀ sig, parseMethodDescriptor y.desc = some sig → n = sig.parameters.length := fun sig h => by
    have h2 := hd.2.2
    rw [h] at h2
    exact (Option.some.inj h2).symm
  have run := va_runV (l := l) (e := e) (R := R) (below := below) (meth := meth) (locs := locs) (cells := cells) (slots := slots) (rest := rest) (g := F0 m pc ls st0) (⟨hx, hb, hml, hown, hts⟩ : CallFix p m c cc nL s args lw_g own) (dc_met hM) ⟨⟨rfl, rfl, Nat.le_trans hR'.1 hF, Nat.le_trans hR'.2 hL, pay_in hts (dc_good _ hcw), List.mem_cons_self, hts _ hcw, hts _ hini, ⟨hd.1, hd.2.1⟩, hlen2, hts _ hl⟩, hts _ hin, hts _ hse⟩ (by rw [← hyc]; exact dc_preV hP hD hS hA hV hK isC isT hC hnC hT As hcq he) rfl hlen hsz hst0 (by show 2 * 0 + _ ≤ 8; omega) hdg ⟨hcs.1, hcs.2⟩
  exact dg_back (mc := 0) (ms := 0) run hP hD hS hA isC isR hC hR hnR hdis kk
theorem dw_callV (C : cxh p l e R s m args meth c dC dI A own cc nL ret fr lo tys hh) {mc ms : Nat} (hcs : cells + mc ≤ R.cells ∧ slots + ms ≤ R.slots) {o : ρ × S}
    (hcw : Cond.codeWith y bytes maxL ret' hh' ∈ lw_g) (hini : Cond.initialized y.cls ∈ lw_g) (hl : Cond.methodLink own idx y ∈ lw_g) (hin : Cond.instanceMethod y ∈ lw_g) (hse : Cond.selects y.cls y y ∈ lw_g) {b q0 ci : Nat} {cq : vw_C} {fs : List Value} (hcq : classes[ci]? = some cq) (hyc : cq.1 = y.cls) (he : ws[q0]? = some (b, .inr (ci, fs)))
    (hM : MetX l y (Cond.codeWith y bytes maxL ret' hh' :: lw_g) (rmx fr' lo' mc ms) (vx_Pre dC dI tysc (.ref b :: As) H.size wc) (vx_Q val (.inl o) (fun u t => vx_B dC dI tysc (va_A wc H.size) (w1 u) t) (va_A wc H.size)) mc ms (va_A wc H.size))
    (hd : y.cls ≠ "java/lang/invoke/MethodHandle" ∧ y.cls ≠ "java/lang/invoke/VarHandle" ∧ (parseMethodDescriptor y.desc).map (fun d => d.parameters.length) = some n) (hR' : fr' + 1 ≤ fr ∧ 8 + (maxL + 11) + lo' ≤ lo)
    (hlen : As.length = n) (hst0 : st0 = As.reverse ++ .ref b :: rest) (hw : (rest.map fun v => v.category).sum ≤ 8) (hdg : decode cc pc = .ok (.invokevirtual idx, 3))
    (hP : va_P (dC, dI) classes ws H) (hD : va_D A ws) (hS : va_S A s.heap H locs) (hsz : ls.size = nL) (isC isR isT : List Nat) (hC : isC.map (fun i => ws[i]?) = wc.map some) (hnC : va_nd isC = true) (hR : isR.map (fun i => ws[i]?) = wr.map some) (hnR : va_nd isR = true) (hdis : ∀ i ∈ isR, i ∉ isC) (hT : isT.map (fun i => tys[i]?) = tysc.map some)
    (kk : ∀ (H1 : Heap) (locs1 : List Loc), va_P (dC, dI) classes (wr ++ w1 o.2) H1 → va_D A (wr ++ w1 o.2) → va_S A s.heap H1 locs1 → W p l e R s m args below meth c H1 locs1 (cells + mc) (slots + ms) Q (F0 m (pc + 3) ls ((val o.1).toList ++ rest))) : W p l e R s m args below meth c H locs cells slots Q (F0 m pc ls st0) := by
  obtain ⟨hx, hb, hr, hml, hown, hts, hlk, hK, hA, hV, htr, hex, hF, hL, -⟩ := C
  have hlen2 : ∀ sig, parseMethodDescriptor y.desc = some sig → n = sig.parameters.length := fun sig h => by
    have h2 := hd.2.2
    rw [h] at h2
    exact (Option.some.inj h2).symm
  have run := vh_runV (l := l) (e := e) (R := R) (below := below) (meth := meth) (locs := locs) (cells := cells) (slots := slots) (rest := rest) (g := F0 m pc ls st0) (⟨hx, hb, hml, hown, hts⟩ : CallFix p m c cc nL s args lw_g own) (dc_met hM) ⟨⟨rfl, rfl, Nat.le_trans hR'.1 hF, Nat.le_trans hR'.2 hL, pay_in hts (dw_good _ hcw), List.mem_cons_self, hts _ hcw, hts _ hini, ⟨hd.1, hd.2.1⟩, hlen2, hts _ hl⟩, hts _ hin, hts _ hse⟩ (by rw [← hyc]; exact dc_preV hP hD hS hA hV hK isC isT hC hnC hT As hcq he) rfl hlen hsz hst0 (by show 2 * 0 + _ ≤ 8; omega) hdg ⟨hcs.1, hcs.2⟩
  exact dg_back run hP hD hS hA isC isR hC hR hnR hdis kk
theorem dh_thrS (C : cxh p l e R s m args meth c dC dI A own cc nL ret fr lo tys hh) {o : Nat × S}
    (hM : MetX l y (Cond.code y bytes maxL ret' :: lw_g) (rmx fr' lo' 1 6) (vx_Pre dC dI tysc As H.size wc) (vx_Q val (.inr o) (fun u t => vx_B dC dI tysc (va_A wc H.size) (w1 u) t) (va_A wc H.size)) 1 6 (va_A wc H.size))
    (hcw : Cond.code y bytes maxL ret' ∈ lw_g) (hini : Cond.initialized y.cls ∈ lw_g) (hl : Cond.methodLink own idx y ∈ lw_g) (hst : Cond.static y ∈ lw_g)
    (hd : y.cls ≠ "java/lang/invoke/MethodHandle" ∧ y.cls ≠ "java/lang/invoke/VarHandle" ∧ (parseMethodDescriptor y.desc).map (fun d => d.parameters.length) = some n) (hR' : fr' + 1 ≤ fr ∧ 8 + (maxL + 11) + lo' ≤ lo)
    (hlen : As.length = n) (hst0 : st0 = As.reverse ++ rest) (hw : (rest.map fun v => v.category).sum ≤ 8) (hdg : decode cc pc = .ok (.invokestatic idx, 3)) (hce : cells + 1 ≤ R.cells) (hsl : slots + 6 ≤ R.slots)
    (hP : va_P (dC, dI) classes ws H) (hD : va_D A ws) (hS : va_S A s.heap H locs) (hsz : ls.size = nL) (isC isR isT : List Nat) (hC : isC.map (fun i => ws[i]?) = wc.map some) (hnC : va_nd isC = true) (hR : isR.map (fun i => ws[i]?) = wr.map some) (hnR : va_nd isR = true) (hdis : ∀ i ∈ isR, i ∉ isC) (hT : isT.map (fun i => tys[i]?) = tysc.map some)
    (kk : ∀ (x : Addr) (t : State) (H1 : Heap) (locs1 : List Loc), s.heap.size ≤ x → vx_X o.1 x t → t.heap = H1 → s.vm.Alike t.vm → va_P (dC, dI) classes (wr ++ w1 o.2) H1 → va_D A (wr ++ w1 o.2) → va_S A s.heap H1 locs1 → WT p l e R s m args below meth c H1 locs1 (cells + 1) (slots + 6) Q x (F0 m pc ls rest)) : W p l e R s m args below meth c H locs cells slots Q (F0 m pc ls st0) := by
  obtain ⟨hx, hb, hr, hml, hown, hts, hlk, hK, hA, hV, htr, hex, hF, hL, -⟩ := C
  have hlen2 : ∀ sig, parseMethodDescriptor y.desc = some sig → n = sig.parameters.length := fun sig h => by
    have h2 := hd.2.2
    rw [h] at h2
    exact (Option.some.inj h2).symm
  have run := vx_runS (l := l) (e := e) (R := R) (below := below) (meth := meth) (locs := locs) (cells := cells) (slots := slots) (rest := rest) (g := F0 m pc ls st0) (⟨hx, hb, hml, hown, hts⟩ : CallFix p m c cc nL s args lw_g own) hM dc_thr ⟨⟨rfl, rfl, Nat.le_trans hR'.1 hF, Nat.le_trans hR'.2 hL, pay_in hts (dc_good _ hcw), List.mem_cons_self, hts _ hcw, hts _ hini, ⟨hd.1, hd.2.1⟩, hlen2, hts _ hl⟩, hts _ hst⟩ (dc_pre hP hD hS hA hV hK isC isT hC hnC hT As) rfl hlen hsz hst0 (by show 2 * 0 + _ ≤ 8; omega) hdg ⟨hce, hsl⟩
  exact dg_backT run hP hD hS hA isC isR hC hR hnR hdis kk
theorem dh_thrSN (C : cxh p l e R s m args meth c dC dI A own cc nL ret fr lo tys hh) {o : Nat × S}
    (hM : MetX l y (Cond.code y bytes maxL ret' :: lw_g) (rmx fr' lo' 1 6) (vx_Pre dC dI tysc As H.size wc) (vx_Q val (.inr o) (fun u t => vx_B dC dI tysc (va_A wc H.size) (w1 u) t) (va_A wc H.size)) 1 6 (va_A wc H.size))
    (hcw : Cond.code y bytes maxL ret' ∈ lw_g) (hini : Cond.initialized y.cls ∈ lw_g) {host : String} (hl : Cond.methodLinkNest own idx y host ∈ vx_nw) (hst : Cond.static y ∈ lw_g)
    (hd : y.cls ≠ "java/lang/invoke/MethodHandle" ∧ y.cls ≠ "java/lang/invoke/VarHandle" ∧ (parseMethodDescriptor y.desc).map (fun d => d.parameters.length) = some n) (hR' : fr' + 1 ≤ fr ∧ 8 + (maxL + 11) + lo' ≤ lo)
    (hlen : As.length = n) (hst0 : st0 = As.reverse ++ rest) (hw : (rest.map fun v => v.category).sum ≤ 8) (hdg : decode cc pc = .ok (.invokestatic idx, 3)) (hce : cells + 1 ≤ R.cells) (hsl : slots + 6 ≤ R.slots)
    (hP : va_P (dC, dI) classes ws H) (hD : va_D A ws) (hS : va_S A s.heap H locs) (hsz : ls.size = nL) (isC isR isT : List Nat) (hC : isC.map (fun i => ws[i]?) = wc.map some) (hnC : va_nd isC = true) (hR : isR.map (fun i => ws[i]?) = wr.map some) (hnR : va_nd isR = true) (hdis : ∀ i ∈ isR, i ∉ isC) (hT : isT.map (fun i => tys[i]?) = tysc.map some)
    (kk : ∀ (x : Addr) (t : State) (H1 : Heap) (locs1 : List Loc), s.heap.size ≤ x → vx_X o.1 x t → t.heap = H1 → s.vm.Alike t.vm → va_P (dC, dI) classes (wr ++ w1 o.2) H1 → va_D A (wr ++ w1 o.2) → va_S A s.heap H1 locs1 → WT p l e R s m args below meth c H1 locs1 (cells + 1) (slots + 6) Q x (F0 m pc ls rest)) : W p l e R s m args below meth c H locs cells slots Q (F0 m pc ls st0) := by
  obtain ⟨hx, hb, hr, hml, hown, hts, hlk, hK, hA, hV, htr, hex, hF, hL, -⟩ := C
  have hlen2 : ∀ sig, parseMethodDescriptor y.desc = some sig → n = sig.parameters.length := fun sig h => by
    have h2 := hd.2.2
    rw [h] at h2
    exact (Option.some.inj h2).symm
  have run := vx_runSN (l := l) (e := e) (R := R) (below := below) (meth := meth) (locs := locs) (cells := cells) (slots := slots) (rest := rest) (g := F0 m pc ls st0) (⟨hx, hb, hml, hown, hts⟩ : CallFix p m c cc nL s args lw_g own) hM dc_thr ⟨⟨⟨rfl, rfl, Nat.le_trans hR'.1 hF, Nat.le_trans hR'.2 hL, pay_in hts (dc_good _ hcw), List.mem_cons_self⟩, hts _ hcw, hts _ hini, ⟨hd.1, hd.2.1⟩, hlen2, va_Nw.use rfl (hV.1.2.2.1 _ hl)⟩, hts _ hst, trivial⟩ (dc_pre hP hD hS hA hV hK isC isT hC hnC hT As) rfl hlen hsz hst0 (by show 2 * 0 + _ ≤ 8; omega) hdg ⟨hce, hsl⟩
  exact dg_backT run hP hD hS hA isC isR hC hR hnR hdis kk
theorem dh_thrV (C : cxh p l e R s m args meth c dC dI A own cc nL ret fr lo tys hh) {o : Nat × S}
    (hcw : Cond.code y bytes maxL ret' ∈ lw_g) (hini : Cond.initialized y.cls ∈ lw_g) (hl : Cond.methodLink own idx y ∈ lw_g) (hin : Cond.instanceMethod y ∈ lw_g) (hse : Cond.selects y.cls y y ∈ lw_g) {b q0 ci : Nat} {cq : vw_C} {fs : List Value} (hcq : classes[ci]? = some cq) (hyc : cq.1 = y.cls) (he : ws[q0]? = some (b, .inr (ci, fs)))
    (hM : MetX l y (Cond.code y bytes maxL ret' :: lw_g) (rmx fr' lo' 1 6) (vx_Pre dC dI tysc (.ref b :: As) H.size wc) (vx_Q val (.inr o) (fun u t => vx_B dC dI tysc (va_A wc H.size) (w1 u) t) (va_A wc H.size)) 1 6 (va_A wc H.size))
    (hd : y.cls ≠ "java/lang/invoke/MethodHandle" ∧ y.cls ≠ "java/lang/invoke/VarHandle" ∧ (parseMethodDescriptor y.desc).map (fun d => d.parameters.length) = some n) (hR' : fr' + 1 ≤ fr ∧ 8 + (maxL + 11) + lo' ≤ lo)
    (hlen : As.length = n) (hst0 : st0 = As.reverse ++ .ref b :: rest) (hw : (rest.map fun v => v.category).sum ≤ 8) (hdg : decode cc pc = .ok (.invokevirtual idx, 3)) (hce : cells + 1 ≤ R.cells) (hsl : slots + 6 ≤ R.slots)
    (hP : va_P (dC, dI) classes ws H) (hD : va_D A ws) (hS : va_S A s.heap H locs) (hsz : ls.size = nL) (isC isR isT : List Nat) (hC : isC.map (fun i => ws[i]?) = wc.map some) (hnC : va_nd isC = true) (hR : isR.map (fun i => ws[i]?) = wr.map some) (hnR : va_nd isR = true) (hdis : ∀ i ∈ isR, i ∉ isC) (hT : isT.map (fun i => tys[i]?) = tysc.map some)
    (kk : ∀ (x : Addr) (t : State) (H1 : Heap) (locs1 : List Loc), s.heap.size ≤ x → vx_X o.1 x t → t.heap = H1 → s.vm.Alike t.vm → va_P (dC, dI) classes (wr ++ w1 o.2) H1 → va_D A (wr ++ w1 o.2) → va_S A s.heap H1 locs1 → WT p l e R s m args below meth c H1 locs1 (cells + 1) (slots + 6) Q x (F0 m pc ls rest)) : W p l e R s m args below meth c H locs cells slots Q (F0 m pc ls st0) := by
  obtain ⟨hx, hb, hr, hml, hown, hts, hlk, hK, hA, hV, htr, hex, hF, hL, -⟩ := C
  have hlen2 : ∀ sig, parseMethodDescriptor y.desc = some sig → n = sig.parameters.length := fun sig h => by
    have h2 := hd.2.2
    rw [h] at h2
    exact (Option.some.inj h2).symm
  have run := vx_runV (l := l) (e := e) (R := R) (below := below) (meth := meth) (locs := locs) (cells := cells) (slots := slots) (rest := rest) (g := F0 m pc ls st0) (⟨hx, hb, hml, hown, hts⟩ : CallFix p m c cc nL s args lw_g own) hM dc_thr ⟨⟨rfl, rfl, Nat.le_trans hR'.1 hF, Nat.le_trans hR'.2 hL, pay_in hts (dc_good _ hcw), List.mem_cons_self, hts _ hcw, hts _ hini, ⟨hd.1, hd.2.1⟩, hlen2, hts _ hl⟩, hts _ hin, hts _ hse⟩ (by rw [← hyc]; exact dc_preV hP hD hS hA hV hK isC isT hC hnC hT As hcq he) rfl hlen hsz hst0 (by show 2 * 0 + _ ≤ 8; omega) hdg ⟨hce, hsl⟩
  exact dg_backT run hP hD hS hA isC isR hC hR hnR hdis kk
theorem dh_iret (C : cxh p l e R s m args meth c dC dI A own cc nL (some .int) fr lo tys hh) {kc ks : Nat} (h9 : cells ≤ kc ∧ slots ≤ ks) {v : Int32} {u : S} (hP : va_P (dC, dI) classes (w1 u) H) (hD : va_D A (w1 u)) (hS : va_S A s.heap H locs) (hdg : decode cc pc = .ok (.ireturn, 1)) :
    W p l e R s m args below meth c H locs cells slots (XQ below (vx_Q vl_i (.inl (v, u)) (fun u t => vx_B dC dI tys A (w1 u) t) A) args s kc ks A) (F0 m pc ls [.int v]) := by
  obtain ⟨hx, hb, hr, -, -, -, hlk, hK, -⟩ := C
  refine vh_widen h9.1 h9.2 (W.mono (fun _ => vx_ofMQ) (W.iret (v := v) hx hb hr (fun t ht hW => ⟨⟨rfl, by rw [ht]; exact hP, va_K.moved hW.alike hK, hD⟩, hS.F ht⟩) hS.2.2 hdg hlk))
theorem dh_vret (C : cxh p l e R s m args meth c dC dI A own cc nL none fr lo tys hh) {kc ks : Nat} (h9 : cells ≤ kc ∧ slots ≤ ks) {u : S} (hP : va_P (dC, dI) classes (w1 u) H) (hD : va_D A (w1 u)) (hS : va_S A s.heap H locs) (hdg : decode cc pc = .ok (.return_, 1)) :
    W p l e R s m args below meth c H locs cells slots (XQ below (vx_Q vl_v (.inl ((), u)) (fun u t => vx_B dC dI tys A (w1 u) t) A) args s kc ks A) (F0 m pc ls []) := by
  obtain ⟨hx, hb, hr, -, -, -, hlk, hK, -⟩ := C
  refine vh_widen h9.1 h9.2 (W.mono (fun _ => vx_ofMQ) (W.vret hx hb hr (fun t ht hW => ⟨⟨rfl, by rw [ht]; exact hP, va_K.moved hW.alike hK, hD⟩, hS.F ht⟩) hS.2.2 hdg hlk))
end VH5
