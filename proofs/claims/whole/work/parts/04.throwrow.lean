/-! 'throw new E("..")' and 'throw new E()' as one row -/
def vx_cls (k : Nat) : String := match k with
  | 1 => "java/lang/IllegalArgumentException"
  | 2 => "java/lang/IllegalStateException"
  | 3 => "java/lang/UnsupportedOperationException"
  | _ => "java/lang/IndexOutOfBoundsException"
abbrev vx_up : List String := ["java/lang/RuntimeException", "java/lang/Exception"]
/-- x is an exception of the k-th kind -/
def vx_X (k : Nat) (x : Addr) (t : State) : Prop := ∃ cell : Cell, t.heap[x]? = some cell ∧ cell.vm = .none ∧ t.vm.findClass (vx_cls k) = some cell.cls
/-- the two statics of Throwable that its constructors read -/
def vs_T (A : Nat → Prop) (U : State) (H : Heap) : Prop := va_Zq "java/lang/Throwable" "UNASSIGNED_STACK" "[Ljava/lang/StackTraceElement;" A U H ∧ va_Zq "java/lang/Throwable" "SUPPRESSED_SENTINEL" "Ljava/util/List;" A U H
theorem vs_T.moved {A : Nat → Prop} {u U : State} {H : Heap} (hvm : u.vm.Alike U.vm) (h : vs_T A u H) : vs_T A U H := ⟨h.1.moved hvm, h.2.moved hvm⟩
theorem vs_T.kept {A : Nat → Prop} {U : State} {H H1 : Heap} (h : vs_T A U H) (hq : ∀ a : Nat, a < H.size → ¬ A a → H1[a]? = H[a]?) : vs_T A U H1 := ⟨h.1.kept hq, h.2.kept hq⟩
theorem vs_T.narrow {A B : Nat → Prop} {U : State} {H : Heap} (h : vs_T A U H) (hAB : ∀ q, B q → A q) : vs_T B U H := ⟨h.1.narrow hAB, h.2.narrow hAB⟩
theorem vx_isRefZ {C n d : String} {v : Value} {A : Nat → Prop} {U : State} {args : Array Value} (hv : v.isRef = true) (h : va_Z C n d v A U U.heap) : (Cond.isRef (.static C n d)).before args U = true := by
  obtain ⟨cf, kf, fi, f, a, cell, h1, h2, h3, h4, h5, h6, h7, -⟩ := h
  have he : (Term.static C n d).eval args U none [] U = some v := by
    simp [Term.eval, State.fieldNamed?, h1, h2, h4, h5, h6, h7]
  show (Cond.isRef (.static C n d)).holds args U none U [] = true
  simp only [Cond.holds, Cond.value]
  rw [he]
  cases v <;> simp_all [Value.isRef]
theorem vx_isRef {C n d : String} {A : Nat → Prop} {U : State} {args : Array Value} (h : va_Zq C n d A U U.heap) : (Cond.isRef (.static C n d)).before args U = true := by
  rcases h with h | ⟨t, h⟩
  · exact vx_isRefZ rfl h
  · exact vx_isRefZ rfl h
/-- a word that is among the tables', or one of the two on Throwable's statics -/
def vx_okw (w : Cond) : Prop := (w ∈ tables_1 ∧ goodWord w = true) ∨ w = .isRef (.static Bundle.tN "UNASSIGNED_STACK" Bundle.steD) ∨ w = .isRef (.static Bundle.tN "SUPPRESSED_SENTINEL" Bundle.listD)
def vx_okb (w : Cond) : Bool := (decide (w ∈ tables_1) && goodWord w) || decide (w = .isRef (.static Bundle.tN "UNASSIGNED_STACK" Bundle.steD)) || decide (w = .isRef (.static Bundle.tN "SUPPRESSED_SENTINEL" Bundle.listD))
theorem vx_okb_ok {ws : List Cond} (h : ws.all vx_okb = true) : ∀ w ∈ ws, vx_okw w := by
  intro w hw
  have h1 := List.all_eq_true.mp h w hw
  simp only [vx_okb, Bool.or_eq_true, Bool.and_eq_true, decide_eq_true_eq] at h1
  rcases h1 with (⟨h1, h2⟩ | h1) | h1
  · exact Or.inl ⟨h1, h2⟩
  · exact Or.inr (Or.inl h1)
  · exact Or.inr (Or.inr h1)
theorem vx_atoms {args : Array Value} {s T : State} {A : Nat → Prop} {ws : List Cond} (htb : ∀ w ∈ tables_1, w.before args s = true) (hat : ∀ w ∈ ws, vx_okw w) (hV : vs_T A s T.heap) : ∀ w ∈ ws, w.before args (vx_reb s T) = true := by
  intro w hw
  have hVr : vs_T A (vx_reb s T) (vx_reb s T).heap := hV.moved (u := s) (U := vx_reb s T) (Vm.Alike.refl s.vm)
  rcases hat w hw with ⟨h1, h2⟩ | rfl | rfl
  · exact word_at (s := s) (U := vx_reb s T) (State.WarmedH.refl s) (good_of_word h2) (htb w h1)
  · exact vx_isRef hVr.1
  · exact vx_isRef hVr.2
section VX6
variable {p : Program} {l : Launch} {e : Env} {R : Room} {s : State} {m : MethodId} {args : Array Value} {below : List Frame} {meth : Method} {c : Code} {H : Heap} {locs : List Loc} {cells slots : Nat} {Q : State → Prop}
  {cc : ByteArray} {pc : Nat} {ls : Array Slot} {rest : List Value} {A : Nat → Prop} {Qc : Array Value → State → Outcome → State → Prop} {free : Addr → Prop}
/-- the end of a throw, seen from the rebased invocation -/
def vx_End (s T : State) (below : List Frame) (k : Nat) (t : State) : Prop := t.status = .running ∧ ∃ x, Ended t below (.threw x) ∧ (vx_reb s T).WarmedH t.vm ∧ (vx_reb s T).sameButNew ({ t with vm := (vx_reb s T).vm } : State) [] 1 6 ∧ T.heap.size ≤ x ∧ vx_X k x t
theorem vx_out (hce : cells + 1 ≤ R.cells) (hsl : slots + 6 ≤ R.slots) (k : Nat) (hf : ∀ q ∈ locs, free q.base)
    (hq : ∀ (x : Addr) (t : State), vx_X k x t → H.size ≤ x → (∀ j : Nat, j < H.size → t.heap[j]? = H[j]?) → H.size ≤ t.heap.size → s.WarmedH t.vm → Qc args s (.threw x) t)
    (kk : ∀ T : State, T.heap = H → W p l e ({ frames := R.frames, cells := 1, slots := 6, locals := R.locals } : Room) (vx_reb s T) m args below meth c H [] 0 0 (vx_End s T below k) (F0 m pc ls rest)) :
    W p l e R s m args below meth c H locs cells slots (XQ below Qc args s (cells + 1) (slots + 6) free) (F0 m pc ls rest) := by
  intro T hT X
  obtain ⟨t, st, hrun, x, hend, hW, hsame, hnew, hX⟩ := kk T hT T hT (vx_rebStand X (Nat.le_refl _) (Nat.le_refl _) hce hsl)
  have hs2 := vx_rebSame X hsame
  rw [List.append_nil] at hs2
  refine ⟨t, st, .threw x, hrun, hend, hq x t hX (by rw [← hT]; exact hnew) (fun j hj => ?_) ?_ hW, locs, ⟨hW, hs2⟩, hf⟩
  · subst hT
    have hc : (vx_reb s T).heap[j]? = some T.heap[j] := Array.getElem?_eq_getElem hj
    have h1 := hsame.old_cell hc
    show t.heap[j]? = T.heap[j]?
    rw [Array.getElem?_eq_getElem hj]
    exact h1
  · rw [← hT]; exact hsame.2.1
theorem vx_throwS (hx : p.tables.exec = Jvm.exec) (hb : c.code = cc) (htr : e.platform.stackTraces = false) (hlocks : meth.locks = false) (k : Nat) {own tx : String} {i1 i2 i3 q : Nat} (hown : s.vm.findClass own = some m.cls) (htb : ∀ w ∈ tables_1, w.before args s = true)
    (hcl : (Cond.classLink own i1 (vx_cls k)).before args s = true) (hins : (Cond.instantiable (vx_cls k) 6).before args s = true) (hini : (Cond.initialized (vx_cls k)).before args s = true) (hstr : vk_R own i2 tx q s)
    (hat : ∀ w ∈ Bundle.ownAtoms own i3 (vx_cls k) vx_up, vx_okw w) (hV : vs_T A s s.heap) (hS : va_S A s.heap H locs) (hml : c.maxLocals = ls.size)
    (hd0 : decode cc pc = .ok (.new i1, 3)) (hd3 : decode cc (pc + 3) = .ok (.dup, 1)) (hd4 : decode cc (pc + 4) = .ok (.ldc i2, 2)) (hd6 : decode cc (pc + 6) = .ok (.invokespecial i3, 3)) (hd9 : decode cc (pc + 9) = .ok (.athrow, 1))
    (hout : ∀ y ∈ c.exceptionTable.toList, covers y (pc + 9) = false) (hfr : 6 ≤ R.frames) (hlo : (rest.map fun v => v.category).sum + 100 ≤ R.locals) (hce : cells + 1 ≤ R.cells) (hsl : slots + 6 ≤ R.slots) (hf : ∀ q ∈ locs, free q.base)
    (hq : ∀ (x : Addr) (t : State), vx_X k x t → H.size ≤ x → (∀ j : Nat, j < H.size → t.heap[j]? = H[j]?) → H.size ≤ t.heap.size → s.WarmedH t.vm → Qc args s (.threw x) t) :
    W p l e R s m args below meth c H locs cells slots (XQ below Qc args s (cells + 1) (slots + 6) free) (F0 m pc ls rest) := by
  refine vx_out hce hsl k hf hq (fun T hT => ?_)
  have hwd : ∀ w : Cond, (w.onTables && w.keeps) = true → w.before args s = true → w.before args (vx_reb s T) = true := fun w hw h => word_at (s := s) (U := vx_reb s T) (State.WarmedH.refl s) (Or.inl hw) h
  have hVT : vs_T A s T.heap := hV.kept (fun a h1 h2 => by rw [hT]; exact hS.2.1 a h1 h2)
  have hstr' : vk_R own i2 tx q (vx_reb s T) := hstr
  refine W.newc hx hb (s := vx_reb s T) hown (hwd _ rfl hcl) (hwd _ rfl hins) (hwd _ rfl hini) rfl hd0 (Nat.le_refl _) (Nat.le_refl _) (fun cC kC h1 h2 h3 h4 => ?_)
  refine W.eq (g2 := F0 m (pc + 3) ls (.ref H.size :: rest)) rfl ?_
  refine lv_dup hx hb hd3 rfl ?_
  refine va_ldcS hx hb hown hstr' hd4 ?_
  intro T2 hT2 X2
  obtain ⟨U, st, hrun, hend, hW, hsame, ce, hce2, hOC⟩ := X2.ctorThrowS hx htr (own := own) (cls := vx_cls k) (names := vx_up) (ic := i3) hown
    (by unfold vx_cls; split <;> decide +kernel) (by decide +kernel) (vx_atoms htb hat hVT) (fun x hx => by cases hx) h1 h2 (a := H.size)
    (by rw [hT2]; simp) (by show T.heap.size ≤ H.size; rw [hT]; exact Nat.le_refl _) (msg := .ref q) rfl (g := F0 m (pc + 4 + 2) ls (.ref q :: .ref H.size :: .ref H.size :: rest)) rfl hml.symm rfl rfl (rest := rest) rfl
    (by rw [hb]; exact hd6) (by rw [hb]; exact hd9) hout (by show vx_up.length + 3 < R.frames; simp; omega) (by simp [Value.category] at hlo ⊢; omega) hlocks
  refine ⟨U, st, hrun, H.size, hend, hW, hsame, by rw [hT]; exact Nat.le_refl _, ce, hce2, hOC.vm, ?_⟩
  rw [← hOC.cls]
  first | exact (hW.alike.findClass ..) | exact (hW.alike.findClass ..).symm | (rw [hW.alike.findClass])
theorem vx_throw0 (hx : p.tables.exec = Jvm.exec) (hb : c.code = cc) (htr : e.platform.stackTraces = false) (hlocks : meth.locks = false) (k : Nat) {own : String} {i1 i3 : Nat} (hown : s.vm.findClass own = some m.cls) (htb : ∀ w ∈ tables_1, w.before args s = true)
    (hcl : (Cond.classLink own i1 (vx_cls k)).before args s = true) (hins : (Cond.instantiable (vx_cls k) 6).before args s = true) (hini : (Cond.initialized (vx_cls k)).before args s = true)
    (hat : ∀ w ∈ Bundle.ownAtoms0 own i3 (vx_cls k) vx_up, vx_okw w) (hV : vs_T A s s.heap) (hS : va_S A s.heap H locs) (hml : c.maxLocals = ls.size)
    (hd0 : decode cc pc = .ok (.new i1, 3)) (hd3 : decode cc (pc + 3) = .ok (.dup, 1)) (hd6 : decode cc (pc + 4) = .ok (.invokespecial i3, 3)) (hd9 : decode cc (pc + 7) = .ok (.athrow, 1))
    (hout : ∀ y ∈ c.exceptionTable.toList, covers y (pc + 7) = false) (hfr : 6 ≤ R.frames) (hlo : (rest.map fun v => v.category).sum + 100 ≤ R.locals) (hce : cells + 1 ≤ R.cells) (hsl : slots + 6 ≤ R.slots) (hf : ∀ q ∈ locs, free q.base)
    (hq : ∀ (x : Addr) (t : State), vx_X k x t → H.size ≤ x → (∀ j : Nat, j < H.size → t.heap[j]? = H[j]?) → H.size ≤ t.heap.size → s.WarmedH t.vm → Qc args s (.threw x) t) :
    W p l e R s m args below meth c H locs cells slots (XQ below Qc args s (cells + 1) (slots + 6) free) (F0 m pc ls rest) := by
  refine vx_out hce hsl k hf hq (fun T hT => ?_)
  have hwd : ∀ w : Cond, (w.onTables && w.keeps) = true → w.before args s = true → w.before args (vx_reb s T) = true := fun w hw h => word_at (s := s) (U := vx_reb s T) (State.WarmedH.refl s) (Or.inl hw) h
  have hVT : vs_T A s T.heap := hV.kept (fun a h1 h2 => by rw [hT]; exact hS.2.1 a h1 h2)
  refine W.newc hx hb (s := vx_reb s T) hown (hwd _ rfl hcl) (hwd _ rfl hins) (hwd _ rfl hini) rfl hd0 (Nat.le_refl _) (Nat.le_refl _) (fun cC kC h1 h2 h3 h4 => ?_)
  refine W.eq (g2 := F0 m (pc + 3) ls (.ref H.size :: rest)) rfl ?_
  refine lv_dup hx hb hd3 rfl ?_
  intro T2 hT2 X2
  obtain ⟨U, st, hrun, hend, hW, hsame, ce, hce2, hOC⟩ := X2.ctorThrow0 hx htr (own := own) (cls := vx_cls k) (names := vx_up) (ic := i3) hown
    (by unfold vx_cls; split <;> decide +kernel) (by decide +kernel) (vx_atoms htb hat hVT) (fun x hx => by cases hx) h1 h2 (a := H.size)
    (by rw [hT2]; simp) (by show T.heap.size ≤ H.size; rw [hT]; exact Nat.le_refl _) (g := F0 m (pc + 3 + 1) ls (.ref H.size :: .ref H.size :: rest)) rfl hml.symm rfl rfl (rest := rest) rfl
    (by rw [hb]; exact hd6) (by rw [hb]; exact hd9) hout (by show vx_up.length + 3 < R.frames; simp; omega) (by simp [Value.category] at hlo ⊢; omega) hlocks
  refine ⟨U, st, hrun, H.size, hend, hW, hsame, by rw [hT]; exact Nat.le_refl _, ce, hce2, hOC.vm, ?_⟩
  rw [← hOC.cls]
  first | exact (hW.alike.findClass ..) | exact (hW.alike.findClass ..).symm | (rw [hW.alike.findClass])
end VX6
