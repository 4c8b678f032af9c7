/-! multianewarray: an array of N rows of M ints -/
abbrev mu_f (h0 i : Nat) : Nat → Value := fun j => if j < i then .ref (h0 + 1 + j) else .null
def mu_st (T : State) (cG cI : ClassId) (N M : Nat) : Nat → State
  | 0 => T.pushCell (arrV cG N (mu_f T.heap.size 0))
  | i + 1 => ((mu_st T cG cI N M i).pushCell (arrV cI M (fun _ => .int 0))).setCell T.heap.size (arrV cG N (mu_f T.heap.size (i + 1)))
theorem mu_up (h0 i : Nat) : updV (mu_f h0 i) i (.ref (h0 + 1 + i)) = mu_f h0 (i + 1) := by
  funext j
  show (if j = i then Value.ref (h0 + 1 + i) else if j < i then Value.ref (h0 + 1 + j) else Value.null) = if j < i + 1 then Value.ref (h0 + 1 + j) else Value.null
  by_cases h : j = i
  · subst h; simp
  · by_cases h2 : j < i
    · have h3 : j < i + 1 := by omega
      simp [h, h2, h3]
    · have h3 : ¬ j < i + 1 := by omega
      simp [h, h2, h3]
theorem mu_facts (T : State) (cG cI : ClassId) (N M : Nat) : ∀ i, (mu_st T cG cI N M i).heap.size = T.heap.size + 1 + i ∧ (mu_st T cG cI N M i).heap[T.heap.size]? = some (arrV cG N (mu_f T.heap.size i)) ∧ (mu_st T cG cI N M i).vm = T.vm ∧ (mu_st T cG cI N M i).slotsUsed = T.slotsUsed + N + i * M ∧ (∀ a : Nat, a < T.heap.size → (mu_st T cG cI N M i).heap[a]? = T.heap[a]?) ∧ ∀ j, j < i → (mu_st T cG cI N M i).heap[T.heap.size + 1 + j]? = some (arrV cI M (fun _ => .int 0)) := by
  intro i
  induction i with
  | zero =>
    refine ⟨by show (T.heap.push _).size = _; simp, State.heap_pushCell_size _ _, rfl, ?_, fun a ha => State.heap_pushCell_of_lt _ _ ha, fun j hj => absurd hj (Nat.not_lt_zero _)⟩
    show T.slotsUsed + (arrV cG N (mu_f T.heap.size 0)).slots.size = _
    rw [arrV_size]; omega
  | succ i ih =>
    obtain ⟨f1, f2, f3, f4, f5, f6⟩ := ih
    have hlt : T.heap.size < (mu_st T cG cI N M i).heap.size := by omega
    have hb : ((mu_st T cG cI N M i).pushCell (arrV cI M (fun _ => .int 0))).heap[T.heap.size]? = some (arrV cG N (mu_f T.heap.size i)) := by rw [State.heap_pushCell_of_lt (h := hlt)]; exact f2
    refine ⟨?_, State.heap_setCell_self hb, f3, ?_, fun a ha => ?_, fun j hj => ?_⟩
    · show (((mu_st T cG cI N M i).heap.push _).setIfInBounds _ _).size = _
      simp [f1]; omega
    · show (mu_st T cG cI N M i).slotsUsed + (arrV cI M (fun _ => .int 0)).slots.size = _
      rw [arrV_size, f4, Nat.succ_mul]; omega
    · show ((((mu_st T cG cI N M i).pushCell _).setCell _ _).heap[a]?) = _
      rw [State.heap_setCell_other (Nat.ne_of_gt ha), State.heap_pushCell_of_lt (h := show a < (mu_st T cG cI N M i).heap.size by omega)]
      exact f5 a ha
    · show ((((mu_st T cG cI N M i).pushCell _).setCell _ _).heap[T.heap.size + 1 + j]?) = _
      rw [State.heap_setCell_other (show T.heap.size ≠ T.heap.size + 1 + j by omega)]
      rcases Nat.lt_or_ge j i with h | h
      · rw [State.heap_pushCell_of_lt (h := show T.heap.size + 1 + j < (mu_st T cG cI N M i).heap.size by omega)]
        exact f6 j h
      · have e : T.heap.size + 1 + j = (mu_st T cG cI N M i).heap.size := by omega
        rw [e]
        exact State.heap_pushCell_size _ _
theorem mu_top (T : State) (f : JFrame) (cG cI : ClassId) (N M : Nat) : ∀ i, mu_st (T.setTop f) cG cI N M i = (mu_st T cG cI N M i).setTop f := by
  intro i
  induction i with
  | zero => rfl
  | succ i ih =>
    show ((mu_st (T.setTop f) cG cI N M i).pushCell _).setCell _ _ = _
    rw [ih]
    rfl
section MU1
variable {E : CtlPost} {e : Env} {d : Bool} {acts : List Action} {s : State}
theorem mu_row {cI cX : ClassId} {kI : Class} {x : Int32} (hk : s.vm.classes[cI]? = some kI) (hkind : kI.kind = .array cX .int) (hx : ¬ x < 0) (hl : ¬ x.toNatClampNeg > e.platform.arrayLengthLimit) (hh : ¬ x.toNatClampNeg * componentBytes .int > e.platform.maxHeapBytes)
    (h1 : s.heap.size < e.platform.maxCells) (h2 : s.slotsUsed + x.toNatClampNeg ≤ e.platform.maxSlots) {Q : Addr → Pre} (hq : ∀ acts', Q s.heap.size d acts' (s.pushCell (arrV cI x.toNatClampNeg (fun _ => .int 0)))) :
    wp (Op.multianewarray.make cI [x]) Q E e d acts s := by
  rw [Op.multianewarray.make]
  simp only [wp_bind', W.ite, hx, if_false, wp_pure', W.theClass, hk, hkind, Option.some.injEq, exists_eq_left']
  refine W.newArray_of hk hkind hl hh h1 h2 rfl (fun acts' => ?_)
  have e1 : ({ cls := cI, slots := Array.replicate x.toNatClampNeg (defaultValue .int) } : Cell) = arrV cI x.toNatClampNeg (fun _ => .int 0) := arrV_new cI _ _
  rw [e1]
  exact hq acts'
theorem mu_make {cG cI cX : ClassId} {kG kI : Class} {x y : Int32} (hkG : s.vm.classes[cG]? = some kG) (hkindG : kG.kind = .array cI (.array .int)) (hk : s.vm.classes[cI]? = some kI) (hkind : kI.kind = .array cX .int) (hx : ¬ x < 0) (hy : ¬ y < 0)
    (hl1 : ¬ x.toNatClampNeg > e.platform.arrayLengthLimit) (hh1 : ¬ x.toNatClampNeg * componentBytes (.array .int) > e.platform.maxHeapBytes) (hl : ¬ y.toNatClampNeg > e.platform.arrayLengthLimit) (hh : ¬ y.toNatClampNeg * componentBytes .int > e.platform.maxHeapBytes)
    (hc : s.heap.size + (1 + x.toNatClampNeg) ≤ e.platform.maxCells) (hs : s.slotsUsed + (x.toNatClampNeg + x.toNatClampNeg * y.toNatClampNeg) ≤ e.platform.maxSlots) {Q : Addr → Pre} (hq : ∀ d' acts', Q s.heap.size d' acts' (mu_st s cG cI x.toNatClampNeg y.toNatClampNeg x.toNatClampNeg)) :
    wp (Op.multianewarray.make cG [x, y]) Q E e d acts s := by
  have hfind : ([y].find? (· < 0)) = none := by simp [hy]
  rw [Op.multianewarray.make]
  simp only [wp_bind', W.ite, hx, if_false, wp_pure', W.theClass, hkG, hkindG, Option.some.injEq, exists_eq_left']
  generalize hNe : x.toNatClampNeg = N at *
  generalize hMe : y.toNatClampNeg = M at *
  refine W.newArray_of hkG hkindG hl1 hh1 (by omega) (by have := Nat.zero_le (N * M); omega) rfl (fun acts' => ?_)
  have e1 : ({ cls := cG, slots := Array.replicate N .null } : Cell) = arrV cG N (mu_f s.heap.size 0) := arrV_new cG _ _
  rw [e1]
  simp only [hfind]
  rw [ite_self, wp_bind', Std.Legacy.Range.forIn_eq_forIn_range']
  have hsz : ([:N] : Std.Legacy.Range).size = N := by simp [Std.Legacy.Range.size]
  rw [hsz]
  show wp (forIn (List.range' 0 N 1) PUnit.unit _) _ E e d acts' _
  refine wp_forIn_inv (fun rest s' => ∃ i, i ≤ N ∧ rest = List.range' i (N - i) ∧ s' = mu_st s cG cI N M i) _ _ ⟨0, Nat.zero_le _, rfl, rfl⟩ ?_ ?_
  · rintro z rest s' d' acts' Q' ⟨i, hi, hlist, rfl⟩ hnext
    have hlt : i < N := by
      rcases Nat.lt_or_ge i N with h | h
      · exact h
      · rw [show N - i = 0 from by omega] at hlist; simp at hlist
    obtain ⟨rfl, hrest⟩ : z = i ∧ rest = List.range' (i + 1) (N - (i + 1)) := by
      rw [show N - i = (N - (i + 1)) + 1 from by omega, List.range'_succ] at hlist
      exact ⟨(List.cons.inj hlist).1, (List.cons.inj hlist).2⟩
    obtain ⟨f1, f2, f3, f4, f5, f6⟩ := mu_facts s cG cI N M z
    have hmul : z * M + M ≤ N * M := by
      have h9 := Nat.mul_le_mul_right M (show z + 1 ≤ N from hlt)
      rw [Nat.succ_mul] at h9; exact h9
    simp only [wp_bind']
    refine mu_row (by rw [f3]; exact hk) hkind hy (by rw [hMe]; exact hl) (by rw [hMe]; exact hh) (by rw [f1]; omega) (by rw [f4, hMe]; omega) (fun acts9 => ?_)
    rw [hMe]
    have hlt0 : s.heap.size < (mu_st s cG cI N M z).heap.size := by rw [f1]; omega
    simp only [wp_bind', W.writeLoc, wp_pure']
    refine ⟨arrV cG N (mu_f s.heap.size z), by rw [State.heap_pushCell_of_lt (h := hlt0)]; exact f2, (fun h => by cases h), by rw [arrV_size]; exact hlt, ?_, hnext _ _ _ ⟨z + 1, hlt, hrest, ?_⟩⟩
    · show ((mu_st s cG cI N M z).pushCell _).fitsSlot cG .none z _ = true
      simp [State.fitsSlot, State.slotType?, f3, hkG, hkindG]
      rfl
    · rw [f1, arrV_store, mu_up]; rfl
  · rintro s' d' acts' ⟨i, hi, hlist, rfl⟩
    have hiN : i = N := by
      rcases Nat.lt_or_ge i N with h | h
      · rw [show N - i = (N - (i + 1)) + 1 from by omega, List.range'_succ] at hlist; cases hlist
      · omega
    subst hiN
    simp only [wp_pure']
    exact hq _ _
end MU1
def vn_M (kG kI : ClassId) (U : State) : Prop := ∃ kA : Class, U.vm.classes[kG]? = some kA ∧ kA.kind = .array kI (.array .int)
section MU2
variable {p : Program} {l : Launch} {e : Env} {R : Room} {s : State} {m : MethodId} {args : Array Value} {below : List Frame} {meth : Method} {c : Code} {T : State} {locs : List Loc} {cells slots : Nat}
theorem mu_stand (X : Stand p l e R s m args below meth c T locs cells slots) (cG cI : ClassId) (N M : Nat) : ∀ i, Stand p l e R s m args below meth c (mu_st T cG cI N M i) (locs ++ (List.range i).map fun j => ⟨T.heap.size, j⟩) (cells + 1 + i) (slots + N + i * M) := by
  intro i
  induction i with
  | zero =>
    have h := X.pushed (arrV cG N (mu_f T.heap.size 0))
    rw [arrV_size] at h
    simpa [mu_st] using h
  | succ i ih =>
    obtain ⟨f1, f2, f3, f4, -⟩ := mu_facts T cG cI N M i
    have hlt0 : T.heap.size < (mu_st T cG cI N M i).heap.size := by rw [f1]; omega
    have hcell : ((mu_st T cG cI N M i).pushCell (arrV cI M (fun _ => .int 0))).heap[T.heap.size]? = some (arrV cG N (mu_f T.heap.size i)) := by rw [State.heap_pushCell_of_lt (h := hlt0)]; exact f2
    have h := (ih.pushed (arrV cI M (fun _ => .int 0))).stored hcell i (.ref (T.heap.size + 1 + i))
    rw [arrV_store, mu_up, arrV_size] at h
    have e2 : (locs ++ (List.range (i + 1)).map fun j => (⟨T.heap.size, j⟩ : Loc)) = (locs ++ (List.range i).map fun j => (⟨T.heap.size, j⟩ : Loc)) ++ [⟨T.heap.size, i⟩] := by simp [List.range_succ, List.append_assoc]
    have e3 : slots + N + (i + 1) * M = slots + N + i * M + M := by rw [Nat.succ_mul]; omega
    rw [e2, e3]
    exact h
theorem mu_step (X : Stand p l e R s m args below meth c T locs cells slots) (hexec : p.tables.exec = Jvm.exec) {own : String} {idx : Nat} {kG kI : ClassId} (hown : s.vm.findClass own = some m.cls) (hcl : (Cond.classLink own idx "[[I").before args s = true) (hname : s.vm.findClass "[[I" = some kG) (hM : vn_M kG kI s) {kA : Class} {cX : ClassId} (hk : s.vm.classes[kI]? = some kA) (hkind : kA.kind = .array cX .int)
    {g : JFrame} (hg : g.method = m) (hdg : decode c.code g.pc = .ok (.multianewarray idx 2, 4)) {x y : Int32} {rest : List Value} (hstack : g.stack = .int y :: .int x :: rest) (hx : ¬ x < 0) (hy : ¬ y < 0) (hb1 : x.toNatClampNeg * 4 ≤ 536870912) (hb2 : y.toNatClampNeg * 4 ≤ 536870912)
    (hcells : cells + (1 + x.toNatClampNeg) ≤ R.cells) (hslots : slots + (x.toNatClampNeg + x.toNatClampNeg * y.toNatClampNeg) ≤ R.slots) :
    ∃ vm₁ : Vm, s.WarmedH vm₁ ∧ Stand p l e R s m args below meth c (mu_st (T.setVm vm₁) kG kI x.toNatClampNeg y.toNatClampNeg x.toNatClampNeg) (locs ++ (List.range x.toNatClampNeg).map fun j => ⟨T.heap.size, j⟩) (cells + 1 + x.toNatClampNeg) (slots + x.toNatClampNeg + x.toNatClampNeg * y.toNatClampNeg) ∧
      ∀ target, Steps p.tables e below ((mu_st (T.setVm vm₁) kG kI x.toNatClampNeg y.toNatClampNeg x.toNatClampNeg).setTop { g with pc := g.pc + 4, stack := .ref T.heap.size :: rest }) target → Steps p.tables e below (T.setTop g) target := by
  subst hg
  have hpl : e.platform.magicAccessors = ({} : Platform).magicAccessors := by rw [X.admits.platform]
  obtain ⟨c0, hfc0, hlk⟩ := Cond.classLink_spec hown hcl e.platform hpl
  cases hname.symm.trans hfc0
  obtain ⟨kB, hkB, hkindB⟩ := hM
  have hg₁ := resolveClass_links e.toSetting (X.warmed.classLinks hlk)
  obtain ⟨dk, _, _, _, hd, _, _, _, _, _, _, hres⟩ := hlk.here
  have hwarm₁ : s.WarmedH (T.vm.noted g.method.cls idx (.cls kG)) := X.warmed.noted hd hres (State.rightAt_cls hlk)
  generalize T.vm.noted g.method.cls idx (.cls kG) = vm₁ at hg₁ hwarm₁
  have hal : s.vm.Alike vm₁ := hwarm₁.alike
  obtain ⟨kA₁, hkA₁, heA⟩ := hal.2.2 _ _ hkB
  obtain ⟨kC₁, hkC₁, heC⟩ := hal.2.2 _ _ hk
  have hkindA₁ : kA₁.kind = .array kI (.array .int) := by rw [heA]; exact hkindB
  have hkindC₁ : kC₁.kind = .array cX .int := by rw [heC]; exact hkind
  have X₁ := X.noted hwarm₁
  obtain ⟨hr1, hr2⟩ := X.roomAbove hcells hslots
  refine ⟨vm₁, hwarm₁, mu_stand X₁ kG kI _ _ _, fun target hrest => ?_⟩
  have hl1 : ¬ x.toNatClampNeg > e.platform.arrayLengthLimit := by rw [Launch.admits_arrayLengthLimit X.admits]; omega
  have hh1 : ¬ x.toNatClampNeg * componentBytes (.array .int) > e.platform.maxHeapBytes := by
    rw [Launch.admits_maxHeapBytes X.admits]; show ¬ x.toNatClampNeg * 4 > 536870912; omega
  have hl2 : ¬ y.toNatClampNeg > e.platform.arrayLengthLimit := by rw [Launch.admits_arrayLengthLimit X.admits]; omega
  have hh2 : ¬ y.toNatClampNeg * componentBytes .int > e.platform.maxHeapBytes := by
    rw [Launch.admits_maxHeapBytes X.admits]; show ¬ y.toNatClampNeg * 4 > 536870912; omega
  jvm_step X.here [hexec, hdg]
  simp only [Op.multianewarray.sem, wp_bind', W.resolveClassAt_links (State.method?_setTop g X.here.top) hg₁]
  rw [W.popN, if_neg (by decide)]
  refine ⟨g, State.topJava?_setTop' (s := T.setVm vm₁) g X.here.top, [.int x, .int y], rest, rfl, hstack, ?_⟩
  simp only [List.mapM_cons, List.mapM_nil, wp_bind', wp_pure']
  refine mu_make hkA₁ hkindA₁ hkC₁ hkindC₁ hx hy hl1 hh1 hl2 hh2 (by show T.heap.size + _ ≤ _; omega) (by show T.slotsUsed + _ ≤ _; omega) (fun d' acts' => ?_)
  have XF := mu_stand X₁ kG kI x.toNatClampNeg y.toNatClampNeg x.toNatClampNeg
  have eS : ((T.setTop g).setVm vm₁).setTop { g with stack := rest } = (T.setVm vm₁).setTop { g with stack := rest } := by
    show ((T.setVm vm₁).setTop g).setTop _ = _
    rw [State.setTop_setTop]
  rw [eS, mu_top]
  simp only [wp_bind', W.mark, W.pushRef, State.topJava?_setTop' _ XF.here.top, Option.some.injEq, exists_eq_left', State.setTop_setTop, State.heap_setTop]
  intro acts
  simp [jvm, XF.here.top]
  exact hrest
end MU2
theorem mu_arr {cI : ClassId} {N : Nat} {f g : Nat → Value} (h : ∀ j, j < N → f j = g j) : arrV cI N f = arrV cI N g := by
  unfold arrV
  congr 1
  apply Array.ext
  · simp
  · intro i h1 h2
    simp only [Array.getElem_ofFn]
    exact h i (by simpa using h1)
section MU3
variable {p : Program} {l : Launch} {e : Env} {R : Room} {s : State} {m : MethodId} {args : Array Value} {below : List Frame} {meth : Method} {c : Code} {H : Heap} {locs : List Loc} {cells slots : Nat} {Q : State → Prop} {dC : Nat → ClassId} {dI : Nat → Nat → Nat} {A : Nat → Prop}
  {cc : ByteArray} {pc : Nat} {ls : Array Slot} {rest : List Value} {tys : List (ClassId × FieldType)} {ws : va_W} {own : String} {idx : Nat}
theorem dn_multi {kG kI : ClassId} (hexec : p.tables.exec = Jvm.exec) (hb : c.code = cc) (hown : s.vm.findClass own = some m.cls) (hcl : (Cond.classLink own idx "[[I").before args s = true) (hM : vn_M kG kI s) (hK : va_K (dC, dI) classes tys s) (t0 t1 : Nat) (ht0 : tys[t0]? = some (kG, .array .int)) (ht1 : tys[t1]? = some (kI, .int)) (hP : va_P (dC, dI) classes ws H) (hD : va_D A ws) (hS : va_S A s.heap H locs) (hA : ∀ q : Nat, s.heap.size ≤ q → A q)
    (hcells : cells + 5 ≤ R.cells) (hslots : slots + 65540 ≤ R.slots) (hdg : decode cc pc = .ok (.multianewarray idx 2, 4))
    (kk : ∀ (q0 q1 q2 q3 q4 : Nat) (H1 : Heap) (locs1 : List Loc), va_P (dC, dI) classes (ws ++ [(q0, .inl (kG, 4, .inr (.inr (.inr (.inr (rf4 q1 q2 q3 q4)))))), (q1, .inl (kI, 16384, .inl (fun _ => 0))), (q2, .inl (kI, 16384, .inl (fun _ => 0))), (q3, .inl (kI, 16384, .inl (fun _ => 0))), (q4, .inl (kI, 16384, .inl (fun _ => 0)))]) H1 → va_D A (ws ++ [(q0, .inl (kG, 4, .inr (.inr (.inr (.inr (rf4 q1 q2 q3 q4)))))), (q1, .inl (kI, 16384, .inl (fun _ => 0))), (q2, .inl (kI, 16384, .inl (fun _ => 0))), (q3, .inl (kI, 16384, .inl (fun _ => 0))), (q4, .inl (kI, 16384, .inl (fun _ => 0)))]) → va_S A s.heap H1 locs1 →
      W p l e R s m args below meth c H1 locs1 (cells + 5) (slots + 65540) Q (F0 m (pc + 4) ls (.ref q0 :: rest))) : W p l e R s m args below meth c H locs cells slots Q (F0 m pc ls (.int 16384 :: .int 4 :: rest)) := by
  intro T hT X
  have hname : s.vm.findClass "[[I" = some kG := by
    have h := (hK.2 t0 _ ht0).2
    have e9 : "[" ++ (FieldType.array .int).toString = "[[I" := by decide +kernel
    rw [← e9]
    exact h
  obtain ⟨-, kA, hkA, cX, hkindA⟩ := (hK.2 t1 _ ht1).1 0 (fun _ => .null)
  have hx4 : (4 : Int32).toNatClampNeg = 4 := by decide
  have hy4 : (16384 : Int32).toNatClampNeg = 16384 := by decide
  obtain ⟨vm₁, hW1, X1, st⟩ := mu_step X hexec hown hcl hname hM (kA := kA) (cX := cX) hkA hkindA (g := F0 m pc ls (.int 16384 :: .int 4 :: rest)) rfl (by rw [hb]; exact hdg) (x := 4) (y := 16384) (rest := rest) rfl (by decide) (by decide) (by rw [hx4]; decide) (by rw [hy4]; decide) (by rw [hx4]; omega) (by rw [hx4, hy4]; omega)
  rw [hx4, hy4] at X1 st
  have e1 : cells + 1 + 4 = cells + 5 := by omega
  have e2 : slots + 4 + 4 * 16384 = slots + 65540 := by omega
  rw [e1, e2] at X1
  obtain ⟨f1, f2, f3, f4, f5, f6⟩ := mu_facts (T.setVm vm₁) kG kI 4 16384 4
  have hTs : (T.setVm vm₁).heap = H := hT
  rw [hTs] at f1 f2 f5 f6
  generalize hH1 : (mu_st (T.setVm vm₁) kG kI 4 16384 4).heap = H1 at f1 f2 f5 f6
  have ko : ∀ (k : Nat) (z : Nat × va_E), ws[k]? = some z → H1[z.1]? = H[z.1]? := fun k z hz => f5 z.1 ((hP k z hz).lt)
  have hnew : va_P (dC, dI) classes [(H.size, .inl (kG, 4, .inr (.inr (.inr (.inr (rf4 (H.size + 1) (H.size + 2) (H.size + 3) (H.size + 4))))))), (H.size + 1, .inl (kI, 16384, .inl (fun _ => 0))), (H.size + 2, .inl (kI, 16384, .inl (fun _ => 0))), (H.size + 3, .inl (kI, 16384, .inl (fun _ => 0))), (H.size + 4, .inl (kI, 16384, .inl (fun _ => 0)))] H1 := by
    intro k z hz
    match k, hz with
    | 0, hz =>
      cases hz
      show H1[H.size]? = some (vp_cell kG (4, .inr (.inr (.inr (.inr (rf4 (H.size + 1) (H.size + 2) (H.size + 3) (H.size + 4)))))))
      rw [f2, vp_cell_q]
      refine congrArg some (mu_arr ?_)
      intro j hj
      match j, hj with
      | 0, _ => rfl
      | 1, _ => rfl
      | 2, _ => rfl
      | 3, _ => rfl
      | j + 4, h9 => exact absurd h9 (by omega)
    | 1, hz => cases hz; exact f6 0 (by decide)
    | 2, hz => cases hz; exact f6 1 (by decide)
    | 3, hz => cases hz; exact f6 2 (by decide)
    | 4, hz => cases hz; exact f6 3 (by decide)
    | k + 5, hz => exact absurd hz (by simp)
  have hDn : va_D A [(H.size, .inl (kG, 4, .inr (.inr (.inr (.inr (rf4 (H.size + 1) (H.size + 2) (H.size + 3) (H.size + 4))))))), (H.size + 1, .inl (kI, 16384, .inl (fun _ => 0))), (H.size + 2, .inl (kI, 16384, .inl (fun _ => 0))), (H.size + 3, .inl (kI, 16384, .inl (fun _ => 0))), (H.size + 4, .inl (kI, 16384, .inl (fun _ => 0)))] := by
    have hadr : ∀ (k : Nat) (z : Nat × va_E), ([(H.size, .inl (kG, 4, .inr (.inr (.inr (.inr (rf4 (H.size + 1) (H.size + 2) (H.size + 3) (H.size + 4))))))), (H.size + 1, .inl (kI, 16384, .inl (fun _ => 0))), (H.size + 2, .inl (kI, 16384, .inl (fun _ => 0))), (H.size + 3, .inl (kI, 16384, .inl (fun _ => 0))), (H.size + 4, .inl (kI, 16384, .inl (fun _ => 0)))] : va_W)[k]? = some z → z.1 = H.size + k := by
      intro k z hz
      match k, hz with
      | 0, hz => cases hz; rfl
      | 1, hz => cases hz; rfl
      | 2, hz => cases hz; rfl
      | 3, hz => cases hz; rfl
      | 4, hz => cases hz; rfl
      | k + 5, hz => exact absurd hz (by simp)
    refine ⟨fun i j x y hx hy hxy => ?_, fun k z hz => ?_⟩
    · have h1 := hadr i x hx
      have h2 := hadr j y hy
      omega
    · rw [hadr k z hz]
      exact hA _ (Nat.le_trans hS.1 (Nat.le_add_right _ _))
  have hdis : ∀ (i j : Nat) (x y : Nat × va_E), ws[i]? = some x → ([(H.size, .inl (kG, 4, .inr (.inr (.inr (.inr (rf4 (H.size + 1) (H.size + 2) (H.size + 3) (H.size + 4))))))), (H.size + 1, .inl (kI, 16384, .inl (fun _ => 0))), (H.size + 2, .inl (kI, 16384, .inl (fun _ => 0))), (H.size + 3, .inl (kI, 16384, .inl (fun _ => 0))), (H.size + 4, .inl (kI, 16384, .inl (fun _ => 0)))] : va_W)[j]? = some y → x.1 ≠ y.1 := by
    intro i j x y hx hy
    have h1 := (hP i x hx).lt
    have h2 : H.size ≤ y.1 := by
      match j, hy with
      | 0, hy => cases hy; exact Nat.le_refl _
      | 1, hy => cases hy; exact Nat.le_add_right _ _
      | 2, hy => cases hy; exact Nat.le_add_right _ _
      | 3, hy => cases hy; exact Nat.le_add_right _ _
      | 4, hy => cases hy; exact Nat.le_add_right _ _
      | j + 5, hy => exact absurd hy (by simp)
    intro hxy
    exact absurd h1 (Nat.not_lt.mpr (hxy ▸ h2))
  have hloc : ∀ q ∈ locs ++ (List.range 4).map (fun j => (⟨T.heap.size, j⟩ : Loc)), A q.base := by
    intro q hq
    rcases List.mem_append.mp hq with h | h
    · exact hS.2.2 q h
    · obtain ⟨z, -, hz⟩ := List.mem_map.mp h
      rw [← hz]
      show A T.heap.size
      rw [hT]
      exact hA _ hS.1
  have st' := st
  rw [hT] at st'
  obtain ⟨t, a1, b1⟩ := kk H.size (H.size + 1) (H.size + 2) (H.size + 3) (H.size + 4) H1 _ ((hP.kept ko).app hnew) (va_D.app hD hDn (fun i j x y hx hy hxy => hdis i j x y hx hy hxy)) ⟨Nat.le_trans hS.1 (by omega), fun q h1 h2 => (f5 q (Nat.lt_of_lt_of_le h1 hS.1)).trans (hS.2.1 q h1 h2), hloc⟩ _ hH1 X1
  exact ⟨t, st' t a1, b1⟩
end MU3
