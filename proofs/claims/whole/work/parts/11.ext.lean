/-! methods with a constant among their arguments (a static table, a String constant): its facts stand beside the world -/
def exOk (ex : (Nat → Prop) → State → Heap → Prop) : Prop := (∀ (A : Nat → Prop) (u U : State) (H : Heap), u.WarmedH U.vm → ex A u H → ex A U H) ∧ (∀ (A : Nat → Prop) (U : State) (H H1 : Heap), (∀ a : Nat, a < H.size → ¬ A a → H1[a]? = H[a]?) → ex A U H → ex A U H1) ∧ ∀ (A B : Nat → Prop) (U : State) (H : Heap), (∀ q, B q → A q) → ex A U H → ex B U H
def ex_T (t N : Nat) (f : Nat → Int32) : (Nat → Prop) → State → Heap → Prop := fun A U H => va_T .int t N (fun j => .int (f j)) A U H
theorem ex_T_ok {t N : Nat} {f : Nat → Int32} : exOk (ex_T t N f) := ⟨fun _ _ _ _ hW h => va_T.moved hW.alike h, fun _ _ _ _ hq h => va_T.kept h hq, fun _ _ _ _ hAB h => va_T.narrow h hAB⟩
def ex_S (q v N : Nat) (f : Nat → Int32) : (Nat → Prop) → State → Heap → Prop := fun A U H => va_O "java/lang/String" q A U H ∧ va_OF "java/lang/String" "coder" "B" (.int 0) q A U H ∧ va_OF "java/lang/String" "value" "[B" (.ref v) q A U H ∧ va_T .byte v N (fun j => .int (f j)) A U H ∧ va_Z "java/lang/String" "COMPACT_STRINGS" "Z" (.int 1) A U H ∧ vs_P A U H
theorem ex_S_ok {q v N : Nat} {f : Nat → Int32} : exOk (ex_S q v N f) := ⟨fun _ _ _ _ hW h => ⟨h.1.moved hW.alike, h.2.1.moved hW.alike, h.2.2.1.moved hW.alike, h.2.2.2.1.moved hW.alike, h.2.2.2.2.1.moved hW.alike, h.2.2.2.2.2.moved hW.alike⟩, fun _ _ _ _ hq h => ⟨h.1.kept hq, h.2.1.kept hq, h.2.2.1.kept hq, h.2.2.2.1.kept hq, h.2.2.2.2.1.kept hq, h.2.2.2.2.2.kept hq⟩, fun _ _ _ _ hAB h => ⟨h.1.narrow hAB, h.2.1.narrow hAB, h.2.2.1.narrow hAB, h.2.2.2.1.narrow hAB, h.2.2.2.2.1.narrow hAB, h.2.2.2.2.2.narrow hAB⟩⟩
def vx_PreE (dC : Nat → ClassId) (dI : Nat → Nat → Nat) (tys : List (ClassId × FieldType)) (av : List Value) (sz : Nat) (ws : va_W) (ex : (Nat → Prop) → State → Heap → Prop) : Array Value → State → Prop := fun v U => vx_Pre dC dI tys av sz ws v U ∧ ex (va_A ws sz) U U.heap
theorem vx_PreE_blind {dC : Nat → ClassId} {dI : Nat → Nat → Nat} {tys : List (ClassId × FieldType)} {av : List Value} {sz : Nat} {ws : va_W} {ex : (Nat → Prop) → State → Heap → Prop} (hok : exOk ex) : FrameBlind (vx_PreE dC dI tys av sz ws ex) := fun a U g mk h => ⟨vx_Pre_blind a U g mk h.1, hok.1 _ U (U.calling g mk a) _ (State.WarmedH.refl U) h.2⟩
section DE1
variable {p : Program} {l : Launch} {e : Env} {R : Room} {s s₁ : State} {m : MethodId} {args : Array Value} {below : List Frame} {meth : Method} {c : Code} {H : Heap} {locs : List Loc} {Q : State → Prop} {dC : Nat → ClassId} {dI : Nat → Nat → Nat} {A : Nat → Prop}
  {cc : ByteArray} {pc : Nat} {ls : Array Slot} {st0 rest : List Value} {tys tysc : List (ClassId × FieldType)} {ws wc wr : va_W} {own : String} {nL fr lo : Nat} {ret : Option FieldType}
  {y : MethodName} {bytes : ByteArray} {maxL idx fr' lo' n : Nat} {ret' : Option FieldType} {As : List Value} {ρ S : Type} {val : ρ → Option Value} {w1 : S → va_W} {ex : (Nat → Prop) → State → Heap → Prop}
theorem dc_entryE {rm : Room} {av : List Value} {sz : Nat} (hfl : l.flags = flags0) (B : BodyLoose p l y (headSpec (Cond.code y cc nL ret :: lw_g) rm) cc nL ret e s m args below meth c s₁) (hml : c.maxLocals = nL) (hP : vx_PreE dC dI tys av sz ws ex args s) :
    args = av.toArray ∧ s.heap.size = sz ∧ cx p l e (headSpec (Cond.code y cc nL ret :: lw_g) rm).room s m args meth c dC dI (va_A ws s.heap.size) y.cls cc nL ret rm.frames rm.locals tys ∧ va_P (dC, dI) classes ws s.heap ∧ va_D (va_A ws s.heap.size) ws ∧ va_S (va_A ws s.heap.size) s.heap s.heap [] ∧ ex (va_A ws s.heap.size) s s.heap := by
  obtain ⟨h1, h2⟩ := hP
  obtain ⟨a1, a2, a3, a4, a5, a6⟩ := dc_entry hfl B hml h1
  subst a2
  exact ⟨a1, rfl, a3, a4, a5, a6, h2⟩
theorem dc_preE (hok : exOk ex) (hE : ex A s s.heap) (hP : va_P (dC, dI) classes ws H) (hD : va_D A ws) (hS : va_S A s.heap H locs) (hA : ∀ q : Nat, s.heap.size ≤ q → A q) (hV : vs_All A s s.heap) (hK : va_K (dC, dI) classes tys s) (isC isT : List Nat) (hC : isC.map (fun i => ws[i]?) = wc.map some) (hn : va_nd isC = true) (hT : isT.map (fun i => tys[i]?) = tysc.map some) (As : List Value) :
    PreS s H (vx_PreE dC dI tysc As H.size wc ex) As := by
  refine ⟨vx_PreE_blind hok, fun U hU hW => ⟨(dc_pre hP hD hS hA hV hK isC isT hC hn hT As).2 U hU hW, ?_⟩⟩
  rw [hU]
  exact hok.1 _ s U _ hW (hok.2.2 _ _ _ _ (va_free hD hS hA isC hC) (hok.2.1 _ _ _ _ hS.2.1 hE))
theorem dc_preVE (hok : exOk ex) (hE : ex A s s.heap) (hP : va_P (dC, dI) classes ws H) (hD : va_D A ws) (hS : va_S A s.heap H locs) (hA : ∀ q : Nat, s.heap.size ≤ q → A q) (hV : vs_All A s s.heap) (hK : va_K (dC, dI) classes tys s) (isC isT : List Nat) (hC : isC.map (fun i => ws[i]?) = wc.map some) (hn : va_nd isC = true) (hT : isT.map (fun i => tys[i]?) = tysc.map some) (As : List Value)
    {b q0 ci : Nat} {cq : vw_C} {fs : List Value} (hc : classes[ci]? = some cq) (he : ws[q0]? = some (b, .inr (ci, fs))) :
    PreV s H cq.1 b (vx_PreE dC dI tysc (.ref b :: As) H.size wc ex) As := by
  obtain ⟨h1, h2⟩ := dc_preE hok hE hP hD hS hA hV hK isC isT hC hn hT (.ref b :: As)
  exact ⟨h1, va_recv hK hP hc he, h2⟩
end DE1

section DC4
variable {p : Program} {l : Launch} {e : Env} {R : Room} {s : State} {m : MethodId} {args : Array Value} {below : List Frame} {meth : Method} {c : Code} {H : Heap} {locs : List Loc} {Q : State → Prop} {dC : Nat → ClassId} {dI : Nat → Nat → Nat} {A : Nat → Prop}
  {cc : ByteArray} {pc : Nat} {ls : Array Slot} {st0 rest : List Value} {tys tysc : List (ClassId × FieldType)} {ws wc wr : va_W} {own : String} {nL fr lo : Nat} {ret : Option FieldType}
  {y : MethodName} {bytes : ByteArray} {maxL idx fr' lo' n : Nat} {ret' : Option FieldType} {As : List Value} {ρ S : Type} {val : ρ → Option Value} {w1 : S → va_W} {ex : (Nat → Prop) → State → Heap → Prop}
theorem dc_callSE (hok : exOk ex) (hE : ex A s s.heap) (C : cx p l e R s m args meth c dC dI A own cc nL ret fr lo tys) {o : ρ × S}
    (hM : MetX l y (Cond.code y bytes maxL ret' :: lw_g) (rmx fr' lo' 0 0) (vx_PreE dC dI tysc As H.size wc ex) (vx_Q val (.inl o) (fun u t => vx_B dC dI tysc (va_A wc H.size) (w1 u) t) (va_A wc H.size)) 0 0 (va_A wc H.size))
    (hcw : Cond.code y bytes maxL ret' ∈ lw_g) (hini : Cond.initialized y.cls ∈ lw_g) (hl : Cond.methodLink own idx y ∈ lw_g) (hst : Cond.static y ∈ lw_g)
    (hd : y.cls ≠ "java/lang/invoke/MethodHandle" ∧ y.cls ≠ "java/lang/invoke/VarHandle" ∧ (parseMethodDescriptor y.desc).map (fun d => d.parameters.length) = some n) (hR' : fr' + 1 ≤ fr ∧ 8 + (maxL + 11) + lo' ≤ lo)
    (hlen : As.length = n) (hst0 : st0 = As.reverse ++ rest) (hw : (rest.map fun v => v.category).sum ≤ 8) (hdg : decode cc pc = .ok (.invokestatic idx, 3))
    (hP : va_P (dC, dI) classes ws H) (hD : va_D A ws) (hS : va_S A s.heap H locs) (hsz : ls.size = nL) (isC isR isT : List Nat) (hC : isC.map (fun i => ws[i]?) = wc.map some) (hnC : va_nd isC = true) (hR : isR.map (fun i => ws[i]?) = wr.map some) (hnR : va_nd isR = true) (hdis : ∀ i ∈ isR, i ∉ isC) (hT : isT.map (fun i => tys[i]?) = tysc.map some)
    (kk : ∀ (H1 : Heap) (locs1 : List Loc), va_P (dC, dI) classes (wr ++ w1 o.2) H1 → va_D A (wr ++ w1 o.2) → va_S A s.heap H1 locs1 → W p l e R s m args below meth c H1 locs1 0 0 Q (F0 m (pc + 3) ls ((val o.1).toList ++ rest))) : W p l e R s m args below meth c H locs 0 0 Q (F0 m pc ls st0) := by
  obtain ⟨hx, hb, hr, hml, hown, hts, hlk, hK, hA, hV, htr, hex, hF, hL, -⟩ := C
  have hlen2 : ∀ sig, parseMethodDescriptor y.desc = some sig → n = sig.parameters.length := fun sig h => by
    have h2 := hd.2.2
    rw [h] at h2
    exact (Option.some.inj h2).symm
  have run := va_runS (l := l) (e := e) (R := R) (below := below) (meth := meth) (locs := locs) (cells := 0) (slots := 0) (rest := rest) (g := F0 m pc ls st0) (⟨hx, hb, hml, hown, hts⟩ : CallFix p m c cc nL s args lw_g own) (dc_met hM) ⟨⟨rfl, rfl, Nat.le_trans hR'.1 hF, Nat.le_trans hR'.2 hL, pay_in hts (dc_good _ hcw), List.mem_cons_self, hts _ hcw, hts _ hini, ⟨hd.1, hd.2.1⟩, hlen2, hts _ hl⟩, hts _ hst⟩ (dc_preE hok hE hP hD hS hA hV hK isC isT hC hnC hT As) rfl hlen hsz hst0 (by show 2 * 0 + _ ≤ 8; omega) hdg ⟨Nat.zero_le _, Nat.zero_le _⟩
  exact dc_back (mc := 0) (ms := 0) run hP hD hS hA isC isR hC hR hnR hdis kk
theorem dc_callVE (hok : exOk ex) (hE : ex A s s.heap) (C : cx p l e R s m args meth c dC dI A own cc nL ret fr lo tys) {o : ρ × S}
    (hcw : Cond.code y bytes maxL ret' ∈ lw_g) (hini : Cond.initialized y.cls ∈ lw_g) (hl : Cond.methodLink own idx y ∈ lw_g) (hin : Cond.instanceMethod y ∈ lw_g) (hse : Cond.selects y.cls y y ∈ lw_g) {b q0 ci : Nat} {cq : vw_C} {fs : List Value} (hcq : classes[ci]? = some cq) (hyc : cq.1 = y.cls) (he : ws[q0]? = some (b, .inr (ci, fs)))
    (hM : MetX l y (Cond.code y bytes maxL ret' :: lw_g) (rmx fr' lo' 0 0) (vx_PreE dC dI tysc (.ref b :: As) H.size wc ex) (vx_Q val (.inl o) (fun u t => vx_B dC dI tysc (va_A wc H.size) (w1 u) t) (va_A wc H.size)) 0 0 (va_A wc H.size))
    (hd : y.cls ≠ "java/lang/invoke/MethodHandle" ∧ y.cls ≠ "java/lang/invoke/VarHandle" ∧ (parseMethodDescriptor y.desc).map (fun d => d.parameters.length) = some n) (hR' : fr' + 1 ≤ fr ∧ 8 + (maxL + 11) + lo' ≤ lo)
    (hlen : As.length = n) (hst0 : st0 = As.reverse ++ .ref b :: rest) (hw : (rest.map fun v => v.category).sum ≤ 8) (hdg : decode cc pc = .ok (.invokevirtual idx, 3))
    (hP : va_P (dC, dI) classes ws H) (hD : va_D A ws) (hS : va_S A s.heap H locs) (hsz : ls.size = nL) (isC isR isT : List Nat) (hC : isC.map (fun i => ws[i]?) = wc.map some) (hnC : va_nd isC = true) (hR : isR.map (fun i => ws[i]?) = wr.map some) (hnR : va_nd isR = true) (hdis : ∀ i ∈ isR, i ∉ isC) (hT : isT.map (fun i => tys[i]?) = tysc.map some)
    (kk : ∀ (H1 : Heap) (locs1 : List Loc), va_P (dC, dI) classes (wr ++ w1 o.2) H1 → va_D A (wr ++ w1 o.2) → va_S A s.heap H1 locs1 → W p l e R s m args below meth c H1 locs1 0 0 Q (F0 m (pc + 3) ls ((val o.1).toList ++ rest))) : W p l e R s m args below meth c H locs 0 0 Q (F0 m pc ls st0) := by
  obtain ⟨hx, hb, hr, hml, hown, hts, hlk, hK, hA, hV, htr, hex, hF, hL, -⟩ := C
  have hlen2 : ∀ sig, parseMethodDescriptor y.desc = some sig → n = sig.parameters.length := fun sig h => by
    have h2 := hd.2.2
    rw [h] at h2
    exact (Option.some.inj h2).symm
  have run := va_runV (l := l) (e := e) (R := R) (below := below) (meth := meth) (locs := locs) (cells := 0) (slots := 0) (rest := rest) (g := F0 m pc ls st0) (⟨hx, hb, hml, hown, hts⟩ : CallFix p m c cc nL s args lw_g own) (dc_met hM) ⟨⟨rfl, rfl, Nat.le_trans hR'.1 hF, Nat.le_trans hR'.2 hL, pay_in hts (dc_good _ hcw), List.mem_cons_self, hts _ hcw, hts _ hini, ⟨hd.1, hd.2.1⟩, hlen2, hts _ hl⟩, hts _ hin, hts _ hse⟩ (by rw [← hyc]; exact dc_preVE hok hE hP hD hS hA hV hK isC isT hC hnC hT As hcq he) rfl hlen hsz hst0 (by show 2 * 0 + _ ≤ 8; omega) hdg ⟨Nat.zero_le _, Nat.zero_le _⟩
  exact dc_back (mc := 0) (ms := 0) run hP hD hS hA isC isR hC hR hnR hdis kk
theorem dc_thrSE (hok : exOk ex) (hE : ex A s s.heap) (C : cx p l e R s m args meth c dC dI A own cc nL ret fr lo tys) {o : Nat × S}
    (hM : MetX l y (Cond.code y bytes maxL ret' :: lw_g) (rmx fr' lo' 1 6) (vx_PreE dC dI tysc As H.size wc ex) (vx_Q val (.inr o) (fun u t => vx_B dC dI tysc (va_A wc H.size) (w1 u) t) (va_A wc H.size)) 1 6 (va_A wc H.size))
    (hcw : Cond.code y bytes maxL ret' ∈ lw_g) (hini : Cond.initialized y.cls ∈ lw_g) (hl : Cond.methodLink own idx y ∈ lw_g) (hst : Cond.static y ∈ lw_g)
    (hd : y.cls ≠ "java/lang/invoke/MethodHandle" ∧ y.cls ≠ "java/lang/invoke/VarHandle" ∧ (parseMethodDescriptor y.desc).map (fun d => d.parameters.length) = some n) (hR' : fr' + 1 ≤ fr ∧ 8 + (maxL + 11) + lo' ≤ lo)
    (hlen : As.length = n) (hst0 : st0 = As.reverse ++ rest) (hw : (rest.map fun v => v.category).sum ≤ 8) (hdg : decode cc pc = .ok (.invokestatic idx, 3)) (hce : 1 ≤ R.cells) (hsl : 6 ≤ R.slots)
    (hP : va_P (dC, dI) classes ws H) (hD : va_D A ws) (hS : va_S A s.heap H locs) (hsz : ls.size = nL) (isC isR isT : List Nat) (hC : isC.map (fun i => ws[i]?) = wc.map some) (hnC : va_nd isC = true) (hR : isR.map (fun i => ws[i]?) = wr.map some) (hnR : va_nd isR = true) (hdis : ∀ i ∈ isR, i ∉ isC) (hT : isT.map (fun i => tys[i]?) = tysc.map some)
    (kk : ∀ (x : Addr) (t : State) (H1 : Heap) (locs1 : List Loc), s.heap.size ≤ x → vx_X o.1 x t → t.heap = H1 → s.vm.Alike t.vm → va_P (dC, dI) classes (wr ++ w1 o.2) H1 → va_D A (wr ++ w1 o.2) → va_S A s.heap H1 locs1 → WT p l e R s m args below meth c H1 locs1 1 6 Q x (F0 m pc ls rest)) : W p l e R s m args below meth c H locs 0 0 Q (F0 m pc ls st0) := by
  obtain ⟨hx, hb, hr, hml, hown, hts, hlk, hK, hA, hV, htr, hex, hF, hL, -⟩ := C
  have hlen2 : ∀ sig, parseMethodDescriptor y.desc = some sig → n = sig.parameters.length := fun sig h => by
    have h2 := hd.2.2
    rw [h] at h2
    exact (Option.some.inj h2).symm
  have run := vx_runS (l := l) (e := e) (R := R) (below := below) (meth := meth) (locs := locs) (cells := 0) (slots := 0) (rest := rest) (g := F0 m pc ls st0) (⟨hx, hb, hml, hown, hts⟩ : CallFix p m c cc nL s args lw_g own) hM dc_thr ⟨⟨rfl, rfl, Nat.le_trans hR'.1 hF, Nat.le_trans hR'.2 hL, pay_in hts (dc_good _ hcw), List.mem_cons_self, hts _ hcw, hts _ hini, ⟨hd.1, hd.2.1⟩, hlen2, hts _ hl⟩, hts _ hst⟩ (dc_preE hok hE hP hD hS hA hV hK isC isT hC hnC hT As) rfl hlen hsz hst0 (by show 2 * 0 + _ ≤ 8; omega) hdg ⟨by omega, by omega⟩
  exact dc_backT run hP hD hS hA isC isR hC hR hnR hdis kk
theorem dc_thrVE (hok : exOk ex) (hE : ex A s s.heap) (C : cx p l e R s m args meth c dC dI A own cc nL ret fr lo tys) {o : Nat × S}
    (hcw : Cond.code y bytes maxL ret' ∈ lw_g) (hini : Cond.initialized y.cls ∈ lw_g) (hl : Cond.methodLink own idx y ∈ lw_g) (hin : Cond.instanceMethod y ∈ lw_g) (hse : Cond.selects y.cls y y ∈ lw_g) {b q0 ci : Nat} {cq : vw_C} {fs : List Value} (hcq : classes[ci]? = some cq) (hyc : cq.1 = y.cls) (he : ws[q0]? = some (b, .inr (ci, fs)))
    (hM : MetX l y (Cond.code y bytes maxL ret' :: lw_g) (rmx fr' lo' 1 6) (vx_PreE dC dI tysc (.ref b :: As) H.size wc ex) (vx_Q val (.inr o) (fun u t => vx_B dC dI tysc (va_A wc H.size) (w1 u) t) (va_A wc H.size)) 1 6 (va_A wc H.size))
    (hd : y.cls ≠ "java/lang/invoke/MethodHandle" ∧ y.cls ≠ "java/lang/invoke/VarHandle" ∧ (parseMethodDescriptor y.desc).map (fun d => d.parameters.length) = some n) (hR' : fr' + 1 ≤ fr ∧ 8 + (maxL + 11) + lo' ≤ lo)
    (hlen : As.length = n) (hst0 : st0 = As.reverse ++ .ref b :: rest) (hw : (rest.map fun v => v.category).sum ≤ 8) (hdg : decode cc pc = .ok (.invokevirtual idx, 3)) (hce : 1 ≤ R.cells) (hsl : 6 ≤ R.slots)
    (hP : va_P (dC, dI) classes ws H) (hD : va_D A ws) (hS : va_S A s.heap H locs) (hsz : ls.size = nL) (isC isR isT : List Nat) (hC : isC.map (fun i => ws[i]?) = wc.map some) (hnC : va_nd isC = true) (hR : isR.map (fun i => ws[i]?) = wr.map some) (hnR : va_nd isR = true) (hdis : ∀ i ∈ isR, i ∉ isC) (hT : isT.map (fun i => tys[i]?) = tysc.map some)
    (kk : ∀ (x : Addr) (t : State) (H1 : Heap) (locs1 : List Loc), s.heap.size ≤ x → vx_X o.1 x t → t.heap = H1 → s.vm.Alike t.vm → va_P (dC, dI) classes (wr ++ w1 o.2) H1 → va_D A (wr ++ w1 o.2) → va_S A s.heap H1 locs1 → WT p l e R s m args below meth c H1 locs1 1 6 Q x (F0 m pc ls rest)) : W p l e R s m args below meth c H locs 0 0 Q (F0 m pc ls st0) := by
  obtain ⟨hx, hb, hr, hml, hown, hts, hlk, hK, hA, hV, htr, hex, hF, hL, -⟩ := C
  have hlen2 : ∀ sig, parseMethodDescriptor y.desc = some sig → n = sig.parameters.length := fun sig h => by
    have h2 := hd.2.2
    rw [h] at h2
    exact (Option.some.inj h2).symm
  have run := vx_runV (l := l) (e := e) (R := R) (below := below) (meth := meth) (locs := locs) (cells := 0) (slots := 0) (rest := rest) (g := F0 m pc ls st0) (⟨hx, hb, hml, hown, hts⟩ : CallFix p m c cc nL s args lw_g own) hM dc_thr ⟨⟨rfl, rfl, Nat.le_trans hR'.1 hF, Nat.le_trans hR'.2 hL, pay_in hts (dc_good _ hcw), List.mem_cons_self, hts _ hcw, hts _ hini, ⟨hd.1, hd.2.1⟩, hlen2, hts _ hl⟩, hts _ hin, hts _ hse⟩ (by rw [← hyc]; exact dc_preVE hok hE hP hD hS hA hV hK isC isT hC hnC hT As hcq he) rfl hlen hsz hst0 (by show 2 * 0 + _ ≤ 8; omega) hdg ⟨by omega, by omega⟩
  exact dc_backT run hP hD hS hA isC isR hC hR hnR hdis kk
end DC4
