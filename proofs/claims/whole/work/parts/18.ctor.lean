/-! constructors: rows for what they make -/
def rfo (a b c d : Option Nat) : Nat → Option Nat := fun j => if j = 0 then a else if j = 1 then b else if j = 2 then c else if j = 3 then d else none
theorem rfo_none : (fun _ : Nat => (none : Option Nat)) = rfo none none none none := by
  funext j
  simp [rfo]
theorem rfo_some {a b c d : Nat} : rfo (some a) (some b) (some c) (some d) = rf4 a b c d := rfl
theorem rfo_up0 {a b c d : Option Nat} {v : Nat} : va_up (rfo a b c d) (0 : Int32).toNatClampNeg (some v) = rfo (some v) b c d := by
  funext j
  by_cases h : j = 0
  · subst h; rfl
  · have e : va_up (rfo a b c d) (0 : Int32).toNatClampNeg (some v) j = rfo a b c d j := if_neg h
    rw [e]
    simp [rfo, h]
theorem rfo_up1 {a b c d : Option Nat} {v : Nat} : va_up (rfo a b c d) (1 : Int32).toNatClampNeg (some v) = rfo a (some v) c d := by
  funext j
  by_cases h : j = 1
  · subst h; rfl
  · have e : va_up (rfo a b c d) (1 : Int32).toNatClampNeg (some v) j = rfo a b c d j := if_neg h
    rw [e]
    simp [rfo, h]
theorem rfo_up2 {a b c d : Option Nat} {v : Nat} : va_up (rfo a b c d) (2 : Int32).toNatClampNeg (some v) = rfo a b (some v) d := by
  funext j
  by_cases h : j = 2
  · subst h; rfl
  · have e : va_up (rfo a b c d) (2 : Int32).toNatClampNeg (some v) j = rfo a b c d j := if_neg h
    rw [e]
    simp [rfo, h]
theorem rfo_up3 {a b c d : Option Nat} {v : Nat} : va_up (rfo a b c d) (3 : Int32).toNatClampNeg (some v) = rfo a b c (some v) := by
  funext j
  by_cases h : j = 3
  · subst h; rfl
  · have e : va_up (rfo a b c d) (3 : Int32).toNatClampNeg (some v) j = rfo a b c d j := if_neg h
    rw [e]
    simp [rfo, h]
section DN1
variable {p : Program} {l : Launch} {e : Env} {R : Room} {s : State} {m : MethodId} {args : Array Value} {below : List Frame} {meth : Method} {c : Code} {H : Heap} {locs : List Loc} {cells slots : Nat} {Q : State → Prop} {dC : Nat → ClassId} {dI : Nat → Nat → Nat} {A : Nat → Prop}
  {cc : ByteArray} {pc : Nat} {ls : Array Slot} {st0 rest : List Value} {tys tysc : List (ClassId × FieldType)} {ws wc wr : va_W} {own : String} {nL fr lo : Nat} {ret : Option FieldType}
  {y : MethodName} {bytes : ByteArray} {maxL idx fr' lo' n mc ms : Nat} {As : List Value} {Tu : Type} {w1 : Tu → va_W} {b : Nat}
/-- an array, its class known -/
theorem dn_newa (hexec : p.tables.exec = Jvm.exec) (hb : c.code = cc) {atype : ArrayType} {ty : FieldType} {nm : String} {k : ClassId} (hnm : ∀ {s : State} {q : ClassId}, va_RA s q ty → s.vm.findClass nm = some q) (harr : (Cond.arrayClass (newarray.typeOf atype)).before args s = true) (hty : newarray.typeOf atype = ty) (hK : va_K (dC, dI) classes tys s) (t0 : Nat) (ht : tys[t0]? = some (k, ty)) (hP : va_P (dC, dI) classes ws H) (hD : va_D A ws) (hS : va_S A s.heap H locs) (hA : ∀ q : Nat, s.heap.size ≤ q → A q)
    {x : Int32} {N' : Nat} {a0 : vp_A} (ha : ∀ cA : ClassId, vp_cell cA a0 = arrV cA N' (fun _ => defaultValue ty)) (hn : ¬ x < 0) (hN : x.toNatClampNeg = N') (hbytes : N' * componentBytes ty ≤ 536870912) (hcells : cells + 1 ≤ R.cells) (hslots : slots + N' ≤ R.slots) (hdg : decode cc pc = .ok (.newarray atype, 2))
    (kk : ∀ (q : Nat) (H1 : Heap), va_P (dC, dI) classes (ws ++ [(q, .inl (k, a0))]) H1 → va_D A (ws ++ [(q, .inl (k, a0))]) → va_S A s.heap H1 locs → W p l e R s m args below meth c H1 locs (cells + 1) (slots + N') Q (F0 m (pc + 2) ls (.ref q :: rest))) : W p l e R s m args below meth c H locs cells slots Q (F0 m pc ls (.int x :: rest)) := by
  refine va_newa hexec hb harr hty hK hP hD hS hA ha hn hN hbytes hcells hslots hdg (fun q cA H1 hK1 hP1 hD1 hS1 => ?_)
  have h1 := hnm (hK1.2 tys.length (cA, ty) (by simp)).2
  have h2 := hnm (hK.2 t0 _ ht).2
  cases h2.symm.trans h1
  exact kk q H1 hP1 hD1 hS1
theorem dn_newq (hexec : p.tables.exec = Jvm.exec) (hb : c.code = cc) {C1 : String} {k : ClassId} (hown : s.vm.findClass own = some m.cls) (hcl : (Cond.classLink own idx C1).before args s = true) (hover : va_AO C1 s) (hK : va_K (dC, dI) classes tys s) (t0 : Nat) (ht : tys[t0]? = some (k, .object C1)) (hP : va_P (dC, dI) classes ws H) (hD : va_D A ws) (hS : va_S A s.heap H locs) (hA : ∀ q : Nat, s.heap.size ≤ q → A q)
    {x : Int32} {N' : Nat} (hn : ¬ x < 0) (hN : x.toNatClampNeg = N') (hbytes : N' * 4 ≤ 536870912) (hcells : cells + 1 ≤ R.cells) (hslots : slots + N' ≤ R.slots) (hdg : decode cc pc = .ok (.anewarray idx, 3))
    (kk : ∀ (q : Nat) (H1 : Heap), va_P (dC, dI) classes (ws ++ [(q, .inl (k, N', .inr (.inr (.inr (.inr (rfo none none none none))))))]) H1 → va_D A (ws ++ [(q, .inl (k, N', .inr (.inr (.inr (.inr (rfo none none none none))))))]) → va_S A s.heap H1 locs → W p l e R s m args below meth c H1 locs (cells + 1) (slots + N') Q (F0 m (pc + 3) ls (.ref q :: rest))) : W p l e R s m args below meth c H locs cells slots Q (F0 m pc ls (.int x :: rest)) := by
  refine va_newq hexec hb hown hcl hover hK hP hD hS hA hn hN hbytes hcells hslots hdg (fun q cA H1 hK1 hP1 hD1 hS1 => ?_)
  obtain ⟨-, -, -, -, -, h1⟩ := (hK1.2 tys.length (cA, .object C1) (by simp)).2
  obtain ⟨-, -, -, -, -, h2⟩ := (hK.2 t0 _ ht).2
  cases h2.symm.trans h1
  rw [rfo_none] at hP1 hD1
  exact kk q H1 hP1 hD1 hS1
theorem dn_back {a : Array Value}
    (run : va_Run p l e R s m args below meth c H locs cells slots mc ms (F0 m pc ls st0) rest (va_Qv (fun _ : Tu => True) (fun u t => vx_B dC dI tysc (va_A wc H.size) (w1 u) t) (va_A wc H.size) a) (va_A wc H.size))
    (hP : va_P (dC, dI) classes ws H) (hD : va_D A ws) (hS : va_S A s.heap H locs) (hA : ∀ q : Nat, s.heap.size ≤ q → A q) (isC isR : List Nat) (hC : isC.map (fun i => ws[i]?) = wc.map some) (hR : isR.map (fun i => ws[i]?) = wr.map some) (hn : va_nd isR = true) (hdis : ∀ i ∈ isR, i ∉ isC)
    (kk : ∀ (u : Tu) (H1 : Heap) (locs1 : List Loc), va_P (dC, dI) classes (wr ++ w1 u) H1 → va_D A (wr ++ w1 u) → va_S A s.heap H1 locs1 → W p l e R s m args below meth c H1 locs1 (cells + mc) (slots + ms) Q (F0 m (pc + 3) ls rest)) : W p l e R s m args below meth c H locs cells slots Q (F0 m pc ls st0) := by
  intro T hT X
  obtain ⟨v, st₀, t, T', L, h1, X', hL, h2, h3, ⟨⟨u, hv, -, hB1, hB2, hB3⟩, hF1, hF2⟩, hgo⟩ := run T hT X
  have hFc := va_free hD hS hA isC hC
  cases hv
  rw [h1] at hF1 hF2
  rw [← h2] at hB1 hF1 hF2
  obtain ⟨hP', hD'⟩ := va_join (wr := wr) (w1 := w1 u) hP hD isC isR hC hR hn hdis hF2 hFc hB1 hB3
  have hS' : va_S A s.heap T'.heap (locs ++ L) := ⟨Nat.le_trans hS.1 hF1, fun q g1 g2 => by rw [hF2 q (Nat.lt_of_lt_of_le g1 hS.1) (fun h => g2 (hFc q h))]; exact hS.2.1 q g1 g2, t_lL hS.2.2 (fun q hq => hFc _ (hL q hq))⟩
  obtain ⟨z, a1, b1⟩ := kk u T'.heap (locs ++ L) hP' hD' hS' T' rfl X'
  exact ⟨z, hgo z a1, b1⟩
theorem dn_callI (C : cx p l e R s m args meth c dC dI A own cc nL ret fr lo tys)
    (hM : Met l y (Cond.code y bytes maxL none :: lw_g) (rmx fr' lo' mc ms) (vx_Pre dC dI tysc (.ref b :: As) H.size wc) (va_Qv (fun _ : Tu => True) (fun u t => vx_B dC dI tysc (va_A wc H.size) (w1 u) t) (va_A wc H.size)) mc ms (va_A wc H.size))
    (hcw : Cond.code y bytes maxL none ∈ lw_g) (hini : Cond.initialized y.cls ∈ lw_g) (hl : Cond.methodLink own idx y ∈ lw_g) (hin : Cond.instanceMethod y ∈ lw_g) (hnm : y.name = "<init>")
    (hd : y.cls ≠ "java/lang/invoke/MethodHandle" ∧ y.cls ≠ "java/lang/invoke/VarHandle" ∧ (parseMethodDescriptor y.desc).map (fun d => d.parameters.length) = some n) (hR' : fr' + 1 ≤ fr ∧ 8 + (maxL + 11) + lo' ≤ lo)
    (hlen : As.length = n) (hst0 : st0 = As.reverse ++ .ref b :: rest) (hw : (rest.map fun v => v.category).sum ≤ 8) (hdg : decode cc pc = .ok (.invokespecial idx, 3)) (hcs : cells + mc ≤ R.cells ∧ slots + ms ≤ R.slots)
    (hP : va_P (dC, dI) classes ws H) (hD : va_D A ws) (hS : va_S A s.heap H locs) (hsz : ls.size = nL) (isC isR isT : List Nat) (hC : isC.map (fun i => ws[i]?) = wc.map some) (hnC : va_nd isC = true) (hR : isR.map (fun i => ws[i]?) = wr.map some) (hnR : va_nd isR = true) (hdis : ∀ i ∈ isR, i ∉ isC) (hT : isT.map (fun i => tys[i]?) = tysc.map some)
    (kk : ∀ (u : Tu) (H1 : Heap) (locs1 : List Loc), va_P (dC, dI) classes (wr ++ w1 u) H1 → va_D A (wr ++ w1 u) → va_S A s.heap H1 locs1 → W p l e R s m args below meth c H1 locs1 (cells + mc) (slots + ms) Q (F0 m (pc + 3) ls rest)) : W p l e R s m args below meth c H locs cells slots Q (F0 m pc ls st0) := by
  obtain ⟨hx, hb, hr, hml, hown, hts, hlk, hK, hA, hV, htr, hex, hF, hL, -⟩ := C
  have hlen2 : ∀ sig, parseMethodDescriptor y.desc = some sig → n = sig.parameters.length := fun sig h => by
    have h2 := hd.2.2
    rw [h] at h2
    exact (Option.some.inj h2).symm
  have run := va_runI (l := l) (e := e) (R := R) (below := below) (meth := meth) (locs := locs) (cells := cells) (slots := slots) (rest := rest) (b := b) (As := As) (g := F0 m pc ls st0) (⟨hx, hb, hml, hown, hts⟩ : CallFix p m c cc nL s args lw_g own) hM ⟨⟨rfl, rfl, Nat.le_trans hR'.1 hF, Nat.le_trans hR'.2 hL, pay_in hts (dc_good _ hcw), List.mem_cons_self, hts _ hcw, hts _ hini, ⟨hd.1, hd.2.1⟩, hlen2, hts _ hl⟩, hnm, hts _ hin⟩ (dc_pre hP hD hS hA hV hK isC isT hC hnC hT (.ref b :: As)) rfl hlen hsz hst0 (by show 2 * 0 + _ ≤ 8; omega) hdg hcs
  exact dn_back run hP hD hS hA isC isR hC hR hnR hdis kk
theorem dn_callIN (C : cx p l e R s m args meth c dC dI A own cc nL ret fr lo tys)
    (hM : Met l y (Cond.code y bytes maxL none :: lw_g) (rmx fr' lo' mc ms) (vx_Pre dC dI tysc (.ref b :: As) H.size wc) (va_Qv (fun _ : Tu => True) (fun u t => vx_B dC dI tysc (va_A wc H.size) (w1 u) t) (va_A wc H.size)) mc ms (va_A wc H.size))
    (hcw : Cond.code y bytes maxL none ∈ lw_g) (hini : Cond.initialized y.cls ∈ lw_g) {host : String} (hl : Cond.methodLinkNest own idx y host ∈ vx_nw) (hin : Cond.instanceMethod y ∈ lw_g) (hnm : y.name = "<init>")
    (hd : y.cls ≠ "java/lang/invoke/MethodHandle" ∧ y.cls ≠ "java/lang/invoke/VarHandle" ∧ (parseMethodDescriptor y.desc).map (fun d => d.parameters.length) = some n) (hR' : fr' + 1 ≤ fr ∧ 8 + (maxL + 11) + lo' ≤ lo)
    (hlen : As.length = n) (hst0 : st0 = As.reverse ++ .ref b :: rest) (hw : (rest.map fun v => v.category).sum ≤ 8) (hdg : decode cc pc = .ok (.invokespecial idx, 3)) (hcs : cells + mc ≤ R.cells ∧ slots + ms ≤ R.slots)
    (hP : va_P (dC, dI) classes ws H) (hD : va_D A ws) (hS : va_S A s.heap H locs) (hsz : ls.size = nL) (isC isR isT : List Nat) (hC : isC.map (fun i => ws[i]?) = wc.map some) (hnC : va_nd isC = true) (hR : isR.map (fun i => ws[i]?) = wr.map some) (hnR : va_nd isR = true) (hdis : ∀ i ∈ isR, i ∉ isC) (hT : isT.map (fun i => tys[i]?) = tysc.map some)
    (kk : ∀ (u : Tu) (H1 : Heap) (locs1 : List Loc), va_P (dC, dI) classes (wr ++ w1 u) H1 → va_D A (wr ++ w1 u) → va_S A s.heap H1 locs1 → W p l e R s m args below meth c H1 locs1 (cells + mc) (slots + ms) Q (F0 m (pc + 3) ls rest)) : W p l e R s m args below meth c H locs cells slots Q (F0 m pc ls st0) := by
  obtain ⟨hx, hb, hr, hml, hown, hts, hlk, hK, hA, hV, htr, hex, hF, hL, -⟩ := C
  have hlen2 : ∀ sig, parseMethodDescriptor y.desc = some sig → n = sig.parameters.length := fun sig h => by
    have h2 := hd.2.2
    rw [h] at h2
    exact (Option.some.inj h2).symm
  have run := va_runIN (l := l) (e := e) (R := R) (below := below) (meth := meth) (locs := locs) (cells := cells) (slots := slots) (rest := rest) (b := b) (As := As) (g := F0 m pc ls st0) (⟨hx, hb, hml, hown, hts⟩ : CallFix p m c cc nL s args lw_g own) hM ⟨⟨⟨rfl, rfl, Nat.le_trans hR'.1 hF, Nat.le_trans hR'.2 hL, pay_in hts (dc_good _ hcw), List.mem_cons_self⟩, hts _ hcw, hts _ hini, ⟨hd.1, hd.2.1⟩, hlen2, va_Nw.use rfl (hV.1.2.2.1 _ hl)⟩, hnm, hts _ hin⟩ (dc_pre hP hD hS hA hV hK isC isT hC hnC hT (.ref b :: As)) rfl hlen hsz hst0 (by show 2 * 0 + _ ≤ 8; omega) hdg hcs
  exact dn_back run hP hD hS hA isC isR hC hR hnR hdis kk
theorem dn_vret (C : cx p l e R s m args meth c dC dI A own cc nL none fr lo tys) {u : Tu} (hP : va_P (dC, dI) classes (w1 u) H) (hD : va_D A (w1 u)) (hS : va_S A s.heap H locs) (hdg : decode cc pc = .ok (.return_, 1)) :
    W p l e R s m args below meth c H locs cells slots (MQ below (va_Qv (fun _ : Tu => True) (fun u t => vx_B dC dI tys A (w1 u) t) A) args s cells slots A) (F0 m pc ls []) := by
  obtain ⟨hx, hb, hr, -, -, -, hlk, hK, -⟩ := C
  exact W.vret hx hb hr (fun t ht hW => ⟨⟨u, rfl, trivial, by rw [ht]; exact hP, va_K.moved hW.alike hK, hD⟩, hS.F ht⟩) hS.2.2 hdg hlk
end DN1
