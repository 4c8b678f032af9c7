/-! calls and throws as rows over 'cx' -/
theorem dc_met {l : Launch} {y : MethodName} {ws : List Cond} {rm : Room} {Pc : Array Value → State → Prop} {mc ms : Nat} {free : Addr → Prop} {ρ S : Type} {val : ρ → Option Value} {o : ρ × S} {B : S → State → Prop} {A : Nat → Prop} (h : MetX l y ws rm Pc (vx_Q val (.inl o) B A) mc ms free) : Met l y ws rm Pc (vx_Q val (.inl o) B A) mc ms free :=
  h.ret (fun a st oc t hq => ⟨⟨val o.1, hq.1.1⟩, hq⟩)
theorem dc_thr {ρ S : Type} {val : ρ → Option Value} {u : Nat × S} {B : S → State → Prop} {A : Nat → Prop} : ∀ (a : Array Value) (st : State) (oc : Outcome) (t : State), vx_Q val (.inr u) B A a st oc t → ∃ x, oc = .threw x := by
  intro a st oc t h
  obtain ⟨⟨x, hx, -⟩, -⟩ := h
  exact ⟨x, hx⟩
theorem dc_cr {l : Launch} {y : MethodName} {ws : List Cond} {fr lo : Nat} {Pc : Array Value → State → Prop} {free : Addr → Prop} {ρ S : Type} {val : ρ → Option Value} {o : (ρ × S) ⊕ (Nat × S)} {B : S → State → Prop} {A : Nat → Prop} {u : ρ × S} (ho : o = .inl u) (h : MetX l y ws (rmx fr lo (mcx o) (msx o)) Pc (vx_Q val o B A) (mcx o) (msx o) free) : MetX l y ws (rmx fr lo 0 0) Pc (vx_Q val (.inl u) B A) 0 0 free := by
  subst ho
  exact h
theorem dc_ct {l : Launch} {y : MethodName} {ws : List Cond} {fr lo : Nat} {Pc : Array Value → State → Prop} {free : Addr → Prop} {ρ S : Type} {val : ρ → Option Value} {o : (ρ × S) ⊕ (Nat × S)} {B : S → State → Prop} {A : Nat → Prop} {u : Nat × S} (ho : o = .inr u) (h : MetX l y ws (rmx fr lo (mcx o) (msx o)) Pc (vx_Q val o B A) (mcx o) (msx o) free) : MetX l y ws (rmx fr lo 1 6) Pc (vx_Q val (.inr u) B A) 1 6 free := by
  subst ho
  exact h
section DC3
variable {p : Program} {l : Launch} {e : Env} {R : Room} {s : State} {m : MethodId} {args : Array Value} {below : List Frame} {meth : Method} {c : Code} {H : Heap} {locs : List Loc} {Q : State → Prop} {dC : Nat → ClassId} {dI : Nat → Nat → Nat} {A : Nat → Prop}
  {cc : ByteArray} {pc : Nat} {ls : Array Slot} {st0 rest : List Value} {tys tysc : List (ClassId × FieldType)} {ws wc wr : va_W} {own : String} {nL fr lo : Nat} {ret : Option FieldType}
  {y : MethodName} {bytes : ByteArray} {maxL idx fr' lo' n : Nat} {ret' : Option FieldType} {As : List Value} {ρ S : Type} {val : ρ → Option Value} {w1 : S → va_W}
theorem dc_zret (C : cx p l e R s m args meth c dC dI A own cc nL (some .boolean) fr lo tys) {v : Int32} {u : S} (hv : v = 0 ∨ v = 1) (hP : va_P (dC, dI) classes (w1 u) H) (hD : va_D A (w1 u)) (hS : va_S A s.heap H locs) (hdg : decode cc pc = .ok (.ireturn, 1)) :
    W p l e R s m args below meth c H locs 0 0 (XQ below (vx_Q vl_i (.inl (v, u)) (fun u t => vx_B dC dI tys A (w1 u) t) A) args s 0 0 A) (F0 m pc ls [.int v]) := by
  obtain ⟨hx, hb, hr, -, -, -, hlk, hK, -⟩ := C
  exact W.mono (fun _ => vx_ofMQ) (W.zret (v := v) hx hb hr (by rcases hv with rfl | rfl <;> rfl) (fun t ht hW => ⟨⟨rfl, by rw [ht]; exact hP, va_K.moved hW.alike hK, hD⟩, hS.F ht⟩) hS.2.2 hdg hlk)
theorem dc_lret (C : cx p l e R s m args meth c dC dI A own cc nL (some .long) fr lo tys) {v : Int64} {u : S} (hP : va_P (dC, dI) classes (w1 u) H) (hD : va_D A (w1 u)) (hS : va_S A s.heap H locs) (hdg : decode cc pc = .ok (.lreturn, 1)) :
    W p l e R s m args below meth c H locs 0 0 (XQ below (vx_Q vl_l (.inl (v, u)) (fun u t => vx_B dC dI tys A (w1 u) t) A) args s 0 0 A) (F0 m pc ls [.long v]) := by
  obtain ⟨hx, hb, hr, -, -, -, hlk, hK, -⟩ := C
  exact W.mono (fun _ => vx_ofMQ) (W.lret (v := v) hx hb hr (fun t ht hW => ⟨⟨rfl, by rw [ht]; exact hP, va_K.moved hW.alike hK, hD⟩, hS.F ht⟩) hS.2.2 hdg hlk)
theorem dc_throwS (C : cx p l e R s m args meth c dC dI A own cc nL ret fr lo tys) (k : Nat) {tx : String} {i1 i2 i3 : Nat} {u : S} (hP : va_P (dC, dI) classes (w1 u) H) (hD : va_D A (w1 u)) (hS : va_S A s.heap H locs) (hsz : ls.size = nL)
    (hcl : Cond.classLink own i1 (vx_cls k) ∈ lw_g) (hins : Cond.instantiable (vx_cls k) 6 ∈ lw_g) (hini : Cond.initialized (vx_cls k) ∈ lw_g) (hsr : (own, i2, tx) ∈ vx_sr) (hat : ∀ w ∈ Bundle.ownAtoms own i3 (vx_cls k) vx_up, vx_okw w)
    (hd0 : decode cc pc = .ok (.new i1, 3)) (hd3 : decode cc (pc + 3) = .ok (.dup, 1)) (hd4 : decode cc (pc + 4) = .ok (.ldc i2, 2)) (hd6 : decode cc (pc + 6) = .ok (.invokespecial i3, 3)) (hd9 : decode cc (pc + 9) = .ok (.athrow, 1)) (hfr : 6 ≤ fr) (hlo : (rest.map fun v => v.category).sum + 100 ≤ lo) (hce : 1 ≤ R.cells) (hsl : 6 ≤ R.slots) :
    W p l e R s m args below meth c H locs 0 0 (XQ below (vx_Q val (.inr (k, u)) (fun u t => vx_B dC dI tys A (w1 u) t) A) args s 1 6 A) (F0 m pc ls rest) := by
  obtain ⟨hx, hb, hr, hml, hown, hts, hlk, hK, hA, hV, htr, hex, hF, hL, -⟩ := C
  refine vx_throwS (A := A) hx hb htr hlk k hown hts (hts _ hcl) (hts _ hins) (hts _ hini) (hV.1.2.2.2 _ hsr) hat hV.1 hS (hml.trans hsz.symm) hd0 hd3 hd4 hd6 hd9 (fun y hy => (hex y hy).elim) (Nat.le_trans hfr hF) (Nat.le_trans hlo hL) (by omega) (by omega) hS.2.2 ?_
  intro x t hX hnew hkeep hsize hW
  refine ⟨⟨x, rfl, hX, Nat.le_trans hS.1 hnew, hP.kept (fun j q hq => hkeep q.1 (va_at.lt (hP j q hq))), va_K.moved hW.alike hK, hD⟩, Nat.le_trans hS.1 hsize, fun q h1 h2 => ?_⟩
  rw [hkeep q (Nat.lt_of_lt_of_le h1 hS.1)]
  exact hS.2.1 q h1 h2
theorem dc_throw0 (C : cx p l e R s m args meth c dC dI A own cc nL ret fr lo tys) (k : Nat) {i1 i3 : Nat} {u : S} (hP : va_P (dC, dI) classes (w1 u) H) (hD : va_D A (w1 u)) (hS : va_S A s.heap H locs) (hsz : ls.size = nL)
    (hcl : Cond.classLink own i1 (vx_cls k) ∈ lw_g) (hins : Cond.instantiable (vx_cls k) 6 ∈ lw_g) (hini : Cond.initialized (vx_cls k) ∈ lw_g) (hat : ∀ w ∈ Bundle.ownAtoms0 own i3 (vx_cls k) vx_up, vx_okw w)
    (hd0 : decode cc pc = .ok (.new i1, 3)) (hd3 : decode cc (pc + 3) = .ok (.dup, 1)) (hd6 : decode cc (pc + 4) = .ok (.invokespecial i3, 3)) (hd9 : decode cc (pc + 7) = .ok (.athrow, 1)) (hfr : 6 ≤ fr) (hlo : (rest.map fun v => v.category).sum + 100 ≤ lo) (hce : 1 ≤ R.cells) (hsl : 6 ≤ R.slots) :
    W p l e R s m args below meth c H locs 0 0 (XQ below (vx_Q val (.inr (k, u)) (fun u t => vx_B dC dI tys A (w1 u) t) A) args s 1 6 A) (F0 m pc ls rest) := by
  obtain ⟨hx, hb, hr, hml, hown, hts, hlk, hK, hA, hV, htr, hex, hF, hL, -⟩ := C
  refine vx_throw0 (A := A) hx hb htr hlk k hown hts (hts _ hcl) (hts _ hins) (hts _ hini) hat hV.1 hS (hml.trans hsz.symm) hd0 hd3 hd6 hd9 (fun y hy => (hex y hy).elim) (Nat.le_trans hfr hF) (Nat.le_trans hlo hL) (by omega) (by omega) hS.2.2 ?_
  intro x t hX hnew hkeep hsize hW
  refine ⟨⟨x, rfl, hX, Nat.le_trans hS.1 hnew, hP.kept (fun j q hq => hkeep q.1 (va_at.lt (hP j q hq))), va_K.moved hW.alike hK, hD⟩, Nat.le_trans hS.1 hsize, fun q h1 h2 => ?_⟩
  rw [hkeep q (Nat.lt_of_lt_of_le h1 hS.1)]
  exact hS.2.1 q h1 h2

theorem dc_callS (C : cx p l e R s m args meth c dC dI A own cc nL ret fr lo tys) {o : ρ × S}
    (hM : MetX l y (Cond.code y bytes maxL ret' :: lw_g) (rmx fr' lo' 0 0) (vx_Pre dC dI tysc As H.size wc) (vx_Q val (.inl o) (fun u t => vx_B dC dI tysc (va_A wc H.size) (w1 u) t) (va_A wc H.size)) 0 0 (va_A wc H.size))
    (hcw : Cond.code y bytes maxL ret' ∈ lw_g) (hini : Cond.initialized y.cls ∈ lw_g) (hl : Cond.methodLink own idx y ∈ lw_g) (hst : Cond.static y ∈ lw_g)
    (hd : y.cls ≠ "java/lang/invoke/MethodHandle" ∧ y.cls ≠ "java/lang/invoke/VarHandle" ∧ (parseMethodDescriptor y.desc).map (fun d => d.parameters.length) = some n) (hR' : fr' + 1 ≤ fr ∧ 8 + (maxL + 11) + lo' ≤ lo)
    (hlen : As.length = n) (hst0 : st0 = As.reverse ++ rest) (hw : (rest.map fun v => v.category).sum ≤ 8) (hdg : decode cc pc = .ok (.invokestatic idx, 3))
    (hP : va_P (dC, dI) classes ws H) (hD : va_D A ws) (hS : va_S A s.heap H locs) (hsz : ls.size = nL) (isC isR isT : List Nat) (hC : isC.map (fun i => ws[i]?) = wc.map some) (hnC : va_nd isC = true) (hR : isR.map (fun i => ws[i]?) = wr.map some) (hnR : va_nd isR = true) (hdis : ∀ i ∈ isR, i ∉ isC) (hT : isT.map (fun i => tys[i]?) = tysc.map some)
    (kk : ∀ (H1 : Heap) (locs1 : List Loc), va_P (dC, dI) classes (wr ++ w1 o.2) H1 → va_D A (wr ++ w1 o.2) → va_S A s.heap H1 locs1 → W p l e R s m args below meth c H1 locs1 0 0 Q (F0 m (pc + 3) ls ((val o.1).toList ++ rest))) : W p l e R s m args below meth c H locs 0 0 Q (F0 m pc ls st0) := by
  obtain ⟨hx, hb, hr, hml, hown, hts, hlk, hK, hA, hV, htr, hex, hF, hL, -⟩ := C
  have hlen2 : ∀ sig, parseMethodDescriptor y.desc = some sig → n = sig.parameters.length := fun sig h => by
    have h2 := hd.2.2
    rw [h] at h2
    exact (Option.some.inj h2).symm
  have run := va_runS (l := l) (e := e) (R := R) (below := below) (meth := meth) (locs := locs) (cells := 0) (slots := 0) (rest := rest) (g := F0 m pc ls st0) (⟨hx, hb, hml, hown, hts⟩ : CallFix p m c cc nL s args lw_g own) (dc_met hM) ⟨⟨rfl, rfl, Nat.le_trans hR'.1 hF, Nat.le_trans hR'.2 hL, pay_in hts (dc_good _ hcw), List.mem_cons_self, hts _ hcw, hts _ hini, ⟨hd.1, hd.2.1⟩, hlen2, hts _ hl⟩, hts _ hst⟩ (dc_pre hP hD hS hA hV hK isC isT hC hnC hT As) rfl hlen hsz hst0 (by show 2 * 0 + _ ≤ 8; omega) hdg ⟨Nat.zero_le _, Nat.zero_le _⟩
  exact dc_back (mc := 0) (ms := 0) run hP hD hS hA isC isR hC hR hnR hdis kk
theorem dc_callSN (C : cx p l e R s m args meth c dC dI A own cc nL ret fr lo tys) {o : ρ × S}
    (hM : MetX l y (Cond.code y bytes maxL ret' :: lw_g) (rmx fr' lo' 0 0) (vx_Pre dC dI tysc As H.size wc) (vx_Q val (.inl o) (fun u t => vx_B dC dI tysc (va_A wc H.size) (w1 u) t) (va_A wc H.size)) 0 0 (va_A wc H.size))
    (hcw : Cond.code y bytes maxL ret' ∈ lw_g) (hini : Cond.initialized y.cls ∈ lw_g) {host : String} (hl : Cond.methodLinkNest own idx y host ∈ vx_nw) (hst : Cond.static y ∈ lw_g)
    (hd : y.cls ≠ "java/lang/invoke/MethodHandle" ∧ y.cls ≠ "java/lang/invoke/VarHandle" ∧ (parseMethodDescriptor y.desc).map (fun d => d.parameters.length) = some n) (hR' : fr' + 1 ≤ fr ∧ 8 + (maxL + 11) + lo' ≤ lo)
    (hlen : As.length = n) (hst0 : st0 = As.reverse ++ rest) (hw : (rest.map fun v => v.category).sum ≤ 8) (hdg : decode cc pc = .ok (.invokestatic idx, 3))
    (hP : va_P (dC, dI) classes ws H) (hD : va_D A ws) (hS : va_S A s.heap H locs) (hsz : ls.size = nL) (isC isR isT : List Nat) (hC : isC.map (fun i => ws[i]?) = wc.map some) (hnC : va_nd isC = true) (hR : isR.map (fun i => ws[i]?) = wr.map some) (hnR : va_nd isR = true) (hdis : ∀ i ∈ isR, i ∉ isC) (hT : isT.map (fun i => tys[i]?) = tysc.map some)
    (kk : ∀ (H1 : Heap) (locs1 : List Loc), va_P (dC, dI) classes (wr ++ w1 o.2) H1 → va_D A (wr ++ w1 o.2) → va_S A s.heap H1 locs1 → W p l e R s m args below meth c H1 locs1 0 0 Q (F0 m (pc + 3) ls ((val o.1).toList ++ rest))) : W p l e R s m args below meth c H locs 0 0 Q (F0 m pc ls st0) := by
  obtain ⟨hx, hb, hr, hml, hown, hts, hlk, hK, hA, hV, htr, hex, hF, hL, -⟩ := C
  have hlen2 : ∀ sig, parseMethodDescriptor y.desc = some sig → n = sig.parameters.length := fun sig h => by
    have h2 := hd.2.2
    rw [h] at h2
    exact (Option.some.inj h2).symm
  have run := va_runSN (l := l) (e := e) (R := R) (below := below) (meth := meth) (locs := locs) (cells := 0) (slots := 0) (rest := rest) (g := F0 m pc ls st0) (⟨hx, hb, hml, hown, hts⟩ : CallFix p m c cc nL s args lw_g own) (dc_met hM) ⟨⟨⟨rfl, rfl, Nat.le_trans hR'.1 hF, Nat.le_trans hR'.2 hL, pay_in hts (dc_good _ hcw), List.mem_cons_self⟩, hts _ hcw, hts _ hini, ⟨hd.1, hd.2.1⟩, hlen2, va_Nw.use rfl (hV.1.2.2.1 _ hl)⟩, hts _ hst, trivial⟩ (dc_pre hP hD hS hA hV hK isC isT hC hnC hT As) rfl hlen hsz hst0 (by show 2 * 0 + _ ≤ 8; omega) hdg ⟨Nat.zero_le _, Nat.zero_le _⟩
  exact dc_back (mc := 0) (ms := 0) run hP hD hS hA isC isR hC hR hnR hdis kk
theorem dc_callV (C : cx p l e R s m args meth c dC dI A own cc nL ret fr lo tys) {o : ρ × S}
    (hcw : Cond.code y bytes maxL ret' ∈ lw_g) (hini : Cond.initialized y.cls ∈ lw_g) (hl : Cond.methodLink own idx y ∈ lw_g) (hin : Cond.instanceMethod y ∈ lw_g) (hse : Cond.selects y.cls y y ∈ lw_g) {b q0 ci : Nat} {cq : vw_C} {fs : List Value} (hcq : classes[ci]? = some cq) (hyc : cq.1 = y.cls) (he : ws[q0]? = some (b, .inr (ci, fs)))
    (hM : MetX l y (Cond.code y bytes maxL ret' :: lw_g) (rmx fr' lo' 0 0) (vx_Pre dC dI tysc (.ref b :: As) H.size wc) (vx_Q val (.inl o) (fun u t => vx_B dC dI tysc (va_A wc H.size) (w1 u) t) (va_A wc H.size)) 0 0 (va_A wc H.size))
    (hd : y.cls ≠ "java/lang/invoke/MethodHandle" ∧ y.cls ≠ "java/lang/invoke/VarHandle" ∧ (parseMethodDescriptor y.desc).map (fun d => d.parameters.length) = some n) (hR' : fr' + 1 ≤ fr ∧ 8 + (maxL + 11) + lo' ≤ lo)
    (hlen : As.length = n) (hst0 : st0 = As.reverse ++ .ref b :: rest) (hw : (rest.map fun v => v.category).sum ≤ 8) (hdg : decode cc pc = .ok (.invokevirtual idx, 3))
    (hP : va_P (dC, dI) classes ws H) (hD : va_D A ws) (hS : va_S A s.heap H locs) (hsz : ls.size = nL) (isC isR isT : List Nat) (hC : isC.map (fun i => ws[i]?) = wc.map some) (hnC : va_nd isC = true) (hR : isR.map (fun i => ws[i]?) = wr.map some) (hnR : va_nd isR = true) (hdis : ∀ i ∈ isR, i ∉ isC) (hT : isT.map (fun i => tys[i]?) = tysc.map some)
    (kk : ∀ (H1 : Heap) (locs1 : List Loc), va_P (dC, dI) classes (wr ++ w1 o.2) H1 → va_D A (wr ++ w1 o.2) → va_S A s.heap H1 locs1 → W p l e R s m args below meth c H1 locs1 0 0 Q (F0 m (pc + 3) ls ((val o.1).toList ++ rest))) : W p l e R s m args below meth c H locs 0 0 Q (F0 m pc ls st0) := by
  obtain ⟨hx, hb, hr, hml, hown, hts, hlk, hK, hA, hV, htr, hex, hF, hL, -⟩ := C
  have hlen2 : ∀ sig, parseMethodDescriptor y.desc = some sig → n = sig.parameters.length := fun sig h => by
    have h2 := hd.2.2
    rw [h] at h2
    exact (Option.some.inj h2).symm
  have run := va_runV (l := l) (e := e) (R := R) (below := below) (meth := meth) (locs := locs) (cells := 0) (slots := 0) (rest := rest) (g := F0 m pc ls st0) (⟨hx, hb, hml, hown, hts⟩ : CallFix p m c cc nL s args lw_g own) (dc_met hM) ⟨⟨rfl, rfl, Nat.le_trans hR'.1 hF, Nat.le_trans hR'.2 hL, pay_in hts (dc_good _ hcw), List.mem_cons_self, hts _ hcw, hts _ hini, ⟨hd.1, hd.2.1⟩, hlen2, hts _ hl⟩, hts _ hin, hts _ hse⟩ (by rw [← hyc]; exact dc_preV hP hD hS hA hV hK isC isT hC hnC hT As hcq he) rfl hlen hsz hst0 (by show 2 * 0 + _ ≤ 8; omega) hdg ⟨Nat.zero_le _, Nat.zero_le _⟩
  exact dc_back (mc := 0) (ms := 0) run hP hD hS hA isC isR hC hR hnR hdis kk
theorem dc_thrS (C : cx p l e R s m args meth c dC dI A own cc nL ret fr lo tys) {o : Nat × S}
    (hM : MetX l y (Cond.code y bytes maxL ret' :: lw_g) (rmx fr' lo' 1 6) (vx_Pre dC dI tysc As H.size wc) (vx_Q val (.inr o) (fun u t => vx_B dC dI tysc (va_A wc H.size) (w1 u) t) (va_A wc H.size)) 1 6 (va_A wc H.size))
    (hcw : Cond.code y bytes maxL ret' ∈ lw_g) (hini : Cond.initialized y.cls ∈ lw_g) (hl : Cond.methodLink own idx y ∈ lw_g) (hst : Cond.static y ∈ lw_g)
    (hd : y.cls ≠ "java/lang/invoke/MethodHandle" ∧ y.cls ≠ "java/lang/invoke/VarHandle" ∧ (parseMethodDescriptor y.desc).map (fun d => d.parameters.length) = some n) (hR' : fr' + 1 ≤ fr ∧ 8 + (maxL + 11) + lo' ≤ lo)
    (hlen : As.length = n) (hst0 : st0 = As.reverse ++ rest) (hw : (rest.map fun v => v.category).sum ≤ 8) (hdg : decode cc pc = .ok (.invokestatic idx, 3)) (hce : 1 ≤ R.cells) (hsl : 6 ≤ R.slots)
    (hP : va_P (dC, dI) classes ws H) (hD : va_D A ws) (hS : va_S A s.heap H locs) (hsz : ls.size = nL) (isC isR isT : List Nat) (hC : isC.map (fun i => ws[i]?) = wc.map some) (hnC : va_nd isC = true) (hR : isR.map (fun i => ws[i]?) = wr.map some) (hnR : va_nd isR = true) (hdis : ∀ i ∈ isR, i ∉ isC) (hT : isT.map (fun i => tys[i]?) = tysc.map some)
    (kk : ∀ (x : Addr) (t : State) (H1 : Heap) (locs1 : List Loc), s.heap.size ≤ x → vx_X o.1 x t → t.heap = H1 → s.vm.Alike t.vm → va_P (dC, dI) classes (wr ++ w1 o.2) H1 → va_D A (wr ++ w1 o.2) → va_S A s.heap H1 locs1 → WT p l e R s m args below meth c H1 locs1 1 6 Q x (F0 m pc ls rest)) : W p l e R s m args below meth c H locs 0 0 Q (F0 m pc ls st0) := by
  obtain ⟨hx, hb, hr, hml, hown, hts, hlk, hK, hA, hV, htr, hex, hF, hL, -⟩ := C
  have hlen2 : ∀ sig, parseMethodDescriptor y.desc = some sig → n = sig.parameters.length := fun sig h => by
    have h2 := hd.2.2
    rw [h] at h2
    exact (Option.some.inj h2).symm
  have run := vx_runS (l := l) (e := e) (R := R) (below := below) (meth := meth) (locs := locs) (cells := 0) (slots := 0) (rest := rest) (g := F0 m pc ls st0) (⟨hx, hb, hml, hown, hts⟩ : CallFix p m c cc nL s args lw_g own) hM dc_thr ⟨⟨rfl, rfl, Nat.le_trans hR'.1 hF, Nat.le_trans hR'.2 hL, pay_in hts (dc_good _ hcw), List.mem_cons_self, hts _ hcw, hts _ hini, ⟨hd.1, hd.2.1⟩, hlen2, hts _ hl⟩, hts _ hst⟩ (dc_pre hP hD hS hA hV hK isC isT hC hnC hT As) rfl hlen hsz hst0 (by show 2 * 0 + _ ≤ 8; omega) hdg ⟨by omega, by omega⟩
  exact dc_backT run hP hD hS hA isC isR hC hR hnR hdis kk
theorem dc_thrSN (C : cx p l e R s m args meth c dC dI A own cc nL ret fr lo tys) {o : Nat × S}
    (hM : MetX l y (Cond.code y bytes maxL ret' :: lw_g) (rmx fr' lo' 1 6) (vx_Pre dC dI tysc As H.size wc) (vx_Q val (.inr o) (fun u t => vx_B dC dI tysc (va_A wc H.size) (w1 u) t) (va_A wc H.size)) 1 6 (va_A wc H.size))
    (hcw : Cond.code y bytes maxL ret' ∈ lw_g) (hini : Cond.initialized y.cls ∈ lw_g) {host : String} (hl : Cond.methodLinkNest own idx y host ∈ vx_nw) (hst : Cond.static y ∈ lw_g)
    (hd : y.cls ≠ "java/lang/invoke/MethodHandle" ∧ y.cls ≠ "java/lang/invoke/VarHandle" ∧ (parseMethodDescriptor y.desc).map (fun d => d.parameters.length) = some n) (hR' : fr' + 1 ≤ fr ∧ 8 + (maxL + 11) + lo' ≤ lo)
    (hlen : As.length = n) (hst0 : st0 = As.reverse ++ rest) (hw : (rest.map fun v => v.category).sum ≤ 8) (hdg : decode cc pc = .ok (.invokestatic idx, 3)) (hce : 1 ≤ R.cells) (hsl : 6 ≤ R.slots)
    (hP : va_P (dC, dI) classes ws H) (hD : va_D A ws) (hS : va_S A s.heap H locs) (hsz : ls.size = nL) (isC isR isT : List Nat) (hC : isC.map (fun i => ws[i]?) = wc.map some) (hnC : va_nd isC = true) (hR : isR.map (fun i => ws[i]?) = wr.map some) (hnR : va_nd isR = true) (hdis : ∀ i ∈ isR, i ∉ isC) (hT : isT.map (fun i => tys[i]?) = tysc.map some)
    (kk : ∀ (x : Addr) (t : State) (H1 : Heap) (locs1 : List Loc), s.heap.size ≤ x → vx_X o.1 x t → t.heap = H1 → s.vm.Alike t.vm → va_P (dC, dI) classes (wr ++ w1 o.2) H1 → va_D A (wr ++ w1 o.2) → va_S A s.heap H1 locs1 → WT p l e R s m args below meth c H1 locs1 1 6 Q x (F0 m pc ls rest)) : W p l e R s m args below meth c H locs 0 0 Q (F0 m pc ls st0) := by
  obtain ⟨hx, hb, hr, hml, hown, hts, hlk, hK, hA, hV, htr, hex, hF, hL, -⟩ := C
  have hlen2 : ∀ sig, parseMethodDescriptor y.desc = some sig → n = sig.parameters.length := fun sig h => by
    have h2 := hd.2.2
    rw [h] at h2
    exact (Option.some.inj h2).symm
  have run := vx_runSN (l := l) (e := e) (R := R) (below := below) (meth := meth) (locs := locs) (cells := 0) (slots := 0) (rest := rest) (g := F0 m pc ls st0) (⟨hx, hb, hml, hown, hts⟩ : CallFix p m c cc nL s args lw_g own) hM dc_thr ⟨⟨⟨rfl, rfl, Nat.le_trans hR'.1 hF, Nat.le_trans hR'.2 hL, pay_in hts (dc_good _ hcw), List.mem_cons_self⟩, hts _ hcw, hts _ hini, ⟨hd.1, hd.2.1⟩, hlen2, va_Nw.use rfl (hV.1.2.2.1 _ hl)⟩, hts _ hst, trivial⟩ (dc_pre hP hD hS hA hV hK isC isT hC hnC hT As) rfl hlen hsz hst0 (by show 2 * 0 + _ ≤ 8; omega) hdg ⟨by omega, by omega⟩
  exact dc_backT run hP hD hS hA isC isR hC hR hnR hdis kk
theorem dc_thrV (C : cx p l e R s m args meth c dC dI A own cc nL ret fr lo tys) {o : Nat × S}
    (hcw : Cond.code y bytes maxL ret' ∈ lw_g) (hini : Cond.initialized y.cls ∈ lw_g) (hl : Cond.methodLink own idx y ∈ lw_g) (hin : Cond.instanceMethod y ∈ lw_g) (hse : Cond.selects y.cls y y ∈ lw_g) {b q0 ci : Nat} {cq : vw_C} {fs : List Value} (hcq : classes[ci]? = some cq) (hyc : cq.1 = y.cls) (he : ws[q0]? = some (b, .inr (ci, fs)))
    (hM : MetX l y (Cond.code y bytes maxL ret' :: lw_g) (rmx fr' lo' 1 6) (vx_Pre dC dI tysc (.ref b :: As) H.size wc) (vx_Q val (.inr o) (fun u t => vx_B dC dI tysc (va_A wc H.size) (w1 u) t) (va_A wc H.size)) 1 6 (va_A wc H.size))
    (hd : y.cls ≠ "java/lang/invoke/MethodHandle" ∧ y.cls ≠ "java/lang/invoke/VarHandle" ∧ (parseMethodDescriptor y.desc).map (fun d => d.parameters.length) = some n) (hR' : fr' + 1 ≤ fr ∧ 8 + (maxL + 11) + lo' ≤ lo)
    (hlen : As.length = n) (hst0 : st0 = As.reverse ++ .ref b :: rest) (hw : (rest.map fun v => v.category).sum ≤ 8) (hdg : decode cc pc = .ok (.invokevirtual idx, 3)) (hce : 1 ≤ R.cells) (hsl : 6 ≤ R.slots)
    (hP : va_P (dC, dI) classes ws H) (hD : va_D A ws) (hS : va_S A s.heap H locs) (hsz : ls.size = nL) (isC isR isT : List Nat) (hC : isC.map (fun i => ws[i]?) = wc.map some) (hnC : va_nd isC = true) (hR : isR.map (fun i => ws[i]?) = wr.map some) (hnR : va_nd isR = true) (hdis : ∀ i ∈ isR, i ∉ isC) (hT : isT.map (fun i => tys[i]?) = tysc.map some)
    (kk : ∀ (x : Addr) (t : State) (H1 : Heap) (locs1 : List Loc), s.heap.size ≤ x → vx_X o.1 x t → t.heap = H1 → s.vm.Alike t.vm → va_P (dC, dI) classes (wr ++ w1 o.2) H1 → va_D A (wr ++ w1 o.2) → va_S A s.heap H1 locs1 → WT p l e R s m args below meth c H1 locs1 1 6 Q x (F0 m pc ls rest)) : W p l e R s m args below meth c H locs 0 0 Q (F0 m pc ls st0) := by
  obtain ⟨hx, hb, hr, hml, hown, hts, hlk, hK, hA, hV, htr, hex, hF, hL, -⟩ := C
  have hlen2 : ∀ sig, parseMethodDescriptor y.desc = some sig → n = sig.parameters.length := fun sig h => by
    have h2 := hd.2.2
    rw [h] at h2
    exact (Option.some.inj h2).symm
  have run := vx_runV (l := l) (e := e) (R := R) (below := below) (meth := meth) (locs := locs) (cells := 0) (slots := 0) (rest := rest) (g := F0 m pc ls st0) (⟨hx, hb, hml, hown, hts⟩ : CallFix p m c cc nL s args lw_g own) hM dc_thr ⟨⟨rfl, rfl, Nat.le_trans hR'.1 hF, Nat.le_trans hR'.2 hL, pay_in hts (dc_good _ hcw), List.mem_cons_self, hts _ hcw, hts _ hini, ⟨hd.1, hd.2.1⟩, hlen2, hts _ hl⟩, hts _ hin, hts _ hse⟩ (by rw [← hyc]; exact dc_preV hP hD hS hA hV hK isC isT hC hnC hT As hcq he) rfl hlen hsz hst0 (by show 2 * 0 + _ ≤ 8; omega) hdg ⟨by omega, by omega⟩
  exact dc_backT run hP hD hS hA isC isR hC hR hnR hdis kk
end DC3
