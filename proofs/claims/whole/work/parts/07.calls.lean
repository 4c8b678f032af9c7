/-! entering a method, leaving it, and calls by the contracts of this text -/
section DC1
variable {p : Program} {l : Launch} {e : Env} {R : Room} {s s₁ : State} {m : MethodId} {args : Array Value} {below : List Frame} {meth : Method} {c : Code} {dC : Nat → ClassId} {dI : Nat → Nat → Nat} {A : Nat → Prop}
theorem dc_entry {y : MethodName} {cc : ByteArray} {nL : Nat} {ret : Option FieldType} {rm : Room} {tys : List (ClassId × FieldType)} {av : List Value} {sz : Nat} {ws : va_W} (hfl : l.flags = flags0)
    (B : BodyLoose p l y (headSpec (Cond.code y cc nL ret :: lw_g) rm) cc nL ret e s m args below meth c s₁) (hml : c.maxLocals = nL) (hP : vx_Pre dC dI tys av sz ws args s) :
    args = av.toArray ∧ s.heap.size = sz ∧ cx p l e (headSpec (Cond.code y cc nL ret :: lw_g) rm).room s m args meth c dC dI (va_A ws s.heap.size) y.cls cc nL ret rm.frames rm.locals tys ∧ va_P (dC, dI) classes ws s.heap ∧ va_D (va_A ws s.heap.size) ws ∧ va_S (va_A ws s.heap.size) s.heap s.heap [] := by
  obtain ⟨h0, h1, h2, h3, h4, h5⟩ := hP
  subst h1
  have hts := atoms_spec (ws := Cond.code y cc nL ret :: lw_g) B.pre
  have hno := BodyLoose.noHandlers B (hts _ List.mem_cons_self)
  refine ⟨h0, rfl, ⟨B.exec, B.bytes, B.returns, hml, findClass_of_methodNamed B.named, fun w hw => hts w (List.mem_cons_of_mem _ hw), B.notSynchronized, h3, fun q h => Or.inr h, h5, Launch.traces_off hfl B.admits, fun y hy => ?_, Nat.le_refl _, Nat.le_refl _, hfl⟩, h2, h4.self (sz := s.heap.size), va_S.rf⟩
  have h9 : c.exceptionTable = #[] := by simpa using hno
  rw [h9] at hy
  simp at hy
theorem dc_good (w : Cond) (h : w ∈ lw_g) : GoodIn lw_g (w :: lw_g) := by
  intro v hv
  rcases List.mem_cons.mp hv with rfl | hv
  · exact ⟨h, good_of_word (List.mem_filter.mp h).2⟩
  · exact ⟨hv, good_of_word (List.mem_filter.mp hv).2⟩
end DC1
theorem dc_fm {α : Type} {is : List Nat} {f : Nat → Option α} {w : List α} (h : is.map f = w.map some) : is.filterMap f = w := by
  have h1 : is.filterMap f = (is.map f).filterMap id := by rw [List.filterMap_map]; rfl
  rw [h1, h, List.filterMap_map]
  simp
section DC2
variable {p : Program} {l : Launch} {e : Env} {R : Room} {s : State} {m : MethodId} {args : Array Value} {below : List Frame} {meth : Method} {c : Code} {H : Heap} {locs : List Loc} {Q : State → Prop} {dC : Nat → ClassId} {dI : Nat → Nat → Nat} {A : Nat → Prop}
  {cc : ByteArray} {pc : Nat} {ls : Array Slot} {st0 rest : List Value} {tys tysc : List (ClassId × FieldType)} {ws wc wr : va_W}
/-- the callee's start out of the caller's world -/
theorem dc_pre (hP : va_P (dC, dI) classes ws H) (hD : va_D A ws) (hS : va_S A s.heap H locs) (hA : ∀ q : Nat, s.heap.size ≤ q → A q) (hV : vs_All A s s.heap) (hK : va_K (dC, dI) classes tys s) (isC isT : List Nat) (hC : isC.map (fun i => ws[i]?) = wc.map some) (hn : va_nd isC = true) (hT : isT.map (fun i => tys[i]?) = tysc.map some) (As : List Value) :
    PreS s H (vx_Pre dC dI tysc As H.size wc) As := by
  refine ⟨vx_Pre_blind, fun U hU hW => ⟨rfl, by rw [hU], by rw [hU]; exact hP.sub isC (dc_fm hC), va_K.moved hW.alike (hK.sub isT (dc_fm hT)), (hD.sub isC hn hC).weaken (fun _ _ _ _ => trivial), ?_⟩⟩
  rw [hU]
  exact ((hV.kept hS.2.1).narrow (va_free hD hS hA isC hC)).moved hW
theorem dc_preV (hP : va_P (dC, dI) classes ws H) (hD : va_D A ws) (hS : va_S A s.heap H locs) (hA : ∀ q : Nat, s.heap.size ≤ q → A q) (hV : vs_All A s s.heap) (hK : va_K (dC, dI) classes tys s) (isC isT : List Nat) (hC : isC.map (fun i => ws[i]?) = wc.map some) (hn : va_nd isC = true) (hT : isT.map (fun i => tys[i]?) = tysc.map some) (As : List Value)
    {b q0 ci : Nat} {cq : vw_C} {fs : List Value} (hc : classes[ci]? = some cq) (he : ws[q0]? = some (b, .inr (ci, fs))) :
    PreV s H cq.1 b (vx_Pre dC dI tysc (.ref b :: As) H.size wc) As := by
  obtain ⟨h1, h2⟩ := dc_pre hP hD hS hA hV hK isC isT hC hn hT (.ref b :: As)
  exact ⟨h1, va_recv hK hP hc he, h2⟩
/-- a call that returned: the callee's new cells beside the rest -/
theorem dc_back {mc ms : Nat} {ρ S : Type} {val : ρ → Option Value} {w1 : S → va_W} {o : ρ × S} {a : Array Value}
    (run : va_Run p l e R s m args below meth c H locs 0 0 0 0 (F0 m pc ls st0) rest (vx_Q val (.inl o) (fun u t => vx_B dC dI tysc (va_A wc H.size) (w1 u) t) (va_A wc H.size) a) (va_A wc H.size))
    (hP : va_P (dC, dI) classes ws H) (hD : va_D A ws) (hS : va_S A s.heap H locs) (hA : ∀ q : Nat, s.heap.size ≤ q → A q) (isC isR : List Nat) (hC : isC.map (fun i => ws[i]?) = wc.map some) (hR : isR.map (fun i => ws[i]?) = wr.map some) (hn : va_nd isR = true) (hdis : ∀ i ∈ isR, i ∉ isC)
    (kk : ∀ (H1 : Heap) (locs1 : List Loc), va_P (dC, dI) classes (wr ++ w1 o.2) H1 → va_D A (wr ++ w1 o.2) → va_S A s.heap H1 locs1 → W p l e R s m args below meth c H1 locs1 0 0 Q (F0 m (pc + 3) ls ((val o.1).toList ++ rest))) : W p l e R s m args below meth c H locs 0 0 Q (F0 m pc ls st0) := by
  intro T hT X
  obtain ⟨v, st₀, t, T', L, h1, X', hL, h2, h3, ⟨⟨hv, hB1, hB2, hB3⟩, hF1, hF2⟩, hgo⟩ := run T hT X
  have hFc := va_free hD hS hA isC hC
  cases hv
  rw [h1] at hF1 hF2
  rw [← h2] at hB1 hF1 hF2
  obtain ⟨hP', hD'⟩ := va_join (wr := wr) (w1 := w1 o.2) hP hD isC isR hC hR hn hdis hF2 hFc hB1 hB3
  have hS' : va_S A s.heap T'.heap (locs ++ L) := ⟨Nat.le_trans hS.1 hF1, fun q g1 g2 => by rw [hF2 q (Nat.lt_of_lt_of_le g1 hS.1) (fun h => g2 (hFc q h))]; exact hS.2.1 q g1 g2, t_lL hS.2.2 (fun q hq => hFc _ (hL q hq))⟩
  obtain ⟨u, a1, b1⟩ := kk T'.heap (locs ++ L) hP' hD' hS' T' rfl X'
  exact ⟨u, hgo u a1, b1⟩
/-- a call that threw -/
theorem dc_backT {ρ S : Type} {val : ρ → Option Value} {w1 : S → va_W} {u : Nat × S} {a : Array Value}
    (run : vx_RunT p l e R s m args below meth c H locs 0 0 1 6 (F0 m pc ls st0) rest (vx_Q val (.inr u) (fun u t => vx_B dC dI tysc (va_A wc H.size) (w1 u) t) (va_A wc H.size) a) (va_A wc H.size))
    (hP : va_P (dC, dI) classes ws H) (hD : va_D A ws) (hS : va_S A s.heap H locs) (hA : ∀ q : Nat, s.heap.size ≤ q → A q) (isC isR : List Nat) (hC : isC.map (fun i => ws[i]?) = wc.map some) (hR : isR.map (fun i => ws[i]?) = wr.map some) (hn : va_nd isR = true) (hdis : ∀ i ∈ isR, i ∉ isC)
    (kk : ∀ (x : Addr) (t : State) (H1 : Heap) (locs1 : List Loc), s.heap.size ≤ x → vx_X u.1 x t → t.heap = H1 → s.vm.Alike t.vm → va_P (dC, dI) classes (wr ++ w1 u.2) H1 → va_D A (wr ++ w1 u.2) → va_S A s.heap H1 locs1 → WT p l e R s m args below meth c H1 locs1 1 6 Q x (F0 m pc ls rest)) : W p l e R s m args below meth c H locs 0 0 Q (F0 m pc ls st0) := by
  intro T hT X
  obtain ⟨x, st₀, t, T', L, h1, X', hL, h2, h3, ⟨⟨x', hv, hX, hnew, hB1, hB2, hB3⟩, hF1, hF2⟩, hgo⟩ := run T hT X
  have hFc := va_free hD hS hA isC hC
  cases hv
  rw [h1] at hF1 hF2 hnew
  rw [← h2] at hB1 hF1 hF2
  obtain ⟨hP', hD'⟩ := va_join (wr := wr) (w1 := w1 u.2) hP hD isC isR hC hR hn hdis hF2 hFc hB1 hB3
  have hS' : va_S A s.heap T'.heap (locs ++ L) := ⟨Nat.le_trans hS.1 hF1, fun q g1 g2 => by rw [hF2 q (Nat.lt_of_lt_of_le g1 hS.1) (fun h => g2 (hFc q h))]; exact hS.2.1 q g1 g2, t_lL hS.2.2 (fun q hq => hFc _ (hL q hq))⟩
  obtain ⟨z, a1, b1⟩ := kk x t T'.heap (locs ++ L) (Nat.le_trans hS.1 hnew) hX h2.symm (by rw [← h3]; exact X'.warmed.alike) hP' hD' hS' T' rfl X'
  exact ⟨z, hgo z a1, b1⟩
theorem vx_X.moved {k : Nat} {x : Addr} {t u : State} (hh : u.heap = t.heap) (hvm : t.vm.Alike u.vm) (h : vx_X k x t) : vx_X k x u := by
  obtain ⟨cell, h1, h2, h3⟩ := h
  exact ⟨cell, by rw [hh]; exact h1, h2, by first | (rw [← hvm.findClass]; exact h3) | (rw [hvm.findClass]; exact h3)⟩
variable {own : String} {nL fr lo : Nat} {ret : Option FieldType}
/-- the method throws on what its callee threw -/
theorem dc_leaveT (C : cx p l e R s m args meth c dC dI A own cc nL ret fr lo tys) {ρ S : Type} {val : ρ → Option Value} {w1 : S → va_W} {u : Nat × S} {x : Addr} {t : State} (hx : s.heap.size ≤ x) (hX : vx_X u.1 x t) (ht : t.heap = H) (hal : s.vm.Alike t.vm)
    (hP : va_P (dC, dI) classes (w1 u.2) H) (hD : va_D A (w1 u.2)) (hS : va_S A s.heap H locs) :
    WT p l e R s m args below meth c H locs 1 6 (XQ below (vx_Q val (.inr u) (fun u t => vx_B dC dI tys A (w1 u) t) A) args s 1 6 A) x (F0 m pc ls rest) := by
  obtain ⟨-, -, -, -, -, -, hlk, hK, -, -, -, hex, -⟩ := C
  refine WT.leave (fun y hy => (hex y hy).elim) hlk (fun t2 h2 hW => ⟨⟨x, rfl, hX.moved (h2.trans ht.symm) (hal.symm.trans hW.alike), hx, ?_, va_K.moved hW.alike hK, hD⟩, hS.F h2⟩) hS.2.2
  rw [h2]
  exact hP
/-- ends -/
theorem dc_iret (C : cx p l e R s m args meth c dC dI A own cc nL (some .int) fr lo tys) {S : Type} {w1 : S → va_W} {v : Int32} {u : S} (hP : va_P (dC, dI) classes (w1 u) H) (hD : va_D A (w1 u)) (hS : va_S A s.heap H locs) (hdg : decode cc pc = .ok (.ireturn, 1)) :
    W p l e R s m args below meth c H locs 0 0 (XQ below (vx_Q vl_i (.inl (v, u)) (fun u t => vx_B dC dI tys A (w1 u) t) A) args s 0 0 A) (F0 m pc ls [.int v]) := by
  obtain ⟨hx, hb, hr, -, -, -, hlk, hK, -⟩ := C
  exact W.mono (fun _ => vx_ofMQ) (W.iret (v := v) hx hb hr (fun t ht hW => ⟨⟨rfl, by rw [ht]; exact hP, va_K.moved hW.alike hK, hD⟩, hS.F ht⟩) hS.2.2 hdg hlk)
theorem dc_vret (C : cx p l e R s m args meth c dC dI A own cc nL none fr lo tys) {S : Type} {w1 : S → va_W} {u : S} (hP : va_P (dC, dI) classes (w1 u) H) (hD : va_D A (w1 u)) (hS : va_S A s.heap H locs) (hdg : decode cc pc = .ok (.return_, 1)) :
    W p l e R s m args below meth c H locs 0 0 (XQ below (vx_Q vl_v (.inl ((), u)) (fun u t => vx_B dC dI tys A (w1 u) t) A) args s 0 0 A) (F0 m pc ls []) := by
  obtain ⟨hx, hb, hr, -, -, -, hlk, hK, -⟩ := C
  exact W.mono (fun _ => vx_ofMQ) (W.vret hx hb hr (fun t ht hW => ⟨⟨rfl, by rw [ht]; exact hP, va_K.moved hW.alike hK, hD⟩, hS.F ht⟩) hS.2.2 hdg hlk)
end DC2
