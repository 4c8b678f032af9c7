/-! arrays of four references: slots, rows of points -/
def rf4 (a b c d : Nat) : Nat → Option Nat := fun j => if j = 0 then some a else if j = 1 then some b else if j = 2 then some c else if j = 3 then some d else none
def vl_r4 (a b c d : Nat) (k : Nat) : Option Value := some (.ref (if k = 0 then a else if k = 1 then b else if k = 2 then c else d))
theorem rf4_up0 {a b c d v : Nat} : va_up (rf4 a b c d) (0 : Int32).toNatClampNeg (some v) = rf4 v b c d := by
  funext j
  by_cases h : j = 0
  · subst h; rfl
  · have e : va_up (rf4 a b c d) (0 : Int32).toNatClampNeg (some v) j = rf4 a b c d j := if_neg h
    rw [e]
    simp [rf4, h]
theorem rf4_up1 {a b c d v : Nat} : va_up (rf4 a b c d) (1 : Int32).toNatClampNeg (some v) = rf4 a v c d := by
  funext j
  by_cases h : j = 1
  · subst h; rfl
  · have e : va_up (rf4 a b c d) (1 : Int32).toNatClampNeg (some v) j = rf4 a b c d j := if_neg h
    rw [e]
    simp [rf4, h]
theorem rf4_up2 {a b c d v : Nat} : va_up (rf4 a b c d) (2 : Int32).toNatClampNeg (some v) = rf4 a b v d := by
  funext j
  by_cases h : j = 2
  · subst h; rfl
  · have e : va_up (rf4 a b c d) (2 : Int32).toNatClampNeg (some v) j = rf4 a b c d j := if_neg h
    rw [e]
    simp [rf4, h]
theorem rf4_up3 {a b c d v : Nat} : va_up (rf4 a b c d) (3 : Int32).toNatClampNeg (some v) = rf4 a b c v := by
  funext j
  by_cases h : j = 3
  · subst h; rfl
  · have e : va_up (rf4 a b c d) (3 : Int32).toNatClampNeg (some v) j = rf4 a b c d j := if_neg h
    rw [e]
    simp [rf4, h]
theorem dq_in0 {x : Int32} (h : x = 0) : vp_in x 4 := by subst h; unfold vp_in; decide
theorem dq_in1 {x : Int32} (h : x = 1) : vp_in x 4 := by subst h; unfold vp_in; decide
theorem dq_in2 {x : Int32} (h : x = 2) : vp_in x 4 := by subst h; unfold vp_in; decide
theorem dq_in3 {x : Int32} (h : x = 3) : vp_in x 4 := by subst h; unfold vp_in; decide
section DQ1
variable {p : Program} {l : Launch} {e : Env} {R : Room} {s : State} {m : MethodId} {args : Array Value} {below : List Frame} {meth : Method} {c : Code} {H : Heap} {locs : List Loc} {cells slots : Nat} {Q : State → Prop}
  {cc : ByteArray} {pc : Nat} {ls : Array Slot} {rest : List Value} {D : va_G} {cl : List vw_C} {A : Nat → Prop} {a b : Nat} {tys : List (ClassId × FieldType)} {ws : va_W} {H0 : Heap}
theorem dq_aldq (hexec : p.tables.exec = Jvm.exec) (hb : c.code = cc) (hK : va_K D cl tys s) (hP : va_P D cl ws H) (q0 t0 : Nat) {cA : ClassId} {C : String} {n : Nat} {f : Nat → Option Nat} (ha : ws[q0]? = some (a, .inl (cA, n, .inr (.inr (.inr (.inr f)))))) (ht : tys[t0]? = some (cA, .object C)) {i : Int32} (hin : vp_in i n) (hv : f i.toNatClampNeg = some b) (hdg : decode cc pc = .ok (.aaload, 1))
    (kk : W p l e R s m args below meth c H locs cells slots Q (F0 m (pc + 1) ls (.ref b :: rest))) : W p l e R s m args below meth c H locs cells slots Q (F0 m pc ls (.int i :: .ref a :: rest)) := by
  refine va_aldq hexec hb hK hP q0 t0 ha ht hin hdg ?_
  rw [hv]
  exact kk
theorem dq_alda (hexec : p.tables.exec = Jvm.exec) (hb : c.code = cc) (hK : va_K D cl tys s) (hP : va_P D cl ws H) (q0 t0 : Nat) {cA : ClassId} {n : Nat} {f : Nat → Option Nat} (ha : ws[q0]? = some (a, .inl (cA, n, .inr (.inr (.inr (.inr f)))))) (ht : tys[t0]? = some (cA, .array .int)) {i : Int32} (hin : vp_in i n) (hv : f i.toNatClampNeg = some b) (hdg : decode cc pc = .ok (.aaload, 1))
    (kk : W p l e R s m args below meth c H locs cells slots Q (F0 m (pc + 1) ls (.ref b :: rest))) : W p l e R s m args below meth c H locs cells slots Q (F0 m pc ls (.int i :: .ref a :: rest)) := by
  have hlt : i.toNatClampNeg < n := Nat.not_le.mp fun q => hin (Or.inr q)
  refine W.aald (v := va_rf (f i.toNatClampNeg)) (ty := .array .int) hexec hb (hP q0 _ ha) ((hK.2 t0 _ ht).1 n (fun j => va_rf (f j))) rfl (fun q => by cases q) (by show ¬ (i < 0 ∨ (arrV _ _ _).slots.size ≤ _); rw [arrV_size]; exact hin) (by show (arrV _ _ _).slots[_]? = _; rw [arrV_read _ _ hlt]) rfl rfl hdg ?_
  rw [hv]
  exact kk
theorem dq_ast (hexec : p.tables.exec = Jvm.exec) (hb : c.code = cc) (hK : va_K D cl tys s) (hP : va_P D cl ws H) (hD : va_D A ws) (hS : va_S A H0 H locs) (q0 t0 qk ci : Nat) {cA : ClassId} {r : vw_C} {n v : Nat} {vs : List Value} {f f' : Nat → Option Nat} (ha : ws[q0]? = some (a, .inl (cA, n, .inr (.inr (.inr (.inr f)))))) (ht : tys[t0]? = some (cA, .object r.1)) (hv : ws[qk]? = some (v, .inr (ci, vs))) (hc : cl[ci]? = some r) {i : Int32} (hin : vp_in i n) (hf : va_up f i.toNatClampNeg (some v) = f') (hdg : decode cc pc = .ok (.aastore, 1))
    (kk : ∀ (H1 : Heap) (locs1 : List Loc), va_P D cl (ws.set q0 (a, .inl (cA, n, .inr (.inr (.inr (.inr f')))))) H1 → va_D A (ws.set q0 (a, .inl (cA, n, .inr (.inr (.inr (.inr f')))))) → va_S A H0 H1 locs1 → W p l e R s m args below meth c H1 locs1 cells slots Q (F0 m (pc + 1) ls rest)) : W p l e R s m args below meth c H locs cells slots Q (F0 m pc ls (.ref v :: .int i :: .ref a :: rest)) := by
  subst hf
  exact va_astq hexec hb hK hP hD hS q0 t0 qk ci ha ht hv hc hin hdg kk
variable {dC : Nat → ClassId} {dI : Nat → Nat → Nat} {own : String} {nL fr lo : Nat} {ret : Option FieldType}
theorem dq_aret {C1 : String} (C : cx p l e R s m args meth c dC dI A own cc nL (some (.object C1)) fr lo tys) {S : Type} {w1 : S → va_W} {v : Nat} {u : S} {h0 h1 h2 h3 : Nat} (hP : va_P (dC, dI) classes (w1 u) H) (hD : va_D A (w1 u)) (hS : va_S A s.heap H locs) (hdg : decode cc pc = .ok (.areturn, 1)) :
    W p l e R s m args below meth c H locs 0 0 (XQ below (vx_Q (vl_r4 h0 h1 h2 h3) (.inl (v, u)) (fun u t => vx_B dC dI tys A (w1 u) t) A) args s 0 0 A) (F0 m pc ls [.ref (if v = 0 then h0 else if v = 1 then h1 else if v = 2 then h2 else h3)]) := by
  obtain ⟨hx, hb, hr, -, -, -, hlk, hK, -⟩ := C
  exact W.mono (fun _ => vx_ofMQ) (W.aret hx hb hr (Or.inl ⟨_, rfl⟩) (Or.inr ⟨_, rfl⟩) (fun t ht hW => ⟨⟨rfl, by rw [ht]; exact hP, va_K.moved hW.alike hK, hD⟩, hS.F ht⟩) hS.2.2 hdg hlk)
end DQ1
