def ws_Sink_mendLittle4 (h_t : Nat) (h_t_bytes : Nat) (k_t_bytes : ClassId) (n_t_bytes : Nat) (w_t_bitStore : Int32) (w_t_bitsHeld : Int32) (t_filled : Int32) (a_t_bytes : Nat → Int32) : va_W := [(h_t, .inr (11, [.ref h_t_bytes, .int t_filled, .int w_t_bitStore, .int w_t_bitsHeld])), (h_t_bytes, .inl (k_t_bytes, n_t_bytes, .inl a_t_bytes))]
abbrev w1_Sink_mendLittle4 (h_t : Nat) (h_t_bytes : Nat) (k_t_bytes : ClassId) (n_t_bytes : Nat) (w_t_bitStore : Int32) (w_t_bitsHeld : Int32) (t_filled : Int32) (u : (Nat → Int32)) : va_W := ws_Sink_mendLittle4 h_t h_t_bytes k_t_bytes n_t_bytes w_t_bitStore w_t_bitsHeld t_filled u
abbrev q_Sink_mendLittle4 (below : List Frame) (args : Array Value) (s : State) (dC : Nat → ClassId) (dI : Nat → Nat → Nat) (A : Nat → Prop) (h_t : Nat) (h_t_bytes : Nat) (k_t_bytes : ClassId) (n_t_bytes : Nat) (w_t_bitStore : Int32) (w_t_bitsHeld : Int32) (t_filled : Int32) (o : Unit × ((Nat → Int32))) : State → Prop := XQ below (vx_Q vl_v (.inl o) (fun u t => vx_B dC dI [(k_t_bytes, .byte)] A (w1_Sink_mendLittle4 h_t h_t_bytes k_t_bytes n_t_bytes w_t_bitStore w_t_bitsHeld t_filled u) t) A) args s 0 0 A
theorem d_Sink_mendLittle4_0 : decode b_Sink_mendLittle4 0 = .ok (.iconst 0, 1) := by decide +kernel
theorem d_Sink_mendLittle4_1 : decode b_Sink_mendLittle4 1 = .ok (.istore_n 3, 1) := by decide +kernel
theorem d_Sink_mendLittle4_2 : decode b_Sink_mendLittle4 2 = .ok (.iload_n 3, 1) := by decide +kernel
theorem d_Sink_mendLittle4_3 : decode b_Sink_mendLittle4 3 = .ok (.iconst 4, 1) := by decide +kernel
theorem d_Sink_mendLittle4_4 : decode b_Sink_mendLittle4 4 = .ok (.if_icmp .ge 22, 3) := by decide +kernel
theorem d_Sink_mendLittle4_7 : decode b_Sink_mendLittle4 7 = .ok (.aload_n 0, 1) := by decide +kernel
theorem d_Sink_mendLittle4_8 : decode b_Sink_mendLittle4 8 = .ok (.iload_n 1, 1) := by decide +kernel
theorem d_Sink_mendLittle4_9 : decode b_Sink_mendLittle4 9 = .ok (.iload_n 3, 1) := by decide +kernel
theorem d_Sink_mendLittle4_10 : decode b_Sink_mendLittle4 10 = .ok (.iadd, 1) := by decide +kernel
theorem d_Sink_mendLittle4_11 : decode b_Sink_mendLittle4 11 = .ok (.iload_n 2, 1) := by decide +kernel
theorem d_Sink_mendLittle4_12 : decode b_Sink_mendLittle4 12 = .ok (.bipush 8, 2) := by decide +kernel
theorem d_Sink_mendLittle4_14 : decode b_Sink_mendLittle4 14 = .ok (.iload_n 3, 1) := by decide +kernel
theorem d_Sink_mendLittle4_15 : decode b_Sink_mendLittle4 15 = .ok (.imul, 1) := by decide +kernel
theorem d_Sink_mendLittle4_16 : decode b_Sink_mendLittle4 16 = .ok (.ishr, 1) := by decide +kernel
theorem d_Sink_mendLittle4_17 : decode b_Sink_mendLittle4 17 = .ok (.invokevirtual 59, 3) := by decide +kernel
theorem d_Sink_mendLittle4_20 : decode b_Sink_mendLittle4 20 = .ok (.iinc 3 1, 3) := by decide +kernel
theorem d_Sink_mendLittle4_23 : decode b_Sink_mendLittle4 23 = .ok (.goto (-21), 3) := by decide +kernel
theorem d_Sink_mendLittle4_26 : decode b_Sink_mendLittle4 26 = .ok (.return_, 1) := by decide +kernel
def at_Sink_mendLittle4_2 (p : Program) (l : Launch) (e : Env) (R : Room) (s : State) (m : MethodId) (args : Array Value) (below : List Frame) (meth : Method) (c : Code) (dC : Nat → ClassId) (dI : Nat → Nat → Nat) (A : Nat → Prop) (Q : State → Prop) (h_t : Nat) (h_t_bytes : Nat) (k_t_bytes : ClassId) (n_t_bytes : Nat) (w_t_bitStore : Int32) (w_t_bitsHeld : Int32) (t_filled : Int32) (a_t_bytes : Nat → Int32) (x1 : Int32) (x2 : Int32) (x3 : Int32) : Prop := ∀ (H : Heap) (locs : List Loc) (ls : Array Slot), va_P (dC, dI) classes (ws_Sink_mendLittle4 h_t h_t_bytes k_t_bytes n_t_bytes w_t_bitStore w_t_bitsHeld t_filled a_t_bytes) H → va_D A (ws_Sink_mendLittle4 h_t h_t_bytes k_t_bytes n_t_bytes w_t_bitStore w_t_bitsHeld t_filled a_t_bytes) → va_S A s.heap H locs → lv_has ls 4 [(0, .ref h_t), (1, .int x1), (2, .int x2), (3, .int x3)] → W p l e R s m args below meth c H locs 0 0 Q (F0 m 2 ls [])
def at_Sink_mendLittle4_26 (p : Program) (l : Launch) (e : Env) (R : Room) (s : State) (m : MethodId) (args : Array Value) (below : List Frame) (meth : Method) (c : Code) (dC : Nat → ClassId) (dI : Nat → Nat → Nat) (A : Nat → Prop) (Q : State → Prop) (h_t : Nat) (h_t_bytes : Nat) (k_t_bytes : ClassId) (n_t_bytes : Nat) (w_t_bitStore : Int32) (w_t_bitsHeld : Int32) (t_filled : Int32) (a_t_bytes : Nat → Int32)  : Prop := ∀ (H : Heap) (locs : List Loc) (ls : Array Slot), va_P (dC, dI) classes (ws_Sink_mendLittle4 h_t h_t_bytes k_t_bytes n_t_bytes w_t_bitStore w_t_bitsHeld t_filled a_t_bytes) H → va_D A (ws_Sink_mendLittle4 h_t h_t_bytes k_t_bytes n_t_bytes w_t_bitStore w_t_bitsHeld t_filled a_t_bytes) → va_S A s.heap H locs → lv_has ls 4 [(0, .ref h_t)] → W p l e R s m args below meth c H locs 0 0 Q (F0 m 26 ls [])
def f_Sink_mendLittle4_2 (K : Nat) (n_t_bytes : Nat) (rec : (Nat → Int32) → Int32 → Option ((Nat → Int32))) (t_filled : Int32) (a_t_bytes : Nat → Int32) (x1 : Int32) (x2 : Int32) (x3 : Int32) : Option ((Nat → Int32)) := (if 4 ≤ x3 then (some a_t_bytes) else (dc_bind (f_Sink_mendByte n_t_bytes (x1 + x3) (x2 >>> ((8 * x3) &&& 31)) t_filled a_t_bytes) (fun r_17 => rec r_17.2 (x3 + 1))))
def f_Sink_mendLittle4_L2 (K : Nat) (n_t_bytes : Nat) (t_filled : Int32) (x1 : Int32) (x2 : Int32) : Nat → (Nat → Int32) → Int32 → Option ((Nat → Int32))
  | 0, _, _ => none
  | n + 1, a_t_bytes, x3 => f_Sink_mendLittle4_2 K n_t_bytes (f_Sink_mendLittle4_L2 K n_t_bytes t_filled x1 x2 n) t_filled a_t_bytes x1 x2 x3
def f_Sink_mendLittle4 (K : Nat) (n_t_bytes : Nat) (x1 : Int32) (x2 : Int32) (t_filled : Int32) (a_t_bytes : Nat → Int32) : Option (Unit × ((Nat → Int32))) := dc_bind (f_Sink_mendLittle4_L2 K n_t_bytes t_filled x1 x2 K a_t_bytes 0) (fun v_26 => some ((), v_26))
set_option maxHeartbeats 400000 in
set_option maxRecDepth 100000 in
theorem w_Sink_mendLittle4_2 {p : Program} {l : Launch} {e : Env} {R : Room} {s : State} {m : MethodId} {args : Array Value} {below : List Frame} {meth : Method} {c : Code} {dC : Nat → ClassId} {dI : Nat → Nat → Nat} {A : Nat → Prop} {Q : State → Prop} {h_t : Nat} {h_t_bytes : Nat} {k_t_bytes : ClassId} {n_t_bytes : Nat} {w_t_bitStore : Int32} {w_t_bitsHeld : Int32} (C : cx p l e R s m args meth c dC dI A R_Sink b_Sink_mendLittle4 4 none 1 22 [(k_t_bytes, .byte)]) {K : Nat} {out : (Nat → Int32)} {t_filled : Int32} {a_t_bytes : Nat → Int32} {x1 : Int32} {x2 : Int32} {x3 : Int32} {rec : (Nat → Int32) → Int32 → Option ((Nat → Int32))}  (hex0 : ∀ v : (Nat → Int32), out = v → at_Sink_mendLittle4_26 p l e R s m args below meth c dC dI A Q h_t h_t_bytes k_t_bytes n_t_bytes w_t_bitStore w_t_bitsHeld t_filled v) (hrec : ∀ (a_t_bytes : Nat → Int32) (x3 : Int32), rec a_t_bytes x3 = some out → at_Sink_mendLittle4_2 p l e R s m args below meth c dC dI A Q h_t h_t_bytes k_t_bytes n_t_bytes w_t_bitStore w_t_bitsHeld t_filled a_t_bytes x1 x2 x3) (h : f_Sink_mendLittle4_2 K n_t_bytes rec t_filled a_t_bytes x1 x2 x3 = some out) : at_Sink_mendLittle4_2 p l e R s m args below meth c dC dI A Q h_t h_t_bytes k_t_bytes n_t_bytes w_t_bitStore w_t_bitsHeld t_filled a_t_bytes x1 x2 x3 := by
  refine fun H locs ls hP hD hS hl => ?_
  obtain ⟨hx, hb, hr, hml, hown, hts, hlk, hK, hA, hV, htr, hex, hF, hL, hfl⟩ := id C
  unfold f_Sink_mendLittle4_2 at h
  refine lv_iload_n hx hb d_Sink_mendLittle4_2 rfl (lv_at hl 3 rfl) ?_
  refine lv_iconst (v := 4) hx hb d_Sink_mendLittle4_3 (by decide) ?_
  refine lv_icmp_ge (tgt := 26) hx hb d_Sink_mendLittle4_4 (by decide) (fun c_4 => ?_) (fun c_4 => ?_)
  · have h := dc_t c_4 h
    cases h
    exact hex0 _ rfl H locs ls hP hD hS (lv_sub hl [0] rfl)
  have h := dc_f c_4 h
  refine lv_aload_n hx hb d_Sink_mendLittle4_7 rfl (lv_at hl 0 rfl) ?_
  refine lv_iload_n hx hb d_Sink_mendLittle4_8 rfl (lv_at hl 1 rfl) ?_
  refine lv_iload_n hx hb d_Sink_mendLittle4_9 rfl (lv_at hl 3 rfl) ?_
  refine lv_iadd hx hb d_Sink_mendLittle4_10 ?_
  refine lv_iload_n hx hb d_Sink_mendLittle4_11 rfl (lv_at hl 2 rfl) ?_
  refine lv_bipush (v := 8) hx hb d_Sink_mendLittle4_12 (by decide) ?_
  refine lv_iload_n hx hb d_Sink_mendLittle4_14 rfl (lv_at hl 3 rfl) ?_
  refine lv_imul hx hb d_Sink_mendLittle4_15 ?_
  refine lv_ishr hx hb d_Sink_mendLittle4_16 ?_
  obtain ⟨r_17, hg_17, h⟩ := dc_bindE h
  refine dc_callV (y := y_Sink_mendByte) (bytes := b_Sink_mendByte) (maxL := 3) (ret' := none) (fr' := 0) (lo' := 0) (n := 2) (val := vl_v) (o := r_17) (tysc := [(k_t_bytes, .byte)]) (As := [.int (x1 + x3), .int (x2 >>> ((8 * x3) &&& 31))]) (rest := []) (wc := (ws_Sink_mendByte h_t h_t_bytes k_t_bytes n_t_bytes w_t_bitStore w_t_bitsHeld t_filled a_t_bytes)) (wr := []) (w1 := w1_Sink_mendByte h_t h_t_bytes k_t_bytes n_t_bytes w_t_bitStore w_t_bitsHeld t_filled) C cw_Sink_mendByte (lg_in1 (List.mem_of_getElem? (i := 2) rfl) rfl) (lg_in6 (List.mem_of_getElem? (i := 159) rfl) rfl) (lg_in6 (List.mem_of_getElem? (i := 161) rfl) rfl) (lg_memS (List.mem_of_getElem? (i := 52) rfl) rfl) (ci := 11) (cq := (R_Sink, F_Sink, 4)) (q0 := 0) rfl rfl rfl (c_Sink_mendByte hfl dC dI h_t h_t_bytes k_t_bytes n_t_bytes w_t_bitStore w_t_bitsHeld H.size (x1 + x3) (x2 >>> ((8 * x3) &&& 31)) t_filled a_t_bytes hg_17) (by decide +kernel) ⟨Nat.le_of_ble_eq_true rfl, Nat.le_of_ble_eq_true rfl⟩ rfl rfl (Nat.le_of_ble_eq_true rfl) d_Sink_mendLittle4_17 hP hD hS hl.1 [0, 1] [] [0] rfl rfl rfl rfl (by decide) rfl (fun H locs hP hD hS => ?_)
  have hP : va_P (dC, dI) classes (ws_Sink_mendLittle4 h_t h_t_bytes k_t_bytes n_t_bytes w_t_bitStore w_t_bitsHeld t_filled r_17.2) H := hP.sub [0, 1] rfl
  have hD : va_D A (ws_Sink_mendLittle4 h_t h_t_bytes k_t_bytes n_t_bytes w_t_bitStore w_t_bitsHeld t_filled r_17.2) := hD.sub [0, 1] (by decide) rfl
  show W p l e R s m _ below meth c H locs 0 0 _ (F0 m 20 ls [])
  refine lv_iinc (v := (x3 + 1)) (lv' := [(3, .int (x3 + 1)), (0, .ref h_t), (1, .int x1), (2, .int x2)]) hx hb d_Sink_mendLittle4_20 hl (k := 3) rfl rfl (by decide) rfl (fun ls hl => ?_)
  refine lv_goto (tgt := 2) hx hb d_Sink_mendLittle4_23 (by decide) ?_
  exact hrec _ _ h H locs ls hP hD hS (lv_sub hl [1, 2, 3, 0] rfl)
set_option maxHeartbeats 400000 in
set_option maxRecDepth 100000 in
theorem w_Sink_mendLittle4_L2 {p : Program} {l : Launch} {e : Env} {R : Room} {s : State} {m : MethodId} {args : Array Value} {below : List Frame} {meth : Method} {c : Code} {dC : Nat → ClassId} {dI : Nat → Nat → Nat} {A : Nat → Prop} {Q : State → Prop} {h_t : Nat} {h_t_bytes : Nat} {k_t_bytes : ClassId} {n_t_bytes : Nat} {w_t_bitStore : Int32} {w_t_bitsHeld : Int32} (C : cx p l e R s m args meth c dC dI A R_Sink b_Sink_mendLittle4 4 none 1 22 [(k_t_bytes, .byte)]) {K : Nat} {out : (Nat → Int32)} {t_filled : Int32} {x1 : Int32} {x2 : Int32} (hex0 : ∀ v : (Nat → Int32), out = v → at_Sink_mendLittle4_26 p l e R s m args below meth c dC dI A Q h_t h_t_bytes k_t_bytes n_t_bytes w_t_bitStore w_t_bitsHeld t_filled v) : ∀ (n : Nat) (a_t_bytes : Nat → Int32) (x3 : Int32), f_Sink_mendLittle4_L2 K n_t_bytes t_filled x1 x2 n a_t_bytes x3 = some out → at_Sink_mendLittle4_2 p l e R s m args below meth c dC dI A Q h_t h_t_bytes k_t_bytes n_t_bytes w_t_bitStore w_t_bitsHeld t_filled a_t_bytes x1 x2 x3 := by
  intro n
  induction n with
  | zero =>
    intro a_t_bytes x3 h
    exact nomatch (show (none : Option ((Nat → Int32))) = some out from h)
  | succ n ih =>
    intro a_t_bytes x3 h
    exact w_Sink_mendLittle4_2 C hex0 ih h
set_option maxHeartbeats 400000 in
set_option maxRecDepth 100000 in
theorem c_Sink_mendLittle4 {l : Launch} (hfl : l.flags = flags0) (dC : Nat → ClassId) (dI : Nat → Nat → Nat) (h_t : Nat) (h_t_bytes : Nat) (k_t_bytes : ClassId) (n_t_bytes : Nat) (w_t_bitStore : Int32) (w_t_bitsHeld : Int32) (sz : Nat) (K : Nat) (x1 : Int32) (x2 : Int32) (t_filled : Int32) (a_t_bytes : Nat → Int32) {o : Unit × ((Nat → Int32))} (h : f_Sink_mendLittle4 K n_t_bytes x1 x2 t_filled a_t_bytes = some o) : MetX l y_Sink_mendLittle4 (Cond.code y_Sink_mendLittle4 b_Sink_mendLittle4 4 none :: lw_g) (rmx 1 22 0 0) (vx_Pre dC dI [(k_t_bytes, .byte)] [.ref h_t, .int x1, .int x2] sz (ws_Sink_mendLittle4 h_t h_t_bytes k_t_bytes n_t_bytes w_t_bitStore w_t_bitsHeld t_filled a_t_bytes)) (vx_Q vl_v (.inl o) (fun u t => vx_B dC dI [(k_t_bytes, .byte)] (va_A (ws_Sink_mendLittle4 h_t h_t_bytes k_t_bytes n_t_bytes w_t_bitStore w_t_bitsHeld t_filled a_t_bytes) sz) (w1_Sink_mendLittle4 h_t h_t_bytes k_t_bytes n_t_bytes w_t_bitStore w_t_bitsHeld t_filled u) t) (va_A (ws_Sink_mendLittle4 h_t h_t_bytes k_t_bytes n_t_bytes w_t_bitStore w_t_bitsHeld t_filled a_t_bytes) sz)) 0 0 (va_A (ws_Sink_mendLittle4 h_t h_t_bytes k_t_bytes n_t_bytes w_t_bitStore w_t_bitsHeld t_filled a_t_bytes) sz) := by
  refine MetX.ofW (cc := b_Sink_mendLittle4) (maxL := 4) (ret := none) (by decide +kernel) rfl ?_
  intro p e s m args below meth c s₁ B hml hv
  obtain ⟨rfl, rfl, C, hP, hD, hS⟩ := dc_entry hfl B hml hv
  have hl := lv_entry ([.ref h_t, .int x1, .int x2]) (n := 4) (Nat.le_of_ble_eq_true rfl)
  rw [lg_entry_eq]
  generalize (lg_sl ([.ref h_t, .int x1, .int x2]) ++ List.replicate (4 - (lg_sl ([.ref h_t, .int x1, .int x2])).length) Slot.unset).toArray = ls at hl ⊢
  have hl : lv_has ls 4 [(0, .ref h_t), (1, .int x1), (2, .int x2)] := hl
  generalize hAe : va_A (ws_Sink_mendLittle4 h_t h_t_bytes k_t_bytes n_t_bytes w_t_bitStore w_t_bitsHeld t_filled a_t_bytes) s.heap.size = A at C hD hS ⊢
  generalize (headSpec (Cond.code y_Sink_mendLittle4 b_Sink_mendLittle4 4 none :: lw_g) (rmx 1 22 0 0)).room = R at C ⊢
  have C : cx p l e R s m _ meth c dC dI A R_Sink b_Sink_mendLittle4 4 none 1 22 [(k_t_bytes, .byte)] := C
  obtain ⟨hx, hb, hr, hml, hown, hts, hlk, hK, hA, hV, htr, hex, hF, hL, hfl⟩ := id C
  unfold f_Sink_mendLittle4 at h
  revert hP hS
  generalize hH : s.heap = H
  generalize hLo : ([] : List Loc) = locs
  intro hP hS
  have hS : va_S A s.heap H locs := by rw [hH]; exact hS
  refine lv_iconst (v := 0) hx hb d_Sink_mendLittle4_0 (by decide) ?_
  refine lv_istore_n (lv' := [(3, .int 0), (0, .ref h_t), (1, .int x1), (2, .int x2)]) hx hb d_Sink_mendLittle4_1 rfl hl (by decide) rfl (fun ls hl => ?_)
  obtain ⟨r_2, hg_2, h⟩ := dc_bindE h
  refine w_Sink_mendLittle4_L2 C ?_ K _ _ hg_2 H locs ls hP hD hS (lv_sub hl [1, 2, 3, 0] rfl)
  · refine fun v_26 hr => ?_
    subst r_2
    refine fun H locs ls hP hD hS hl => ?_
    cases h
    exact dc_vret C (u := v_26) (w1 := w1_Sink_mendLittle4 h_t h_t_bytes k_t_bytes n_t_bytes w_t_bitStore w_t_bitsHeld t_filled) hP hD hS d_Sink_mendLittle4_26
def ws_Source_open (h_t : Nat) (h_t_bytes : Nat) (k_t_bytes : ClassId) (w_t_gatheredFrom : Int32) (w_t_gatheredTo : Int32) (w_a_t_bytes : Nat → Int32) (t_at : Int32) (t_stop : Int32) (t_bitStore : Int32) (t_bitsHeld : Int32) : va_W := [(h_t, .inr (12, [.ref h_t_bytes, .int t_at, .int t_stop, .int t_bitStore, .int t_bitsHeld, .int w_t_gatheredFrom, .int w_t_gatheredTo])), (h_t_bytes, .inl (k_t_bytes, 65536, .inl w_a_t_bytes))]
abbrev w1_Source_open (h_t : Nat) (h_t_bytes : Nat) (k_t_bytes : ClassId) (w_t_gatheredFrom : Int32) (w_t_gatheredTo : Int32) (w_a_t_bytes : Nat → Int32)  (u : Int32 × Int32 × Int32 × Int32) : va_W := ws_Source_open h_t h_t_bytes k_t_bytes w_t_gatheredFrom w_t_gatheredTo w_a_t_bytes u.1 u.2.1 u.2.2.1 u.2.2.2
abbrev q_Source_open (below : List Frame) (args : Array Value) (s : State) (dC : Nat → ClassId) (dI : Nat → Nat → Nat) (A : Nat → Prop) (h_t : Nat) (h_t_bytes : Nat) (k_t_bytes : ClassId) (w_t_gatheredFrom : Int32) (w_t_gatheredTo : Int32) (w_a_t_bytes : Nat → Int32)  (o : Unit × (Int32 × Int32 × Int32 × Int32)) : State → Prop := XQ below (vx_Q vl_v (.inl o) (fun u t => vx_B dC dI [(k_t_bytes, .byte)] A (w1_Source_open h_t h_t_bytes k_t_bytes w_t_gatheredFrom w_t_gatheredTo w_a_t_bytes u) t) A) args s 0 0 A
theorem d_Source_open_0 : decode b_Source_open 0 = .ok (.aload_n 0, 1) := by decide +kernel
theorem d_Source_open_1 : decode b_Source_open 1 = .ok (.iload_n 1, 1) := by decide +kernel
theorem d_Source_open_2 : decode b_Source_open 2 = .ok (.iconst 0, 1) := by decide +kernel
theorem d_Source_open_3 : decode b_Source_open 3 = .ok (.invokestatic 32, 3) := by decide +kernel
theorem d_Source_open_6 : decode b_Source_open 6 = .ok (.putfield 7, 3) := by decide +kernel
theorem d_Source_open_9 : decode b_Source_open 9 = .ok (.aload_n 0, 1) := by decide +kernel
theorem d_Source_open_10 : decode b_Source_open 10 = .ok (.iload_n 2, 1) := by decide +kernel
theorem d_Source_open_11 : decode b_Source_open 11 = .ok (.aload_n 0, 1) := by decide +kernel
theorem d_Source_open_12 : decode b_Source_open 12 = .ok (.getfield 28, 3) := by decide +kernel
theorem d_Source_open_15 : decode b_Source_open 15 = .ok (.arraylength, 1) := by decide +kernel
theorem d_Source_open_16 : decode b_Source_open 16 = .ok (.invokestatic 38, 3) := by decide +kernel
theorem d_Source_open_19 : decode b_Source_open 19 = .ok (.putfield 13, 3) := by decide +kernel
theorem d_Source_open_22 : decode b_Source_open 22 = .ok (.aload_n 0, 1) := by decide +kernel
theorem d_Source_open_23 : decode b_Source_open 23 = .ok (.invokevirtual 41, 3) := by decide +kernel
theorem d_Source_open_26 : decode b_Source_open 26 = .ok (.return_, 1) := by decide +kernel
def f_Source_open  (x1 : Int32) (x2 : Int32) (t_at : Int32) (t_stop : Int32) (t_bitStore : Int32) (t_bitsHeld : Int32) : Option (Unit × (Int32 × Int32 × Int32 × Int32)) := dc_bind (f_Source_dropBits t_bitStore t_bitsHeld) (fun r_23 => some ((), ((if x1 < 0 then 0 else x1), (if 65536 < x2 then 65536 else x2), r_23.2.1, r_23.2.2)))
set_option maxHeartbeats 400000 in
set_option maxRecDepth 100000 in
theorem c_Source_open {l : Launch} (hfl : l.flags = flags0) (dC : Nat → ClassId) (dI : Nat → Nat → Nat) (h_t : Nat) (h_t_bytes : Nat) (k_t_bytes : ClassId) (w_t_gatheredFrom : Int32) (w_t_gatheredTo : Int32) (w_a_t_bytes : Nat → Int32) (sz : Nat) (x1 : Int32) (x2 : Int32) (t_at : Int32) (t_stop : Int32) (t_bitStore : Int32) (t_bitsHeld : Int32) {o : Unit × (Int32 × Int32 × Int32 × Int32)} (h : f_Source_open x1 x2 t_at t_stop t_bitStore t_bitsHeld = some o) : MetX l y_Source_open (Cond.code y_Source_open b_Source_open 3 none :: lw_g) (rmx 1 40 0 0) (vx_Pre dC dI [(k_t_bytes, .byte)] [.ref h_t, .int x1, .int x2] sz (ws_Source_open h_t h_t_bytes k_t_bytes w_t_gatheredFrom w_t_gatheredTo w_a_t_bytes t_at t_stop t_bitStore t_bitsHeld)) (vx_Q vl_v (.inl o) (fun u t => vx_B dC dI [(k_t_bytes, .byte)] (va_A (ws_Source_open h_t h_t_bytes k_t_bytes w_t_gatheredFrom w_t_gatheredTo w_a_t_bytes t_at t_stop t_bitStore t_bitsHeld) sz) (w1_Source_open h_t h_t_bytes k_t_bytes w_t_gatheredFrom w_t_gatheredTo w_a_t_bytes u) t) (va_A (ws_Source_open h_t h_t_bytes k_t_bytes w_t_gatheredFrom w_t_gatheredTo w_a_t_bytes t_at t_stop t_bitStore t_bitsHeld) sz)) 0 0 (va_A (ws_Source_open h_t h_t_bytes k_t_bytes w_t_gatheredFrom w_t_gatheredTo w_a_t_bytes t_at t_stop t_bitStore t_bitsHeld) sz) := by
  refine MetX.ofW (cc := b_Source_open) (maxL := 3) (ret := none) (by decide +kernel) rfl ?_
  intro p e s m args below meth c s₁ B hml hv
  obtain ⟨rfl, rfl, C, hP, hD, hS⟩ := dc_entry hfl B hml hv
  have hl := lv_entry ([.ref h_t, .int x1, .int x2]) (n := 3) (Nat.le_of_ble_eq_true rfl)
  rw [lg_entry_eq]
  generalize (lg_sl ([.ref h_t, .int x1, .int x2]) ++ List.replicate (3 - (lg_sl ([.ref h_t, .int x1, .int x2])).length) Slot.unset).toArray = ls at hl ⊢
  have hl : lv_has ls 3 [(0, .ref h_t), (1, .int x1), (2, .int x2)] := hl
  generalize hAe : va_A (ws_Source_open h_t h_t_bytes k_t_bytes w_t_gatheredFrom w_t_gatheredTo w_a_t_bytes t_at t_stop t_bitStore t_bitsHeld) s.heap.size = A at C hD hS ⊢
  generalize (headSpec (Cond.code y_Source_open b_Source_open 3 none :: lw_g) (rmx 1 40 0 0)).room = R at C ⊢
  have C : cx p l e R s m _ meth c dC dI A R_Source b_Source_open 3 none 1 40 [(k_t_bytes, .byte)] := C
  obtain ⟨hx, hb, hr, hml, hown, hts, hlk, hK, hA, hV, htr, hex, hF, hL, hfl⟩ := id C
  unfold f_Source_open at h
  revert hP hS
  generalize hH : s.heap = H
  generalize hLo : ([] : List Loc) = locs
  intro hP hS
  have hS : va_S A s.heap H locs := by rw [hH]; exact hS
  refine lv_aload_n hx hb d_Source_open_0 rfl (lv_at hl 0 rfl) ?_
  refine lv_iload_n hx hb d_Source_open_1 rfl (lv_at hl 1 rfl) ?_
  refine lv_iconst (v := 0) hx hb d_Source_open_2 (by decide) ?_
  refine va_mmax hx hb (hml.trans hl.1.symm) hown (hts _ (lg_in3 (List.mem_of_getElem? (i := 99) rfl) rfl)) (hts _ (lg_in3 (List.mem_of_getElem? (i := 100) rfl) rfl)) (hts _ (lg_in1 (List.mem_of_getElem? (i := 20) rfl) rfl)) (hts _ (lg_in3 (List.mem_of_getElem? (i := 101) rfl) rfl)) (Nat.le_trans (Nat.le_of_ble_eq_true rfl) hF) (Nat.le_trans (Nat.le_of_ble_eq_true rfl) hL) (Nat.zero_le _) (Nat.zero_le _) d_Source_open_3 ?_
  refine va_put (D := (dC, dI)) (ci := 12) (v := .int (if x1 < 0 then 0 else x1)) (ty := .int) (C := R_Source) (T := F_Source) (N := 7) hx hb hts i_Source t_Source t_Source_ok n_Source hown hK hP hD hS 0 rfl rfl 1 (by decide) (hts _ (lg_in1 (List.mem_of_getElem? (i := 106) rfl) rfl)) (fun _ h9 => h9) rfl (by decide +kernel) rfl rfl (Nat.le_of_ble_eq_true rfl) d_Source_open_6 (fun H locs hP hD hS => ?_)
  have hP : va_P (dC, dI) classes (ws_Source_open h_t h_t_bytes k_t_bytes w_t_gatheredFrom w_t_gatheredTo w_a_t_bytes (if x1 < 0 then 0 else x1) t_stop t_bitStore t_bitsHeld) H := hP
  have hD : va_D A (ws_Source_open h_t h_t_bytes k_t_bytes w_t_gatheredFrom w_t_gatheredTo w_a_t_bytes (if x1 < 0 then 0 else x1) t_stop t_bitStore t_bitsHeld) := hD
  refine lv_aload_n hx hb d_Source_open_9 rfl (lv_at hl 0 rfl) ?_
  refine lv_iload_n hx hb d_Source_open_10 rfl (lv_at hl 2 rfl) ?_
  refine lv_aload_n hx hb d_Source_open_11 rfl (lv_at hl 0 rfl) ?_
  refine va_get (D := (dC, dI)) (ci := 12) (v := .ref h_t_bytes) (C := R_Source) (T := F_Source) (N := 7) hx hb hts i_Source hown hK hP 0 rfl rfl 0 (by decide) (hts _ (lg_in1 (List.mem_of_getElem? (i := 105) rfl) rfl)) (fun _ h9 => h9) rfl d_Source_open_12 ?_
  refine va_alen (v := 65536) hx hb hK hP 1 0 rfl rfl rfl d_Source_open_15 ?_
  refine va_mmin hx hb (hml.trans hl.1.symm) hown (hts _ (lg_in3 (List.mem_of_getElem? (i := 102) rfl) rfl)) (hts _ (lg_in2 (List.mem_of_getElem? (i := 203) rfl) rfl)) (hts _ (lg_in1 (List.mem_of_getElem? (i := 20) rfl) rfl)) (hts _ (lg_in2 (List.mem_of_getElem? (i := 204) rfl) rfl)) (Nat.le_trans (Nat.le_of_ble_eq_true rfl) hF) (Nat.le_trans (Nat.le_of_ble_eq_true rfl) hL) (Nat.zero_le _) (Nat.zero_le _) d_Source_open_16 ?_
  refine va_put (D := (dC, dI)) (ci := 12) (v := .int (if 65536 < x2 then 65536 else x2)) (ty := .int) (C := R_Source) (T := F_Source) (N := 7) hx hb hts i_Source t_Source t_Source_ok n_Source hown hK hP hD hS 0 rfl rfl 2 (by decide) (hts _ (lg_in1 (List.mem_of_getElem? (i := 107) rfl) rfl)) (fun _ h9 => h9) rfl (by decide +kernel) rfl rfl (Nat.le_of_ble_eq_true rfl) d_Source_open_19 (fun H locs hP hD hS => ?_)
  have hP : va_P (dC, dI) classes (ws_Source_open h_t h_t_bytes k_t_bytes w_t_gatheredFrom w_t_gatheredTo w_a_t_bytes (if x1 < 0 then 0 else x1) (if 65536 < x2 then 65536 else x2) t_bitStore t_bitsHeld) H := hP
  have hD : va_D A (ws_Source_open h_t h_t_bytes k_t_bytes w_t_gatheredFrom w_t_gatheredTo w_a_t_bytes (if x1 < 0 then 0 else x1) (if 65536 < x2 then 65536 else x2) t_bitStore t_bitsHeld) := hD
  refine lv_aload_n hx hb d_Source_open_22 rfl (lv_at hl 0 rfl) ?_
  obtain ⟨r_23, hg_23, h⟩ := dc_bindE h
  refine dc_callV (y := y_Source_dropBits) (bytes := b_Source_dropBits) (maxL := 1) (ret' := none) (fr' := 0) (lo' := 0) (n := 0) (val := vl_v) (o := r_23) (tysc := []) (As := []) (rest := []) (wc := (ws_Source_dropBits h_t h_t_bytes (if x1 < 0 then 0 else x1) (if 65536 < x2 then 65536 else x2) w_t_gatheredFrom w_t_gatheredTo t_bitStore t_bitsHeld)) (wr := [(h_t_bytes, .inl (k_t_bytes, 65536, .inl w_a_t_bytes))]) (w1 := w1_Source_dropBits h_t h_t_bytes (if x1 < 0 then 0 else x1) (if 65536 < x2 then 65536 else x2) w_t_gatheredFrom w_t_gatheredTo) C cw_Source_dropBits (lg_in1 (List.mem_of_getElem? (i := 4) rfl) rfl) (lg_in3 (List.mem_of_getElem? (i := 103) rfl) rfl) (lg_in3 (List.mem_of_getElem? (i := 104) rfl) rfl) (lg_in3 (List.mem_of_getElem? (i := 105) rfl) rfl) (ci := 12) (cq := (R_Source, F_Source, 7)) (q0 := 0) rfl rfl rfl (c_Source_dropBits hfl dC dI h_t h_t_bytes (if x1 < 0 then 0 else x1) (if 65536 < x2 then 65536 else x2) w_t_gatheredFrom w_t_gatheredTo H.size t_bitStore t_bitsHeld hg_23) (by decide +kernel) ⟨Nat.le_of_ble_eq_true rfl, Nat.le_of_ble_eq_true rfl⟩ rfl rfl (Nat.le_of_ble_eq_true rfl) d_Source_open_23 hP hD hS hl.1 [0] [1] [] rfl rfl rfl rfl (by decide) rfl (fun H locs hP hD hS => ?_)
  have hP : va_P (dC, dI) classes (ws_Source_open h_t h_t_bytes k_t_bytes w_t_gatheredFrom w_t_gatheredTo w_a_t_bytes (if x1 < 0 then 0 else x1) (if 65536 < x2 then 65536 else x2) r_23.2.1 r_23.2.2) H := hP.sub [1, 0] rfl
  have hD : va_D A (ws_Source_open h_t h_t_bytes k_t_bytes w_t_gatheredFrom w_t_gatheredTo w_a_t_bytes (if x1 < 0 then 0 else x1) (if 65536 < x2 then 65536 else x2) r_23.2.1 r_23.2.2) := hD.sub [1, 0] (by decide) rfl
  show W p l e R s m _ below meth c H locs 0 0 _ (F0 m 26 ls [])
  cases h
  exact dc_vret C (u := ((if x1 < 0 then 0 else x1), (if 65536 < x2 then 65536 else x2), r_23.2.1, r_23.2.2)) (w1 := w1_Source_open h_t h_t_bytes k_t_bytes w_t_gatheredFrom w_t_gatheredTo w_a_t_bytes) hP hD hS d_Source_open_26
def ws_Source_first (h_t : Nat) (h_t_bytes : Nat) (k_t_bytes : ClassId) (w_t_bitStore : Int32) (w_t_bitsHeld : Int32) (w_t_gatheredFrom : Int32) (w_t_gatheredTo : Int32) (t_at : Int32) (t_stop : Int32) (a_t_bytes : Nat → Int32) : va_W := [(h_t, .inr (12, [.ref h_t_bytes, .int t_at, .int t_stop, .int w_t_bitStore, .int w_t_bitsHeld, .int w_t_gatheredFrom, .int w_t_gatheredTo])), (h_t_bytes, .inl (k_t_bytes, 65536, .inl a_t_bytes))]
abbrev w1_Source_first (h_t : Nat) (h_t_bytes : Nat) (k_t_bytes : ClassId) (w_t_bitStore : Int32) (w_t_bitsHeld : Int32) (w_t_gatheredFrom : Int32) (w_t_gatheredTo : Int32) (t_at : Int32) (t_stop : Int32) (a_t_bytes : Nat → Int32) (u : Unit) : va_W := ws_Source_first h_t h_t_bytes k_t_bytes w_t_bitStore w_t_bitsHeld w_t_gatheredFrom w_t_gatheredTo t_at t_stop a_t_bytes
abbrev q_Source_first (below : List Frame) (args : Array Value) (s : State) (dC : Nat → ClassId) (dI : Nat → Nat → Nat) (A : Nat → Prop) (h_t : Nat) (h_t_bytes : Nat) (k_t_bytes : ClassId) (w_t_bitStore : Int32) (w_t_bitsHeld : Int32) (w_t_gatheredFrom : Int32) (w_t_gatheredTo : Int32) (t_at : Int32) (t_stop : Int32) (a_t_bytes : Nat → Int32) (o : Int32 × Unit) : State → Prop := XQ below (vx_Q vl_i (.inl o) (fun u t => vx_B dC dI [(k_t_bytes, .byte)] A (w1_Source_first h_t h_t_bytes k_t_bytes w_t_bitStore w_t_bitsHeld w_t_gatheredFrom w_t_gatheredTo t_at t_stop a_t_bytes u) t) A) args s 0 0 A
theorem d_Source_first_0 : decode b_Source_first 0 = .ok (.aload_n 0, 1) := by decide +kernel
theorem d_Source_first_1 : decode b_Source_first 1 = .ok (.getfield 7, 3) := by decide +kernel
theorem d_Source_first_4 : decode b_Source_first 4 = .ok (.aload_n 0, 1) := by decide +kernel
theorem d_Source_first_5 : decode b_Source_first 5 = .ok (.getfield 13, 3) := by decide +kernel
theorem d_Source_first_8 : decode b_Source_first 8 = .ok (.if_icmp .ge 19, 3) := by decide +kernel
theorem d_Source_first_11 : decode b_Source_first 11 = .ok (.aload_n 0, 1) := by decide +kernel
theorem d_Source_first_12 : decode b_Source_first 12 = .ok (.getfield 28, 3) := by decide +kernel
theorem d_Source_first_15 : decode b_Source_first 15 = .ok (.aload_n 0, 1) := by decide +kernel
theorem d_Source_first_16 : decode b_Source_first 16 = .ok (.getfield 7, 3) := by decide +kernel
theorem d_Source_first_19 : decode b_Source_first 19 = .ok (.baload, 1) := by decide +kernel
theorem d_Source_first_20 : decode b_Source_first 20 = .ok (.sipush 255, 3) := by decide +kernel
theorem d_Source_first_23 : decode b_Source_first 23 = .ok (.iand, 1) := by decide +kernel
theorem d_Source_first_24 : decode b_Source_first 24 = .ok (.goto 4, 3) := by decide +kernel
theorem d_Source_first_27 : decode b_Source_first 27 = .ok (.iconst (-1), 1) := by decide +kernel
theorem d_Source_first_28 : decode b_Source_first 28 = .ok (.ireturn, 1) := by decide +kernel
def at_Source_first_28 (p : Program) (l : Launch) (e : Env) (R : Room) (s : State) (m : MethodId) (args : Array Value) (below : List Frame) (meth : Method) (c : Code) (dC : Nat → ClassId) (dI : Nat → Nat → Nat) (A : Nat → Prop) (Q : State → Prop) (h_t : Nat) (h_t_bytes : Nat) (k_t_bytes : ClassId) (w_t_bitStore : Int32) (w_t_bitsHeld : Int32) (w_t_gatheredFrom : Int32) (w_t_gatheredTo : Int32) (t_at : Int32) (t_stop : Int32) (a_t_bytes : Nat → Int32) (y0 : Int32) : Prop := ∀ (H : Heap) (locs : List Loc) (ls : Array Slot), va_P (dC, dI) classes (ws_Source_first h_t h_t_bytes k_t_bytes w_t_bitStore w_t_bitsHeld w_t_gatheredFrom w_t_gatheredTo t_at t_stop a_t_bytes) H → va_D A (ws_Source_first h_t h_t_bytes k_t_bytes w_t_bitStore w_t_bitsHeld w_t_gatheredFrom w_t_gatheredTo t_at t_stop a_t_bytes) → va_S A s.heap H locs → lv_has ls 1 [(0, .ref h_t)] → W p l e R s m args below meth c H locs 0 0 Q (F0 m 28 ls [.int y0])
def f_Source_first_28  (t_at : Int32) (t_stop : Int32) (a_t_bytes : Nat → Int32) (y0 : Int32) : Option (Int32 × Unit) := some (y0, ())
def f_Source_first   (t_at : Int32) (t_stop : Int32) (a_t_bytes : Nat → Int32) : Option (Int32 × Unit) := (if t_stop ≤ t_at then (f_Source_first_28 t_at t_stop a_t_bytes (-1)) else ((if inb t_at 65536 = true then f_Source_first_28 t_at t_stop a_t_bytes ((a_t_bytes (t_at : Int32).toNatClampNeg) &&& 255) else none)))
set_option maxHeartbeats 400000 in
set_option maxRecDepth 100000 in
theorem w_Source_first_28 {p : Program} {l : Launch} {e : Env} {R : Room} {s : State} {m : MethodId} {args : Array Value} {below : List Frame} {meth : Method} {c : Code} {dC : Nat → ClassId} {dI : Nat → Nat → Nat} {A : Nat → Prop} {h_t : Nat} {h_t_bytes : Nat} {k_t_bytes : ClassId} {w_t_bitStore : Int32} {w_t_bitsHeld : Int32} {w_t_gatheredFrom : Int32} {w_t_gatheredTo : Int32} (C : cx p l e R s m args meth c dC dI A R_Source b_Source_first 1 (some .int) 0 0 [(k_t_bytes, .byte)]) {o : Int32 × Unit} {t_at : Int32} {t_stop : Int32} {a_t_bytes : Nat → Int32} {y0 : Int32}  (h : f_Source_first_28  t_at t_stop a_t_bytes y0 = some o) : at_Source_first_28 p l e R s m args below meth c dC dI A (q_Source_first below args s dC dI A h_t h_t_bytes k_t_bytes w_t_bitStore w_t_bitsHeld w_t_gatheredFrom w_t_gatheredTo t_at t_stop a_t_bytes o) h_t h_t_bytes k_t_bytes w_t_bitStore w_t_bitsHeld w_t_gatheredFrom w_t_gatheredTo t_at t_stop a_t_bytes y0 := by
  refine fun H locs ls hP hD hS hl => ?_
  obtain ⟨hx, hb, hr, hml, hown, hts, hlk, hK, hA, hV, htr, hex, hF, hL, hfl⟩ := id C
  unfold f_Source_first_28 at h
  cases h
  exact dc_iret C (v := y0) (u := ()) (w1 := w1_Source_first h_t h_t_bytes k_t_bytes w_t_bitStore w_t_bitsHeld w_t_gatheredFrom w_t_gatheredTo t_at t_stop a_t_bytes) hP hD hS d_Source_first_28
set_option maxHeartbeats 400000 in
set_option maxRecDepth 100000 in
theorem c_Source_first {l : Launch} (hfl : l.flags = flags0) (dC : Nat → ClassId) (dI : Nat → Nat → Nat) (h_t : Nat) (h_t_bytes : Nat) (k_t_bytes : ClassId) (w_t_bitStore : Int32) (w_t_bitsHeld : Int32) (w_t_gatheredFrom : Int32) (w_t_gatheredTo : Int32) (sz : Nat)  (t_at : Int32) (t_stop : Int32) (a_t_bytes : Nat → Int32) {o : Int32 × Unit} (h : f_Source_first t_at t_stop a_t_bytes = some o) : MetX l y_Source_first (Cond.code y_Source_first b_Source_first 1 (some .int) :: lw_g) (rmx 0 0 0 0) (vx_Pre dC dI [(k_t_bytes, .byte)] [.ref h_t] sz (ws_Source_first h_t h_t_bytes k_t_bytes w_t_bitStore w_t_bitsHeld w_t_gatheredFrom w_t_gatheredTo t_at t_stop a_t_bytes)) (vx_Q vl_i (.inl o) (fun u t => vx_B dC dI [(k_t_bytes, .byte)] (va_A (ws_Source_first h_t h_t_bytes k_t_bytes w_t_bitStore w_t_bitsHeld w_t_gatheredFrom w_t_gatheredTo t_at t_stop a_t_bytes) sz) (w1_Source_first h_t h_t_bytes k_t_bytes w_t_bitStore w_t_bitsHeld w_t_gatheredFrom w_t_gatheredTo t_at t_stop a_t_bytes u) t) (va_A (ws_Source_first h_t h_t_bytes k_t_bytes w_t_bitStore w_t_bitsHeld w_t_gatheredFrom w_t_gatheredTo t_at t_stop a_t_bytes) sz)) 0 0 (va_A (ws_Source_first h_t h_t_bytes k_t_bytes w_t_bitStore w_t_bitsHeld w_t_gatheredFrom w_t_gatheredTo t_at t_stop a_t_bytes) sz) := by
  refine MetX.ofW (cc := b_Source_first) (maxL := 1) (ret := (some .int)) (by decide +kernel) rfl ?_
  intro p e s m args below meth c s₁ B hml hv
  obtain ⟨rfl, rfl, C, hP, hD, hS⟩ := dc_entry hfl B hml hv
  have hl := lv_entry ([.ref h_t]) (n := 1) (Nat.le_of_ble_eq_true rfl)
  rw [lg_entry_eq]
  generalize (lg_sl ([.ref h_t]) ++ List.replicate (1 - (lg_sl ([.ref h_t])).length) Slot.unset).toArray = ls at hl ⊢
  have hl : lv_has ls 1 [(0, .ref h_t)] := hl
  generalize hAe : va_A (ws_Source_first h_t h_t_bytes k_t_bytes w_t_bitStore w_t_bitsHeld w_t_gatheredFrom w_t_gatheredTo t_at t_stop a_t_bytes) s.heap.size = A at C hD hS ⊢
  generalize (headSpec (Cond.code y_Source_first b_Source_first 1 (some .int) :: lw_g) (rmx 0 0 0 0)).room = R at C ⊢
  have C : cx p l e R s m _ meth c dC dI A R_Source b_Source_first 1 (some .int) 0 0 [(k_t_bytes, .byte)] := C
  obtain ⟨hx, hb, hr, hml, hown, hts, hlk, hK, hA, hV, htr, hex, hF, hL, hfl⟩ := id C
  unfold f_Source_first at h
  revert hP hS
  generalize hH : s.heap = H
  generalize hLo : ([] : List Loc) = locs
  intro hP hS
  have hS : va_S A s.heap H locs := by rw [hH]; exact hS
  refine lv_aload_n hx hb d_Source_first_0 rfl (lv_at hl 0 rfl) ?_
  refine va_get (D := (dC, dI)) (ci := 12) (v := .int t_at) (C := R_Source) (T := F_Source) (N := 7) hx hb hts i_Source hown hK hP 0 rfl rfl 1 (by decide) (hts _ (lg_in1 (List.mem_of_getElem? (i := 106) rfl) rfl)) (fun _ h9 => h9) rfl d_Source_first_1 ?_
  refine lv_aload_n hx hb d_Source_first_4 rfl (lv_at hl 0 rfl) ?_
  refine va_get (D := (dC, dI)) (ci := 12) (v := .int t_stop) (C := R_Source) (T := F_Source) (N := 7) hx hb hts i_Source hown hK hP 0 rfl rfl 2 (by decide) (hts _ (lg_in1 (List.mem_of_getElem? (i := 107) rfl) rfl)) (fun _ h9 => h9) rfl d_Source_first_5 ?_
  refine lv_icmp_ge (tgt := 27) hx hb d_Source_first_8 (by decide) (fun c_8 => ?_) (fun c_8 => ?_)
  · have h := dc_t c_8 h
    refine lv_iconst (v := (-1)) hx hb d_Source_first_27 (by decide) ?_
    exact w_Source_first_28 C h H locs ls hP hD hS (lv_sub hl [0] rfl)
  have h := dc_f c_8 h
  refine lv_aload_n hx hb d_Source_first_11 rfl (lv_at hl 0 rfl) ?_
  refine va_get (D := (dC, dI)) (ci := 12) (v := .ref h_t_bytes) (C := R_Source) (T := F_Source) (N := 7) hx hb hts i_Source hown hK hP 0 rfl rfl 0 (by decide) (hts _ (lg_in1 (List.mem_of_getElem? (i := 105) rfl) rfl)) (fun _ h9 => h9) rfl d_Source_first_12 ?_
  refine lv_aload_n hx hb d_Source_first_15 rfl (lv_at hl 0 rfl) ?_
  refine va_get (D := (dC, dI)) (ci := 12) (v := .int t_at) (C := R_Source) (T := F_Source) (N := 7) hx hb hts i_Source hown hK hP 0 rfl rfl 1 (by decide) (hts _ (lg_in1 (List.mem_of_getElem? (i := 106) rfl) rfl)) (fun _ h9 => h9) rfl d_Source_first_16 ?_
  obtain ⟨hi_19, h⟩ := dc_in h
  refine va_bald hx hb hK hP 1 0 rfl rfl hi_19 d_Source_first_19 ?_
  refine lv_sipush (v := 255) hx hb d_Source_first_20 (by decide) ?_
  refine lv_iand hx hb d_Source_first_23 ?_
  refine lv_goto (tgt := 28) hx hb d_Source_first_24 (by decide) ?_
  exact w_Source_first_28 C h H locs ls hP hD hS (lv_sub hl [0] rfl)
def ws_Source_beginGathering (h_t : Nat) (h_t_bytes : Nat) (w_t_stop : Int32) (w_t_bitStore : Int32) (w_t_bitsHeld : Int32) (t_at : Int32) (t_gatheredFrom : Int32) (t_gatheredTo : Int32) : va_W := [(h_t, .inr (12, [.ref h_t_bytes, .int t_at, .int w_t_stop, .int w_t_bitStore, .int w_t_bitsHeld, .int t_gatheredFrom, .int t_gatheredTo]))]
abbrev w1_Source_beginGathering (h_t : Nat) (h_t_bytes : Nat) (w_t_stop : Int32) (w_t_bitStore : Int32) (w_t_bitsHeld : Int32) (t_at : Int32) (u : Int32 × Int32) : va_W := ws_Source_beginGathering h_t h_t_bytes w_t_stop w_t_bitStore w_t_bitsHeld t_at u.1 u.2
abbrev q_Source_beginGathering (below : List Frame) (args : Array Value) (s : State) (dC : Nat → ClassId) (dI : Nat → Nat → Nat) (A : Nat → Prop) (h_t : Nat) (h_t_bytes : Nat) (w_t_stop : Int32) (w_t_bitStore : Int32) (w_t_bitsHeld : Int32) (t_at : Int32) (o : Unit × (Int32 × Int32)) : State → Prop := XQ below (vx_Q vl_v (.inl o) (fun u t => vx_B dC dI [] A (w1_Source_beginGathering h_t h_t_bytes w_t_stop w_t_bitStore w_t_bitsHeld t_at u) t) A) args s 0 0 A
theorem d_Source_beginGathering_0 : decode b_Source_beginGathering 0 = .ok (.aload_n 0, 1) := by decide +kernel
theorem d_Source_beginGathering_1 : decode b_Source_beginGathering 1 = .ok (.aload_n 0, 1) := by decide +kernel
theorem d_Source_beginGathering_2 : decode b_Source_beginGathering 2 = .ok (.getfield 7, 3) := by decide +kernel
theorem d_Source_beginGathering_5 : decode b_Source_beginGathering 5 = .ok (.putfield 22, 3) := by decide +kernel
theorem d_Source_beginGathering_8 : decode b_Source_beginGathering 8 = .ok (.aload_n 0, 1) := by decide +kernel
theorem d_Source_beginGathering_9 : decode b_Source_beginGathering 9 = .ok (.aload_n 0, 1) := by decide +kernel
theorem d_Source_beginGathering_10 : decode b_Source_beginGathering 10 = .ok (.getfield 7, 3) := by decide +kernel
theorem d_Source_beginGathering_13 : decode b_Source_beginGathering 13 = .ok (.putfield 25, 3) := by decide +kernel
theorem d_Source_beginGathering_16 : decode b_Source_beginGathering 16 = .ok (.return_, 1) := by decide +kernel
def f_Source_beginGathering   (t_at : Int32) (t_gatheredFrom : Int32) (t_gatheredTo : Int32) : Option (Unit × (Int32 × Int32)) := some ((), (t_at, t_at))
set_option maxHeartbeats 400000 in
set_option maxRecDepth 100000 in
theorem c_Source_beginGathering {l : Launch} (hfl : l.flags = flags0) (dC : Nat → ClassId) (dI : Nat → Nat → Nat) (h_t : Nat) (h_t_bytes : Nat) (w_t_stop : Int32) (w_t_bitStore : Int32) (w_t_bitsHeld : Int32) (sz : Nat)  (t_at : Int32) (t_gatheredFrom : Int32) (t_gatheredTo : Int32) {o : Unit × (Int32 × Int32)} (h : f_Source_beginGathering t_at t_gatheredFrom t_gatheredTo = some o) : MetX l y_Source_beginGathering (Cond.code y_Source_beginGathering b_Source_beginGathering 1 none :: lw_g) (rmx 0 0 0 0) (vx_Pre dC dI [] [.ref h_t] sz (ws_Source_beginGathering h_t h_t_bytes w_t_stop w_t_bitStore w_t_bitsHeld t_at t_gatheredFrom t_gatheredTo)) (vx_Q vl_v (.inl o) (fun u t => vx_B dC dI [] (va_A (ws_Source_beginGathering h_t h_t_bytes w_t_stop w_t_bitStore w_t_bitsHeld t_at t_gatheredFrom t_gatheredTo) sz) (w1_Source_beginGathering h_t h_t_bytes w_t_stop w_t_bitStore w_t_bitsHeld t_at u) t) (va_A (ws_Source_beginGathering h_t h_t_bytes w_t_stop w_t_bitStore w_t_bitsHeld t_at t_gatheredFrom t_gatheredTo) sz)) 0 0 (va_A (ws_Source_beginGathering h_t h_t_bytes w_t_stop w_t_bitStore w_t_bitsHeld t_at t_gatheredFrom t_gatheredTo) sz) := by
  refine MetX.ofW (cc := b_Source_beginGathering) (maxL := 1) (ret := none) (by decide +kernel) rfl ?_
  intro p e s m args below meth c s₁ B hml hv
  obtain ⟨rfl, rfl, C, hP, hD, hS⟩ := dc_entry hfl B hml hv
  have hl := lv_entry ([.ref h_t]) (n := 1) (Nat.le_of_ble_eq_true rfl)
  rw [lg_entry_eq]
  generalize (lg_sl ([.ref h_t]) ++ List.replicate (1 - (lg_sl ([.ref h_t])).length) Slot.unset).toArray = ls at hl ⊢
  have hl : lv_has ls 1 [(0, .ref h_t)] := hl
  generalize hAe : va_A (ws_Source_beginGathering h_t h_t_bytes w_t_stop w_t_bitStore w_t_bitsHeld t_at t_gatheredFrom t_gatheredTo) s.heap.size = A at C hD hS ⊢
  generalize (headSpec (Cond.code y_Source_beginGathering b_Source_beginGathering 1 none :: lw_g) (rmx 0 0 0 0)).room = R at C ⊢
  have C : cx p l e R s m _ meth c dC dI A R_Source b_Source_beginGathering 1 none 0 0 [] := C
  obtain ⟨hx, hb, hr, hml, hown, hts, hlk, hK, hA, hV, htr, hex, hF, hL, hfl⟩ := id C
  unfold f_Source_beginGathering at h
  revert hP hS
  generalize hH : s.heap = H
  generalize hLo : ([] : List Loc) = locs
  intro hP hS
  have hS : va_S A s.heap H locs := by rw [hH]; exact hS
  refine lv_aload_n hx hb d_Source_beginGathering_0 rfl (lv_at hl 0 rfl) ?_
  refine lv_aload_n hx hb d_Source_beginGathering_1 rfl (lv_at hl 0 rfl) ?_
  refine va_get (D := (dC, dI)) (ci := 12) (v := .int t_at) (C := R_Source) (T := F_Source) (N := 7) hx hb hts i_Source hown hK hP 0 rfl rfl 1 (by decide) (hts _ (lg_in1 (List.mem_of_getElem? (i := 106) rfl) rfl)) (fun _ h9 => h9) rfl d_Source_beginGathering_2 ?_
  refine va_put (D := (dC, dI)) (ci := 12) (v := .int t_at) (ty := .int) (C := R_Source) (T := F_Source) (N := 7) hx hb hts i_Source t_Source t_Source_ok n_Source hown hK hP hD hS 0 rfl rfl 5 (by decide) (hts _ (lg_in1 (List.mem_of_getElem? (i := 110) rfl) rfl)) (fun _ h9 => h9) rfl (by decide +kernel) rfl rfl (Nat.le_of_ble_eq_true rfl) d_Source_beginGathering_5 (fun H locs hP hD hS => ?_)
  have hP : va_P (dC, dI) classes (ws_Source_beginGathering h_t h_t_bytes w_t_stop w_t_bitStore w_t_bitsHeld t_at t_at t_gatheredTo) H := hP
  have hD : va_D A (ws_Source_beginGathering h_t h_t_bytes w_t_stop w_t_bitStore w_t_bitsHeld t_at t_at t_gatheredTo) := hD
  refine lv_aload_n hx hb d_Source_beginGathering_8 rfl (lv_at hl 0 rfl) ?_
  refine lv_aload_n hx hb d_Source_beginGathering_9 rfl (lv_at hl 0 rfl) ?_
  refine va_get (D := (dC, dI)) (ci := 12) (v := .int t_at) (C := R_Source) (T := F_Source) (N := 7) hx hb hts i_Source hown hK hP 0 rfl rfl 1 (by decide) (hts _ (lg_in1 (List.mem_of_getElem? (i := 106) rfl) rfl)) (fun _ h9 => h9) rfl d_Source_beginGathering_10 ?_
  refine va_put (D := (dC, dI)) (ci := 12) (v := .int t_at) (ty := .int) (C := R_Source) (T := F_Source) (N := 7) hx hb hts i_Source t_Source t_Source_ok n_Source hown hK hP hD hS 0 rfl rfl 6 (by decide) (hts _ (lg_in1 (List.mem_of_getElem? (i := 111) rfl) rfl)) (fun _ h9 => h9) rfl (by decide +kernel) rfl rfl (Nat.le_of_ble_eq_true rfl) d_Source_beginGathering_13 (fun H locs hP hD hS => ?_)
  have hP : va_P (dC, dI) classes (ws_Source_beginGathering h_t h_t_bytes w_t_stop w_t_bitStore w_t_bitsHeld t_at t_at t_at) H := hP
  have hD : va_D A (ws_Source_beginGathering h_t h_t_bytes w_t_stop w_t_bitStore w_t_bitsHeld t_at t_at t_at) := hD
  cases h
  exact dc_vret C (u := (t_at, t_at)) (w1 := w1_Source_beginGathering h_t h_t_bytes w_t_stop w_t_bitStore w_t_bitsHeld t_at) hP hD hS d_Source_beginGathering_16
def ws_Source_openGathered (h_t : Nat) (h_t_bytes : Nat) (h_p1 : Nat) (h_p1_bytes : Nat) (k_p1_bytes : ClassId) (w_t_at : Int32) (w_t_stop : Int32) (w_t_bitStore : Int32) (w_t_bitsHeld : Int32) (w_p1_gatheredFrom : Int32) (w_p1_gatheredTo : Int32) (w_a_p1_bytes : Nat → Int32) (t_gatheredFrom : Int32) (t_gatheredTo : Int32) (p1_at : Int32) (p1_stop : Int32) (p1_bitStore : Int32) (p1_bitsHeld : Int32) : va_W := [(h_t, .inr (12, [.ref h_t_bytes, .int w_t_at, .int w_t_stop, .int w_t_bitStore, .int w_t_bitsHeld, .int t_gatheredFrom, .int t_gatheredTo])), (h_p1, .inr (12, [.ref h_p1_bytes, .int p1_at, .int p1_stop, .int p1_bitStore, .int p1_bitsHeld, .int w_p1_gatheredFrom, .int w_p1_gatheredTo])), (h_p1_bytes, .inl (k_p1_bytes, 65536, .inl w_a_p1_bytes))]
abbrev w1_Source_openGathered (h_t : Nat) (h_t_bytes : Nat) (h_p1 : Nat) (h_p1_bytes : Nat) (k_p1_bytes : ClassId) (w_t_at : Int32) (w_t_stop : Int32) (w_t_bitStore : Int32) (w_t_bitsHeld : Int32) (w_p1_gatheredFrom : Int32) (w_p1_gatheredTo : Int32) (w_a_p1_bytes : Nat → Int32) (t_gatheredFrom : Int32) (t_gatheredTo : Int32) (u : Int32 × Int32 × Int32 × Int32) : va_W := ws_Source_openGathered h_t h_t_bytes h_p1 h_p1_bytes k_p1_bytes w_t_at w_t_stop w_t_bitStore w_t_bitsHeld w_p1_gatheredFrom w_p1_gatheredTo w_a_p1_bytes t_gatheredFrom t_gatheredTo u.1 u.2.1 u.2.2.1 u.2.2.2
abbrev q_Source_openGathered (below : List Frame) (args : Array Value) (s : State) (dC : Nat → ClassId) (dI : Nat → Nat → Nat) (A : Nat → Prop) (h_t : Nat) (h_t_bytes : Nat) (h_p1 : Nat) (h_p1_bytes : Nat) (k_p1_bytes : ClassId) (w_t_at : Int32) (w_t_stop : Int32) (w_t_bitStore : Int32) (w_t_bitsHeld : Int32) (w_p1_gatheredFrom : Int32) (w_p1_gatheredTo : Int32) (w_a_p1_bytes : Nat → Int32) (t_gatheredFrom : Int32) (t_gatheredTo : Int32) (o : Unit × (Int32 × Int32 × Int32 × Int32)) : State → Prop := XQ below (vx_Q vl_v (.inl o) (fun u t => vx_B dC dI [(k_p1_bytes, .byte)] A (w1_Source_openGathered h_t h_t_bytes h_p1 h_p1_bytes k_p1_bytes w_t_at w_t_stop w_t_bitStore w_t_bitsHeld w_p1_gatheredFrom w_p1_gatheredTo w_a_p1_bytes t_gatheredFrom t_gatheredTo u) t) A) args s 0 0 A
theorem d_Source_openGathered_0 : decode b_Source_openGathered 0 = .ok (.aload_n 1, 1) := by decide +kernel
theorem d_Source_openGathered_1 : decode b_Source_openGathered 1 = .ok (.aload_n 0, 1) := by decide +kernel
theorem d_Source_openGathered_2 : decode b_Source_openGathered 2 = .ok (.getfield 22, 3) := by decide +kernel
theorem d_Source_openGathered_5 : decode b_Source_openGathered 5 = .ok (.aload_n 0, 1) := by decide +kernel
theorem d_Source_openGathered_6 : decode b_Source_openGathered 6 = .ok (.getfield 25, 3) := by decide +kernel
theorem d_Source_openGathered_9 : decode b_Source_openGathered 9 = .ok (.invokevirtual 80, 3) := by decide +kernel
theorem d_Source_openGathered_12 : decode b_Source_openGathered 12 = .ok (.return_, 1) := by decide +kernel
def f_Source_openGathered   (t_gatheredFrom : Int32) (t_gatheredTo : Int32) (p1_at : Int32) (p1_stop : Int32) (p1_bitStore : Int32) (p1_bitsHeld : Int32) : Option (Unit × (Int32 × Int32 × Int32 × Int32)) := dc_bind (f_Source_open t_gatheredFrom t_gatheredTo p1_at p1_stop p1_bitStore p1_bitsHeld) (fun r_9 => some ((), (r_9.2.1, r_9.2.2.1, r_9.2.2.2.1, r_9.2.2.2.2)))
set_option maxHeartbeats 400000 in
set_option maxRecDepth 100000 in
theorem c_Source_openGathered {l : Launch} (hfl : l.flags = flags0) (dC : Nat → ClassId) (dI : Nat → Nat → Nat) (h_t : Nat) (h_t_bytes : Nat) (h_p1 : Nat) (h_p1_bytes : Nat) (k_p1_bytes : ClassId) (w_t_at : Int32) (w_t_stop : Int32) (w_t_bitStore : Int32) (w_t_bitsHeld : Int32) (w_p1_gatheredFrom : Int32) (w_p1_gatheredTo : Int32) (w_a_p1_bytes : Nat → Int32) (sz : Nat)  (t_gatheredFrom : Int32) (t_gatheredTo : Int32) (p1_at : Int32) (p1_stop : Int32) (p1_bitStore : Int32) (p1_bitsHeld : Int32) {o : Unit × (Int32 × Int32 × Int32 × Int32)} (h : f_Source_openGathered t_gatheredFrom t_gatheredTo p1_at p1_stop p1_bitStore p1_bitsHeld = some o) : MetX l y_Source_openGathered (Cond.code y_Source_openGathered b_Source_openGathered 2 none :: lw_g) (rmx 2 62 0 0) (vx_Pre dC dI [(k_p1_bytes, .byte)] [.ref h_t, .ref h_p1] sz (ws_Source_openGathered h_t h_t_bytes h_p1 h_p1_bytes k_p1_bytes w_t_at w_t_stop w_t_bitStore w_t_bitsHeld w_p1_gatheredFrom w_p1_gatheredTo w_a_p1_bytes t_gatheredFrom t_gatheredTo p1_at p1_stop p1_bitStore p1_bitsHeld)) (vx_Q vl_v (.inl o) (fun u t => vx_B dC dI [(k_p1_bytes, .byte)] (va_A (ws_Source_openGathered h_t h_t_bytes h_p1 h_p1_bytes k_p1_bytes w_t_at w_t_stop w_t_bitStore w_t_bitsHeld w_p1_gatheredFrom w_p1_gatheredTo w_a_p1_bytes t_gatheredFrom t_gatheredTo p1_at p1_stop p1_bitStore p1_bitsHeld) sz) (w1_Source_openGathered h_t h_t_bytes h_p1 h_p1_bytes k_p1_bytes w_t_at w_t_stop w_t_bitStore w_t_bitsHeld w_p1_gatheredFrom w_p1_gatheredTo w_a_p1_bytes t_gatheredFrom t_gatheredTo u) t) (va_A (ws_Source_openGathered h_t h_t_bytes h_p1 h_p1_bytes k_p1_bytes w_t_at w_t_stop w_t_bitStore w_t_bitsHeld w_p1_gatheredFrom w_p1_gatheredTo w_a_p1_bytes t_gatheredFrom t_gatheredTo p1_at p1_stop p1_bitStore p1_bitsHeld) sz)) 0 0 (va_A (ws_Source_openGathered h_t h_t_bytes h_p1 h_p1_bytes k_p1_bytes w_t_at w_t_stop w_t_bitStore w_t_bitsHeld w_p1_gatheredFrom w_p1_gatheredTo w_a_p1_bytes t_gatheredFrom t_gatheredTo p1_at p1_stop p1_bitStore p1_bitsHeld) sz) := by
  refine MetX.ofW (cc := b_Source_openGathered) (maxL := 2) (ret := none) (by decide +kernel) rfl ?_
  intro p e s m args below meth c s₁ B hml hv
  obtain ⟨rfl, rfl, C, hP, hD, hS⟩ := dc_entry hfl B hml hv
  have hl := lv_entry ([.ref h_t, .ref h_p1]) (n := 2) (Nat.le_of_ble_eq_true rfl)
  rw [lg_entry_eq]
  generalize (lg_sl ([.ref h_t, .ref h_p1]) ++ List.replicate (2 - (lg_sl ([.ref h_t, .ref h_p1])).length) Slot.unset).toArray = ls at hl ⊢
  have hl : lv_has ls 2 [(0, .ref h_t), (1, .ref h_p1)] := hl
  generalize hAe : va_A (ws_Source_openGathered h_t h_t_bytes h_p1 h_p1_bytes k_p1_bytes w_t_at w_t_stop w_t_bitStore w_t_bitsHeld w_p1_gatheredFrom w_p1_gatheredTo w_a_p1_bytes t_gatheredFrom t_gatheredTo p1_at p1_stop p1_bitStore p1_bitsHeld) s.heap.size = A at C hD hS ⊢
  generalize (headSpec (Cond.code y_Source_openGathered b_Source_openGathered 2 none :: lw_g) (rmx 2 62 0 0)).room = R at C ⊢
  have C : cx p l e R s m _ meth c dC dI A R_Source b_Source_openGathered 2 none 2 62 [(k_p1_bytes, .byte)] := C
  obtain ⟨hx, hb, hr, hml, hown, hts, hlk, hK, hA, hV, htr, hex, hF, hL, hfl⟩ := id C
  unfold f_Source_openGathered at h
  revert hP hS
  generalize hH : s.heap = H
  generalize hLo : ([] : List Loc) = locs
  intro hP hS
  have hS : va_S A s.heap H locs := by rw [hH]; exact hS
  refine lv_aload_n hx hb d_Source_openGathered_0 rfl (lv_at hl 1 rfl) ?_
  refine lv_aload_n hx hb d_Source_openGathered_1 rfl (lv_at hl 0 rfl) ?_
  refine va_get (D := (dC, dI)) (ci := 12) (v := .int t_gatheredFrom) (C := R_Source) (T := F_Source) (N := 7) hx hb hts i_Source hown hK hP 0 rfl rfl 5 (by decide) (hts _ (lg_in1 (List.mem_of_getElem? (i := 110) rfl) rfl)) (fun _ h9 => h9) rfl d_Source_openGathered_2 ?_
  refine lv_aload_n hx hb d_Source_openGathered_5 rfl (lv_at hl 0 rfl) ?_
  refine va_get (D := (dC, dI)) (ci := 12) (v := .int t_gatheredTo) (C := R_Source) (T := F_Source) (N := 7) hx hb hts i_Source hown hK hP 0 rfl rfl 6 (by decide) (hts _ (lg_in1 (List.mem_of_getElem? (i := 111) rfl) rfl)) (fun _ h9 => h9) rfl d_Source_openGathered_6 ?_
  obtain ⟨r_9, hg_9, h⟩ := dc_bindE h
  refine dc_callV (y := y_Source_open) (bytes := b_Source_open) (maxL := 3) (ret' := none) (fr' := 1) (lo' := 40) (n := 2) (val := vl_v) (o := r_9) (tysc := [(k_p1_bytes, .byte)]) (As := [.int t_gatheredFrom, .int t_gatheredTo]) (rest := []) (wc := (ws_Source_open h_p1 h_p1_bytes k_p1_bytes w_p1_gatheredFrom w_p1_gatheredTo w_a_p1_bytes p1_at p1_stop p1_bitStore p1_bitsHeld)) (wr := [(h_t, .inr (12, [.ref h_t_bytes, .int w_t_at, .int w_t_stop, .int w_t_bitStore, .int w_t_bitsHeld, .int t_gatheredFrom, .int t_gatheredTo]))]) (w1 := w1_Source_open h_p1 h_p1_bytes k_p1_bytes w_p1_gatheredFrom w_p1_gatheredTo w_a_p1_bytes) C cw_Source_open (lg_in1 (List.mem_of_getElem? (i := 4) rfl) rfl) (lg_in4 (List.mem_of_getElem? (i := 7) rfl) rfl) (lg_in3 (List.mem_of_getElem? (i := 96) rfl) rfl) (lg_in3 (List.mem_of_getElem? (i := 97) rfl) rfl) (ci := 12) (cq := (R_Source, F_Source, 7)) (q0 := 1) rfl rfl rfl (c_Source_open hfl dC dI h_p1 h_p1_bytes k_p1_bytes w_p1_gatheredFrom w_p1_gatheredTo w_a_p1_bytes H.size t_gatheredFrom t_gatheredTo p1_at p1_stop p1_bitStore p1_bitsHeld hg_9) (by decide +kernel) ⟨Nat.le_of_ble_eq_true rfl, Nat.le_of_ble_eq_true rfl⟩ rfl rfl (Nat.le_of_ble_eq_true rfl) d_Source_openGathered_9 hP hD hS hl.1 [1, 2] [0] [0] rfl rfl rfl rfl (by decide) rfl (fun H locs hP hD hS => ?_)
  have hP : va_P (dC, dI) classes (ws_Source_openGathered h_t h_t_bytes h_p1 h_p1_bytes k_p1_bytes w_t_at w_t_stop w_t_bitStore w_t_bitsHeld w_p1_gatheredFrom w_p1_gatheredTo w_a_p1_bytes t_gatheredFrom t_gatheredTo r_9.2.1 r_9.2.2.1 r_9.2.2.2.1 r_9.2.2.2.2) H := hP.sub [0, 1, 2] rfl
  have hD : va_D A (ws_Source_openGathered h_t h_t_bytes h_p1 h_p1_bytes k_p1_bytes w_t_at w_t_stop w_t_bitStore w_t_bitsHeld w_p1_gatheredFrom w_p1_gatheredTo w_a_p1_bytes t_gatheredFrom t_gatheredTo r_9.2.1 r_9.2.2.1 r_9.2.2.2.1 r_9.2.2.2.2) := hD.sub [0, 1, 2] (by decide) rfl
  show W p l e R s m _ below meth c H locs 0 0 _ (F0 m 12 ls [])
  cases h
  exact dc_vret C (u := (r_9.2.1, r_9.2.2.1, r_9.2.2.2.1, r_9.2.2.2.2)) (w1 := w1_Source_openGathered h_t h_t_bytes h_p1 h_p1_bytes k_p1_bytes w_t_at w_t_stop w_t_bitStore w_t_bitsHeld w_p1_gatheredFrom w_p1_gatheredTo w_a_p1_bytes t_gatheredFrom t_gatheredTo) hP hD hS d_Source_openGathered_12
