def ws_Picture_isHeld (h_t : Nat) (h_t_points : Nat) (w_t_height : Int32) (t_width : Int32) : va_W := [(h_t, .inr (8, [.ref h_t_points, .int t_width, .int w_t_height]))]
abbrev w1_Picture_isHeld (h_t : Nat) (h_t_points : Nat) (w_t_height : Int32) (t_width : Int32) (u : Unit) : va_W := ws_Picture_isHeld h_t h_t_points w_t_height t_width
abbrev q_Picture_isHeld (below : List Frame) (args : Array Value) (s : State) (dC : Nat → ClassId) (dI : Nat → Nat → Nat) (A : Nat → Prop) (h_t : Nat) (h_t_points : Nat) (w_t_height : Int32) (t_width : Int32) (o : Int32 × Unit) : State → Prop := XQ below (vx_Q vl_i (.inl o) (fun u t => vx_B dC dI [] A (w1_Picture_isHeld h_t h_t_points w_t_height t_width u) t) A) args s 0 0 A
theorem d_Picture_isHeld_0 : decode b_Picture_isHeld 0 = .ok (.aload_n 0, 1) := by decide +kernel
theorem d_Picture_isHeld_1 : decode b_Picture_isHeld 1 = .ok (.getfield 15, 3) := by decide +kernel
theorem d_Picture_isHeld_4 : decode b_Picture_isHeld 4 = .ok (.ifCond .le 7, 3) := by decide +kernel
theorem d_Picture_isHeld_7 : decode b_Picture_isHeld 7 = .ok (.iconst 1, 1) := by decide +kernel
theorem d_Picture_isHeld_8 : decode b_Picture_isHeld 8 = .ok (.goto 4, 3) := by decide +kernel
theorem d_Picture_isHeld_11 : decode b_Picture_isHeld 11 = .ok (.iconst 0, 1) := by decide +kernel
theorem d_Picture_isHeld_12 : decode b_Picture_isHeld 12 = .ok (.ireturn, 1) := by decide +kernel
def at_Picture_isHeld_12 (p : Program) (l : Launch) (e : Env) (R : Room) (s : State) (m : MethodId) (args : Array Value) (below : List Frame) (meth : Method) (c : Code) (dC : Nat → ClassId) (dI : Nat → Nat → Nat) (A : Nat → Prop) (Q : State → Prop) (h_t : Nat) (h_t_points : Nat) (w_t_height : Int32) (t_width : Int32) (y0 : Int32) : Prop := ∀ (H : Heap) (locs : List Loc) (ls : Array Slot), va_P (dC, dI) classes (ws_Picture_isHeld h_t h_t_points w_t_height t_width) H → va_D A (ws_Picture_isHeld h_t h_t_points w_t_height t_width) → va_S A s.heap H locs → lv_has ls 1 [(0, .ref h_t)] → W p l e R s m args below meth c H locs 0 0 Q (F0 m 12 ls [.int y0])
def f_Picture_isHeld_12  (t_width : Int32) (y0 : Int32) : Option (Int32 × Unit) := (if y0 = 0 ∨ y0 = 1 then some (y0, ()) else none)
def f_Picture_isHeld   (t_width : Int32) : Option (Int32 × Unit) := (if t_width ≤ 0 then (f_Picture_isHeld_12 t_width 0) else (f_Picture_isHeld_12 t_width 1))
set_option maxHeartbeats 4000000 in
set_option maxRecDepth 100000 in
theorem w_Picture_isHeld_12 {p : Program} {l : Launch} {e : Env} {R : Room} {s : State} {m : MethodId} {args : Array Value} {below : List Frame} {meth : Method} {c : Code} {dC : Nat → ClassId} {dI : Nat → Nat → Nat} {A : Nat → Prop} {h_t : Nat} {h_t_points : Nat} {w_t_height : Int32} (C : cx p l e R s m args meth c dC dI A R_Picture b_Picture_isHeld 1 (some .boolean) 0 0 []) {o : Int32 × Unit} {t_width : Int32} {y0 : Int32}  (h : f_Picture_isHeld_12  t_width y0 = some o) : at_Picture_isHeld_12 p l e R s m args below meth c dC dI A (q_Picture_isHeld below args s dC dI A h_t h_t_points w_t_height t_width o) h_t h_t_points w_t_height t_width y0 := by
  refine fun H locs ls hP hD hS hl => ?_
  obtain ⟨hx, hb, hr, hml, hown, hts, hlk, hK, hA, hV, htr, hex, hF, hL, hfl⟩ := id C
  unfold f_Picture_isHeld_12 at h
  obtain ⟨hb_12, h⟩ := dc_if h
  cases h
  exact dc_zret C (v := y0) (u := ()) (w1 := w1_Picture_isHeld h_t h_t_points w_t_height t_width) hb_12 hP hD hS d_Picture_isHeld_12
set_option maxHeartbeats 4000000 in
set_option maxRecDepth 100000 in
theorem c_Picture_isHeld {l : Launch} (hfl : l.flags = flags0) (dC : Nat → ClassId) (dI : Nat → Nat → Nat) (h_t : Nat) (h_t_points : Nat) (w_t_height : Int32) (sz : Nat)  (t_width : Int32) {o : Int32 × Unit} (h : f_Picture_isHeld t_width = some o) : MetX l y_Picture_isHeld (Cond.code y_Picture_isHeld b_Picture_isHeld 1 (some .boolean) :: lw_g) (rmx 0 0 0 0) (vx_Pre dC dI [] [.ref h_t] sz (ws_Picture_isHeld h_t h_t_points w_t_height t_width)) (vx_Q vl_i (.inl o) (fun u t => vx_B dC dI [] (va_A (ws_Picture_isHeld h_t h_t_points w_t_height t_width) sz) (w1_Picture_isHeld h_t h_t_points w_t_height t_width u) t) (va_A (ws_Picture_isHeld h_t h_t_points w_t_height t_width) sz)) 0 0 (va_A (ws_Picture_isHeld h_t h_t_points w_t_height t_width) sz) := by
  refine MetX.ofW (cc := b_Picture_isHeld) (maxL := 1) (ret := (some .boolean)) (by decide +kernel) rfl ?_
  intro p e s m args below meth c s₁ B hml hv
  obtain ⟨rfl, rfl, C, hP, hD, hS⟩ := dc_entry hfl B hml hv
  have hl := lv_entry ([.ref h_t]) (n := 1) (Nat.le_of_ble_eq_true rfl)
  rw [lg_entry_eq]
  generalize (lg_sl ([.ref h_t]) ++ List.replicate (1 - (lg_sl ([.ref h_t])).length) Slot.unset).toArray = ls at hl ⊢
  have hl : lv_has ls 1 [(0, .ref h_t)] := hl
  generalize hAe : va_A (ws_Picture_isHeld h_t h_t_points w_t_height t_width) s.heap.size = A at C hD hS ⊢
  generalize (headSpec (Cond.code y_Picture_isHeld b_Picture_isHeld 1 (some .boolean) :: lw_g) (rmx 0 0 0 0)).room = R at C ⊢
  have C : cx p l e R s m _ meth c dC dI A R_Picture b_Picture_isHeld 1 (some .boolean) 0 0 [] := C
  obtain ⟨hx, hb, hr, hml, hown, hts, hlk, hK, hA, hV, htr, hex, hF, hL, hfl⟩ := id C
  unfold f_Picture_isHeld at h
  revert hP hS
  generalize hH : s.heap = H
  generalize hLo : ([] : List Loc) = locs
  intro hP hS
  have hS : va_S A s.heap H locs := by rw [hH]; exact hS
  refine lv_aload_n hx hb d_Picture_isHeld_0 rfl (lv_at hl 0 rfl) ?_
  refine va_get (D := (dC, dI)) (ci := 8) (v := .int t_width) (C := R_Picture) (T := F_Picture) (N := 3) hx hb hts i_Picture hown hK hP 0 rfl rfl 1 (by decide) (hts _ (lg_in1 (List.mem_of_getElem? (i := 77) rfl) rfl)) (fun _ h9 => h9) rfl d_Picture_isHeld_1 ?_
  refine lv_if_le (tgt := 11) hx hb d_Picture_isHeld_4 (by decide) (fun c_4 => ?_) (fun c_4 => ?_)
  · have h := dc_t c_4 h
    refine lv_iconst (v := 0) hx hb d_Picture_isHeld_11 (by decide) ?_
    exact w_Picture_isHeld_12 C h H locs ls hP hD hS (lv_sub hl [0] rfl)
  have h := dc_f c_4 h
  refine lv_iconst (v := 1) hx hb d_Picture_isHeld_7 (by decide) ?_
  refine lv_goto (tgt := 12) hx hb d_Picture_isHeld_8 (by decide) ?_
  exact w_Picture_isHeld_12 C h H locs ls hP hD hS (lv_sub hl [0] rfl)
def ws_Picture_total (h_t : Nat) (h_t_points : Nat) (t_width : Int32) (t_height : Int32) : va_W := [(h_t, .inr (8, [.ref h_t_points, .int t_width, .int t_height]))]
abbrev w1_Picture_total (h_t : Nat) (h_t_points : Nat) (t_width : Int32) (t_height : Int32) (u : Unit) : va_W := ws_Picture_total h_t h_t_points t_width t_height
abbrev q_Picture_total (below : List Frame) (args : Array Value) (s : State) (dC : Nat → ClassId) (dI : Nat → Nat → Nat) (A : Nat → Prop) (h_t : Nat) (h_t_points : Nat) (t_width : Int32) (t_height : Int32) (o : Int32 × Unit) : State → Prop := XQ below (vx_Q vl_i (.inl o) (fun u t => vx_B dC dI [] A (w1_Picture_total h_t h_t_points t_width t_height u) t) A) args s 0 0 A
theorem d_Picture_total_0 : decode b_Picture_total 0 = .ok (.aload_n 0, 1) := by decide +kernel
theorem d_Picture_total_1 : decode b_Picture_total 1 = .ok (.getfield 15, 3) := by decide +kernel
theorem d_Picture_total_4 : decode b_Picture_total 4 = .ok (.aload_n 0, 1) := by decide +kernel
theorem d_Picture_total_5 : decode b_Picture_total 5 = .ok (.getfield 19, 3) := by decide +kernel
theorem d_Picture_total_8 : decode b_Picture_total 8 = .ok (.imul, 1) := by decide +kernel
theorem d_Picture_total_9 : decode b_Picture_total 9 = .ok (.ireturn, 1) := by decide +kernel
def f_Picture_total   (t_width : Int32) (t_height : Int32) : Option (Int32 × Unit) := some ((t_width * t_height), ())
set_option maxHeartbeats 4000000 in
set_option maxRecDepth 100000 in
theorem c_Picture_total {l : Launch} (hfl : l.flags = flags0) (dC : Nat → ClassId) (dI : Nat → Nat → Nat) (h_t : Nat) (h_t_points : Nat) (sz : Nat)  (t_width : Int32) (t_height : Int32) {o : Int32 × Unit} (h : f_Picture_total t_width t_height = some o) : MetX l y_Picture_total (Cond.code y_Picture_total b_Picture_total 1 (some .int) :: lw_g) (rmx 0 0 0 0) (vx_Pre dC dI [] [.ref h_t] sz (ws_Picture_total h_t h_t_points t_width t_height)) (vx_Q vl_i (.inl o) (fun u t => vx_B dC dI [] (va_A (ws_Picture_total h_t h_t_points t_width t_height) sz) (w1_Picture_total h_t h_t_points t_width t_height u) t) (va_A (ws_Picture_total h_t h_t_points t_width t_height) sz)) 0 0 (va_A (ws_Picture_total h_t h_t_points t_width t_height) sz) := by
  refine MetX.ofW (cc := b_Picture_total) (maxL := 1) (ret := (some .int)) (by decide +kernel) rfl ?_
  intro p e s m args below meth c s₁ B hml hv
  obtain ⟨rfl, rfl, C, hP, hD, hS⟩ := dc_entry hfl B hml hv
  have hl := lv_entry ([.ref h_t]) (n := 1) (Nat.le_of_ble_eq_true rfl)
  rw [lg_entry_eq]
  generalize (lg_sl ([.ref h_t]) ++ List.replicate (1 - (lg_sl ([.ref h_t])).length) Slot.unset).toArray = ls at hl ⊢
  have hl : lv_has ls 1 [(0, .ref h_t)] := hl
  generalize hAe : va_A (ws_Picture_total h_t h_t_points t_width t_height) s.heap.size = A at C hD hS ⊢
  generalize (headSpec (Cond.code y_Picture_total b_Picture_total 1 (some .int) :: lw_g) (rmx 0 0 0 0)).room = R at C ⊢
  have C : cx p l e R s m _ meth c dC dI A R_Picture b_Picture_total 1 (some .int) 0 0 [] := C
  obtain ⟨hx, hb, hr, hml, hown, hts, hlk, hK, hA, hV, htr, hex, hF, hL, hfl⟩ := id C
  unfold f_Picture_total at h
  revert hP hS
  generalize hH : s.heap = H
  generalize hLo : ([] : List Loc) = locs
  intro hP hS
  have hS : va_S A s.heap H locs := by rw [hH]; exact hS
  refine lv_aload_n hx hb d_Picture_total_0 rfl (lv_at hl 0 rfl) ?_
  refine va_get (D := (dC, dI)) (ci := 8) (v := .int t_width) (C := R_Picture) (T := F_Picture) (N := 3) hx hb hts i_Picture hown hK hP 0 rfl rfl 1 (by decide) (hts _ (lg_in1 (List.mem_of_getElem? (i := 77) rfl) rfl)) (fun _ h9 => h9) rfl d_Picture_total_1 ?_
  refine lv_aload_n hx hb d_Picture_total_4 rfl (lv_at hl 0 rfl) ?_
  refine va_get (D := (dC, dI)) (ci := 8) (v := .int t_height) (C := R_Picture) (T := F_Picture) (N := 3) hx hb hts i_Picture hown hK hP 0 rfl rfl 2 (by decide) (hts _ (lg_in1 (List.mem_of_getElem? (i := 84) rfl) rfl)) (fun _ h9 => h9) rfl d_Picture_total_5 ?_
  refine lv_imul hx hb d_Picture_total_8 ?_
  cases h
  exact dc_iret C (v := (t_width * t_height)) (u := ()) (w1 := w1_Picture_total h_t h_t_points t_width t_height) hP hD hS d_Picture_total_9
def ws_Picture_contains (h_t : Nat) (h_t_points : Nat) (t_width : Int32) (t_height : Int32) : va_W := [(h_t, .inr (8, [.ref h_t_points, .int t_width, .int t_height]))]
abbrev w1_Picture_contains (h_t : Nat) (h_t_points : Nat) (t_width : Int32) (t_height : Int32) (u : Unit) : va_W := ws_Picture_contains h_t h_t_points t_width t_height
abbrev q_Picture_contains (below : List Frame) (args : Array Value) (s : State) (dC : Nat → ClassId) (dI : Nat → Nat → Nat) (A : Nat → Prop) (h_t : Nat) (h_t_points : Nat) (t_width : Int32) (t_height : Int32) (o : Int32 × Unit) : State → Prop := XQ below (vx_Q vl_i (.inl o) (fun u t => vx_B dC dI [] A (w1_Picture_contains h_t h_t_points t_width t_height u) t) A) args s 0 0 A
theorem d_Picture_contains_0 : decode b_Picture_contains 0 = .ok (.iload_n 1, 1) := by decide +kernel
theorem d_Picture_contains_1 : decode b_Picture_contains 1 = .ok (.ifCond .lt 27, 3) := by decide +kernel
theorem d_Picture_contains_4 : decode b_Picture_contains 4 = .ok (.iload_n 1, 1) := by decide +kernel
theorem d_Picture_contains_5 : decode b_Picture_contains 5 = .ok (.aload_n 0, 1) := by decide +kernel
theorem d_Picture_contains_6 : decode b_Picture_contains 6 = .ok (.getfield 15, 3) := by decide +kernel
theorem d_Picture_contains_9 : decode b_Picture_contains 9 = .ok (.if_icmp .ge 19, 3) := by decide +kernel
theorem d_Picture_contains_12 : decode b_Picture_contains 12 = .ok (.iload_n 2, 1) := by decide +kernel
theorem d_Picture_contains_13 : decode b_Picture_contains 13 = .ok (.ifCond .lt 15, 3) := by decide +kernel
theorem d_Picture_contains_16 : decode b_Picture_contains 16 = .ok (.iload_n 2, 1) := by decide +kernel
theorem d_Picture_contains_17 : decode b_Picture_contains 17 = .ok (.aload_n 0, 1) := by decide +kernel
theorem d_Picture_contains_18 : decode b_Picture_contains 18 = .ok (.getfield 19, 3) := by decide +kernel
theorem d_Picture_contains_21 : decode b_Picture_contains 21 = .ok (.if_icmp .ge 7, 3) := by decide +kernel
theorem d_Picture_contains_24 : decode b_Picture_contains 24 = .ok (.iconst 1, 1) := by decide +kernel
theorem d_Picture_contains_25 : decode b_Picture_contains 25 = .ok (.goto 4, 3) := by decide +kernel
theorem d_Picture_contains_28 : decode b_Picture_contains 28 = .ok (.iconst 0, 1) := by decide +kernel
theorem d_Picture_contains_29 : decode b_Picture_contains 29 = .ok (.ireturn, 1) := by decide +kernel
def at_Picture_contains_28 (p : Program) (l : Launch) (e : Env) (R : Room) (s : State) (m : MethodId) (args : Array Value) (below : List Frame) (meth : Method) (c : Code) (dC : Nat → ClassId) (dI : Nat → Nat → Nat) (A : Nat → Prop) (Q : State → Prop) (h_t : Nat) (h_t_points : Nat) (t_width : Int32) (t_height : Int32)  : Prop := ∀ (H : Heap) (locs : List Loc) (ls : Array Slot), va_P (dC, dI) classes (ws_Picture_contains h_t h_t_points t_width t_height) H → va_D A (ws_Picture_contains h_t h_t_points t_width t_height) → va_S A s.heap H locs → lv_has ls 3 [(0, .ref h_t)] → W p l e R s m args below meth c H locs 0 0 Q (F0 m 28 ls [])
def at_Picture_contains_29 (p : Program) (l : Launch) (e : Env) (R : Room) (s : State) (m : MethodId) (args : Array Value) (below : List Frame) (meth : Method) (c : Code) (dC : Nat → ClassId) (dI : Nat → Nat → Nat) (A : Nat → Prop) (Q : State → Prop) (h_t : Nat) (h_t_points : Nat) (t_width : Int32) (t_height : Int32) (y0 : Int32) : Prop := ∀ (H : Heap) (locs : List Loc) (ls : Array Slot), va_P (dC, dI) classes (ws_Picture_contains h_t h_t_points t_width t_height) H → va_D A (ws_Picture_contains h_t h_t_points t_width t_height) → va_S A s.heap H locs → lv_has ls 3 [(0, .ref h_t)] → W p l e R s m args below meth c H locs 0 0 Q (F0 m 29 ls [.int y0])
def f_Picture_contains_29  (t_width : Int32) (t_height : Int32) (y0 : Int32) : Option (Int32 × Unit) := (if y0 = 0 ∨ y0 = 1 then some (y0, ()) else none)
def f_Picture_contains_28  (t_width : Int32) (t_height : Int32)  : Option (Int32 × Unit) := f_Picture_contains_29 t_width t_height 0
def f_Picture_contains  (x1 : Int32) (x2 : Int32) (t_width : Int32) (t_height : Int32) : Option (Int32 × Unit) := (if x1 < 0 then (f_Picture_contains_28 t_width t_height) else ((if t_width ≤ x1 then (f_Picture_contains_28 t_width t_height) else ((if x2 < 0 then (f_Picture_contains_28 t_width t_height) else ((if t_height ≤ x2 then (f_Picture_contains_28 t_width t_height) else (f_Picture_contains_29 t_width t_height 1))))))))
set_option maxHeartbeats 4000000 in
set_option maxRecDepth 100000 in
theorem w_Picture_contains_29 {p : Program} {l : Launch} {e : Env} {R : Room} {s : State} {m : MethodId} {args : Array Value} {below : List Frame} {meth : Method} {c : Code} {dC : Nat → ClassId} {dI : Nat → Nat → Nat} {A : Nat → Prop} {h_t : Nat} {h_t_points : Nat} (C : cx p l e R s m args meth c dC dI A R_Picture b_Picture_contains 3 (some .boolean) 0 0 []) {o : Int32 × Unit} {t_width : Int32} {t_height : Int32} {y0 : Int32}  (h : f_Picture_contains_29  t_width t_height y0 = some o) : at_Picture_contains_29 p l e R s m args below meth c dC dI A (q_Picture_contains below args s dC dI A h_t h_t_points t_width t_height o) h_t h_t_points t_width t_height y0 := by
  refine fun H locs ls hP hD hS hl => ?_
  obtain ⟨hx, hb, hr, hml, hown, hts, hlk, hK, hA, hV, htr, hex, hF, hL, hfl⟩ := id C
  unfold f_Picture_contains_29 at h
  obtain ⟨hb_29, h⟩ := dc_if h
  cases h
  exact dc_zret C (v := y0) (u := ()) (w1 := w1_Picture_contains h_t h_t_points t_width t_height) hb_29 hP hD hS d_Picture_contains_29
set_option maxHeartbeats 4000000 in
set_option maxRecDepth 100000 in
theorem w_Picture_contains_28 {p : Program} {l : Launch} {e : Env} {R : Room} {s : State} {m : MethodId} {args : Array Value} {below : List Frame} {meth : Method} {c : Code} {dC : Nat → ClassId} {dI : Nat → Nat → Nat} {A : Nat → Prop} {h_t : Nat} {h_t_points : Nat} (C : cx p l e R s m args meth c dC dI A R_Picture b_Picture_contains 3 (some .boolean) 0 0 []) {o : Int32 × Unit} {t_width : Int32} {t_height : Int32}   (h : f_Picture_contains_28  t_width t_height = some o) : at_Picture_contains_28 p l e R s m args below meth c dC dI A (q_Picture_contains below args s dC dI A h_t h_t_points t_width t_height o) h_t h_t_points t_width t_height := by
  refine fun H locs ls hP hD hS hl => ?_
  obtain ⟨hx, hb, hr, hml, hown, hts, hlk, hK, hA, hV, htr, hex, hF, hL, hfl⟩ := id C
  unfold f_Picture_contains_28 at h
  refine lv_iconst (v := 0) hx hb d_Picture_contains_28 (by decide) ?_
  exact w_Picture_contains_29 C h H locs ls hP hD hS (lv_sub hl [0] rfl)
set_option maxHeartbeats 4000000 in
set_option maxRecDepth 100000 in
theorem c_Picture_contains {l : Launch} (hfl : l.flags = flags0) (dC : Nat → ClassId) (dI : Nat → Nat → Nat) (h_t : Nat) (h_t_points : Nat) (sz : Nat) (x1 : Int32) (x2 : Int32) (t_width : Int32) (t_height : Int32) {o : Int32 × Unit} (h : f_Picture_contains x1 x2 t_width t_height = some o) : MetX l y_Picture_contains (Cond.code y_Picture_contains b_Picture_contains 3 (some .boolean) :: lw_g) (rmx 0 0 0 0) (vx_Pre dC dI [] [.ref h_t, .int x1, .int x2] sz (ws_Picture_contains h_t h_t_points t_width t_height)) (vx_Q vl_i (.inl o) (fun u t => vx_B dC dI [] (va_A (ws_Picture_contains h_t h_t_points t_width t_height) sz) (w1_Picture_contains h_t h_t_points t_width t_height u) t) (va_A (ws_Picture_contains h_t h_t_points t_width t_height) sz)) 0 0 (va_A (ws_Picture_contains h_t h_t_points t_width t_height) sz) := by
  refine MetX.ofW (cc := b_Picture_contains) (maxL := 3) (ret := (some .boolean)) (by decide +kernel) rfl ?_
  intro p e s m args below meth c s₁ B hml hv
  obtain ⟨rfl, rfl, C, hP, hD, hS⟩ := dc_entry hfl B hml hv
  have hl := lv_entry ([.ref h_t, .int x1, .int x2]) (n := 3) (Nat.le_of_ble_eq_true rfl)
  rw [lg_entry_eq]
  generalize (lg_sl ([.ref h_t, .int x1, .int x2]) ++ List.replicate (3 - (lg_sl ([.ref h_t, .int x1, .int x2])).length) Slot.unset).toArray = ls at hl ⊢
  have hl : lv_has ls 3 [(0, .ref h_t), (1, .int x1), (2, .int x2)] := hl
  generalize hAe : va_A (ws_Picture_contains h_t h_t_points t_width t_height) s.heap.size = A at C hD hS ⊢
  generalize (headSpec (Cond.code y_Picture_contains b_Picture_contains 3 (some .boolean) :: lw_g) (rmx 0 0 0 0)).room = R at C ⊢
  have C : cx p l e R s m _ meth c dC dI A R_Picture b_Picture_contains 3 (some .boolean) 0 0 [] := C
  obtain ⟨hx, hb, hr, hml, hown, hts, hlk, hK, hA, hV, htr, hex, hF, hL, hfl⟩ := id C
  unfold f_Picture_contains at h
  revert hP hS
  generalize hH : s.heap = H
  generalize hLo : ([] : List Loc) = locs
  intro hP hS
  have hS : va_S A s.heap H locs := by rw [hH]; exact hS
  refine lv_iload_n hx hb d_Picture_contains_0 rfl (lv_at hl 1 rfl) ?_
  refine lv_if_lt (tgt := 28) hx hb d_Picture_contains_1 (by decide) (fun c_1 => ?_) (fun c_1 => ?_)
  · have h := dc_t c_1 h
    exact w_Picture_contains_28 C h H locs ls hP hD hS (lv_sub hl [0] rfl)
  have h := dc_f c_1 h
  refine lv_iload_n hx hb d_Picture_contains_4 rfl (lv_at hl 1 rfl) ?_
  refine lv_aload_n hx hb d_Picture_contains_5 rfl (lv_at hl 0 rfl) ?_
  refine va_get (D := (dC, dI)) (ci := 8) (v := .int t_width) (C := R_Picture) (T := F_Picture) (N := 3) hx hb hts i_Picture hown hK hP 0 rfl rfl 1 (by decide) (hts _ (lg_in1 (List.mem_of_getElem? (i := 77) rfl) rfl)) (fun _ h9 => h9) rfl d_Picture_contains_6 ?_
  refine lv_icmp_ge (tgt := 28) hx hb d_Picture_contains_9 (by decide) (fun c_9 => ?_) (fun c_9 => ?_)
  · have h := dc_t c_9 h
    exact w_Picture_contains_28 C h H locs ls hP hD hS (lv_sub hl [0] rfl)
  have h := dc_f c_9 h
  refine lv_iload_n hx hb d_Picture_contains_12 rfl (lv_at hl 2 rfl) ?_
  refine lv_if_lt (tgt := 28) hx hb d_Picture_contains_13 (by decide) (fun c_13 => ?_) (fun c_13 => ?_)
  · have h := dc_t c_13 h
    exact w_Picture_contains_28 C h H locs ls hP hD hS (lv_sub hl [0] rfl)
  have h := dc_f c_13 h
  refine lv_iload_n hx hb d_Picture_contains_16 rfl (lv_at hl 2 rfl) ?_
  refine lv_aload_n hx hb d_Picture_contains_17 rfl (lv_at hl 0 rfl) ?_
  refine va_get (D := (dC, dI)) (ci := 8) (v := .int t_height) (C := R_Picture) (T := F_Picture) (N := 3) hx hb hts i_Picture hown hK hP 0 rfl rfl 2 (by decide) (hts _ (lg_in1 (List.mem_of_getElem? (i := 84) rfl) rfl)) (fun _ h9 => h9) rfl d_Picture_contains_18 ?_
  refine lv_icmp_ge (tgt := 28) hx hb d_Picture_contains_21 (by decide) (fun c_21 => ?_) (fun c_21 => ?_)
  · have h := dc_t c_21 h
    exact w_Picture_contains_28 C h H locs ls hP hD hS (lv_sub hl [0] rfl)
  have h := dc_f c_21 h
  refine lv_iconst (v := 1) hx hb d_Picture_contains_24 (by decide) ?_
  refine lv_goto (tgt := 29) hx hb d_Picture_contains_25 (by decide) ?_
  exact w_Picture_contains_29 C h H locs ls hP hD hS (lv_sub hl [0] rfl)
def ws_Source_place (h_t : Nat) (h_t_bytes : Nat) (w_t_stop : Int32) (w_t_bitStore : Int32) (w_t_bitsHeld : Int32) (w_t_gatheredFrom : Int32) (w_t_gatheredTo : Int32) (t_at : Int32) : va_W := [(h_t, .inr (12, [.ref h_t_bytes, .int t_at, .int w_t_stop, .int w_t_bitStore, .int w_t_bitsHeld, .int w_t_gatheredFrom, .int w_t_gatheredTo]))]
abbrev w1_Source_place (h_t : Nat) (h_t_bytes : Nat) (w_t_stop : Int32) (w_t_bitStore : Int32) (w_t_bitsHeld : Int32) (w_t_gatheredFrom : Int32) (w_t_gatheredTo : Int32) (t_at : Int32) (u : Unit) : va_W := ws_Source_place h_t h_t_bytes w_t_stop w_t_bitStore w_t_bitsHeld w_t_gatheredFrom w_t_gatheredTo t_at
abbrev q_Source_place (below : List Frame) (args : Array Value) (s : State) (dC : Nat → ClassId) (dI : Nat → Nat → Nat) (A : Nat → Prop) (h_t : Nat) (h_t_bytes : Nat) (w_t_stop : Int32) (w_t_bitStore : Int32) (w_t_bitsHeld : Int32) (w_t_gatheredFrom : Int32) (w_t_gatheredTo : Int32) (t_at : Int32) (o : Int32 × Unit) : State → Prop := XQ below (vx_Q vl_i (.inl o) (fun u t => vx_B dC dI [] A (w1_Source_place h_t h_t_bytes w_t_stop w_t_bitStore w_t_bitsHeld w_t_gatheredFrom w_t_gatheredTo t_at u) t) A) args s 0 0 A
theorem d_Source_place_0 : decode b_Source_place 0 = .ok (.aload_n 0, 1) := by decide +kernel
theorem d_Source_place_1 : decode b_Source_place 1 = .ok (.getfield 7, 3) := by decide +kernel
theorem d_Source_place_4 : decode b_Source_place 4 = .ok (.ireturn, 1) := by decide +kernel
def f_Source_place   (t_at : Int32) : Option (Int32 × Unit) := some (t_at, ())
set_option maxHeartbeats 4000000 in
set_option maxRecDepth 100000 in
theorem c_Source_place {l : Launch} (hfl : l.flags = flags0) (dC : Nat → ClassId) (dI : Nat → Nat → Nat) (h_t : Nat) (h_t_bytes : Nat) (w_t_stop : Int32) (w_t_bitStore : Int32) (w_t_bitsHeld : Int32) (w_t_gatheredFrom : Int32) (w_t_gatheredTo : Int32) (sz : Nat)  (t_at : Int32) {o : Int32 × Unit} (h : f_Source_place t_at = some o) : MetX l y_Source_place (Cond.code y_Source_place b_Source_place 1 (some .int) :: lw_g) (rmx 0 0 0 0) (vx_Pre dC dI [] [.ref h_t] sz (ws_Source_place h_t h_t_bytes w_t_stop w_t_bitStore w_t_bitsHeld w_t_gatheredFrom w_t_gatheredTo t_at)) (vx_Q vl_i (.inl o) (fun u t => vx_B dC dI [] (va_A (ws_Source_place h_t h_t_bytes w_t_stop w_t_bitStore w_t_bitsHeld w_t_gatheredFrom w_t_gatheredTo t_at) sz) (w1_Source_place h_t h_t_bytes w_t_stop w_t_bitStore w_t_bitsHeld w_t_gatheredFrom w_t_gatheredTo t_at u) t) (va_A (ws_Source_place h_t h_t_bytes w_t_stop w_t_bitStore w_t_bitsHeld w_t_gatheredFrom w_t_gatheredTo t_at) sz)) 0 0 (va_A (ws_Source_place h_t h_t_bytes w_t_stop w_t_bitStore w_t_bitsHeld w_t_gatheredFrom w_t_gatheredTo t_at) sz) := by
  refine MetX.ofW (cc := b_Source_place) (maxL := 1) (ret := (some .int)) (by decide +kernel) rfl ?_
  intro p e s m args below meth c s₁ B hml hv
  obtain ⟨rfl, rfl, C, hP, hD, hS⟩ := dc_entry hfl B hml hv
  have hl := lv_entry ([.ref h_t]) (n := 1) (Nat.le_of_ble_eq_true rfl)
  rw [lg_entry_eq]
  generalize (lg_sl ([.ref h_t]) ++ List.replicate (1 - (lg_sl ([.ref h_t])).length) Slot.unset).toArray = ls at hl ⊢
  have hl : lv_has ls 1 [(0, .ref h_t)] := hl
  generalize hAe : va_A (ws_Source_place h_t h_t_bytes w_t_stop w_t_bitStore w_t_bitsHeld w_t_gatheredFrom w_t_gatheredTo t_at) s.heap.size = A at C hD hS ⊢
  generalize (headSpec (Cond.code y_Source_place b_Source_place 1 (some .int) :: lw_g) (rmx 0 0 0 0)).room = R at C ⊢
  have C : cx p l e R s m _ meth c dC dI A R_Source b_Source_place 1 (some .int) 0 0 [] := C
  obtain ⟨hx, hb, hr, hml, hown, hts, hlk, hK, hA, hV, htr, hex, hF, hL, hfl⟩ := id C
  unfold f_Source_place at h
  revert hP hS
  generalize hH : s.heap = H
  generalize hLo : ([] : List Loc) = locs
  intro hP hS
  have hS : va_S A s.heap H locs := by rw [hH]; exact hS
  refine lv_aload_n hx hb d_Source_place_0 rfl (lv_at hl 0 rfl) ?_
  refine va_get (D := (dC, dI)) (ci := 12) (v := .int t_at) (C := R_Source) (T := F_Source) (N := 7) hx hb hts i_Source hown hK hP 0 rfl rfl 1 (by decide) (hts _ (lg_in1 (List.mem_of_getElem? (i := 106) rfl) rfl)) (fun _ h9 => h9) rfl d_Source_place_1 ?_
  cases h
  exact dc_iret C (v := t_at) (u := ()) (w1 := w1_Source_place h_t h_t_bytes w_t_stop w_t_bitStore w_t_bitsHeld w_t_gatheredFrom w_t_gatheredTo t_at) hP hD hS d_Source_place_4
def ws_Source_left (h_t : Nat) (h_t_bytes : Nat) (w_t_bitStore : Int32) (w_t_bitsHeld : Int32) (w_t_gatheredFrom : Int32) (w_t_gatheredTo : Int32) (t_at : Int32) (t_stop : Int32) : va_W := [(h_t, .inr (12, [.ref h_t_bytes, .int t_at, .int t_stop, .int w_t_bitStore, .int w_t_bitsHeld, .int w_t_gatheredFrom, .int w_t_gatheredTo]))]
abbrev w1_Source_left (h_t : Nat) (h_t_bytes : Nat) (w_t_bitStore : Int32) (w_t_bitsHeld : Int32) (w_t_gatheredFrom : Int32) (w_t_gatheredTo : Int32) (t_at : Int32) (t_stop : Int32) (u : Unit) : va_W := ws_Source_left h_t h_t_bytes w_t_bitStore w_t_bitsHeld w_t_gatheredFrom w_t_gatheredTo t_at t_stop
abbrev q_Source_left (below : List Frame) (args : Array Value) (s : State) (dC : Nat → ClassId) (dI : Nat → Nat → Nat) (A : Nat → Prop) (h_t : Nat) (h_t_bytes : Nat) (w_t_bitStore : Int32) (w_t_bitsHeld : Int32) (w_t_gatheredFrom : Int32) (w_t_gatheredTo : Int32) (t_at : Int32) (t_stop : Int32) (o : Int32 × Unit) : State → Prop := XQ below (vx_Q vl_i (.inl o) (fun u t => vx_B dC dI [] A (w1_Source_left h_t h_t_bytes w_t_bitStore w_t_bitsHeld w_t_gatheredFrom w_t_gatheredTo t_at t_stop u) t) A) args s 0 0 A
theorem d_Source_left_0 : decode b_Source_left 0 = .ok (.aload_n 0, 1) := by decide +kernel
theorem d_Source_left_1 : decode b_Source_left 1 = .ok (.getfield 13, 3) := by decide +kernel
theorem d_Source_left_4 : decode b_Source_left 4 = .ok (.aload_n 0, 1) := by decide +kernel
theorem d_Source_left_5 : decode b_Source_left 5 = .ok (.getfield 7, 3) := by decide +kernel
theorem d_Source_left_8 : decode b_Source_left 8 = .ok (.isub, 1) := by decide +kernel
theorem d_Source_left_9 : decode b_Source_left 9 = .ok (.ireturn, 1) := by decide +kernel
def f_Source_left   (t_at : Int32) (t_stop : Int32) : Option (Int32 × Unit) := some ((t_stop - t_at), ())
set_option maxHeartbeats 4000000 in
set_option maxRecDepth 100000 in
theorem c_Source_left {l : Launch} (hfl : l.flags = flags0) (dC : Nat → ClassId) (dI : Nat → Nat → Nat) (h_t : Nat) (h_t_bytes : Nat) (w_t_bitStore : Int32) (w_t_bitsHeld : Int32) (w_t_gatheredFrom : Int32) (w_t_gatheredTo : Int32) (sz : Nat)  (t_at : Int32) (t_stop : Int32) {o : Int32 × Unit} (h : f_Source_left t_at t_stop = some o) : MetX l y_Source_left (Cond.code y_Source_left b_Source_left 1 (some .int) :: lw_g) (rmx 0 0 0 0) (vx_Pre dC dI [] [.ref h_t] sz (ws_Source_left h_t h_t_bytes w_t_bitStore w_t_bitsHeld w_t_gatheredFrom w_t_gatheredTo t_at t_stop)) (vx_Q vl_i (.inl o) (fun u t => vx_B dC dI [] (va_A (ws_Source_left h_t h_t_bytes w_t_bitStore w_t_bitsHeld w_t_gatheredFrom w_t_gatheredTo t_at t_stop) sz) (w1_Source_left h_t h_t_bytes w_t_bitStore w_t_bitsHeld w_t_gatheredFrom w_t_gatheredTo t_at t_stop u) t) (va_A (ws_Source_left h_t h_t_bytes w_t_bitStore w_t_bitsHeld w_t_gatheredFrom w_t_gatheredTo t_at t_stop) sz)) 0 0 (va_A (ws_Source_left h_t h_t_bytes w_t_bitStore w_t_bitsHeld w_t_gatheredFrom w_t_gatheredTo t_at t_stop) sz) := by
  refine MetX.ofW (cc := b_Source_left) (maxL := 1) (ret := (some .int)) (by decide +kernel) rfl ?_
  intro p e s m args below meth c s₁ B hml hv
  obtain ⟨rfl, rfl, C, hP, hD, hS⟩ := dc_entry hfl B hml hv
  have hl := lv_entry ([.ref h_t]) (n := 1) (Nat.le_of_ble_eq_true rfl)
  rw [lg_entry_eq]
  generalize (lg_sl ([.ref h_t]) ++ List.replicate (1 - (lg_sl ([.ref h_t])).length) Slot.unset).toArray = ls at hl ⊢
  have hl : lv_has ls 1 [(0, .ref h_t)] := hl
  generalize hAe : va_A (ws_Source_left h_t h_t_bytes w_t_bitStore w_t_bitsHeld w_t_gatheredFrom w_t_gatheredTo t_at t_stop) s.heap.size = A at C hD hS ⊢
  generalize (headSpec (Cond.code y_Source_left b_Source_left 1 (some .int) :: lw_g) (rmx 0 0 0 0)).room = R at C ⊢
  have C : cx p l e R s m _ meth c dC dI A R_Source b_Source_left 1 (some .int) 0 0 [] := C
  obtain ⟨hx, hb, hr, hml, hown, hts, hlk, hK, hA, hV, htr, hex, hF, hL, hfl⟩ := id C
  unfold f_Source_left at h
  revert hP hS
  generalize hH : s.heap = H
  generalize hLo : ([] : List Loc) = locs
  intro hP hS
  have hS : va_S A s.heap H locs := by rw [hH]; exact hS
  refine lv_aload_n hx hb d_Source_left_0 rfl (lv_at hl 0 rfl) ?_
  refine va_get (D := (dC, dI)) (ci := 12) (v := .int t_stop) (C := R_Source) (T := F_Source) (N := 7) hx hb hts i_Source hown hK hP 0 rfl rfl 2 (by decide) (hts _ (lg_in1 (List.mem_of_getElem? (i := 107) rfl) rfl)) (fun _ h9 => h9) rfl d_Source_left_1 ?_
  refine lv_aload_n hx hb d_Source_left_4 rfl (lv_at hl 0 rfl) ?_
  refine va_get (D := (dC, dI)) (ci := 12) (v := .int t_at) (C := R_Source) (T := F_Source) (N := 7) hx hb hts i_Source hown hK hP 0 rfl rfl 1 (by decide) (hts _ (lg_in1 (List.mem_of_getElem? (i := 106) rfl) rfl)) (fun _ h9 => h9) rfl d_Source_left_5 ?_
  refine lv_isub hx hb d_Source_left_8 ?_
  cases h
  exact dc_iret C (v := (t_stop - t_at)) (u := ()) (w1 := w1_Source_left h_t h_t_bytes w_t_bitStore w_t_bitsHeld w_t_gatheredFrom w_t_gatheredTo t_at t_stop) hP hD hS d_Source_left_9
def ws_Source_first (h_t : Nat) (h_t_bytes : Nat) (k_t_bytes : ClassId) (w_t_bitStore : Int32) (w_t_bitsHeld : Int32) (w_t_gatheredFrom : Int32) (w_t_gatheredTo : Int32) (t_at : Int32) (t_stop : Int32) (a_t_bytes : Nat → Int32) : va_W := [(h_t, .inr (12, [.ref h_t_bytes, .int t_at, .int t_stop, .int w_t_bitStore, .int w_t_bitsHeld, .int w_t_gatheredFrom, .int w_t_gatheredTo])), (h_t_bytes, .inl (k_t_bytes, 65536, .inl a_t_bytes))]
abbrev w1_Source_first (h_t : Nat) (h_t_bytes : Nat) (k_t_bytes : ClassId) (w_t_bitStore : Int32) (w_t_bitsHeld : Int32) (w_t_gatheredFrom : Int32) (w_t_gatheredTo : Int32) (t_at : Int32) (t_stop : Int32) (a_t_bytes : Nat → Int32) (u : Unit) : va_W := ws_Source_first h_t h_t_bytes k_t_bytes w_t_bitStore w_t_bitsHeld w_t_gatheredFrom w_t_gatheredTo t_at t_stop a_t_bytes
abbrev q_Source_first (below : List Frame) (args : Array Value) (s : State) (dC : Nat → ClassId) (dI : Nat → Nat → Nat) (A : Nat → Prop) (h_t : Nat) (h_t_bytes : Nat) (k_t_bytes : ClassId) (w_t_bitStore : Int32) (w_t_bitsHeld : Int32) (w_t_gatheredFrom : Int32) (w_t_gatheredTo : Int32) (t_at : Int32) (t_stop : Int32) (a_t_bytes : Nat → Int32) (o : Int32 × Unit) : State → Prop := XQ below (vx_Q vl_i (.inl o) (fun u t => vx_B dC dI [(k_t_bytes, .byte)] A (w1_Source_first h_t h_t_bytes k_t_bytes w_t_bitStore w_t_bitsHeld w_t_gatheredFrom w_t_gatheredTo t_at t_stop a_t_bytes u) t) A) args s 0 0 A
theorem d_Source_first_0 : decode b_Source_first 0 = .ok (.aload_n 0, 1) := by decide +kernel
theorem d_Source_first_1 : decode b_Source_first 1 = .ok (.getfield 7, 3) := by decide +kernel
theorem d_Source_first_4 : decode b_Source_first 4 = .ok (.aload_n 0, 1) := by decide +kernel
theorem d_Source_first_5 : decode b_Source_first 5 = .ok (.getfield 13, 3) := by decide +kernel
theorem d_Source_first_8 : decode b_Source_first 8 = .ok (.if_icmp .ge 19, 3) := by decide +kernel
theorem d_Source_first_11 : decode b_Source_first 11 = .ok (.aload_n 0, 1) := by decide +kernel
theorem d_Source_first_12 : decode b_Source_first 12 = .ok (.getfield 28, 3) := by decide +kernel
theorem d_Source_first_15 : decode b_Source_first 15 = .ok (.aload_n 0, 1) := by decide +kernel
theorem d_Source_first_16 : decode b_Source_first 16 = .ok (.getfield 7, 3) := by decide +kernel
theorem d_Source_first_19 : decode b_Source_first 19 = .ok (.baload, 1) := by decide +kernel
theorem d_Source_first_20 : decode b_Source_first 20 = .ok (.sipush 255, 3) := by decide +kernel
theorem d_Source_first_23 : decode b_Source_first 23 = .ok (.iand, 1) := by decide +kernel
theorem d_Source_first_24 : decode b_Source_first 24 = .ok (.goto 4, 3) := by decide +kernel
theorem d_Source_first_27 : decode b_Source_first 27 = .ok (.iconst (-1), 1) := by decide +kernel
theorem d_Source_first_28 : decode b_Source_first 28 = .ok (.ireturn, 1) := by decide +kernel
def at_Source_first_28 (p : Program) (l : Launch) (e : Env) (R : Room) (s : State) (m : MethodId) (args : Array Value) (below : List Frame) (meth : Method) (c : Code) (dC : Nat → ClassId) (dI : Nat → Nat → Nat) (A : Nat → Prop) (Q : State → Prop) (h_t : Nat) (h_t_bytes : Nat) (k_t_bytes : ClassId) (w_t_bitStore : Int32) (w_t_bitsHeld : Int32) (w_t_gatheredFrom : Int32) (w_t_gatheredTo : Int32) (t_at : Int32) (t_stop : Int32) (a_t_bytes : Nat → Int32) (y0 : Int32) : Prop := ∀ (H : Heap) (locs : List Loc) (ls : Array Slot), va_P (dC, dI) classes (ws_Source_first h_t h_t_bytes k_t_bytes w_t_bitStore w_t_bitsHeld w_t_gatheredFrom w_t_gatheredTo t_at t_stop a_t_bytes) H → va_D A (ws_Source_first h_t h_t_bytes k_t_bytes w_t_bitStore w_t_bitsHeld w_t_gatheredFrom w_t_gatheredTo t_at t_stop a_t_bytes) → va_S A s.heap H locs → lv_has ls 1 [(0, .ref h_t)] → W p l e R s m args below meth c H locs 0 0 Q (F0 m 28 ls [.int y0])
def f_Source_first_28  (t_at : Int32) (t_stop : Int32) (a_t_bytes : Nat → Int32) (y0 : Int32) : Option (Int32 × Unit) := some (y0, ())
def f_Source_first   (t_at : Int32) (t_stop : Int32) (a_t_bytes : Nat → Int32) : Option (Int32 × Unit) := (if t_stop ≤ t_at then (f_Source_first_28 t_at t_stop a_t_bytes (-1)) else ((if inb t_at 65536 = true then f_Source_first_28 t_at t_stop a_t_bytes ((a_t_bytes (t_at : Int32).toNatClampNeg) &&& 255) else none)))
set_option maxHeartbeats 4000000 in
set_option maxRecDepth 100000 in
theorem w_Source_first_28 {p : Program} {l : Launch} {e : Env} {R : Room} {s : State} {m : MethodId} {args : Array Value} {below : List Frame} {meth : Method} {c : Code} {dC : Nat → ClassId} {dI : Nat → Nat → Nat} {A : Nat → Prop} {h_t : Nat} {h_t_bytes : Nat} {k_t_bytes : ClassId} {w_t_bitStore : Int32} {w_t_bitsHeld : Int32} {w_t_gatheredFrom : Int32} {w_t_gatheredTo : Int32} (C : cx p l e R s m args meth c dC dI A R_Source b_Source_first 1 (some .int) 0 0 [(k_t_bytes, .byte)]) {o : Int32 × Unit} {t_at : Int32} {t_stop : Int32} {a_t_bytes : Nat → Int32} {y0 : Int32}  (h : f_Source_first_28  t_at t_stop a_t_bytes y0 = some o) : at_Source_first_28 p l e R s m args below meth c dC dI A (q_Source_first below args s dC dI A h_t h_t_bytes k_t_bytes w_t_bitStore w_t_bitsHeld w_t_gatheredFrom w_t_gatheredTo t_at t_stop a_t_bytes o) h_t h_t_bytes k_t_bytes w_t_bitStore w_t_bitsHeld w_t_gatheredFrom w_t_gatheredTo t_at t_stop a_t_bytes y0 := by
  refine fun H locs ls hP hD hS hl => ?_
  obtain ⟨hx, hb, hr, hml, hown, hts, hlk, hK, hA, hV, htr, hex, hF, hL, hfl⟩ := id C
  unfold f_Source_first_28 at h
  cases h
  exact dc_iret C (v := y0) (u := ()) (w1 := w1_Source_first h_t h_t_bytes k_t_bytes w_t_bitStore w_t_bitsHeld w_t_gatheredFrom w_t_gatheredTo t_at t_stop a_t_bytes) hP hD hS d_Source_first_28
set_option maxHeartbeats 4000000 in
set_option maxRecDepth 100000 in
theorem c_Source_first {l : Launch} (hfl : l.flags = flags0) (dC : Nat → ClassId) (dI : Nat → Nat → Nat) (h_t : Nat) (h_t_bytes : Nat) (k_t_bytes : ClassId) (w_t_bitStore : Int32) (w_t_bitsHeld : Int32) (w_t_gatheredFrom : Int32) (w_t_gatheredTo : Int32) (sz : Nat)  (t_at : Int32) (t_stop : Int32) (a_t_bytes : Nat → Int32) {o : Int32 × Unit} (h : f_Source_first t_at t_stop a_t_bytes = some o) : MetX l y_Source_first (Cond.code y_Source_first b_Source_first 1 (some .int) :: lw_g) (rmx 0 0 0 0) (vx_Pre dC dI [(k_t_bytes, .byte)] [.ref h_t] sz (ws_Source_first h_t h_t_bytes k_t_bytes w_t_bitStore w_t_bitsHeld w_t_gatheredFrom w_t_gatheredTo t_at t_stop a_t_bytes)) (vx_Q vl_i (.inl o) (fun u t => vx_B dC dI [(k_t_bytes, .byte)] (va_A (ws_Source_first h_t h_t_bytes k_t_bytes w_t_bitStore w_t_bitsHeld w_t_gatheredFrom w_t_gatheredTo t_at t_stop a_t_bytes) sz) (w1_Source_first h_t h_t_bytes k_t_bytes w_t_bitStore w_t_bitsHeld w_t_gatheredFrom w_t_gatheredTo t_at t_stop a_t_bytes u) t) (va_A (ws_Source_first h_t h_t_bytes k_t_bytes w_t_bitStore w_t_bitsHeld w_t_gatheredFrom w_t_gatheredTo t_at t_stop a_t_bytes) sz)) 0 0 (va_A (ws_Source_first h_t h_t_bytes k_t_bytes w_t_bitStore w_t_bitsHeld w_t_gatheredFrom w_t_gatheredTo t_at t_stop a_t_bytes) sz) := by
  refine MetX.ofW (cc := b_Source_first) (maxL := 1) (ret := (some .int)) (by decide +kernel) rfl ?_
  intro p e s m args below meth c s₁ B hml hv
  obtain ⟨rfl, rfl, C, hP, hD, hS⟩ := dc_entry hfl B hml hv
  have hl := lv_entry ([.ref h_t]) (n := 1) (Nat.le_of_ble_eq_true rfl)
  rw [lg_entry_eq]
  generalize (lg_sl ([.ref h_t]) ++ List.replicate (1 - (lg_sl ([.ref h_t])).length) Slot.unset).toArray = ls at hl ⊢
  have hl : lv_has ls 1 [(0, .ref h_t)] := hl
  generalize hAe : va_A (ws_Source_first h_t h_t_bytes k_t_bytes w_t_bitStore w_t_bitsHeld w_t_gatheredFrom w_t_gatheredTo t_at t_stop a_t_bytes) s.heap.size = A at C hD hS ⊢
  generalize (headSpec (Cond.code y_Source_first b_Source_first 1 (some .int) :: lw_g) (rmx 0 0 0 0)).room = R at C ⊢
  have C : cx p l e R s m _ meth c dC dI A R_Source b_Source_first 1 (some .int) 0 0 [(k_t_bytes, .byte)] := C
  obtain ⟨hx, hb, hr, hml, hown, hts, hlk, hK, hA, hV, htr, hex, hF, hL, hfl⟩ := id C
  unfold f_Source_first at h
  revert hP hS
  generalize hH : s.heap = H
  generalize hLo : ([] : List Loc) = locs
  intro hP hS
  have hS : va_S A s.heap H locs := by rw [hH]; exact hS
  refine lv_aload_n hx hb d_Source_first_0 rfl (lv_at hl 0 rfl) ?_
  refine va_get (D := (dC, dI)) (ci := 12) (v := .int t_at) (C := R_Source) (T := F_Source) (N := 7) hx hb hts i_Source hown hK hP 0 rfl rfl 1 (by decide) (hts _ (lg_in1 (List.mem_of_getElem? (i := 106) rfl) rfl)) (fun _ h9 => h9) rfl d_Source_first_1 ?_
  refine lv_aload_n hx hb d_Source_first_4 rfl (lv_at hl 0 rfl) ?_
  refine va_get (D := (dC, dI)) (ci := 12) (v := .int t_stop) (C := R_Source) (T := F_Source) (N := 7) hx hb hts i_Source hown hK hP 0 rfl rfl 2 (by decide) (hts _ (lg_in1 (List.mem_of_getElem? (i := 107) rfl) rfl)) (fun _ h9 => h9) rfl d_Source_first_5 ?_
  refine lv_icmp_ge (tgt := 27) hx hb d_Source_first_8 (by decide) (fun c_8 => ?_) (fun c_8 => ?_)
  · have h := dc_t c_8 h
    refine lv_iconst (v := (-1)) hx hb d_Source_first_27 (by decide) ?_
    exact w_Source_first_28 C h H locs ls hP hD hS (lv_sub hl [0] rfl)
  have h := dc_f c_8 h
  refine lv_aload_n hx hb d_Source_first_11 rfl (lv_at hl 0 rfl) ?_
  refine va_get (D := (dC, dI)) (ci := 12) (v := .ref h_t_bytes) (C := R_Source) (T := F_Source) (N := 7) hx hb hts i_Source hown hK hP 0 rfl rfl 0 (by decide) (hts _ (lg_in1 (List.mem_of_getElem? (i := 105) rfl) rfl)) (fun _ h9 => h9) rfl d_Source_first_12 ?_
  refine lv_aload_n hx hb d_Source_first_15 rfl (lv_at hl 0 rfl) ?_
  refine va_get (D := (dC, dI)) (ci := 12) (v := .int t_at) (C := R_Source) (T := F_Source) (N := 7) hx hb hts i_Source hown hK hP 0 rfl rfl 1 (by decide) (hts _ (lg_in1 (List.mem_of_getElem? (i := 106) rfl) rfl)) (fun _ h9 => h9) rfl d_Source_first_16 ?_
  obtain ⟨hi_19, h⟩ := dc_in h
  refine va_bald hx hb hK hP 1 0 rfl rfl hi_19 d_Source_first_19 ?_
  refine lv_sipush (v := 255) hx hb d_Source_first_20 (by decide) ?_
  refine lv_iand hx hb d_Source_first_23 ?_
  refine lv_goto (tgt := 28) hx hb d_Source_first_24 (by decide) ?_
  exact w_Source_first_28 C h H locs ls hP hD hS (lv_sub hl [0] rfl)
