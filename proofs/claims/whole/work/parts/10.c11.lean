def ws_Sink_putBig4 (h_t : Nat) (h_t_bytes : Nat) (k_t_bytes : ClassId) (n_t_bytes : Nat) (w_t_bitStore : Int32) (w_t_bitsHeld : Int32) (t_filled : Int32) (a_t_bytes : Nat → Int32) : va_W := [(h_t, .inr (11, [.ref h_t_bytes, .int t_filled, .int w_t_bitStore, .int w_t_bitsHeld])), (h_t_bytes, .inl (k_t_bytes, n_t_bytes, .inl a_t_bytes))]
abbrev w1_Sink_putBig4 (h_t : Nat) (h_t_bytes : Nat) (k_t_bytes : ClassId) (n_t_bytes : Nat) (w_t_bitStore : Int32) (w_t_bitsHeld : Int32)  (u : Int32 × (Nat → Int32)) : va_W := ws_Sink_putBig4 h_t h_t_bytes k_t_bytes n_t_bytes w_t_bitStore w_t_bitsHeld u.1 u.2
abbrev q_Sink_putBig4 (below : List Frame) (args : Array Value) (s : State) (dC : Nat → ClassId) (dI : Nat → Nat → Nat) (A : Nat → Prop) (h_t : Nat) (h_t_bytes : Nat) (k_t_bytes : ClassId) (n_t_bytes : Nat) (w_t_bitStore : Int32) (w_t_bitsHeld : Int32)  (o : (Unit × (Int32 × (Nat → Int32))) ⊕ (Nat × (Int32 × (Nat → Int32)))) : State → Prop := XQ below (vx_Q vl_v o (fun u t => vx_B dC dI [(k_t_bytes, .byte)] A (w1_Sink_putBig4 h_t h_t_bytes k_t_bytes n_t_bytes w_t_bitStore w_t_bitsHeld u) t) A) args s (mcx o) (msx o) A
theorem d_Sink_putBig4_0 : decode b_Sink_putBig4 0 = .ok (.aload_n 0, 1) := by decide +kernel
theorem d_Sink_putBig4_1 : decode b_Sink_putBig4 1 = .ok (.iload_n 1, 1) := by decide +kernel
theorem d_Sink_putBig4_2 : decode b_Sink_putBig4 2 = .ok (.bipush 24, 2) := by decide +kernel
theorem d_Sink_putBig4_4 : decode b_Sink_putBig4 4 = .ok (.ishr, 1) := by decide +kernel
theorem d_Sink_putBig4_5 : decode b_Sink_putBig4 5 = .ok (.invokevirtual 42, 3) := by decide +kernel
theorem d_Sink_putBig4_8 : decode b_Sink_putBig4 8 = .ok (.aload_n 0, 1) := by decide +kernel
theorem d_Sink_putBig4_9 : decode b_Sink_putBig4 9 = .ok (.iload_n 1, 1) := by decide +kernel
theorem d_Sink_putBig4_10 : decode b_Sink_putBig4 10 = .ok (.bipush 16, 2) := by decide +kernel
theorem d_Sink_putBig4_12 : decode b_Sink_putBig4 12 = .ok (.ishr, 1) := by decide +kernel
theorem d_Sink_putBig4_13 : decode b_Sink_putBig4 13 = .ok (.invokevirtual 42, 3) := by decide +kernel
theorem d_Sink_putBig4_16 : decode b_Sink_putBig4 16 = .ok (.aload_n 0, 1) := by decide +kernel
theorem d_Sink_putBig4_17 : decode b_Sink_putBig4 17 = .ok (.iload_n 1, 1) := by decide +kernel
theorem d_Sink_putBig4_18 : decode b_Sink_putBig4 18 = .ok (.bipush 8, 2) := by decide +kernel
theorem d_Sink_putBig4_20 : decode b_Sink_putBig4 20 = .ok (.ishr, 1) := by decide +kernel
theorem d_Sink_putBig4_21 : decode b_Sink_putBig4 21 = .ok (.invokevirtual 42, 3) := by decide +kernel
theorem d_Sink_putBig4_24 : decode b_Sink_putBig4 24 = .ok (.aload_n 0, 1) := by decide +kernel
theorem d_Sink_putBig4_25 : decode b_Sink_putBig4 25 = .ok (.iload_n 1, 1) := by decide +kernel
theorem d_Sink_putBig4_26 : decode b_Sink_putBig4 26 = .ok (.invokevirtual 42, 3) := by decide +kernel
theorem d_Sink_putBig4_29 : decode b_Sink_putBig4 29 = .ok (.return_, 1) := by decide +kernel
def f_Sink_putBig4 (n_t_bytes : Nat) (x1 : Int32) (t_filled : Int32) (a_t_bytes : Nat → Int32) : Option ((Unit × (Int32 × (Nat → Int32))) ⊕ (Nat × (Int32 × (Nat → Int32)))) := dc_try (f_Sink_put n_t_bytes (x1 >>> ((24 : Int32) &&& 31)) t_filled a_t_bytes) (fun r_5 => dc_try (f_Sink_put n_t_bytes (x1 >>> ((16 : Int32) &&& 31)) r_5.2.1 r_5.2.2) (fun r_13 => dc_try (f_Sink_put n_t_bytes (x1 >>> ((8 : Int32) &&& 31)) r_13.2.1 r_13.2.2) (fun r_21 => dc_try (f_Sink_put n_t_bytes x1 r_21.2.1 r_21.2.2) (fun r_26 => some (.inl ((), (r_26.2.1, r_26.2.2)))) (fun r_26 => some (.inr (r_26.1, (r_26.2.1, r_26.2.2))))) (fun r_21 => some (.inr (r_21.1, (r_21.2.1, r_21.2.2))))) (fun r_13 => some (.inr (r_13.1, (r_13.2.1, r_13.2.2))))) (fun r_5 => some (.inr (r_5.1, (r_5.2.1, r_5.2.2))))
set_option maxHeartbeats 400000 in
set_option maxRecDepth 100000 in
theorem c_Sink_putBig4 {l : Launch} (hfl : l.flags = flags0) (dC : Nat → ClassId) (dI : Nat → Nat → Nat) (h_t : Nat) (h_t_bytes : Nat) (k_t_bytes : ClassId) (n_t_bytes : Nat) (w_t_bitStore : Int32) (w_t_bitsHeld : Int32) (sz : Nat) (x1 : Int32) (t_filled : Int32) (a_t_bytes : Nat → Int32) {o : (Unit × (Int32 × (Nat → Int32))) ⊕ (Nat × (Int32 × (Nat → Int32)))} (h : f_Sink_putBig4 n_t_bytes x1 t_filled a_t_bytes = some o) : MetX l y_Sink_putBig4 (Cond.code y_Sink_putBig4 b_Sink_putBig4 2 none :: lw_g) (rmx 7 131 (mcx o) (msx o)) (vx_Pre dC dI [(k_t_bytes, .byte)] [.ref h_t, .int x1] sz (ws_Sink_putBig4 h_t h_t_bytes k_t_bytes n_t_bytes w_t_bitStore w_t_bitsHeld t_filled a_t_bytes)) (vx_Q vl_v o (fun u t => vx_B dC dI [(k_t_bytes, .byte)] (va_A (ws_Sink_putBig4 h_t h_t_bytes k_t_bytes n_t_bytes w_t_bitStore w_t_bitsHeld t_filled a_t_bytes) sz) (w1_Sink_putBig4 h_t h_t_bytes k_t_bytes n_t_bytes w_t_bitStore w_t_bitsHeld u) t) (va_A (ws_Sink_putBig4 h_t h_t_bytes k_t_bytes n_t_bytes w_t_bitStore w_t_bitsHeld t_filled a_t_bytes) sz)) (mcx o) (msx o) (va_A (ws_Sink_putBig4 h_t h_t_bytes k_t_bytes n_t_bytes w_t_bitStore w_t_bitsHeld t_filled a_t_bytes) sz) := by
  refine MetX.ofW (cc := b_Sink_putBig4) (maxL := 2) (ret := none) (by decide +kernel) rfl ?_
  intro p e s m args below meth c s₁ B hml hv
  obtain ⟨rfl, rfl, C, hP, hD, hS⟩ := dc_entry hfl B hml hv
  have hl := lv_entry ([.ref h_t, .int x1]) (n := 2) (Nat.le_of_ble_eq_true rfl)
  rw [lg_entry_eq]
  generalize (lg_sl ([.ref h_t, .int x1]) ++ List.replicate (2 - (lg_sl ([.ref h_t, .int x1])).length) Slot.unset).toArray = ls at hl ⊢
  have hl : lv_has ls 2 [(0, .ref h_t), (1, .int x1)] := hl
  generalize hAe : va_A (ws_Sink_putBig4 h_t h_t_bytes k_t_bytes n_t_bytes w_t_bitStore w_t_bitsHeld t_filled a_t_bytes) s.heap.size = A at C hD hS ⊢
  have hRc : mcx o ≤ (headSpec (Cond.code y_Sink_putBig4 b_Sink_putBig4 2 none :: lw_g) (rmx 7 131 (mcx o) (msx o))).room.cells ∧ msx o ≤ (headSpec (Cond.code y_Sink_putBig4 b_Sink_putBig4 2 none :: lw_g) (rmx 7 131 (mcx o) (msx o))).room.slots := ⟨Nat.le_refl _, Nat.le_refl _⟩
  generalize (headSpec (Cond.code y_Sink_putBig4 b_Sink_putBig4 2 none :: lw_g) (rmx 7 131 (mcx o) (msx o))).room = R at C hRc ⊢
  have C : cx p l e R s m _ meth c dC dI A R_Sink b_Sink_putBig4 2 none 7 131 [(k_t_bytes, .byte)] := C
  obtain ⟨hx, hb, hr, hml, hown, hts, hlk, hK, hA, hV, htr, hex, hF, hL, hfl⟩ := id C
  unfold f_Sink_putBig4 at h
  revert hP hS
  generalize hH : s.heap = H
  generalize hLo : ([] : List Loc) = locs
  intro hP hS
  have hS : va_S A s.heap H locs := by rw [hH]; exact hS
  refine lv_aload_n hx hb d_Sink_putBig4_0 rfl (lv_at hl 0 rfl) ?_
  refine lv_iload_n hx hb d_Sink_putBig4_1 rfl (lv_at hl 1 rfl) ?_
  refine lv_bipush (v := 24) hx hb d_Sink_putBig4_2 (by decide) ?_
  refine lv_ishr hx hb d_Sink_putBig4_4 ?_
  rcases dc_tryE h with ⟨r_5, hg_5, h⟩ | ⟨r_5, hg_5, h⟩
  rotate_left
  · cases h
    exact dc_thrV (y := y_Sink_put) (bytes := b_Sink_put) (maxL := 2) (ret' := none) (fr' := 6) (lo' := 110) (n := 1) (val := vl_v) (o := r_5) (tysc := [(k_t_bytes, .byte)]) (As := [.int (x1 >>> ((24 : Int32) &&& 31))]) (rest := []) (wc := (ws_Sink_put h_t h_t_bytes k_t_bytes n_t_bytes w_t_bitStore w_t_bitsHeld t_filled a_t_bytes)) (wr := []) (w1 := w1_Sink_put h_t h_t_bytes k_t_bytes n_t_bytes w_t_bitStore w_t_bitsHeld) C cw_Sink_put (lg_in1 (List.mem_of_getElem? (i := 2) rfl) rfl) (lg_in6 (List.mem_of_getElem? (i := 147) rfl) rfl) (lg_in6 (List.mem_of_getElem? (i := 126) rfl) rfl) (lg_in6 (List.mem_of_getElem? (i := 127) rfl) rfl) (ci := 11) (cq := (R_Sink, F_Sink, 4)) (q0 := 0) rfl rfl rfl (ct_Sink_put hfl dC dI h_t h_t_bytes k_t_bytes n_t_bytes w_t_bitStore w_t_bitsHeld H.size (x1 >>> ((24 : Int32) &&& 31)) t_filled a_t_bytes hg_5) (by decide +kernel) ⟨Nat.le_of_ble_eq_true rfl, Nat.le_of_ble_eq_true rfl⟩ rfl rfl (Nat.le_of_ble_eq_true rfl) d_Sink_putBig4_5 hRc.1 hRc.2 hP hD hS hl.1 [0, 1] [] [0] rfl rfl rfl rfl (by decide) rfl (fun x t H1 locs1 a1 a2 a3 a4 hP hD hS => dc_leaveT (u := (r_5.1, (r_5.2.1, r_5.2.2))) (w1 := w1_Sink_putBig4 h_t h_t_bytes k_t_bytes n_t_bytes w_t_bitStore w_t_bitsHeld) C a1 a2 a3 a4 (hP.sub [0, 1] rfl) (hD.sub [0, 1] (by decide) rfl) hS)
  refine dc_callV (y := y_Sink_put) (bytes := b_Sink_put) (maxL := 2) (ret' := none) (fr' := 6) (lo' := 110) (n := 1) (val := vl_v) (o := r_5) (tysc := [(k_t_bytes, .byte)]) (As := [.int (x1 >>> ((24 : Int32) &&& 31))]) (rest := []) (wc := (ws_Sink_put h_t h_t_bytes k_t_bytes n_t_bytes w_t_bitStore w_t_bitsHeld t_filled a_t_bytes)) (wr := []) (w1 := w1_Sink_put h_t h_t_bytes k_t_bytes n_t_bytes w_t_bitStore w_t_bitsHeld) C cw_Sink_put (lg_in1 (List.mem_of_getElem? (i := 2) rfl) rfl) (lg_in6 (List.mem_of_getElem? (i := 147) rfl) rfl) (lg_in6 (List.mem_of_getElem? (i := 126) rfl) rfl) (lg_in6 (List.mem_of_getElem? (i := 127) rfl) rfl) (ci := 11) (cq := (R_Sink, F_Sink, 4)) (q0 := 0) rfl rfl rfl (cr_Sink_put hfl dC dI h_t h_t_bytes k_t_bytes n_t_bytes w_t_bitStore w_t_bitsHeld H.size (x1 >>> ((24 : Int32) &&& 31)) t_filled a_t_bytes hg_5) (by decide +kernel) ⟨Nat.le_of_ble_eq_true rfl, Nat.le_of_ble_eq_true rfl⟩ rfl rfl (Nat.le_of_ble_eq_true rfl) d_Sink_putBig4_5 hP hD hS hl.1 [0, 1] [] [0] rfl rfl rfl rfl (by decide) rfl (fun H locs hP hD hS => ?_)
  have hP : va_P (dC, dI) classes (ws_Sink_putBig4 h_t h_t_bytes k_t_bytes n_t_bytes w_t_bitStore w_t_bitsHeld r_5.2.1 r_5.2.2) H := hP.sub [0, 1] rfl
  have hD : va_D A (ws_Sink_putBig4 h_t h_t_bytes k_t_bytes n_t_bytes w_t_bitStore w_t_bitsHeld r_5.2.1 r_5.2.2) := hD.sub [0, 1] (by decide) rfl
  show W p l e R s m _ below meth c H locs 0 0 _ (F0 m 8 ls [])
  refine lv_aload_n hx hb d_Sink_putBig4_8 rfl (lv_at hl 0 rfl) ?_
  refine lv_iload_n hx hb d_Sink_putBig4_9 rfl (lv_at hl 1 rfl) ?_
  refine lv_bipush (v := 16) hx hb d_Sink_putBig4_10 (by decide) ?_
  refine lv_ishr hx hb d_Sink_putBig4_12 ?_
  rcases dc_tryE h with ⟨r_13, hg_13, h⟩ | ⟨r_13, hg_13, h⟩
  rotate_left
  · cases h
    exact dc_thrV (y := y_Sink_put) (bytes := b_Sink_put) (maxL := 2) (ret' := none) (fr' := 6) (lo' := 110) (n := 1) (val := vl_v) (o := r_13) (tysc := [(k_t_bytes, .byte)]) (As := [.int (x1 >>> ((16 : Int32) &&& 31))]) (rest := []) (wc := (ws_Sink_put h_t h_t_bytes k_t_bytes n_t_bytes w_t_bitStore w_t_bitsHeld r_5.2.1 r_5.2.2)) (wr := []) (w1 := w1_Sink_put h_t h_t_bytes k_t_bytes n_t_bytes w_t_bitStore w_t_bitsHeld) C cw_Sink_put (lg_in1 (List.mem_of_getElem? (i := 2) rfl) rfl) (lg_in6 (List.mem_of_getElem? (i := 147) rfl) rfl) (lg_in6 (List.mem_of_getElem? (i := 126) rfl) rfl) (lg_in6 (List.mem_of_getElem? (i := 127) rfl) rfl) (ci := 11) (cq := (R_Sink, F_Sink, 4)) (q0 := 0) rfl rfl rfl (ct_Sink_put hfl dC dI h_t h_t_bytes k_t_bytes n_t_bytes w_t_bitStore w_t_bitsHeld H.size (x1 >>> ((16 : Int32) &&& 31)) r_5.2.1 r_5.2.2 hg_13) (by decide +kernel) ⟨Nat.le_of_ble_eq_true rfl, Nat.le_of_ble_eq_true rfl⟩ rfl rfl (Nat.le_of_ble_eq_true rfl) d_Sink_putBig4_13 hRc.1 hRc.2 hP hD hS hl.1 [0, 1] [] [0] rfl rfl rfl rfl (by decide) rfl (fun x t H1 locs1 a1 a2 a3 a4 hP hD hS => dc_leaveT (u := (r_13.1, (r_13.2.1, r_13.2.2))) (w1 := w1_Sink_putBig4 h_t h_t_bytes k_t_bytes n_t_bytes w_t_bitStore w_t_bitsHeld) C a1 a2 a3 a4 (hP.sub [0, 1] rfl) (hD.sub [0, 1] (by decide) rfl) hS)
  refine dc_callV (y := y_Sink_put) (bytes := b_Sink_put) (maxL := 2) (ret' := none) (fr' := 6) (lo' := 110) (n := 1) (val := vl_v) (o := r_13) (tysc := [(k_t_bytes, .byte)]) (As := [.int (x1 >>> ((16 : Int32) &&& 31))]) (rest := []) (wc := (ws_Sink_put h_t h_t_bytes k_t_bytes n_t_bytes w_t_bitStore w_t_bitsHeld r_5.2.1 r_5.2.2)) (wr := []) (w1 := w1_Sink_put h_t h_t_bytes k_t_bytes n_t_bytes w_t_bitStore w_t_bitsHeld) C cw_Sink_put (lg_in1 (List.mem_of_getElem? (i := 2) rfl) rfl) (lg_in6 (List.mem_of_getElem? (i := 147) rfl) rfl) (lg_in6 (List.mem_of_getElem? (i := 126) rfl) rfl) (lg_in6 (List.mem_of_getElem? (i := 127) rfl) rfl) (ci := 11) (cq := (R_Sink, F_Sink, 4)) (q0 := 0) rfl rfl rfl (cr_Sink_put hfl dC dI h_t h_t_bytes k_t_bytes n_t_bytes w_t_bitStore w_t_bitsHeld H.size (x1 >>> ((16 : Int32) &&& 31)) r_5.2.1 r_5.2.2 hg_13) (by decide +kernel) ⟨Nat.le_of_ble_eq_true rfl, Nat.le_of_ble_eq_true rfl⟩ rfl rfl (Nat.le_of_ble_eq_true rfl) d_Sink_putBig4_13 hP hD hS hl.1 [0, 1] [] [0] rfl rfl rfl rfl (by decide) rfl (fun H locs hP hD hS => ?_)
  have hP : va_P (dC, dI) classes (ws_Sink_putBig4 h_t h_t_bytes k_t_bytes n_t_bytes w_t_bitStore w_t_bitsHeld r_13.2.1 r_13.2.2) H := hP.sub [0, 1] rfl
  have hD : va_D A (ws_Sink_putBig4 h_t h_t_bytes k_t_bytes n_t_bytes w_t_bitStore w_t_bitsHeld r_13.2.1 r_13.2.2) := hD.sub [0, 1] (by decide) rfl
  show W p l e R s m _ below meth c H locs 0 0 _ (F0 m 16 ls [])
  refine lv_aload_n hx hb d_Sink_putBig4_16 rfl (lv_at hl 0 rfl) ?_
  refine lv_iload_n hx hb d_Sink_putBig4_17 rfl (lv_at hl 1 rfl) ?_
  refine lv_bipush (v := 8) hx hb d_Sink_putBig4_18 (by decide) ?_
  refine lv_ishr hx hb d_Sink_putBig4_20 ?_
  rcases dc_tryE h with ⟨r_21, hg_21, h⟩ | ⟨r_21, hg_21, h⟩
  rotate_left
  · cases h
    exact dc_thrV (y := y_Sink_put) (bytes := b_Sink_put) (maxL := 2) (ret' := none) (fr' := 6) (lo' := 110) (n := 1) (val := vl_v) (o := r_21) (tysc := [(k_t_bytes, .byte)]) (As := [.int (x1 >>> ((8 : Int32) &&& 31))]) (rest := []) (wc := (ws_Sink_put h_t h_t_bytes k_t_bytes n_t_bytes w_t_bitStore w_t_bitsHeld r_13.2.1 r_13.2.2)) (wr := []) (w1 := w1_Sink_put h_t h_t_bytes k_t_bytes n_t_bytes w_t_bitStore w_t_bitsHeld) C cw_Sink_put (lg_in1 (List.mem_of_getElem? (i := 2) rfl) rfl) (lg_in6 (List.mem_of_getElem? (i := 147) rfl) rfl) (lg_in6 (List.mem_of_getElem? (i := 126) rfl) rfl) (lg_in6 (List.mem_of_getElem? (i := 127) rfl) rfl) (ci := 11) (cq := (R_Sink, F_Sink, 4)) (q0 := 0) rfl rfl rfl (ct_Sink_put hfl dC dI h_t h_t_bytes k_t_bytes n_t_bytes w_t_bitStore w_t_bitsHeld H.size (x1 >>> ((8 : Int32) &&& 31)) r_13.2.1 r_13.2.2 hg_21) (by decide +kernel) ⟨Nat.le_of_ble_eq_true rfl, Nat.le_of_ble_eq_true rfl⟩ rfl rfl (Nat.le_of_ble_eq_true rfl) d_Sink_putBig4_21 hRc.1 hRc.2 hP hD hS hl.1 [0, 1] [] [0] rfl rfl rfl rfl (by decide) rfl (fun x t H1 locs1 a1 a2 a3 a4 hP hD hS => dc_leaveT (u := (r_21.1, (r_21.2.1, r_21.2.2))) (w1 := w1_Sink_putBig4 h_t h_t_bytes k_t_bytes n_t_bytes w_t_bitStore w_t_bitsHeld) C a1 a2 a3 a4 (hP.sub [0, 1] rfl) (hD.sub [0, 1] (by decide) rfl) hS)
  refine dc_callV (y := y_Sink_put) (bytes := b_Sink_put) (maxL := 2) (ret' := none) (fr' := 6) (lo' := 110) (n := 1) (val := vl_v) (o := r_21) (tysc := [(k_t_bytes, .byte)]) (As := [.int (x1 >>> ((8 : Int32) &&& 31))]) (rest := []) (wc := (ws_Sink_put h_t h_t_bytes k_t_bytes n_t_bytes w_t_bitStore w_t_bitsHeld r_13.2.1 r_13.2.2)) (wr := []) (w1 := w1_Sink_put h_t h_t_bytes k_t_bytes n_t_bytes w_t_bitStore w_t_bitsHeld) C cw_Sink_put (lg_in1 (List.mem_of_getElem? (i := 2) rfl) rfl) (lg_in6 (List.mem_of_getElem? (i := 147) rfl) rfl) (lg_in6 (List.mem_of_getElem? (i := 126) rfl) rfl) (lg_in6 (List.mem_of_getElem? (i := 127) rfl) rfl) (ci := 11) (cq := (R_Sink, F_Sink, 4)) (q0 := 0) rfl rfl rfl (cr_Sink_put hfl dC dI h_t h_t_bytes k_t_bytes n_t_bytes w_t_bitStore w_t_bitsHeld H.size (x1 >>> ((8 : Int32) &&& 31)) r_13.2.1 r_13.2.2 hg_21) (by decide +kernel) ⟨Nat.le_of_ble_eq_true rfl, Nat.le_of_ble_eq_true rfl⟩ rfl rfl (Nat.le_of_ble_eq_true rfl) d_Sink_putBig4_21 hP hD hS hl.1 [0, 1] [] [0] rfl rfl rfl rfl (by decide) rfl (fun H locs hP hD hS => ?_)
  have hP : va_P (dC, dI) classes (ws_Sink_putBig4 h_t h_t_bytes k_t_bytes n_t_bytes w_t_bitStore w_t_bitsHeld r_21.2.1 r_21.2.2) H := hP.sub [0, 1] rfl
  have hD : va_D A (ws_Sink_putBig4 h_t h_t_bytes k_t_bytes n_t_bytes w_t_bitStore w_t_bitsHeld r_21.2.1 r_21.2.2) := hD.sub [0, 1] (by decide) rfl
  show W p l e R s m _ below meth c H locs 0 0 _ (F0 m 24 ls [])
  refine lv_aload_n hx hb d_Sink_putBig4_24 rfl (lv_at hl 0 rfl) ?_
  refine lv_iload_n hx hb d_Sink_putBig4_25 rfl (lv_at hl 1 rfl) ?_
  rcases dc_tryE h with ⟨r_26, hg_26, h⟩ | ⟨r_26, hg_26, h⟩
  rotate_left
  · cases h
    exact dc_thrV (y := y_Sink_put) (bytes := b_Sink_put) (maxL := 2) (ret' := none) (fr' := 6) (lo' := 110) (n := 1) (val := vl_v) (o := r_26) (tysc := [(k_t_bytes, .byte)]) (As := [.int x1]) (rest := []) (wc := (ws_Sink_put h_t h_t_bytes k_t_bytes n_t_bytes w_t_bitStore w_t_bitsHeld r_21.2.1 r_21.2.2)) (wr := []) (w1 := w1_Sink_put h_t h_t_bytes k_t_bytes n_t_bytes w_t_bitStore w_t_bitsHeld) C cw_Sink_put (lg_in1 (List.mem_of_getElem? (i := 2) rfl) rfl) (lg_in6 (List.mem_of_getElem? (i := 147) rfl) rfl) (lg_in6 (List.mem_of_getElem? (i := 126) rfl) rfl) (lg_in6 (List.mem_of_getElem? (i := 127) rfl) rfl) (ci := 11) (cq := (R_Sink, F_Sink, 4)) (q0 := 0) rfl rfl rfl (ct_Sink_put hfl dC dI h_t h_t_bytes k_t_bytes n_t_bytes w_t_bitStore w_t_bitsHeld H.size x1 r_21.2.1 r_21.2.2 hg_26) (by decide +kernel) ⟨Nat.le_of_ble_eq_true rfl, Nat.le_of_ble_eq_true rfl⟩ rfl rfl (Nat.le_of_ble_eq_true rfl) d_Sink_putBig4_26 hRc.1 hRc.2 hP hD hS hl.1 [0, 1] [] [0] rfl rfl rfl rfl (by decide) rfl (fun x t H1 locs1 a1 a2 a3 a4 hP hD hS => dc_leaveT (u := (r_26.1, (r_26.2.1, r_26.2.2))) (w1 := w1_Sink_putBig4 h_t h_t_bytes k_t_bytes n_t_bytes w_t_bitStore w_t_bitsHeld) C a1 a2 a3 a4 (hP.sub [0, 1] rfl) (hD.sub [0, 1] (by decide) rfl) hS)
  refine dc_callV (y := y_Sink_put) (bytes := b_Sink_put) (maxL := 2) (ret' := none) (fr' := 6) (lo' := 110) (n := 1) (val := vl_v) (o := r_26) (tysc := [(k_t_bytes, .byte)]) (As := [.int x1]) (rest := []) (wc := (ws_Sink_put h_t h_t_bytes k_t_bytes n_t_bytes w_t_bitStore w_t_bitsHeld r_21.2.1 r_21.2.2)) (wr := []) (w1 := w1_Sink_put h_t h_t_bytes k_t_bytes n_t_bytes w_t_bitStore w_t_bitsHeld) C cw_Sink_put (lg_in1 (List.mem_of_getElem? (i := 2) rfl) rfl) (lg_in6 (List.mem_of_getElem? (i := 147) rfl) rfl) (lg_in6 (List.mem_of_getElem? (i := 126) rfl) rfl) (lg_in6 (List.mem_of_getElem? (i := 127) rfl) rfl) (ci := 11) (cq := (R_Sink, F_Sink, 4)) (q0 := 0) rfl rfl rfl (cr_Sink_put hfl dC dI h_t h_t_bytes k_t_bytes n_t_bytes w_t_bitStore w_t_bitsHeld H.size x1 r_21.2.1 r_21.2.2 hg_26) (by decide +kernel) ⟨Nat.le_of_ble_eq_true rfl, Nat.le_of_ble_eq_true rfl⟩ rfl rfl (Nat.le_of_ble_eq_true rfl) d_Sink_putBig4_26 hP hD hS hl.1 [0, 1] [] [0] rfl rfl rfl rfl (by decide) rfl (fun H locs hP hD hS => ?_)
  have hP : va_P (dC, dI) classes (ws_Sink_putBig4 h_t h_t_bytes k_t_bytes n_t_bytes w_t_bitStore w_t_bitsHeld r_26.2.1 r_26.2.2) H := hP.sub [0, 1] rfl
  have hD : va_D A (ws_Sink_putBig4 h_t h_t_bytes k_t_bytes n_t_bytes w_t_bitStore w_t_bitsHeld r_26.2.1 r_26.2.2) := hD.sub [0, 1] (by decide) rfl
  show W p l e R s m _ below meth c H locs 0 0 _ (F0 m 29 ls [])
  cases h
  exact dc_vret C (u := (r_26.2.1, r_26.2.2)) (w1 := w1_Sink_putBig4 h_t h_t_bytes k_t_bytes n_t_bytes w_t_bitStore w_t_bitsHeld) hP hD hS d_Sink_putBig4_29
theorem cr_Sink_putBig4 {l : Launch} (hfl : l.flags = flags0) (dC : Nat → ClassId) (dI : Nat → Nat → Nat) (h_t : Nat) (h_t_bytes : Nat) (k_t_bytes : ClassId) (n_t_bytes : Nat) (w_t_bitStore : Int32) (w_t_bitsHeld : Int32) (sz : Nat) (x1 : Int32) (t_filled : Int32) (a_t_bytes : Nat → Int32) {u : Unit × (Int32 × (Nat → Int32))} (h : f_Sink_putBig4 n_t_bytes x1 t_filled a_t_bytes = some (.inl u)) : MetX l y_Sink_putBig4 (Cond.code y_Sink_putBig4 b_Sink_putBig4 2 none :: lw_g) (rmx 7 131 0 0) (vx_Pre dC dI [(k_t_bytes, .byte)] [.ref h_t, .int x1] sz (ws_Sink_putBig4 h_t h_t_bytes k_t_bytes n_t_bytes w_t_bitStore w_t_bitsHeld t_filled a_t_bytes)) (vx_Q vl_v (.inl u) (fun u t => vx_B dC dI [(k_t_bytes, .byte)] (va_A (ws_Sink_putBig4 h_t h_t_bytes k_t_bytes n_t_bytes w_t_bitStore w_t_bitsHeld t_filled a_t_bytes) sz) (w1_Sink_putBig4 h_t h_t_bytes k_t_bytes n_t_bytes w_t_bitStore w_t_bitsHeld u) t) (va_A (ws_Sink_putBig4 h_t h_t_bytes k_t_bytes n_t_bytes w_t_bitStore w_t_bitsHeld t_filled a_t_bytes) sz)) 0 0 (va_A (ws_Sink_putBig4 h_t h_t_bytes k_t_bytes n_t_bytes w_t_bitStore w_t_bitsHeld t_filled a_t_bytes) sz) := dc_cr rfl (c_Sink_putBig4 hfl dC dI h_t h_t_bytes k_t_bytes n_t_bytes w_t_bitStore w_t_bitsHeld sz x1 t_filled a_t_bytes h)
theorem ct_Sink_putBig4 {l : Launch} (hfl : l.flags = flags0) (dC : Nat → ClassId) (dI : Nat → Nat → Nat) (h_t : Nat) (h_t_bytes : Nat) (k_t_bytes : ClassId) (n_t_bytes : Nat) (w_t_bitStore : Int32) (w_t_bitsHeld : Int32) (sz : Nat) (x1 : Int32) (t_filled : Int32) (a_t_bytes : Nat → Int32) {u : Nat × (Int32 × (Nat → Int32))} (h : f_Sink_putBig4 n_t_bytes x1 t_filled a_t_bytes = some (.inr u)) : MetX l y_Sink_putBig4 (Cond.code y_Sink_putBig4 b_Sink_putBig4 2 none :: lw_g) (rmx 7 131 1 6) (vx_Pre dC dI [(k_t_bytes, .byte)] [.ref h_t, .int x1] sz (ws_Sink_putBig4 h_t h_t_bytes k_t_bytes n_t_bytes w_t_bitStore w_t_bitsHeld t_filled a_t_bytes)) (vx_Q vl_v (.inr u) (fun u t => vx_B dC dI [(k_t_bytes, .byte)] (va_A (ws_Sink_putBig4 h_t h_t_bytes k_t_bytes n_t_bytes w_t_bitStore w_t_bitsHeld t_filled a_t_bytes) sz) (w1_Sink_putBig4 h_t h_t_bytes k_t_bytes n_t_bytes w_t_bitStore w_t_bitsHeld u) t) (va_A (ws_Sink_putBig4 h_t h_t_bytes k_t_bytes n_t_bytes w_t_bitStore w_t_bitsHeld t_filled a_t_bytes) sz)) 1 6 (va_A (ws_Sink_putBig4 h_t h_t_bytes k_t_bytes n_t_bytes w_t_bitStore w_t_bitsHeld t_filled a_t_bytes) sz) := dc_ct rfl (c_Sink_putBig4 hfl dC dI h_t h_t_bytes k_t_bytes n_t_bytes w_t_bitStore w_t_bitsHeld sz x1 t_filled a_t_bytes h)
def ws_PngWriter_openPart (h_p1 : Nat) (h_p1_bytes : Nat) (k_p1_bytes : ClassId) (n_p1_bytes : Nat) (w_p1_bitStore : Int32) (w_p1_bitsHeld : Int32) (p1_filled : Int32) (a_p1_bytes : Nat → Int32) : va_W := [(h_p1, .inr (11, [.ref h_p1_bytes, .int p1_filled, .int w_p1_bitStore, .int w_p1_bitsHeld])), (h_p1_bytes, .inl (k_p1_bytes, n_p1_bytes, .inl a_p1_bytes))]
abbrev w1_PngWriter_openPart (h_p1 : Nat) (h_p1_bytes : Nat) (k_p1_bytes : ClassId) (n_p1_bytes : Nat) (w_p1_bitStore : Int32) (w_p1_bitsHeld : Int32)  (u : Int32 × (Nat → Int32)) : va_W := ws_PngWriter_openPart h_p1 h_p1_bytes k_p1_bytes n_p1_bytes w_p1_bitStore w_p1_bitsHeld u.1 u.2
abbrev q_PngWriter_openPart (below : List Frame) (args : Array Value) (s : State) (dC : Nat → ClassId) (dI : Nat → Nat → Nat) (A : Nat → Prop) (h_p1 : Nat) (h_p1_bytes : Nat) (k_p1_bytes : ClassId) (n_p1_bytes : Nat) (w_p1_bitStore : Int32) (w_p1_bitsHeld : Int32)  (o : (Int32 × (Int32 × (Nat → Int32))) ⊕ (Nat × (Int32 × (Nat → Int32)))) : State → Prop := XQ below (vx_Q vl_i o (fun u t => vx_B dC dI [(k_p1_bytes, .byte)] A (w1_PngWriter_openPart h_p1 h_p1_bytes k_p1_bytes n_p1_bytes w_p1_bitStore w_p1_bitsHeld u) t) A) args s (mcx o) (msx o) A
theorem d_PngWriter_openPart_0 : decode b_PngWriter_openPart 0 = .ok (.aload_n 1, 1) := by decide +kernel
theorem d_PngWriter_openPart_1 : decode b_PngWriter_openPart 1 = .ok (.invokevirtual 64, 3) := by decide +kernel
theorem d_PngWriter_openPart_4 : decode b_PngWriter_openPart 4 = .ok (.istore_n 2, 1) := by decide +kernel
theorem d_PngWriter_openPart_5 : decode b_PngWriter_openPart 5 = .ok (.aload_n 1, 1) := by decide +kernel
theorem d_PngWriter_openPart_6 : decode b_PngWriter_openPart 6 = .ok (.iconst 0, 1) := by decide +kernel
theorem d_PngWriter_openPart_7 : decode b_PngWriter_openPart 7 = .ok (.invokevirtual 68, 3) := by decide +kernel
theorem d_PngWriter_openPart_10 : decode b_PngWriter_openPart 10 = .ok (.aload_n 1, 1) := by decide +kernel
theorem d_PngWriter_openPart_11 : decode b_PngWriter_openPart 11 = .ok (.iload_n 0, 1) := by decide +kernel
theorem d_PngWriter_openPart_12 : decode b_PngWriter_openPart 12 = .ok (.invokevirtual 68, 3) := by decide +kernel
theorem d_PngWriter_openPart_15 : decode b_PngWriter_openPart 15 = .ok (.iload_n 2, 1) := by decide +kernel
theorem d_PngWriter_openPart_16 : decode b_PngWriter_openPart 16 = .ok (.ireturn, 1) := by decide +kernel
def f_PngWriter_openPart (n_p1_bytes : Nat) (x0 : Int32) (p1_filled : Int32) (a_p1_bytes : Nat → Int32) : Option ((Int32 × (Int32 × (Nat → Int32))) ⊕ (Nat × (Int32 × (Nat → Int32)))) := dc_bind (f_Sink_filled p1_filled) (fun r_1 => dc_try (f_Sink_putBig4 n_p1_bytes 0 p1_filled a_p1_bytes) (fun r_7 => dc_try (f_Sink_putBig4 n_p1_bytes x0 r_7.2.1 r_7.2.2) (fun r_12 => some (.inl (r_1.1, (r_12.2.1, r_12.2.2)))) (fun r_12 => some (.inr (r_12.1, (r_12.2.1, r_12.2.2))))) (fun r_7 => some (.inr (r_7.1, (r_7.2.1, r_7.2.2)))))
set_option maxHeartbeats 400000 in
set_option maxRecDepth 100000 in
theorem c_PngWriter_openPart {l : Launch} (hfl : l.flags = flags0) (dC : Nat → ClassId) (dI : Nat → Nat → Nat) (h_p1 : Nat) (h_p1_bytes : Nat) (k_p1_bytes : ClassId) (n_p1_bytes : Nat) (w_p1_bitStore : Int32) (w_p1_bitsHeld : Int32) (sz : Nat) (x0 : Int32) (p1_filled : Int32) (a_p1_bytes : Nat → Int32) {o : (Int32 × (Int32 × (Nat → Int32))) ⊕ (Nat × (Int32 × (Nat → Int32)))} (h : f_PngWriter_openPart n_p1_bytes x0 p1_filled a_p1_bytes = some o) : MetX l y_PngWriter_openPart (Cond.code y_PngWriter_openPart b_PngWriter_openPart 3 (some .int) :: lw_g) (rmx 8 152 (mcx o) (msx o)) (vx_Pre dC dI [(k_p1_bytes, .byte)] [.int x0, .ref h_p1] sz (ws_PngWriter_openPart h_p1 h_p1_bytes k_p1_bytes n_p1_bytes w_p1_bitStore w_p1_bitsHeld p1_filled a_p1_bytes)) (vx_Q vl_i o (fun u t => vx_B dC dI [(k_p1_bytes, .byte)] (va_A (ws_PngWriter_openPart h_p1 h_p1_bytes k_p1_bytes n_p1_bytes w_p1_bitStore w_p1_bitsHeld p1_filled a_p1_bytes) sz) (w1_PngWriter_openPart h_p1 h_p1_bytes k_p1_bytes n_p1_bytes w_p1_bitStore w_p1_bitsHeld u) t) (va_A (ws_PngWriter_openPart h_p1 h_p1_bytes k_p1_bytes n_p1_bytes w_p1_bitStore w_p1_bitsHeld p1_filled a_p1_bytes) sz)) (mcx o) (msx o) (va_A (ws_PngWriter_openPart h_p1 h_p1_bytes k_p1_bytes n_p1_bytes w_p1_bitStore w_p1_bitsHeld p1_filled a_p1_bytes) sz) := by
  refine MetX.ofW (cc := b_PngWriter_openPart) (maxL := 3) (ret := (some .int)) (by decide +kernel) rfl ?_
  intro p e s m args below meth c s₁ B hml hv
  obtain ⟨rfl, rfl, C, hP, hD, hS⟩ := dc_entry hfl B hml hv
  have hl := lv_entry ([.int x0, .ref h_p1]) (n := 3) (Nat.le_of_ble_eq_true rfl)
  rw [lg_entry_eq]
  generalize (lg_sl ([.int x0, .ref h_p1]) ++ List.replicate (3 - (lg_sl ([.int x0, .ref h_p1])).length) Slot.unset).toArray = ls at hl ⊢
  have hl : lv_has ls 3 [(0, .int x0), (1, .ref h_p1)] := hl
  generalize hAe : va_A (ws_PngWriter_openPart h_p1 h_p1_bytes k_p1_bytes n_p1_bytes w_p1_bitStore w_p1_bitsHeld p1_filled a_p1_bytes) s.heap.size = A at C hD hS ⊢
  have hRc : mcx o ≤ (headSpec (Cond.code y_PngWriter_openPart b_PngWriter_openPart 3 (some .int) :: lw_g) (rmx 8 152 (mcx o) (msx o))).room.cells ∧ msx o ≤ (headSpec (Cond.code y_PngWriter_openPart b_PngWriter_openPart 3 (some .int) :: lw_g) (rmx 8 152 (mcx o) (msx o))).room.slots := ⟨Nat.le_refl _, Nat.le_refl _⟩
  generalize (headSpec (Cond.code y_PngWriter_openPart b_PngWriter_openPart 3 (some .int) :: lw_g) (rmx 8 152 (mcx o) (msx o))).room = R at C hRc ⊢
  have C : cx p l e R s m _ meth c dC dI A R_PngWriter b_PngWriter_openPart 3 (some .int) 8 152 [(k_p1_bytes, .byte)] := C
  obtain ⟨hx, hb, hr, hml, hown, hts, hlk, hK, hA, hV, htr, hex, hF, hL, hfl⟩ := id C
  unfold f_PngWriter_openPart at h
  revert hP hS
  generalize hH : s.heap = H
  generalize hLo : ([] : List Loc) = locs
  intro hP hS
  have hS : va_S A s.heap H locs := by rw [hH]; exact hS
  refine lv_aload_n hx hb d_PngWriter_openPart_0 rfl (lv_at hl 1 rfl) ?_
  obtain ⟨r_1, hg_1, h⟩ := dc_bindE h
  refine dc_callV (y := y_Sink_filled) (bytes := b_Sink_filled) (maxL := 1) (ret' := (some .int)) (fr' := 0) (lo' := 0) (n := 0) (val := vl_i) (o := r_1) (tysc := []) (As := []) (rest := []) (wc := (ws_Sink_filled h_p1 h_p1_bytes w_p1_bitStore w_p1_bitsHeld p1_filled)) (wr := [(h_p1_bytes, .inl (k_p1_bytes, n_p1_bytes, .inl a_p1_bytes))]) (w1 := w1_Sink_filled h_p1 h_p1_bytes w_p1_bitStore w_p1_bitsHeld p1_filled) C cw_Sink_filled (lg_in1 (List.mem_of_getElem? (i := 2) rfl) rfl) (lg_in6 (List.mem_of_getElem? (i := 139) rfl) rfl) (lg_in6 (List.mem_of_getElem? (i := 140) rfl) rfl) (lg_in6 (List.mem_of_getElem? (i := 141) rfl) rfl) (ci := 11) (cq := (R_Sink, F_Sink, 4)) (q0 := 0) rfl rfl rfl (c_Sink_filled hfl dC dI h_p1 h_p1_bytes w_p1_bitStore w_p1_bitsHeld H.size p1_filled hg_1) (by decide +kernel) ⟨Nat.le_of_ble_eq_true rfl, Nat.le_of_ble_eq_true rfl⟩ rfl rfl (Nat.le_of_ble_eq_true rfl) d_PngWriter_openPart_1 hP hD hS hl.1 [0] [1] [] rfl rfl rfl rfl (by decide) rfl (fun H locs hP hD hS => ?_)
  have hP : va_P (dC, dI) classes (ws_PngWriter_openPart h_p1 h_p1_bytes k_p1_bytes n_p1_bytes w_p1_bitStore w_p1_bitsHeld p1_filled a_p1_bytes) H := hP.sub [1, 0] rfl
  have hD : va_D A (ws_PngWriter_openPart h_p1 h_p1_bytes k_p1_bytes n_p1_bytes w_p1_bitStore w_p1_bitsHeld p1_filled a_p1_bytes) := hD.sub [1, 0] (by decide) rfl
  show W p l e R s m _ below meth c H locs 0 0 _ (F0 m 4 ls [.int r_1.1])
  refine lv_istore_n (lv' := [(2, .int r_1.1), (0, .int x0), (1, .ref h_p1)]) hx hb d_PngWriter_openPart_4 rfl hl (by decide) rfl (fun ls hl => ?_)
  refine lv_aload_n hx hb d_PngWriter_openPart_5 rfl (lv_at hl 2 rfl) ?_
  refine lv_iconst (v := 0) hx hb d_PngWriter_openPart_6 (by decide) ?_
  rcases dc_tryE h with ⟨r_7, hg_7, h⟩ | ⟨r_7, hg_7, h⟩
  rotate_left
  · cases h
    exact dc_thrV (y := y_Sink_putBig4) (bytes := b_Sink_putBig4) (maxL := 2) (ret' := none) (fr' := 7) (lo' := 131) (n := 1) (val := vl_v) (o := r_7) (tysc := [(k_p1_bytes, .byte)]) (As := [.int 0]) (rest := []) (wc := (ws_Sink_putBig4 h_p1 h_p1_bytes k_p1_bytes n_p1_bytes w_p1_bitStore w_p1_bitsHeld p1_filled a_p1_bytes)) (wr := []) (w1 := w1_Sink_putBig4 h_p1 h_p1_bytes k_p1_bytes n_p1_bytes w_p1_bitStore w_p1_bitsHeld) C cw_Sink_putBig4 (lg_in1 (List.mem_of_getElem? (i := 2) rfl) rfl) (lg_in6 (List.mem_of_getElem? (i := 143) rfl) rfl) (lg_in6 (List.mem_of_getElem? (i := 144) rfl) rfl) (lg_in6 (List.mem_of_getElem? (i := 145) rfl) rfl) (ci := 11) (cq := (R_Sink, F_Sink, 4)) (q0 := 0) rfl rfl rfl (ct_Sink_putBig4 hfl dC dI h_p1 h_p1_bytes k_p1_bytes n_p1_bytes w_p1_bitStore w_p1_bitsHeld H.size 0 p1_filled a_p1_bytes hg_7) (by decide +kernel) ⟨Nat.le_of_ble_eq_true rfl, Nat.le_of_ble_eq_true rfl⟩ rfl rfl (Nat.le_of_ble_eq_true rfl) d_PngWriter_openPart_7 hRc.1 hRc.2 hP hD hS hl.1 [0, 1] [] [0] rfl rfl rfl rfl (by decide) rfl (fun x t H1 locs1 a1 a2 a3 a4 hP hD hS => dc_leaveT (u := (r_7.1, (r_7.2.1, r_7.2.2))) (w1 := w1_PngWriter_openPart h_p1 h_p1_bytes k_p1_bytes n_p1_bytes w_p1_bitStore w_p1_bitsHeld) C a1 a2 a3 a4 (hP.sub [0, 1] rfl) (hD.sub [0, 1] (by decide) rfl) hS)
  refine dc_callV (y := y_Sink_putBig4) (bytes := b_Sink_putBig4) (maxL := 2) (ret' := none) (fr' := 7) (lo' := 131) (n := 1) (val := vl_v) (o := r_7) (tysc := [(k_p1_bytes, .byte)]) (As := [.int 0]) (rest := []) (wc := (ws_Sink_putBig4 h_p1 h_p1_bytes k_p1_bytes n_p1_bytes w_p1_bitStore w_p1_bitsHeld p1_filled a_p1_bytes)) (wr := []) (w1 := w1_Sink_putBig4 h_p1 h_p1_bytes k_p1_bytes n_p1_bytes w_p1_bitStore w_p1_bitsHeld) C cw_Sink_putBig4 (lg_in1 (List.mem_of_getElem? (i := 2) rfl) rfl) (lg_in6 (List.mem_of_getElem? (i := 143) rfl) rfl) (lg_in6 (List.mem_of_getElem? (i := 144) rfl) rfl) (lg_in6 (List.mem_of_getElem? (i := 145) rfl) rfl) (ci := 11) (cq := (R_Sink, F_Sink, 4)) (q0 := 0) rfl rfl rfl (cr_Sink_putBig4 hfl dC dI h_p1 h_p1_bytes k_p1_bytes n_p1_bytes w_p1_bitStore w_p1_bitsHeld H.size 0 p1_filled a_p1_bytes hg_7) (by decide +kernel) ⟨Nat.le_of_ble_eq_true rfl, Nat.le_of_ble_eq_true rfl⟩ rfl rfl (Nat.le_of_ble_eq_true rfl) d_PngWriter_openPart_7 hP hD hS hl.1 [0, 1] [] [0] rfl rfl rfl rfl (by decide) rfl (fun H locs hP hD hS => ?_)
  have hP : va_P (dC, dI) classes (ws_PngWriter_openPart h_p1 h_p1_bytes k_p1_bytes n_p1_bytes w_p1_bitStore w_p1_bitsHeld r_7.2.1 r_7.2.2) H := hP.sub [0, 1] rfl
  have hD : va_D A (ws_PngWriter_openPart h_p1 h_p1_bytes k_p1_bytes n_p1_bytes w_p1_bitStore w_p1_bitsHeld r_7.2.1 r_7.2.2) := hD.sub [0, 1] (by decide) rfl
  show W p l e R s m _ below meth c H locs 0 0 _ (F0 m 10 ls [])
  refine lv_aload_n hx hb d_PngWriter_openPart_10 rfl (lv_at hl 2 rfl) ?_
  refine lv_iload_n hx hb d_PngWriter_openPart_11 rfl (lv_at hl 1 rfl) ?_
  rcases dc_tryE h with ⟨r_12, hg_12, h⟩ | ⟨r_12, hg_12, h⟩
  rotate_left
  · cases h
    exact dc_thrV (y := y_Sink_putBig4) (bytes := b_Sink_putBig4) (maxL := 2) (ret' := none) (fr' := 7) (lo' := 131) (n := 1) (val := vl_v) (o := r_12) (tysc := [(k_p1_bytes, .byte)]) (As := [.int x0]) (rest := []) (wc := (ws_Sink_putBig4 h_p1 h_p1_bytes k_p1_bytes n_p1_bytes w_p1_bitStore w_p1_bitsHeld r_7.2.1 r_7.2.2)) (wr := []) (w1 := w1_Sink_putBig4 h_p1 h_p1_bytes k_p1_bytes n_p1_bytes w_p1_bitStore w_p1_bitsHeld) C cw_Sink_putBig4 (lg_in1 (List.mem_of_getElem? (i := 2) rfl) rfl) (lg_in6 (List.mem_of_getElem? (i := 143) rfl) rfl) (lg_in6 (List.mem_of_getElem? (i := 144) rfl) rfl) (lg_in6 (List.mem_of_getElem? (i := 145) rfl) rfl) (ci := 11) (cq := (R_Sink, F_Sink, 4)) (q0 := 0) rfl rfl rfl (ct_Sink_putBig4 hfl dC dI h_p1 h_p1_bytes k_p1_bytes n_p1_bytes w_p1_bitStore w_p1_bitsHeld H.size x0 r_7.2.1 r_7.2.2 hg_12) (by decide +kernel) ⟨Nat.le_of_ble_eq_true rfl, Nat.le_of_ble_eq_true rfl⟩ rfl rfl (Nat.le_of_ble_eq_true rfl) d_PngWriter_openPart_12 hRc.1 hRc.2 hP hD hS hl.1 [0, 1] [] [0] rfl rfl rfl rfl (by decide) rfl (fun x t H1 locs1 a1 a2 a3 a4 hP hD hS => dc_leaveT (u := (r_12.1, (r_12.2.1, r_12.2.2))) (w1 := w1_PngWriter_openPart h_p1 h_p1_bytes k_p1_bytes n_p1_bytes w_p1_bitStore w_p1_bitsHeld) C a1 a2 a3 a4 (hP.sub [0, 1] rfl) (hD.sub [0, 1] (by decide) rfl) hS)
  refine dc_callV (y := y_Sink_putBig4) (bytes := b_Sink_putBig4) (maxL := 2) (ret' := none) (fr' := 7) (lo' := 131) (n := 1) (val := vl_v) (o := r_12) (tysc := [(k_p1_bytes, .byte)]) (As := [.int x0]) (rest := []) (wc := (ws_Sink_putBig4 h_p1 h_p1_bytes k_p1_bytes n_p1_bytes w_p1_bitStore w_p1_bitsHeld r_7.2.1 r_7.2.2)) (wr := []) (w1 := w1_Sink_putBig4 h_p1 h_p1_bytes k_p1_bytes n_p1_bytes w_p1_bitStore w_p1_bitsHeld) C cw_Sink_putBig4 (lg_in1 (List.mem_of_getElem? (i := 2) rfl) rfl) (lg_in6 (List.mem_of_getElem? (i := 143) rfl) rfl) (lg_in6 (List.mem_of_getElem? (i := 144) rfl) rfl) (lg_in6 (List.mem_of_getElem? (i := 145) rfl) rfl) (ci := 11) (cq := (R_Sink, F_Sink, 4)) (q0 := 0) rfl rfl rfl (cr_Sink_putBig4 hfl dC dI h_p1 h_p1_bytes k_p1_bytes n_p1_bytes w_p1_bitStore w_p1_bitsHeld H.size x0 r_7.2.1 r_7.2.2 hg_12) (by decide +kernel) ⟨Nat.le_of_ble_eq_true rfl, Nat.le_of_ble_eq_true rfl⟩ rfl rfl (Nat.le_of_ble_eq_true rfl) d_PngWriter_openPart_12 hP hD hS hl.1 [0, 1] [] [0] rfl rfl rfl rfl (by decide) rfl (fun H locs hP hD hS => ?_)
  have hP : va_P (dC, dI) classes (ws_PngWriter_openPart h_p1 h_p1_bytes k_p1_bytes n_p1_bytes w_p1_bitStore w_p1_bitsHeld r_12.2.1 r_12.2.2) H := hP.sub [0, 1] rfl
  have hD : va_D A (ws_PngWriter_openPart h_p1 h_p1_bytes k_p1_bytes n_p1_bytes w_p1_bitStore w_p1_bitsHeld r_12.2.1 r_12.2.2) := hD.sub [0, 1] (by decide) rfl
  show W p l e R s m _ below meth c H locs 0 0 _ (F0 m 15 ls [])
  refine lv_iload_n hx hb d_PngWriter_openPart_15 rfl (lv_at hl 0 rfl) ?_
  cases h
  exact dc_iret C (v := r_1.1) (u := (r_12.2.1, r_12.2.2)) (w1 := w1_PngWriter_openPart h_p1 h_p1_bytes k_p1_bytes n_p1_bytes w_p1_bitStore w_p1_bitsHeld) hP hD hS d_PngWriter_openPart_16
theorem cr_PngWriter_openPart {l : Launch} (hfl : l.flags = flags0) (dC : Nat → ClassId) (dI : Nat → Nat → Nat) (h_p1 : Nat) (h_p1_bytes : Nat) (k_p1_bytes : ClassId) (n_p1_bytes : Nat) (w_p1_bitStore : Int32) (w_p1_bitsHeld : Int32) (sz : Nat) (x0 : Int32) (p1_filled : Int32) (a_p1_bytes : Nat → Int32) {u : Int32 × (Int32 × (Nat → Int32))} (h : f_PngWriter_openPart n_p1_bytes x0 p1_filled a_p1_bytes = some (.inl u)) : MetX l y_PngWriter_openPart (Cond.code y_PngWriter_openPart b_PngWriter_openPart 3 (some .int) :: lw_g) (rmx 8 152 0 0) (vx_Pre dC dI [(k_p1_bytes, .byte)] [.int x0, .ref h_p1] sz (ws_PngWriter_openPart h_p1 h_p1_bytes k_p1_bytes n_p1_bytes w_p1_bitStore w_p1_bitsHeld p1_filled a_p1_bytes)) (vx_Q vl_i (.inl u) (fun u t => vx_B dC dI [(k_p1_bytes, .byte)] (va_A (ws_PngWriter_openPart h_p1 h_p1_bytes k_p1_bytes n_p1_bytes w_p1_bitStore w_p1_bitsHeld p1_filled a_p1_bytes) sz) (w1_PngWriter_openPart h_p1 h_p1_bytes k_p1_bytes n_p1_bytes w_p1_bitStore w_p1_bitsHeld u) t) (va_A (ws_PngWriter_openPart h_p1 h_p1_bytes k_p1_bytes n_p1_bytes w_p1_bitStore w_p1_bitsHeld p1_filled a_p1_bytes) sz)) 0 0 (va_A (ws_PngWriter_openPart h_p1 h_p1_bytes k_p1_bytes n_p1_bytes w_p1_bitStore w_p1_bitsHeld p1_filled a_p1_bytes) sz) := dc_cr rfl (c_PngWriter_openPart hfl dC dI h_p1 h_p1_bytes k_p1_bytes n_p1_bytes w_p1_bitStore w_p1_bitsHeld sz x0 p1_filled a_p1_bytes h)
theorem ct_PngWriter_openPart {l : Launch} (hfl : l.flags = flags0) (dC : Nat → ClassId) (dI : Nat → Nat → Nat) (h_p1 : Nat) (h_p1_bytes : Nat) (k_p1_bytes : ClassId) (n_p1_bytes : Nat) (w_p1_bitStore : Int32) (w_p1_bitsHeld : Int32) (sz : Nat) (x0 : Int32) (p1_filled : Int32) (a_p1_bytes : Nat → Int32) {u : Nat × (Int32 × (Nat → Int32))} (h : f_PngWriter_openPart n_p1_bytes x0 p1_filled a_p1_bytes = some (.inr u)) : MetX l y_PngWriter_openPart (Cond.code y_PngWriter_openPart b_PngWriter_openPart 3 (some .int) :: lw_g) (rmx 8 152 1 6) (vx_Pre dC dI [(k_p1_bytes, .byte)] [.int x0, .ref h_p1] sz (ws_PngWriter_openPart h_p1 h_p1_bytes k_p1_bytes n_p1_bytes w_p1_bitStore w_p1_bitsHeld p1_filled a_p1_bytes)) (vx_Q vl_i (.inr u) (fun u t => vx_B dC dI [(k_p1_bytes, .byte)] (va_A (ws_PngWriter_openPart h_p1 h_p1_bytes k_p1_bytes n_p1_bytes w_p1_bitStore w_p1_bitsHeld p1_filled a_p1_bytes) sz) (w1_PngWriter_openPart h_p1 h_p1_bytes k_p1_bytes n_p1_bytes w_p1_bitStore w_p1_bitsHeld u) t) (va_A (ws_PngWriter_openPart h_p1 h_p1_bytes k_p1_bytes n_p1_bytes w_p1_bitStore w_p1_bitsHeld p1_filled a_p1_bytes) sz)) 1 6 (va_A (ws_PngWriter_openPart h_p1 h_p1_bytes k_p1_bytes n_p1_bytes w_p1_bitStore w_p1_bitsHeld p1_filled a_p1_bytes) sz) := dc_ct rfl (c_PngWriter_openPart hfl dC dI h_p1 h_p1_bytes k_p1_bytes n_p1_bytes w_p1_bitStore w_p1_bitsHeld sz x0 p1_filled a_p1_bytes h)
def ws_Sink_crcFrom (h_t : Nat) (h_t_bytes : Nat) (k_t_bytes : ClassId) (n_t_bytes : Nat) (w_t_bitStore : Int32) (w_t_bitsHeld : Int32) (t_filled : Int32) (a_t_bytes : Nat → Int32) : va_W := [(h_t, .inr (11, [.ref h_t_bytes, .int t_filled, .int w_t_bitStore, .int w_t_bitsHeld])), (h_t_bytes, .inl (k_t_bytes, n_t_bytes, .inl a_t_bytes))]
abbrev w1_Sink_crcFrom (h_t : Nat) (h_t_bytes : Nat) (k_t_bytes : ClassId) (n_t_bytes : Nat) (w_t_bitStore : Int32) (w_t_bitsHeld : Int32) (t_filled : Int32) (a_t_bytes : Nat → Int32) (u : Unit) : va_W := ws_Sink_crcFrom h_t h_t_bytes k_t_bytes n_t_bytes w_t_bitStore w_t_bitsHeld t_filled a_t_bytes
abbrev q_Sink_crcFrom (below : List Frame) (args : Array Value) (s : State) (dC : Nat → ClassId) (dI : Nat → Nat → Nat) (A : Nat → Prop) (h_t : Nat) (h_t_bytes : Nat) (k_t_bytes : ClassId) (n_t_bytes : Nat) (w_t_bitStore : Int32) (w_t_bitsHeld : Int32) (t_filled : Int32) (a_t_bytes : Nat → Int32) (o : Int32 × Unit) : State → Prop := XQ below (vx_Q vl_i (.inl o) (fun u t => vx_B dC dI [(k_t_bytes, .byte)] A (w1_Sink_crcFrom h_t h_t_bytes k_t_bytes n_t_bytes w_t_bitStore w_t_bitsHeld t_filled a_t_bytes u) t) A) args s 0 0 A
theorem d_Sink_crcFrom_0 : decode b_Sink_crcFrom 0 = .ok (.aload_n 0, 1) := by decide +kernel
theorem d_Sink_crcFrom_1 : decode b_Sink_crcFrom 1 = .ok (.getfield 19, 3) := by decide +kernel
theorem d_Sink_crcFrom_4 : decode b_Sink_crcFrom 4 = .ok (.iload_n 1, 1) := by decide +kernel
theorem d_Sink_crcFrom_5 : decode b_Sink_crcFrom 5 = .ok (.aload_n 0, 1) := by decide +kernel
theorem d_Sink_crcFrom_6 : decode b_Sink_crcFrom 6 = .ok (.getfield 7, 3) := by decide +kernel
theorem d_Sink_crcFrom_9 : decode b_Sink_crcFrom 9 = .ok (.invokestatic 63, 3) := by decide +kernel
theorem d_Sink_crcFrom_12 : decode b_Sink_crcFrom 12 = .ok (.ireturn, 1) := by decide +kernel
def f_Sink_crcFrom (K : Nat) (n_t_bytes : Nat) (x1 : Int32) (t_filled : Int32) (a_t_bytes : Nat → Int32) : Option (Int32 × Unit) := dc_bind (f_D_crcOf K n_t_bytes x1 t_filled a_t_bytes) (fun r_9 => some (r_9.1, ()))
set_option maxHeartbeats 400000 in
set_option maxRecDepth 100000 in
theorem c_Sink_crcFrom {l : Launch} (hfl : l.flags = flags0) (dC : Nat → ClassId) (dI : Nat → Nat → Nat) (h_t : Nat) (h_t_bytes : Nat) (k_t_bytes : ClassId) (n_t_bytes : Nat) (w_t_bitStore : Int32) (w_t_bitsHeld : Int32) (sz : Nat) (K : Nat) (x1 : Int32) (t_filled : Int32) (a_t_bytes : Nat → Int32) {o : Int32 × Unit} (h : f_Sink_crcFrom K n_t_bytes x1 t_filled a_t_bytes = some o) : MetX l y_Sink_crcFrom (Cond.code y_Sink_crcFrom b_Sink_crcFrom 2 (some .int) :: lw_g) (rmx 2 65 0 0) (vx_Pre dC dI [(k_t_bytes, .byte)] [.ref h_t, .int x1] sz (ws_Sink_crcFrom h_t h_t_bytes k_t_bytes n_t_bytes w_t_bitStore w_t_bitsHeld t_filled a_t_bytes)) (vx_Q vl_i (.inl o) (fun u t => vx_B dC dI [(k_t_bytes, .byte)] (va_A (ws_Sink_crcFrom h_t h_t_bytes k_t_bytes n_t_bytes w_t_bitStore w_t_bitsHeld t_filled a_t_bytes) sz) (w1_Sink_crcFrom h_t h_t_bytes k_t_bytes n_t_bytes w_t_bitStore w_t_bitsHeld t_filled a_t_bytes u) t) (va_A (ws_Sink_crcFrom h_t h_t_bytes k_t_bytes n_t_bytes w_t_bitStore w_t_bitsHeld t_filled a_t_bytes) sz)) 0 0 (va_A (ws_Sink_crcFrom h_t h_t_bytes k_t_bytes n_t_bytes w_t_bitStore w_t_bitsHeld t_filled a_t_bytes) sz) := by
  refine MetX.ofW (cc := b_Sink_crcFrom) (maxL := 2) (ret := (some .int)) (by decide +kernel) rfl ?_
  intro p e s m args below meth c s₁ B hml hv
  obtain ⟨rfl, rfl, C, hP, hD, hS⟩ := dc_entry hfl B hml hv
  have hl := lv_entry ([.ref h_t, .int x1]) (n := 2) (Nat.le_of_ble_eq_true rfl)
  rw [lg_entry_eq]
  generalize (lg_sl ([.ref h_t, .int x1]) ++ List.replicate (2 - (lg_sl ([.ref h_t, .int x1])).length) Slot.unset).toArray = ls at hl ⊢
  have hl : lv_has ls 2 [(0, .ref h_t), (1, .int x1)] := hl
  generalize hAe : va_A (ws_Sink_crcFrom h_t h_t_bytes k_t_bytes n_t_bytes w_t_bitStore w_t_bitsHeld t_filled a_t_bytes) s.heap.size = A at C hD hS ⊢
  generalize (headSpec (Cond.code y_Sink_crcFrom b_Sink_crcFrom 2 (some .int) :: lw_g) (rmx 2 65 0 0)).room = R at C ⊢
  have C : cx p l e R s m _ meth c dC dI A R_Sink b_Sink_crcFrom 2 (some .int) 2 65 [(k_t_bytes, .byte)] := C
  obtain ⟨hx, hb, hr, hml, hown, hts, hlk, hK, hA, hV, htr, hex, hF, hL, hfl⟩ := id C
  unfold f_Sink_crcFrom at h
  revert hP hS
  generalize hH : s.heap = H
  generalize hLo : ([] : List Loc) = locs
  intro hP hS
  have hS : va_S A s.heap H locs := by rw [hH]; exact hS
  refine lv_aload_n hx hb d_Sink_crcFrom_0 rfl (lv_at hl 0 rfl) ?_
  refine va_get (D := (dC, dI)) (ci := 11) (v := .ref h_t_bytes) (C := R_Sink) (T := F_Sink) (N := 4) hx hb hts i_Sink hown hK hP 0 rfl rfl 0 (by decide) (hts _ (lg_in1 (List.mem_of_getElem? (i := 49) rfl) rfl)) (fun _ h9 => h9) rfl d_Sink_crcFrom_1 ?_
  refine lv_iload_n hx hb d_Sink_crcFrom_4 rfl (lv_at hl 1 rfl) ?_
  refine lv_aload_n hx hb d_Sink_crcFrom_5 rfl (lv_at hl 0 rfl) ?_
  refine va_get (D := (dC, dI)) (ci := 11) (v := .int t_filled) (C := R_Sink) (T := F_Sink) (N := 4) hx hb hts i_Sink hown hK hP 0 rfl rfl 1 (by decide) (hts _ (lg_in1 (List.mem_of_getElem? (i := 50) rfl) rfl)) (fun _ h9 => h9) rfl d_Sink_crcFrom_6 ?_
  obtain ⟨r_9, hg_9, h⟩ := dc_bindE h
  refine dc_callSN (y := y_D_crcOf) (bytes := b_D_crcOf) (maxL := 6) (ret' := (some .int)) (fr' := 1) (lo' := 40) (n := 3) (val := vl_i) (o := r_9) (tysc := [(k_t_bytes, .byte)]) (As := [.ref h_t_bytes, .int x1, .int t_filled]) (rest := []) (wc := (ws_D_crcOf h_t_bytes k_t_bytes n_t_bytes a_t_bytes)) (wr := [(h_t, .inr (11, [.ref h_t_bytes, .int t_filled, .int w_t_bitStore, .int w_t_bitsHeld]))]) (w1 := w1_D_crcOf h_t_bytes k_t_bytes n_t_bytes a_t_bytes) C (c_D_crcOf hfl dC dI h_t_bytes k_t_bytes n_t_bytes H.size K x1 t_filled a_t_bytes hg_9) cw_D_crcOf (lg_in1 (List.mem_of_getElem? (i := 1) rfl) rfl) (show Cond.methodLinkNest "PictureDesk$Sink" 63 y_D_crcOf "PictureDesk" ∈ vx_nw by decide +kernel) (lg_in3 (List.mem_of_getElem? (i := 175) rfl) rfl) (by decide +kernel) ⟨Nat.le_of_ble_eq_true rfl, Nat.le_of_ble_eq_true rfl⟩ rfl rfl (Nat.le_of_ble_eq_true rfl) d_Sink_crcFrom_9 hP hD hS hl.1 [1] [0] [0] rfl rfl rfl rfl (by decide) rfl (fun H locs hP hD hS => ?_)
  have hP : va_P (dC, dI) classes (ws_Sink_crcFrom h_t h_t_bytes k_t_bytes n_t_bytes w_t_bitStore w_t_bitsHeld t_filled a_t_bytes) H := hP.sub [0, 1] rfl
  have hD : va_D A (ws_Sink_crcFrom h_t h_t_bytes k_t_bytes n_t_bytes w_t_bitStore w_t_bitsHeld t_filled a_t_bytes) := hD.sub [0, 1] (by decide) rfl
  show W p l e R s m _ below meth c H locs 0 0 _ (F0 m 12 ls [.int r_9.1])
  cases h
  exact dc_iret C (v := r_9.1) (u := ()) (w1 := w1_Sink_crcFrom h_t h_t_bytes k_t_bytes n_t_bytes w_t_bitStore w_t_bitsHeld t_filled a_t_bytes) hP hD hS d_Sink_crcFrom_12
def ws_Sink_mendByte (h_t : Nat) (h_t_bytes : Nat) (k_t_bytes : ClassId) (n_t_bytes : Nat) (w_t_bitStore : Int32) (w_t_bitsHeld : Int32) (t_filled : Int32) (a_t_bytes : Nat → Int32) : va_W := [(h_t, .inr (11, [.ref h_t_bytes, .int t_filled, .int w_t_bitStore, .int w_t_bitsHeld])), (h_t_bytes, .inl (k_t_bytes, n_t_bytes, .inl a_t_bytes))]
abbrev w1_Sink_mendByte (h_t : Nat) (h_t_bytes : Nat) (k_t_bytes : ClassId) (n_t_bytes : Nat) (w_t_bitStore : Int32) (w_t_bitsHeld : Int32) (t_filled : Int32) (u : (Nat → Int32)) : va_W := ws_Sink_mendByte h_t h_t_bytes k_t_bytes n_t_bytes w_t_bitStore w_t_bitsHeld t_filled u
abbrev q_Sink_mendByte (below : List Frame) (args : Array Value) (s : State) (dC : Nat → ClassId) (dI : Nat → Nat → Nat) (A : Nat → Prop) (h_t : Nat) (h_t_bytes : Nat) (k_t_bytes : ClassId) (n_t_bytes : Nat) (w_t_bitStore : Int32) (w_t_bitsHeld : Int32) (t_filled : Int32) (o : Unit × ((Nat → Int32))) : State → Prop := XQ below (vx_Q vl_v (.inl o) (fun u t => vx_B dC dI [(k_t_bytes, .byte)] A (w1_Sink_mendByte h_t h_t_bytes k_t_bytes n_t_bytes w_t_bitStore w_t_bitsHeld t_filled u) t) A) args s 0 0 A
theorem d_Sink_mendByte_0 : decode b_Sink_mendByte 0 = .ok (.iload_n 1, 1) := by decide +kernel
theorem d_Sink_mendByte_1 : decode b_Sink_mendByte 1 = .ok (.ifCond .lt 19, 3) := by decide +kernel
theorem d_Sink_mendByte_4 : decode b_Sink_mendByte 4 = .ok (.iload_n 1, 1) := by decide +kernel
theorem d_Sink_mendByte_5 : decode b_Sink_mendByte 5 = .ok (.aload_n 0, 1) := by decide +kernel
theorem d_Sink_mendByte_6 : decode b_Sink_mendByte 6 = .ok (.getfield 7, 3) := by decide +kernel
theorem d_Sink_mendByte_9 : decode b_Sink_mendByte 9 = .ok (.if_icmp .ge 11, 3) := by decide +kernel
theorem d_Sink_mendByte_12 : decode b_Sink_mendByte 12 = .ok (.aload_n 0, 1) := by decide +kernel
theorem d_Sink_mendByte_13 : decode b_Sink_mendByte 13 = .ok (.getfield 19, 3) := by decide +kernel
theorem d_Sink_mendByte_16 : decode b_Sink_mendByte 16 = .ok (.iload_n 1, 1) := by decide +kernel
theorem d_Sink_mendByte_17 : decode b_Sink_mendByte 17 = .ok (.iload_n 2, 1) := by decide +kernel
theorem d_Sink_mendByte_18 : decode b_Sink_mendByte 18 = .ok (.i2b, 1) := by decide +kernel
theorem d_Sink_mendByte_19 : decode b_Sink_mendByte 19 = .ok (.bastore, 1) := by decide +kernel
theorem d_Sink_mendByte_20 : decode b_Sink_mendByte 20 = .ok (.return_, 1) := by decide +kernel
def at_Sink_mendByte_20 (p : Program) (l : Launch) (e : Env) (R : Room) (s : State) (m : MethodId) (args : Array Value) (below : List Frame) (meth : Method) (c : Code) (dC : Nat → ClassId) (dI : Nat → Nat → Nat) (A : Nat → Prop) (Q : State → Prop) (h_t : Nat) (h_t_bytes : Nat) (k_t_bytes : ClassId) (n_t_bytes : Nat) (w_t_bitStore : Int32) (w_t_bitsHeld : Int32) (t_filled : Int32) (a_t_bytes : Nat → Int32)  : Prop := ∀ (H : Heap) (locs : List Loc) (ls : Array Slot), va_P (dC, dI) classes (ws_Sink_mendByte h_t h_t_bytes k_t_bytes n_t_bytes w_t_bitStore w_t_bitsHeld t_filled a_t_bytes) H → va_D A (ws_Sink_mendByte h_t h_t_bytes k_t_bytes n_t_bytes w_t_bitStore w_t_bitsHeld t_filled a_t_bytes) → va_S A s.heap H locs → lv_has ls 3 [(0, .ref h_t)] → W p l e R s m args below meth c H locs 0 0 Q (F0 m 20 ls [])
def f_Sink_mendByte_20 (n_t_bytes : Nat) (t_filled : Int32) (a_t_bytes : Nat → Int32)  : Option (Unit × ((Nat → Int32))) := some ((), a_t_bytes)
def f_Sink_mendByte (n_t_bytes : Nat) (x1 : Int32) (x2 : Int32) (t_filled : Int32) (a_t_bytes : Nat → Int32) : Option (Unit × ((Nat → Int32))) := (if x1 < 0 then (f_Sink_mendByte_20 n_t_bytes t_filled a_t_bytes) else ((if t_filled ≤ x1 then (f_Sink_mendByte_20 n_t_bytes t_filled a_t_bytes) else ((if inb x1 n_t_bytes = true then f_Sink_mendByte_20 n_t_bytes t_filled (upd a_t_bytes (x1 : Int32).toNatClampNeg (vp_nar .byte ((x2 : Int32).toInt8.toInt32))) else none)))))
set_option maxHeartbeats 400000 in
set_option maxRecDepth 100000 in
theorem w_Sink_mendByte_20 {p : Program} {l : Launch} {e : Env} {R : Room} {s : State} {m : MethodId} {args : Array Value} {below : List Frame} {meth : Method} {c : Code} {dC : Nat → ClassId} {dI : Nat → Nat → Nat} {A : Nat → Prop} {h_t : Nat} {h_t_bytes : Nat} {k_t_bytes : ClassId} {n_t_bytes : Nat} {w_t_bitStore : Int32} {w_t_bitsHeld : Int32} (C : cx p l e R s m args meth c dC dI A R_Sink b_Sink_mendByte 3 none 0 0 [(k_t_bytes, .byte)]) {o : Unit × ((Nat → Int32))} {t_filled : Int32} {a_t_bytes : Nat → Int32}   (h : f_Sink_mendByte_20 n_t_bytes t_filled a_t_bytes = some o) : at_Sink_mendByte_20 p l e R s m args below meth c dC dI A (q_Sink_mendByte below args s dC dI A h_t h_t_bytes k_t_bytes n_t_bytes w_t_bitStore w_t_bitsHeld t_filled o) h_t h_t_bytes k_t_bytes n_t_bytes w_t_bitStore w_t_bitsHeld t_filled a_t_bytes := by
  refine fun H locs ls hP hD hS hl => ?_
  obtain ⟨hx, hb, hr, hml, hown, hts, hlk, hK, hA, hV, htr, hex, hF, hL, hfl⟩ := id C
  unfold f_Sink_mendByte_20 at h
  cases h
  exact dc_vret C (u := a_t_bytes) (w1 := w1_Sink_mendByte h_t h_t_bytes k_t_bytes n_t_bytes w_t_bitStore w_t_bitsHeld t_filled) hP hD hS d_Sink_mendByte_20
set_option maxHeartbeats 400000 in
set_option maxRecDepth 100000 in
theorem c_Sink_mendByte {l : Launch} (hfl : l.flags = flags0) (dC : Nat → ClassId) (dI : Nat → Nat → Nat) (h_t : Nat) (h_t_bytes : Nat) (k_t_bytes : ClassId) (n_t_bytes : Nat) (w_t_bitStore : Int32) (w_t_bitsHeld : Int32) (sz : Nat) (x1 : Int32) (x2 : Int32) (t_filled : Int32) (a_t_bytes : Nat → Int32) {o : Unit × ((Nat → Int32))} (h : f_Sink_mendByte n_t_bytes x1 x2 t_filled a_t_bytes = some o) : MetX l y_Sink_mendByte (Cond.code y_Sink_mendByte b_Sink_mendByte 3 none :: lw_g) (rmx 0 0 0 0) (vx_Pre dC dI [(k_t_bytes, .byte)] [.ref h_t, .int x1, .int x2] sz (ws_Sink_mendByte h_t h_t_bytes k_t_bytes n_t_bytes w_t_bitStore w_t_bitsHeld t_filled a_t_bytes)) (vx_Q vl_v (.inl o) (fun u t => vx_B dC dI [(k_t_bytes, .byte)] (va_A (ws_Sink_mendByte h_t h_t_bytes k_t_bytes n_t_bytes w_t_bitStore w_t_bitsHeld t_filled a_t_bytes) sz) (w1_Sink_mendByte h_t h_t_bytes k_t_bytes n_t_bytes w_t_bitStore w_t_bitsHeld t_filled u) t) (va_A (ws_Sink_mendByte h_t h_t_bytes k_t_bytes n_t_bytes w_t_bitStore w_t_bitsHeld t_filled a_t_bytes) sz)) 0 0 (va_A (ws_Sink_mendByte h_t h_t_bytes k_t_bytes n_t_bytes w_t_bitStore w_t_bitsHeld t_filled a_t_bytes) sz) := by
  refine MetX.ofW (cc := b_Sink_mendByte) (maxL := 3) (ret := none) (by decide +kernel) rfl ?_
  intro p e s m args below meth c s₁ B hml hv
  obtain ⟨rfl, rfl, C, hP, hD, hS⟩ := dc_entry hfl B hml hv
  have hl := lv_entry ([.ref h_t, .int x1, .int x2]) (n := 3) (Nat.le_of_ble_eq_true rfl)
  rw [lg_entry_eq]
  generalize (lg_sl ([.ref h_t, .int x1, .int x2]) ++ List.replicate (3 - (lg_sl ([.ref h_t, .int x1, .int x2])).length) Slot.unset).toArray = ls at hl ⊢
  have hl : lv_has ls 3 [(0, .ref h_t), (1, .int x1), (2, .int x2)] := hl
  generalize hAe : va_A (ws_Sink_mendByte h_t h_t_bytes k_t_bytes n_t_bytes w_t_bitStore w_t_bitsHeld t_filled a_t_bytes) s.heap.size = A at C hD hS ⊢
  generalize (headSpec (Cond.code y_Sink_mendByte b_Sink_mendByte 3 none :: lw_g) (rmx 0 0 0 0)).room = R at C ⊢
  have C : cx p l e R s m _ meth c dC dI A R_Sink b_Sink_mendByte 3 none 0 0 [(k_t_bytes, .byte)] := C
  obtain ⟨hx, hb, hr, hml, hown, hts, hlk, hK, hA, hV, htr, hex, hF, hL, hfl⟩ := id C
  unfold f_Sink_mendByte at h
  revert hP hS
  generalize hH : s.heap = H
  generalize hLo : ([] : List Loc) = locs
  intro hP hS
  have hS : va_S A s.heap H locs := by rw [hH]; exact hS
  refine lv_iload_n hx hb d_Sink_mendByte_0 rfl (lv_at hl 1 rfl) ?_
  refine lv_if_lt (tgt := 20) hx hb d_Sink_mendByte_1 (by decide) (fun c_1 => ?_) (fun c_1 => ?_)
  · have h := dc_t c_1 h
    exact w_Sink_mendByte_20 C h H locs ls hP hD hS (lv_sub hl [0] rfl)
  have h := dc_f c_1 h
  refine lv_iload_n hx hb d_Sink_mendByte_4 rfl (lv_at hl 1 rfl) ?_
  refine lv_aload_n hx hb d_Sink_mendByte_5 rfl (lv_at hl 0 rfl) ?_
  refine va_get (D := (dC, dI)) (ci := 11) (v := .int t_filled) (C := R_Sink) (T := F_Sink) (N := 4) hx hb hts i_Sink hown hK hP 0 rfl rfl 1 (by decide) (hts _ (lg_in1 (List.mem_of_getElem? (i := 50) rfl) rfl)) (fun _ h9 => h9) rfl d_Sink_mendByte_6 ?_
  refine lv_icmp_ge (tgt := 20) hx hb d_Sink_mendByte_9 (by decide) (fun c_9 => ?_) (fun c_9 => ?_)
  · have h := dc_t c_9 h
    exact w_Sink_mendByte_20 C h H locs ls hP hD hS (lv_sub hl [0] rfl)
  have h := dc_f c_9 h
  refine lv_aload_n hx hb d_Sink_mendByte_12 rfl (lv_at hl 0 rfl) ?_
  refine va_get (D := (dC, dI)) (ci := 11) (v := .ref h_t_bytes) (C := R_Sink) (T := F_Sink) (N := 4) hx hb hts i_Sink hown hK hP 0 rfl rfl 0 (by decide) (hts _ (lg_in1 (List.mem_of_getElem? (i := 49) rfl) rfl)) (fun _ h9 => h9) rfl d_Sink_mendByte_13 ?_
  refine lv_iload_n hx hb d_Sink_mendByte_16 rfl (lv_at hl 1 rfl) ?_
  refine lv_iload_n hx hb d_Sink_mendByte_17 rfl (lv_at hl 2 rfl) ?_
  refine lv_i2b hx hb d_Sink_mendByte_18 rfl ?_
  obtain ⟨hi_19, h⟩ := dc_in h
  refine va_bast hx hb hK hP hD hS 1 0 rfl rfl hi_19 d_Sink_mendByte_19 (fun H locs hP hD hS => ?_)
  have hP : va_P (dC, dI) classes (ws_Sink_mendByte h_t h_t_bytes k_t_bytes n_t_bytes w_t_bitStore w_t_bitsHeld t_filled (upd a_t_bytes (x1 : Int32).toNatClampNeg (vp_nar .byte ((x2 : Int32).toInt8.toInt32)))) H := hP
  have hD : va_D A (ws_Sink_mendByte h_t h_t_bytes k_t_bytes n_t_bytes w_t_bitStore w_t_bitsHeld t_filled (upd a_t_bytes (x1 : Int32).toNatClampNeg (vp_nar .byte ((x2 : Int32).toInt8.toInt32)))) := hD
  exact w_Sink_mendByte_20 C h H locs ls hP hD hS (lv_sub hl [0] rfl)
def ws_Sink_mendBig4 (h_t : Nat) (h_t_bytes : Nat) (k_t_bytes : ClassId) (n_t_bytes : Nat) (w_t_bitStore : Int32) (w_t_bitsHeld : Int32) (t_filled : Int32) (a_t_bytes : Nat → Int32) : va_W := [(h_t, .inr (11, [.ref h_t_bytes, .int t_filled, .int w_t_bitStore, .int w_t_bitsHeld])), (h_t_bytes, .inl (k_t_bytes, n_t_bytes, .inl a_t_bytes))]
abbrev w1_Sink_mendBig4 (h_t : Nat) (h_t_bytes : Nat) (k_t_bytes : ClassId) (n_t_bytes : Nat) (w_t_bitStore : Int32) (w_t_bitsHeld : Int32) (t_filled : Int32) (u : (Nat → Int32)) : va_W := ws_Sink_mendBig4 h_t h_t_bytes k_t_bytes n_t_bytes w_t_bitStore w_t_bitsHeld t_filled u
abbrev q_Sink_mendBig4 (below : List Frame) (args : Array Value) (s : State) (dC : Nat → ClassId) (dI : Nat → Nat → Nat) (A : Nat → Prop) (h_t : Nat) (h_t_bytes : Nat) (k_t_bytes : ClassId) (n_t_bytes : Nat) (w_t_bitStore : Int32) (w_t_bitsHeld : Int32) (t_filled : Int32) (o : Unit × ((Nat → Int32))) : State → Prop := XQ below (vx_Q vl_v (.inl o) (fun u t => vx_B dC dI [(k_t_bytes, .byte)] A (w1_Sink_mendBig4 h_t h_t_bytes k_t_bytes n_t_bytes w_t_bitStore w_t_bitsHeld t_filled u) t) A) args s 0 0 A
theorem d_Sink_mendBig4_0 : decode b_Sink_mendBig4 0 = .ok (.iconst 0, 1) := by decide +kernel
theorem d_Sink_mendBig4_1 : decode b_Sink_mendBig4 1 = .ok (.istore_n 3, 1) := by decide +kernel
theorem d_Sink_mendBig4_2 : decode b_Sink_mendBig4 2 = .ok (.iload_n 3, 1) := by decide +kernel
theorem d_Sink_mendBig4_3 : decode b_Sink_mendBig4 3 = .ok (.iconst 4, 1) := by decide +kernel
theorem d_Sink_mendBig4_4 : decode b_Sink_mendBig4 4 = .ok (.if_icmp .ge 25, 3) := by decide +kernel
theorem d_Sink_mendBig4_7 : decode b_Sink_mendBig4 7 = .ok (.aload_n 0, 1) := by decide +kernel
theorem d_Sink_mendBig4_8 : decode b_Sink_mendBig4 8 = .ok (.iload_n 1, 1) := by decide +kernel
theorem d_Sink_mendBig4_9 : decode b_Sink_mendBig4 9 = .ok (.iload_n 3, 1) := by decide +kernel
theorem d_Sink_mendBig4_10 : decode b_Sink_mendBig4 10 = .ok (.iadd, 1) := by decide +kernel
theorem d_Sink_mendBig4_11 : decode b_Sink_mendBig4 11 = .ok (.iload_n 2, 1) := by decide +kernel
theorem d_Sink_mendBig4_12 : decode b_Sink_mendBig4 12 = .ok (.bipush 24, 2) := by decide +kernel
theorem d_Sink_mendBig4_14 : decode b_Sink_mendBig4 14 = .ok (.bipush 8, 2) := by decide +kernel
theorem d_Sink_mendBig4_16 : decode b_Sink_mendBig4 16 = .ok (.iload_n 3, 1) := by decide +kernel
theorem d_Sink_mendBig4_17 : decode b_Sink_mendBig4 17 = .ok (.imul, 1) := by decide +kernel
theorem d_Sink_mendBig4_18 : decode b_Sink_mendBig4 18 = .ok (.isub, 1) := by decide +kernel
theorem d_Sink_mendBig4_19 : decode b_Sink_mendBig4 19 = .ok (.ishr, 1) := by decide +kernel
theorem d_Sink_mendBig4_20 : decode b_Sink_mendBig4 20 = .ok (.invokevirtual 59, 3) := by decide +kernel
theorem d_Sink_mendBig4_23 : decode b_Sink_mendBig4 23 = .ok (.iinc 3 1, 3) := by decide +kernel
theorem d_Sink_mendBig4_26 : decode b_Sink_mendBig4 26 = .ok (.goto (-24), 3) := by decide +kernel
theorem d_Sink_mendBig4_29 : decode b_Sink_mendBig4 29 = .ok (.return_, 1) := by decide +kernel
def at_Sink_mendBig4_2 (p : Program) (l : Launch) (e : Env) (R : Room) (s : State) (m : MethodId) (args : Array Value) (below : List Frame) (meth : Method) (c : Code) (dC : Nat → ClassId) (dI : Nat → Nat → Nat) (A : Nat → Prop) (Q : State → Prop) (h_t : Nat) (h_t_bytes : Nat) (k_t_bytes : ClassId) (n_t_bytes : Nat) (w_t_bitStore : Int32) (w_t_bitsHeld : Int32) (t_filled : Int32) (a_t_bytes : Nat → Int32) (x1 : Int32) (x2 : Int32) (x3 : Int32) : Prop := ∀ (H : Heap) (locs : List Loc) (ls : Array Slot), va_P (dC, dI) classes (ws_Sink_mendBig4 h_t h_t_bytes k_t_bytes n_t_bytes w_t_bitStore w_t_bitsHeld t_filled a_t_bytes) H → va_D A (ws_Sink_mendBig4 h_t h_t_bytes k_t_bytes n_t_bytes w_t_bitStore w_t_bitsHeld t_filled a_t_bytes) → va_S A s.heap H locs → lv_has ls 4 [(0, .ref h_t), (1, .int x1), (2, .int x2), (3, .int x3)] → W p l e R s m args below meth c H locs 0 0 Q (F0 m 2 ls [])
def at_Sink_mendBig4_29 (p : Program) (l : Launch) (e : Env) (R : Room) (s : State) (m : MethodId) (args : Array Value) (below : List Frame) (meth : Method) (c : Code) (dC : Nat → ClassId) (dI : Nat → Nat → Nat) (A : Nat → Prop) (Q : State → Prop) (h_t : Nat) (h_t_bytes : Nat) (k_t_bytes : ClassId) (n_t_bytes : Nat) (w_t_bitStore : Int32) (w_t_bitsHeld : Int32) (t_filled : Int32) (a_t_bytes : Nat → Int32)  : Prop := ∀ (H : Heap) (locs : List Loc) (ls : Array Slot), va_P (dC, dI) classes (ws_Sink_mendBig4 h_t h_t_bytes k_t_bytes n_t_bytes w_t_bitStore w_t_bitsHeld t_filled a_t_bytes) H → va_D A (ws_Sink_mendBig4 h_t h_t_bytes k_t_bytes n_t_bytes w_t_bitStore w_t_bitsHeld t_filled a_t_bytes) → va_S A s.heap H locs → lv_has ls 4 [(0, .ref h_t)] → W p l e R s m args below meth c H locs 0 0 Q (F0 m 29 ls [])
def f_Sink_mendBig4_2 (K : Nat) (n_t_bytes : Nat) (rec : (Nat → Int32) → Int32 → Option ((Nat → Int32))) (t_filled : Int32) (a_t_bytes : Nat → Int32) (x1 : Int32) (x2 : Int32) (x3 : Int32) : Option ((Nat → Int32)) := (if 4 ≤ x3 then (some a_t_bytes) else (dc_bind (f_Sink_mendByte n_t_bytes (x1 + x3) (x2 >>> ((24 - (8 * x3)) &&& 31)) t_filled a_t_bytes) (fun r_20 => rec r_20.2 (x3 + 1))))
def f_Sink_mendBig4_L2 (K : Nat) (n_t_bytes : Nat) (t_filled : Int32) (x1 : Int32) (x2 : Int32) : Nat → (Nat → Int32) → Int32 → Option ((Nat → Int32))
  | 0, _, _ => none
  | n + 1, a_t_bytes, x3 => f_Sink_mendBig4_2 K n_t_bytes (f_Sink_mendBig4_L2 K n_t_bytes t_filled x1 x2 n) t_filled a_t_bytes x1 x2 x3
def f_Sink_mendBig4 (K : Nat) (n_t_bytes : Nat) (x1 : Int32) (x2 : Int32) (t_filled : Int32) (a_t_bytes : Nat → Int32) : Option (Unit × ((Nat → Int32))) := dc_bind (f_Sink_mendBig4_L2 K n_t_bytes t_filled x1 x2 K a_t_bytes 0) (fun v_29 => some ((), v_29))
set_option maxHeartbeats 400000 in
set_option maxRecDepth 100000 in
theorem w_Sink_mendBig4_2 {p : Program} {l : Launch} {e : Env} {R : Room} {s : State} {m : MethodId} {args : Array Value} {below : List Frame} {meth : Method} {c : Code} {dC : Nat → ClassId} {dI : Nat → Nat → Nat} {A : Nat → Prop} {Q : State → Prop} {h_t : Nat} {h_t_bytes : Nat} {k_t_bytes : ClassId} {n_t_bytes : Nat} {w_t_bitStore : Int32} {w_t_bitsHeld : Int32} (C : cx p l e R s m args meth c dC dI A R_Sink b_Sink_mendBig4 4 none 1 22 [(k_t_bytes, .byte)]) {K : Nat} {out : (Nat → Int32)} {t_filled : Int32} {a_t_bytes : Nat → Int32} {x1 : Int32} {x2 : Int32} {x3 : Int32} {rec : (Nat → Int32) → Int32 → Option ((Nat → Int32))}  (hex0 : ∀ v : (Nat → Int32), out = v → at_Sink_mendBig4_29 p l e R s m args below meth c dC dI A Q h_t h_t_bytes k_t_bytes n_t_bytes w_t_bitStore w_t_bitsHeld t_filled v) (hrec : ∀ (a_t_bytes : Nat → Int32) (x3 : Int32), rec a_t_bytes x3 = some out → at_Sink_mendBig4_2 p l e R s m args below meth c dC dI A Q h_t h_t_bytes k_t_bytes n_t_bytes w_t_bitStore w_t_bitsHeld t_filled a_t_bytes x1 x2 x3) (h : f_Sink_mendBig4_2 K n_t_bytes rec t_filled a_t_bytes x1 x2 x3 = some out) : at_Sink_mendBig4_2 p l e R s m args below meth c dC dI A Q h_t h_t_bytes k_t_bytes n_t_bytes w_t_bitStore w_t_bitsHeld t_filled a_t_bytes x1 x2 x3 := by
  refine fun H locs ls hP hD hS hl => ?_
  obtain ⟨hx, hb, hr, hml, hown, hts, hlk, hK, hA, hV, htr, hex, hF, hL, hfl⟩ := id C
  unfold f_Sink_mendBig4_2 at h
  refine lv_iload_n hx hb d_Sink_mendBig4_2 rfl (lv_at hl 3 rfl) ?_
  refine lv_iconst (v := 4) hx hb d_Sink_mendBig4_3 (by decide) ?_
  refine lv_icmp_ge (tgt := 29) hx hb d_Sink_mendBig4_4 (by decide) (fun c_4 => ?_) (fun c_4 => ?_)
  · have h := dc_t c_4 h
    cases h
    exact hex0 _ rfl H locs ls hP hD hS (lv_sub hl [0] rfl)
  have h := dc_f c_4 h
  refine lv_aload_n hx hb d_Sink_mendBig4_7 rfl (lv_at hl 0 rfl) ?_
  refine lv_iload_n hx hb d_Sink_mendBig4_8 rfl (lv_at hl 1 rfl) ?_
  refine lv_iload_n hx hb d_Sink_mendBig4_9 rfl (lv_at hl 3 rfl) ?_
  refine lv_iadd hx hb d_Sink_mendBig4_10 ?_
  refine lv_iload_n hx hb d_Sink_mendBig4_11 rfl (lv_at hl 2 rfl) ?_
  refine lv_bipush (v := 24) hx hb d_Sink_mendBig4_12 (by decide) ?_
  refine lv_bipush (v := 8) hx hb d_Sink_mendBig4_14 (by decide) ?_
  refine lv_iload_n hx hb d_Sink_mendBig4_16 rfl (lv_at hl 3 rfl) ?_
  refine lv_imul hx hb d_Sink_mendBig4_17 ?_
  refine lv_isub hx hb d_Sink_mendBig4_18 ?_
  refine lv_ishr hx hb d_Sink_mendBig4_19 ?_
  obtain ⟨r_20, hg_20, h⟩ := dc_bindE h
  refine dc_callV (y := y_Sink_mendByte) (bytes := b_Sink_mendByte) (maxL := 3) (ret' := none) (fr' := 0) (lo' := 0) (n := 2) (val := vl_v) (o := r_20) (tysc := [(k_t_bytes, .byte)]) (As := [.int (x1 + x3), .int (x2 >>> ((24 - (8 * x3)) &&& 31))]) (rest := []) (wc := (ws_Sink_mendByte h_t h_t_bytes k_t_bytes n_t_bytes w_t_bitStore w_t_bitsHeld t_filled a_t_bytes)) (wr := []) (w1 := w1_Sink_mendByte h_t h_t_bytes k_t_bytes n_t_bytes w_t_bitStore w_t_bitsHeld t_filled) C cw_Sink_mendByte (lg_in1 (List.mem_of_getElem? (i := 2) rfl) rfl) (lg_in6 (List.mem_of_getElem? (i := 159) rfl) rfl) (lg_in6 (List.mem_of_getElem? (i := 161) rfl) rfl) (lg_memS (List.mem_of_getElem? (i := 52) rfl) rfl) (ci := 11) (cq := (R_Sink, F_Sink, 4)) (q0 := 0) rfl rfl rfl (c_Sink_mendByte hfl dC dI h_t h_t_bytes k_t_bytes n_t_bytes w_t_bitStore w_t_bitsHeld H.size (x1 + x3) (x2 >>> ((24 - (8 * x3)) &&& 31)) t_filled a_t_bytes hg_20) (by decide +kernel) ⟨Nat.le_of_ble_eq_true rfl, Nat.le_of_ble_eq_true rfl⟩ rfl rfl (Nat.le_of_ble_eq_true rfl) d_Sink_mendBig4_20 hP hD hS hl.1 [0, 1] [] [0] rfl rfl rfl rfl (by decide) rfl (fun H locs hP hD hS => ?_)
  have hP : va_P (dC, dI) classes (ws_Sink_mendBig4 h_t h_t_bytes k_t_bytes n_t_bytes w_t_bitStore w_t_bitsHeld t_filled r_20.2) H := hP.sub [0, 1] rfl
  have hD : va_D A (ws_Sink_mendBig4 h_t h_t_bytes k_t_bytes n_t_bytes w_t_bitStore w_t_bitsHeld t_filled r_20.2) := hD.sub [0, 1] (by decide) rfl
  show W p l e R s m _ below meth c H locs 0 0 _ (F0 m 23 ls [])
  refine lv_iinc (v := (x3 + 1)) (lv' := [(3, .int (x3 + 1)), (0, .ref h_t), (1, .int x1), (2, .int x2)]) hx hb d_Sink_mendBig4_23 hl (k := 3) rfl rfl (by decide) rfl (fun ls hl => ?_)
  refine lv_goto (tgt := 2) hx hb d_Sink_mendBig4_26 (by decide) ?_
  exact hrec _ _ h H locs ls hP hD hS (lv_sub hl [1, 2, 3, 0] rfl)
set_option maxHeartbeats 400000 in
set_option maxRecDepth 100000 in
theorem w_Sink_mendBig4_L2 {p : Program} {l : Launch} {e : Env} {R : Room} {s : State} {m : MethodId} {args : Array Value} {below : List Frame} {meth : Method} {c : Code} {dC : Nat → ClassId} {dI : Nat → Nat → Nat} {A : Nat → Prop} {Q : State → Prop} {h_t : Nat} {h_t_bytes : Nat} {k_t_bytes : ClassId} {n_t_bytes : Nat} {w_t_bitStore : Int32} {w_t_bitsHeld : Int32} (C : cx p l e R s m args meth c dC dI A R_Sink b_Sink_mendBig4 4 none 1 22 [(k_t_bytes, .byte)]) {K : Nat} {out : (Nat → Int32)} {t_filled : Int32} {x1 : Int32} {x2 : Int32} (hex0 : ∀ v : (Nat → Int32), out = v → at_Sink_mendBig4_29 p l e R s m args below meth c dC dI A Q h_t h_t_bytes k_t_bytes n_t_bytes w_t_bitStore w_t_bitsHeld t_filled v) : ∀ (n : Nat) (a_t_bytes : Nat → Int32) (x3 : Int32), f_Sink_mendBig4_L2 K n_t_bytes t_filled x1 x2 n a_t_bytes x3 = some out → at_Sink_mendBig4_2 p l e R s m args below meth c dC dI A Q h_t h_t_bytes k_t_bytes n_t_bytes w_t_bitStore w_t_bitsHeld t_filled a_t_bytes x1 x2 x3 := by
  intro n
  induction n with
  | zero =>
    intro a_t_bytes x3 h
    exact nomatch (show (none : Option ((Nat → Int32))) = some out from h)
  | succ n ih =>
    intro a_t_bytes x3 h
    exact w_Sink_mendBig4_2 C hex0 ih h
set_option maxHeartbeats 400000 in
set_option maxRecDepth 100000 in
theorem c_Sink_mendBig4 {l : Launch} (hfl : l.flags = flags0) (dC : Nat → ClassId) (dI : Nat → Nat → Nat) (h_t : Nat) (h_t_bytes : Nat) (k_t_bytes : ClassId) (n_t_bytes : Nat) (w_t_bitStore : Int32) (w_t_bitsHeld : Int32) (sz : Nat) (K : Nat) (x1 : Int32) (x2 : Int32) (t_filled : Int32) (a_t_bytes : Nat → Int32) {o : Unit × ((Nat → Int32))} (h : f_Sink_mendBig4 K n_t_bytes x1 x2 t_filled a_t_bytes = some o) : MetX l y_Sink_mendBig4 (Cond.code y_Sink_mendBig4 b_Sink_mendBig4 4 none :: lw_g) (rmx 1 22 0 0) (vx_Pre dC dI [(k_t_bytes, .byte)] [.ref h_t, .int x1, .int x2] sz (ws_Sink_mendBig4 h_t h_t_bytes k_t_bytes n_t_bytes w_t_bitStore w_t_bitsHeld t_filled a_t_bytes)) (vx_Q vl_v (.inl o) (fun u t => vx_B dC dI [(k_t_bytes, .byte)] (va_A (ws_Sink_mendBig4 h_t h_t_bytes k_t_bytes n_t_bytes w_t_bitStore w_t_bitsHeld t_filled a_t_bytes) sz) (w1_Sink_mendBig4 h_t h_t_bytes k_t_bytes n_t_bytes w_t_bitStore w_t_bitsHeld t_filled u) t) (va_A (ws_Sink_mendBig4 h_t h_t_bytes k_t_bytes n_t_bytes w_t_bitStore w_t_bitsHeld t_filled a_t_bytes) sz)) 0 0 (va_A (ws_Sink_mendBig4 h_t h_t_bytes k_t_bytes n_t_bytes w_t_bitStore w_t_bitsHeld t_filled a_t_bytes) sz) := by
  refine MetX.ofW (cc := b_Sink_mendBig4) (maxL := 4) (ret := none) (by decide +kernel) rfl ?_
  intro p e s m args below meth c s₁ B hml hv
  obtain ⟨rfl, rfl, C, hP, hD, hS⟩ := dc_entry hfl B hml hv
  have hl := lv_entry ([.ref h_t, .int x1, .int x2]) (n := 4) (Nat.le_of_ble_eq_true rfl)
  rw [lg_entry_eq]
  generalize (lg_sl ([.ref h_t, .int x1, .int x2]) ++ List.replicate (4 - (lg_sl ([.ref h_t, .int x1, .int x2])).length) Slot.unset).toArray = ls at hl ⊢
  have hl : lv_has ls 4 [(0, .ref h_t), (1, .int x1), (2, .int x2)] := hl
  generalize hAe : va_A (ws_Sink_mendBig4 h_t h_t_bytes k_t_bytes n_t_bytes w_t_bitStore w_t_bitsHeld t_filled a_t_bytes) s.heap.size = A at C hD hS ⊢
  generalize (headSpec (Cond.code y_Sink_mendBig4 b_Sink_mendBig4 4 none :: lw_g) (rmx 1 22 0 0)).room = R at C ⊢
  have C : cx p l e R s m _ meth c dC dI A R_Sink b_Sink_mendBig4 4 none 1 22 [(k_t_bytes, .byte)] := C
  obtain ⟨hx, hb, hr, hml, hown, hts, hlk, hK, hA, hV, htr, hex, hF, hL, hfl⟩ := id C
  unfold f_Sink_mendBig4 at h
  revert hP hS
  generalize hH : s.heap = H
  generalize hLo : ([] : List Loc) = locs
  intro hP hS
  have hS : va_S A s.heap H locs := by rw [hH]; exact hS
  refine lv_iconst (v := 0) hx hb d_Sink_mendBig4_0 (by decide) ?_
  refine lv_istore_n (lv' := [(3, .int 0), (0, .ref h_t), (1, .int x1), (2, .int x2)]) hx hb d_Sink_mendBig4_1 rfl hl (by decide) rfl (fun ls hl => ?_)
  obtain ⟨r_2, hg_2, h⟩ := dc_bindE h
  refine w_Sink_mendBig4_L2 C ?_ K _ _ hg_2 H locs ls hP hD hS (lv_sub hl [1, 2, 3, 0] rfl)
  · refine fun v_29 hr => ?_
    subst r_2
    refine fun H locs ls hP hD hS hl => ?_
    cases h
    exact dc_vret C (u := v_29) (w1 := w1_Sink_mendBig4 h_t h_t_bytes k_t_bytes n_t_bytes w_t_bitStore w_t_bitsHeld t_filled) hP hD hS d_Sink_mendBig4_29
def ws_PngWriter_closePart (h_p1 : Nat) (h_p1_bytes : Nat) (k_p1_bytes : ClassId) (n_p1_bytes : Nat) (w_p1_bitStore : Int32) (w_p1_bitsHeld : Int32) (p1_filled : Int32) (a_p1_bytes : Nat → Int32) : va_W := [(h_p1, .inr (11, [.ref h_p1_bytes, .int p1_filled, .int w_p1_bitStore, .int w_p1_bitsHeld])), (h_p1_bytes, .inl (k_p1_bytes, n_p1_bytes, .inl a_p1_bytes))]
abbrev w1_PngWriter_closePart (h_p1 : Nat) (h_p1_bytes : Nat) (k_p1_bytes : ClassId) (n_p1_bytes : Nat) (w_p1_bitStore : Int32) (w_p1_bitsHeld : Int32)  (u : Int32 × (Nat → Int32)) : va_W := ws_PngWriter_closePart h_p1 h_p1_bytes k_p1_bytes n_p1_bytes w_p1_bitStore w_p1_bitsHeld u.1 u.2
abbrev q_PngWriter_closePart (below : List Frame) (args : Array Value) (s : State) (dC : Nat → ClassId) (dI : Nat → Nat → Nat) (A : Nat → Prop) (h_p1 : Nat) (h_p1_bytes : Nat) (k_p1_bytes : ClassId) (n_p1_bytes : Nat) (w_p1_bitStore : Int32) (w_p1_bitsHeld : Int32)  (o : (Unit × (Int32 × (Nat → Int32))) ⊕ (Nat × (Int32 × (Nat → Int32)))) : State → Prop := XQ below (vx_Q vl_v o (fun u t => vx_B dC dI [(k_p1_bytes, .byte)] A (w1_PngWriter_closePart h_p1 h_p1_bytes k_p1_bytes n_p1_bytes w_p1_bitStore w_p1_bitsHeld u) t) A) args s (mcx o) (msx o) A
theorem d_PngWriter_closePart_0 : decode b_PngWriter_closePart 0 = .ok (.aload_n 1, 1) := by decide +kernel
theorem d_PngWriter_closePart_1 : decode b_PngWriter_closePart 1 = .ok (.iload_n 0, 1) := by decide +kernel
theorem d_PngWriter_closePart_2 : decode b_PngWriter_closePart 2 = .ok (.aload_n 1, 1) := by decide +kernel
theorem d_PngWriter_closePart_3 : decode b_PngWriter_closePart 3 = .ok (.invokevirtual 64, 3) := by decide +kernel
theorem d_PngWriter_closePart_6 : decode b_PngWriter_closePart 6 = .ok (.iload_n 0, 1) := by decide +kernel
theorem d_PngWriter_closePart_7 : decode b_PngWriter_closePart 7 = .ok (.isub, 1) := by decide +kernel
theorem d_PngWriter_closePart_8 : decode b_PngWriter_closePart 8 = .ok (.bipush 8, 2) := by decide +kernel
theorem d_PngWriter_closePart_10 : decode b_PngWriter_closePart 10 = .ok (.isub, 1) := by decide +kernel
theorem d_PngWriter_closePart_11 : decode b_PngWriter_closePart 11 = .ok (.invokevirtual 71, 3) := by decide +kernel
theorem d_PngWriter_closePart_14 : decode b_PngWriter_closePart 14 = .ok (.aload_n 1, 1) := by decide +kernel
theorem d_PngWriter_closePart_15 : decode b_PngWriter_closePart 15 = .ok (.aload_n 1, 1) := by decide +kernel
theorem d_PngWriter_closePart_16 : decode b_PngWriter_closePart 16 = .ok (.iload_n 0, 1) := by decide +kernel
theorem d_PngWriter_closePart_17 : decode b_PngWriter_closePart 17 = .ok (.iconst 4, 1) := by decide +kernel
theorem d_PngWriter_closePart_18 : decode b_PngWriter_closePart 18 = .ok (.iadd, 1) := by decide +kernel
theorem d_PngWriter_closePart_19 : decode b_PngWriter_closePart 19 = .ok (.invokevirtual 75, 3) := by decide +kernel
theorem d_PngWriter_closePart_22 : decode b_PngWriter_closePart 22 = .ok (.invokevirtual 68, 3) := by decide +kernel
theorem d_PngWriter_closePart_25 : decode b_PngWriter_closePart 25 = .ok (.return_, 1) := by decide +kernel
def f_PngWriter_closePart (K : Nat) (n_p1_bytes : Nat) (x0 : Int32) (p1_filled : Int32) (a_p1_bytes : Nat → Int32) : Option ((Unit × (Int32 × (Nat → Int32))) ⊕ (Nat × (Int32 × (Nat → Int32)))) := dc_bind (f_Sink_filled p1_filled) (fun r_3 => dc_bind (f_Sink_mendBig4 K n_p1_bytes x0 ((r_3.1 - x0) - 8) p1_filled a_p1_bytes) (fun r_11 => dc_bind (f_Sink_crcFrom K n_p1_bytes (x0 + 4) p1_filled r_11.2) (fun r_19 => dc_try (f_Sink_putBig4 n_p1_bytes r_19.1 p1_filled r_11.2) (fun r_22 => some (.inl ((), (r_22.2.1, r_22.2.2)))) (fun r_22 => some (.inr (r_22.1, (r_22.2.1, r_22.2.2)))))))
set_option maxHeartbeats 400000 in
set_option maxRecDepth 100000 in
theorem c_PngWriter_closePart {l : Launch} (hfl : l.flags = flags0) (dC : Nat → ClassId) (dI : Nat → Nat → Nat) (h_p1 : Nat) (h_p1_bytes : Nat) (k_p1_bytes : ClassId) (n_p1_bytes : Nat) (w_p1_bitStore : Int32) (w_p1_bitsHeld : Int32) (sz : Nat) (K : Nat) (x0 : Int32) (p1_filled : Int32) (a_p1_bytes : Nat → Int32) {o : (Unit × (Int32 × (Nat → Int32))) ⊕ (Nat × (Int32 × (Nat → Int32)))} (h : f_PngWriter_closePart K n_p1_bytes x0 p1_filled a_p1_bytes = some o) : MetX l y_PngWriter_closePart (Cond.code y_PngWriter_closePart b_PngWriter_closePart 2 none :: lw_g) (rmx 8 152 (mcx o) (msx o)) (vx_Pre dC dI [(k_p1_bytes, .byte)] [.int x0, .ref h_p1] sz (ws_PngWriter_closePart h_p1 h_p1_bytes k_p1_bytes n_p1_bytes w_p1_bitStore w_p1_bitsHeld p1_filled a_p1_bytes)) (vx_Q vl_v o (fun u t => vx_B dC dI [(k_p1_bytes, .byte)] (va_A (ws_PngWriter_closePart h_p1 h_p1_bytes k_p1_bytes n_p1_bytes w_p1_bitStore w_p1_bitsHeld p1_filled a_p1_bytes) sz) (w1_PngWriter_closePart h_p1 h_p1_bytes k_p1_bytes n_p1_bytes w_p1_bitStore w_p1_bitsHeld u) t) (va_A (ws_PngWriter_closePart h_p1 h_p1_bytes k_p1_bytes n_p1_bytes w_p1_bitStore w_p1_bitsHeld p1_filled a_p1_bytes) sz)) (mcx o) (msx o) (va_A (ws_PngWriter_closePart h_p1 h_p1_bytes k_p1_bytes n_p1_bytes w_p1_bitStore w_p1_bitsHeld p1_filled a_p1_bytes) sz) := by
  refine MetX.ofW (cc := b_PngWriter_closePart) (maxL := 2) (ret := none) (by decide +kernel) rfl ?_
  intro p e s m args below meth c s₁ B hml hv
  obtain ⟨rfl, rfl, C, hP, hD, hS⟩ := dc_entry hfl B hml hv
  have hl := lv_entry ([.int x0, .ref h_p1]) (n := 2) (Nat.le_of_ble_eq_true rfl)
  rw [lg_entry_eq]
  generalize (lg_sl ([.int x0, .ref h_p1]) ++ List.replicate (2 - (lg_sl ([.int x0, .ref h_p1])).length) Slot.unset).toArray = ls at hl ⊢
  have hl : lv_has ls 2 [(0, .int x0), (1, .ref h_p1)] := hl
  generalize hAe : va_A (ws_PngWriter_closePart h_p1 h_p1_bytes k_p1_bytes n_p1_bytes w_p1_bitStore w_p1_bitsHeld p1_filled a_p1_bytes) s.heap.size = A at C hD hS ⊢
  have hRc : mcx o ≤ (headSpec (Cond.code y_PngWriter_closePart b_PngWriter_closePart 2 none :: lw_g) (rmx 8 152 (mcx o) (msx o))).room.cells ∧ msx o ≤ (headSpec (Cond.code y_PngWriter_closePart b_PngWriter_closePart 2 none :: lw_g) (rmx 8 152 (mcx o) (msx o))).room.slots := ⟨Nat.le_refl _, Nat.le_refl _⟩
  generalize (headSpec (Cond.code y_PngWriter_closePart b_PngWriter_closePart 2 none :: lw_g) (rmx 8 152 (mcx o) (msx o))).room = R at C hRc ⊢
  have C : cx p l e R s m _ meth c dC dI A R_PngWriter b_PngWriter_closePart 2 none 8 152 [(k_p1_bytes, .byte)] := C
  obtain ⟨hx, hb, hr, hml, hown, hts, hlk, hK, hA, hV, htr, hex, hF, hL, hfl⟩ := id C
  unfold f_PngWriter_closePart at h
  revert hP hS
  generalize hH : s.heap = H
  generalize hLo : ([] : List Loc) = locs
  intro hP hS
  have hS : va_S A s.heap H locs := by rw [hH]; exact hS
  refine lv_aload_n hx hb d_PngWriter_closePart_0 rfl (lv_at hl 1 rfl) ?_
  refine lv_iload_n hx hb d_PngWriter_closePart_1 rfl (lv_at hl 0 rfl) ?_
  refine lv_aload_n hx hb d_PngWriter_closePart_2 rfl (lv_at hl 1 rfl) ?_
  obtain ⟨r_3, hg_3, h⟩ := dc_bindE h
  refine dc_callV (y := y_Sink_filled) (bytes := b_Sink_filled) (maxL := 1) (ret' := (some .int)) (fr' := 0) (lo' := 0) (n := 0) (val := vl_i) (o := r_3) (tysc := []) (As := []) (rest := [.int x0, .ref h_p1]) (wc := (ws_Sink_filled h_p1 h_p1_bytes w_p1_bitStore w_p1_bitsHeld p1_filled)) (wr := [(h_p1_bytes, .inl (k_p1_bytes, n_p1_bytes, .inl a_p1_bytes))]) (w1 := w1_Sink_filled h_p1 h_p1_bytes w_p1_bitStore w_p1_bitsHeld p1_filled) C cw_Sink_filled (lg_in1 (List.mem_of_getElem? (i := 2) rfl) rfl) (lg_in6 (List.mem_of_getElem? (i := 139) rfl) rfl) (lg_in6 (List.mem_of_getElem? (i := 140) rfl) rfl) (lg_in6 (List.mem_of_getElem? (i := 141) rfl) rfl) (ci := 11) (cq := (R_Sink, F_Sink, 4)) (q0 := 0) rfl rfl rfl (c_Sink_filled hfl dC dI h_p1 h_p1_bytes w_p1_bitStore w_p1_bitsHeld H.size p1_filled hg_3) (by decide +kernel) ⟨Nat.le_of_ble_eq_true rfl, Nat.le_of_ble_eq_true rfl⟩ rfl rfl (Nat.le_of_ble_eq_true rfl) d_PngWriter_closePart_3 hP hD hS hl.1 [0] [1] [] rfl rfl rfl rfl (by decide) rfl (fun H locs hP hD hS => ?_)
  have hP : va_P (dC, dI) classes (ws_PngWriter_closePart h_p1 h_p1_bytes k_p1_bytes n_p1_bytes w_p1_bitStore w_p1_bitsHeld p1_filled a_p1_bytes) H := hP.sub [1, 0] rfl
  have hD : va_D A (ws_PngWriter_closePart h_p1 h_p1_bytes k_p1_bytes n_p1_bytes w_p1_bitStore w_p1_bitsHeld p1_filled a_p1_bytes) := hD.sub [1, 0] (by decide) rfl
  show W p l e R s m _ below meth c H locs 0 0 _ (F0 m 6 ls [.int r_3.1, .int x0, .ref h_p1])
  refine lv_iload_n hx hb d_PngWriter_closePart_6 rfl (lv_at hl 0 rfl) ?_
  refine lv_isub hx hb d_PngWriter_closePart_7 ?_
  refine lv_bipush (v := 8) hx hb d_PngWriter_closePart_8 (by decide) ?_
  refine lv_isub hx hb d_PngWriter_closePart_10 ?_
  obtain ⟨r_11, hg_11, h⟩ := dc_bindE h
  refine dc_callV (y := y_Sink_mendBig4) (bytes := b_Sink_mendBig4) (maxL := 4) (ret' := none) (fr' := 1) (lo' := 22) (n := 2) (val := vl_v) (o := r_11) (tysc := [(k_p1_bytes, .byte)]) (As := [.int x0, .int ((r_3.1 - x0) - 8)]) (rest := []) (wc := (ws_Sink_mendBig4 h_p1 h_p1_bytes k_p1_bytes n_p1_bytes w_p1_bitStore w_p1_bitsHeld p1_filled a_p1_bytes)) (wr := []) (w1 := w1_Sink_mendBig4 h_p1 h_p1_bytes k_p1_bytes n_p1_bytes w_p1_bitStore w_p1_bitsHeld p1_filled) C cw_Sink_mendBig4 (lg_in1 (List.mem_of_getElem? (i := 2) rfl) rfl) (lg_in6 (List.mem_of_getElem? (i := 155) rfl) rfl) (lg_in6 (List.mem_of_getElem? (i := 156) rfl) rfl) (lg_in6 (List.mem_of_getElem? (i := 157) rfl) rfl) (ci := 11) (cq := (R_Sink, F_Sink, 4)) (q0 := 0) rfl rfl rfl (c_Sink_mendBig4 hfl dC dI h_p1 h_p1_bytes k_p1_bytes n_p1_bytes w_p1_bitStore w_p1_bitsHeld H.size K x0 ((r_3.1 - x0) - 8) p1_filled a_p1_bytes hg_11) (by decide +kernel) ⟨Nat.le_of_ble_eq_true rfl, Nat.le_of_ble_eq_true rfl⟩ rfl rfl (Nat.le_of_ble_eq_true rfl) d_PngWriter_closePart_11 hP hD hS hl.1 [0, 1] [] [0] rfl rfl rfl rfl (by decide) rfl (fun H locs hP hD hS => ?_)
  have hP : va_P (dC, dI) classes (ws_PngWriter_closePart h_p1 h_p1_bytes k_p1_bytes n_p1_bytes w_p1_bitStore w_p1_bitsHeld p1_filled r_11.2) H := hP.sub [0, 1] rfl
  have hD : va_D A (ws_PngWriter_closePart h_p1 h_p1_bytes k_p1_bytes n_p1_bytes w_p1_bitStore w_p1_bitsHeld p1_filled r_11.2) := hD.sub [0, 1] (by decide) rfl
  show W p l e R s m _ below meth c H locs 0 0 _ (F0 m 14 ls [])
  refine lv_aload_n hx hb d_PngWriter_closePart_14 rfl (lv_at hl 1 rfl) ?_
  refine lv_aload_n hx hb d_PngWriter_closePart_15 rfl (lv_at hl 1 rfl) ?_
  refine lv_iload_n hx hb d_PngWriter_closePart_16 rfl (lv_at hl 0 rfl) ?_
  refine lv_iconst (v := 4) hx hb d_PngWriter_closePart_17 (by decide) ?_
  refine lv_iadd hx hb d_PngWriter_closePart_18 ?_
  obtain ⟨r_19, hg_19, h⟩ := dc_bindE h
  refine dc_callV (y := y_Sink_crcFrom) (bytes := b_Sink_crcFrom) (maxL := 2) (ret' := (some .int)) (fr' := 2) (lo' := 65) (n := 1) (val := vl_i) (o := r_19) (tysc := [(k_p1_bytes, .byte)]) (As := [.int (x0 + 4)]) (rest := [.ref h_p1]) (wc := (ws_Sink_crcFrom h_p1 h_p1_bytes k_p1_bytes n_p1_bytes w_p1_bitStore w_p1_bitsHeld p1_filled r_11.2)) (wr := []) (w1 := w1_Sink_crcFrom h_p1 h_p1_bytes k_p1_bytes n_p1_bytes w_p1_bitStore w_p1_bitsHeld p1_filled r_11.2) C cw_Sink_crcFrom (lg_in1 (List.mem_of_getElem? (i := 2) rfl) rfl) (lg_in6 (List.mem_of_getElem? (i := 163) rfl) rfl) (lg_in6 (List.mem_of_getElem? (i := 164) rfl) rfl) (lg_in6 (List.mem_of_getElem? (i := 165) rfl) rfl) (ci := 11) (cq := (R_Sink, F_Sink, 4)) (q0 := 0) rfl rfl rfl (c_Sink_crcFrom hfl dC dI h_p1 h_p1_bytes k_p1_bytes n_p1_bytes w_p1_bitStore w_p1_bitsHeld H.size K (x0 + 4) p1_filled r_11.2 hg_19) (by decide +kernel) ⟨Nat.le_of_ble_eq_true rfl, Nat.le_of_ble_eq_true rfl⟩ rfl rfl (Nat.le_of_ble_eq_true rfl) d_PngWriter_closePart_19 hP hD hS hl.1 [0, 1] [] [0] rfl rfl rfl rfl (by decide) rfl (fun H locs hP hD hS => ?_)
  have hP : va_P (dC, dI) classes (ws_PngWriter_closePart h_p1 h_p1_bytes k_p1_bytes n_p1_bytes w_p1_bitStore w_p1_bitsHeld p1_filled r_11.2) H := hP.sub [0, 1] rfl
  have hD : va_D A (ws_PngWriter_closePart h_p1 h_p1_bytes k_p1_bytes n_p1_bytes w_p1_bitStore w_p1_bitsHeld p1_filled r_11.2) := hD.sub [0, 1] (by decide) rfl
  show W p l e R s m _ below meth c H locs 0 0 _ (F0 m 22 ls [.int r_19.1, .ref h_p1])
  rcases dc_tryE h with ⟨r_22, hg_22, h⟩ | ⟨r_22, hg_22, h⟩
  rotate_left
  · cases h
    exact dc_thrV (y := y_Sink_putBig4) (bytes := b_Sink_putBig4) (maxL := 2) (ret' := none) (fr' := 7) (lo' := 131) (n := 1) (val := vl_v) (o := r_22) (tysc := [(k_p1_bytes, .byte)]) (As := [.int r_19.1]) (rest := []) (wc := (ws_Sink_putBig4 h_p1 h_p1_bytes k_p1_bytes n_p1_bytes w_p1_bitStore w_p1_bitsHeld p1_filled r_11.2)) (wr := []) (w1 := w1_Sink_putBig4 h_p1 h_p1_bytes k_p1_bytes n_p1_bytes w_p1_bitStore w_p1_bitsHeld) C cw_Sink_putBig4 (lg_in1 (List.mem_of_getElem? (i := 2) rfl) rfl) (lg_in6 (List.mem_of_getElem? (i := 143) rfl) rfl) (lg_in6 (List.mem_of_getElem? (i := 144) rfl) rfl) (lg_in6 (List.mem_of_getElem? (i := 145) rfl) rfl) (ci := 11) (cq := (R_Sink, F_Sink, 4)) (q0 := 0) rfl rfl rfl (ct_Sink_putBig4 hfl dC dI h_p1 h_p1_bytes k_p1_bytes n_p1_bytes w_p1_bitStore w_p1_bitsHeld H.size r_19.1 p1_filled r_11.2 hg_22) (by decide +kernel) ⟨Nat.le_of_ble_eq_true rfl, Nat.le_of_ble_eq_true rfl⟩ rfl rfl (Nat.le_of_ble_eq_true rfl) d_PngWriter_closePart_22 hRc.1 hRc.2 hP hD hS hl.1 [0, 1] [] [0] rfl rfl rfl rfl (by decide) rfl (fun x t H1 locs1 a1 a2 a3 a4 hP hD hS => dc_leaveT (u := (r_22.1, (r_22.2.1, r_22.2.2))) (w1 := w1_PngWriter_closePart h_p1 h_p1_bytes k_p1_bytes n_p1_bytes w_p1_bitStore w_p1_bitsHeld) C a1 a2 a3 a4 (hP.sub [0, 1] rfl) (hD.sub [0, 1] (by decide) rfl) hS)
  refine dc_callV (y := y_Sink_putBig4) (bytes := b_Sink_putBig4) (maxL := 2) (ret' := none) (fr' := 7) (lo' := 131) (n := 1) (val := vl_v) (o := r_22) (tysc := [(k_p1_bytes, .byte)]) (As := [.int r_19.1]) (rest := []) (wc := (ws_Sink_putBig4 h_p1 h_p1_bytes k_p1_bytes n_p1_bytes w_p1_bitStore w_p1_bitsHeld p1_filled r_11.2)) (wr := []) (w1 := w1_Sink_putBig4 h_p1 h_p1_bytes k_p1_bytes n_p1_bytes w_p1_bitStore w_p1_bitsHeld) C cw_Sink_putBig4 (lg_in1 (List.mem_of_getElem? (i := 2) rfl) rfl) (lg_in6 (List.mem_of_getElem? (i := 143) rfl) rfl) (lg_in6 (List.mem_of_getElem? (i := 144) rfl) rfl) (lg_in6 (List.mem_of_getElem? (i := 145) rfl) rfl) (ci := 11) (cq := (R_Sink, F_Sink, 4)) (q0 := 0) rfl rfl rfl (cr_Sink_putBig4 hfl dC dI h_p1 h_p1_bytes k_p1_bytes n_p1_bytes w_p1_bitStore w_p1_bitsHeld H.size r_19.1 p1_filled r_11.2 hg_22) (by decide +kernel) ⟨Nat.le_of_ble_eq_true rfl, Nat.le_of_ble_eq_true rfl⟩ rfl rfl (Nat.le_of_ble_eq_true rfl) d_PngWriter_closePart_22 hP hD hS hl.1 [0, 1] [] [0] rfl rfl rfl rfl (by decide) rfl (fun H locs hP hD hS => ?_)
  have hP : va_P (dC, dI) classes (ws_PngWriter_closePart h_p1 h_p1_bytes k_p1_bytes n_p1_bytes w_p1_bitStore w_p1_bitsHeld r_22.2.1 r_22.2.2) H := hP.sub [0, 1] rfl
  have hD : va_D A (ws_PngWriter_closePart h_p1 h_p1_bytes k_p1_bytes n_p1_bytes w_p1_bitStore w_p1_bitsHeld r_22.2.1 r_22.2.2) := hD.sub [0, 1] (by decide) rfl
  show W p l e R s m _ below meth c H locs 0 0 _ (F0 m 25 ls [])
  cases h
  exact dc_vret C (u := (r_22.2.1, r_22.2.2)) (w1 := w1_PngWriter_closePart h_p1 h_p1_bytes k_p1_bytes n_p1_bytes w_p1_bitStore w_p1_bitsHeld) hP hD hS d_PngWriter_closePart_25
theorem cr_PngWriter_closePart {l : Launch} (hfl : l.flags = flags0) (dC : Nat → ClassId) (dI : Nat → Nat → Nat) (h_p1 : Nat) (h_p1_bytes : Nat) (k_p1_bytes : ClassId) (n_p1_bytes : Nat) (w_p1_bitStore : Int32) (w_p1_bitsHeld : Int32) (sz : Nat) (K : Nat) (x0 : Int32) (p1_filled : Int32) (a_p1_bytes : Nat → Int32) {u : Unit × (Int32 × (Nat → Int32))} (h : f_PngWriter_closePart K n_p1_bytes x0 p1_filled a_p1_bytes = some (.inl u)) : MetX l y_PngWriter_closePart (Cond.code y_PngWriter_closePart b_PngWriter_closePart 2 none :: lw_g) (rmx 8 152 0 0) (vx_Pre dC dI [(k_p1_bytes, .byte)] [.int x0, .ref h_p1] sz (ws_PngWriter_closePart h_p1 h_p1_bytes k_p1_bytes n_p1_bytes w_p1_bitStore w_p1_bitsHeld p1_filled a_p1_bytes)) (vx_Q vl_v (.inl u) (fun u t => vx_B dC dI [(k_p1_bytes, .byte)] (va_A (ws_PngWriter_closePart h_p1 h_p1_bytes k_p1_bytes n_p1_bytes w_p1_bitStore w_p1_bitsHeld p1_filled a_p1_bytes) sz) (w1_PngWriter_closePart h_p1 h_p1_bytes k_p1_bytes n_p1_bytes w_p1_bitStore w_p1_bitsHeld u) t) (va_A (ws_PngWriter_closePart h_p1 h_p1_bytes k_p1_bytes n_p1_bytes w_p1_bitStore w_p1_bitsHeld p1_filled a_p1_bytes) sz)) 0 0 (va_A (ws_PngWriter_closePart h_p1 h_p1_bytes k_p1_bytes n_p1_bytes w_p1_bitStore w_p1_bitsHeld p1_filled a_p1_bytes) sz) := dc_cr rfl (c_PngWriter_closePart hfl dC dI h_p1 h_p1_bytes k_p1_bytes n_p1_bytes w_p1_bitStore w_p1_bitsHeld sz K x0 p1_filled a_p1_bytes h)
theorem ct_PngWriter_closePart {l : Launch} (hfl : l.flags = flags0) (dC : Nat → ClassId) (dI : Nat → Nat → Nat) (h_p1 : Nat) (h_p1_bytes : Nat) (k_p1_bytes : ClassId) (n_p1_bytes : Nat) (w_p1_bitStore : Int32) (w_p1_bitsHeld : Int32) (sz : Nat) (K : Nat) (x0 : Int32) (p1_filled : Int32) (a_p1_bytes : Nat → Int32) {u : Nat × (Int32 × (Nat → Int32))} (h : f_PngWriter_closePart K n_p1_bytes x0 p1_filled a_p1_bytes = some (.inr u)) : MetX l y_PngWriter_closePart (Cond.code y_PngWriter_closePart b_PngWriter_closePart 2 none :: lw_g) (rmx 8 152 1 6) (vx_Pre dC dI [(k_p1_bytes, .byte)] [.int x0, .ref h_p1] sz (ws_PngWriter_closePart h_p1 h_p1_bytes k_p1_bytes n_p1_bytes w_p1_bitStore w_p1_bitsHeld p1_filled a_p1_bytes)) (vx_Q vl_v (.inr u) (fun u t => vx_B dC dI [(k_p1_bytes, .byte)] (va_A (ws_PngWriter_closePart h_p1 h_p1_bytes k_p1_bytes n_p1_bytes w_p1_bitStore w_p1_bitsHeld p1_filled a_p1_bytes) sz) (w1_PngWriter_closePart h_p1 h_p1_bytes k_p1_bytes n_p1_bytes w_p1_bitStore w_p1_bitsHeld u) t) (va_A (ws_PngWriter_closePart h_p1 h_p1_bytes k_p1_bytes n_p1_bytes w_p1_bitStore w_p1_bitsHeld p1_filled a_p1_bytes) sz)) 1 6 (va_A (ws_PngWriter_closePart h_p1 h_p1_bytes k_p1_bytes n_p1_bytes w_p1_bitStore w_p1_bitsHeld p1_filled a_p1_bytes) sz) := dc_ct rfl (c_PngWriter_closePart hfl dC dI h_p1 h_p1_bytes k_p1_bytes n_p1_bytes w_p1_bitStore w_p1_bitsHeld sz K x0 p1_filled a_p1_bytes h)
def ws_PngWriter_putHeader (h_p1 : Nat) (h_p1_bytes : Nat) (h_p0 : Nat) (h_p0_points : Nat) (k_p1_bytes : ClassId) (n_p1_bytes : Nat) (w_p1_bitStore : Int32) (w_p1_bitsHeld : Int32) (p1_filled : Int32) (a_p1_bytes : Nat → Int32) (p0_width : Int32) (p0_height : Int32) : va_W := [(h_p1, .inr (11, [.ref h_p1_bytes, .int p1_filled, .int w_p1_bitStore, .int w_p1_bitsHeld])), (h_p1_bytes, .inl (k_p1_bytes, n_p1_bytes, .inl a_p1_bytes)), (h_p0, .inr (8, [.ref h_p0_points, .int p0_width, .int p0_height]))]
abbrev w1_PngWriter_putHeader (h_p1 : Nat) (h_p1_bytes : Nat) (h_p0 : Nat) (h_p0_points : Nat) (k_p1_bytes : ClassId) (n_p1_bytes : Nat) (w_p1_bitStore : Int32) (w_p1_bitsHeld : Int32) (p0_width : Int32) (p0_height : Int32) (u : Int32 × (Nat → Int32)) : va_W := ws_PngWriter_putHeader h_p1 h_p1_bytes h_p0 h_p0_points k_p1_bytes n_p1_bytes w_p1_bitStore w_p1_bitsHeld u.1 u.2 p0_width p0_height
abbrev q_PngWriter_putHeader (below : List Frame) (args : Array Value) (s : State) (dC : Nat → ClassId) (dI : Nat → Nat → Nat) (A : Nat → Prop) (h_p1 : Nat) (h_p1_bytes : Nat) (h_p0 : Nat) (h_p0_points : Nat) (k_p1_bytes : ClassId) (n_p1_bytes : Nat) (w_p1_bitStore : Int32) (w_p1_bitsHeld : Int32) (p0_width : Int32) (p0_height : Int32) (o : (Unit × (Int32 × (Nat → Int32))) ⊕ (Nat × (Int32 × (Nat → Int32)))) : State → Prop := XQ below (vx_Q vl_v o (fun u t => vx_B dC dI [(k_p1_bytes, .byte)] A (w1_PngWriter_putHeader h_p1 h_p1_bytes h_p0 h_p0_points k_p1_bytes n_p1_bytes w_p1_bitStore w_p1_bitsHeld p0_width p0_height u) t) A) args s (mcx o) (msx o) A
theorem d_PngWriter_putHeader_0 : decode b_PngWriter_putHeader 0 = .ok (.ldc 79, 2) := by decide +kernel
theorem d_PngWriter_putHeader_2 : decode b_PngWriter_putHeader 2 = .ok (.aload_n 1, 1) := by decide +kernel
theorem d_PngWriter_putHeader_3 : decode b_PngWriter_putHeader 3 = .ok (.invokestatic 56, 3) := by decide +kernel
theorem d_PngWriter_putHeader_6 : decode b_PngWriter_putHeader 6 = .ok (.istore_n 2, 1) := by decide +kernel
theorem d_PngWriter_putHeader_7 : decode b_PngWriter_putHeader 7 = .ok (.aload_n 1, 1) := by decide +kernel
theorem d_PngWriter_putHeader_8 : decode b_PngWriter_putHeader 8 = .ok (.aload_n 0, 1) := by decide +kernel
theorem d_PngWriter_putHeader_9 : decode b_PngWriter_putHeader 9 = .ok (.getfield 80, 3) := by decide +kernel
theorem d_PngWriter_putHeader_12 : decode b_PngWriter_putHeader 12 = .ok (.invokevirtual 68, 3) := by decide +kernel
theorem d_PngWriter_putHeader_15 : decode b_PngWriter_putHeader 15 = .ok (.aload_n 1, 1) := by decide +kernel
theorem d_PngWriter_putHeader_16 : decode b_PngWriter_putHeader 16 = .ok (.aload_n 0, 1) := by decide +kernel
theorem d_PngWriter_putHeader_17 : decode b_PngWriter_putHeader 17 = .ok (.getfield 85, 3) := by decide +kernel
theorem d_PngWriter_putHeader_20 : decode b_PngWriter_putHeader 20 = .ok (.invokevirtual 68, 3) := by decide +kernel
theorem d_PngWriter_putHeader_23 : decode b_PngWriter_putHeader 23 = .ok (.aload_n 1, 1) := by decide +kernel
theorem d_PngWriter_putHeader_24 : decode b_PngWriter_putHeader 24 = .ok (.bipush 8, 2) := by decide +kernel
theorem d_PngWriter_putHeader_26 : decode b_PngWriter_putHeader 26 = .ok (.invokevirtual 37, 3) := by decide +kernel
theorem d_PngWriter_putHeader_29 : decode b_PngWriter_putHeader 29 = .ok (.aload_n 1, 1) := by decide +kernel
theorem d_PngWriter_putHeader_30 : decode b_PngWriter_putHeader 30 = .ok (.bipush 6, 2) := by decide +kernel
theorem d_PngWriter_putHeader_32 : decode b_PngWriter_putHeader 32 = .ok (.invokevirtual 37, 3) := by decide +kernel
theorem d_PngWriter_putHeader_35 : decode b_PngWriter_putHeader 35 = .ok (.aload_n 1, 1) := by decide +kernel
theorem d_PngWriter_putHeader_36 : decode b_PngWriter_putHeader 36 = .ok (.iconst 3, 1) := by decide +kernel
theorem d_PngWriter_putHeader_37 : decode b_PngWriter_putHeader 37 = .ok (.invokevirtual 88, 3) := by decide +kernel
theorem d_PngWriter_putHeader_40 : decode b_PngWriter_putHeader 40 = .ok (.iload_n 2, 1) := by decide +kernel
theorem d_PngWriter_putHeader_41 : decode b_PngWriter_putHeader 41 = .ok (.aload_n 1, 1) := by decide +kernel
theorem d_PngWriter_putHeader_42 : decode b_PngWriter_putHeader 42 = .ok (.invokestatic 60, 3) := by decide +kernel
theorem d_PngWriter_putHeader_45 : decode b_PngWriter_putHeader 45 = .ok (.return_, 1) := by decide +kernel
def f_PngWriter_putHeader (K : Nat) (n_p1_bytes : Nat)  (p1_filled : Int32) (a_p1_bytes : Nat → Int32) (p0_width : Int32) (p0_height : Int32) : Option ((Unit × (Int32 × (Nat → Int32))) ⊕ (Nat × (Int32 × (Nat → Int32)))) := dc_try (f_PngWriter_openPart n_p1_bytes 1229472850 p1_filled a_p1_bytes) (fun r_3 => dc_try (f_Sink_putBig4 n_p1_bytes p0_width r_3.2.1 r_3.2.2) (fun r_12 => dc_try (f_Sink_putBig4 n_p1_bytes p0_height r_12.2.1 r_12.2.2) (fun r_20 => dc_try (f_Sink_put n_p1_bytes 8 r_20.2.1 r_20.2.2) (fun r_26 => dc_try (f_Sink_put n_p1_bytes 6 r_26.2.1 r_26.2.2) (fun r_32 => dc_try (f_Sink_putZeros K n_p1_bytes 3 r_32.2.1 r_32.2.2) (fun r_37 => dc_try (f_PngWriter_closePart K n_p1_bytes r_3.1 r_37.2.1 r_37.2.2) (fun r_42 => some (.inl ((), (r_42.2.1, r_42.2.2)))) (fun r_42 => some (.inr (r_42.1, (r_42.2.1, r_42.2.2))))) (fun r_37 => some (.inr (r_37.1, (r_37.2.1, r_37.2.2))))) (fun r_32 => some (.inr (r_32.1, (r_32.2.1, r_32.2.2))))) (fun r_26 => some (.inr (r_26.1, (r_26.2.1, r_26.2.2))))) (fun r_20 => some (.inr (r_20.1, (r_20.2.1, r_20.2.2))))) (fun r_12 => some (.inr (r_12.1, (r_12.2.1, r_12.2.2))))) (fun r_3 => some (.inr (r_3.1, (r_3.2.1, r_3.2.2))))
set_option maxHeartbeats 400000 in
set_option maxRecDepth 100000 in
theorem c_PngWriter_putHeader {l : Launch} (hfl : l.flags = flags0) (dC : Nat → ClassId) (dI : Nat → Nat → Nat) (h_p1 : Nat) (h_p1_bytes : Nat) (h_p0 : Nat) (h_p0_points : Nat) (k_p1_bytes : ClassId) (n_p1_bytes : Nat) (w_p1_bitStore : Int32) (w_p1_bitsHeld : Int32) (sz : Nat) (K : Nat)  (p1_filled : Int32) (a_p1_bytes : Nat → Int32) (p0_width : Int32) (p0_height : Int32) {o : (Unit × (Int32 × (Nat → Int32))) ⊕ (Nat × (Int32 × (Nat → Int32)))} (h : f_PngWriter_putHeader K n_p1_bytes p1_filled a_p1_bytes p0_width p0_height = some o) : MetX l y_PngWriter_putHeader (Cond.code y_PngWriter_putHeader b_PngWriter_putHeader 3 none :: lw_g) (rmx 9 174 (mcx o) (msx o)) (vx_Pre dC dI [(k_p1_bytes, .byte)] [.ref h_p0, .ref h_p1] sz (ws_PngWriter_putHeader h_p1 h_p1_bytes h_p0 h_p0_points k_p1_bytes n_p1_bytes w_p1_bitStore w_p1_bitsHeld p1_filled a_p1_bytes p0_width p0_height)) (vx_Q vl_v o (fun u t => vx_B dC dI [(k_p1_bytes, .byte)] (va_A (ws_PngWriter_putHeader h_p1 h_p1_bytes h_p0 h_p0_points k_p1_bytes n_p1_bytes w_p1_bitStore w_p1_bitsHeld p1_filled a_p1_bytes p0_width p0_height) sz) (w1_PngWriter_putHeader h_p1 h_p1_bytes h_p0 h_p0_points k_p1_bytes n_p1_bytes w_p1_bitStore w_p1_bitsHeld p0_width p0_height u) t) (va_A (ws_PngWriter_putHeader h_p1 h_p1_bytes h_p0 h_p0_points k_p1_bytes n_p1_bytes w_p1_bitStore w_p1_bitsHeld p1_filled a_p1_bytes p0_width p0_height) sz)) (mcx o) (msx o) (va_A (ws_PngWriter_putHeader h_p1 h_p1_bytes h_p0 h_p0_points k_p1_bytes n_p1_bytes w_p1_bitStore w_p1_bitsHeld p1_filled a_p1_bytes p0_width p0_height) sz) := by
  refine MetX.ofW (cc := b_PngWriter_putHeader) (maxL := 3) (ret := none) (by decide +kernel) rfl ?_
  intro p e s m args below meth c s₁ B hml hv
  obtain ⟨rfl, rfl, C, hP, hD, hS⟩ := dc_entry hfl B hml hv
  have hl := lv_entry ([.ref h_p0, .ref h_p1]) (n := 3) (Nat.le_of_ble_eq_true rfl)
  rw [lg_entry_eq]
  generalize (lg_sl ([.ref h_p0, .ref h_p1]) ++ List.replicate (3 - (lg_sl ([.ref h_p0, .ref h_p1])).length) Slot.unset).toArray = ls at hl ⊢
  have hl : lv_has ls 3 [(0, .ref h_p0), (1, .ref h_p1)] := hl
  generalize hAe : va_A (ws_PngWriter_putHeader h_p1 h_p1_bytes h_p0 h_p0_points k_p1_bytes n_p1_bytes w_p1_bitStore w_p1_bitsHeld p1_filled a_p1_bytes p0_width p0_height) s.heap.size = A at C hD hS ⊢
  have hRc : mcx o ≤ (headSpec (Cond.code y_PngWriter_putHeader b_PngWriter_putHeader 3 none :: lw_g) (rmx 9 174 (mcx o) (msx o))).room.cells ∧ msx o ≤ (headSpec (Cond.code y_PngWriter_putHeader b_PngWriter_putHeader 3 none :: lw_g) (rmx 9 174 (mcx o) (msx o))).room.slots := ⟨Nat.le_refl _, Nat.le_refl _⟩
  generalize (headSpec (Cond.code y_PngWriter_putHeader b_PngWriter_putHeader 3 none :: lw_g) (rmx 9 174 (mcx o) (msx o))).room = R at C hRc ⊢
  have C : cx p l e R s m _ meth c dC dI A R_PngWriter b_PngWriter_putHeader 3 none 9 174 [(k_p1_bytes, .byte)] := C
  obtain ⟨hx, hb, hr, hml, hown, hts, hlk, hK, hA, hV, htr, hex, hF, hL, hfl⟩ := id C
  unfold f_PngWriter_putHeader at h
  revert hP hS
  generalize hH : s.heap = H
  generalize hLo : ([] : List Loc) = locs
  intro hP hS
  have hS : va_S A s.heap H locs := by rw [hH]; exact hS
  refine lv_ldc (v := 1229472850) hx hb hown (hts _ (lg_in6 (List.mem_of_getElem? (i := 135) rfl) rfl)) d_PngWriter_putHeader_0 ?_
  refine lv_aload_n hx hb d_PngWriter_putHeader_2 rfl (lv_at hl 1 rfl) ?_
  rcases dc_tryE h with ⟨r_3, hg_3, h⟩ | ⟨r_3, hg_3, h⟩
  rotate_left
  · cases h
    exact dc_thrS (y := y_PngWriter_openPart) (bytes := b_PngWriter_openPart) (maxL := 3) (ret' := (some .int)) (fr' := 8) (lo' := 152) (n := 2) (val := vl_i) (o := r_3) (tysc := [(k_p1_bytes, .byte)]) (As := [.int 1229472850, .ref h_p1]) (rest := []) (wc := (ws_PngWriter_openPart h_p1 h_p1_bytes k_p1_bytes n_p1_bytes w_p1_bitStore w_p1_bitsHeld p1_filled a_p1_bytes)) (wr := [(h_p0, .inr (8, [.ref h_p0_points, .int p0_width, .int p0_height]))]) (w1 := w1_PngWriter_openPart h_p1 h_p1_bytes k_p1_bytes n_p1_bytes w_p1_bitStore w_p1_bitsHeld) C (ct_PngWriter_openPart hfl dC dI h_p1 h_p1_bytes k_p1_bytes n_p1_bytes w_p1_bitStore w_p1_bitsHeld H.size 1229472850 p1_filled a_p1_bytes hg_3) cw_PngWriter_openPart (lg_in1 (List.mem_of_getElem? (i := 9) rfl) rfl) (lg_in6 (List.mem_of_getElem? (i := 136) rfl) rfl) (lg_in6 (List.mem_of_getElem? (i := 137) rfl) rfl) (by decide +kernel) ⟨Nat.le_of_ble_eq_true rfl, Nat.le_of_ble_eq_true rfl⟩ rfl rfl (Nat.le_of_ble_eq_true rfl) d_PngWriter_putHeader_3 hRc.1 hRc.2 hP hD hS hl.1 [0, 1] [2] [0] rfl rfl rfl rfl (by decide) rfl (fun x t H1 locs1 a1 a2 a3 a4 hP hD hS => dc_leaveT (u := (r_3.1, (r_3.2.1, r_3.2.2))) (w1 := w1_PngWriter_putHeader h_p1 h_p1_bytes h_p0 h_p0_points k_p1_bytes n_p1_bytes w_p1_bitStore w_p1_bitsHeld p0_width p0_height) C a1 a2 a3 a4 (hP.sub [1, 2, 0] rfl) (hD.sub [1, 2, 0] (by decide) rfl) hS)
  refine dc_callS (y := y_PngWriter_openPart) (bytes := b_PngWriter_openPart) (maxL := 3) (ret' := (some .int)) (fr' := 8) (lo' := 152) (n := 2) (val := vl_i) (o := r_3) (tysc := [(k_p1_bytes, .byte)]) (As := [.int 1229472850, .ref h_p1]) (rest := []) (wc := (ws_PngWriter_openPart h_p1 h_p1_bytes k_p1_bytes n_p1_bytes w_p1_bitStore w_p1_bitsHeld p1_filled a_p1_bytes)) (wr := [(h_p0, .inr (8, [.ref h_p0_points, .int p0_width, .int p0_height]))]) (w1 := w1_PngWriter_openPart h_p1 h_p1_bytes k_p1_bytes n_p1_bytes w_p1_bitStore w_p1_bitsHeld) C (cr_PngWriter_openPart hfl dC dI h_p1 h_p1_bytes k_p1_bytes n_p1_bytes w_p1_bitStore w_p1_bitsHeld H.size 1229472850 p1_filled a_p1_bytes hg_3) cw_PngWriter_openPart (lg_in1 (List.mem_of_getElem? (i := 9) rfl) rfl) (lg_in6 (List.mem_of_getElem? (i := 136) rfl) rfl) (lg_in6 (List.mem_of_getElem? (i := 137) rfl) rfl) (by decide +kernel) ⟨Nat.le_of_ble_eq_true rfl, Nat.le_of_ble_eq_true rfl⟩ rfl rfl (Nat.le_of_ble_eq_true rfl) d_PngWriter_putHeader_3 hP hD hS hl.1 [0, 1] [2] [0] rfl rfl rfl rfl (by decide) rfl (fun H locs hP hD hS => ?_)
  have hP : va_P (dC, dI) classes (ws_PngWriter_putHeader h_p1 h_p1_bytes h_p0 h_p0_points k_p1_bytes n_p1_bytes w_p1_bitStore w_p1_bitsHeld r_3.2.1 r_3.2.2 p0_width p0_height) H := hP.sub [1, 2, 0] rfl
  have hD : va_D A (ws_PngWriter_putHeader h_p1 h_p1_bytes h_p0 h_p0_points k_p1_bytes n_p1_bytes w_p1_bitStore w_p1_bitsHeld r_3.2.1 r_3.2.2 p0_width p0_height) := hD.sub [1, 2, 0] (by decide) rfl
  show W p l e R s m _ below meth c H locs 0 0 _ (F0 m 6 ls [.int r_3.1])
  refine lv_istore_n (lv' := [(2, .int r_3.1), (0, .ref h_p0), (1, .ref h_p1)]) hx hb d_PngWriter_putHeader_6 rfl hl (by decide) rfl (fun ls hl => ?_)
  refine lv_aload_n hx hb d_PngWriter_putHeader_7 rfl (lv_at hl 2 rfl) ?_
  refine lv_aload_n hx hb d_PngWriter_putHeader_8 rfl (lv_at hl 1 rfl) ?_
  refine va_get (D := (dC, dI)) (ci := 8) (v := .int p0_width) (C := R_Picture) (T := F_Picture) (N := 3) hx hb hts i_Picture hown hK hP 2 rfl rfl 1 (by decide) (hts _ (lg_in1 (List.mem_of_getElem? (i := 79) rfl) rfl)) (fun _ h9 => h9) rfl d_PngWriter_putHeader_9 ?_
  rcases dc_tryE h with ⟨r_12, hg_12, h⟩ | ⟨r_12, hg_12, h⟩
  rotate_left
  · cases h
    exact dc_thrV (y := y_Sink_putBig4) (bytes := b_Sink_putBig4) (maxL := 2) (ret' := none) (fr' := 7) (lo' := 131) (n := 1) (val := vl_v) (o := r_12) (tysc := [(k_p1_bytes, .byte)]) (As := [.int p0_width]) (rest := []) (wc := (ws_Sink_putBig4 h_p1 h_p1_bytes k_p1_bytes n_p1_bytes w_p1_bitStore w_p1_bitsHeld r_3.2.1 r_3.2.2)) (wr := [(h_p0, .inr (8, [.ref h_p0_points, .int p0_width, .int p0_height]))]) (w1 := w1_Sink_putBig4 h_p1 h_p1_bytes k_p1_bytes n_p1_bytes w_p1_bitStore w_p1_bitsHeld) C cw_Sink_putBig4 (lg_in1 (List.mem_of_getElem? (i := 2) rfl) rfl) (lg_in6 (List.mem_of_getElem? (i := 143) rfl) rfl) (lg_in6 (List.mem_of_getElem? (i := 144) rfl) rfl) (lg_in6 (List.mem_of_getElem? (i := 145) rfl) rfl) (ci := 11) (cq := (R_Sink, F_Sink, 4)) (q0 := 0) rfl rfl rfl (ct_Sink_putBig4 hfl dC dI h_p1 h_p1_bytes k_p1_bytes n_p1_bytes w_p1_bitStore w_p1_bitsHeld H.size p0_width r_3.2.1 r_3.2.2 hg_12) (by decide +kernel) ⟨Nat.le_of_ble_eq_true rfl, Nat.le_of_ble_eq_true rfl⟩ rfl rfl (Nat.le_of_ble_eq_true rfl) d_PngWriter_putHeader_12 hRc.1 hRc.2 hP hD hS hl.1 [0, 1] [2] [0] rfl rfl rfl rfl (by decide) rfl (fun x t H1 locs1 a1 a2 a3 a4 hP hD hS => dc_leaveT (u := (r_12.1, (r_12.2.1, r_12.2.2))) (w1 := w1_PngWriter_putHeader h_p1 h_p1_bytes h_p0 h_p0_points k_p1_bytes n_p1_bytes w_p1_bitStore w_p1_bitsHeld p0_width p0_height) C a1 a2 a3 a4 (hP.sub [1, 2, 0] rfl) (hD.sub [1, 2, 0] (by decide) rfl) hS)
  refine dc_callV (y := y_Sink_putBig4) (bytes := b_Sink_putBig4) (maxL := 2) (ret' := none) (fr' := 7) (lo' := 131) (n := 1) (val := vl_v) (o := r_12) (tysc := [(k_p1_bytes, .byte)]) (As := [.int p0_width]) (rest := []) (wc := (ws_Sink_putBig4 h_p1 h_p1_bytes k_p1_bytes n_p1_bytes w_p1_bitStore w_p1_bitsHeld r_3.2.1 r_3.2.2)) (wr := [(h_p0, .inr (8, [.ref h_p0_points, .int p0_width, .int p0_height]))]) (w1 := w1_Sink_putBig4 h_p1 h_p1_bytes k_p1_bytes n_p1_bytes w_p1_bitStore w_p1_bitsHeld) C cw_Sink_putBig4 (lg_in1 (List.mem_of_getElem? (i := 2) rfl) rfl) (lg_in6 (List.mem_of_getElem? (i := 143) rfl) rfl) (lg_in6 (List.mem_of_getElem? (i := 144) rfl) rfl) (lg_in6 (List.mem_of_getElem? (i := 145) rfl) rfl) (ci := 11) (cq := (R_Sink, F_Sink, 4)) (q0 := 0) rfl rfl rfl (cr_Sink_putBig4 hfl dC dI h_p1 h_p1_bytes k_p1_bytes n_p1_bytes w_p1_bitStore w_p1_bitsHeld H.size p0_width r_3.2.1 r_3.2.2 hg_12) (by decide +kernel) ⟨Nat.le_of_ble_eq_true rfl, Nat.le_of_ble_eq_true rfl⟩ rfl rfl (Nat.le_of_ble_eq_true rfl) d_PngWriter_putHeader_12 hP hD hS hl.1 [0, 1] [2] [0] rfl rfl rfl rfl (by decide) rfl (fun H locs hP hD hS => ?_)
  have hP : va_P (dC, dI) classes (ws_PngWriter_putHeader h_p1 h_p1_bytes h_p0 h_p0_points k_p1_bytes n_p1_bytes w_p1_bitStore w_p1_bitsHeld r_12.2.1 r_12.2.2 p0_width p0_height) H := hP.sub [1, 2, 0] rfl
  have hD : va_D A (ws_PngWriter_putHeader h_p1 h_p1_bytes h_p0 h_p0_points k_p1_bytes n_p1_bytes w_p1_bitStore w_p1_bitsHeld r_12.2.1 r_12.2.2 p0_width p0_height) := hD.sub [1, 2, 0] (by decide) rfl
  show W p l e R s m _ below meth c H locs 0 0 _ (F0 m 15 ls [])
  refine lv_aload_n hx hb d_PngWriter_putHeader_15 rfl (lv_at hl 2 rfl) ?_
  refine lv_aload_n hx hb d_PngWriter_putHeader_16 rfl (lv_at hl 1 rfl) ?_
  refine va_get (D := (dC, dI)) (ci := 8) (v := .int p0_height) (C := R_Picture) (T := F_Picture) (N := 3) hx hb hts i_Picture hown hK hP 2 rfl rfl 2 (by decide) (hts _ (lg_in1 (List.mem_of_getElem? (i := 86) rfl) rfl)) (fun _ h9 => h9) rfl d_PngWriter_putHeader_17 ?_
  rcases dc_tryE h with ⟨r_20, hg_20, h⟩ | ⟨r_20, hg_20, h⟩
  rotate_left
  · cases h
    exact dc_thrV (y := y_Sink_putBig4) (bytes := b_Sink_putBig4) (maxL := 2) (ret' := none) (fr' := 7) (lo' := 131) (n := 1) (val := vl_v) (o := r_20) (tysc := [(k_p1_bytes, .byte)]) (As := [.int p0_height]) (rest := []) (wc := (ws_Sink_putBig4 h_p1 h_p1_bytes k_p1_bytes n_p1_bytes w_p1_bitStore w_p1_bitsHeld r_12.2.1 r_12.2.2)) (wr := [(h_p0, .inr (8, [.ref h_p0_points, .int p0_width, .int p0_height]))]) (w1 := w1_Sink_putBig4 h_p1 h_p1_bytes k_p1_bytes n_p1_bytes w_p1_bitStore w_p1_bitsHeld) C cw_Sink_putBig4 (lg_in1 (List.mem_of_getElem? (i := 2) rfl) rfl) (lg_in6 (List.mem_of_getElem? (i := 143) rfl) rfl) (lg_in6 (List.mem_of_getElem? (i := 144) rfl) rfl) (lg_in6 (List.mem_of_getElem? (i := 145) rfl) rfl) (ci := 11) (cq := (R_Sink, F_Sink, 4)) (q0 := 0) rfl rfl rfl (ct_Sink_putBig4 hfl dC dI h_p1 h_p1_bytes k_p1_bytes n_p1_bytes w_p1_bitStore w_p1_bitsHeld H.size p0_height r_12.2.1 r_12.2.2 hg_20) (by decide +kernel) ⟨Nat.le_of_ble_eq_true rfl, Nat.le_of_ble_eq_true rfl⟩ rfl rfl (Nat.le_of_ble_eq_true rfl) d_PngWriter_putHeader_20 hRc.1 hRc.2 hP hD hS hl.1 [0, 1] [2] [0] rfl rfl rfl rfl (by decide) rfl (fun x t H1 locs1 a1 a2 a3 a4 hP hD hS => dc_leaveT (u := (r_20.1, (r_20.2.1, r_20.2.2))) (w1 := w1_PngWriter_putHeader h_p1 h_p1_bytes h_p0 h_p0_points k_p1_bytes n_p1_bytes w_p1_bitStore w_p1_bitsHeld p0_width p0_height) C a1 a2 a3 a4 (hP.sub [1, 2, 0] rfl) (hD.sub [1, 2, 0] (by decide) rfl) hS)
  refine dc_callV (y := y_Sink_putBig4) (bytes := b_Sink_putBig4) (maxL := 2) (ret' := none) (fr' := 7) (lo' := 131) (n := 1) (val := vl_v) (o := r_20) (tysc := [(k_p1_bytes, .byte)]) (As := [.int p0_height]) (rest := []) (wc := (ws_Sink_putBig4 h_p1 h_p1_bytes k_p1_bytes n_p1_bytes w_p1_bitStore w_p1_bitsHeld r_12.2.1 r_12.2.2)) (wr := [(h_p0, .inr (8, [.ref h_p0_points, .int p0_width, .int p0_height]))]) (w1 := w1_Sink_putBig4 h_p1 h_p1_bytes k_p1_bytes n_p1_bytes w_p1_bitStore w_p1_bitsHeld) C cw_Sink_putBig4 (lg_in1 (List.mem_of_getElem? (i := 2) rfl) rfl) (lg_in6 (List.mem_of_getElem? (i := 143) rfl) rfl) (lg_in6 (List.mem_of_getElem? (i := 144) rfl) rfl) (lg_in6 (List.mem_of_getElem? (i := 145) rfl) rfl) (ci := 11) (cq := (R_Sink, F_Sink, 4)) (q0 := 0) rfl rfl rfl (cr_Sink_putBig4 hfl dC dI h_p1 h_p1_bytes k_p1_bytes n_p1_bytes w_p1_bitStore w_p1_bitsHeld H.size p0_height r_12.2.1 r_12.2.2 hg_20) (by decide +kernel) ⟨Nat.le_of_ble_eq_true rfl, Nat.le_of_ble_eq_true rfl⟩ rfl rfl (Nat.le_of_ble_eq_true rfl) d_PngWriter_putHeader_20 hP hD hS hl.1 [0, 1] [2] [0] rfl rfl rfl rfl (by decide) rfl (fun H locs hP hD hS => ?_)
  have hP : va_P (dC, dI) classes (ws_PngWriter_putHeader h_p1 h_p1_bytes h_p0 h_p0_points k_p1_bytes n_p1_bytes w_p1_bitStore w_p1_bitsHeld r_20.2.1 r_20.2.2 p0_width p0_height) H := hP.sub [1, 2, 0] rfl
  have hD : va_D A (ws_PngWriter_putHeader h_p1 h_p1_bytes h_p0 h_p0_points k_p1_bytes n_p1_bytes w_p1_bitStore w_p1_bitsHeld r_20.2.1 r_20.2.2 p0_width p0_height) := hD.sub [1, 2, 0] (by decide) rfl
  show W p l e R s m _ below meth c H locs 0 0 _ (F0 m 23 ls [])
  refine lv_aload_n hx hb d_PngWriter_putHeader_23 rfl (lv_at hl 2 rfl) ?_
  refine lv_bipush (v := 8) hx hb d_PngWriter_putHeader_24 (by decide) ?_
  rcases dc_tryE h with ⟨r_26, hg_26, h⟩ | ⟨r_26, hg_26, h⟩
  rotate_left
  · cases h
    exact dc_thrV (y := y_Sink_put) (bytes := b_Sink_put) (maxL := 2) (ret' := none) (fr' := 6) (lo' := 110) (n := 1) (val := vl_v) (o := r_26) (tysc := [(k_p1_bytes, .byte)]) (As := [.int 8]) (rest := []) (wc := (ws_Sink_put h_p1 h_p1_bytes k_p1_bytes n_p1_bytes w_p1_bitStore w_p1_bitsHeld r_20.2.1 r_20.2.2)) (wr := [(h_p0, .inr (8, [.ref h_p0_points, .int p0_width, .int p0_height]))]) (w1 := w1_Sink_put h_p1 h_p1_bytes k_p1_bytes n_p1_bytes w_p1_bitStore w_p1_bitsHeld) C cw_Sink_put (lg_in1 (List.mem_of_getElem? (i := 2) rfl) rfl) (lg_in6 (List.mem_of_getElem? (i := 125) rfl) rfl) (lg_in6 (List.mem_of_getElem? (i := 126) rfl) rfl) (lg_in6 (List.mem_of_getElem? (i := 127) rfl) rfl) (ci := 11) (cq := (R_Sink, F_Sink, 4)) (q0 := 0) rfl rfl rfl (ct_Sink_put hfl dC dI h_p1 h_p1_bytes k_p1_bytes n_p1_bytes w_p1_bitStore w_p1_bitsHeld H.size 8 r_20.2.1 r_20.2.2 hg_26) (by decide +kernel) ⟨Nat.le_of_ble_eq_true rfl, Nat.le_of_ble_eq_true rfl⟩ rfl rfl (Nat.le_of_ble_eq_true rfl) d_PngWriter_putHeader_26 hRc.1 hRc.2 hP hD hS hl.1 [0, 1] [2] [0] rfl rfl rfl rfl (by decide) rfl (fun x t H1 locs1 a1 a2 a3 a4 hP hD hS => dc_leaveT (u := (r_26.1, (r_26.2.1, r_26.2.2))) (w1 := w1_PngWriter_putHeader h_p1 h_p1_bytes h_p0 h_p0_points k_p1_bytes n_p1_bytes w_p1_bitStore w_p1_bitsHeld p0_width p0_height) C a1 a2 a3 a4 (hP.sub [1, 2, 0] rfl) (hD.sub [1, 2, 0] (by decide) rfl) hS)
  refine dc_callV (y := y_Sink_put) (bytes := b_Sink_put) (maxL := 2) (ret' := none) (fr' := 6) (lo' := 110) (n := 1) (val := vl_v) (o := r_26) (tysc := [(k_p1_bytes, .byte)]) (As := [.int 8]) (rest := []) (wc := (ws_Sink_put h_p1 h_p1_bytes k_p1_bytes n_p1_bytes w_p1_bitStore w_p1_bitsHeld r_20.2.1 r_20.2.2)) (wr := [(h_p0, .inr (8, [.ref h_p0_points, .int p0_width, .int p0_height]))]) (w1 := w1_Sink_put h_p1 h_p1_bytes k_p1_bytes n_p1_bytes w_p1_bitStore w_p1_bitsHeld) C cw_Sink_put (lg_in1 (List.mem_of_getElem? (i := 2) rfl) rfl) (lg_in6 (List.mem_of_getElem? (i := 125) rfl) rfl) (lg_in6 (List.mem_of_getElem? (i := 126) rfl) rfl) (lg_in6 (List.mem_of_getElem? (i := 127) rfl) rfl) (ci := 11) (cq := (R_Sink, F_Sink, 4)) (q0 := 0) rfl rfl rfl (cr_Sink_put hfl dC dI h_p1 h_p1_bytes k_p1_bytes n_p1_bytes w_p1_bitStore w_p1_bitsHeld H.size 8 r_20.2.1 r_20.2.2 hg_26) (by decide +kernel) ⟨Nat.le_of_ble_eq_true rfl, Nat.le_of_ble_eq_true rfl⟩ rfl rfl (Nat.le_of_ble_eq_true rfl) d_PngWriter_putHeader_26 hP hD hS hl.1 [0, 1] [2] [0] rfl rfl rfl rfl (by decide) rfl (fun H locs hP hD hS => ?_)
  have hP : va_P (dC, dI) classes (ws_PngWriter_putHeader h_p1 h_p1_bytes h_p0 h_p0_points k_p1_bytes n_p1_bytes w_p1_bitStore w_p1_bitsHeld r_26.2.1 r_26.2.2 p0_width p0_height) H := hP.sub [1, 2, 0] rfl
  have hD : va_D A (ws_PngWriter_putHeader h_p1 h_p1_bytes h_p0 h_p0_points k_p1_bytes n_p1_bytes w_p1_bitStore w_p1_bitsHeld r_26.2.1 r_26.2.2 p0_width p0_height) := hD.sub [1, 2, 0] (by decide) rfl
  show W p l e R s m _ below meth c H locs 0 0 _ (F0 m 29 ls [])
  refine lv_aload_n hx hb d_PngWriter_putHeader_29 rfl (lv_at hl 2 rfl) ?_
  refine lv_bipush (v := 6) hx hb d_PngWriter_putHeader_30 (by decide) ?_
  rcases dc_tryE h with ⟨r_32, hg_32, h⟩ | ⟨r_32, hg_32, h⟩
  rotate_left
  · cases h
    exact dc_thrV (y := y_Sink_put) (bytes := b_Sink_put) (maxL := 2) (ret' := none) (fr' := 6) (lo' := 110) (n := 1) (val := vl_v) (o := r_32) (tysc := [(k_p1_bytes, .byte)]) (As := [.int 6]) (rest := []) (wc := (ws_Sink_put h_p1 h_p1_bytes k_p1_bytes n_p1_bytes w_p1_bitStore w_p1_bitsHeld r_26.2.1 r_26.2.2)) (wr := [(h_p0, .inr (8, [.ref h_p0_points, .int p0_width, .int p0_height]))]) (w1 := w1_Sink_put h_p1 h_p1_bytes k_p1_bytes n_p1_bytes w_p1_bitStore w_p1_bitsHeld) C cw_Sink_put (lg_in1 (List.mem_of_getElem? (i := 2) rfl) rfl) (lg_in6 (List.mem_of_getElem? (i := 125) rfl) rfl) (lg_in6 (List.mem_of_getElem? (i := 126) rfl) rfl) (lg_in6 (List.mem_of_getElem? (i := 127) rfl) rfl) (ci := 11) (cq := (R_Sink, F_Sink, 4)) (q0 := 0) rfl rfl rfl (ct_Sink_put hfl dC dI h_p1 h_p1_bytes k_p1_bytes n_p1_bytes w_p1_bitStore w_p1_bitsHeld H.size 6 r_26.2.1 r_26.2.2 hg_32) (by decide +kernel) ⟨Nat.le_of_ble_eq_true rfl, Nat.le_of_ble_eq_true rfl⟩ rfl rfl (Nat.le_of_ble_eq_true rfl) d_PngWriter_putHeader_32 hRc.1 hRc.2 hP hD hS hl.1 [0, 1] [2] [0] rfl rfl rfl rfl (by decide) rfl (fun x t H1 locs1 a1 a2 a3 a4 hP hD hS => dc_leaveT (u := (r_32.1, (r_32.2.1, r_32.2.2))) (w1 := w1_PngWriter_putHeader h_p1 h_p1_bytes h_p0 h_p0_points k_p1_bytes n_p1_bytes w_p1_bitStore w_p1_bitsHeld p0_width p0_height) C a1 a2 a3 a4 (hP.sub [1, 2, 0] rfl) (hD.sub [1, 2, 0] (by decide) rfl) hS)
  refine dc_callV (y := y_Sink_put) (bytes := b_Sink_put) (maxL := 2) (ret' := none) (fr' := 6) (lo' := 110) (n := 1) (val := vl_v) (o := r_32) (tysc := [(k_p1_bytes, .byte)]) (As := [.int 6]) (rest := []) (wc := (ws_Sink_put h_p1 h_p1_bytes k_p1_bytes n_p1_bytes w_p1_bitStore w_p1_bitsHeld r_26.2.1 r_26.2.2)) (wr := [(h_p0, .inr (8, [.ref h_p0_points, .int p0_width, .int p0_height]))]) (w1 := w1_Sink_put h_p1 h_p1_bytes k_p1_bytes n_p1_bytes w_p1_bitStore w_p1_bitsHeld) C cw_Sink_put (lg_in1 (List.mem_of_getElem? (i := 2) rfl) rfl) (lg_in6 (List.mem_of_getElem? (i := 125) rfl) rfl) (lg_in6 (List.mem_of_getElem? (i := 126) rfl) rfl) (lg_in6 (List.mem_of_getElem? (i := 127) rfl) rfl) (ci := 11) (cq := (R_Sink, F_Sink, 4)) (q0 := 0) rfl rfl rfl (cr_Sink_put hfl dC dI h_p1 h_p1_bytes k_p1_bytes n_p1_bytes w_p1_bitStore w_p1_bitsHeld H.size 6 r_26.2.1 r_26.2.2 hg_32) (by decide +kernel) ⟨Nat.le_of_ble_eq_true rfl, Nat.le_of_ble_eq_true rfl⟩ rfl rfl (Nat.le_of_ble_eq_true rfl) d_PngWriter_putHeader_32 hP hD hS hl.1 [0, 1] [2] [0] rfl rfl rfl rfl (by decide) rfl (fun H locs hP hD hS => ?_)
  have hP : va_P (dC, dI) classes (ws_PngWriter_putHeader h_p1 h_p1_bytes h_p0 h_p0_points k_p1_bytes n_p1_bytes w_p1_bitStore w_p1_bitsHeld r_32.2.1 r_32.2.2 p0_width p0_height) H := hP.sub [1, 2, 0] rfl
  have hD : va_D A (ws_PngWriter_putHeader h_p1 h_p1_bytes h_p0 h_p0_points k_p1_bytes n_p1_bytes w_p1_bitStore w_p1_bitsHeld r_32.2.1 r_32.2.2 p0_width p0_height) := hD.sub [1, 2, 0] (by decide) rfl
  show W p l e R s m _ below meth c H locs 0 0 _ (F0 m 35 ls [])
  refine lv_aload_n hx hb d_PngWriter_putHeader_35 rfl (lv_at hl 2 rfl) ?_
  refine lv_iconst (v := 3) hx hb d_PngWriter_putHeader_36 (by decide) ?_
  rcases dc_tryE h with ⟨r_37, hg_37, h⟩ | ⟨r_37, hg_37, h⟩
  rotate_left
  · cases h
    exact dc_thrV (y := y_Sink_putZeros) (bytes := b_Sink_putZeros) (maxL := 3) (ret' := none) (fr' := 7) (lo' := 131) (n := 1) (val := vl_v) (o := r_37) (tysc := [(k_p1_bytes, .byte)]) (As := [.int 3]) (rest := []) (wc := (ws_Sink_putZeros h_p1 h_p1_bytes k_p1_bytes n_p1_bytes w_p1_bitStore w_p1_bitsHeld r_32.2.1 r_32.2.2)) (wr := [(h_p0, .inr (8, [.ref h_p0_points, .int p0_width, .int p0_height]))]) (w1 := w1_Sink_putZeros h_p1 h_p1_bytes k_p1_bytes n_p1_bytes w_p1_bitStore w_p1_bitsHeld) C cw_Sink_putZeros (lg_in1 (List.mem_of_getElem? (i := 2) rfl) rfl) (lg_in6 (List.mem_of_getElem? (i := 148) rfl) rfl) (lg_in6 (List.mem_of_getElem? (i := 149) rfl) rfl) (lg_in6 (List.mem_of_getElem? (i := 150) rfl) rfl) (ci := 11) (cq := (R_Sink, F_Sink, 4)) (q0 := 0) rfl rfl rfl (ct_Sink_putZeros hfl dC dI h_p1 h_p1_bytes k_p1_bytes n_p1_bytes w_p1_bitStore w_p1_bitsHeld H.size K 3 r_32.2.1 r_32.2.2 hg_37) (by decide +kernel) ⟨Nat.le_of_ble_eq_true rfl, Nat.le_of_ble_eq_true rfl⟩ rfl rfl (Nat.le_of_ble_eq_true rfl) d_PngWriter_putHeader_37 hRc.1 hRc.2 hP hD hS hl.1 [0, 1] [2] [0] rfl rfl rfl rfl (by decide) rfl (fun x t H1 locs1 a1 a2 a3 a4 hP hD hS => dc_leaveT (u := (r_37.1, (r_37.2.1, r_37.2.2))) (w1 := w1_PngWriter_putHeader h_p1 h_p1_bytes h_p0 h_p0_points k_p1_bytes n_p1_bytes w_p1_bitStore w_p1_bitsHeld p0_width p0_height) C a1 a2 a3 a4 (hP.sub [1, 2, 0] rfl) (hD.sub [1, 2, 0] (by decide) rfl) hS)
  refine dc_callV (y := y_Sink_putZeros) (bytes := b_Sink_putZeros) (maxL := 3) (ret' := none) (fr' := 7) (lo' := 131) (n := 1) (val := vl_v) (o := r_37) (tysc := [(k_p1_bytes, .byte)]) (As := [.int 3]) (rest := []) (wc := (ws_Sink_putZeros h_p1 h_p1_bytes k_p1_bytes n_p1_bytes w_p1_bitStore w_p1_bitsHeld r_32.2.1 r_32.2.2)) (wr := [(h_p0, .inr (8, [.ref h_p0_points, .int p0_width, .int p0_height]))]) (w1 := w1_Sink_putZeros h_p1 h_p1_bytes k_p1_bytes n_p1_bytes w_p1_bitStore w_p1_bitsHeld) C cw_Sink_putZeros (lg_in1 (List.mem_of_getElem? (i := 2) rfl) rfl) (lg_in6 (List.mem_of_getElem? (i := 148) rfl) rfl) (lg_in6 (List.mem_of_getElem? (i := 149) rfl) rfl) (lg_in6 (List.mem_of_getElem? (i := 150) rfl) rfl) (ci := 11) (cq := (R_Sink, F_Sink, 4)) (q0 := 0) rfl rfl rfl (cr_Sink_putZeros hfl dC dI h_p1 h_p1_bytes k_p1_bytes n_p1_bytes w_p1_bitStore w_p1_bitsHeld H.size K 3 r_32.2.1 r_32.2.2 hg_37) (by decide +kernel) ⟨Nat.le_of_ble_eq_true rfl, Nat.le_of_ble_eq_true rfl⟩ rfl rfl (Nat.le_of_ble_eq_true rfl) d_PngWriter_putHeader_37 hP hD hS hl.1 [0, 1] [2] [0] rfl rfl rfl rfl (by decide) rfl (fun H locs hP hD hS => ?_)
  have hP : va_P (dC, dI) classes (ws_PngWriter_putHeader h_p1 h_p1_bytes h_p0 h_p0_points k_p1_bytes n_p1_bytes w_p1_bitStore w_p1_bitsHeld r_37.2.1 r_37.2.2 p0_width p0_height) H := hP.sub [1, 2, 0] rfl
  have hD : va_D A (ws_PngWriter_putHeader h_p1 h_p1_bytes h_p0 h_p0_points k_p1_bytes n_p1_bytes w_p1_bitStore w_p1_bitsHeld r_37.2.1 r_37.2.2 p0_width p0_height) := hD.sub [1, 2, 0] (by decide) rfl
  show W p l e R s m _ below meth c H locs 0 0 _ (F0 m 40 ls [])
  refine lv_iload_n hx hb d_PngWriter_putHeader_40 rfl (lv_at hl 0 rfl) ?_
  refine lv_aload_n hx hb d_PngWriter_putHeader_41 rfl (lv_at hl 2 rfl) ?_
  rcases dc_tryE h with ⟨r_42, hg_42, h⟩ | ⟨r_42, hg_42, h⟩
  rotate_left
  · cases h
    exact dc_thrS (y := y_PngWriter_closePart) (bytes := b_PngWriter_closePart) (maxL := 2) (ret' := none) (fr' := 8) (lo' := 152) (n := 2) (val := vl_v) (o := r_42) (tysc := [(k_p1_bytes, .byte)]) (As := [.int r_3.1, .ref h_p1]) (rest := []) (wc := (ws_PngWriter_closePart h_p1 h_p1_bytes k_p1_bytes n_p1_bytes w_p1_bitStore w_p1_bitsHeld r_37.2.1 r_37.2.2)) (wr := [(h_p0, .inr (8, [.ref h_p0_points, .int p0_width, .int p0_height]))]) (w1 := w1_PngWriter_closePart h_p1 h_p1_bytes k_p1_bytes n_p1_bytes w_p1_bitStore w_p1_bitsHeld) C (ct_PngWriter_closePart hfl dC dI h_p1 h_p1_bytes k_p1_bytes n_p1_bytes w_p1_bitStore w_p1_bitsHeld H.size K r_3.1 r_37.2.1 r_37.2.2 hg_42) cw_PngWriter_closePart (lg_in1 (List.mem_of_getElem? (i := 9) rfl) rfl) (lg_in6 (List.mem_of_getElem? (i := 152) rfl) rfl) (lg_in6 (List.mem_of_getElem? (i := 153) rfl) rfl) (by decide +kernel) ⟨Nat.le_of_ble_eq_true rfl, Nat.le_of_ble_eq_true rfl⟩ rfl rfl (Nat.le_of_ble_eq_true rfl) d_PngWriter_putHeader_42 hRc.1 hRc.2 hP hD hS hl.1 [0, 1] [2] [0] rfl rfl rfl rfl (by decide) rfl (fun x t H1 locs1 a1 a2 a3 a4 hP hD hS => dc_leaveT (u := (r_42.1, (r_42.2.1, r_42.2.2))) (w1 := w1_PngWriter_putHeader h_p1 h_p1_bytes h_p0 h_p0_points k_p1_bytes n_p1_bytes w_p1_bitStore w_p1_bitsHeld p0_width p0_height) C a1 a2 a3 a4 (hP.sub [1, 2, 0] rfl) (hD.sub [1, 2, 0] (by decide) rfl) hS)
  refine dc_callS (y := y_PngWriter_closePart) (bytes := b_PngWriter_closePart) (maxL := 2) (ret' := none) (fr' := 8) (lo' := 152) (n := 2) (val := vl_v) (o := r_42) (tysc := [(k_p1_bytes, .byte)]) (As := [.int r_3.1, .ref h_p1]) (rest := []) (wc := (ws_PngWriter_closePart h_p1 h_p1_bytes k_p1_bytes n_p1_bytes w_p1_bitStore w_p1_bitsHeld r_37.2.1 r_37.2.2)) (wr := [(h_p0, .inr (8, [.ref h_p0_points, .int p0_width, .int p0_height]))]) (w1 := w1_PngWriter_closePart h_p1 h_p1_bytes k_p1_bytes n_p1_bytes w_p1_bitStore w_p1_bitsHeld) C (cr_PngWriter_closePart hfl dC dI h_p1 h_p1_bytes k_p1_bytes n_p1_bytes w_p1_bitStore w_p1_bitsHeld H.size K r_3.1 r_37.2.1 r_37.2.2 hg_42) cw_PngWriter_closePart (lg_in1 (List.mem_of_getElem? (i := 9) rfl) rfl) (lg_in6 (List.mem_of_getElem? (i := 152) rfl) rfl) (lg_in6 (List.mem_of_getElem? (i := 153) rfl) rfl) (by decide +kernel) ⟨Nat.le_of_ble_eq_true rfl, Nat.le_of_ble_eq_true rfl⟩ rfl rfl (Nat.le_of_ble_eq_true rfl) d_PngWriter_putHeader_42 hP hD hS hl.1 [0, 1] [2] [0] rfl rfl rfl rfl (by decide) rfl (fun H locs hP hD hS => ?_)
  have hP : va_P (dC, dI) classes (ws_PngWriter_putHeader h_p1 h_p1_bytes h_p0 h_p0_points k_p1_bytes n_p1_bytes w_p1_bitStore w_p1_bitsHeld r_42.2.1 r_42.2.2 p0_width p0_height) H := hP.sub [1, 2, 0] rfl
  have hD : va_D A (ws_PngWriter_putHeader h_p1 h_p1_bytes h_p0 h_p0_points k_p1_bytes n_p1_bytes w_p1_bitStore w_p1_bitsHeld r_42.2.1 r_42.2.2 p0_width p0_height) := hD.sub [1, 2, 0] (by decide) rfl
  show W p l e R s m _ below meth c H locs 0 0 _ (F0 m 45 ls [])
  cases h
  exact dc_vret C (u := (r_42.2.1, r_42.2.2)) (w1 := w1_PngWriter_putHeader h_p1 h_p1_bytes h_p0 h_p0_points k_p1_bytes n_p1_bytes w_p1_bitStore w_p1_bitsHeld p0_width p0_height) hP hD hS d_PngWriter_putHeader_45
theorem cr_PngWriter_putHeader {l : Launch} (hfl : l.flags = flags0) (dC : Nat → ClassId) (dI : Nat → Nat → Nat) (h_p1 : Nat) (h_p1_bytes : Nat) (h_p0 : Nat) (h_p0_points : Nat) (k_p1_bytes : ClassId) (n_p1_bytes : Nat) (w_p1_bitStore : Int32) (w_p1_bitsHeld : Int32) (sz : Nat) (K : Nat)  (p1_filled : Int32) (a_p1_bytes : Nat → Int32) (p0_width : Int32) (p0_height : Int32) {u : Unit × (Int32 × (Nat → Int32))} (h : f_PngWriter_putHeader K n_p1_bytes p1_filled a_p1_bytes p0_width p0_height = some (.inl u)) : MetX l y_PngWriter_putHeader (Cond.code y_PngWriter_putHeader b_PngWriter_putHeader 3 none :: lw_g) (rmx 9 174 0 0) (vx_Pre dC dI [(k_p1_bytes, .byte)] [.ref h_p0, .ref h_p1] sz (ws_PngWriter_putHeader h_p1 h_p1_bytes h_p0 h_p0_points k_p1_bytes n_p1_bytes w_p1_bitStore w_p1_bitsHeld p1_filled a_p1_bytes p0_width p0_height)) (vx_Q vl_v (.inl u) (fun u t => vx_B dC dI [(k_p1_bytes, .byte)] (va_A (ws_PngWriter_putHeader h_p1 h_p1_bytes h_p0 h_p0_points k_p1_bytes n_p1_bytes w_p1_bitStore w_p1_bitsHeld p1_filled a_p1_bytes p0_width p0_height) sz) (w1_PngWriter_putHeader h_p1 h_p1_bytes h_p0 h_p0_points k_p1_bytes n_p1_bytes w_p1_bitStore w_p1_bitsHeld p0_width p0_height u) t) (va_A (ws_PngWriter_putHeader h_p1 h_p1_bytes h_p0 h_p0_points k_p1_bytes n_p1_bytes w_p1_bitStore w_p1_bitsHeld p1_filled a_p1_bytes p0_width p0_height) sz)) 0 0 (va_A (ws_PngWriter_putHeader h_p1 h_p1_bytes h_p0 h_p0_points k_p1_bytes n_p1_bytes w_p1_bitStore w_p1_bitsHeld p1_filled a_p1_bytes p0_width p0_height) sz) := dc_cr rfl (c_PngWriter_putHeader hfl dC dI h_p1 h_p1_bytes h_p0 h_p0_points k_p1_bytes n_p1_bytes w_p1_bitStore w_p1_bitsHeld sz K p1_filled a_p1_bytes p0_width p0_height h)
theorem ct_PngWriter_putHeader {l : Launch} (hfl : l.flags = flags0) (dC : Nat → ClassId) (dI : Nat → Nat → Nat) (h_p1 : Nat) (h_p1_bytes : Nat) (h_p0 : Nat) (h_p0_points : Nat) (k_p1_bytes : ClassId) (n_p1_bytes : Nat) (w_p1_bitStore : Int32) (w_p1_bitsHeld : Int32) (sz : Nat) (K : Nat)  (p1_filled : Int32) (a_p1_bytes : Nat → Int32) (p0_width : Int32) (p0_height : Int32) {u : Nat × (Int32 × (Nat → Int32))} (h : f_PngWriter_putHeader K n_p1_bytes p1_filled a_p1_bytes p0_width p0_height = some (.inr u)) : MetX l y_PngWriter_putHeader (Cond.code y_PngWriter_putHeader b_PngWriter_putHeader 3 none :: lw_g) (rmx 9 174 1 6) (vx_Pre dC dI [(k_p1_bytes, .byte)] [.ref h_p0, .ref h_p1] sz (ws_PngWriter_putHeader h_p1 h_p1_bytes h_p0 h_p0_points k_p1_bytes n_p1_bytes w_p1_bitStore w_p1_bitsHeld p1_filled a_p1_bytes p0_width p0_height)) (vx_Q vl_v (.inr u) (fun u t => vx_B dC dI [(k_p1_bytes, .byte)] (va_A (ws_PngWriter_putHeader h_p1 h_p1_bytes h_p0 h_p0_points k_p1_bytes n_p1_bytes w_p1_bitStore w_p1_bitsHeld p1_filled a_p1_bytes p0_width p0_height) sz) (w1_PngWriter_putHeader h_p1 h_p1_bytes h_p0 h_p0_points k_p1_bytes n_p1_bytes w_p1_bitStore w_p1_bitsHeld p0_width p0_height u) t) (va_A (ws_PngWriter_putHeader h_p1 h_p1_bytes h_p0 h_p0_points k_p1_bytes n_p1_bytes w_p1_bitStore w_p1_bitsHeld p1_filled a_p1_bytes p0_width p0_height) sz)) 1 6 (va_A (ws_PngWriter_putHeader h_p1 h_p1_bytes h_p0 h_p0_points k_p1_bytes n_p1_bytes w_p1_bitStore w_p1_bitsHeld p1_filled a_p1_bytes p0_width p0_height) sz) := dc_ct rfl (c_PngWriter_putHeader hfl dC dI h_p1 h_p1_bytes h_p0 h_p0_points k_p1_bytes n_p1_bytes w_p1_bitStore w_p1_bitsHeld sz K p1_filled a_p1_bytes p0_width p0_height h)
def ws_PngWriter_filterRow (h_t : Nat) (h_t_rows : Nat) (h_t_lastPlaces : Nat) (h_t_placesBefore : Nat) (h_p1 : Nat) (h_p1_points : Nat) (k_t_rows : ClassId) (k_p1_points : ClassId) (w_t_total : Int32) (w_t_copyLength : Int32) (w_t_copyDistance : Int32) (w_p1_height : Int32) (a_t_rows : Nat → Int32) (p1_width : Int32) (a_p1_points : Nat → Int32) : va_W := [(h_t, .inr (10, [.ref h_t_rows, .ref h_t_lastPlaces, .ref h_t_placesBefore, .int w_t_total, .int w_t_copyLength, .int w_t_copyDistance])), (h_t_rows, .inl (k_t_rows, 147456, .inl a_t_rows)), (h_p1, .inr (8, [.ref h_p1_points, .int p1_width, .int w_p1_height])), (h_p1_points, .inl (k_p1_points, 16384, .inl a_p1_points))]
abbrev w1_PngWriter_filterRow (h_t : Nat) (h_t_rows : Nat) (h_t_lastPlaces : Nat) (h_t_placesBefore : Nat) (h_p1 : Nat) (h_p1_points : Nat) (k_t_rows : ClassId) (k_p1_points : ClassId) (w_t_total : Int32) (w_t_copyLength : Int32) (w_t_copyDistance : Int32) (w_p1_height : Int32) (p1_width : Int32) (a_p1_points : Nat → Int32) (u : (Nat → Int32)) : va_W := ws_PngWriter_filterRow h_t h_t_rows h_t_lastPlaces h_t_placesBefore h_p1 h_p1_points k_t_rows k_p1_points w_t_total w_t_copyLength w_t_copyDistance w_p1_height u p1_width a_p1_points
abbrev q_PngWriter_filterRow (below : List Frame) (args : Array Value) (s : State) (dC : Nat → ClassId) (dI : Nat → Nat → Nat) (A : Nat → Prop) (h_t : Nat) (h_t_rows : Nat) (h_t_lastPlaces : Nat) (h_t_placesBefore : Nat) (h_p1 : Nat) (h_p1_points : Nat) (k_t_rows : ClassId) (k_p1_points : ClassId) (w_t_total : Int32) (w_t_copyLength : Int32) (w_t_copyDistance : Int32) (w_p1_height : Int32) (p1_width : Int32) (a_p1_points : Nat → Int32) (o : Int32 × ((Nat → Int32))) : State → Prop := XQ below (vx_Q vl_i (.inl o) (fun u t => vx_B dC dI [(k_t_rows, .byte), (k_p1_points, .int)] A (w1_PngWriter_filterRow h_t h_t_rows h_t_lastPlaces h_t_placesBefore h_p1 h_p1_points k_t_rows k_p1_points w_t_total w_t_copyLength w_t_copyDistance w_p1_height p1_width a_p1_points u) t) A) args s 0 0 A
theorem d_PngWriter_filterRow_0 : decode b_PngWriter_filterRow 0 = .ok (.iconst 0, 1) := by decide +kernel
theorem d_PngWriter_filterRow_1 : decode b_PngWriter_filterRow 1 = .ok (.istore 5, 2) := by decide +kernel
theorem d_PngWriter_filterRow_3 : decode b_PngWriter_filterRow 3 = .ok (.aload_n 0, 1) := by decide +kernel
theorem d_PngWriter_filterRow_4 : decode b_PngWriter_filterRow 4 = .ok (.getfield 28, 3) := by decide +kernel
theorem d_PngWriter_filterRow_7 : decode b_PngWriter_filterRow 7 = .ok (.iload 4, 2) := by decide +kernel
theorem d_PngWriter_filterRow_9 : decode b_PngWriter_filterRow 9 = .ok (.iload_n 3, 1) := by decide +kernel
theorem d_PngWriter_filterRow_10 : decode b_PngWriter_filterRow 10 = .ok (.i2b, 1) := by decide +kernel
theorem d_PngWriter_filterRow_11 : decode b_PngWriter_filterRow 11 = .ok (.bastore, 1) := by decide +kernel
theorem d_PngWriter_filterRow_12 : decode b_PngWriter_filterRow 12 = .ok (.iconst 0, 1) := by decide +kernel
theorem d_PngWriter_filterRow_13 : decode b_PngWriter_filterRow 13 = .ok (.istore 6, 2) := by decide +kernel
theorem d_PngWriter_filterRow_15 : decode b_PngWriter_filterRow 15 = .ok (.iload 6, 2) := by decide +kernel
theorem d_PngWriter_filterRow_17 : decode b_PngWriter_filterRow 17 = .ok (.aload_n 1, 1) := by decide +kernel
theorem d_PngWriter_filterRow_18 : decode b_PngWriter_filterRow 18 = .ok (.getfield 80, 3) := by decide +kernel
theorem d_PngWriter_filterRow_21 : decode b_PngWriter_filterRow 21 = .ok (.if_icmp .ge 202, 3) := by decide +kernel
theorem d_PngWriter_filterRow_24 : decode b_PngWriter_filterRow 24 = .ok (.iload_n 2, 1) := by decide +kernel
theorem d_PngWriter_filterRow_25 : decode b_PngWriter_filterRow 25 = .ok (.aload_n 1, 1) := by decide +kernel
theorem d_PngWriter_filterRow_26 : decode b_PngWriter_filterRow 26 = .ok (.getfield 80, 3) := by decide +kernel
theorem d_PngWriter_filterRow_29 : decode b_PngWriter_filterRow 29 = .ok (.imul, 1) := by decide +kernel
theorem d_PngWriter_filterRow_30 : decode b_PngWriter_filterRow 30 = .ok (.iload 6, 2) := by decide +kernel
theorem d_PngWriter_filterRow_32 : decode b_PngWriter_filterRow 32 = .ok (.iadd, 1) := by decide +kernel
theorem d_PngWriter_filterRow_33 : decode b_PngWriter_filterRow 33 = .ok (.istore 7, 2) := by decide +kernel
theorem d_PngWriter_filterRow_35 : decode b_PngWriter_filterRow 35 = .ok (.aload_n 1, 1) := by decide +kernel
theorem d_PngWriter_filterRow_36 : decode b_PngWriter_filterRow 36 = .ok (.getfield 99, 3) := by decide +kernel
theorem d_PngWriter_filterRow_39 : decode b_PngWriter_filterRow 39 = .ok (.iload 7, 2) := by decide +kernel
theorem d_PngWriter_filterRow_41 : decode b_PngWriter_filterRow 41 = .ok (.iaload, 1) := by decide +kernel
theorem d_PngWriter_filterRow_42 : decode b_PngWriter_filterRow 42 = .ok (.istore 8, 2) := by decide +kernel
theorem d_PngWriter_filterRow_44 : decode b_PngWriter_filterRow 44 = .ok (.iload 6, 2) := by decide +kernel
theorem d_PngWriter_filterRow_46 : decode b_PngWriter_filterRow 46 = .ok (.ifCond .le 15, 3) := by decide +kernel
theorem d_PngWriter_filterRow_49 : decode b_PngWriter_filterRow 49 = .ok (.aload_n 1, 1) := by decide +kernel
theorem d_PngWriter_filterRow_50 : decode b_PngWriter_filterRow 50 = .ok (.getfield 99, 3) := by decide +kernel
theorem d_PngWriter_filterRow_53 : decode b_PngWriter_filterRow 53 = .ok (.iload 7, 2) := by decide +kernel
theorem d_PngWriter_filterRow_55 : decode b_PngWriter_filterRow 55 = .ok (.iconst 1, 1) := by decide +kernel
theorem d_PngWriter_filterRow_56 : decode b_PngWriter_filterRow 56 = .ok (.isub, 1) := by decide +kernel
theorem d_PngWriter_filterRow_57 : decode b_PngWriter_filterRow 57 = .ok (.iaload, 1) := by decide +kernel
theorem d_PngWriter_filterRow_58 : decode b_PngWriter_filterRow 58 = .ok (.goto 4, 3) := by decide +kernel
theorem d_PngWriter_filterRow_61 : decode b_PngWriter_filterRow 61 = .ok (.iconst 0, 1) := by decide +kernel
theorem d_PngWriter_filterRow_62 : decode b_PngWriter_filterRow 62 = .ok (.istore 9, 2) := by decide +kernel
theorem d_PngWriter_filterRow_64 : decode b_PngWriter_filterRow 64 = .ok (.iload_n 2, 1) := by decide +kernel
theorem d_PngWriter_filterRow_65 : decode b_PngWriter_filterRow 65 = .ok (.ifCond .le 18, 3) := by decide +kernel
theorem d_PngWriter_filterRow_68 : decode b_PngWriter_filterRow 68 = .ok (.aload_n 1, 1) := by decide +kernel
theorem d_PngWriter_filterRow_69 : decode b_PngWriter_filterRow 69 = .ok (.getfield 99, 3) := by decide +kernel
theorem d_PngWriter_filterRow_72 : decode b_PngWriter_filterRow 72 = .ok (.iload 7, 2) := by decide +kernel
theorem d_PngWriter_filterRow_74 : decode b_PngWriter_filterRow 74 = .ok (.aload_n 1, 1) := by decide +kernel
theorem d_PngWriter_filterRow_75 : decode b_PngWriter_filterRow 75 = .ok (.getfield 80, 3) := by decide +kernel
theorem d_PngWriter_filterRow_78 : decode b_PngWriter_filterRow 78 = .ok (.isub, 1) := by decide +kernel
theorem d_PngWriter_filterRow_79 : decode b_PngWriter_filterRow 79 = .ok (.iaload, 1) := by decide +kernel
theorem d_PngWriter_filterRow_80 : decode b_PngWriter_filterRow 80 = .ok (.goto 4, 3) := by decide +kernel
theorem d_PngWriter_filterRow_83 : decode b_PngWriter_filterRow 83 = .ok (.iconst 0, 1) := by decide +kernel
theorem d_PngWriter_filterRow_84 : decode b_PngWriter_filterRow 84 = .ok (.istore 10, 2) := by decide +kernel
theorem d_PngWriter_filterRow_86 : decode b_PngWriter_filterRow 86 = .ok (.iload 6, 2) := by decide +kernel
theorem d_PngWriter_filterRow_88 : decode b_PngWriter_filterRow 88 = .ok (.ifCond .le 24, 3) := by decide +kernel
theorem d_PngWriter_filterRow_91 : decode b_PngWriter_filterRow 91 = .ok (.iload_n 2, 1) := by decide +kernel
theorem d_PngWriter_filterRow_92 : decode b_PngWriter_filterRow 92 = .ok (.ifCond .le 20, 3) := by decide +kernel
theorem d_PngWriter_filterRow_95 : decode b_PngWriter_filterRow 95 = .ok (.aload_n 1, 1) := by decide +kernel
theorem d_PngWriter_filterRow_96 : decode b_PngWriter_filterRow 96 = .ok (.getfield 99, 3) := by decide +kernel
theorem d_PngWriter_filterRow_99 : decode b_PngWriter_filterRow 99 = .ok (.iload 7, 2) := by decide +kernel
theorem d_PngWriter_filterRow_101 : decode b_PngWriter_filterRow 101 = .ok (.aload_n 1, 1) := by decide +kernel
theorem d_PngWriter_filterRow_102 : decode b_PngWriter_filterRow 102 = .ok (.getfield 80, 3) := by decide +kernel
theorem d_PngWriter_filterRow_105 : decode b_PngWriter_filterRow 105 = .ok (.isub, 1) := by decide +kernel
theorem d_PngWriter_filterRow_106 : decode b_PngWriter_filterRow 106 = .ok (.iconst 1, 1) := by decide +kernel
theorem d_PngWriter_filterRow_107 : decode b_PngWriter_filterRow 107 = .ok (.isub, 1) := by decide +kernel
theorem d_PngWriter_filterRow_108 : decode b_PngWriter_filterRow 108 = .ok (.iaload, 1) := by decide +kernel
theorem d_PngWriter_filterRow_109 : decode b_PngWriter_filterRow 109 = .ok (.goto 4, 3) := by decide +kernel
theorem d_PngWriter_filterRow_112 : decode b_PngWriter_filterRow 112 = .ok (.iconst 0, 1) := by decide +kernel
theorem d_PngWriter_filterRow_113 : decode b_PngWriter_filterRow 113 = .ok (.istore 11, 2) := by decide +kernel
theorem d_PngWriter_filterRow_115 : decode b_PngWriter_filterRow 115 = .ok (.iconst 0, 1) := by decide +kernel
theorem d_PngWriter_filterRow_116 : decode b_PngWriter_filterRow 116 = .ok (.istore 12, 2) := by decide +kernel
theorem d_PngWriter_filterRow_118 : decode b_PngWriter_filterRow 118 = .ok (.iload 12, 2) := by decide +kernel
theorem d_PngWriter_filterRow_120 : decode b_PngWriter_filterRow 120 = .ok (.iconst 4, 1) := by decide +kernel
theorem d_PngWriter_filterRow_121 : decode b_PngWriter_filterRow 121 = .ok (.if_icmp .ge 96, 3) := by decide +kernel
theorem d_PngWriter_filterRow_124 : decode b_PngWriter_filterRow 124 = .ok (.bipush 24, 2) := by decide +kernel
theorem d_PngWriter_filterRow_126 : decode b_PngWriter_filterRow 126 = .ok (.bipush 8, 2) := by decide +kernel
theorem d_PngWriter_filterRow_128 : decode b_PngWriter_filterRow 128 = .ok (.iload 12, 2) := by decide +kernel
theorem d_PngWriter_filterRow_130 : decode b_PngWriter_filterRow 130 = .ok (.imul, 1) := by decide +kernel
theorem d_PngWriter_filterRow_131 : decode b_PngWriter_filterRow 131 = .ok (.isub, 1) := by decide +kernel
theorem d_PngWriter_filterRow_132 : decode b_PngWriter_filterRow 132 = .ok (.istore 13, 2) := by decide +kernel
theorem d_PngWriter_filterRow_134 : decode b_PngWriter_filterRow 134 = .ok (.iload_n 3, 1) := by decide +kernel
theorem d_PngWriter_filterRow_135 : decode b_PngWriter_filterRow 135 = .ok (.iload 9, 2) := by decide +kernel
theorem d_PngWriter_filterRow_137 : decode b_PngWriter_filterRow 137 = .ok (.iload 13, 2) := by decide +kernel
theorem d_PngWriter_filterRow_139 : decode b_PngWriter_filterRow 139 = .ok (.ishr, 1) := by decide +kernel
theorem d_PngWriter_filterRow_140 : decode b_PngWriter_filterRow 140 = .ok (.sipush 255, 3) := by decide +kernel
theorem d_PngWriter_filterRow_143 : decode b_PngWriter_filterRow 143 = .ok (.iand, 1) := by decide +kernel
theorem d_PngWriter_filterRow_144 : decode b_PngWriter_filterRow 144 = .ok (.iload 10, 2) := by decide +kernel
theorem d_PngWriter_filterRow_146 : decode b_PngWriter_filterRow 146 = .ok (.iload 13, 2) := by decide +kernel
theorem d_PngWriter_filterRow_148 : decode b_PngWriter_filterRow 148 = .ok (.ishr, 1) := by decide +kernel
theorem d_PngWriter_filterRow_149 : decode b_PngWriter_filterRow 149 = .ok (.sipush 255, 3) := by decide +kernel
theorem d_PngWriter_filterRow_152 : decode b_PngWriter_filterRow 152 = .ok (.iand, 1) := by decide +kernel
theorem d_PngWriter_filterRow_153 : decode b_PngWriter_filterRow 153 = .ok (.iload 11, 2) := by decide +kernel
theorem d_PngWriter_filterRow_155 : decode b_PngWriter_filterRow 155 = .ok (.iload 13, 2) := by decide +kernel
theorem d_PngWriter_filterRow_157 : decode b_PngWriter_filterRow 157 = .ok (.ishr, 1) := by decide +kernel
theorem d_PngWriter_filterRow_158 : decode b_PngWriter_filterRow 158 = .ok (.sipush 255, 3) := by decide +kernel
theorem d_PngWriter_filterRow_161 : decode b_PngWriter_filterRow 161 = .ok (.iand, 1) := by decide +kernel
theorem d_PngWriter_filterRow_162 : decode b_PngWriter_filterRow 162 = .ok (.invokestatic 102, 3) := by decide +kernel
theorem d_PngWriter_filterRow_165 : decode b_PngWriter_filterRow 165 = .ok (.istore 14, 2) := by decide +kernel
theorem d_PngWriter_filterRow_167 : decode b_PngWriter_filterRow 167 = .ok (.iload 8, 2) := by decide +kernel
theorem d_PngWriter_filterRow_169 : decode b_PngWriter_filterRow 169 = .ok (.iload 13, 2) := by decide +kernel
theorem d_PngWriter_filterRow_171 : decode b_PngWriter_filterRow 171 = .ok (.ishr, 1) := by decide +kernel
theorem d_PngWriter_filterRow_172 : decode b_PngWriter_filterRow 172 = .ok (.sipush 255, 3) := by decide +kernel
theorem d_PngWriter_filterRow_175 : decode b_PngWriter_filterRow 175 = .ok (.iand, 1) := by decide +kernel
theorem d_PngWriter_filterRow_176 : decode b_PngWriter_filterRow 176 = .ok (.iload 14, 2) := by decide +kernel
theorem d_PngWriter_filterRow_178 : decode b_PngWriter_filterRow 178 = .ok (.isub, 1) := by decide +kernel
theorem d_PngWriter_filterRow_179 : decode b_PngWriter_filterRow 179 = .ok (.i2b, 1) := by decide +kernel
theorem d_PngWriter_filterRow_180 : decode b_PngWriter_filterRow 180 = .ok (.istore 15, 2) := by decide +kernel
theorem d_PngWriter_filterRow_182 : decode b_PngWriter_filterRow 182 = .ok (.aload_n 0, 1) := by decide +kernel
theorem d_PngWriter_filterRow_183 : decode b_PngWriter_filterRow 183 = .ok (.getfield 28, 3) := by decide +kernel
theorem d_PngWriter_filterRow_186 : decode b_PngWriter_filterRow 186 = .ok (.iload 4, 2) := by decide +kernel
theorem d_PngWriter_filterRow_188 : decode b_PngWriter_filterRow 188 = .ok (.iconst 1, 1) := by decide +kernel
theorem d_PngWriter_filterRow_189 : decode b_PngWriter_filterRow 189 = .ok (.iadd, 1) := by decide +kernel
theorem d_PngWriter_filterRow_190 : decode b_PngWriter_filterRow 190 = .ok (.iconst 4, 1) := by decide +kernel
theorem d_PngWriter_filterRow_191 : decode b_PngWriter_filterRow 191 = .ok (.iload 6, 2) := by decide +kernel
theorem d_PngWriter_filterRow_193 : decode b_PngWriter_filterRow 193 = .ok (.imul, 1) := by decide +kernel
theorem d_PngWriter_filterRow_194 : decode b_PngWriter_filterRow 194 = .ok (.iadd, 1) := by decide +kernel
theorem d_PngWriter_filterRow_195 : decode b_PngWriter_filterRow 195 = .ok (.iload 12, 2) := by decide +kernel
theorem d_PngWriter_filterRow_197 : decode b_PngWriter_filterRow 197 = .ok (.iadd, 1) := by decide +kernel
theorem d_PngWriter_filterRow_198 : decode b_PngWriter_filterRow 198 = .ok (.iload 15, 2) := by decide +kernel
theorem d_PngWriter_filterRow_200 : decode b_PngWriter_filterRow 200 = .ok (.bastore, 1) := by decide +kernel
theorem d_PngWriter_filterRow_201 : decode b_PngWriter_filterRow 201 = .ok (.iload 5, 2) := by decide +kernel
theorem d_PngWriter_filterRow_203 : decode b_PngWriter_filterRow 203 = .ok (.iload 15, 2) := by decide +kernel
theorem d_PngWriter_filterRow_205 : decode b_PngWriter_filterRow 205 = .ok (.invokestatic 106, 3) := by decide +kernel
theorem d_PngWriter_filterRow_208 : decode b_PngWriter_filterRow 208 = .ok (.iadd, 1) := by decide +kernel
theorem d_PngWriter_filterRow_209 : decode b_PngWriter_filterRow 209 = .ok (.istore 5, 2) := by decide +kernel
theorem d_PngWriter_filterRow_211 : decode b_PngWriter_filterRow 211 = .ok (.iinc 12 1, 3) := by decide +kernel
theorem d_PngWriter_filterRow_214 : decode b_PngWriter_filterRow 214 = .ok (.goto (-96), 3) := by decide +kernel
theorem d_PngWriter_filterRow_217 : decode b_PngWriter_filterRow 217 = .ok (.iinc 6 1, 3) := by decide +kernel
theorem d_PngWriter_filterRow_220 : decode b_PngWriter_filterRow 220 = .ok (.goto (-205), 3) := by decide +kernel
theorem d_PngWriter_filterRow_223 : decode b_PngWriter_filterRow 223 = .ok (.iload 5, 2) := by decide +kernel
theorem d_PngWriter_filterRow_225 : decode b_PngWriter_filterRow 225 = .ok (.ireturn, 1) := by decide +kernel
def at_PngWriter_filterRow_15 (p : Program) (l : Launch) (e : Env) (R : Room) (s : State) (m : MethodId) (args : Array Value) (below : List Frame) (meth : Method) (c : Code) (dC : Nat → ClassId) (dI : Nat → Nat → Nat) (A : Nat → Prop) (Q : State → Prop) (h_t : Nat) (h_t_rows : Nat) (h_t_lastPlaces : Nat) (h_t_placesBefore : Nat) (h_p1 : Nat) (h_p1_points : Nat) (k_t_rows : ClassId) (k_p1_points : ClassId) (w_t_total : Int32) (w_t_copyLength : Int32) (w_t_copyDistance : Int32) (w_p1_height : Int32) (a_t_rows : Nat → Int32) (p1_width : Int32) (a_p1_points : Nat → Int32) (x2 : Int32) (x3 : Int32) (x4 : Int32) (x5 : Int32) (x6 : Int32) : Prop := ∀ (H : Heap) (locs : List Loc) (ls : Array Slot), va_P (dC, dI) classes (ws_PngWriter_filterRow h_t h_t_rows h_t_lastPlaces h_t_placesBefore h_p1 h_p1_points k_t_rows k_p1_points w_t_total w_t_copyLength w_t_copyDistance w_p1_height a_t_rows p1_width a_p1_points) H → va_D A (ws_PngWriter_filterRow h_t h_t_rows h_t_lastPlaces h_t_placesBefore h_p1 h_p1_points k_t_rows k_p1_points w_t_total w_t_copyLength w_t_copyDistance w_p1_height a_t_rows p1_width a_p1_points) → va_S A s.heap H locs → lv_has ls 16 [(0, .ref h_t), (1, .ref h_p1), (2, .int x2), (3, .int x3), (4, .int x4), (5, .int x5), (6, .int x6)] → W p l e R s m args below meth c H locs 0 0 Q (F0 m 15 ls [])
def at_PngWriter_filterRow_62 (p : Program) (l : Launch) (e : Env) (R : Room) (s : State) (m : MethodId) (args : Array Value) (below : List Frame) (meth : Method) (c : Code) (dC : Nat → ClassId) (dI : Nat → Nat → Nat) (A : Nat → Prop) (Q : State → Prop) (h_t : Nat) (h_t_rows : Nat) (h_t_lastPlaces : Nat) (h_t_placesBefore : Nat) (h_p1 : Nat) (h_p1_points : Nat) (k_t_rows : ClassId) (k_p1_points : ClassId) (w_t_total : Int32) (w_t_copyLength : Int32) (w_t_copyDistance : Int32) (w_p1_height : Int32) (a_t_rows : Nat → Int32) (p1_width : Int32) (a_p1_points : Nat → Int32) (x2 : Int32) (x3 : Int32) (x4 : Int32) (x5 : Int32) (x6 : Int32) (x7 : Int32) (x8 : Int32) (y0 : Int32) : Prop := ∀ (H : Heap) (locs : List Loc) (ls : Array Slot), va_P (dC, dI) classes (ws_PngWriter_filterRow h_t h_t_rows h_t_lastPlaces h_t_placesBefore h_p1 h_p1_points k_t_rows k_p1_points w_t_total w_t_copyLength w_t_copyDistance w_p1_height a_t_rows p1_width a_p1_points) H → va_D A (ws_PngWriter_filterRow h_t h_t_rows h_t_lastPlaces h_t_placesBefore h_p1 h_p1_points k_t_rows k_p1_points w_t_total w_t_copyLength w_t_copyDistance w_p1_height a_t_rows p1_width a_p1_points) → va_S A s.heap H locs → lv_has ls 16 [(0, .ref h_t), (1, .ref h_p1), (2, .int x2), (3, .int x3), (4, .int x4), (5, .int x5), (6, .int x6), (7, .int x7), (8, .int x8)] → W p l e R s m args below meth c H locs 0 0 Q (F0 m 62 ls [.int y0])
def at_PngWriter_filterRow_84 (p : Program) (l : Launch) (e : Env) (R : Room) (s : State) (m : MethodId) (args : Array Value) (below : List Frame) (meth : Method) (c : Code) (dC : Nat → ClassId) (dI : Nat → Nat → Nat) (A : Nat → Prop) (Q : State → Prop) (h_t : Nat) (h_t_rows : Nat) (h_t_lastPlaces : Nat) (h_t_placesBefore : Nat) (h_p1 : Nat) (h_p1_points : Nat) (k_t_rows : ClassId) (k_p1_points : ClassId) (w_t_total : Int32) (w_t_copyLength : Int32) (w_t_copyDistance : Int32) (w_p1_height : Int32) (a_t_rows : Nat → Int32) (p1_width : Int32) (a_p1_points : Nat → Int32) (x2 : Int32) (x3 : Int32) (x4 : Int32) (x5 : Int32) (x6 : Int32) (x7 : Int32) (x8 : Int32) (x9 : Int32) (y0 : Int32) : Prop := ∀ (H : Heap) (locs : List Loc) (ls : Array Slot), va_P (dC, dI) classes (ws_PngWriter_filterRow h_t h_t_rows h_t_lastPlaces h_t_placesBefore h_p1 h_p1_points k_t_rows k_p1_points w_t_total w_t_copyLength w_t_copyDistance w_p1_height a_t_rows p1_width a_p1_points) H → va_D A (ws_PngWriter_filterRow h_t h_t_rows h_t_lastPlaces h_t_placesBefore h_p1 h_p1_points k_t_rows k_p1_points w_t_total w_t_copyLength w_t_copyDistance w_p1_height a_t_rows p1_width a_p1_points) → va_S A s.heap H locs → lv_has ls 16 [(0, .ref h_t), (1, .ref h_p1), (2, .int x2), (3, .int x3), (4, .int x4), (5, .int x5), (6, .int x6), (7, .int x7), (8, .int x8), (9, .int x9)] → W p l e R s m args below meth c H locs 0 0 Q (F0 m 84 ls [.int y0])
def at_PngWriter_filterRow_112 (p : Program) (l : Launch) (e : Env) (R : Room) (s : State) (m : MethodId) (args : Array Value) (below : List Frame) (meth : Method) (c : Code) (dC : Nat → ClassId) (dI : Nat → Nat → Nat) (A : Nat → Prop) (Q : State → Prop) (h_t : Nat) (h_t_rows : Nat) (h_t_lastPlaces : Nat) (h_t_placesBefore : Nat) (h_p1 : Nat) (h_p1_points : Nat) (k_t_rows : ClassId) (k_p1_points : ClassId) (w_t_total : Int32) (w_t_copyLength : Int32) (w_t_copyDistance : Int32) (w_p1_height : Int32) (a_t_rows : Nat → Int32) (p1_width : Int32) (a_p1_points : Nat → Int32) (x2 : Int32) (x3 : Int32) (x4 : Int32) (x5 : Int32) (x6 : Int32) (x8 : Int32) (x9 : Int32) (x10 : Int32) : Prop := ∀ (H : Heap) (locs : List Loc) (ls : Array Slot), va_P (dC, dI) classes (ws_PngWriter_filterRow h_t h_t_rows h_t_lastPlaces h_t_placesBefore h_p1 h_p1_points k_t_rows k_p1_points w_t_total w_t_copyLength w_t_copyDistance w_p1_height a_t_rows p1_width a_p1_points) H → va_D A (ws_PngWriter_filterRow h_t h_t_rows h_t_lastPlaces h_t_placesBefore h_p1 h_p1_points k_t_rows k_p1_points w_t_total w_t_copyLength w_t_copyDistance w_p1_height a_t_rows p1_width a_p1_points) → va_S A s.heap H locs → lv_has ls 16 [(0, .ref h_t), (1, .ref h_p1), (2, .int x2), (3, .int x3), (4, .int x4), (5, .int x5), (6, .int x6), (8, .int x8), (9, .int x9), (10, .int x10)] → W p l e R s m args below meth c H locs 0 0 Q (F0 m 112 ls [])
def at_PngWriter_filterRow_113 (p : Program) (l : Launch) (e : Env) (R : Room) (s : State) (m : MethodId) (args : Array Value) (below : List Frame) (meth : Method) (c : Code) (dC : Nat → ClassId) (dI : Nat → Nat → Nat) (A : Nat → Prop) (Q : State → Prop) (h_t : Nat) (h_t_rows : Nat) (h_t_lastPlaces : Nat) (h_t_placesBefore : Nat) (h_p1 : Nat) (h_p1_points : Nat) (k_t_rows : ClassId) (k_p1_points : ClassId) (w_t_total : Int32) (w_t_copyLength : Int32) (w_t_copyDistance : Int32) (w_p1_height : Int32) (a_t_rows : Nat → Int32) (p1_width : Int32) (a_p1_points : Nat → Int32) (x2 : Int32) (x3 : Int32) (x4 : Int32) (x5 : Int32) (x6 : Int32) (x8 : Int32) (x9 : Int32) (x10 : Int32) (y0 : Int32) : Prop := ∀ (H : Heap) (locs : List Loc) (ls : Array Slot), va_P (dC, dI) classes (ws_PngWriter_filterRow h_t h_t_rows h_t_lastPlaces h_t_placesBefore h_p1 h_p1_points k_t_rows k_p1_points w_t_total w_t_copyLength w_t_copyDistance w_p1_height a_t_rows p1_width a_p1_points) H → va_D A (ws_PngWriter_filterRow h_t h_t_rows h_t_lastPlaces h_t_placesBefore h_p1 h_p1_points k_t_rows k_p1_points w_t_total w_t_copyLength w_t_copyDistance w_p1_height a_t_rows p1_width a_p1_points) → va_S A s.heap H locs → lv_has ls 16 [(0, .ref h_t), (1, .ref h_p1), (2, .int x2), (3, .int x3), (4, .int x4), (5, .int x5), (6, .int x6), (8, .int x8), (9, .int x9), (10, .int x10)] → W p l e R s m args below meth c H locs 0 0 Q (F0 m 113 ls [.int y0])
def at_PngWriter_filterRow_118 (p : Program) (l : Launch) (e : Env) (R : Room) (s : State) (m : MethodId) (args : Array Value) (below : List Frame) (meth : Method) (c : Code) (dC : Nat → ClassId) (dI : Nat → Nat → Nat) (A : Nat → Prop) (Q : State → Prop) (h_t : Nat) (h_t_rows : Nat) (h_t_lastPlaces : Nat) (h_t_placesBefore : Nat) (h_p1 : Nat) (h_p1_points : Nat) (k_t_rows : ClassId) (k_p1_points : ClassId) (w_t_total : Int32) (w_t_copyLength : Int32) (w_t_copyDistance : Int32) (w_p1_height : Int32) (a_t_rows : Nat → Int32) (p1_width : Int32) (a_p1_points : Nat → Int32) (x2 : Int32) (x3 : Int32) (x4 : Int32) (x5 : Int32) (x6 : Int32) (x8 : Int32) (x9 : Int32) (x10 : Int32) (x11 : Int32) (x12 : Int32) : Prop := ∀ (H : Heap) (locs : List Loc) (ls : Array Slot), va_P (dC, dI) classes (ws_PngWriter_filterRow h_t h_t_rows h_t_lastPlaces h_t_placesBefore h_p1 h_p1_points k_t_rows k_p1_points w_t_total w_t_copyLength w_t_copyDistance w_p1_height a_t_rows p1_width a_p1_points) H → va_D A (ws_PngWriter_filterRow h_t h_t_rows h_t_lastPlaces h_t_placesBefore h_p1 h_p1_points k_t_rows k_p1_points w_t_total w_t_copyLength w_t_copyDistance w_p1_height a_t_rows p1_width a_p1_points) → va_S A s.heap H locs → lv_has ls 16 [(0, .ref h_t), (1, .ref h_p1), (2, .int x2), (3, .int x3), (4, .int x4), (5, .int x5), (6, .int x6), (8, .int x8), (9, .int x9), (10, .int x10), (11, .int x11), (12, .int x12)] → W p l e R s m args below meth c H locs 0 0 Q (F0 m 118 ls [])
def at_PngWriter_filterRow_217 (p : Program) (l : Launch) (e : Env) (R : Room) (s : State) (m : MethodId) (args : Array Value) (below : List Frame) (meth : Method) (c : Code) (dC : Nat → ClassId) (dI : Nat → Nat → Nat) (A : Nat → Prop) (Q : State → Prop) (h_t : Nat) (h_t_rows : Nat) (h_t_lastPlaces : Nat) (h_t_placesBefore : Nat) (h_p1 : Nat) (h_p1_points : Nat) (k_t_rows : ClassId) (k_p1_points : ClassId) (w_t_total : Int32) (w_t_copyLength : Int32) (w_t_copyDistance : Int32) (w_p1_height : Int32) (a_t_rows : Nat → Int32) (p1_width : Int32) (a_p1_points : Nat → Int32) (x2 : Int32) (x3 : Int32) (x4 : Int32) (x5 : Int32) (x6 : Int32) : Prop := ∀ (H : Heap) (locs : List Loc) (ls : Array Slot), va_P (dC, dI) classes (ws_PngWriter_filterRow h_t h_t_rows h_t_lastPlaces h_t_placesBefore h_p1 h_p1_points k_t_rows k_p1_points w_t_total w_t_copyLength w_t_copyDistance w_p1_height a_t_rows p1_width a_p1_points) H → va_D A (ws_PngWriter_filterRow h_t h_t_rows h_t_lastPlaces h_t_placesBefore h_p1 h_p1_points k_t_rows k_p1_points w_t_total w_t_copyLength w_t_copyDistance w_p1_height a_t_rows p1_width a_p1_points) → va_S A s.heap H locs → lv_has ls 16 [(0, .ref h_t), (1, .ref h_p1), (2, .int x2), (3, .int x3), (4, .int x4), (5, .int x5), (6, .int x6)] → W p l e R s m args below meth c H locs 0 0 Q (F0 m 217 ls [])
def at_PngWriter_filterRow_223 (p : Program) (l : Launch) (e : Env) (R : Room) (s : State) (m : MethodId) (args : Array Value) (below : List Frame) (meth : Method) (c : Code) (dC : Nat → ClassId) (dI : Nat → Nat → Nat) (A : Nat → Prop) (Q : State → Prop) (h_t : Nat) (h_t_rows : Nat) (h_t_lastPlaces : Nat) (h_t_placesBefore : Nat) (h_p1 : Nat) (h_p1_points : Nat) (k_t_rows : ClassId) (k_p1_points : ClassId) (w_t_total : Int32) (w_t_copyLength : Int32) (w_t_copyDistance : Int32) (w_p1_height : Int32) (a_t_rows : Nat → Int32) (p1_width : Int32) (a_p1_points : Nat → Int32) (x5 : Int32) : Prop := ∀ (H : Heap) (locs : List Loc) (ls : Array Slot), va_P (dC, dI) classes (ws_PngWriter_filterRow h_t h_t_rows h_t_lastPlaces h_t_placesBefore h_p1 h_p1_points k_t_rows k_p1_points w_t_total w_t_copyLength w_t_copyDistance w_p1_height a_t_rows p1_width a_p1_points) H → va_D A (ws_PngWriter_filterRow h_t h_t_rows h_t_lastPlaces h_t_placesBefore h_p1 h_p1_points k_t_rows k_p1_points w_t_total w_t_copyLength w_t_copyDistance w_p1_height a_t_rows p1_width a_p1_points) → va_S A s.heap H locs → lv_has ls 16 [(0, .ref h_t), (1, .ref h_p1), (5, .int x5)] → W p l e R s m args below meth c H locs 0 0 Q (F0 m 223 ls [])
def f_PngWriter_filterRow_118 (K : Nat)  (rec : (Nat → Int32) → Int32 → Int32 → Option ((Nat → Int32) × Int32)) (a_t_rows : Nat → Int32) (p1_width : Int32) (a_p1_points : Nat → Int32) (x2 : Int32) (x3 : Int32) (x4 : Int32) (x5 : Int32) (x6 : Int32) (x8 : Int32) (x9 : Int32) (x10 : Int32) (x11 : Int32) (x12 : Int32) : Option ((Nat → Int32) × Int32) := (if 4 ≤ x12 then (some (a_t_rows, x5)) else (dc_bind (f_PngReader_predicted x3 ((x9 >>> ((24 - (8 * x12)) &&& 31)) &&& 255) ((x10 >>> ((24 - (8 * x12)) &&& 31)) &&& 255) ((x11 >>> ((24 - (8 * x12)) &&& 31)) &&& 255)) (fun r_162 => (if inb (((x4 + 1) + (4 * x6)) + x12) 147456 = true then rec (upd a_t_rows ((((x4 + 1) + (4 * x6)) + x12) : Int32).toNatClampNeg (vp_nar .byte (((((x8 >>> ((24 - (8 * x12)) &&& 31)) &&& 255) - r_162.1) : Int32).toInt8.toInt32))) (x5 + (if 0 ≤ ((((x8 >>> ((24 - (8 * x12)) &&& 31)) &&& 255) - r_162.1) : Int32).toInt8.toInt32 then ((((x8 >>> ((24 - (8 * x12)) &&& 31)) &&& 255) - r_162.1) : Int32).toInt8.toInt32 else 0 - ((((x8 >>> ((24 - (8 * x12)) &&& 31)) &&& 255) - r_162.1) : Int32).toInt8.toInt32)) (x12 + 1) else none))))
def f_PngWriter_filterRow_L118 (K : Nat)  (p1_width : Int32) (a_p1_points : Nat → Int32) (x2 : Int32) (x3 : Int32) (x4 : Int32) (x6 : Int32) (x8 : Int32) (x9 : Int32) (x10 : Int32) (x11 : Int32) : Nat → (Nat → Int32) → Int32 → Int32 → Option ((Nat → Int32) × Int32)
  | 0, _, _, _ => none
  | n + 1, a_t_rows, x5, x12 => f_PngWriter_filterRow_118 K  (f_PngWriter_filterRow_L118 K  p1_width a_p1_points x2 x3 x4 x6 x8 x9 x10 x11 n) a_t_rows p1_width a_p1_points x2 x3 x4 x5 x6 x8 x9 x10 x11 x12
def f_PngWriter_filterRow_113 (K : Nat)  (rec : (Nat → Int32) → Int32 → Int32 → Option ((Nat → Int32) × Int32)) (a_t_rows : Nat → Int32) (p1_width : Int32) (a_p1_points : Nat → Int32) (x2 : Int32) (x3 : Int32) (x4 : Int32) (x5 : Int32) (x6 : Int32) (x8 : Int32) (x9 : Int32) (x10 : Int32) (y0 : Int32) : Option ((Nat → Int32) × Int32) := dc_bind (f_PngWriter_filterRow_L118 K p1_width a_p1_points x2 x3 x4 x6 x8 x9 x10 y0 K a_t_rows x5 0) (fun v_217 => rec v_217.1 v_217.2 (x6 + 1))
def f_PngWriter_filterRow_112 (K : Nat)  (rec : (Nat → Int32) → Int32 → Int32 → Option ((Nat → Int32) × Int32)) (a_t_rows : Nat → Int32) (p1_width : Int32) (a_p1_points : Nat → Int32) (x2 : Int32) (x3 : Int32) (x4 : Int32) (x5 : Int32) (x6 : Int32) (x8 : Int32) (x9 : Int32) (x10 : Int32) : Option ((Nat → Int32) × Int32) := f_PngWriter_filterRow_113 K rec a_t_rows p1_width a_p1_points x2 x3 x4 x5 x6 x8 x9 x10 0
def f_PngWriter_filterRow_84 (K : Nat)  (rec : (Nat → Int32) → Int32 → Int32 → Option ((Nat → Int32) × Int32)) (a_t_rows : Nat → Int32) (p1_width : Int32) (a_p1_points : Nat → Int32) (x2 : Int32) (x3 : Int32) (x4 : Int32) (x5 : Int32) (x6 : Int32) (x7 : Int32) (x8 : Int32) (x9 : Int32) (y0 : Int32) : Option ((Nat → Int32) × Int32) := (if x6 ≤ 0 then (f_PngWriter_filterRow_112 K rec a_t_rows p1_width a_p1_points x2 x3 x4 x5 x6 x8 x9 y0) else ((if x2 ≤ 0 then (f_PngWriter_filterRow_112 K rec a_t_rows p1_width a_p1_points x2 x3 x4 x5 x6 x8 x9 y0) else ((if inb ((x7 - p1_width) - 1) 16384 = true then f_PngWriter_filterRow_113 K rec a_t_rows p1_width a_p1_points x2 x3 x4 x5 x6 x8 x9 y0 (a_p1_points (((x7 - p1_width) - 1) : Int32).toNatClampNeg) else none)))))
def f_PngWriter_filterRow_62 (K : Nat)  (rec : (Nat → Int32) → Int32 → Int32 → Option ((Nat → Int32) × Int32)) (a_t_rows : Nat → Int32) (p1_width : Int32) (a_p1_points : Nat → Int32) (x2 : Int32) (x3 : Int32) (x4 : Int32) (x5 : Int32) (x6 : Int32) (x7 : Int32) (x8 : Int32) (y0 : Int32) : Option ((Nat → Int32) × Int32) := (if x2 ≤ 0 then (f_PngWriter_filterRow_84 K rec a_t_rows p1_width a_p1_points x2 x3 x4 x5 x6 x7 x8 y0 0) else ((if inb (x7 - p1_width) 16384 = true then f_PngWriter_filterRow_84 K rec a_t_rows p1_width a_p1_points x2 x3 x4 x5 x6 x7 x8 y0 (a_p1_points ((x7 - p1_width) : Int32).toNatClampNeg) else none)))
def f_PngWriter_filterRow_15 (K : Nat)  (rec : (Nat → Int32) → Int32 → Int32 → Option ((Nat → Int32) × Int32)) (a_t_rows : Nat → Int32) (p1_width : Int32) (a_p1_points : Nat → Int32) (x2 : Int32) (x3 : Int32) (x4 : Int32) (x5 : Int32) (x6 : Int32) : Option ((Nat → Int32) × Int32) := (if p1_width ≤ x6 then (some (a_t_rows, x5)) else ((if inb ((x2 * p1_width) + x6) 16384 = true then (if x6 ≤ 0 then (f_PngWriter_filterRow_62 K rec a_t_rows p1_width a_p1_points x2 x3 x4 x5 x6 ((x2 * p1_width) + x6) (a_p1_points (((x2 * p1_width) + x6) : Int32).toNatClampNeg) 0) else ((if inb (((x2 * p1_width) + x6) - 1) 16384 = true then f_PngWriter_filterRow_62 K rec a_t_rows p1_width a_p1_points x2 x3 x4 x5 x6 ((x2 * p1_width) + x6) (a_p1_points (((x2 * p1_width) + x6) : Int32).toNatClampNeg) (a_p1_points ((((x2 * p1_width) + x6) - 1) : Int32).toNatClampNeg) else none))) else none)))
def f_PngWriter_filterRow_L15 (K : Nat)  (p1_width : Int32) (a_p1_points : Nat → Int32) (x2 : Int32) (x3 : Int32) (x4 : Int32) : Nat → (Nat → Int32) → Int32 → Int32 → Option ((Nat → Int32) × Int32)
  | 0, _, _, _ => none
  | n + 1, a_t_rows, x5, x6 => f_PngWriter_filterRow_15 K  (f_PngWriter_filterRow_L15 K  p1_width a_p1_points x2 x3 x4 n) a_t_rows p1_width a_p1_points x2 x3 x4 x5 x6
def f_PngWriter_filterRow (K : Nat)  (x2 : Int32) (x3 : Int32) (x4 : Int32) (a_t_rows : Nat → Int32) (p1_width : Int32) (a_p1_points : Nat → Int32) : Option (Int32 × ((Nat → Int32))) := (if inb x4 147456 = true then dc_bind (f_PngWriter_filterRow_L15 K p1_width a_p1_points x2 x3 x4 K (upd a_t_rows (x4 : Int32).toNatClampNeg (vp_nar .byte ((x3 : Int32).toInt8.toInt32))) 0 0) (fun v_223 => some (v_223.2, v_223.1)) else none)
set_option maxHeartbeats 400000 in
set_option maxRecDepth 100000 in
theorem w_PngWriter_filterRow_118 {p : Program} {l : Launch} {e : Env} {R : Room} {s : State} {m : MethodId} {args : Array Value} {below : List Frame} {meth : Method} {c : Code} {dC : Nat → ClassId} {dI : Nat → Nat → Nat} {A : Nat → Prop} {Q : State → Prop} {h_t : Nat} {h_t_rows : Nat} {h_t_lastPlaces : Nat} {h_t_placesBefore : Nat} {h_p1 : Nat} {h_p1_points : Nat} {k_t_rows : ClassId} {k_p1_points : ClassId} {w_t_total : Int32} {w_t_copyLength : Int32} {w_t_copyDistance : Int32} {w_p1_height : Int32} (C : cx p l e R s m args meth c dC dI A R_PngWriter b_PngWriter_filterRow 16 (some .int) 3 88 [(k_t_rows, .byte), (k_p1_points, .int)]) {K : Nat} {out : (Nat → Int32) × Int32} {a_t_rows : Nat → Int32} {p1_width : Int32} {a_p1_points : Nat → Int32} {x2 : Int32} {x3 : Int32} {x4 : Int32} {x5 : Int32} {x6 : Int32} {x8 : Int32} {x9 : Int32} {x10 : Int32} {x11 : Int32} {x12 : Int32} {rec : (Nat → Int32) → Int32 → Int32 → Option ((Nat → Int32) × Int32)}  (hex0 : ∀ v : (Nat → Int32) × Int32, out = v → at_PngWriter_filterRow_217 p l e R s m args below meth c dC dI A Q h_t h_t_rows h_t_lastPlaces h_t_placesBefore h_p1 h_p1_points k_t_rows k_p1_points w_t_total w_t_copyLength w_t_copyDistance w_p1_height v.1 p1_width a_p1_points x2 x3 x4 v.2 x6) (hrec : ∀ (a_t_rows : Nat → Int32) (x5 : Int32) (x12 : Int32), rec a_t_rows x5 x12 = some out → at_PngWriter_filterRow_118 p l e R s m args below meth c dC dI A Q h_t h_t_rows h_t_lastPlaces h_t_placesBefore h_p1 h_p1_points k_t_rows k_p1_points w_t_total w_t_copyLength w_t_copyDistance w_p1_height a_t_rows p1_width a_p1_points x2 x3 x4 x5 x6 x8 x9 x10 x11 x12) (h : f_PngWriter_filterRow_118 K  rec a_t_rows p1_width a_p1_points x2 x3 x4 x5 x6 x8 x9 x10 x11 x12 = some out) : at_PngWriter_filterRow_118 p l e R s m args below meth c dC dI A Q h_t h_t_rows h_t_lastPlaces h_t_placesBefore h_p1 h_p1_points k_t_rows k_p1_points w_t_total w_t_copyLength w_t_copyDistance w_p1_height a_t_rows p1_width a_p1_points x2 x3 x4 x5 x6 x8 x9 x10 x11 x12 := by
  refine fun H locs ls hP hD hS hl => ?_
  obtain ⟨hx, hb, hr, hml, hown, hts, hlk, hK, hA, hV, htr, hex, hF, hL, hfl⟩ := id C
  unfold f_PngWriter_filterRow_118 at h
  refine lv_iload hx hb d_PngWriter_filterRow_118 (lv_at hl 11 rfl) ?_
  refine lv_iconst (v := 4) hx hb d_PngWriter_filterRow_120 (by decide) ?_
  refine lv_icmp_ge (tgt := 217) hx hb d_PngWriter_filterRow_121 (by decide) (fun c_121 => ?_) (fun c_121 => ?_)
  · have h := dc_t c_121 h
    cases h
    exact hex0 _ rfl H locs ls hP hD hS (lv_sub hl [0, 1, 2, 3, 4, 5, 6] rfl)
  have h := dc_f c_121 h
  refine lv_bipush (v := 24) hx hb d_PngWriter_filterRow_124 (by decide) ?_
  refine lv_bipush (v := 8) hx hb d_PngWriter_filterRow_126 (by decide) ?_
  refine lv_iload hx hb d_PngWriter_filterRow_128 (lv_at hl 11 rfl) ?_
  refine lv_imul hx hb d_PngWriter_filterRow_130 ?_
  refine lv_isub hx hb d_PngWriter_filterRow_131 ?_
  refine lv_istore (lv' := [(13, .int (24 - (8 * x12))), (0, .ref h_t), (1, .ref h_p1), (2, .int x2), (3, .int x3), (4, .int x4), (5, .int x5), (6, .int x6), (8, .int x8), (9, .int x9), (10, .int x10), (11, .int x11), (12, .int x12)]) hx hb d_PngWriter_filterRow_132 hl (by decide) rfl (fun ls hl => ?_)
  refine lv_iload_n hx hb d_PngWriter_filterRow_134 rfl (lv_at hl 4 rfl) ?_
  refine lv_iload hx hb d_PngWriter_filterRow_135 (lv_at hl 9 rfl) ?_
  refine lv_iload hx hb d_PngWriter_filterRow_137 (lv_at hl 0 rfl) ?_
  refine lv_ishr hx hb d_PngWriter_filterRow_139 ?_
  refine lv_sipush (v := 255) hx hb d_PngWriter_filterRow_140 (by decide) ?_
  refine lv_iand hx hb d_PngWriter_filterRow_143 ?_
  refine lv_iload hx hb d_PngWriter_filterRow_144 (lv_at hl 10 rfl) ?_
  refine lv_iload hx hb d_PngWriter_filterRow_146 (lv_at hl 0 rfl) ?_
  refine lv_ishr hx hb d_PngWriter_filterRow_148 ?_
  refine lv_sipush (v := 255) hx hb d_PngWriter_filterRow_149 (by decide) ?_
  refine lv_iand hx hb d_PngWriter_filterRow_152 ?_
  refine lv_iload hx hb d_PngWriter_filterRow_153 (lv_at hl 11 rfl) ?_
  refine lv_iload hx hb d_PngWriter_filterRow_155 (lv_at hl 0 rfl) ?_
  refine lv_ishr hx hb d_PngWriter_filterRow_157 ?_
  refine lv_sipush (v := 255) hx hb d_PngWriter_filterRow_158 (by decide) ?_
  refine lv_iand hx hb d_PngWriter_filterRow_161 ?_
  obtain ⟨r_162, hg_162, h⟩ := dc_bindE h
  refine dc_callS (y := y_PngReader_predicted) (bytes := b_PngReader_predicted) (maxL := 4) (ret' := (some .int)) (fr' := 2) (lo' := 65) (n := 4) (val := vl_i) (o := r_162) (tysc := []) (As := [.int x3, .int ((x9 >>> ((24 - (8 * x12)) &&& 31)) &&& 255), .int ((x10 >>> ((24 - (8 * x12)) &&& 31)) &&& 255), .int ((x11 >>> ((24 - (8 * x12)) &&& 31)) &&& 255)]) (rest := []) (wc := ws_PngReader_predicted) (wr := [(h_t, .inr (10, [.ref h_t_rows, .ref h_t_lastPlaces, .ref h_t_placesBefore, .int w_t_total, .int w_t_copyLength, .int w_t_copyDistance])), (h_t_rows, .inl (k_t_rows, 147456, .inl a_t_rows)), (h_p1, .inr (8, [.ref h_p1_points, .int p1_width, .int w_p1_height])), (h_p1_points, .inl (k_p1_points, 16384, .inl a_p1_points))]) (w1 := w1_PngReader_predicted ) C (c_PngReader_predicted hfl dC dI H.size x3 ((x9 >>> ((24 - (8 * x12)) &&& 31)) &&& 255) ((x10 >>> ((24 - (8 * x12)) &&& 31)) &&& 255) ((x11 >>> ((24 - (8 * x12)) &&& 31)) &&& 255) hg_162) cw_PngReader_predicted (lg_in1 (List.mem_of_getElem? (i := 6) rfl) rfl) (lg_in6 (List.mem_of_getElem? (i := 180) rfl) rfl) (lg_in5 (List.mem_of_getElem? (i := 161) rfl) rfl) (by decide +kernel) ⟨Nat.le_of_ble_eq_true rfl, Nat.le_of_ble_eq_true rfl⟩ rfl rfl (Nat.le_of_ble_eq_true rfl) d_PngWriter_filterRow_162 hP hD hS hl.1 [] [0, 1, 2, 3] [] rfl rfl rfl rfl (by decide) rfl (fun H locs hP hD hS => ?_)
  have hP : va_P (dC, dI) classes (ws_PngWriter_filterRow h_t h_t_rows h_t_lastPlaces h_t_placesBefore h_p1 h_p1_points k_t_rows k_p1_points w_t_total w_t_copyLength w_t_copyDistance w_p1_height a_t_rows p1_width a_p1_points) H := hP.sub [0, 1, 2, 3] rfl
  have hD : va_D A (ws_PngWriter_filterRow h_t h_t_rows h_t_lastPlaces h_t_placesBefore h_p1 h_p1_points k_t_rows k_p1_points w_t_total w_t_copyLength w_t_copyDistance w_p1_height a_t_rows p1_width a_p1_points) := hD.sub [0, 1, 2, 3] (by decide) rfl
  show W p l e R s m _ below meth c H locs 0 0 _ (F0 m 165 ls [.int r_162.1])
  refine lv_istore (lv' := [(14, .int r_162.1), (13, .int (24 - (8 * x12))), (0, .ref h_t), (1, .ref h_p1), (2, .int x2), (3, .int x3), (4, .int x4), (5, .int x5), (6, .int x6), (8, .int x8), (9, .int x9), (10, .int x10), (11, .int x11), (12, .int x12)]) hx hb d_PngWriter_filterRow_165 hl (by decide) rfl (fun ls hl => ?_)
  refine lv_iload hx hb d_PngWriter_filterRow_167 (lv_at hl 9 rfl) ?_
  refine lv_iload hx hb d_PngWriter_filterRow_169 (lv_at hl 1 rfl) ?_
  refine lv_ishr hx hb d_PngWriter_filterRow_171 ?_
  refine lv_sipush (v := 255) hx hb d_PngWriter_filterRow_172 (by decide) ?_
  refine lv_iand hx hb d_PngWriter_filterRow_175 ?_
  refine lv_iload hx hb d_PngWriter_filterRow_176 (lv_at hl 0 rfl) ?_
  refine lv_isub hx hb d_PngWriter_filterRow_178 ?_
  refine lv_i2b hx hb d_PngWriter_filterRow_179 rfl ?_
  refine lv_istore (lv' := [(15, .int (((((x8 >>> ((24 - (8 * x12)) &&& 31)) &&& 255) - r_162.1) : Int32).toInt8.toInt32)), (14, .int r_162.1), (13, .int (24 - (8 * x12))), (0, .ref h_t), (1, .ref h_p1), (2, .int x2), (3, .int x3), (4, .int x4), (5, .int x5), (6, .int x6), (8, .int x8), (9, .int x9), (10, .int x10), (11, .int x11), (12, .int x12)]) hx hb d_PngWriter_filterRow_180 hl (by decide) rfl (fun ls hl => ?_)
  refine lv_aload_n hx hb d_PngWriter_filterRow_182 rfl (lv_at hl 3 rfl) ?_
  refine va_get (D := (dC, dI)) (ci := 10) (v := .ref h_t_rows) (C := R_PngWriter) (T := F_PngWriter) (N := 6) hx hb hts i_PngWriter hown hK hP 0 rfl rfl 0 (by decide) (hts _ (lg_in2 (List.mem_of_getElem? (i := 18) rfl) rfl)) (fun _ h9 => h9) rfl d_PngWriter_filterRow_183 ?_
  refine lv_iload hx hb d_PngWriter_filterRow_186 (lv_at hl 7 rfl) ?_
  refine lv_iconst (v := 1) hx hb d_PngWriter_filterRow_188 (by decide) ?_
  refine lv_iadd hx hb d_PngWriter_filterRow_189 ?_
  refine lv_iconst (v := 4) hx hb d_PngWriter_filterRow_190 (by decide) ?_
  refine lv_iload hx hb d_PngWriter_filterRow_191 (lv_at hl 9 rfl) ?_
  refine lv_imul hx hb d_PngWriter_filterRow_193 ?_
  refine lv_iadd hx hb d_PngWriter_filterRow_194 ?_
  refine lv_iload hx hb d_PngWriter_filterRow_195 (lv_at hl 14 rfl) ?_
  refine lv_iadd hx hb d_PngWriter_filterRow_197 ?_
  refine lv_iload hx hb d_PngWriter_filterRow_198 (lv_at hl 0 rfl) ?_
  obtain ⟨hi_200, h⟩ := dc_in h
  refine va_bast hx hb hK hP hD hS 1 0 rfl rfl hi_200 d_PngWriter_filterRow_200 (fun H locs hP hD hS => ?_)
  have hP : va_P (dC, dI) classes (ws_PngWriter_filterRow h_t h_t_rows h_t_lastPlaces h_t_placesBefore h_p1 h_p1_points k_t_rows k_p1_points w_t_total w_t_copyLength w_t_copyDistance w_p1_height (upd a_t_rows ((((x4 + 1) + (4 * x6)) + x12) : Int32).toNatClampNeg (vp_nar .byte (((((x8 >>> ((24 - (8 * x12)) &&& 31)) &&& 255) - r_162.1) : Int32).toInt8.toInt32))) p1_width a_p1_points) H := hP
  have hD : va_D A (ws_PngWriter_filterRow h_t h_t_rows h_t_lastPlaces h_t_placesBefore h_p1 h_p1_points k_t_rows k_p1_points w_t_total w_t_copyLength w_t_copyDistance w_p1_height (upd a_t_rows ((((x4 + 1) + (4 * x6)) + x12) : Int32).toNatClampNeg (vp_nar .byte (((((x8 >>> ((24 - (8 * x12)) &&& 31)) &&& 255) - r_162.1) : Int32).toInt8.toInt32))) p1_width a_p1_points) := hD
  refine lv_iload hx hb d_PngWriter_filterRow_201 (lv_at hl 8 rfl) ?_
  refine lv_iload hx hb d_PngWriter_filterRow_203 (lv_at hl 0 rfl) ?_
  refine va_mabs hx hb (hml.trans hl.1.symm) hown (hts _ (lg_in6 (List.mem_of_getElem? (i := 181) rfl) rfl)) (hts _ (lg_in5 (List.mem_of_getElem? (i := 167) rfl) rfl)) (hts _ (lg_in1 (List.mem_of_getElem? (i := 20) rfl) rfl)) (hts _ (lg_in5 (List.mem_of_getElem? (i := 168) rfl) rfl)) (Nat.le_trans (Nat.le_of_ble_eq_true rfl) hF) (Nat.le_trans (Nat.le_of_ble_eq_true rfl) hL) (Nat.zero_le _) (Nat.zero_le _) d_PngWriter_filterRow_205 ?_
  refine lv_iadd hx hb d_PngWriter_filterRow_208 ?_
  refine lv_istore (lv' := [(5, .int (x5 + (if 0 ≤ ((((x8 >>> ((24 - (8 * x12)) &&& 31)) &&& 255) - r_162.1) : Int32).toInt8.toInt32 then ((((x8 >>> ((24 - (8 * x12)) &&& 31)) &&& 255) - r_162.1) : Int32).toInt8.toInt32 else 0 - ((((x8 >>> ((24 - (8 * x12)) &&& 31)) &&& 255) - r_162.1) : Int32).toInt8.toInt32))), (15, .int (((((x8 >>> ((24 - (8 * x12)) &&& 31)) &&& 255) - r_162.1) : Int32).toInt8.toInt32)), (14, .int r_162.1), (13, .int (24 - (8 * x12))), (0, .ref h_t), (1, .ref h_p1), (2, .int x2), (3, .int x3), (4, .int x4), (6, .int x6), (8, .int x8), (9, .int x9), (10, .int x10), (11, .int x11), (12, .int x12)]) hx hb d_PngWriter_filterRow_209 hl (by decide) rfl (fun ls hl => ?_)
  refine lv_iinc (v := (x12 + 1)) (lv' := [(12, .int (x12 + 1)), (5, .int (x5 + (if 0 ≤ ((((x8 >>> ((24 - (8 * x12)) &&& 31)) &&& 255) - r_162.1) : Int32).toInt8.toInt32 then ((((x8 >>> ((24 - (8 * x12)) &&& 31)) &&& 255) - r_162.1) : Int32).toInt8.toInt32 else 0 - ((((x8 >>> ((24 - (8 * x12)) &&& 31)) &&& 255) - r_162.1) : Int32).toInt8.toInt32))), (15, .int (((((x8 >>> ((24 - (8 * x12)) &&& 31)) &&& 255) - r_162.1) : Int32).toInt8.toInt32)), (14, .int r_162.1), (13, .int (24 - (8 * x12))), (0, .ref h_t), (1, .ref h_p1), (2, .int x2), (3, .int x3), (4, .int x4), (6, .int x6), (8, .int x8), (9, .int x9), (10, .int x10), (11, .int x11)]) hx hb d_PngWriter_filterRow_211 hl (k := 14) rfl rfl (by decide) rfl (fun ls hl => ?_)
  refine lv_goto (tgt := 118) hx hb d_PngWriter_filterRow_214 (by decide) ?_
  exact hrec _ _ _ h H locs ls hP hD hS (lv_sub hl [5, 6, 7, 8, 9, 1, 10, 11, 12, 13, 14, 0] rfl)
set_option maxHeartbeats 400000 in
set_option maxRecDepth 100000 in
theorem w_PngWriter_filterRow_L118 {p : Program} {l : Launch} {e : Env} {R : Room} {s : State} {m : MethodId} {args : Array Value} {below : List Frame} {meth : Method} {c : Code} {dC : Nat → ClassId} {dI : Nat → Nat → Nat} {A : Nat → Prop} {Q : State → Prop} {h_t : Nat} {h_t_rows : Nat} {h_t_lastPlaces : Nat} {h_t_placesBefore : Nat} {h_p1 : Nat} {h_p1_points : Nat} {k_t_rows : ClassId} {k_p1_points : ClassId} {w_t_total : Int32} {w_t_copyLength : Int32} {w_t_copyDistance : Int32} {w_p1_height : Int32} (C : cx p l e R s m args meth c dC dI A R_PngWriter b_PngWriter_filterRow 16 (some .int) 3 88 [(k_t_rows, .byte), (k_p1_points, .int)]) {K : Nat} {out : (Nat → Int32) × Int32} {p1_width : Int32} {a_p1_points : Nat → Int32} {x2 : Int32} {x3 : Int32} {x4 : Int32} {x6 : Int32} {x8 : Int32} {x9 : Int32} {x10 : Int32} {x11 : Int32} (hex0 : ∀ v : (Nat → Int32) × Int32, out = v → at_PngWriter_filterRow_217 p l e R s m args below meth c dC dI A Q h_t h_t_rows h_t_lastPlaces h_t_placesBefore h_p1 h_p1_points k_t_rows k_p1_points w_t_total w_t_copyLength w_t_copyDistance w_p1_height v.1 p1_width a_p1_points x2 x3 x4 v.2 x6) : ∀ (n : Nat) (a_t_rows : Nat → Int32) (x5 : Int32) (x12 : Int32), f_PngWriter_filterRow_L118 K  p1_width a_p1_points x2 x3 x4 x6 x8 x9 x10 x11 n a_t_rows x5 x12 = some out → at_PngWriter_filterRow_118 p l e R s m args below meth c dC dI A Q h_t h_t_rows h_t_lastPlaces h_t_placesBefore h_p1 h_p1_points k_t_rows k_p1_points w_t_total w_t_copyLength w_t_copyDistance w_p1_height a_t_rows p1_width a_p1_points x2 x3 x4 x5 x6 x8 x9 x10 x11 x12 := by
  intro n
  induction n with
  | zero =>
    intro a_t_rows x5 x12 h
    exact nomatch (show (none : Option ((Nat → Int32) × Int32)) = some out from h)
  | succ n ih =>
    intro a_t_rows x5 x12 h
    exact w_PngWriter_filterRow_118 C hex0 ih h
set_option maxHeartbeats 400000 in
set_option maxRecDepth 100000 in
theorem w_PngWriter_filterRow_113 {p : Program} {l : Launch} {e : Env} {R : Room} {s : State} {m : MethodId} {args : Array Value} {below : List Frame} {meth : Method} {c : Code} {dC : Nat → ClassId} {dI : Nat → Nat → Nat} {A : Nat → Prop} {Q : State → Prop} {h_t : Nat} {h_t_rows : Nat} {h_t_lastPlaces : Nat} {h_t_placesBefore : Nat} {h_p1 : Nat} {h_p1_points : Nat} {k_t_rows : ClassId} {k_p1_points : ClassId} {w_t_total : Int32} {w_t_copyLength : Int32} {w_t_copyDistance : Int32} {w_p1_height : Int32} (C : cx p l e R s m args meth c dC dI A R_PngWriter b_PngWriter_filterRow 16 (some .int) 3 88 [(k_t_rows, .byte), (k_p1_points, .int)]) {K : Nat} {out : (Nat → Int32) × Int32} {a_t_rows : Nat → Int32} {p1_width : Int32} {a_p1_points : Nat → Int32} {x2 : Int32} {x3 : Int32} {x4 : Int32} {x5 : Int32} {x6 : Int32} {x8 : Int32} {x9 : Int32} {x10 : Int32} {y0 : Int32} {rec : (Nat → Int32) → Int32 → Int32 → Option ((Nat → Int32) × Int32)}  (hex0 : ∀ v : (Nat → Int32) × Int32, out = v → at_PngWriter_filterRow_223 p l e R s m args below meth c dC dI A Q h_t h_t_rows h_t_lastPlaces h_t_placesBefore h_p1 h_p1_points k_t_rows k_p1_points w_t_total w_t_copyLength w_t_copyDistance w_p1_height v.1 p1_width a_p1_points v.2) (hrec : ∀ (a_t_rows : Nat → Int32) (x5 : Int32) (x6 : Int32), rec a_t_rows x5 x6 = some out → at_PngWriter_filterRow_15 p l e R s m args below meth c dC dI A Q h_t h_t_rows h_t_lastPlaces h_t_placesBefore h_p1 h_p1_points k_t_rows k_p1_points w_t_total w_t_copyLength w_t_copyDistance w_p1_height a_t_rows p1_width a_p1_points x2 x3 x4 x5 x6) (h : f_PngWriter_filterRow_113 K  rec a_t_rows p1_width a_p1_points x2 x3 x4 x5 x6 x8 x9 x10 y0 = some out) : at_PngWriter_filterRow_113 p l e R s m args below meth c dC dI A Q h_t h_t_rows h_t_lastPlaces h_t_placesBefore h_p1 h_p1_points k_t_rows k_p1_points w_t_total w_t_copyLength w_t_copyDistance w_p1_height a_t_rows p1_width a_p1_points x2 x3 x4 x5 x6 x8 x9 x10 y0 := by
  refine fun H locs ls hP hD hS hl => ?_
  obtain ⟨hx, hb, hr, hml, hown, hts, hlk, hK, hA, hV, htr, hex, hF, hL, hfl⟩ := id C
  unfold f_PngWriter_filterRow_113 at h
  refine lv_istore (lv' := [(11, .int y0), (0, .ref h_t), (1, .ref h_p1), (2, .int x2), (3, .int x3), (4, .int x4), (5, .int x5), (6, .int x6), (8, .int x8), (9, .int x9), (10, .int x10)]) hx hb d_PngWriter_filterRow_113 hl (by decide) rfl (fun ls hl => ?_)
  refine lv_iconst (v := 0) hx hb d_PngWriter_filterRow_115 (by decide) ?_
  refine lv_istore (lv' := [(12, .int 0), (11, .int y0), (0, .ref h_t), (1, .ref h_p1), (2, .int x2), (3, .int x3), (4, .int x4), (5, .int x5), (6, .int x6), (8, .int x8), (9, .int x9), (10, .int x10)]) hx hb d_PngWriter_filterRow_116 hl (by decide) rfl (fun ls hl => ?_)
  obtain ⟨r_118, hg_118, h⟩ := dc_bindE h
  refine w_PngWriter_filterRow_L118 C ?_ K _ _ _ hg_118 H locs ls hP hD hS (lv_sub hl [2, 3, 4, 5, 6, 7, 8, 9, 10, 11, 1, 0] rfl)
  · refine fun v_217 hr => ?_
    subst r_118
    refine fun H locs ls hP hD hS hl => ?_
    refine lv_iinc (v := (x6 + 1)) (lv' := [(6, .int (x6 + 1)), (0, .ref h_t), (1, .ref h_p1), (2, .int x2), (3, .int x3), (4, .int x4), (5, .int v_217.2)]) hx hb d_PngWriter_filterRow_217 hl (k := 6) rfl rfl (by decide) rfl (fun ls hl => ?_)
    refine lv_goto (tgt := 15) hx hb d_PngWriter_filterRow_220 (by decide) ?_
    exact hrec _ _ _ h H locs ls hP hD hS (lv_sub hl [1, 2, 3, 4, 5, 6, 0] rfl)
set_option maxHeartbeats 400000 in
set_option maxRecDepth 100000 in
theorem w_PngWriter_filterRow_112 {p : Program} {l : Launch} {e : Env} {R : Room} {s : State} {m : MethodId} {args : Array Value} {below : List Frame} {meth : Method} {c : Code} {dC : Nat → ClassId} {dI : Nat → Nat → Nat} {A : Nat → Prop} {Q : State → Prop} {h_t : Nat} {h_t_rows : Nat} {h_t_lastPlaces : Nat} {h_t_placesBefore : Nat} {h_p1 : Nat} {h_p1_points : Nat} {k_t_rows : ClassId} {k_p1_points : ClassId} {w_t_total : Int32} {w_t_copyLength : Int32} {w_t_copyDistance : Int32} {w_p1_height : Int32} (C : cx p l e R s m args meth c dC dI A R_PngWriter b_PngWriter_filterRow 16 (some .int) 3 88 [(k_t_rows, .byte), (k_p1_points, .int)]) {K : Nat} {out : (Nat → Int32) × Int32} {a_t_rows : Nat → Int32} {p1_width : Int32} {a_p1_points : Nat → Int32} {x2 : Int32} {x3 : Int32} {x4 : Int32} {x5 : Int32} {x6 : Int32} {x8 : Int32} {x9 : Int32} {x10 : Int32} {rec : (Nat → Int32) → Int32 → Int32 → Option ((Nat → Int32) × Int32)}  (hex0 : ∀ v : (Nat → Int32) × Int32, out = v → at_PngWriter_filterRow_223 p l e R s m args below meth c dC dI A Q h_t h_t_rows h_t_lastPlaces h_t_placesBefore h_p1 h_p1_points k_t_rows k_p1_points w_t_total w_t_copyLength w_t_copyDistance w_p1_height v.1 p1_width a_p1_points v.2) (hrec : ∀ (a_t_rows : Nat → Int32) (x5 : Int32) (x6 : Int32), rec a_t_rows x5 x6 = some out → at_PngWriter_filterRow_15 p l e R s m args below meth c dC dI A Q h_t h_t_rows h_t_lastPlaces h_t_placesBefore h_p1 h_p1_points k_t_rows k_p1_points w_t_total w_t_copyLength w_t_copyDistance w_p1_height a_t_rows p1_width a_p1_points x2 x3 x4 x5 x6) (h : f_PngWriter_filterRow_112 K  rec a_t_rows p1_width a_p1_points x2 x3 x4 x5 x6 x8 x9 x10 = some out) : at_PngWriter_filterRow_112 p l e R s m args below meth c dC dI A Q h_t h_t_rows h_t_lastPlaces h_t_placesBefore h_p1 h_p1_points k_t_rows k_p1_points w_t_total w_t_copyLength w_t_copyDistance w_p1_height a_t_rows p1_width a_p1_points x2 x3 x4 x5 x6 x8 x9 x10 := by
  refine fun H locs ls hP hD hS hl => ?_
  obtain ⟨hx, hb, hr, hml, hown, hts, hlk, hK, hA, hV, htr, hex, hF, hL, hfl⟩ := id C
  unfold f_PngWriter_filterRow_112 at h
  refine lv_iconst (v := 0) hx hb d_PngWriter_filterRow_112 (by decide) ?_
  exact w_PngWriter_filterRow_113 C hex0 hrec h H locs ls hP hD hS (lv_sub hl [0, 1, 2, 3, 4, 5, 6, 7, 8, 9] rfl)
set_option maxHeartbeats 400000 in
set_option maxRecDepth 100000 in
theorem w_PngWriter_filterRow_84 {p : Program} {l : Launch} {e : Env} {R : Room} {s : State} {m : MethodId} {args : Array Value} {below : List Frame} {meth : Method} {c : Code} {dC : Nat → ClassId} {dI : Nat → Nat → Nat} {A : Nat → Prop} {Q : State → Prop} {h_t : Nat} {h_t_rows : Nat} {h_t_lastPlaces : Nat} {h_t_placesBefore : Nat} {h_p1 : Nat} {h_p1_points : Nat} {k_t_rows : ClassId} {k_p1_points : ClassId} {w_t_total : Int32} {w_t_copyLength : Int32} {w_t_copyDistance : Int32} {w_p1_height : Int32} (C : cx p l e R s m args meth c dC dI A R_PngWriter b_PngWriter_filterRow 16 (some .int) 3 88 [(k_t_rows, .byte), (k_p1_points, .int)]) {K : Nat} {out : (Nat → Int32) × Int32} {a_t_rows : Nat → Int32} {p1_width : Int32} {a_p1_points : Nat → Int32} {x2 : Int32} {x3 : Int32} {x4 : Int32} {x5 : Int32} {x6 : Int32} {x7 : Int32} {x8 : Int32} {x9 : Int32} {y0 : Int32} {rec : (Nat → Int32) → Int32 → Int32 → Option ((Nat → Int32) × Int32)}  (hex0 : ∀ v : (Nat → Int32) × Int32, out = v → at_PngWriter_filterRow_223 p l e R s m args below meth c dC dI A Q h_t h_t_rows h_t_lastPlaces h_t_placesBefore h_p1 h_p1_points k_t_rows k_p1_points w_t_total w_t_copyLength w_t_copyDistance w_p1_height v.1 p1_width a_p1_points v.2) (hrec : ∀ (a_t_rows : Nat → Int32) (x5 : Int32) (x6 : Int32), rec a_t_rows x5 x6 = some out → at_PngWriter_filterRow_15 p l e R s m args below meth c dC dI A Q h_t h_t_rows h_t_lastPlaces h_t_placesBefore h_p1 h_p1_points k_t_rows k_p1_points w_t_total w_t_copyLength w_t_copyDistance w_p1_height a_t_rows p1_width a_p1_points x2 x3 x4 x5 x6) (h : f_PngWriter_filterRow_84 K  rec a_t_rows p1_width a_p1_points x2 x3 x4 x5 x6 x7 x8 x9 y0 = some out) : at_PngWriter_filterRow_84 p l e R s m args below meth c dC dI A Q h_t h_t_rows h_t_lastPlaces h_t_placesBefore h_p1 h_p1_points k_t_rows k_p1_points w_t_total w_t_copyLength w_t_copyDistance w_p1_height a_t_rows p1_width a_p1_points x2 x3 x4 x5 x6 x7 x8 x9 y0 := by
  refine fun H locs ls hP hD hS hl => ?_
  obtain ⟨hx, hb, hr, hml, hown, hts, hlk, hK, hA, hV, htr, hex, hF, hL, hfl⟩ := id C
  unfold f_PngWriter_filterRow_84 at h
  refine lv_istore (lv' := [(10, .int y0), (0, .ref h_t), (1, .ref h_p1), (2, .int x2), (3, .int x3), (4, .int x4), (5, .int x5), (6, .int x6), (7, .int x7), (8, .int x8), (9, .int x9)]) hx hb d_PngWriter_filterRow_84 hl (by decide) rfl (fun ls hl => ?_)
  refine lv_iload hx hb d_PngWriter_filterRow_86 (lv_at hl 7 rfl) ?_
  refine lv_if_le (tgt := 112) hx hb d_PngWriter_filterRow_88 (by decide) (fun c_88 => ?_) (fun c_88 => ?_)
  · have h := dc_t c_88 h
    exact w_PngWriter_filterRow_112 C hex0 hrec h H locs ls hP hD hS (lv_sub hl [1, 2, 3, 4, 5, 6, 7, 9, 10, 0] rfl)
  have h := dc_f c_88 h
  refine lv_iload_n hx hb d_PngWriter_filterRow_91 rfl (lv_at hl 3 rfl) ?_
  refine lv_if_le (tgt := 112) hx hb d_PngWriter_filterRow_92 (by decide) (fun c_92 => ?_) (fun c_92 => ?_)
  · have h := dc_t c_92 h
    exact w_PngWriter_filterRow_112 C hex0 hrec h H locs ls hP hD hS (lv_sub hl [1, 2, 3, 4, 5, 6, 7, 9, 10, 0] rfl)
  have h := dc_f c_92 h
  refine lv_aload_n hx hb d_PngWriter_filterRow_95 rfl (lv_at hl 2 rfl) ?_
  refine va_get (D := (dC, dI)) (ci := 8) (v := .ref h_p1_points) (C := R_Picture) (T := F_Picture) (N := 3) hx hb hts i_Picture hown hK hP 2 rfl rfl 0 (by decide) (hts _ (lg_in1 (List.mem_of_getElem? (i := 73) rfl) rfl)) (fun _ h9 => h9) rfl d_PngWriter_filterRow_96 ?_
  refine lv_iload hx hb d_PngWriter_filterRow_99 (lv_at hl 8 rfl) ?_
  refine lv_aload_n hx hb d_PngWriter_filterRow_101 rfl (lv_at hl 2 rfl) ?_
  refine va_get (D := (dC, dI)) (ci := 8) (v := .int p1_width) (C := R_Picture) (T := F_Picture) (N := 3) hx hb hts i_Picture hown hK hP 2 rfl rfl 1 (by decide) (hts _ (lg_in1 (List.mem_of_getElem? (i := 79) rfl) rfl)) (fun _ h9 => h9) rfl d_PngWriter_filterRow_102 ?_
  refine lv_isub hx hb d_PngWriter_filterRow_105 ?_
  refine lv_iconst (v := 1) hx hb d_PngWriter_filterRow_106 (by decide) ?_
  refine lv_isub hx hb d_PngWriter_filterRow_107 ?_
  obtain ⟨hi_108, h⟩ := dc_in h
  refine va_iald hx hb hK hP 3 1 rfl rfl hi_108 d_PngWriter_filterRow_108 ?_
  refine lv_goto (tgt := 113) hx hb d_PngWriter_filterRow_109 (by decide) ?_
  exact w_PngWriter_filterRow_113 C hex0 hrec h H locs ls hP hD hS (lv_sub hl [1, 2, 3, 4, 5, 6, 7, 9, 10, 0] rfl)
set_option maxHeartbeats 400000 in
set_option maxRecDepth 100000 in
theorem w_PngWriter_filterRow_62 {p : Program} {l : Launch} {e : Env} {R : Room} {s : State} {m : MethodId} {args : Array Value} {below : List Frame} {meth : Method} {c : Code} {dC : Nat → ClassId} {dI : Nat → Nat → Nat} {A : Nat → Prop} {Q : State → Prop} {h_t : Nat} {h_t_rows : Nat} {h_t_lastPlaces : Nat} {h_t_placesBefore : Nat} {h_p1 : Nat} {h_p1_points : Nat} {k_t_rows : ClassId} {k_p1_points : ClassId} {w_t_total : Int32} {w_t_copyLength : Int32} {w_t_copyDistance : Int32} {w_p1_height : Int32} (C : cx p l e R s m args meth c dC dI A R_PngWriter b_PngWriter_filterRow 16 (some .int) 3 88 [(k_t_rows, .byte), (k_p1_points, .int)]) {K : Nat} {out : (Nat → Int32) × Int32} {a_t_rows : Nat → Int32} {p1_width : Int32} {a_p1_points : Nat → Int32} {x2 : Int32} {x3 : Int32} {x4 : Int32} {x5 : Int32} {x6 : Int32} {x7 : Int32} {x8 : Int32} {y0 : Int32} {rec : (Nat → Int32) → Int32 → Int32 → Option ((Nat → Int32) × Int32)}  (hex0 : ∀ v : (Nat → Int32) × Int32, out = v → at_PngWriter_filterRow_223 p l e R s m args below meth c dC dI A Q h_t h_t_rows h_t_lastPlaces h_t_placesBefore h_p1 h_p1_points k_t_rows k_p1_points w_t_total w_t_copyLength w_t_copyDistance w_p1_height v.1 p1_width a_p1_points v.2) (hrec : ∀ (a_t_rows : Nat → Int32) (x5 : Int32) (x6 : Int32), rec a_t_rows x5 x6 = some out → at_PngWriter_filterRow_15 p l e R s m args below meth c dC dI A Q h_t h_t_rows h_t_lastPlaces h_t_placesBefore h_p1 h_p1_points k_t_rows k_p1_points w_t_total w_t_copyLength w_t_copyDistance w_p1_height a_t_rows p1_width a_p1_points x2 x3 x4 x5 x6) (h : f_PngWriter_filterRow_62 K  rec a_t_rows p1_width a_p1_points x2 x3 x4 x5 x6 x7 x8 y0 = some out) : at_PngWriter_filterRow_62 p l e R s m args below meth c dC dI A Q h_t h_t_rows h_t_lastPlaces h_t_placesBefore h_p1 h_p1_points k_t_rows k_p1_points w_t_total w_t_copyLength w_t_copyDistance w_p1_height a_t_rows p1_width a_p1_points x2 x3 x4 x5 x6 x7 x8 y0 := by
  refine fun H locs ls hP hD hS hl => ?_
  obtain ⟨hx, hb, hr, hml, hown, hts, hlk, hK, hA, hV, htr, hex, hF, hL, hfl⟩ := id C
  unfold f_PngWriter_filterRow_62 at h
  refine lv_istore (lv' := [(9, .int y0), (0, .ref h_t), (1, .ref h_p1), (2, .int x2), (3, .int x3), (4, .int x4), (5, .int x5), (6, .int x6), (7, .int x7), (8, .int x8)]) hx hb d_PngWriter_filterRow_62 hl (by decide) rfl (fun ls hl => ?_)
  refine lv_iload_n hx hb d_PngWriter_filterRow_64 rfl (lv_at hl 3 rfl) ?_
  refine lv_if_le (tgt := 83) hx hb d_PngWriter_filterRow_65 (by decide) (fun c_65 => ?_) (fun c_65 => ?_)
  · have h := dc_t c_65 h
    refine lv_iconst (v := 0) hx hb d_PngWriter_filterRow_83 (by decide) ?_
    exact w_PngWriter_filterRow_84 C hex0 hrec h H locs ls hP hD hS (lv_sub hl [1, 2, 3, 4, 5, 6, 7, 8, 9, 0] rfl)
  have h := dc_f c_65 h
  refine lv_aload_n hx hb d_PngWriter_filterRow_68 rfl (lv_at hl 2 rfl) ?_
  refine va_get (D := (dC, dI)) (ci := 8) (v := .ref h_p1_points) (C := R_Picture) (T := F_Picture) (N := 3) hx hb hts i_Picture hown hK hP 2 rfl rfl 0 (by decide) (hts _ (lg_in1 (List.mem_of_getElem? (i := 73) rfl) rfl)) (fun _ h9 => h9) rfl d_PngWriter_filterRow_69 ?_
  refine lv_iload hx hb d_PngWriter_filterRow_72 (lv_at hl 8 rfl) ?_
  refine lv_aload_n hx hb d_PngWriter_filterRow_74 rfl (lv_at hl 2 rfl) ?_
  refine va_get (D := (dC, dI)) (ci := 8) (v := .int p1_width) (C := R_Picture) (T := F_Picture) (N := 3) hx hb hts i_Picture hown hK hP 2 rfl rfl 1 (by decide) (hts _ (lg_in1 (List.mem_of_getElem? (i := 79) rfl) rfl)) (fun _ h9 => h9) rfl d_PngWriter_filterRow_75 ?_
  refine lv_isub hx hb d_PngWriter_filterRow_78 ?_
  obtain ⟨hi_79, h⟩ := dc_in h
  refine va_iald hx hb hK hP 3 1 rfl rfl hi_79 d_PngWriter_filterRow_79 ?_
  refine lv_goto (tgt := 84) hx hb d_PngWriter_filterRow_80 (by decide) ?_
  exact w_PngWriter_filterRow_84 C hex0 hrec h H locs ls hP hD hS (lv_sub hl [1, 2, 3, 4, 5, 6, 7, 8, 9, 0] rfl)
set_option maxHeartbeats 400000 in
set_option maxRecDepth 100000 in
theorem w_PngWriter_filterRow_15 {p : Program} {l : Launch} {e : Env} {R : Room} {s : State} {m : MethodId} {args : Array Value} {below : List Frame} {meth : Method} {c : Code} {dC : Nat → ClassId} {dI : Nat → Nat → Nat} {A : Nat → Prop} {Q : State → Prop} {h_t : Nat} {h_t_rows : Nat} {h_t_lastPlaces : Nat} {h_t_placesBefore : Nat} {h_p1 : Nat} {h_p1_points : Nat} {k_t_rows : ClassId} {k_p1_points : ClassId} {w_t_total : Int32} {w_t_copyLength : Int32} {w_t_copyDistance : Int32} {w_p1_height : Int32} (C : cx p l e R s m args meth c dC dI A R_PngWriter b_PngWriter_filterRow 16 (some .int) 3 88 [(k_t_rows, .byte), (k_p1_points, .int)]) {K : Nat} {out : (Nat → Int32) × Int32} {a_t_rows : Nat → Int32} {p1_width : Int32} {a_p1_points : Nat → Int32} {x2 : Int32} {x3 : Int32} {x4 : Int32} {x5 : Int32} {x6 : Int32} {rec : (Nat → Int32) → Int32 → Int32 → Option ((Nat → Int32) × Int32)}  (hex0 : ∀ v : (Nat → Int32) × Int32, out = v → at_PngWriter_filterRow_223 p l e R s m args below meth c dC dI A Q h_t h_t_rows h_t_lastPlaces h_t_placesBefore h_p1 h_p1_points k_t_rows k_p1_points w_t_total w_t_copyLength w_t_copyDistance w_p1_height v.1 p1_width a_p1_points v.2) (hrec : ∀ (a_t_rows : Nat → Int32) (x5 : Int32) (x6 : Int32), rec a_t_rows x5 x6 = some out → at_PngWriter_filterRow_15 p l e R s m args below meth c dC dI A Q h_t h_t_rows h_t_lastPlaces h_t_placesBefore h_p1 h_p1_points k_t_rows k_p1_points w_t_total w_t_copyLength w_t_copyDistance w_p1_height a_t_rows p1_width a_p1_points x2 x3 x4 x5 x6) (h : f_PngWriter_filterRow_15 K  rec a_t_rows p1_width a_p1_points x2 x3 x4 x5 x6 = some out) : at_PngWriter_filterRow_15 p l e R s m args below meth c dC dI A Q h_t h_t_rows h_t_lastPlaces h_t_placesBefore h_p1 h_p1_points k_t_rows k_p1_points w_t_total w_t_copyLength w_t_copyDistance w_p1_height a_t_rows p1_width a_p1_points x2 x3 x4 x5 x6 := by
  refine fun H locs ls hP hD hS hl => ?_
  obtain ⟨hx, hb, hr, hml, hown, hts, hlk, hK, hA, hV, htr, hex, hF, hL, hfl⟩ := id C
  unfold f_PngWriter_filterRow_15 at h
  refine lv_iload hx hb d_PngWriter_filterRow_15 (lv_at hl 6 rfl) ?_
  refine lv_aload_n hx hb d_PngWriter_filterRow_17 rfl (lv_at hl 1 rfl) ?_
  refine va_get (D := (dC, dI)) (ci := 8) (v := .int p1_width) (C := R_Picture) (T := F_Picture) (N := 3) hx hb hts i_Picture hown hK hP 2 rfl rfl 1 (by decide) (hts _ (lg_in1 (List.mem_of_getElem? (i := 79) rfl) rfl)) (fun _ h9 => h9) rfl d_PngWriter_filterRow_18 ?_
  refine lv_icmp_ge (tgt := 223) hx hb d_PngWriter_filterRow_21 (by decide) (fun c_21 => ?_) (fun c_21 => ?_)
  · have h := dc_t c_21 h
    cases h
    exact hex0 _ rfl H locs ls hP hD hS (lv_sub hl [0, 1, 5] rfl)
  have h := dc_f c_21 h
  refine lv_iload_n hx hb d_PngWriter_filterRow_24 rfl (lv_at hl 2 rfl) ?_
  refine lv_aload_n hx hb d_PngWriter_filterRow_25 rfl (lv_at hl 1 rfl) ?_
  refine va_get (D := (dC, dI)) (ci := 8) (v := .int p1_width) (C := R_Picture) (T := F_Picture) (N := 3) hx hb hts i_Picture hown hK hP 2 rfl rfl 1 (by decide) (hts _ (lg_in1 (List.mem_of_getElem? (i := 79) rfl) rfl)) (fun _ h9 => h9) rfl d_PngWriter_filterRow_26 ?_
  refine lv_imul hx hb d_PngWriter_filterRow_29 ?_
  refine lv_iload hx hb d_PngWriter_filterRow_30 (lv_at hl 6 rfl) ?_
  refine lv_iadd hx hb d_PngWriter_filterRow_32 ?_
  refine lv_istore (lv' := [(7, .int ((x2 * p1_width) + x6)), (0, .ref h_t), (1, .ref h_p1), (2, .int x2), (3, .int x3), (4, .int x4), (5, .int x5), (6, .int x6)]) hx hb d_PngWriter_filterRow_33 hl (by decide) rfl (fun ls hl => ?_)
  refine lv_aload_n hx hb d_PngWriter_filterRow_35 rfl (lv_at hl 2 rfl) ?_
  refine va_get (D := (dC, dI)) (ci := 8) (v := .ref h_p1_points) (C := R_Picture) (T := F_Picture) (N := 3) hx hb hts i_Picture hown hK hP 2 rfl rfl 0 (by decide) (hts _ (lg_in1 (List.mem_of_getElem? (i := 73) rfl) rfl)) (fun _ h9 => h9) rfl d_PngWriter_filterRow_36 ?_
  refine lv_iload hx hb d_PngWriter_filterRow_39 (lv_at hl 0 rfl) ?_
  obtain ⟨hi_41, h⟩ := dc_in h
  refine va_iald hx hb hK hP 3 1 rfl rfl hi_41 d_PngWriter_filterRow_41 ?_
  refine lv_istore (lv' := [(8, .int (a_p1_points (((x2 * p1_width) + x6) : Int32).toNatClampNeg)), (7, .int ((x2 * p1_width) + x6)), (0, .ref h_t), (1, .ref h_p1), (2, .int x2), (3, .int x3), (4, .int x4), (5, .int x5), (6, .int x6)]) hx hb d_PngWriter_filterRow_42 hl (by decide) rfl (fun ls hl => ?_)
  refine lv_iload hx hb d_PngWriter_filterRow_44 (lv_at hl 8 rfl) ?_
  refine lv_if_le (tgt := 61) hx hb d_PngWriter_filterRow_46 (by decide) (fun c_46 => ?_) (fun c_46 => ?_)
  · have h := dc_t c_46 h
    refine lv_iconst (v := 0) hx hb d_PngWriter_filterRow_61 (by decide) ?_
    exact w_PngWriter_filterRow_62 C hex0 hrec h H locs ls hP hD hS (lv_sub hl [2, 3, 4, 5, 6, 7, 8, 1, 0] rfl)
  have h := dc_f c_46 h
  refine lv_aload_n hx hb d_PngWriter_filterRow_49 rfl (lv_at hl 3 rfl) ?_
  refine va_get (D := (dC, dI)) (ci := 8) (v := .ref h_p1_points) (C := R_Picture) (T := F_Picture) (N := 3) hx hb hts i_Picture hown hK hP 2 rfl rfl 0 (by decide) (hts _ (lg_in1 (List.mem_of_getElem? (i := 73) rfl) rfl)) (fun _ h9 => h9) rfl d_PngWriter_filterRow_50 ?_
  refine lv_iload hx hb d_PngWriter_filterRow_53 (lv_at hl 1 rfl) ?_
  refine lv_iconst (v := 1) hx hb d_PngWriter_filterRow_55 (by decide) ?_
  refine lv_isub hx hb d_PngWriter_filterRow_56 ?_
  obtain ⟨hi_57, h⟩ := dc_in h
  refine va_iald hx hb hK hP 3 1 rfl rfl hi_57 d_PngWriter_filterRow_57 ?_
  refine lv_goto (tgt := 62) hx hb d_PngWriter_filterRow_58 (by decide) ?_
  exact w_PngWriter_filterRow_62 C hex0 hrec h H locs ls hP hD hS (lv_sub hl [2, 3, 4, 5, 6, 7, 8, 1, 0] rfl)
set_option maxHeartbeats 400000 in
set_option maxRecDepth 100000 in
theorem w_PngWriter_filterRow_L15 {p : Program} {l : Launch} {e : Env} {R : Room} {s : State} {m : MethodId} {args : Array Value} {below : List Frame} {meth : Method} {c : Code} {dC : Nat → ClassId} {dI : Nat → Nat → Nat} {A : Nat → Prop} {Q : State → Prop} {h_t : Nat} {h_t_rows : Nat} {h_t_lastPlaces : Nat} {h_t_placesBefore : Nat} {h_p1 : Nat} {h_p1_points : Nat} {k_t_rows : ClassId} {k_p1_points : ClassId} {w_t_total : Int32} {w_t_copyLength : Int32} {w_t_copyDistance : Int32} {w_p1_height : Int32} (C : cx p l e R s m args meth c dC dI A R_PngWriter b_PngWriter_filterRow 16 (some .int) 3 88 [(k_t_rows, .byte), (k_p1_points, .int)]) {K : Nat} {out : (Nat → Int32) × Int32} {p1_width : Int32} {a_p1_points : Nat → Int32} {x2 : Int32} {x3 : Int32} {x4 : Int32} (hex0 : ∀ v : (Nat → Int32) × Int32, out = v → at_PngWriter_filterRow_223 p l e R s m args below meth c dC dI A Q h_t h_t_rows h_t_lastPlaces h_t_placesBefore h_p1 h_p1_points k_t_rows k_p1_points w_t_total w_t_copyLength w_t_copyDistance w_p1_height v.1 p1_width a_p1_points v.2) : ∀ (n : Nat) (a_t_rows : Nat → Int32) (x5 : Int32) (x6 : Int32), f_PngWriter_filterRow_L15 K  p1_width a_p1_points x2 x3 x4 n a_t_rows x5 x6 = some out → at_PngWriter_filterRow_15 p l e R s m args below meth c dC dI A Q h_t h_t_rows h_t_lastPlaces h_t_placesBefore h_p1 h_p1_points k_t_rows k_p1_points w_t_total w_t_copyLength w_t_copyDistance w_p1_height a_t_rows p1_width a_p1_points x2 x3 x4 x5 x6 := by
  intro n
  induction n with
  | zero =>
    intro a_t_rows x5 x6 h
    exact nomatch (show (none : Option ((Nat → Int32) × Int32)) = some out from h)
  | succ n ih =>
    intro a_t_rows x5 x6 h
    exact w_PngWriter_filterRow_15 C hex0 ih h
set_option maxHeartbeats 400000 in
set_option maxRecDepth 100000 in
theorem c_PngWriter_filterRow {l : Launch} (hfl : l.flags = flags0) (dC : Nat → ClassId) (dI : Nat → Nat → Nat) (h_t : Nat) (h_t_rows : Nat) (h_t_lastPlaces : Nat) (h_t_placesBefore : Nat) (h_p1 : Nat) (h_p1_points : Nat) (k_t_rows : ClassId) (k_p1_points : ClassId) (w_t_total : Int32) (w_t_copyLength : Int32) (w_t_copyDistance : Int32) (w_p1_height : Int32) (sz : Nat) (K : Nat) (x2 : Int32) (x3 : Int32) (x4 : Int32) (a_t_rows : Nat → Int32) (p1_width : Int32) (a_p1_points : Nat → Int32) {o : Int32 × ((Nat → Int32))} (h : f_PngWriter_filterRow K x2 x3 x4 a_t_rows p1_width a_p1_points = some o) : MetX l y_PngWriter_filterRow (Cond.code y_PngWriter_filterRow b_PngWriter_filterRow 16 (some .int) :: lw_g) (rmx 3 88 0 0) (vx_Pre dC dI [(k_t_rows, .byte), (k_p1_points, .int)] [.ref h_t, .ref h_p1, .int x2, .int x3, .int x4] sz (ws_PngWriter_filterRow h_t h_t_rows h_t_lastPlaces h_t_placesBefore h_p1 h_p1_points k_t_rows k_p1_points w_t_total w_t_copyLength w_t_copyDistance w_p1_height a_t_rows p1_width a_p1_points)) (vx_Q vl_i (.inl o) (fun u t => vx_B dC dI [(k_t_rows, .byte), (k_p1_points, .int)] (va_A (ws_PngWriter_filterRow h_t h_t_rows h_t_lastPlaces h_t_placesBefore h_p1 h_p1_points k_t_rows k_p1_points w_t_total w_t_copyLength w_t_copyDistance w_p1_height a_t_rows p1_width a_p1_points) sz) (w1_PngWriter_filterRow h_t h_t_rows h_t_lastPlaces h_t_placesBefore h_p1 h_p1_points k_t_rows k_p1_points w_t_total w_t_copyLength w_t_copyDistance w_p1_height p1_width a_p1_points u) t) (va_A (ws_PngWriter_filterRow h_t h_t_rows h_t_lastPlaces h_t_placesBefore h_p1 h_p1_points k_t_rows k_p1_points w_t_total w_t_copyLength w_t_copyDistance w_p1_height a_t_rows p1_width a_p1_points) sz)) 0 0 (va_A (ws_PngWriter_filterRow h_t h_t_rows h_t_lastPlaces h_t_placesBefore h_p1 h_p1_points k_t_rows k_p1_points w_t_total w_t_copyLength w_t_copyDistance w_p1_height a_t_rows p1_width a_p1_points) sz) := by
  refine MetX.ofW (cc := b_PngWriter_filterRow) (maxL := 16) (ret := (some .int)) (by decide +kernel) rfl ?_
  intro p e s m args below meth c s₁ B hml hv
  obtain ⟨rfl, rfl, C, hP, hD, hS⟩ := dc_entry hfl B hml hv
  have hl := lv_entry ([.ref h_t, .ref h_p1, .int x2, .int x3, .int x4]) (n := 16) (Nat.le_of_ble_eq_true rfl)
  rw [lg_entry_eq]
  generalize (lg_sl ([.ref h_t, .ref h_p1, .int x2, .int x3, .int x4]) ++ List.replicate (16 - (lg_sl ([.ref h_t, .ref h_p1, .int x2, .int x3, .int x4])).length) Slot.unset).toArray = ls at hl ⊢
  have hl : lv_has ls 16 [(0, .ref h_t), (1, .ref h_p1), (2, .int x2), (3, .int x3), (4, .int x4)] := hl
  generalize hAe : va_A (ws_PngWriter_filterRow h_t h_t_rows h_t_lastPlaces h_t_placesBefore h_p1 h_p1_points k_t_rows k_p1_points w_t_total w_t_copyLength w_t_copyDistance w_p1_height a_t_rows p1_width a_p1_points) s.heap.size = A at C hD hS ⊢
  generalize (headSpec (Cond.code y_PngWriter_filterRow b_PngWriter_filterRow 16 (some .int) :: lw_g) (rmx 3 88 0 0)).room = R at C ⊢
  have C : cx p l e R s m _ meth c dC dI A R_PngWriter b_PngWriter_filterRow 16 (some .int) 3 88 [(k_t_rows, .byte), (k_p1_points, .int)] := C
  obtain ⟨hx, hb, hr, hml, hown, hts, hlk, hK, hA, hV, htr, hex, hF, hL, hfl⟩ := id C
  unfold f_PngWriter_filterRow at h
  revert hP hS
  generalize hH : s.heap = H
  generalize hLo : ([] : List Loc) = locs
  intro hP hS
  have hS : va_S A s.heap H locs := by rw [hH]; exact hS
  refine lv_iconst (v := 0) hx hb d_PngWriter_filterRow_0 (by decide) ?_
  refine lv_istore (lv' := [(5, .int 0), (0, .ref h_t), (1, .ref h_p1), (2, .int x2), (3, .int x3), (4, .int x4)]) hx hb d_PngWriter_filterRow_1 hl (by decide) rfl (fun ls hl => ?_)
  refine lv_aload_n hx hb d_PngWriter_filterRow_3 rfl (lv_at hl 1 rfl) ?_
  refine va_get (D := (dC, dI)) (ci := 10) (v := .ref h_t_rows) (C := R_PngWriter) (T := F_PngWriter) (N := 6) hx hb hts i_PngWriter hown hK hP 0 rfl rfl 0 (by decide) (hts _ (lg_in2 (List.mem_of_getElem? (i := 18) rfl) rfl)) (fun _ h9 => h9) rfl d_PngWriter_filterRow_4 ?_
  refine lv_iload hx hb d_PngWriter_filterRow_7 (lv_at hl 5 rfl) ?_
  refine lv_iload_n hx hb d_PngWriter_filterRow_9 rfl (lv_at hl 4 rfl) ?_
  refine lv_i2b hx hb d_PngWriter_filterRow_10 rfl ?_
  obtain ⟨hi_11, h⟩ := dc_in h
  refine va_bast hx hb hK hP hD hS 1 0 rfl rfl hi_11 d_PngWriter_filterRow_11 (fun H locs hP hD hS => ?_)
  have hP : va_P (dC, dI) classes (ws_PngWriter_filterRow h_t h_t_rows h_t_lastPlaces h_t_placesBefore h_p1 h_p1_points k_t_rows k_p1_points w_t_total w_t_copyLength w_t_copyDistance w_p1_height (upd a_t_rows (x4 : Int32).toNatClampNeg (vp_nar .byte ((x3 : Int32).toInt8.toInt32))) p1_width a_p1_points) H := hP
  have hD : va_D A (ws_PngWriter_filterRow h_t h_t_rows h_t_lastPlaces h_t_placesBefore h_p1 h_p1_points k_t_rows k_p1_points w_t_total w_t_copyLength w_t_copyDistance w_p1_height (upd a_t_rows (x4 : Int32).toNatClampNeg (vp_nar .byte ((x3 : Int32).toInt8.toInt32))) p1_width a_p1_points) := hD
  refine lv_iconst (v := 0) hx hb d_PngWriter_filterRow_12 (by decide) ?_
  refine lv_istore (lv' := [(6, .int 0), (5, .int 0), (0, .ref h_t), (1, .ref h_p1), (2, .int x2), (3, .int x3), (4, .int x4)]) hx hb d_PngWriter_filterRow_13 hl (by decide) rfl (fun ls hl => ?_)
  obtain ⟨r_15, hg_15, h⟩ := dc_bindE h
  refine w_PngWriter_filterRow_L15 C ?_ K _ _ _ hg_15 H locs ls hP hD hS (lv_sub hl [2, 3, 4, 5, 6, 1, 0] rfl)
  · refine fun v_223 hr => ?_
    subst r_15
    refine fun H locs ls hP hD hS hl => ?_
    refine lv_iload hx hb d_PngWriter_filterRow_223 (lv_at hl 2 rfl) ?_
    cases h
    exact dc_iret C (v := v_223.2) (u := v_223.1) (w1 := w1_PngWriter_filterRow h_t h_t_rows h_t_lastPlaces h_t_placesBefore h_p1 h_p1_points k_t_rows k_p1_points w_t_total w_t_copyLength w_t_copyDistance w_p1_height p1_width a_p1_points) hP hD hS d_PngWriter_filterRow_225
def ws_PngWriter_bestFilter (h_t : Nat) (h_t_rows : Nat) (h_t_lastPlaces : Nat) (h_t_placesBefore : Nat) (h_p1 : Nat) (h_p1_points : Nat) (k_t_rows : ClassId) (k_p1_points : ClassId) (w_t_total : Int32) (w_t_copyLength : Int32) (w_t_copyDistance : Int32) (w_p1_height : Int32) (a_t_rows : Nat → Int32) (p1_width : Int32) (a_p1_points : Nat → Int32) : va_W := [(h_t, .inr (10, [.ref h_t_rows, .ref h_t_lastPlaces, .ref h_t_placesBefore, .int w_t_total, .int w_t_copyLength, .int w_t_copyDistance])), (h_t_rows, .inl (k_t_rows, 147456, .inl a_t_rows)), (h_p1, .inr (8, [.ref h_p1_points, .int p1_width, .int w_p1_height])), (h_p1_points, .inl (k_p1_points, 16384, .inl a_p1_points))]
abbrev w1_PngWriter_bestFilter (h_t : Nat) (h_t_rows : Nat) (h_t_lastPlaces : Nat) (h_t_placesBefore : Nat) (h_p1 : Nat) (h_p1_points : Nat) (k_t_rows : ClassId) (k_p1_points : ClassId) (w_t_total : Int32) (w_t_copyLength : Int32) (w_t_copyDistance : Int32) (w_p1_height : Int32) (p1_width : Int32) (a_p1_points : Nat → Int32) (u : (Nat → Int32)) : va_W := ws_PngWriter_bestFilter h_t h_t_rows h_t_lastPlaces h_t_placesBefore h_p1 h_p1_points k_t_rows k_p1_points w_t_total w_t_copyLength w_t_copyDistance w_p1_height u p1_width a_p1_points
abbrev q_PngWriter_bestFilter (below : List Frame) (args : Array Value) (s : State) (dC : Nat → ClassId) (dI : Nat → Nat → Nat) (A : Nat → Prop) (h_t : Nat) (h_t_rows : Nat) (h_t_lastPlaces : Nat) (h_t_placesBefore : Nat) (h_p1 : Nat) (h_p1_points : Nat) (k_t_rows : ClassId) (k_p1_points : ClassId) (w_t_total : Int32) (w_t_copyLength : Int32) (w_t_copyDistance : Int32) (w_p1_height : Int32) (p1_width : Int32) (a_p1_points : Nat → Int32) (o : Int32 × ((Nat → Int32))) : State → Prop := XQ below (vx_Q vl_i (.inl o) (fun u t => vx_B dC dI [(k_t_rows, .byte), (k_p1_points, .int)] A (w1_PngWriter_bestFilter h_t h_t_rows h_t_lastPlaces h_t_placesBefore h_p1 h_p1_points k_t_rows k_p1_points w_t_total w_t_copyLength w_t_copyDistance w_p1_height p1_width a_p1_points u) t) A) args s 0 0 A
theorem d_PngWriter_bestFilter_0 : decode b_PngWriter_bestFilter 0 = .ok (.iconst 0, 1) := by decide +kernel
theorem d_PngWriter_bestFilter_1 : decode b_PngWriter_bestFilter 1 = .ok (.istore 4, 2) := by decide +kernel
theorem d_PngWriter_bestFilter_3 : decode b_PngWriter_bestFilter 3 = .ok (.aload_n 0, 1) := by decide +kernel
theorem d_PngWriter_bestFilter_4 : decode b_PngWriter_bestFilter 4 = .ok (.aload_n 1, 1) := by decide +kernel
theorem d_PngWriter_bestFilter_5 : decode b_PngWriter_bestFilter 5 = .ok (.iload_n 2, 1) := by decide +kernel
theorem d_PngWriter_bestFilter_6 : decode b_PngWriter_bestFilter 6 = .ok (.iconst 0, 1) := by decide +kernel
theorem d_PngWriter_bestFilter_7 : decode b_PngWriter_bestFilter 7 = .ok (.iload_n 3, 1) := by decide +kernel
theorem d_PngWriter_bestFilter_8 : decode b_PngWriter_bestFilter 8 = .ok (.invokevirtual 95, 3) := by decide +kernel
theorem d_PngWriter_bestFilter_11 : decode b_PngWriter_bestFilter 11 = .ok (.istore 5, 2) := by decide +kernel
theorem d_PngWriter_bestFilter_13 : decode b_PngWriter_bestFilter 13 = .ok (.iconst 1, 1) := by decide +kernel
theorem d_PngWriter_bestFilter_14 : decode b_PngWriter_bestFilter 14 = .ok (.istore 6, 2) := by decide +kernel
theorem d_PngWriter_bestFilter_16 : decode b_PngWriter_bestFilter 16 = .ok (.iload 6, 2) := by decide +kernel
theorem d_PngWriter_bestFilter_18 : decode b_PngWriter_bestFilter 18 = .ok (.iconst 5, 1) := by decide +kernel
theorem d_PngWriter_bestFilter_19 : decode b_PngWriter_bestFilter 19 = .ok (.if_icmp .ge 35, 3) := by decide +kernel
theorem d_PngWriter_bestFilter_22 : decode b_PngWriter_bestFilter 22 = .ok (.aload_n 0, 1) := by decide +kernel
theorem d_PngWriter_bestFilter_23 : decode b_PngWriter_bestFilter 23 = .ok (.aload_n 1, 1) := by decide +kernel
theorem d_PngWriter_bestFilter_24 : decode b_PngWriter_bestFilter 24 = .ok (.iload_n 2, 1) := by decide +kernel
theorem d_PngWriter_bestFilter_25 : decode b_PngWriter_bestFilter 25 = .ok (.iload 6, 2) := by decide +kernel
theorem d_PngWriter_bestFilter_27 : decode b_PngWriter_bestFilter 27 = .ok (.iload_n 3, 1) := by decide +kernel
theorem d_PngWriter_bestFilter_28 : decode b_PngWriter_bestFilter 28 = .ok (.invokevirtual 95, 3) := by decide +kernel
theorem d_PngWriter_bestFilter_31 : decode b_PngWriter_bestFilter 31 = .ok (.istore 7, 2) := by decide +kernel
theorem d_PngWriter_bestFilter_33 : decode b_PngWriter_bestFilter 33 = .ok (.iload 7, 2) := by decide +kernel
theorem d_PngWriter_bestFilter_35 : decode b_PngWriter_bestFilter 35 = .ok (.iload 5, 2) := by decide +kernel
theorem d_PngWriter_bestFilter_37 : decode b_PngWriter_bestFilter 37 = .ok (.if_icmp .ge 11, 3) := by decide +kernel
theorem d_PngWriter_bestFilter_40 : decode b_PngWriter_bestFilter 40 = .ok (.iload 7, 2) := by decide +kernel
theorem d_PngWriter_bestFilter_42 : decode b_PngWriter_bestFilter 42 = .ok (.istore 5, 2) := by decide +kernel
theorem d_PngWriter_bestFilter_44 : decode b_PngWriter_bestFilter 44 = .ok (.iload 6, 2) := by decide +kernel
theorem d_PngWriter_bestFilter_46 : decode b_PngWriter_bestFilter 46 = .ok (.istore 4, 2) := by decide +kernel
theorem d_PngWriter_bestFilter_48 : decode b_PngWriter_bestFilter 48 = .ok (.iinc 6 1, 3) := by decide +kernel
theorem d_PngWriter_bestFilter_51 : decode b_PngWriter_bestFilter 51 = .ok (.goto (-35), 3) := by decide +kernel
theorem d_PngWriter_bestFilter_54 : decode b_PngWriter_bestFilter 54 = .ok (.iload 4, 2) := by decide +kernel
theorem d_PngWriter_bestFilter_56 : decode b_PngWriter_bestFilter 56 = .ok (.ireturn, 1) := by decide +kernel
def at_PngWriter_bestFilter_16 (p : Program) (l : Launch) (e : Env) (R : Room) (s : State) (m : MethodId) (args : Array Value) (below : List Frame) (meth : Method) (c : Code) (dC : Nat → ClassId) (dI : Nat → Nat → Nat) (A : Nat → Prop) (Q : State → Prop) (h_t : Nat) (h_t_rows : Nat) (h_t_lastPlaces : Nat) (h_t_placesBefore : Nat) (h_p1 : Nat) (h_p1_points : Nat) (k_t_rows : ClassId) (k_p1_points : ClassId) (w_t_total : Int32) (w_t_copyLength : Int32) (w_t_copyDistance : Int32) (w_p1_height : Int32) (a_t_rows : Nat → Int32) (p1_width : Int32) (a_p1_points : Nat → Int32) (x2 : Int32) (x3 : Int32) (x4 : Int32) (x5 : Int32) (x6 : Int32) : Prop := ∀ (H : Heap) (locs : List Loc) (ls : Array Slot), va_P (dC, dI) classes (ws_PngWriter_bestFilter h_t h_t_rows h_t_lastPlaces h_t_placesBefore h_p1 h_p1_points k_t_rows k_p1_points w_t_total w_t_copyLength w_t_copyDistance w_p1_height a_t_rows p1_width a_p1_points) H → va_D A (ws_PngWriter_bestFilter h_t h_t_rows h_t_lastPlaces h_t_placesBefore h_p1 h_p1_points k_t_rows k_p1_points w_t_total w_t_copyLength w_t_copyDistance w_p1_height a_t_rows p1_width a_p1_points) → va_S A s.heap H locs → lv_has ls 8 [(0, .ref h_t), (1, .ref h_p1), (2, .int x2), (3, .int x3), (4, .int x4), (5, .int x5), (6, .int x6)] → W p l e R s m args below meth c H locs 0 0 Q (F0 m 16 ls [])
def at_PngWriter_bestFilter_48 (p : Program) (l : Launch) (e : Env) (R : Room) (s : State) (m : MethodId) (args : Array Value) (below : List Frame) (meth : Method) (c : Code) (dC : Nat → ClassId) (dI : Nat → Nat → Nat) (A : Nat → Prop) (Q : State → Prop) (h_t : Nat) (h_t_rows : Nat) (h_t_lastPlaces : Nat) (h_t_placesBefore : Nat) (h_p1 : Nat) (h_p1_points : Nat) (k_t_rows : ClassId) (k_p1_points : ClassId) (w_t_total : Int32) (w_t_copyLength : Int32) (w_t_copyDistance : Int32) (w_p1_height : Int32) (a_t_rows : Nat → Int32) (p1_width : Int32) (a_p1_points : Nat → Int32) (x2 : Int32) (x3 : Int32) (x4 : Int32) (x5 : Int32) (x6 : Int32) : Prop := ∀ (H : Heap) (locs : List Loc) (ls : Array Slot), va_P (dC, dI) classes (ws_PngWriter_bestFilter h_t h_t_rows h_t_lastPlaces h_t_placesBefore h_p1 h_p1_points k_t_rows k_p1_points w_t_total w_t_copyLength w_t_copyDistance w_p1_height a_t_rows p1_width a_p1_points) H → va_D A (ws_PngWriter_bestFilter h_t h_t_rows h_t_lastPlaces h_t_placesBefore h_p1 h_p1_points k_t_rows k_p1_points w_t_total w_t_copyLength w_t_copyDistance w_p1_height a_t_rows p1_width a_p1_points) → va_S A s.heap H locs → lv_has ls 8 [(0, .ref h_t), (1, .ref h_p1), (2, .int x2), (3, .int x3), (4, .int x4), (5, .int x5), (6, .int x6)] → W p l e R s m args below meth c H locs 0 0 Q (F0 m 48 ls [])
def at_PngWriter_bestFilter_54 (p : Program) (l : Launch) (e : Env) (R : Room) (s : State) (m : MethodId) (args : Array Value) (below : List Frame) (meth : Method) (c : Code) (dC : Nat → ClassId) (dI : Nat → Nat → Nat) (A : Nat → Prop) (Q : State → Prop) (h_t : Nat) (h_t_rows : Nat) (h_t_lastPlaces : Nat) (h_t_placesBefore : Nat) (h_p1 : Nat) (h_p1_points : Nat) (k_t_rows : ClassId) (k_p1_points : ClassId) (w_t_total : Int32) (w_t_copyLength : Int32) (w_t_copyDistance : Int32) (w_p1_height : Int32) (a_t_rows : Nat → Int32) (p1_width : Int32) (a_p1_points : Nat → Int32) (x4 : Int32) : Prop := ∀ (H : Heap) (locs : List Loc) (ls : Array Slot), va_P (dC, dI) classes (ws_PngWriter_bestFilter h_t h_t_rows h_t_lastPlaces h_t_placesBefore h_p1 h_p1_points k_t_rows k_p1_points w_t_total w_t_copyLength w_t_copyDistance w_p1_height a_t_rows p1_width a_p1_points) H → va_D A (ws_PngWriter_bestFilter h_t h_t_rows h_t_lastPlaces h_t_placesBefore h_p1 h_p1_points k_t_rows k_p1_points w_t_total w_t_copyLength w_t_copyDistance w_p1_height a_t_rows p1_width a_p1_points) → va_S A s.heap H locs → lv_has ls 8 [(0, .ref h_t), (1, .ref h_p1), (4, .int x4)] → W p l e R s m args below meth c H locs 0 0 Q (F0 m 54 ls [])
def f_PngWriter_bestFilter_48 (K : Nat)  (rec : (Nat → Int32) → Int32 → Int32 → Int32 → Option ((Nat → Int32) × Int32)) (a_t_rows : Nat → Int32) (p1_width : Int32) (a_p1_points : Nat → Int32) (x2 : Int32) (x3 : Int32) (x4 : Int32) (x5 : Int32) (x6 : Int32) : Option ((Nat → Int32) × Int32) := rec a_t_rows x4 x5 (x6 + 1)
def f_PngWriter_bestFilter_16 (K : Nat)  (rec : (Nat → Int32) → Int32 → Int32 → Int32 → Option ((Nat → Int32) × Int32)) (a_t_rows : Nat → Int32) (p1_width : Int32) (a_p1_points : Nat → Int32) (x2 : Int32) (x3 : Int32) (x4 : Int32) (x5 : Int32) (x6 : Int32) : Option ((Nat → Int32) × Int32) := (if 5 ≤ x6 then (some (a_t_rows, x4)) else (dc_bind (f_PngWriter_filterRow K x2 x6 x3 a_t_rows p1_width a_p1_points) (fun r_28 => (if x5 ≤ r_28.1 then (f_PngWriter_bestFilter_48 K rec r_28.2 p1_width a_p1_points x2 x3 x4 x5 x6) else (f_PngWriter_bestFilter_48 K rec r_28.2 p1_width a_p1_points x2 x3 x6 r_28.1 x6)))))
def f_PngWriter_bestFilter_L16 (K : Nat)  (p1_width : Int32) (a_p1_points : Nat → Int32) (x2 : Int32) (x3 : Int32) : Nat → (Nat → Int32) → Int32 → Int32 → Int32 → Option ((Nat → Int32) × Int32)
  | 0, _, _, _, _ => none
  | n + 1, a_t_rows, x4, x5, x6 => f_PngWriter_bestFilter_16 K  (f_PngWriter_bestFilter_L16 K  p1_width a_p1_points x2 x3 n) a_t_rows p1_width a_p1_points x2 x3 x4 x5 x6
def f_PngWriter_bestFilter (K : Nat)  (x2 : Int32) (x3 : Int32) (a_t_rows : Nat → Int32) (p1_width : Int32) (a_p1_points : Nat → Int32) : Option (Int32 × ((Nat → Int32))) := dc_bind (f_PngWriter_filterRow K x2 0 x3 a_t_rows p1_width a_p1_points) (fun r_8 => dc_bind (f_PngWriter_bestFilter_L16 K p1_width a_p1_points x2 x3 K r_8.2 0 r_8.1 1) (fun v_54 => some (v_54.2, v_54.1)))
set_option maxHeartbeats 400000 in
set_option maxRecDepth 100000 in
theorem w_PngWriter_bestFilter_48 {p : Program} {l : Launch} {e : Env} {R : Room} {s : State} {m : MethodId} {args : Array Value} {below : List Frame} {meth : Method} {c : Code} {dC : Nat → ClassId} {dI : Nat → Nat → Nat} {A : Nat → Prop} {Q : State → Prop} {h_t : Nat} {h_t_rows : Nat} {h_t_lastPlaces : Nat} {h_t_placesBefore : Nat} {h_p1 : Nat} {h_p1_points : Nat} {k_t_rows : ClassId} {k_p1_points : ClassId} {w_t_total : Int32} {w_t_copyLength : Int32} {w_t_copyDistance : Int32} {w_p1_height : Int32} (C : cx p l e R s m args meth c dC dI A R_PngWriter b_PngWriter_bestFilter 8 (some .int) 4 123 [(k_t_rows, .byte), (k_p1_points, .int)]) {K : Nat} {out : (Nat → Int32) × Int32} {a_t_rows : Nat → Int32} {p1_width : Int32} {a_p1_points : Nat → Int32} {x2 : Int32} {x3 : Int32} {x4 : Int32} {x5 : Int32} {x6 : Int32} {rec : (Nat → Int32) → Int32 → Int32 → Int32 → Option ((Nat → Int32) × Int32)}  (hex0 : ∀ v : (Nat → Int32) × Int32, out = v → at_PngWriter_bestFilter_54 p l e R s m args below meth c dC dI A Q h_t h_t_rows h_t_lastPlaces h_t_placesBefore h_p1 h_p1_points k_t_rows k_p1_points w_t_total w_t_copyLength w_t_copyDistance w_p1_height v.1 p1_width a_p1_points v.2) (hrec : ∀ (a_t_rows : Nat → Int32) (x4 : Int32) (x5 : Int32) (x6 : Int32), rec a_t_rows x4 x5 x6 = some out → at_PngWriter_bestFilter_16 p l e R s m args below meth c dC dI A Q h_t h_t_rows h_t_lastPlaces h_t_placesBefore h_p1 h_p1_points k_t_rows k_p1_points w_t_total w_t_copyLength w_t_copyDistance w_p1_height a_t_rows p1_width a_p1_points x2 x3 x4 x5 x6) (h : f_PngWriter_bestFilter_48 K  rec a_t_rows p1_width a_p1_points x2 x3 x4 x5 x6 = some out) : at_PngWriter_bestFilter_48 p l e R s m args below meth c dC dI A Q h_t h_t_rows h_t_lastPlaces h_t_placesBefore h_p1 h_p1_points k_t_rows k_p1_points w_t_total w_t_copyLength w_t_copyDistance w_p1_height a_t_rows p1_width a_p1_points x2 x3 x4 x5 x6 := by
  refine fun H locs ls hP hD hS hl => ?_
  obtain ⟨hx, hb, hr, hml, hown, hts, hlk, hK, hA, hV, htr, hex, hF, hL, hfl⟩ := id C
  unfold f_PngWriter_bestFilter_48 at h
  refine lv_iinc (v := (x6 + 1)) (lv' := [(6, .int (x6 + 1)), (0, .ref h_t), (1, .ref h_p1), (2, .int x2), (3, .int x3), (4, .int x4), (5, .int x5)]) hx hb d_PngWriter_bestFilter_48 hl (k := 6) rfl rfl (by decide) rfl (fun ls hl => ?_)
  refine lv_goto (tgt := 16) hx hb d_PngWriter_bestFilter_51 (by decide) ?_
  exact hrec _ _ _ _ h H locs ls hP hD hS (lv_sub hl [1, 2, 3, 4, 5, 6, 0] rfl)
set_option maxHeartbeats 400000 in
set_option maxRecDepth 100000 in
theorem w_PngWriter_bestFilter_16 {p : Program} {l : Launch} {e : Env} {R : Room} {s : State} {m : MethodId} {args : Array Value} {below : List Frame} {meth : Method} {c : Code} {dC : Nat → ClassId} {dI : Nat → Nat → Nat} {A : Nat → Prop} {Q : State → Prop} {h_t : Nat} {h_t_rows : Nat} {h_t_lastPlaces : Nat} {h_t_placesBefore : Nat} {h_p1 : Nat} {h_p1_points : Nat} {k_t_rows : ClassId} {k_p1_points : ClassId} {w_t_total : Int32} {w_t_copyLength : Int32} {w_t_copyDistance : Int32} {w_p1_height : Int32} (C : cx p l e R s m args meth c dC dI A R_PngWriter b_PngWriter_bestFilter 8 (some .int) 4 123 [(k_t_rows, .byte), (k_p1_points, .int)]) {K : Nat} {out : (Nat → Int32) × Int32} {a_t_rows : Nat → Int32} {p1_width : Int32} {a_p1_points : Nat → Int32} {x2 : Int32} {x3 : Int32} {x4 : Int32} {x5 : Int32} {x6 : Int32} {rec : (Nat → Int32) → Int32 → Int32 → Int32 → Option ((Nat → Int32) × Int32)}  (hex0 : ∀ v : (Nat → Int32) × Int32, out = v → at_PngWriter_bestFilter_54 p l e R s m args below meth c dC dI A Q h_t h_t_rows h_t_lastPlaces h_t_placesBefore h_p1 h_p1_points k_t_rows k_p1_points w_t_total w_t_copyLength w_t_copyDistance w_p1_height v.1 p1_width a_p1_points v.2) (hrec : ∀ (a_t_rows : Nat → Int32) (x4 : Int32) (x5 : Int32) (x6 : Int32), rec a_t_rows x4 x5 x6 = some out → at_PngWriter_bestFilter_16 p l e R s m args below meth c dC dI A Q h_t h_t_rows h_t_lastPlaces h_t_placesBefore h_p1 h_p1_points k_t_rows k_p1_points w_t_total w_t_copyLength w_t_copyDistance w_p1_height a_t_rows p1_width a_p1_points x2 x3 x4 x5 x6) (h : f_PngWriter_bestFilter_16 K  rec a_t_rows p1_width a_p1_points x2 x3 x4 x5 x6 = some out) : at_PngWriter_bestFilter_16 p l e R s m args below meth c dC dI A Q h_t h_t_rows h_t_lastPlaces h_t_placesBefore h_p1 h_p1_points k_t_rows k_p1_points w_t_total w_t_copyLength w_t_copyDistance w_p1_height a_t_rows p1_width a_p1_points x2 x3 x4 x5 x6 := by
  refine fun H locs ls hP hD hS hl => ?_
  obtain ⟨hx, hb, hr, hml, hown, hts, hlk, hK, hA, hV, htr, hex, hF, hL, hfl⟩ := id C
  unfold f_PngWriter_bestFilter_16 at h
  refine lv_iload hx hb d_PngWriter_bestFilter_16 (lv_at hl 6 rfl) ?_
  refine lv_iconst (v := 5) hx hb d_PngWriter_bestFilter_18 (by decide) ?_
  refine lv_icmp_ge (tgt := 54) hx hb d_PngWriter_bestFilter_19 (by decide) (fun c_19 => ?_) (fun c_19 => ?_)
  · have h := dc_t c_19 h
    cases h
    exact hex0 _ rfl H locs ls hP hD hS (lv_sub hl [0, 1, 4] rfl)
  have h := dc_f c_19 h
  refine lv_aload_n hx hb d_PngWriter_bestFilter_22 rfl (lv_at hl 0 rfl) ?_
  refine lv_aload_n hx hb d_PngWriter_bestFilter_23 rfl (lv_at hl 1 rfl) ?_
  refine lv_iload_n hx hb d_PngWriter_bestFilter_24 rfl (lv_at hl 2 rfl) ?_
  refine lv_iload hx hb d_PngWriter_bestFilter_25 (lv_at hl 6 rfl) ?_
  refine lv_iload_n hx hb d_PngWriter_bestFilter_27 rfl (lv_at hl 3 rfl) ?_
  obtain ⟨r_28, hg_28, h⟩ := dc_bindE h
  refine dc_callV (y := y_PngWriter_filterRow) (bytes := b_PngWriter_filterRow) (maxL := 16) (ret' := (some .int)) (fr' := 3) (lo' := 88) (n := 4) (val := vl_i) (o := r_28) (tysc := [(k_t_rows, .byte), (k_p1_points, .int)]) (As := [.ref h_p1, .int x2, .int x6, .int x3]) (rest := []) (wc := (ws_PngWriter_filterRow h_t h_t_rows h_t_lastPlaces h_t_placesBefore h_p1 h_p1_points k_t_rows k_p1_points w_t_total w_t_copyLength w_t_copyDistance w_p1_height a_t_rows p1_width a_p1_points)) (wr := []) (w1 := w1_PngWriter_filterRow h_t h_t_rows h_t_lastPlaces h_t_placesBefore h_p1 h_p1_points k_t_rows k_p1_points w_t_total w_t_copyLength w_t_copyDistance w_p1_height p1_width a_p1_points) C cw_PngWriter_filterRow (lg_in1 (List.mem_of_getElem? (i := 9) rfl) rfl) (lg_in6 (List.mem_of_getElem? (i := 176) rfl) rfl) (lg_in6 (List.mem_of_getElem? (i := 178) rfl) rfl) (lg_memS (List.mem_of_getElem? (i := 55) rfl) rfl) (ci := 10) (cq := (R_PngWriter, F_PngWriter, 6)) (q0 := 0) rfl rfl rfl (c_PngWriter_filterRow hfl dC dI h_t h_t_rows h_t_lastPlaces h_t_placesBefore h_p1 h_p1_points k_t_rows k_p1_points w_t_total w_t_copyLength w_t_copyDistance w_p1_height H.size K x2 x6 x3 a_t_rows p1_width a_p1_points hg_28) (by decide +kernel) ⟨Nat.le_of_ble_eq_true rfl, Nat.le_of_ble_eq_true rfl⟩ rfl rfl (Nat.le_of_ble_eq_true rfl) d_PngWriter_bestFilter_28 hP hD hS hl.1 [0, 1, 2, 3] [] [0, 1] rfl rfl rfl rfl (by decide) rfl (fun H locs hP hD hS => ?_)
  have hP : va_P (dC, dI) classes (ws_PngWriter_bestFilter h_t h_t_rows h_t_lastPlaces h_t_placesBefore h_p1 h_p1_points k_t_rows k_p1_points w_t_total w_t_copyLength w_t_copyDistance w_p1_height r_28.2 p1_width a_p1_points) H := hP.sub [0, 1, 2, 3] rfl
  have hD : va_D A (ws_PngWriter_bestFilter h_t h_t_rows h_t_lastPlaces h_t_placesBefore h_p1 h_p1_points k_t_rows k_p1_points w_t_total w_t_copyLength w_t_copyDistance w_p1_height r_28.2 p1_width a_p1_points) := hD.sub [0, 1, 2, 3] (by decide) rfl
  show W p l e R s m _ below meth c H locs 0 0 _ (F0 m 31 ls [.int r_28.1])
  refine lv_istore (lv' := [(7, .int r_28.1), (0, .ref h_t), (1, .ref h_p1), (2, .int x2), (3, .int x3), (4, .int x4), (5, .int x5), (6, .int x6)]) hx hb d_PngWriter_bestFilter_31 hl (by decide) rfl (fun ls hl => ?_)
  refine lv_iload hx hb d_PngWriter_bestFilter_33 (lv_at hl 0 rfl) ?_
  refine lv_iload hx hb d_PngWriter_bestFilter_35 (lv_at hl 6 rfl) ?_
  refine lv_icmp_ge (tgt := 48) hx hb d_PngWriter_bestFilter_37 (by decide) (fun c_37 => ?_) (fun c_37 => ?_)
  · have h := dc_t c_37 h
    exact w_PngWriter_bestFilter_48 C hex0 hrec h H locs ls hP hD hS (lv_sub hl [1, 2, 3, 4, 5, 6, 7] rfl)
  have h := dc_f c_37 h
  refine lv_iload hx hb d_PngWriter_bestFilter_40 (lv_at hl 0 rfl) ?_
  refine lv_istore (lv' := [(5, .int r_28.1), (7, .int r_28.1), (0, .ref h_t), (1, .ref h_p1), (2, .int x2), (3, .int x3), (4, .int x4), (6, .int x6)]) hx hb d_PngWriter_bestFilter_42 hl (by decide) rfl (fun ls hl => ?_)
  refine lv_iload hx hb d_PngWriter_bestFilter_44 (lv_at hl 7 rfl) ?_
  refine lv_istore (lv' := [(4, .int x6), (5, .int r_28.1), (7, .int r_28.1), (0, .ref h_t), (1, .ref h_p1), (2, .int x2), (3, .int x3), (6, .int x6)]) hx hb d_PngWriter_bestFilter_46 hl (by decide) rfl (fun ls hl => ?_)
  exact w_PngWriter_bestFilter_48 C hex0 hrec h H locs ls hP hD hS (lv_sub hl [3, 4, 5, 6, 0, 1, 7] rfl)
set_option maxHeartbeats 400000 in
set_option maxRecDepth 100000 in
theorem w_PngWriter_bestFilter_L16 {p : Program} {l : Launch} {e : Env} {R : Room} {s : State} {m : MethodId} {args : Array Value} {below : List Frame} {meth : Method} {c : Code} {dC : Nat → ClassId} {dI : Nat → Nat → Nat} {A : Nat → Prop} {Q : State → Prop} {h_t : Nat} {h_t_rows : Nat} {h_t_lastPlaces : Nat} {h_t_placesBefore : Nat} {h_p1 : Nat} {h_p1_points : Nat} {k_t_rows : ClassId} {k_p1_points : ClassId} {w_t_total : Int32} {w_t_copyLength : Int32} {w_t_copyDistance : Int32} {w_p1_height : Int32} (C : cx p l e R s m args meth c dC dI A R_PngWriter b_PngWriter_bestFilter 8 (some .int) 4 123 [(k_t_rows, .byte), (k_p1_points, .int)]) {K : Nat} {out : (Nat → Int32) × Int32} {p1_width : Int32} {a_p1_points : Nat → Int32} {x2 : Int32} {x3 : Int32} (hex0 : ∀ v : (Nat → Int32) × Int32, out = v → at_PngWriter_bestFilter_54 p l e R s m args below meth c dC dI A Q h_t h_t_rows h_t_lastPlaces h_t_placesBefore h_p1 h_p1_points k_t_rows k_p1_points w_t_total w_t_copyLength w_t_copyDistance w_p1_height v.1 p1_width a_p1_points v.2) : ∀ (n : Nat) (a_t_rows : Nat → Int32) (x4 : Int32) (x5 : Int32) (x6 : Int32), f_PngWriter_bestFilter_L16 K  p1_width a_p1_points x2 x3 n a_t_rows x4 x5 x6 = some out → at_PngWriter_bestFilter_16 p l e R s m args below meth c dC dI A Q h_t h_t_rows h_t_lastPlaces h_t_placesBefore h_p1 h_p1_points k_t_rows k_p1_points w_t_total w_t_copyLength w_t_copyDistance w_p1_height a_t_rows p1_width a_p1_points x2 x3 x4 x5 x6 := by
  intro n
  induction n with
  | zero =>
    intro a_t_rows x4 x5 x6 h
    exact nomatch (show (none : Option ((Nat → Int32) × Int32)) = some out from h)
  | succ n ih =>
    intro a_t_rows x4 x5 x6 h
    exact w_PngWriter_bestFilter_16 C hex0 ih h
set_option maxHeartbeats 400000 in
set_option maxRecDepth 100000 in
theorem c_PngWriter_bestFilter {l : Launch} (hfl : l.flags = flags0) (dC : Nat → ClassId) (dI : Nat → Nat → Nat) (h_t : Nat) (h_t_rows : Nat) (h_t_lastPlaces : Nat) (h_t_placesBefore : Nat) (h_p1 : Nat) (h_p1_points : Nat) (k_t_rows : ClassId) (k_p1_points : ClassId) (w_t_total : Int32) (w_t_copyLength : Int32) (w_t_copyDistance : Int32) (w_p1_height : Int32) (sz : Nat) (K : Nat) (x2 : Int32) (x3 : Int32) (a_t_rows : Nat → Int32) (p1_width : Int32) (a_p1_points : Nat → Int32) {o : Int32 × ((Nat → Int32))} (h : f_PngWriter_bestFilter K x2 x3 a_t_rows p1_width a_p1_points = some o) : MetX l y_PngWriter_bestFilter (Cond.code y_PngWriter_bestFilter b_PngWriter_bestFilter 8 (some .int) :: lw_g) (rmx 4 123 0 0) (vx_Pre dC dI [(k_t_rows, .byte), (k_p1_points, .int)] [.ref h_t, .ref h_p1, .int x2, .int x3] sz (ws_PngWriter_bestFilter h_t h_t_rows h_t_lastPlaces h_t_placesBefore h_p1 h_p1_points k_t_rows k_p1_points w_t_total w_t_copyLength w_t_copyDistance w_p1_height a_t_rows p1_width a_p1_points)) (vx_Q vl_i (.inl o) (fun u t => vx_B dC dI [(k_t_rows, .byte), (k_p1_points, .int)] (va_A (ws_PngWriter_bestFilter h_t h_t_rows h_t_lastPlaces h_t_placesBefore h_p1 h_p1_points k_t_rows k_p1_points w_t_total w_t_copyLength w_t_copyDistance w_p1_height a_t_rows p1_width a_p1_points) sz) (w1_PngWriter_bestFilter h_t h_t_rows h_t_lastPlaces h_t_placesBefore h_p1 h_p1_points k_t_rows k_p1_points w_t_total w_t_copyLength w_t_copyDistance w_p1_height p1_width a_p1_points u) t) (va_A (ws_PngWriter_bestFilter h_t h_t_rows h_t_lastPlaces h_t_placesBefore h_p1 h_p1_points k_t_rows k_p1_points w_t_total w_t_copyLength w_t_copyDistance w_p1_height a_t_rows p1_width a_p1_points) sz)) 0 0 (va_A (ws_PngWriter_bestFilter h_t h_t_rows h_t_lastPlaces h_t_placesBefore h_p1 h_p1_points k_t_rows k_p1_points w_t_total w_t_copyLength w_t_copyDistance w_p1_height a_t_rows p1_width a_p1_points) sz) := by
  refine MetX.ofW (cc := b_PngWriter_bestFilter) (maxL := 8) (ret := (some .int)) (by decide +kernel) rfl ?_
  intro p e s m args below meth c s₁ B hml hv
  obtain ⟨rfl, rfl, C, hP, hD, hS⟩ := dc_entry hfl B hml hv
  have hl := lv_entry ([.ref h_t, .ref h_p1, .int x2, .int x3]) (n := 8) (Nat.le_of_ble_eq_true rfl)
  rw [lg_entry_eq]
  generalize (lg_sl ([.ref h_t, .ref h_p1, .int x2, .int x3]) ++ List.replicate (8 - (lg_sl ([.ref h_t, .ref h_p1, .int x2, .int x3])).length) Slot.unset).toArray = ls at hl ⊢
  have hl : lv_has ls 8 [(0, .ref h_t), (1, .ref h_p1), (2, .int x2), (3, .int x3)] := hl
  generalize hAe : va_A (ws_PngWriter_bestFilter h_t h_t_rows h_t_lastPlaces h_t_placesBefore h_p1 h_p1_points k_t_rows k_p1_points w_t_total w_t_copyLength w_t_copyDistance w_p1_height a_t_rows p1_width a_p1_points) s.heap.size = A at C hD hS ⊢
  generalize (headSpec (Cond.code y_PngWriter_bestFilter b_PngWriter_bestFilter 8 (some .int) :: lw_g) (rmx 4 123 0 0)).room = R at C ⊢
  have C : cx p l e R s m _ meth c dC dI A R_PngWriter b_PngWriter_bestFilter 8 (some .int) 4 123 [(k_t_rows, .byte), (k_p1_points, .int)] := C
  obtain ⟨hx, hb, hr, hml, hown, hts, hlk, hK, hA, hV, htr, hex, hF, hL, hfl⟩ := id C
  unfold f_PngWriter_bestFilter at h
  revert hP hS
  generalize hH : s.heap = H
  generalize hLo : ([] : List Loc) = locs
  intro hP hS
  have hS : va_S A s.heap H locs := by rw [hH]; exact hS
  refine lv_iconst (v := 0) hx hb d_PngWriter_bestFilter_0 (by decide) ?_
  refine lv_istore (lv' := [(4, .int 0), (0, .ref h_t), (1, .ref h_p1), (2, .int x2), (3, .int x3)]) hx hb d_PngWriter_bestFilter_1 hl (by decide) rfl (fun ls hl => ?_)
  refine lv_aload_n hx hb d_PngWriter_bestFilter_3 rfl (lv_at hl 1 rfl) ?_
  refine lv_aload_n hx hb d_PngWriter_bestFilter_4 rfl (lv_at hl 2 rfl) ?_
  refine lv_iload_n hx hb d_PngWriter_bestFilter_5 rfl (lv_at hl 3 rfl) ?_
  refine lv_iconst (v := 0) hx hb d_PngWriter_bestFilter_6 (by decide) ?_
  refine lv_iload_n hx hb d_PngWriter_bestFilter_7 rfl (lv_at hl 4 rfl) ?_
  obtain ⟨r_8, hg_8, h⟩ := dc_bindE h
  refine dc_callV (y := y_PngWriter_filterRow) (bytes := b_PngWriter_filterRow) (maxL := 16) (ret' := (some .int)) (fr' := 3) (lo' := 88) (n := 4) (val := vl_i) (o := r_8) (tysc := [(k_t_rows, .byte), (k_p1_points, .int)]) (As := [.ref h_p1, .int x2, .int 0, .int x3]) (rest := []) (wc := (ws_PngWriter_filterRow h_t h_t_rows h_t_lastPlaces h_t_placesBefore h_p1 h_p1_points k_t_rows k_p1_points w_t_total w_t_copyLength w_t_copyDistance w_p1_height a_t_rows p1_width a_p1_points)) (wr := []) (w1 := w1_PngWriter_filterRow h_t h_t_rows h_t_lastPlaces h_t_placesBefore h_p1 h_p1_points k_t_rows k_p1_points w_t_total w_t_copyLength w_t_copyDistance w_p1_height p1_width a_p1_points) C cw_PngWriter_filterRow (lg_in1 (List.mem_of_getElem? (i := 9) rfl) rfl) (lg_in6 (List.mem_of_getElem? (i := 176) rfl) rfl) (lg_in6 (List.mem_of_getElem? (i := 178) rfl) rfl) (lg_memS (List.mem_of_getElem? (i := 55) rfl) rfl) (ci := 10) (cq := (R_PngWriter, F_PngWriter, 6)) (q0 := 0) rfl rfl rfl (c_PngWriter_filterRow hfl dC dI h_t h_t_rows h_t_lastPlaces h_t_placesBefore h_p1 h_p1_points k_t_rows k_p1_points w_t_total w_t_copyLength w_t_copyDistance w_p1_height H.size K x2 0 x3 a_t_rows p1_width a_p1_points hg_8) (by decide +kernel) ⟨Nat.le_of_ble_eq_true rfl, Nat.le_of_ble_eq_true rfl⟩ rfl rfl (Nat.le_of_ble_eq_true rfl) d_PngWriter_bestFilter_8 hP hD hS hl.1 [0, 1, 2, 3] [] [0, 1] rfl rfl rfl rfl (by decide) rfl (fun H locs hP hD hS => ?_)
  have hP : va_P (dC, dI) classes (ws_PngWriter_bestFilter h_t h_t_rows h_t_lastPlaces h_t_placesBefore h_p1 h_p1_points k_t_rows k_p1_points w_t_total w_t_copyLength w_t_copyDistance w_p1_height r_8.2 p1_width a_p1_points) H := hP.sub [0, 1, 2, 3] rfl
  have hD : va_D A (ws_PngWriter_bestFilter h_t h_t_rows h_t_lastPlaces h_t_placesBefore h_p1 h_p1_points k_t_rows k_p1_points w_t_total w_t_copyLength w_t_copyDistance w_p1_height r_8.2 p1_width a_p1_points) := hD.sub [0, 1, 2, 3] (by decide) rfl
  show W p l e R s m _ below meth c H locs 0 0 _ (F0 m 11 ls [.int r_8.1])
  refine lv_istore (lv' := [(5, .int r_8.1), (4, .int 0), (0, .ref h_t), (1, .ref h_p1), (2, .int x2), (3, .int x3)]) hx hb d_PngWriter_bestFilter_11 hl (by decide) rfl (fun ls hl => ?_)
  refine lv_iconst (v := 1) hx hb d_PngWriter_bestFilter_13 (by decide) ?_
  refine lv_istore (lv' := [(6, .int 1), (5, .int r_8.1), (4, .int 0), (0, .ref h_t), (1, .ref h_p1), (2, .int x2), (3, .int x3)]) hx hb d_PngWriter_bestFilter_14 hl (by decide) rfl (fun ls hl => ?_)
  obtain ⟨r_16, hg_16, h⟩ := dc_bindE h
  refine w_PngWriter_bestFilter_L16 C ?_ K _ _ _ _ hg_16 H locs ls hP hD hS (lv_sub hl [3, 4, 5, 6, 2, 1, 0] rfl)
  · refine fun v_54 hr => ?_
    subst r_16
    refine fun H locs ls hP hD hS hl => ?_
    refine lv_iload hx hb d_PngWriter_bestFilter_54 (lv_at hl 2 rfl) ?_
    cases h
    exact dc_iret C (v := v_54.2) (u := v_54.1) (w1 := w1_PngWriter_bestFilter h_t h_t_rows h_t_lastPlaces h_t_placesBefore h_p1 h_p1_points k_t_rows k_p1_points w_t_total w_t_copyLength w_t_copyDistance w_p1_height p1_width a_p1_points) hP hD hS d_PngWriter_bestFilter_56
def ws_PngWriter_filterRows (h_p1 : Nat) (h_p1_points : Nat) (h_t : Nat) (h_t_rows : Nat) (h_t_lastPlaces : Nat) (h_t_placesBefore : Nat) (k_t_rows : ClassId) (k_p1_points : ClassId) (w_t_copyLength : Int32) (w_t_copyDistance : Int32) (p1_width : Int32) (p1_height : Int32) (t_total : Int32) (a_t_rows : Nat → Int32) (a_p1_points : Nat → Int32) : va_W := [(h_p1, .inr (8, [.ref h_p1_points, .int p1_width, .int p1_height])), (h_t, .inr (10, [.ref h_t_rows, .ref h_t_lastPlaces, .ref h_t_placesBefore, .int t_total, .int w_t_copyLength, .int w_t_copyDistance])), (h_t_rows, .inl (k_t_rows, 147456, .inl a_t_rows)), (h_p1_points, .inl (k_p1_points, 16384, .inl a_p1_points))]
abbrev w1_PngWriter_filterRows (h_p1 : Nat) (h_p1_points : Nat) (h_t : Nat) (h_t_rows : Nat) (h_t_lastPlaces : Nat) (h_t_placesBefore : Nat) (k_t_rows : ClassId) (k_p1_points : ClassId) (w_t_copyLength : Int32) (w_t_copyDistance : Int32) (p1_width : Int32) (p1_height : Int32) (a_p1_points : Nat → Int32) (u : Int32 × (Nat → Int32)) : va_W := ws_PngWriter_filterRows h_p1 h_p1_points h_t h_t_rows h_t_lastPlaces h_t_placesBefore k_t_rows k_p1_points w_t_copyLength w_t_copyDistance p1_width p1_height u.1 u.2 a_p1_points
abbrev q_PngWriter_filterRows (below : List Frame) (args : Array Value) (s : State) (dC : Nat → ClassId) (dI : Nat → Nat → Nat) (A : Nat → Prop) (h_p1 : Nat) (h_p1_points : Nat) (h_t : Nat) (h_t_rows : Nat) (h_t_lastPlaces : Nat) (h_t_placesBefore : Nat) (k_t_rows : ClassId) (k_p1_points : ClassId) (w_t_copyLength : Int32) (w_t_copyDistance : Int32) (p1_width : Int32) (p1_height : Int32) (a_p1_points : Nat → Int32) (o : Unit × (Int32 × (Nat → Int32))) : State → Prop := XQ below (vx_Q vl_v (.inl o) (fun u t => vx_B dC dI [(k_t_rows, .byte), (k_p1_points, .int)] A (w1_PngWriter_filterRows h_p1 h_p1_points h_t h_t_rows h_t_lastPlaces h_t_placesBefore k_t_rows k_p1_points w_t_copyLength w_t_copyDistance p1_width p1_height a_p1_points u) t) A) args s 0 0 A
theorem d_PngWriter_filterRows_0 : decode b_PngWriter_filterRows 0 = .ok (.iconst 4, 1) := by decide +kernel
theorem d_PngWriter_filterRows_1 : decode b_PngWriter_filterRows 1 = .ok (.aload_n 1, 1) := by decide +kernel
theorem d_PngWriter_filterRows_2 : decode b_PngWriter_filterRows 2 = .ok (.getfield 80, 3) := by decide +kernel
theorem d_PngWriter_filterRows_5 : decode b_PngWriter_filterRows 5 = .ok (.imul, 1) := by decide +kernel
theorem d_PngWriter_filterRows_6 : decode b_PngWriter_filterRows 6 = .ok (.istore_n 3, 1) := by decide +kernel
theorem d_PngWriter_filterRows_7 : decode b_PngWriter_filterRows 7 = .ok (.iconst 0, 1) := by decide +kernel
theorem d_PngWriter_filterRows_8 : decode b_PngWriter_filterRows 8 = .ok (.istore 4, 2) := by decide +kernel
theorem d_PngWriter_filterRows_10 : decode b_PngWriter_filterRows 10 = .ok (.iload 4, 2) := by decide +kernel
theorem d_PngWriter_filterRows_12 : decode b_PngWriter_filterRows 12 = .ok (.aload_n 1, 1) := by decide +kernel
theorem d_PngWriter_filterRows_13 : decode b_PngWriter_filterRows 13 = .ok (.getfield 85, 3) := by decide +kernel
theorem d_PngWriter_filterRows_16 : decode b_PngWriter_filterRows 16 = .ok (.if_icmp .ge 49, 3) := by decide +kernel
theorem d_PngWriter_filterRows_19 : decode b_PngWriter_filterRows 19 = .ok (.iload 4, 2) := by decide +kernel
theorem d_PngWriter_filterRows_21 : decode b_PngWriter_filterRows 21 = .ok (.iload_n 3, 1) := by decide +kernel
theorem d_PngWriter_filterRows_22 : decode b_PngWriter_filterRows 22 = .ok (.iconst 1, 1) := by decide +kernel
theorem d_PngWriter_filterRows_23 : decode b_PngWriter_filterRows 23 = .ok (.iadd, 1) := by decide +kernel
theorem d_PngWriter_filterRows_24 : decode b_PngWriter_filterRows 24 = .ok (.imul, 1) := by decide +kernel
theorem d_PngWriter_filterRows_25 : decode b_PngWriter_filterRows 25 = .ok (.istore 5, 2) := by decide +kernel
theorem d_PngWriter_filterRows_27 : decode b_PngWriter_filterRows 27 = .ok (.iload_n 2, 1) := by decide +kernel
theorem d_PngWriter_filterRows_28 : decode b_PngWriter_filterRows 28 = .ok (.iconst 5, 1) := by decide +kernel
theorem d_PngWriter_filterRows_29 : decode b_PngWriter_filterRows 29 = .ok (.if_icmp .ne 15, 3) := by decide +kernel
theorem d_PngWriter_filterRows_32 : decode b_PngWriter_filterRows 32 = .ok (.aload_n 0, 1) := by decide +kernel
theorem d_PngWriter_filterRows_33 : decode b_PngWriter_filterRows 33 = .ok (.aload_n 1, 1) := by decide +kernel
theorem d_PngWriter_filterRows_34 : decode b_PngWriter_filterRows 34 = .ok (.iload 4, 2) := by decide +kernel
theorem d_PngWriter_filterRows_36 : decode b_PngWriter_filterRows 36 = .ok (.iload 5, 2) := by decide +kernel
theorem d_PngWriter_filterRows_38 : decode b_PngWriter_filterRows 38 = .ok (.invokevirtual 91, 3) := by decide +kernel
theorem d_PngWriter_filterRows_41 : decode b_PngWriter_filterRows 41 = .ok (.goto 4, 3) := by decide +kernel
theorem d_PngWriter_filterRows_44 : decode b_PngWriter_filterRows 44 = .ok (.iload_n 2, 1) := by decide +kernel
theorem d_PngWriter_filterRows_45 : decode b_PngWriter_filterRows 45 = .ok (.istore 6, 2) := by decide +kernel
theorem d_PngWriter_filterRows_47 : decode b_PngWriter_filterRows 47 = .ok (.aload_n 0, 1) := by decide +kernel
theorem d_PngWriter_filterRows_48 : decode b_PngWriter_filterRows 48 = .ok (.aload_n 1, 1) := by decide +kernel
theorem d_PngWriter_filterRows_49 : decode b_PngWriter_filterRows 49 = .ok (.iload 4, 2) := by decide +kernel
theorem d_PngWriter_filterRows_51 : decode b_PngWriter_filterRows 51 = .ok (.iload 6, 2) := by decide +kernel
theorem d_PngWriter_filterRows_53 : decode b_PngWriter_filterRows 53 = .ok (.iload 5, 2) := by decide +kernel
theorem d_PngWriter_filterRows_55 : decode b_PngWriter_filterRows 55 = .ok (.invokevirtual 95, 3) := by decide +kernel
theorem d_PngWriter_filterRows_58 : decode b_PngWriter_filterRows 58 = .ok (.pop, 1) := by decide +kernel
theorem d_PngWriter_filterRows_59 : decode b_PngWriter_filterRows 59 = .ok (.iinc 4 1, 3) := by decide +kernel
theorem d_PngWriter_filterRows_62 : decode b_PngWriter_filterRows 62 = .ok (.goto (-52), 3) := by decide +kernel
theorem d_PngWriter_filterRows_65 : decode b_PngWriter_filterRows 65 = .ok (.aload_n 0, 1) := by decide +kernel
theorem d_PngWriter_filterRows_66 : decode b_PngWriter_filterRows 66 = .ok (.aload_n 1, 1) := by decide +kernel
theorem d_PngWriter_filterRows_67 : decode b_PngWriter_filterRows 67 = .ok (.getfield 85, 3) := by decide +kernel
theorem d_PngWriter_filterRows_70 : decode b_PngWriter_filterRows 70 = .ok (.iload_n 3, 1) := by decide +kernel
theorem d_PngWriter_filterRows_71 : decode b_PngWriter_filterRows 71 = .ok (.iconst 1, 1) := by decide +kernel
theorem d_PngWriter_filterRows_72 : decode b_PngWriter_filterRows 72 = .ok (.iadd, 1) := by decide +kernel
theorem d_PngWriter_filterRows_73 : decode b_PngWriter_filterRows 73 = .ok (.imul, 1) := by decide +kernel
theorem d_PngWriter_filterRows_74 : decode b_PngWriter_filterRows 74 = .ok (.putfield 18, 3) := by decide +kernel
theorem d_PngWriter_filterRows_77 : decode b_PngWriter_filterRows 77 = .ok (.return_, 1) := by decide +kernel
def at_PngWriter_filterRows_10 (p : Program) (l : Launch) (e : Env) (R : Room) (s : State) (m : MethodId) (args : Array Value) (below : List Frame) (meth : Method) (c : Code) (dC : Nat → ClassId) (dI : Nat → Nat → Nat) (A : Nat → Prop) (Q : State → Prop) (h_p1 : Nat) (h_p1_points : Nat) (h_t : Nat) (h_t_rows : Nat) (h_t_lastPlaces : Nat) (h_t_placesBefore : Nat) (k_t_rows : ClassId) (k_p1_points : ClassId) (w_t_copyLength : Int32) (w_t_copyDistance : Int32) (p1_width : Int32) (p1_height : Int32) (t_total : Int32) (a_t_rows : Nat → Int32) (a_p1_points : Nat → Int32) (x2 : Int32) (x3 : Int32) (x4 : Int32) : Prop := ∀ (H : Heap) (locs : List Loc) (ls : Array Slot), va_P (dC, dI) classes (ws_PngWriter_filterRows h_p1 h_p1_points h_t h_t_rows h_t_lastPlaces h_t_placesBefore k_t_rows k_p1_points w_t_copyLength w_t_copyDistance p1_width p1_height t_total a_t_rows a_p1_points) H → va_D A (ws_PngWriter_filterRows h_p1 h_p1_points h_t h_t_rows h_t_lastPlaces h_t_placesBefore k_t_rows k_p1_points w_t_copyLength w_t_copyDistance p1_width p1_height t_total a_t_rows a_p1_points) → va_S A s.heap H locs → lv_has ls 7 [(0, .ref h_t), (1, .ref h_p1), (2, .int x2), (3, .int x3), (4, .int x4)] → W p l e R s m args below meth c H locs 0 0 Q (F0 m 10 ls [])
def at_PngWriter_filterRows_45 (p : Program) (l : Launch) (e : Env) (R : Room) (s : State) (m : MethodId) (args : Array Value) (below : List Frame) (meth : Method) (c : Code) (dC : Nat → ClassId) (dI : Nat → Nat → Nat) (A : Nat → Prop) (Q : State → Prop) (h_p1 : Nat) (h_p1_points : Nat) (h_t : Nat) (h_t_rows : Nat) (h_t_lastPlaces : Nat) (h_t_placesBefore : Nat) (k_t_rows : ClassId) (k_p1_points : ClassId) (w_t_copyLength : Int32) (w_t_copyDistance : Int32) (p1_width : Int32) (p1_height : Int32) (t_total : Int32) (a_t_rows : Nat → Int32) (a_p1_points : Nat → Int32) (x2 : Int32) (x3 : Int32) (x4 : Int32) (x5 : Int32) (y0 : Int32) : Prop := ∀ (H : Heap) (locs : List Loc) (ls : Array Slot), va_P (dC, dI) classes (ws_PngWriter_filterRows h_p1 h_p1_points h_t h_t_rows h_t_lastPlaces h_t_placesBefore k_t_rows k_p1_points w_t_copyLength w_t_copyDistance p1_width p1_height t_total a_t_rows a_p1_points) H → va_D A (ws_PngWriter_filterRows h_p1 h_p1_points h_t h_t_rows h_t_lastPlaces h_t_placesBefore k_t_rows k_p1_points w_t_copyLength w_t_copyDistance p1_width p1_height t_total a_t_rows a_p1_points) → va_S A s.heap H locs → lv_has ls 7 [(0, .ref h_t), (1, .ref h_p1), (2, .int x2), (3, .int x3), (4, .int x4), (5, .int x5)] → W p l e R s m args below meth c H locs 0 0 Q (F0 m 45 ls [.int y0])
def at_PngWriter_filterRows_65 (p : Program) (l : Launch) (e : Env) (R : Room) (s : State) (m : MethodId) (args : Array Value) (below : List Frame) (meth : Method) (c : Code) (dC : Nat → ClassId) (dI : Nat → Nat → Nat) (A : Nat → Prop) (Q : State → Prop) (h_p1 : Nat) (h_p1_points : Nat) (h_t : Nat) (h_t_rows : Nat) (h_t_lastPlaces : Nat) (h_t_placesBefore : Nat) (k_t_rows : ClassId) (k_p1_points : ClassId) (w_t_copyLength : Int32) (w_t_copyDistance : Int32) (p1_width : Int32) (p1_height : Int32) (t_total : Int32) (a_t_rows : Nat → Int32) (a_p1_points : Nat → Int32) (x3 : Int32) : Prop := ∀ (H : Heap) (locs : List Loc) (ls : Array Slot), va_P (dC, dI) classes (ws_PngWriter_filterRows h_p1 h_p1_points h_t h_t_rows h_t_lastPlaces h_t_placesBefore k_t_rows k_p1_points w_t_copyLength w_t_copyDistance p1_width p1_height t_total a_t_rows a_p1_points) H → va_D A (ws_PngWriter_filterRows h_p1 h_p1_points h_t h_t_rows h_t_lastPlaces h_t_placesBefore k_t_rows k_p1_points w_t_copyLength w_t_copyDistance p1_width p1_height t_total a_t_rows a_p1_points) → va_S A s.heap H locs → lv_has ls 7 [(0, .ref h_t), (1, .ref h_p1), (3, .int x3)] → W p l e R s m args below meth c H locs 0 0 Q (F0 m 65 ls [])
def f_PngWriter_filterRows_45 (K : Nat)  (rec : (Nat → Int32) → Int32 → Option ((Nat → Int32))) (p1_width : Int32) (p1_height : Int32) (t_total : Int32) (a_t_rows : Nat → Int32) (a_p1_points : Nat → Int32) (x2 : Int32) (x3 : Int32) (x4 : Int32) (x5 : Int32) (y0 : Int32) : Option ((Nat → Int32)) := dc_bind (f_PngWriter_filterRow K x4 y0 x5 a_t_rows p1_width a_p1_points) (fun r_55 => rec r_55.2 (x4 + 1))
def f_PngWriter_filterRows_10 (K : Nat)  (rec : (Nat → Int32) → Int32 → Option ((Nat → Int32))) (p1_width : Int32) (p1_height : Int32) (t_total : Int32) (a_t_rows : Nat → Int32) (a_p1_points : Nat → Int32) (x2 : Int32) (x3 : Int32) (x4 : Int32) : Option ((Nat → Int32)) := (if p1_height ≤ x4 then (some a_t_rows) else ((if x2 = 5 then (dc_bind (f_PngWriter_bestFilter K x4 (x4 * (x3 + 1)) a_t_rows p1_width a_p1_points) (fun r_38 => f_PngWriter_filterRows_45 K rec p1_width p1_height t_total r_38.2 a_p1_points x2 x3 x4 (x4 * (x3 + 1)) r_38.1)) else (f_PngWriter_filterRows_45 K rec p1_width p1_height t_total a_t_rows a_p1_points x2 x3 x4 (x4 * (x3 + 1)) x2))))
def f_PngWriter_filterRows_L10 (K : Nat)  (p1_width : Int32) (p1_height : Int32) (t_total : Int32) (a_p1_points : Nat → Int32) (x2 : Int32) (x3 : Int32) : Nat → (Nat → Int32) → Int32 → Option ((Nat → Int32))
  | 0, _, _ => none
  | n + 1, a_t_rows, x4 => f_PngWriter_filterRows_10 K  (f_PngWriter_filterRows_L10 K  p1_width p1_height t_total a_p1_points x2 x3 n) p1_width p1_height t_total a_t_rows a_p1_points x2 x3 x4
def f_PngWriter_filterRows (K : Nat)  (x2 : Int32) (p1_width : Int32) (p1_height : Int32) (t_total : Int32) (a_t_rows : Nat → Int32) (a_p1_points : Nat → Int32) : Option (Unit × (Int32 × (Nat → Int32))) := dc_bind (f_PngWriter_filterRows_L10 K p1_width p1_height t_total a_p1_points x2 (4 * p1_width) K a_t_rows 0) (fun v_65 => some ((), ((p1_height * ((4 * p1_width) + 1)), v_65)))
set_option maxHeartbeats 400000 in
set_option maxRecDepth 100000 in
theorem w_PngWriter_filterRows_45 {p : Program} {l : Launch} {e : Env} {R : Room} {s : State} {m : MethodId} {args : Array Value} {below : List Frame} {meth : Method} {c : Code} {dC : Nat → ClassId} {dI : Nat → Nat → Nat} {A : Nat → Prop} {Q : State → Prop} {h_p1 : Nat} {h_p1_points : Nat} {h_t : Nat} {h_t_rows : Nat} {h_t_lastPlaces : Nat} {h_t_placesBefore : Nat} {k_t_rows : ClassId} {k_p1_points : ClassId} {w_t_copyLength : Int32} {w_t_copyDistance : Int32} (C : cx p l e R s m args meth c dC dI A R_PngWriter b_PngWriter_filterRows 7 none 5 150 [(k_t_rows, .byte), (k_p1_points, .int)]) {K : Nat} {out : (Nat → Int32)} {p1_width : Int32} {p1_height : Int32} {t_total : Int32} {a_t_rows : Nat → Int32} {a_p1_points : Nat → Int32} {x2 : Int32} {x3 : Int32} {x4 : Int32} {x5 : Int32} {y0 : Int32} {rec : (Nat → Int32) → Int32 → Option ((Nat → Int32))}  (hex0 : ∀ v : (Nat → Int32), out = v → at_PngWriter_filterRows_65 p l e R s m args below meth c dC dI A Q h_p1 h_p1_points h_t h_t_rows h_t_lastPlaces h_t_placesBefore k_t_rows k_p1_points w_t_copyLength w_t_copyDistance p1_width p1_height t_total v a_p1_points x3) (hrec : ∀ (a_t_rows : Nat → Int32) (x4 : Int32), rec a_t_rows x4 = some out → at_PngWriter_filterRows_10 p l e R s m args below meth c dC dI A Q h_p1 h_p1_points h_t h_t_rows h_t_lastPlaces h_t_placesBefore k_t_rows k_p1_points w_t_copyLength w_t_copyDistance p1_width p1_height t_total a_t_rows a_p1_points x2 x3 x4) (h : f_PngWriter_filterRows_45 K  rec p1_width p1_height t_total a_t_rows a_p1_points x2 x3 x4 x5 y0 = some out) : at_PngWriter_filterRows_45 p l e R s m args below meth c dC dI A Q h_p1 h_p1_points h_t h_t_rows h_t_lastPlaces h_t_placesBefore k_t_rows k_p1_points w_t_copyLength w_t_copyDistance p1_width p1_height t_total a_t_rows a_p1_points x2 x3 x4 x5 y0 := by
  refine fun H locs ls hP hD hS hl => ?_
  obtain ⟨hx, hb, hr, hml, hown, hts, hlk, hK, hA, hV, htr, hex, hF, hL, hfl⟩ := id C
  unfold f_PngWriter_filterRows_45 at h
  refine lv_istore (lv' := [(6, .int y0), (0, .ref h_t), (1, .ref h_p1), (2, .int x2), (3, .int x3), (4, .int x4), (5, .int x5)]) hx hb d_PngWriter_filterRows_45 hl (by decide) rfl (fun ls hl => ?_)
  refine lv_aload_n hx hb d_PngWriter_filterRows_47 rfl (lv_at hl 1 rfl) ?_
  refine lv_aload_n hx hb d_PngWriter_filterRows_48 rfl (lv_at hl 2 rfl) ?_
  refine lv_iload hx hb d_PngWriter_filterRows_49 (lv_at hl 5 rfl) ?_
  refine lv_iload hx hb d_PngWriter_filterRows_51 (lv_at hl 0 rfl) ?_
  refine lv_iload hx hb d_PngWriter_filterRows_53 (lv_at hl 6 rfl) ?_
  obtain ⟨r_55, hg_55, h⟩ := dc_bindE h
  refine dc_callV (y := y_PngWriter_filterRow) (bytes := b_PngWriter_filterRow) (maxL := 16) (ret' := (some .int)) (fr' := 3) (lo' := 88) (n := 4) (val := vl_i) (o := r_55) (tysc := [(k_t_rows, .byte), (k_p1_points, .int)]) (As := [.ref h_p1, .int x4, .int y0, .int x5]) (rest := []) (wc := (ws_PngWriter_filterRow h_t h_t_rows h_t_lastPlaces h_t_placesBefore h_p1 h_p1_points k_t_rows k_p1_points t_total w_t_copyLength w_t_copyDistance p1_height a_t_rows p1_width a_p1_points)) (wr := []) (w1 := w1_PngWriter_filterRow h_t h_t_rows h_t_lastPlaces h_t_placesBefore h_p1 h_p1_points k_t_rows k_p1_points t_total w_t_copyLength w_t_copyDistance p1_height p1_width a_p1_points) C cw_PngWriter_filterRow (lg_in1 (List.mem_of_getElem? (i := 9) rfl) rfl) (lg_in6 (List.mem_of_getElem? (i := 176) rfl) rfl) (lg_in6 (List.mem_of_getElem? (i := 178) rfl) rfl) (lg_memS (List.mem_of_getElem? (i := 55) rfl) rfl) (ci := 10) (cq := (R_PngWriter, F_PngWriter, 6)) (q0 := 1) rfl rfl rfl (c_PngWriter_filterRow hfl dC dI h_t h_t_rows h_t_lastPlaces h_t_placesBefore h_p1 h_p1_points k_t_rows k_p1_points t_total w_t_copyLength w_t_copyDistance p1_height H.size K x4 y0 x5 a_t_rows p1_width a_p1_points hg_55) (by decide +kernel) ⟨Nat.le_of_ble_eq_true rfl, Nat.le_of_ble_eq_true rfl⟩ rfl rfl (Nat.le_of_ble_eq_true rfl) d_PngWriter_filterRows_55 hP hD hS hl.1 [1, 2, 0, 3] [] [0, 1] rfl rfl rfl rfl (by decide) rfl (fun H locs hP hD hS => ?_)
  have hP : va_P (dC, dI) classes (ws_PngWriter_filterRows h_p1 h_p1_points h_t h_t_rows h_t_lastPlaces h_t_placesBefore k_t_rows k_p1_points w_t_copyLength w_t_copyDistance p1_width p1_height t_total r_55.2 a_p1_points) H := hP.sub [2, 0, 1, 3] rfl
  have hD : va_D A (ws_PngWriter_filterRows h_p1 h_p1_points h_t h_t_rows h_t_lastPlaces h_t_placesBefore k_t_rows k_p1_points w_t_copyLength w_t_copyDistance p1_width p1_height t_total r_55.2 a_p1_points) := hD.sub [2, 0, 1, 3] (by decide) rfl
  show W p l e R s m _ below meth c H locs 0 0 _ (F0 m 58 ls [.int r_55.1])
  refine lv_pop hx hb d_PngWriter_filterRows_58 rfl ?_
  refine lv_iinc (v := (x4 + 1)) (lv' := [(4, .int (x4 + 1)), (6, .int y0), (0, .ref h_t), (1, .ref h_p1), (2, .int x2), (3, .int x3), (5, .int x5)]) hx hb d_PngWriter_filterRows_59 hl (k := 5) rfl rfl (by decide) rfl (fun ls hl => ?_)
  refine lv_goto (tgt := 10) hx hb d_PngWriter_filterRows_62 (by decide) ?_
  exact hrec _ _ h H locs ls hP hD hS (lv_sub hl [2, 3, 4, 5, 0] rfl)
set_option maxHeartbeats 400000 in
set_option maxRecDepth 100000 in
theorem w_PngWriter_filterRows_10 {p : Program} {l : Launch} {e : Env} {R : Room} {s : State} {m : MethodId} {args : Array Value} {below : List Frame} {meth : Method} {c : Code} {dC : Nat → ClassId} {dI : Nat → Nat → Nat} {A : Nat → Prop} {Q : State → Prop} {h_p1 : Nat} {h_p1_points : Nat} {h_t : Nat} {h_t_rows : Nat} {h_t_lastPlaces : Nat} {h_t_placesBefore : Nat} {k_t_rows : ClassId} {k_p1_points : ClassId} {w_t_copyLength : Int32} {w_t_copyDistance : Int32} (C : cx p l e R s m args meth c dC dI A R_PngWriter b_PngWriter_filterRows 7 none 5 150 [(k_t_rows, .byte), (k_p1_points, .int)]) {K : Nat} {out : (Nat → Int32)} {p1_width : Int32} {p1_height : Int32} {t_total : Int32} {a_t_rows : Nat → Int32} {a_p1_points : Nat → Int32} {x2 : Int32} {x3 : Int32} {x4 : Int32} {rec : (Nat → Int32) → Int32 → Option ((Nat → Int32))}  (hex0 : ∀ v : (Nat → Int32), out = v → at_PngWriter_filterRows_65 p l e R s m args below meth c dC dI A Q h_p1 h_p1_points h_t h_t_rows h_t_lastPlaces h_t_placesBefore k_t_rows k_p1_points w_t_copyLength w_t_copyDistance p1_width p1_height t_total v a_p1_points x3) (hrec : ∀ (a_t_rows : Nat → Int32) (x4 : Int32), rec a_t_rows x4 = some out → at_PngWriter_filterRows_10 p l e R s m args below meth c dC dI A Q h_p1 h_p1_points h_t h_t_rows h_t_lastPlaces h_t_placesBefore k_t_rows k_p1_points w_t_copyLength w_t_copyDistance p1_width p1_height t_total a_t_rows a_p1_points x2 x3 x4) (h : f_PngWriter_filterRows_10 K  rec p1_width p1_height t_total a_t_rows a_p1_points x2 x3 x4 = some out) : at_PngWriter_filterRows_10 p l e R s m args below meth c dC dI A Q h_p1 h_p1_points h_t h_t_rows h_t_lastPlaces h_t_placesBefore k_t_rows k_p1_points w_t_copyLength w_t_copyDistance p1_width p1_height t_total a_t_rows a_p1_points x2 x3 x4 := by
  refine fun H locs ls hP hD hS hl => ?_
  obtain ⟨hx, hb, hr, hml, hown, hts, hlk, hK, hA, hV, htr, hex, hF, hL, hfl⟩ := id C
  unfold f_PngWriter_filterRows_10 at h
  refine lv_iload hx hb d_PngWriter_filterRows_10 (lv_at hl 4 rfl) ?_
  refine lv_aload_n hx hb d_PngWriter_filterRows_12 rfl (lv_at hl 1 rfl) ?_
  refine va_get (D := (dC, dI)) (ci := 8) (v := .int p1_height) (C := R_Picture) (T := F_Picture) (N := 3) hx hb hts i_Picture hown hK hP 0 rfl rfl 2 (by decide) (hts _ (lg_in1 (List.mem_of_getElem? (i := 86) rfl) rfl)) (fun _ h9 => h9) rfl d_PngWriter_filterRows_13 ?_
  refine lv_icmp_ge (tgt := 65) hx hb d_PngWriter_filterRows_16 (by decide) (fun c_16 => ?_) (fun c_16 => ?_)
  · have h := dc_t c_16 h
    cases h
    exact hex0 _ rfl H locs ls hP hD hS (lv_sub hl [0, 1, 3] rfl)
  have h := dc_f c_16 h
  refine lv_iload hx hb d_PngWriter_filterRows_19 (lv_at hl 4 rfl) ?_
  refine lv_iload_n hx hb d_PngWriter_filterRows_21 rfl (lv_at hl 3 rfl) ?_
  refine lv_iconst (v := 1) hx hb d_PngWriter_filterRows_22 (by decide) ?_
  refine lv_iadd hx hb d_PngWriter_filterRows_23 ?_
  refine lv_imul hx hb d_PngWriter_filterRows_24 ?_
  refine lv_istore (lv' := [(5, .int (x4 * (x3 + 1))), (0, .ref h_t), (1, .ref h_p1), (2, .int x2), (3, .int x3), (4, .int x4)]) hx hb d_PngWriter_filterRows_25 hl (by decide) rfl (fun ls hl => ?_)
  refine lv_iload_n hx hb d_PngWriter_filterRows_27 rfl (lv_at hl 3 rfl) ?_
  refine lv_iconst (v := 5) hx hb d_PngWriter_filterRows_28 (by decide) ?_
  refine lv_icmp_ne (tgt := 44) hx hb d_PngWriter_filterRows_29 (by decide) (fun c_29 => ?_) (fun c_29 => ?_)
  · have h := dc_f c_29 h
    refine lv_iload_n hx hb d_PngWriter_filterRows_44 rfl (lv_at hl 3 rfl) ?_
    exact w_PngWriter_filterRows_45 C hex0 hrec h H locs ls hP hD hS (lv_sub hl [1, 2, 3, 4, 5, 0] rfl)
  have h := dc_t c_29 h
  refine lv_aload_n hx hb d_PngWriter_filterRows_32 rfl (lv_at hl 1 rfl) ?_
  refine lv_aload_n hx hb d_PngWriter_filterRows_33 rfl (lv_at hl 2 rfl) ?_
  refine lv_iload hx hb d_PngWriter_filterRows_34 (lv_at hl 5 rfl) ?_
  refine lv_iload hx hb d_PngWriter_filterRows_36 (lv_at hl 0 rfl) ?_
  obtain ⟨r_38, hg_38, h⟩ := dc_bindE h
  refine dc_callV (y := y_PngWriter_bestFilter) (bytes := b_PngWriter_bestFilter) (maxL := 8) (ret' := (some .int)) (fr' := 4) (lo' := 123) (n := 3) (val := vl_i) (o := r_38) (tysc := [(k_t_rows, .byte), (k_p1_points, .int)]) (As := [.ref h_p1, .int x4, .int (x4 * (x3 + 1))]) (rest := []) (wc := (ws_PngWriter_bestFilter h_t h_t_rows h_t_lastPlaces h_t_placesBefore h_p1 h_p1_points k_t_rows k_p1_points t_total w_t_copyLength w_t_copyDistance p1_height a_t_rows p1_width a_p1_points)) (wr := []) (w1 := w1_PngWriter_bestFilter h_t h_t_rows h_t_lastPlaces h_t_placesBefore h_p1 h_p1_points k_t_rows k_p1_points t_total w_t_copyLength w_t_copyDistance p1_height p1_width a_p1_points) C cw_PngWriter_bestFilter (lg_in1 (List.mem_of_getElem? (i := 9) rfl) rfl) (lg_in6 (List.mem_of_getElem? (i := 172) rfl) rfl) (lg_in6 (List.mem_of_getElem? (i := 174) rfl) rfl) (lg_memS (List.mem_of_getElem? (i := 54) rfl) rfl) (ci := 10) (cq := (R_PngWriter, F_PngWriter, 6)) (q0 := 1) rfl rfl rfl (c_PngWriter_bestFilter hfl dC dI h_t h_t_rows h_t_lastPlaces h_t_placesBefore h_p1 h_p1_points k_t_rows k_p1_points t_total w_t_copyLength w_t_copyDistance p1_height H.size K x4 (x4 * (x3 + 1)) a_t_rows p1_width a_p1_points hg_38) (by decide +kernel) ⟨Nat.le_of_ble_eq_true rfl, Nat.le_of_ble_eq_true rfl⟩ rfl rfl (Nat.le_of_ble_eq_true rfl) d_PngWriter_filterRows_38 hP hD hS hl.1 [1, 2, 0, 3] [] [0, 1] rfl rfl rfl rfl (by decide) rfl (fun H locs hP hD hS => ?_)
  have hP : va_P (dC, dI) classes (ws_PngWriter_filterRows h_p1 h_p1_points h_t h_t_rows h_t_lastPlaces h_t_placesBefore k_t_rows k_p1_points w_t_copyLength w_t_copyDistance p1_width p1_height t_total r_38.2 a_p1_points) H := hP.sub [2, 0, 1, 3] rfl
  have hD : va_D A (ws_PngWriter_filterRows h_p1 h_p1_points h_t h_t_rows h_t_lastPlaces h_t_placesBefore k_t_rows k_p1_points w_t_copyLength w_t_copyDistance p1_width p1_height t_total r_38.2 a_p1_points) := hD.sub [2, 0, 1, 3] (by decide) rfl
  show W p l e R s m _ below meth c H locs 0 0 _ (F0 m 41 ls [.int r_38.1])
  refine lv_goto (tgt := 45) hx hb d_PngWriter_filterRows_41 (by decide) ?_
  exact w_PngWriter_filterRows_45 C hex0 hrec h H locs ls hP hD hS (lv_sub hl [1, 2, 3, 4, 5, 0] rfl)
set_option maxHeartbeats 400000 in
set_option maxRecDepth 100000 in
theorem w_PngWriter_filterRows_L10 {p : Program} {l : Launch} {e : Env} {R : Room} {s : State} {m : MethodId} {args : Array Value} {below : List Frame} {meth : Method} {c : Code} {dC : Nat → ClassId} {dI : Nat → Nat → Nat} {A : Nat → Prop} {Q : State → Prop} {h_p1 : Nat} {h_p1_points : Nat} {h_t : Nat} {h_t_rows : Nat} {h_t_lastPlaces : Nat} {h_t_placesBefore : Nat} {k_t_rows : ClassId} {k_p1_points : ClassId} {w_t_copyLength : Int32} {w_t_copyDistance : Int32} (C : cx p l e R s m args meth c dC dI A R_PngWriter b_PngWriter_filterRows 7 none 5 150 [(k_t_rows, .byte), (k_p1_points, .int)]) {K : Nat} {out : (Nat → Int32)} {p1_width : Int32} {p1_height : Int32} {t_total : Int32} {a_p1_points : Nat → Int32} {x2 : Int32} {x3 : Int32} (hex0 : ∀ v : (Nat → Int32), out = v → at_PngWriter_filterRows_65 p l e R s m args below meth c dC dI A Q h_p1 h_p1_points h_t h_t_rows h_t_lastPlaces h_t_placesBefore k_t_rows k_p1_points w_t_copyLength w_t_copyDistance p1_width p1_height t_total v a_p1_points x3) : ∀ (n : Nat) (a_t_rows : Nat → Int32) (x4 : Int32), f_PngWriter_filterRows_L10 K  p1_width p1_height t_total a_p1_points x2 x3 n a_t_rows x4 = some out → at_PngWriter_filterRows_10 p l e R s m args below meth c dC dI A Q h_p1 h_p1_points h_t h_t_rows h_t_lastPlaces h_t_placesBefore k_t_rows k_p1_points w_t_copyLength w_t_copyDistance p1_width p1_height t_total a_t_rows a_p1_points x2 x3 x4 := by
  intro n
  induction n with
  | zero =>
    intro a_t_rows x4 h
    exact nomatch (show (none : Option ((Nat → Int32))) = some out from h)
  | succ n ih =>
    intro a_t_rows x4 h
    exact w_PngWriter_filterRows_10 C hex0 ih h
set_option maxHeartbeats 400000 in
set_option maxRecDepth 100000 in
theorem c_PngWriter_filterRows {l : Launch} (hfl : l.flags = flags0) (dC : Nat → ClassId) (dI : Nat → Nat → Nat) (h_p1 : Nat) (h_p1_points : Nat) (h_t : Nat) (h_t_rows : Nat) (h_t_lastPlaces : Nat) (h_t_placesBefore : Nat) (k_t_rows : ClassId) (k_p1_points : ClassId) (w_t_copyLength : Int32) (w_t_copyDistance : Int32) (sz : Nat) (K : Nat) (x2 : Int32) (p1_width : Int32) (p1_height : Int32) (t_total : Int32) (a_t_rows : Nat → Int32) (a_p1_points : Nat → Int32) {o : Unit × (Int32 × (Nat → Int32))} (h : f_PngWriter_filterRows K x2 p1_width p1_height t_total a_t_rows a_p1_points = some o) : MetX l y_PngWriter_filterRows (Cond.code y_PngWriter_filterRows b_PngWriter_filterRows 7 none :: lw_g) (rmx 5 150 0 0) (vx_Pre dC dI [(k_t_rows, .byte), (k_p1_points, .int)] [.ref h_t, .ref h_p1, .int x2] sz (ws_PngWriter_filterRows h_p1 h_p1_points h_t h_t_rows h_t_lastPlaces h_t_placesBefore k_t_rows k_p1_points w_t_copyLength w_t_copyDistance p1_width p1_height t_total a_t_rows a_p1_points)) (vx_Q vl_v (.inl o) (fun u t => vx_B dC dI [(k_t_rows, .byte), (k_p1_points, .int)] (va_A (ws_PngWriter_filterRows h_p1 h_p1_points h_t h_t_rows h_t_lastPlaces h_t_placesBefore k_t_rows k_p1_points w_t_copyLength w_t_copyDistance p1_width p1_height t_total a_t_rows a_p1_points) sz) (w1_PngWriter_filterRows h_p1 h_p1_points h_t h_t_rows h_t_lastPlaces h_t_placesBefore k_t_rows k_p1_points w_t_copyLength w_t_copyDistance p1_width p1_height a_p1_points u) t) (va_A (ws_PngWriter_filterRows h_p1 h_p1_points h_t h_t_rows h_t_lastPlaces h_t_placesBefore k_t_rows k_p1_points w_t_copyLength w_t_copyDistance p1_width p1_height t_total a_t_rows a_p1_points) sz)) 0 0 (va_A (ws_PngWriter_filterRows h_p1 h_p1_points h_t h_t_rows h_t_lastPlaces h_t_placesBefore k_t_rows k_p1_points w_t_copyLength w_t_copyDistance p1_width p1_height t_total a_t_rows a_p1_points) sz) := by
  refine MetX.ofW (cc := b_PngWriter_filterRows) (maxL := 7) (ret := none) (by decide +kernel) rfl ?_
  intro p e s m args below meth c s₁ B hml hv
  obtain ⟨rfl, rfl, C, hP, hD, hS⟩ := dc_entry hfl B hml hv
  have hl := lv_entry ([.ref h_t, .ref h_p1, .int x2]) (n := 7) (Nat.le_of_ble_eq_true rfl)
  rw [lg_entry_eq]
  generalize (lg_sl ([.ref h_t, .ref h_p1, .int x2]) ++ List.replicate (7 - (lg_sl ([.ref h_t, .ref h_p1, .int x2])).length) Slot.unset).toArray = ls at hl ⊢
  have hl : lv_has ls 7 [(0, .ref h_t), (1, .ref h_p1), (2, .int x2)] := hl
  generalize hAe : va_A (ws_PngWriter_filterRows h_p1 h_p1_points h_t h_t_rows h_t_lastPlaces h_t_placesBefore k_t_rows k_p1_points w_t_copyLength w_t_copyDistance p1_width p1_height t_total a_t_rows a_p1_points) s.heap.size = A at C hD hS ⊢
  generalize (headSpec (Cond.code y_PngWriter_filterRows b_PngWriter_filterRows 7 none :: lw_g) (rmx 5 150 0 0)).room = R at C ⊢
  have C : cx p l e R s m _ meth c dC dI A R_PngWriter b_PngWriter_filterRows 7 none 5 150 [(k_t_rows, .byte), (k_p1_points, .int)] := C
  obtain ⟨hx, hb, hr, hml, hown, hts, hlk, hK, hA, hV, htr, hex, hF, hL, hfl⟩ := id C
  unfold f_PngWriter_filterRows at h
  revert hP hS
  generalize hH : s.heap = H
  generalize hLo : ([] : List Loc) = locs
  intro hP hS
  have hS : va_S A s.heap H locs := by rw [hH]; exact hS
  refine lv_iconst (v := 4) hx hb d_PngWriter_filterRows_0 (by decide) ?_
  refine lv_aload_n hx hb d_PngWriter_filterRows_1 rfl (lv_at hl 1 rfl) ?_
  refine va_get (D := (dC, dI)) (ci := 8) (v := .int p1_width) (C := R_Picture) (T := F_Picture) (N := 3) hx hb hts i_Picture hown hK hP 0 rfl rfl 1 (by decide) (hts _ (lg_in1 (List.mem_of_getElem? (i := 79) rfl) rfl)) (fun _ h9 => h9) rfl d_PngWriter_filterRows_2 ?_
  refine lv_imul hx hb d_PngWriter_filterRows_5 ?_
  refine lv_istore_n (lv' := [(3, .int (4 * p1_width)), (0, .ref h_t), (1, .ref h_p1), (2, .int x2)]) hx hb d_PngWriter_filterRows_6 rfl hl (by decide) rfl (fun ls hl => ?_)
  refine lv_iconst (v := 0) hx hb d_PngWriter_filterRows_7 (by decide) ?_
  refine lv_istore (lv' := [(4, .int 0), (3, .int (4 * p1_width)), (0, .ref h_t), (1, .ref h_p1), (2, .int x2)]) hx hb d_PngWriter_filterRows_8 hl (by decide) rfl (fun ls hl => ?_)
  obtain ⟨r_10, hg_10, h⟩ := dc_bindE h
  refine w_PngWriter_filterRows_L10 C ?_ K _ _ hg_10 H locs ls hP hD hS (lv_sub hl [2, 3, 4, 1, 0] rfl)
  · refine fun v_65 hr => ?_
    subst r_10
    refine fun H locs ls hP hD hS hl => ?_
    refine lv_aload_n hx hb d_PngWriter_filterRows_65 rfl (lv_at hl 0 rfl) ?_
    refine lv_aload_n hx hb d_PngWriter_filterRows_66 rfl (lv_at hl 1 rfl) ?_
    refine va_get (D := (dC, dI)) (ci := 8) (v := .int p1_height) (C := R_Picture) (T := F_Picture) (N := 3) hx hb hts i_Picture hown hK hP 0 rfl rfl 2 (by decide) (hts _ (lg_in1 (List.mem_of_getElem? (i := 86) rfl) rfl)) (fun _ h9 => h9) rfl d_PngWriter_filterRows_67 ?_
    refine lv_iload_n hx hb d_PngWriter_filterRows_70 rfl (lv_at hl 2 rfl) ?_
    refine lv_iconst (v := 1) hx hb d_PngWriter_filterRows_71 (by decide) ?_
    refine lv_iadd hx hb d_PngWriter_filterRows_72 ?_
    refine lv_imul hx hb d_PngWriter_filterRows_73 ?_
    refine va_put (D := (dC, dI)) (ci := 10) (v := .int (p1_height * ((4 * p1_width) + 1))) (ty := .int) (C := R_PngWriter) (T := F_PngWriter) (N := 6) hx hb hts i_PngWriter t_PngWriter t_PngWriter_ok n_PngWriter hown hK hP hD hS 1 rfl rfl 3 (by decide) (hts _ (lg_in2 (List.mem_of_getElem? (i := 21) rfl) rfl)) (fun _ h9 => h9) rfl (by decide +kernel) rfl rfl (Nat.le_of_ble_eq_true rfl) d_PngWriter_filterRows_74 (fun H locs hP hD hS => ?_)
    have hP : va_P (dC, dI) classes (ws_PngWriter_filterRows h_p1 h_p1_points h_t h_t_rows h_t_lastPlaces h_t_placesBefore k_t_rows k_p1_points w_t_copyLength w_t_copyDistance p1_width p1_height (p1_height * ((4 * p1_width) + 1)) v_65 a_p1_points) H := hP
    have hD : va_D A (ws_PngWriter_filterRows h_p1 h_p1_points h_t h_t_rows h_t_lastPlaces h_t_placesBefore k_t_rows k_p1_points w_t_copyLength w_t_copyDistance p1_width p1_height (p1_height * ((4 * p1_width) + 1)) v_65 a_p1_points) := hD
    cases h
    exact dc_vret C (u := ((p1_height * ((4 * p1_width) + 1)), v_65)) (w1 := w1_PngWriter_filterRows h_p1 h_p1_points h_t h_t_rows h_t_lastPlaces h_t_placesBefore k_t_rows k_p1_points w_t_copyLength w_t_copyDistance p1_width p1_height a_p1_points) hP hD hS d_PngWriter_filterRows_77
def ws_PngWriter_chainOf (h_t : Nat) (h_t_rows : Nat) (h_t_lastPlaces : Nat) (h_t_placesBefore : Nat) (k_t_rows : ClassId) (w_t_total : Int32) (w_t_copyLength : Int32) (w_t_copyDistance : Int32) (a_t_rows : Nat → Int32) : va_W := [(h_t, .inr (10, [.ref h_t_rows, .ref h_t_lastPlaces, .ref h_t_placesBefore, .int w_t_total, .int w_t_copyLength, .int w_t_copyDistance])), (h_t_rows, .inl (k_t_rows, 147456, .inl a_t_rows))]
abbrev w1_PngWriter_chainOf (h_t : Nat) (h_t_rows : Nat) (h_t_lastPlaces : Nat) (h_t_placesBefore : Nat) (k_t_rows : ClassId) (w_t_total : Int32) (w_t_copyLength : Int32) (w_t_copyDistance : Int32) (a_t_rows : Nat → Int32) (u : Unit) : va_W := ws_PngWriter_chainOf h_t h_t_rows h_t_lastPlaces h_t_placesBefore k_t_rows w_t_total w_t_copyLength w_t_copyDistance a_t_rows
abbrev q_PngWriter_chainOf (below : List Frame) (args : Array Value) (s : State) (dC : Nat → ClassId) (dI : Nat → Nat → Nat) (A : Nat → Prop) (h_t : Nat) (h_t_rows : Nat) (h_t_lastPlaces : Nat) (h_t_placesBefore : Nat) (k_t_rows : ClassId) (w_t_total : Int32) (w_t_copyLength : Int32) (w_t_copyDistance : Int32) (a_t_rows : Nat → Int32) (o : Int32 × Unit) : State → Prop := XQ below (vx_Q vl_i (.inl o) (fun u t => vx_B dC dI [(k_t_rows, .byte)] A (w1_PngWriter_chainOf h_t h_t_rows h_t_lastPlaces h_t_placesBefore k_t_rows w_t_total w_t_copyLength w_t_copyDistance a_t_rows u) t) A) args s 0 0 A
theorem d_PngWriter_chainOf_0 : decode b_PngWriter_chainOf 0 = .ok (.aload_n 0, 1) := by decide +kernel
theorem d_PngWriter_chainOf_1 : decode b_PngWriter_chainOf 1 = .ok (.getfield 28, 3) := by decide +kernel
theorem d_PngWriter_chainOf_4 : decode b_PngWriter_chainOf 4 = .ok (.iload_n 1, 1) := by decide +kernel
theorem d_PngWriter_chainOf_5 : decode b_PngWriter_chainOf 5 = .ok (.baload, 1) := by decide +kernel
theorem d_PngWriter_chainOf_6 : decode b_PngWriter_chainOf 6 = .ok (.sipush 255, 3) := by decide +kernel
theorem d_PngWriter_chainOf_9 : decode b_PngWriter_chainOf 9 = .ok (.iand, 1) := by decide +kernel
theorem d_PngWriter_chainOf_10 : decode b_PngWriter_chainOf 10 = .ok (.bipush 16, 2) := by decide +kernel
theorem d_PngWriter_chainOf_12 : decode b_PngWriter_chainOf 12 = .ok (.ishl, 1) := by decide +kernel
theorem d_PngWriter_chainOf_13 : decode b_PngWriter_chainOf 13 = .ok (.aload_n 0, 1) := by decide +kernel
theorem d_PngWriter_chainOf_14 : decode b_PngWriter_chainOf 14 = .ok (.getfield 28, 3) := by decide +kernel
theorem d_PngWriter_chainOf_17 : decode b_PngWriter_chainOf 17 = .ok (.iload_n 1, 1) := by decide +kernel
theorem d_PngWriter_chainOf_18 : decode b_PngWriter_chainOf 18 = .ok (.iconst 1, 1) := by decide +kernel
theorem d_PngWriter_chainOf_19 : decode b_PngWriter_chainOf 19 = .ok (.iadd, 1) := by decide +kernel
theorem d_PngWriter_chainOf_20 : decode b_PngWriter_chainOf 20 = .ok (.baload, 1) := by decide +kernel
theorem d_PngWriter_chainOf_21 : decode b_PngWriter_chainOf 21 = .ok (.sipush 255, 3) := by decide +kernel
theorem d_PngWriter_chainOf_24 : decode b_PngWriter_chainOf 24 = .ok (.iand, 1) := by decide +kernel
theorem d_PngWriter_chainOf_25 : decode b_PngWriter_chainOf 25 = .ok (.bipush 8, 2) := by decide +kernel
theorem d_PngWriter_chainOf_27 : decode b_PngWriter_chainOf 27 = .ok (.ishl, 1) := by decide +kernel
theorem d_PngWriter_chainOf_28 : decode b_PngWriter_chainOf 28 = .ok (.ior, 1) := by decide +kernel
theorem d_PngWriter_chainOf_29 : decode b_PngWriter_chainOf 29 = .ok (.aload_n 0, 1) := by decide +kernel
theorem d_PngWriter_chainOf_30 : decode b_PngWriter_chainOf 30 = .ok (.getfield 28, 3) := by decide +kernel
theorem d_PngWriter_chainOf_33 : decode b_PngWriter_chainOf 33 = .ok (.iload_n 1, 1) := by decide +kernel
theorem d_PngWriter_chainOf_34 : decode b_PngWriter_chainOf 34 = .ok (.iconst 2, 1) := by decide +kernel
theorem d_PngWriter_chainOf_35 : decode b_PngWriter_chainOf 35 = .ok (.iadd, 1) := by decide +kernel
theorem d_PngWriter_chainOf_36 : decode b_PngWriter_chainOf 36 = .ok (.baload, 1) := by decide +kernel
theorem d_PngWriter_chainOf_37 : decode b_PngWriter_chainOf 37 = .ok (.sipush 255, 3) := by decide +kernel
theorem d_PngWriter_chainOf_40 : decode b_PngWriter_chainOf 40 = .ok (.iand, 1) := by decide +kernel
theorem d_PngWriter_chainOf_41 : decode b_PngWriter_chainOf 41 = .ok (.ior, 1) := by decide +kernel
theorem d_PngWriter_chainOf_42 : decode b_PngWriter_chainOf 42 = .ok (.istore_n 2, 1) := by decide +kernel
theorem d_PngWriter_chainOf_43 : decode b_PngWriter_chainOf 43 = .ok (.iload_n 2, 1) := by decide +kernel
theorem d_PngWriter_chainOf_44 : decode b_PngWriter_chainOf 44 = .ok (.ldc 142, 2) := by decide +kernel
theorem d_PngWriter_chainOf_46 : decode b_PngWriter_chainOf 46 = .ok (.imul, 1) := by decide +kernel
theorem d_PngWriter_chainOf_47 : decode b_PngWriter_chainOf 47 = .ok (.bipush 20, 2) := by decide +kernel
theorem d_PngWriter_chainOf_49 : decode b_PngWriter_chainOf 49 = .ok (.iushr, 1) := by decide +kernel
theorem d_PngWriter_chainOf_50 : decode b_PngWriter_chainOf 50 = .ok (.ireturn, 1) := by decide +kernel
def f_PngWriter_chainOf  (x1 : Int32) (a_t_rows : Nat → Int32) : Option (Int32 × Unit) := (if inb x1 147456 = true then (if inb (x1 + 1) 147456 = true then (if inb (x1 + 2) 147456 = true then some (((((((((a_t_rows (x1 : Int32).toNatClampNeg) &&& 255) <<< ((16 : Int32) &&& 31)) ||| (((a_t_rows ((x1 + 1) : Int32).toNatClampNeg) &&& 255) <<< ((8 : Int32) &&& 31))) ||| ((a_t_rows ((x1 + 2) : Int32).toNatClampNeg) &&& 255)) * (-1640531527)) : Int32).toUInt32 >>> ((20 : Int32).toUInt32 &&& Int32.toUInt32 31)).toInt32, ()) else none) else none) else none)
set_option maxHeartbeats 400000 in
set_option maxRecDepth 100000 in
theorem c_PngWriter_chainOf {l : Launch} (hfl : l.flags = flags0) (dC : Nat → ClassId) (dI : Nat → Nat → Nat) (h_t : Nat) (h_t_rows : Nat) (h_t_lastPlaces : Nat) (h_t_placesBefore : Nat) (k_t_rows : ClassId) (w_t_total : Int32) (w_t_copyLength : Int32) (w_t_copyDistance : Int32) (sz : Nat) (x1 : Int32) (a_t_rows : Nat → Int32) {o : Int32 × Unit} (h : f_PngWriter_chainOf x1 a_t_rows = some o) : MetX l y_PngWriter_chainOf (Cond.code y_PngWriter_chainOf b_PngWriter_chainOf 3 (some .int) :: lw_g) (rmx 0 0 0 0) (vx_Pre dC dI [(k_t_rows, .byte)] [.ref h_t, .int x1] sz (ws_PngWriter_chainOf h_t h_t_rows h_t_lastPlaces h_t_placesBefore k_t_rows w_t_total w_t_copyLength w_t_copyDistance a_t_rows)) (vx_Q vl_i (.inl o) (fun u t => vx_B dC dI [(k_t_rows, .byte)] (va_A (ws_PngWriter_chainOf h_t h_t_rows h_t_lastPlaces h_t_placesBefore k_t_rows w_t_total w_t_copyLength w_t_copyDistance a_t_rows) sz) (w1_PngWriter_chainOf h_t h_t_rows h_t_lastPlaces h_t_placesBefore k_t_rows w_t_total w_t_copyLength w_t_copyDistance a_t_rows u) t) (va_A (ws_PngWriter_chainOf h_t h_t_rows h_t_lastPlaces h_t_placesBefore k_t_rows w_t_total w_t_copyLength w_t_copyDistance a_t_rows) sz)) 0 0 (va_A (ws_PngWriter_chainOf h_t h_t_rows h_t_lastPlaces h_t_placesBefore k_t_rows w_t_total w_t_copyLength w_t_copyDistance a_t_rows) sz) := by
  refine MetX.ofW (cc := b_PngWriter_chainOf) (maxL := 3) (ret := (some .int)) (by decide +kernel) rfl ?_
  intro p e s m args below meth c s₁ B hml hv
  obtain ⟨rfl, rfl, C, hP, hD, hS⟩ := dc_entry hfl B hml hv
  have hl := lv_entry ([.ref h_t, .int x1]) (n := 3) (Nat.le_of_ble_eq_true rfl)
  rw [lg_entry_eq]
  generalize (lg_sl ([.ref h_t, .int x1]) ++ List.replicate (3 - (lg_sl ([.ref h_t, .int x1])).length) Slot.unset).toArray = ls at hl ⊢
  have hl : lv_has ls 3 [(0, .ref h_t), (1, .int x1)] := hl
  generalize hAe : va_A (ws_PngWriter_chainOf h_t h_t_rows h_t_lastPlaces h_t_placesBefore k_t_rows w_t_total w_t_copyLength w_t_copyDistance a_t_rows) s.heap.size = A at C hD hS ⊢
  generalize (headSpec (Cond.code y_PngWriter_chainOf b_PngWriter_chainOf 3 (some .int) :: lw_g) (rmx 0 0 0 0)).room = R at C ⊢
  have C : cx p l e R s m _ meth c dC dI A R_PngWriter b_PngWriter_chainOf 3 (some .int) 0 0 [(k_t_rows, .byte)] := C
  obtain ⟨hx, hb, hr, hml, hown, hts, hlk, hK, hA, hV, htr, hex, hF, hL, hfl⟩ := id C
  unfold f_PngWriter_chainOf at h
  revert hP hS
  generalize hH : s.heap = H
  generalize hLo : ([] : List Loc) = locs
  intro hP hS
  have hS : va_S A s.heap H locs := by rw [hH]; exact hS
  refine lv_aload_n hx hb d_PngWriter_chainOf_0 rfl (lv_at hl 0 rfl) ?_
  refine va_get (D := (dC, dI)) (ci := 10) (v := .ref h_t_rows) (C := R_PngWriter) (T := F_PngWriter) (N := 6) hx hb hts i_PngWriter hown hK hP 0 rfl rfl 0 (by decide) (hts _ (lg_in2 (List.mem_of_getElem? (i := 18) rfl) rfl)) (fun _ h9 => h9) rfl d_PngWriter_chainOf_1 ?_
  refine lv_iload_n hx hb d_PngWriter_chainOf_4 rfl (lv_at hl 1 rfl) ?_
  obtain ⟨hi_5, h⟩ := dc_in h
  refine va_bald hx hb hK hP 1 0 rfl rfl hi_5 d_PngWriter_chainOf_5 ?_
  refine lv_sipush (v := 255) hx hb d_PngWriter_chainOf_6 (by decide) ?_
  refine lv_iand hx hb d_PngWriter_chainOf_9 ?_
  refine lv_bipush (v := 16) hx hb d_PngWriter_chainOf_10 (by decide) ?_
  refine lv_ishl hx hb d_PngWriter_chainOf_12 ?_
  refine lv_aload_n hx hb d_PngWriter_chainOf_13 rfl (lv_at hl 0 rfl) ?_
  refine va_get (D := (dC, dI)) (ci := 10) (v := .ref h_t_rows) (C := R_PngWriter) (T := F_PngWriter) (N := 6) hx hb hts i_PngWriter hown hK hP 0 rfl rfl 0 (by decide) (hts _ (lg_in2 (List.mem_of_getElem? (i := 18) rfl) rfl)) (fun _ h9 => h9) rfl d_PngWriter_chainOf_14 ?_
  refine lv_iload_n hx hb d_PngWriter_chainOf_17 rfl (lv_at hl 1 rfl) ?_
  refine lv_iconst (v := 1) hx hb d_PngWriter_chainOf_18 (by decide) ?_
  refine lv_iadd hx hb d_PngWriter_chainOf_19 ?_
  obtain ⟨hi_20, h⟩ := dc_in h
  refine va_bald hx hb hK hP 1 0 rfl rfl hi_20 d_PngWriter_chainOf_20 ?_
  refine lv_sipush (v := 255) hx hb d_PngWriter_chainOf_21 (by decide) ?_
  refine lv_iand hx hb d_PngWriter_chainOf_24 ?_
  refine lv_bipush (v := 8) hx hb d_PngWriter_chainOf_25 (by decide) ?_
  refine lv_ishl hx hb d_PngWriter_chainOf_27 ?_
  refine lv_ior hx hb d_PngWriter_chainOf_28 ?_
  refine lv_aload_n hx hb d_PngWriter_chainOf_29 rfl (lv_at hl 0 rfl) ?_
  refine va_get (D := (dC, dI)) (ci := 10) (v := .ref h_t_rows) (C := R_PngWriter) (T := F_PngWriter) (N := 6) hx hb hts i_PngWriter hown hK hP 0 rfl rfl 0 (by decide) (hts _ (lg_in2 (List.mem_of_getElem? (i := 18) rfl) rfl)) (fun _ h9 => h9) rfl d_PngWriter_chainOf_30 ?_
  refine lv_iload_n hx hb d_PngWriter_chainOf_33 rfl (lv_at hl 1 rfl) ?_
  refine lv_iconst (v := 2) hx hb d_PngWriter_chainOf_34 (by decide) ?_
  refine lv_iadd hx hb d_PngWriter_chainOf_35 ?_
  obtain ⟨hi_36, h⟩ := dc_in h
  refine va_bald hx hb hK hP 1 0 rfl rfl hi_36 d_PngWriter_chainOf_36 ?_
  refine lv_sipush (v := 255) hx hb d_PngWriter_chainOf_37 (by decide) ?_
  refine lv_iand hx hb d_PngWriter_chainOf_40 ?_
  refine lv_ior hx hb d_PngWriter_chainOf_41 ?_
  refine lv_istore_n (lv' := [(2, .int (((((a_t_rows (x1 : Int32).toNatClampNeg) &&& 255) <<< ((16 : Int32) &&& 31)) ||| (((a_t_rows ((x1 + 1) : Int32).toNatClampNeg) &&& 255) <<< ((8 : Int32) &&& 31))) ||| ((a_t_rows ((x1 + 2) : Int32).toNatClampNeg) &&& 255))), (0, .ref h_t), (1, .int x1)]) hx hb d_PngWriter_chainOf_42 rfl hl (by decide) rfl (fun ls hl => ?_)
  refine lv_iload_n hx hb d_PngWriter_chainOf_43 rfl (lv_at hl 0 rfl) ?_
  refine lv_ldc (v := (-1640531527)) hx hb hown (hts _ (lg_in6 (List.mem_of_getElem? (i := 201) rfl) rfl)) d_PngWriter_chainOf_44 ?_
  refine lv_imul hx hb d_PngWriter_chainOf_46 ?_
  refine lv_bipush (v := 20) hx hb d_PngWriter_chainOf_47 (by decide) ?_
  refine lv_iushr hx hb d_PngWriter_chainOf_49 rfl ?_
  cases h
  exact dc_iret C (v := (((((((((a_t_rows (x1 : Int32).toNatClampNeg) &&& 255) <<< ((16 : Int32) &&& 31)) ||| (((a_t_rows ((x1 + 1) : Int32).toNatClampNeg) &&& 255) <<< ((8 : Int32) &&& 31))) ||| ((a_t_rows ((x1 + 2) : Int32).toNatClampNeg) &&& 255)) * (-1640531527)) : Int32).toUInt32 >>> ((20 : Int32).toUInt32 &&& Int32.toUInt32 31)).toInt32)) (u := ()) (w1 := w1_PngWriter_chainOf h_t h_t_rows h_t_lastPlaces h_t_placesBefore k_t_rows w_t_total w_t_copyLength w_t_copyDistance a_t_rows) hP hD hS d_PngWriter_chainOf_50
def ws_PngWriter_remember (h_t : Nat) (h_t_rows : Nat) (h_t_lastPlaces : Nat) (h_t_placesBefore : Nat) (k_t_rows : ClassId) (k_t_lastPlaces : ClassId) (k_t_placesBefore : ClassId) (w_t_copyLength : Int32) (w_t_copyDistance : Int32) (t_total : Int32) (a_t_rows : Nat → Int32) (a_t_lastPlaces : Nat → Int32) (a_t_placesBefore : Nat → Int32) : va_W := [(h_t, .inr (10, [.ref h_t_rows, .ref h_t_lastPlaces, .ref h_t_placesBefore, .int t_total, .int w_t_copyLength, .int w_t_copyDistance])), (h_t_rows, .inl (k_t_rows, 147456, .inl a_t_rows)), (h_t_lastPlaces, .inl (k_t_lastPlaces, 4096, .inl a_t_lastPlaces)), (h_t_placesBefore, .inl (k_t_placesBefore, 4096, .inl a_t_placesBefore))]
abbrev w1_PngWriter_remember (h_t : Nat) (h_t_rows : Nat) (h_t_lastPlaces : Nat) (h_t_placesBefore : Nat) (k_t_rows : ClassId) (k_t_lastPlaces : ClassId) (k_t_placesBefore : ClassId) (w_t_copyLength : Int32) (w_t_copyDistance : Int32) (t_total : Int32) (a_t_rows : Nat → Int32) (u : (Nat → Int32) × (Nat → Int32)) : va_W := ws_PngWriter_remember h_t h_t_rows h_t_lastPlaces h_t_placesBefore k_t_rows k_t_lastPlaces k_t_placesBefore w_t_copyLength w_t_copyDistance t_total a_t_rows u.1 u.2
abbrev q_PngWriter_remember (below : List Frame) (args : Array Value) (s : State) (dC : Nat → ClassId) (dI : Nat → Nat → Nat) (A : Nat → Prop) (h_t : Nat) (h_t_rows : Nat) (h_t_lastPlaces : Nat) (h_t_placesBefore : Nat) (k_t_rows : ClassId) (k_t_lastPlaces : ClassId) (k_t_placesBefore : ClassId) (w_t_copyLength : Int32) (w_t_copyDistance : Int32) (t_total : Int32) (a_t_rows : Nat → Int32) (o : Unit × ((Nat → Int32) × (Nat → Int32))) : State → Prop := XQ below (vx_Q vl_v (.inl o) (fun u t => vx_B dC dI [(k_t_rows, .byte), (k_t_lastPlaces, .int), (k_t_placesBefore, .int)] A (w1_PngWriter_remember h_t h_t_rows h_t_lastPlaces h_t_placesBefore k_t_rows k_t_lastPlaces k_t_placesBefore w_t_copyLength w_t_copyDistance t_total a_t_rows u) t) A) args s 0 0 A
theorem d_PngWriter_remember_0 : decode b_PngWriter_remember 0 = .ok (.iload_n 1, 1) := by decide +kernel
theorem d_PngWriter_remember_1 : decode b_PngWriter_remember 1 = .ok (.aload_n 0, 1) := by decide +kernel
theorem d_PngWriter_remember_2 : decode b_PngWriter_remember 2 = .ok (.getfield 18, 3) := by decide +kernel
theorem d_PngWriter_remember_5 : decode b_PngWriter_remember 5 = .ok (.iconst 3, 1) := by decide +kernel
theorem d_PngWriter_remember_6 : decode b_PngWriter_remember 6 = .ok (.isub, 1) := by decide +kernel
theorem d_PngWriter_remember_7 : decode b_PngWriter_remember 7 = .ok (.if_icmp .le 4, 3) := by decide +kernel
theorem d_PngWriter_remember_10 : decode b_PngWriter_remember 10 = .ok (.return_, 1) := by decide +kernel
theorem d_PngWriter_remember_11 : decode b_PngWriter_remember 11 = .ok (.aload_n 0, 1) := by decide +kernel
theorem d_PngWriter_remember_12 : decode b_PngWriter_remember 12 = .ok (.iload_n 1, 1) := by decide +kernel
theorem d_PngWriter_remember_13 : decode b_PngWriter_remember 13 = .ok (.invokevirtual 143, 3) := by decide +kernel
theorem d_PngWriter_remember_16 : decode b_PngWriter_remember 16 = .ok (.istore_n 2, 1) := by decide +kernel
theorem d_PngWriter_remember_17 : decode b_PngWriter_remember 17 = .ok (.aload_n 0, 1) := by decide +kernel
theorem d_PngWriter_remember_18 : decode b_PngWriter_remember 18 = .ok (.getfield 15, 3) := by decide +kernel
theorem d_PngWriter_remember_21 : decode b_PngWriter_remember 21 = .ok (.iload_n 1, 1) := by decide +kernel
theorem d_PngWriter_remember_22 : decode b_PngWriter_remember 22 = .ok (.sipush 4095, 3) := by decide +kernel
theorem d_PngWriter_remember_25 : decode b_PngWriter_remember 25 = .ok (.iand, 1) := by decide +kernel
theorem d_PngWriter_remember_26 : decode b_PngWriter_remember 26 = .ok (.aload_n 0, 1) := by decide +kernel
theorem d_PngWriter_remember_27 : decode b_PngWriter_remember 27 = .ok (.getfield 11, 3) := by decide +kernel
theorem d_PngWriter_remember_30 : decode b_PngWriter_remember 30 = .ok (.iload_n 2, 1) := by decide +kernel
theorem d_PngWriter_remember_31 : decode b_PngWriter_remember 31 = .ok (.iaload, 1) := by decide +kernel
theorem d_PngWriter_remember_32 : decode b_PngWriter_remember 32 = .ok (.iastore, 1) := by decide +kernel
theorem d_PngWriter_remember_33 : decode b_PngWriter_remember 33 = .ok (.aload_n 0, 1) := by decide +kernel
theorem d_PngWriter_remember_34 : decode b_PngWriter_remember 34 = .ok (.getfield 11, 3) := by decide +kernel
theorem d_PngWriter_remember_37 : decode b_PngWriter_remember 37 = .ok (.iload_n 2, 1) := by decide +kernel
theorem d_PngWriter_remember_38 : decode b_PngWriter_remember 38 = .ok (.iload_n 1, 1) := by decide +kernel
theorem d_PngWriter_remember_39 : decode b_PngWriter_remember 39 = .ok (.iastore, 1) := by decide +kernel
theorem d_PngWriter_remember_40 : decode b_PngWriter_remember 40 = .ok (.return_, 1) := by decide +kernel
def f_PngWriter_remember  (x1 : Int32) (t_total : Int32) (a_t_rows : Nat → Int32) (a_t_lastPlaces : Nat → Int32) (a_t_placesBefore : Nat → Int32) : Option (Unit × ((Nat → Int32) × (Nat → Int32))) := (if x1 ≤ (t_total - 3) then (dc_bind (f_PngWriter_chainOf x1 a_t_rows) (fun r_13 => (if inb r_13.1 4096 = true then (if inb (x1 &&& 4095) 4096 = true then (if inb r_13.1 4096 = true then some ((), ((upd a_t_lastPlaces (r_13.1 : Int32).toNatClampNeg x1), (upd a_t_placesBefore ((x1 &&& 4095) : Int32).toNatClampNeg (a_t_lastPlaces (r_13.1 : Int32).toNatClampNeg)))) else none) else none) else none))) else (some ((), (a_t_lastPlaces, a_t_placesBefore))))
set_option maxHeartbeats 400000 in
set_option maxRecDepth 100000 in
theorem c_PngWriter_remember {l : Launch} (hfl : l.flags = flags0) (dC : Nat → ClassId) (dI : Nat → Nat → Nat) (h_t : Nat) (h_t_rows : Nat) (h_t_lastPlaces : Nat) (h_t_placesBefore : Nat) (k_t_rows : ClassId) (k_t_lastPlaces : ClassId) (k_t_placesBefore : ClassId) (w_t_copyLength : Int32) (w_t_copyDistance : Int32) (sz : Nat) (x1 : Int32) (t_total : Int32) (a_t_rows : Nat → Int32) (a_t_lastPlaces : Nat → Int32) (a_t_placesBefore : Nat → Int32) {o : Unit × ((Nat → Int32) × (Nat → Int32))} (h : f_PngWriter_remember x1 t_total a_t_rows a_t_lastPlaces a_t_placesBefore = some o) : MetX l y_PngWriter_remember (Cond.code y_PngWriter_remember b_PngWriter_remember 3 none :: lw_g) (rmx 1 22 0 0) (vx_Pre dC dI [(k_t_rows, .byte), (k_t_lastPlaces, .int), (k_t_placesBefore, .int)] [.ref h_t, .int x1] sz (ws_PngWriter_remember h_t h_t_rows h_t_lastPlaces h_t_placesBefore k_t_rows k_t_lastPlaces k_t_placesBefore w_t_copyLength w_t_copyDistance t_total a_t_rows a_t_lastPlaces a_t_placesBefore)) (vx_Q vl_v (.inl o) (fun u t => vx_B dC dI [(k_t_rows, .byte), (k_t_lastPlaces, .int), (k_t_placesBefore, .int)] (va_A (ws_PngWriter_remember h_t h_t_rows h_t_lastPlaces h_t_placesBefore k_t_rows k_t_lastPlaces k_t_placesBefore w_t_copyLength w_t_copyDistance t_total a_t_rows a_t_lastPlaces a_t_placesBefore) sz) (w1_PngWriter_remember h_t h_t_rows h_t_lastPlaces h_t_placesBefore k_t_rows k_t_lastPlaces k_t_placesBefore w_t_copyLength w_t_copyDistance t_total a_t_rows u) t) (va_A (ws_PngWriter_remember h_t h_t_rows h_t_lastPlaces h_t_placesBefore k_t_rows k_t_lastPlaces k_t_placesBefore w_t_copyLength w_t_copyDistance t_total a_t_rows a_t_lastPlaces a_t_placesBefore) sz)) 0 0 (va_A (ws_PngWriter_remember h_t h_t_rows h_t_lastPlaces h_t_placesBefore k_t_rows k_t_lastPlaces k_t_placesBefore w_t_copyLength w_t_copyDistance t_total a_t_rows a_t_lastPlaces a_t_placesBefore) sz) := by
  refine MetX.ofW (cc := b_PngWriter_remember) (maxL := 3) (ret := none) (by decide +kernel) rfl ?_
  intro p e s m args below meth c s₁ B hml hv
  obtain ⟨rfl, rfl, C, hP, hD, hS⟩ := dc_entry hfl B hml hv
  have hl := lv_entry ([.ref h_t, .int x1]) (n := 3) (Nat.le_of_ble_eq_true rfl)
  rw [lg_entry_eq]
  generalize (lg_sl ([.ref h_t, .int x1]) ++ List.replicate (3 - (lg_sl ([.ref h_t, .int x1])).length) Slot.unset).toArray = ls at hl ⊢
  have hl : lv_has ls 3 [(0, .ref h_t), (1, .int x1)] := hl
  generalize hAe : va_A (ws_PngWriter_remember h_t h_t_rows h_t_lastPlaces h_t_placesBefore k_t_rows k_t_lastPlaces k_t_placesBefore w_t_copyLength w_t_copyDistance t_total a_t_rows a_t_lastPlaces a_t_placesBefore) s.heap.size = A at C hD hS ⊢
  generalize (headSpec (Cond.code y_PngWriter_remember b_PngWriter_remember 3 none :: lw_g) (rmx 1 22 0 0)).room = R at C ⊢
  have C : cx p l e R s m _ meth c dC dI A R_PngWriter b_PngWriter_remember 3 none 1 22 [(k_t_rows, .byte), (k_t_lastPlaces, .int), (k_t_placesBefore, .int)] := C
  obtain ⟨hx, hb, hr, hml, hown, hts, hlk, hK, hA, hV, htr, hex, hF, hL, hfl⟩ := id C
  unfold f_PngWriter_remember at h
  revert hP hS
  generalize hH : s.heap = H
  generalize hLo : ([] : List Loc) = locs
  intro hP hS
  have hS : va_S A s.heap H locs := by rw [hH]; exact hS
  refine lv_iload_n hx hb d_PngWriter_remember_0 rfl (lv_at hl 1 rfl) ?_
  refine lv_aload_n hx hb d_PngWriter_remember_1 rfl (lv_at hl 0 rfl) ?_
  refine va_get (D := (dC, dI)) (ci := 10) (v := .int t_total) (C := R_PngWriter) (T := F_PngWriter) (N := 6) hx hb hts i_PngWriter hown hK hP 0 rfl rfl 3 (by decide) (hts _ (lg_in2 (List.mem_of_getElem? (i := 21) rfl) rfl)) (fun _ h9 => h9) rfl d_PngWriter_remember_2 ?_
  refine lv_iconst (v := 3) hx hb d_PngWriter_remember_5 (by decide) ?_
  refine lv_isub hx hb d_PngWriter_remember_6 ?_
  refine lv_icmp_le (tgt := 11) hx hb d_PngWriter_remember_7 (by decide) (fun c_7 => ?_) (fun c_7 => ?_)
  · have h := dc_t c_7 h
    refine lv_aload_n hx hb d_PngWriter_remember_11 rfl (lv_at hl 0 rfl) ?_
    refine lv_iload_n hx hb d_PngWriter_remember_12 rfl (lv_at hl 1 rfl) ?_
    obtain ⟨r_13, hg_13, h⟩ := dc_bindE h
    refine dc_callV (y := y_PngWriter_chainOf) (bytes := b_PngWriter_chainOf) (maxL := 3) (ret' := (some .int)) (fr' := 0) (lo' := 0) (n := 1) (val := vl_i) (o := r_13) (tysc := [(k_t_rows, .byte)]) (As := [.int x1]) (rest := []) (wc := (ws_PngWriter_chainOf h_t h_t_rows h_t_lastPlaces h_t_placesBefore k_t_rows t_total w_t_copyLength w_t_copyDistance a_t_rows)) (wr := [(h_t_lastPlaces, .inl (k_t_lastPlaces, 4096, .inl a_t_lastPlaces)), (h_t_placesBefore, .inl (k_t_placesBefore, 4096, .inl a_t_placesBefore))]) (w1 := w1_PngWriter_chainOf h_t h_t_rows h_t_lastPlaces h_t_placesBefore k_t_rows t_total w_t_copyLength w_t_copyDistance a_t_rows) C cw_PngWriter_chainOf (lg_in1 (List.mem_of_getElem? (i := 9) rfl) rfl) (lg_in6 (List.mem_of_getElem? (i := 197) rfl) rfl) (lg_in6 (List.mem_of_getElem? (i := 199) rfl) rfl) (lg_memS (List.mem_of_getElem? (i := 58) rfl) rfl) (ci := 10) (cq := (R_PngWriter, F_PngWriter, 6)) (q0 := 0) rfl rfl rfl (c_PngWriter_chainOf hfl dC dI h_t h_t_rows h_t_lastPlaces h_t_placesBefore k_t_rows t_total w_t_copyLength w_t_copyDistance H.size x1 a_t_rows hg_13) (by decide +kernel) ⟨Nat.le_of_ble_eq_true rfl, Nat.le_of_ble_eq_true rfl⟩ rfl rfl (Nat.le_of_ble_eq_true rfl) d_PngWriter_remember_13 hP hD hS hl.1 [0, 1] [2, 3] [0] rfl rfl rfl rfl (by decide) rfl (fun H locs hP hD hS => ?_)
    have hP : va_P (dC, dI) classes (ws_PngWriter_remember h_t h_t_rows h_t_lastPlaces h_t_placesBefore k_t_rows k_t_lastPlaces k_t_placesBefore w_t_copyLength w_t_copyDistance t_total a_t_rows a_t_lastPlaces a_t_placesBefore) H := hP.sub [2, 3, 0, 1] rfl
    have hD : va_D A (ws_PngWriter_remember h_t h_t_rows h_t_lastPlaces h_t_placesBefore k_t_rows k_t_lastPlaces k_t_placesBefore w_t_copyLength w_t_copyDistance t_total a_t_rows a_t_lastPlaces a_t_placesBefore) := hD.sub [2, 3, 0, 1] (by decide) rfl
    show W p l e R s m _ below meth c H locs 0 0 _ (F0 m 16 ls [.int r_13.1])
    refine lv_istore_n (lv' := [(2, .int r_13.1), (0, .ref h_t), (1, .int x1)]) hx hb d_PngWriter_remember_16 rfl hl (by decide) rfl (fun ls hl => ?_)
    refine lv_aload_n hx hb d_PngWriter_remember_17 rfl (lv_at hl 1 rfl) ?_
    refine va_get (D := (dC, dI)) (ci := 10) (v := .ref h_t_placesBefore) (C := R_PngWriter) (T := F_PngWriter) (N := 6) hx hb hts i_PngWriter hown hK hP 0 rfl rfl 2 (by decide) (hts _ (lg_in2 (List.mem_of_getElem? (i := 20) rfl) rfl)) (fun _ h9 => h9) rfl d_PngWriter_remember_18 ?_
    refine lv_iload_n hx hb d_PngWriter_remember_21 rfl (lv_at hl 2 rfl) ?_
    refine lv_sipush (v := 4095) hx hb d_PngWriter_remember_22 (by decide) ?_
    refine lv_iand hx hb d_PngWriter_remember_25 ?_
    refine lv_aload_n hx hb d_PngWriter_remember_26 rfl (lv_at hl 1 rfl) ?_
    refine va_get (D := (dC, dI)) (ci := 10) (v := .ref h_t_lastPlaces) (C := R_PngWriter) (T := F_PngWriter) (N := 6) hx hb hts i_PngWriter hown hK hP 0 rfl rfl 1 (by decide) (hts _ (lg_in2 (List.mem_of_getElem? (i := 19) rfl) rfl)) (fun _ h9 => h9) rfl d_PngWriter_remember_27 ?_
    refine lv_iload_n hx hb d_PngWriter_remember_30 rfl (lv_at hl 0 rfl) ?_
    obtain ⟨hi_31, h⟩ := dc_in h
    refine va_iald hx hb hK hP 2 1 rfl rfl hi_31 d_PngWriter_remember_31 ?_
    obtain ⟨hi_32, h⟩ := dc_in h
    refine va_iast hx hb hK hP hD hS 3 2 rfl rfl hi_32 d_PngWriter_remember_32 (fun H locs hP hD hS => ?_)
    have hP : va_P (dC, dI) classes (ws_PngWriter_remember h_t h_t_rows h_t_lastPlaces h_t_placesBefore k_t_rows k_t_lastPlaces k_t_placesBefore w_t_copyLength w_t_copyDistance t_total a_t_rows a_t_lastPlaces (upd a_t_placesBefore ((x1 &&& 4095) : Int32).toNatClampNeg (a_t_lastPlaces (r_13.1 : Int32).toNatClampNeg))) H := hP
    have hD : va_D A (ws_PngWriter_remember h_t h_t_rows h_t_lastPlaces h_t_placesBefore k_t_rows k_t_lastPlaces k_t_placesBefore w_t_copyLength w_t_copyDistance t_total a_t_rows a_t_lastPlaces (upd a_t_placesBefore ((x1 &&& 4095) : Int32).toNatClampNeg (a_t_lastPlaces (r_13.1 : Int32).toNatClampNeg))) := hD
    refine lv_aload_n hx hb d_PngWriter_remember_33 rfl (lv_at hl 1 rfl) ?_
    refine va_get (D := (dC, dI)) (ci := 10) (v := .ref h_t_lastPlaces) (C := R_PngWriter) (T := F_PngWriter) (N := 6) hx hb hts i_PngWriter hown hK hP 0 rfl rfl 1 (by decide) (hts _ (lg_in2 (List.mem_of_getElem? (i := 19) rfl) rfl)) (fun _ h9 => h9) rfl d_PngWriter_remember_34 ?_
    refine lv_iload_n hx hb d_PngWriter_remember_37 rfl (lv_at hl 0 rfl) ?_
    refine lv_iload_n hx hb d_PngWriter_remember_38 rfl (lv_at hl 2 rfl) ?_
    obtain ⟨hi_39, h⟩ := dc_in h
    refine va_iast hx hb hK hP hD hS 2 1 rfl rfl hi_39 d_PngWriter_remember_39 (fun H locs hP hD hS => ?_)
    have hP : va_P (dC, dI) classes (ws_PngWriter_remember h_t h_t_rows h_t_lastPlaces h_t_placesBefore k_t_rows k_t_lastPlaces k_t_placesBefore w_t_copyLength w_t_copyDistance t_total a_t_rows (upd a_t_lastPlaces (r_13.1 : Int32).toNatClampNeg x1) (upd a_t_placesBefore ((x1 &&& 4095) : Int32).toNatClampNeg (a_t_lastPlaces (r_13.1 : Int32).toNatClampNeg))) H := hP
    have hD : va_D A (ws_PngWriter_remember h_t h_t_rows h_t_lastPlaces h_t_placesBefore k_t_rows k_t_lastPlaces k_t_placesBefore w_t_copyLength w_t_copyDistance t_total a_t_rows (upd a_t_lastPlaces (r_13.1 : Int32).toNatClampNeg x1) (upd a_t_placesBefore ((x1 &&& 4095) : Int32).toNatClampNeg (a_t_lastPlaces (r_13.1 : Int32).toNatClampNeg))) := hD
    cases h
    exact dc_vret C (u := ((upd a_t_lastPlaces (r_13.1 : Int32).toNatClampNeg x1), (upd a_t_placesBefore ((x1 &&& 4095) : Int32).toNatClampNeg (a_t_lastPlaces (r_13.1 : Int32).toNatClampNeg)))) (w1 := w1_PngWriter_remember h_t h_t_rows h_t_lastPlaces h_t_placesBefore k_t_rows k_t_lastPlaces k_t_placesBefore w_t_copyLength w_t_copyDistance t_total a_t_rows) hP hD hS d_PngWriter_remember_40
  have h := dc_f c_7 h
  cases h
  exact dc_vret C (u := (a_t_lastPlaces, a_t_placesBefore)) (w1 := w1_PngWriter_remember h_t h_t_rows h_t_lastPlaces h_t_placesBefore k_t_rows k_t_lastPlaces k_t_placesBefore w_t_copyLength w_t_copyDistance t_total a_t_rows) hP hD hS d_PngWriter_remember_10
def ws_PngWriter_commonLength (h_t : Nat) (h_t_rows : Nat) (h_t_lastPlaces : Nat) (h_t_placesBefore : Nat) (k_t_rows : ClassId) (w_t_total : Int32) (w_t_copyDistance : Int32) (t_copyLength : Int32) (a_t_rows : Nat → Int32) : va_W := [(h_t, .inr (10, [.ref h_t_rows, .ref h_t_lastPlaces, .ref h_t_placesBefore, .int w_t_total, .int t_copyLength, .int w_t_copyDistance])), (h_t_rows, .inl (k_t_rows, 147456, .inl a_t_rows))]
abbrev w1_PngWriter_commonLength (h_t : Nat) (h_t_rows : Nat) (h_t_lastPlaces : Nat) (h_t_placesBefore : Nat) (k_t_rows : ClassId) (w_t_total : Int32) (w_t_copyDistance : Int32) (t_copyLength : Int32) (a_t_rows : Nat → Int32) (u : Unit) : va_W := ws_PngWriter_commonLength h_t h_t_rows h_t_lastPlaces h_t_placesBefore k_t_rows w_t_total w_t_copyDistance t_copyLength a_t_rows
abbrev q_PngWriter_commonLength (below : List Frame) (args : Array Value) (s : State) (dC : Nat → ClassId) (dI : Nat → Nat → Nat) (A : Nat → Prop) (h_t : Nat) (h_t_rows : Nat) (h_t_lastPlaces : Nat) (h_t_placesBefore : Nat) (k_t_rows : ClassId) (w_t_total : Int32) (w_t_copyDistance : Int32) (t_copyLength : Int32) (a_t_rows : Nat → Int32) (o : Int32 × Unit) : State → Prop := XQ below (vx_Q vl_i (.inl o) (fun u t => vx_B dC dI [(k_t_rows, .byte)] A (w1_PngWriter_commonLength h_t h_t_rows h_t_lastPlaces h_t_placesBefore k_t_rows w_t_total w_t_copyDistance t_copyLength a_t_rows u) t) A) args s 0 0 A
theorem d_PngWriter_commonLength_0 : decode b_PngWriter_commonLength 0 = .ok (.aload_n 0, 1) := by decide +kernel
theorem d_PngWriter_commonLength_1 : decode b_PngWriter_commonLength 1 = .ok (.getfield 28, 3) := by decide +kernel
theorem d_PngWriter_commonLength_4 : decode b_PngWriter_commonLength 4 = .ok (.iload_n 1, 1) := by decide +kernel
theorem d_PngWriter_commonLength_5 : decode b_PngWriter_commonLength 5 = .ok (.aload_n 0, 1) := by decide +kernel
theorem d_PngWriter_commonLength_6 : decode b_PngWriter_commonLength 6 = .ok (.getfield 22, 3) := by decide +kernel
theorem d_PngWriter_commonLength_9 : decode b_PngWriter_commonLength 9 = .ok (.iadd, 1) := by decide +kernel
theorem d_PngWriter_commonLength_10 : decode b_PngWriter_commonLength 10 = .ok (.baload, 1) := by decide +kernel
theorem d_PngWriter_commonLength_11 : decode b_PngWriter_commonLength 11 = .ok (.aload_n 0, 1) := by decide +kernel
theorem d_PngWriter_commonLength_12 : decode b_PngWriter_commonLength 12 = .ok (.getfield 28, 3) := by decide +kernel
theorem d_PngWriter_commonLength_15 : decode b_PngWriter_commonLength 15 = .ok (.iload_n 2, 1) := by decide +kernel
theorem d_PngWriter_commonLength_16 : decode b_PngWriter_commonLength 16 = .ok (.aload_n 0, 1) := by decide +kernel
theorem d_PngWriter_commonLength_17 : decode b_PngWriter_commonLength 17 = .ok (.getfield 22, 3) := by decide +kernel
theorem d_PngWriter_commonLength_20 : decode b_PngWriter_commonLength 20 = .ok (.iadd, 1) := by decide +kernel
theorem d_PngWriter_commonLength_21 : decode b_PngWriter_commonLength 21 = .ok (.baload, 1) := by decide +kernel
theorem d_PngWriter_commonLength_22 : decode b_PngWriter_commonLength 22 = .ok (.if_icmp .eq 5, 3) := by decide +kernel
theorem d_PngWriter_commonLength_25 : decode b_PngWriter_commonLength 25 = .ok (.iconst 0, 1) := by decide +kernel
theorem d_PngWriter_commonLength_26 : decode b_PngWriter_commonLength 26 = .ok (.ireturn, 1) := by decide +kernel
theorem d_PngWriter_commonLength_27 : decode b_PngWriter_commonLength 27 = .ok (.iconst 0, 1) := by decide +kernel
theorem d_PngWriter_commonLength_28 : decode b_PngWriter_commonLength 28 = .ok (.istore 4, 2) := by decide +kernel
theorem d_PngWriter_commonLength_30 : decode b_PngWriter_commonLength 30 = .ok (.iload 4, 2) := by decide +kernel
theorem d_PngWriter_commonLength_32 : decode b_PngWriter_commonLength 32 = .ok (.iload_n 3, 1) := by decide +kernel
theorem d_PngWriter_commonLength_33 : decode b_PngWriter_commonLength 33 = .ok (.if_icmp .ge 30, 3) := by decide +kernel
theorem d_PngWriter_commonLength_36 : decode b_PngWriter_commonLength 36 = .ok (.aload_n 0, 1) := by decide +kernel
theorem d_PngWriter_commonLength_37 : decode b_PngWriter_commonLength 37 = .ok (.getfield 28, 3) := by decide +kernel
theorem d_PngWriter_commonLength_40 : decode b_PngWriter_commonLength 40 = .ok (.iload_n 1, 1) := by decide +kernel
theorem d_PngWriter_commonLength_41 : decode b_PngWriter_commonLength 41 = .ok (.iload 4, 2) := by decide +kernel
theorem d_PngWriter_commonLength_43 : decode b_PngWriter_commonLength 43 = .ok (.iadd, 1) := by decide +kernel
theorem d_PngWriter_commonLength_44 : decode b_PngWriter_commonLength 44 = .ok (.baload, 1) := by decide +kernel
theorem d_PngWriter_commonLength_45 : decode b_PngWriter_commonLength 45 = .ok (.aload_n 0, 1) := by decide +kernel
theorem d_PngWriter_commonLength_46 : decode b_PngWriter_commonLength 46 = .ok (.getfield 28, 3) := by decide +kernel
theorem d_PngWriter_commonLength_49 : decode b_PngWriter_commonLength 49 = .ok (.iload_n 2, 1) := by decide +kernel
theorem d_PngWriter_commonLength_50 : decode b_PngWriter_commonLength 50 = .ok (.iload 4, 2) := by decide +kernel
theorem d_PngWriter_commonLength_52 : decode b_PngWriter_commonLength 52 = .ok (.iadd, 1) := by decide +kernel
theorem d_PngWriter_commonLength_53 : decode b_PngWriter_commonLength 53 = .ok (.baload, 1) := by decide +kernel
theorem d_PngWriter_commonLength_54 : decode b_PngWriter_commonLength 54 = .ok (.if_icmp .ne 9, 3) := by decide +kernel
theorem d_PngWriter_commonLength_57 : decode b_PngWriter_commonLength 57 = .ok (.iinc 4 1, 3) := by decide +kernel
theorem d_PngWriter_commonLength_60 : decode b_PngWriter_commonLength 60 = .ok (.goto (-30), 3) := by decide +kernel
theorem d_PngWriter_commonLength_63 : decode b_PngWriter_commonLength 63 = .ok (.iload 4, 2) := by decide +kernel
theorem d_PngWriter_commonLength_65 : decode b_PngWriter_commonLength 65 = .ok (.ireturn, 1) := by decide +kernel
def at_PngWriter_commonLength_30 (p : Program) (l : Launch) (e : Env) (R : Room) (s : State) (m : MethodId) (args : Array Value) (below : List Frame) (meth : Method) (c : Code) (dC : Nat → ClassId) (dI : Nat → Nat → Nat) (A : Nat → Prop) (Q : State → Prop) (h_t : Nat) (h_t_rows : Nat) (h_t_lastPlaces : Nat) (h_t_placesBefore : Nat) (k_t_rows : ClassId) (w_t_total : Int32) (w_t_copyDistance : Int32) (t_copyLength : Int32) (a_t_rows : Nat → Int32) (x1 : Int32) (x2 : Int32) (x3 : Int32) (x4 : Int32) : Prop := ∀ (H : Heap) (locs : List Loc) (ls : Array Slot), va_P (dC, dI) classes (ws_PngWriter_commonLength h_t h_t_rows h_t_lastPlaces h_t_placesBefore k_t_rows w_t_total w_t_copyDistance t_copyLength a_t_rows) H → va_D A (ws_PngWriter_commonLength h_t h_t_rows h_t_lastPlaces h_t_placesBefore k_t_rows w_t_total w_t_copyDistance t_copyLength a_t_rows) → va_S A s.heap H locs → lv_has ls 5 [(0, .ref h_t), (1, .int x1), (2, .int x2), (3, .int x3), (4, .int x4)] → W p l e R s m args below meth c H locs 0 0 Q (F0 m 30 ls [])
def at_PngWriter_commonLength_63 (p : Program) (l : Launch) (e : Env) (R : Room) (s : State) (m : MethodId) (args : Array Value) (below : List Frame) (meth : Method) (c : Code) (dC : Nat → ClassId) (dI : Nat → Nat → Nat) (A : Nat → Prop) (Q : State → Prop) (h_t : Nat) (h_t_rows : Nat) (h_t_lastPlaces : Nat) (h_t_placesBefore : Nat) (k_t_rows : ClassId) (w_t_total : Int32) (w_t_copyDistance : Int32) (t_copyLength : Int32) (a_t_rows : Nat → Int32) (x4 : Int32) : Prop := ∀ (H : Heap) (locs : List Loc) (ls : Array Slot), va_P (dC, dI) classes (ws_PngWriter_commonLength h_t h_t_rows h_t_lastPlaces h_t_placesBefore k_t_rows w_t_total w_t_copyDistance t_copyLength a_t_rows) H → va_D A (ws_PngWriter_commonLength h_t h_t_rows h_t_lastPlaces h_t_placesBefore k_t_rows w_t_total w_t_copyDistance t_copyLength a_t_rows) → va_S A s.heap H locs → lv_has ls 5 [(0, .ref h_t), (4, .int x4)] → W p l e R s m args below meth c H locs 0 0 Q (F0 m 63 ls [])
def f_PngWriter_commonLength_63 (K : Nat)  (t_copyLength : Int32) (a_t_rows : Nat → Int32) (x4 : Int32) : Option (Int32 × Unit) := some (x4, ())
def f_PngWriter_commonLength_30 (K : Nat)  (rec : Int32 → Option (Int32)) (t_copyLength : Int32) (a_t_rows : Nat → Int32) (x1 : Int32) (x2 : Int32) (x3 : Int32) (x4 : Int32) : Option (Int32) := (if x3 ≤ x4 then (some x4) else ((if inb (x1 + x4) 147456 = true then (if inb (x2 + x4) 147456 = true then (if (a_t_rows ((x1 + x4) : Int32).toNatClampNeg) = (a_t_rows ((x2 + x4) : Int32).toNatClampNeg) then (rec (x4 + 1)) else (some x4)) else none) else none)))
def f_PngWriter_commonLength_L30 (K : Nat)  (t_copyLength : Int32) (a_t_rows : Nat → Int32) (x1 : Int32) (x2 : Int32) (x3 : Int32) : Nat → Int32 → Option (Int32)
  | 0, _ => none
  | n + 1, x4 => f_PngWriter_commonLength_30 K  (f_PngWriter_commonLength_L30 K  t_copyLength a_t_rows x1 x2 x3 n) t_copyLength a_t_rows x1 x2 x3 x4
def f_PngWriter_commonLength (K : Nat)  (x1 : Int32) (x2 : Int32) (x3 : Int32) (t_copyLength : Int32) (a_t_rows : Nat → Int32) : Option (Int32 × Unit) := (if inb (x1 + t_copyLength) 147456 = true then (if inb (x2 + t_copyLength) 147456 = true then (if (a_t_rows ((x1 + t_copyLength) : Int32).toNatClampNeg) = (a_t_rows ((x2 + t_copyLength) : Int32).toNatClampNeg) then (dc_bind (f_PngWriter_commonLength_L30 K t_copyLength a_t_rows x1 x2 x3 K 0) (fun v_63 => f_PngWriter_commonLength_63 K t_copyLength a_t_rows v_63)) else (some (0, ()))) else none) else none)
set_option maxHeartbeats 400000 in
set_option maxRecDepth 100000 in
theorem w_PngWriter_commonLength_63 {p : Program} {l : Launch} {e : Env} {R : Room} {s : State} {m : MethodId} {args : Array Value} {below : List Frame} {meth : Method} {c : Code} {dC : Nat → ClassId} {dI : Nat → Nat → Nat} {A : Nat → Prop} {h_t : Nat} {h_t_rows : Nat} {h_t_lastPlaces : Nat} {h_t_placesBefore : Nat} {k_t_rows : ClassId} {w_t_total : Int32} {w_t_copyDistance : Int32} (C : cx p l e R s m args meth c dC dI A R_PngWriter b_PngWriter_commonLength 5 (some .int) 0 0 [(k_t_rows, .byte)]) {K : Nat} {o : Int32 × Unit} {t_copyLength : Int32} {a_t_rows : Nat → Int32} {x4 : Int32}  (h : f_PngWriter_commonLength_63 K  t_copyLength a_t_rows x4 = some o) : at_PngWriter_commonLength_63 p l e R s m args below meth c dC dI A (q_PngWriter_commonLength below args s dC dI A h_t h_t_rows h_t_lastPlaces h_t_placesBefore k_t_rows w_t_total w_t_copyDistance t_copyLength a_t_rows o) h_t h_t_rows h_t_lastPlaces h_t_placesBefore k_t_rows w_t_total w_t_copyDistance t_copyLength a_t_rows x4 := by
  refine fun H locs ls hP hD hS hl => ?_
  obtain ⟨hx, hb, hr, hml, hown, hts, hlk, hK, hA, hV, htr, hex, hF, hL, hfl⟩ := id C
  unfold f_PngWriter_commonLength_63 at h
  refine lv_iload hx hb d_PngWriter_commonLength_63 (lv_at hl 1 rfl) ?_
  cases h
  exact dc_iret C (v := x4) (u := ()) (w1 := w1_PngWriter_commonLength h_t h_t_rows h_t_lastPlaces h_t_placesBefore k_t_rows w_t_total w_t_copyDistance t_copyLength a_t_rows) hP hD hS d_PngWriter_commonLength_65
set_option maxHeartbeats 400000 in
set_option maxRecDepth 100000 in
theorem w_PngWriter_commonLength_30 {p : Program} {l : Launch} {e : Env} {R : Room} {s : State} {m : MethodId} {args : Array Value} {below : List Frame} {meth : Method} {c : Code} {dC : Nat → ClassId} {dI : Nat → Nat → Nat} {A : Nat → Prop} {Q : State → Prop} {h_t : Nat} {h_t_rows : Nat} {h_t_lastPlaces : Nat} {h_t_placesBefore : Nat} {k_t_rows : ClassId} {w_t_total : Int32} {w_t_copyDistance : Int32} (C : cx p l e R s m args meth c dC dI A R_PngWriter b_PngWriter_commonLength 5 (some .int) 0 0 [(k_t_rows, .byte)]) {K : Nat} {out : Int32} {t_copyLength : Int32} {a_t_rows : Nat → Int32} {x1 : Int32} {x2 : Int32} {x3 : Int32} {x4 : Int32} {rec : Int32 → Option (Int32)}  (hex0 : ∀ v : Int32, out = v → at_PngWriter_commonLength_63 p l e R s m args below meth c dC dI A Q h_t h_t_rows h_t_lastPlaces h_t_placesBefore k_t_rows w_t_total w_t_copyDistance t_copyLength a_t_rows v) (hrec : ∀ (x4 : Int32), rec x4 = some out → at_PngWriter_commonLength_30 p l e R s m args below meth c dC dI A Q h_t h_t_rows h_t_lastPlaces h_t_placesBefore k_t_rows w_t_total w_t_copyDistance t_copyLength a_t_rows x1 x2 x3 x4) (h : f_PngWriter_commonLength_30 K  rec t_copyLength a_t_rows x1 x2 x3 x4 = some out) : at_PngWriter_commonLength_30 p l e R s m args below meth c dC dI A Q h_t h_t_rows h_t_lastPlaces h_t_placesBefore k_t_rows w_t_total w_t_copyDistance t_copyLength a_t_rows x1 x2 x3 x4 := by
  refine fun H locs ls hP hD hS hl => ?_
  obtain ⟨hx, hb, hr, hml, hown, hts, hlk, hK, hA, hV, htr, hex, hF, hL, hfl⟩ := id C
  unfold f_PngWriter_commonLength_30 at h
  refine lv_iload hx hb d_PngWriter_commonLength_30 (lv_at hl 4 rfl) ?_
  refine lv_iload_n hx hb d_PngWriter_commonLength_32 rfl (lv_at hl 3 rfl) ?_
  refine lv_icmp_ge (tgt := 63) hx hb d_PngWriter_commonLength_33 (by decide) (fun c_33 => ?_) (fun c_33 => ?_)
  · have h := dc_t c_33 h
    cases h
    exact hex0 _ rfl H locs ls hP hD hS (lv_sub hl [0, 4] rfl)
  have h := dc_f c_33 h
  refine lv_aload_n hx hb d_PngWriter_commonLength_36 rfl (lv_at hl 0 rfl) ?_
  refine va_get (D := (dC, dI)) (ci := 10) (v := .ref h_t_rows) (C := R_PngWriter) (T := F_PngWriter) (N := 6) hx hb hts i_PngWriter hown hK hP 0 rfl rfl 0 (by decide) (hts _ (lg_in2 (List.mem_of_getElem? (i := 18) rfl) rfl)) (fun _ h9 => h9) rfl d_PngWriter_commonLength_37 ?_
  refine lv_iload_n hx hb d_PngWriter_commonLength_40 rfl (lv_at hl 1 rfl) ?_
  refine lv_iload hx hb d_PngWriter_commonLength_41 (lv_at hl 4 rfl) ?_
  refine lv_iadd hx hb d_PngWriter_commonLength_43 ?_
  obtain ⟨hi_44, h⟩ := dc_in h
  refine va_bald hx hb hK hP 1 0 rfl rfl hi_44 d_PngWriter_commonLength_44 ?_
  refine lv_aload_n hx hb d_PngWriter_commonLength_45 rfl (lv_at hl 0 rfl) ?_
  refine va_get (D := (dC, dI)) (ci := 10) (v := .ref h_t_rows) (C := R_PngWriter) (T := F_PngWriter) (N := 6) hx hb hts i_PngWriter hown hK hP 0 rfl rfl 0 (by decide) (hts _ (lg_in2 (List.mem_of_getElem? (i := 18) rfl) rfl)) (fun _ h9 => h9) rfl d_PngWriter_commonLength_46 ?_
  refine lv_iload_n hx hb d_PngWriter_commonLength_49 rfl (lv_at hl 2 rfl) ?_
  refine lv_iload hx hb d_PngWriter_commonLength_50 (lv_at hl 4 rfl) ?_
  refine lv_iadd hx hb d_PngWriter_commonLength_52 ?_
  obtain ⟨hi_53, h⟩ := dc_in h
  refine va_bald hx hb hK hP 1 0 rfl rfl hi_53 d_PngWriter_commonLength_53 ?_
  refine lv_icmp_ne (tgt := 63) hx hb d_PngWriter_commonLength_54 (by decide) (fun c_54 => ?_) (fun c_54 => ?_)
  · have h := dc_f c_54 h
    cases h
    exact hex0 _ rfl H locs ls hP hD hS (lv_sub hl [0, 4] rfl)
  have h := dc_t c_54 h
  refine lv_iinc (v := (x4 + 1)) (lv' := [(4, .int (x4 + 1)), (0, .ref h_t), (1, .int x1), (2, .int x2), (3, .int x3)]) hx hb d_PngWriter_commonLength_57 hl (k := 4) rfl rfl (by decide) rfl (fun ls hl => ?_)
  refine lv_goto (tgt := 30) hx hb d_PngWriter_commonLength_60 (by decide) ?_
  exact hrec _ h H locs ls hP hD hS (lv_sub hl [1, 2, 3, 4, 0] rfl)
set_option maxHeartbeats 400000 in
set_option maxRecDepth 100000 in
theorem w_PngWriter_commonLength_L30 {p : Program} {l : Launch} {e : Env} {R : Room} {s : State} {m : MethodId} {args : Array Value} {below : List Frame} {meth : Method} {c : Code} {dC : Nat → ClassId} {dI : Nat → Nat → Nat} {A : Nat → Prop} {Q : State → Prop} {h_t : Nat} {h_t_rows : Nat} {h_t_lastPlaces : Nat} {h_t_placesBefore : Nat} {k_t_rows : ClassId} {w_t_total : Int32} {w_t_copyDistance : Int32} (C : cx p l e R s m args meth c dC dI A R_PngWriter b_PngWriter_commonLength 5 (some .int) 0 0 [(k_t_rows, .byte)]) {K : Nat} {out : Int32} {t_copyLength : Int32} {a_t_rows : Nat → Int32} {x1 : Int32} {x2 : Int32} {x3 : Int32} (hex0 : ∀ v : Int32, out = v → at_PngWriter_commonLength_63 p l e R s m args below meth c dC dI A Q h_t h_t_rows h_t_lastPlaces h_t_placesBefore k_t_rows w_t_total w_t_copyDistance t_copyLength a_t_rows v) : ∀ (n : Nat) (x4 : Int32), f_PngWriter_commonLength_L30 K  t_copyLength a_t_rows x1 x2 x3 n x4 = some out → at_PngWriter_commonLength_30 p l e R s m args below meth c dC dI A Q h_t h_t_rows h_t_lastPlaces h_t_placesBefore k_t_rows w_t_total w_t_copyDistance t_copyLength a_t_rows x1 x2 x3 x4 := by
  intro n
  induction n with
  | zero =>
    intro x4 h
    exact nomatch (show (none : Option (Int32)) = some out from h)
  | succ n ih =>
    intro x4 h
    exact w_PngWriter_commonLength_30 C hex0 ih h
set_option maxHeartbeats 400000 in
set_option maxRecDepth 100000 in
theorem c_PngWriter_commonLength {l : Launch} (hfl : l.flags = flags0) (dC : Nat → ClassId) (dI : Nat → Nat → Nat) (h_t : Nat) (h_t_rows : Nat) (h_t_lastPlaces : Nat) (h_t_placesBefore : Nat) (k_t_rows : ClassId) (w_t_total : Int32) (w_t_copyDistance : Int32) (sz : Nat) (K : Nat) (x1 : Int32) (x2 : Int32) (x3 : Int32) (t_copyLength : Int32) (a_t_rows : Nat → Int32) {o : Int32 × Unit} (h : f_PngWriter_commonLength K x1 x2 x3 t_copyLength a_t_rows = some o) : MetX l y_PngWriter_commonLength (Cond.code y_PngWriter_commonLength b_PngWriter_commonLength 5 (some .int) :: lw_g) (rmx 0 0 0 0) (vx_Pre dC dI [(k_t_rows, .byte)] [.ref h_t, .int x1, .int x2, .int x3] sz (ws_PngWriter_commonLength h_t h_t_rows h_t_lastPlaces h_t_placesBefore k_t_rows w_t_total w_t_copyDistance t_copyLength a_t_rows)) (vx_Q vl_i (.inl o) (fun u t => vx_B dC dI [(k_t_rows, .byte)] (va_A (ws_PngWriter_commonLength h_t h_t_rows h_t_lastPlaces h_t_placesBefore k_t_rows w_t_total w_t_copyDistance t_copyLength a_t_rows) sz) (w1_PngWriter_commonLength h_t h_t_rows h_t_lastPlaces h_t_placesBefore k_t_rows w_t_total w_t_copyDistance t_copyLength a_t_rows u) t) (va_A (ws_PngWriter_commonLength h_t h_t_rows h_t_lastPlaces h_t_placesBefore k_t_rows w_t_total w_t_copyDistance t_copyLength a_t_rows) sz)) 0 0 (va_A (ws_PngWriter_commonLength h_t h_t_rows h_t_lastPlaces h_t_placesBefore k_t_rows w_t_total w_t_copyDistance t_copyLength a_t_rows) sz) := by
  refine MetX.ofW (cc := b_PngWriter_commonLength) (maxL := 5) (ret := (some .int)) (by decide +kernel) rfl ?_
  intro p e s m args below meth c s₁ B hml hv
  obtain ⟨rfl, rfl, C, hP, hD, hS⟩ := dc_entry hfl B hml hv
  have hl := lv_entry ([.ref h_t, .int x1, .int x2, .int x3]) (n := 5) (Nat.le_of_ble_eq_true rfl)
  rw [lg_entry_eq]
  generalize (lg_sl ([.ref h_t, .int x1, .int x2, .int x3]) ++ List.replicate (5 - (lg_sl ([.ref h_t, .int x1, .int x2, .int x3])).length) Slot.unset).toArray = ls at hl ⊢
  have hl : lv_has ls 5 [(0, .ref h_t), (1, .int x1), (2, .int x2), (3, .int x3)] := hl
  generalize hAe : va_A (ws_PngWriter_commonLength h_t h_t_rows h_t_lastPlaces h_t_placesBefore k_t_rows w_t_total w_t_copyDistance t_copyLength a_t_rows) s.heap.size = A at C hD hS ⊢
  generalize (headSpec (Cond.code y_PngWriter_commonLength b_PngWriter_commonLength 5 (some .int) :: lw_g) (rmx 0 0 0 0)).room = R at C ⊢
  have C : cx p l e R s m _ meth c dC dI A R_PngWriter b_PngWriter_commonLength 5 (some .int) 0 0 [(k_t_rows, .byte)] := C
  obtain ⟨hx, hb, hr, hml, hown, hts, hlk, hK, hA, hV, htr, hex, hF, hL, hfl⟩ := id C
  unfold f_PngWriter_commonLength at h
  revert hP hS
  generalize hH : s.heap = H
  generalize hLo : ([] : List Loc) = locs
  intro hP hS
  have hS : va_S A s.heap H locs := by rw [hH]; exact hS
  refine lv_aload_n hx hb d_PngWriter_commonLength_0 rfl (lv_at hl 0 rfl) ?_
  refine va_get (D := (dC, dI)) (ci := 10) (v := .ref h_t_rows) (C := R_PngWriter) (T := F_PngWriter) (N := 6) hx hb hts i_PngWriter hown hK hP 0 rfl rfl 0 (by decide) (hts _ (lg_in2 (List.mem_of_getElem? (i := 18) rfl) rfl)) (fun _ h9 => h9) rfl d_PngWriter_commonLength_1 ?_
  refine lv_iload_n hx hb d_PngWriter_commonLength_4 rfl (lv_at hl 1 rfl) ?_
  refine lv_aload_n hx hb d_PngWriter_commonLength_5 rfl (lv_at hl 0 rfl) ?_
  refine va_get (D := (dC, dI)) (ci := 10) (v := .int t_copyLength) (C := R_PngWriter) (T := F_PngWriter) (N := 6) hx hb hts i_PngWriter hown hK hP 0 rfl rfl 4 (by decide) (hts _ (lg_in2 (List.mem_of_getElem? (i := 22) rfl) rfl)) (fun _ h9 => h9) rfl d_PngWriter_commonLength_6 ?_
  refine lv_iadd hx hb d_PngWriter_commonLength_9 ?_
  obtain ⟨hi_10, h⟩ := dc_in h
  refine va_bald hx hb hK hP 1 0 rfl rfl hi_10 d_PngWriter_commonLength_10 ?_
  refine lv_aload_n hx hb d_PngWriter_commonLength_11 rfl (lv_at hl 0 rfl) ?_
  refine va_get (D := (dC, dI)) (ci := 10) (v := .ref h_t_rows) (C := R_PngWriter) (T := F_PngWriter) (N := 6) hx hb hts i_PngWriter hown hK hP 0 rfl rfl 0 (by decide) (hts _ (lg_in2 (List.mem_of_getElem? (i := 18) rfl) rfl)) (fun _ h9 => h9) rfl d_PngWriter_commonLength_12 ?_
  refine lv_iload_n hx hb d_PngWriter_commonLength_15 rfl (lv_at hl 2 rfl) ?_
  refine lv_aload_n hx hb d_PngWriter_commonLength_16 rfl (lv_at hl 0 rfl) ?_
  refine va_get (D := (dC, dI)) (ci := 10) (v := .int t_copyLength) (C := R_PngWriter) (T := F_PngWriter) (N := 6) hx hb hts i_PngWriter hown hK hP 0 rfl rfl 4 (by decide) (hts _ (lg_in2 (List.mem_of_getElem? (i := 22) rfl) rfl)) (fun _ h9 => h9) rfl d_PngWriter_commonLength_17 ?_
  refine lv_iadd hx hb d_PngWriter_commonLength_20 ?_
  obtain ⟨hi_21, h⟩ := dc_in h
  refine va_bald hx hb hK hP 1 0 rfl rfl hi_21 d_PngWriter_commonLength_21 ?_
  refine lv_icmp_eq (tgt := 27) hx hb d_PngWriter_commonLength_22 (by decide) (fun c_22 => ?_) (fun c_22 => ?_)
  · have h := dc_t c_22 h
    refine lv_iconst (v := 0) hx hb d_PngWriter_commonLength_27 (by decide) ?_
    refine lv_istore (lv' := [(4, .int 0), (0, .ref h_t), (1, .int x1), (2, .int x2), (3, .int x3)]) hx hb d_PngWriter_commonLength_28 hl (by decide) rfl (fun ls hl => ?_)
    obtain ⟨r_30, hg_30, h⟩ := dc_bindE h
    refine w_PngWriter_commonLength_L30 C ?_ K _ hg_30 H locs ls hP hD hS (lv_sub hl [1, 2, 3, 4, 0] rfl)
    · refine fun v_63 hr => ?_
      subst r_30
      refine fun H locs ls hP hD hS hl => ?_
      exact w_PngWriter_commonLength_63 C h H locs ls hP hD hS (lv_sub hl [0, 1] rfl)
  have h := dc_f c_22 h
  refine lv_iconst (v := 0) hx hb d_PngWriter_commonLength_25 (by decide) ?_
  cases h
  exact dc_iret C (v := 0) (u := ()) (w1 := w1_PngWriter_commonLength h_t h_t_rows h_t_lastPlaces h_t_placesBefore k_t_rows w_t_total w_t_copyDistance t_copyLength a_t_rows) hP hD hS d_PngWriter_commonLength_26
def ws_PngWriter_findCopy (h_t : Nat) (h_t_rows : Nat) (h_t_lastPlaces : Nat) (h_t_placesBefore : Nat) (k_t_rows : ClassId) (k_t_lastPlaces : ClassId) (k_t_placesBefore : ClassId) (t_total : Int32) (t_copyLength : Int32) (t_copyDistance : Int32) (a_t_rows : Nat → Int32) (a_t_lastPlaces : Nat → Int32) (a_t_placesBefore : Nat → Int32) : va_W := [(h_t, .inr (10, [.ref h_t_rows, .ref h_t_lastPlaces, .ref h_t_placesBefore, .int t_total, .int t_copyLength, .int t_copyDistance])), (h_t_rows, .inl (k_t_rows, 147456, .inl a_t_rows)), (h_t_lastPlaces, .inl (k_t_lastPlaces, 4096, .inl a_t_lastPlaces)), (h_t_placesBefore, .inl (k_t_placesBefore, 4096, .inl a_t_placesBefore))]
abbrev w1_PngWriter_findCopy (h_t : Nat) (h_t_rows : Nat) (h_t_lastPlaces : Nat) (h_t_placesBefore : Nat) (k_t_rows : ClassId) (k_t_lastPlaces : ClassId) (k_t_placesBefore : ClassId) (t_total : Int32) (a_t_rows : Nat → Int32) (a_t_lastPlaces : Nat → Int32) (a_t_placesBefore : Nat → Int32) (u : Int32 × Int32) : va_W := ws_PngWriter_findCopy h_t h_t_rows h_t_lastPlaces h_t_placesBefore k_t_rows k_t_lastPlaces k_t_placesBefore t_total u.1 u.2 a_t_rows a_t_lastPlaces a_t_placesBefore
abbrev q_PngWriter_findCopy (below : List Frame) (args : Array Value) (s : State) (dC : Nat → ClassId) (dI : Nat → Nat → Nat) (A : Nat → Prop) (h_t : Nat) (h_t_rows : Nat) (h_t_lastPlaces : Nat) (h_t_placesBefore : Nat) (k_t_rows : ClassId) (k_t_lastPlaces : ClassId) (k_t_placesBefore : ClassId) (t_total : Int32) (a_t_rows : Nat → Int32) (a_t_lastPlaces : Nat → Int32) (a_t_placesBefore : Nat → Int32) (o : Unit × (Int32 × Int32)) : State → Prop := XQ below (vx_Q vl_v (.inl o) (fun u t => vx_B dC dI [(k_t_rows, .byte), (k_t_lastPlaces, .int), (k_t_placesBefore, .int)] A (w1_PngWriter_findCopy h_t h_t_rows h_t_lastPlaces h_t_placesBefore k_t_rows k_t_lastPlaces k_t_placesBefore t_total a_t_rows a_t_lastPlaces a_t_placesBefore u) t) A) args s 0 0 A
theorem d_PngWriter_findCopy_0 : decode b_PngWriter_findCopy 0 = .ok (.aload_n 0, 1) := by decide +kernel
theorem d_PngWriter_findCopy_1 : decode b_PngWriter_findCopy 1 = .ok (.iconst 0, 1) := by decide +kernel
theorem d_PngWriter_findCopy_2 : decode b_PngWriter_findCopy 2 = .ok (.putfield 22, 3) := by decide +kernel
theorem d_PngWriter_findCopy_5 : decode b_PngWriter_findCopy 5 = .ok (.aload_n 0, 1) := by decide +kernel
theorem d_PngWriter_findCopy_6 : decode b_PngWriter_findCopy 6 = .ok (.iconst 0, 1) := by decide +kernel
theorem d_PngWriter_findCopy_7 : decode b_PngWriter_findCopy 7 = .ok (.putfield 25, 3) := by decide +kernel
theorem d_PngWriter_findCopy_10 : decode b_PngWriter_findCopy 10 = .ok (.iload_n 1, 1) := by decide +kernel
theorem d_PngWriter_findCopy_11 : decode b_PngWriter_findCopy 11 = .ok (.aload_n 0, 1) := by decide +kernel
theorem d_PngWriter_findCopy_12 : decode b_PngWriter_findCopy 12 = .ok (.getfield 18, 3) := by decide +kernel
theorem d_PngWriter_findCopy_15 : decode b_PngWriter_findCopy 15 = .ok (.iconst 3, 1) := by decide +kernel
theorem d_PngWriter_findCopy_16 : decode b_PngWriter_findCopy 16 = .ok (.isub, 1) := by decide +kernel
theorem d_PngWriter_findCopy_17 : decode b_PngWriter_findCopy 17 = .ok (.if_icmp .le 4, 3) := by decide +kernel
theorem d_PngWriter_findCopy_20 : decode b_PngWriter_findCopy 20 = .ok (.return_, 1) := by decide +kernel
theorem d_PngWriter_findCopy_21 : decode b_PngWriter_findCopy 21 = .ok (.sipush 258, 3) := by decide +kernel
theorem d_PngWriter_findCopy_24 : decode b_PngWriter_findCopy 24 = .ok (.aload_n 0, 1) := by decide +kernel
theorem d_PngWriter_findCopy_25 : decode b_PngWriter_findCopy 25 = .ok (.getfield 18, 3) := by decide +kernel
theorem d_PngWriter_findCopy_28 : decode b_PngWriter_findCopy 28 = .ok (.iload_n 1, 1) := by decide +kernel
theorem d_PngWriter_findCopy_29 : decode b_PngWriter_findCopy 29 = .ok (.isub, 1) := by decide +kernel
theorem d_PngWriter_findCopy_30 : decode b_PngWriter_findCopy 30 = .ok (.invokestatic 146, 3) := by decide +kernel
theorem d_PngWriter_findCopy_33 : decode b_PngWriter_findCopy 33 = .ok (.istore_n 2, 1) := by decide +kernel
theorem d_PngWriter_findCopy_34 : decode b_PngWriter_findCopy 34 = .ok (.aload_n 0, 1) := by decide +kernel
theorem d_PngWriter_findCopy_35 : decode b_PngWriter_findCopy 35 = .ok (.getfield 11, 3) := by decide +kernel
theorem d_PngWriter_findCopy_38 : decode b_PngWriter_findCopy 38 = .ok (.aload_n 0, 1) := by decide +kernel
theorem d_PngWriter_findCopy_39 : decode b_PngWriter_findCopy 39 = .ok (.iload_n 1, 1) := by decide +kernel
theorem d_PngWriter_findCopy_40 : decode b_PngWriter_findCopy 40 = .ok (.invokevirtual 143, 3) := by decide +kernel
theorem d_PngWriter_findCopy_43 : decode b_PngWriter_findCopy 43 = .ok (.iaload, 1) := by decide +kernel
theorem d_PngWriter_findCopy_44 : decode b_PngWriter_findCopy 44 = .ok (.istore_n 3, 1) := by decide +kernel
theorem d_PngWriter_findCopy_45 : decode b_PngWriter_findCopy 45 = .ok (.iconst 0, 1) := by decide +kernel
theorem d_PngWriter_findCopy_46 : decode b_PngWriter_findCopy 46 = .ok (.istore 4, 2) := by decide +kernel
theorem d_PngWriter_findCopy_48 : decode b_PngWriter_findCopy 48 = .ok (.iload 4, 2) := by decide +kernel
theorem d_PngWriter_findCopy_50 : decode b_PngWriter_findCopy 50 = .ok (.sipush 4096, 3) := by decide +kernel
theorem d_PngWriter_findCopy_53 : decode b_PngWriter_findCopy 53 = .ok (.if_icmp .ge 79, 3) := by decide +kernel
theorem d_PngWriter_findCopy_56 : decode b_PngWriter_findCopy 56 = .ok (.aload_n 0, 1) := by decide +kernel
theorem d_PngWriter_findCopy_57 : decode b_PngWriter_findCopy 57 = .ok (.getfield 22, 3) := by decide +kernel
theorem d_PngWriter_findCopy_60 : decode b_PngWriter_findCopy 60 = .ok (.iload_n 2, 1) := by decide +kernel
theorem d_PngWriter_findCopy_61 : decode b_PngWriter_findCopy 61 = .ok (.if_icmp .ge 71, 3) := by decide +kernel
theorem d_PngWriter_findCopy_64 : decode b_PngWriter_findCopy 64 = .ok (.iload_n 3, 1) := by decide +kernel
theorem d_PngWriter_findCopy_65 : decode b_PngWriter_findCopy 65 = .ok (.ifCond .lt 12, 3) := by decide +kernel
theorem d_PngWriter_findCopy_68 : decode b_PngWriter_findCopy 68 = .ok (.iload_n 3, 1) := by decide +kernel
theorem d_PngWriter_findCopy_69 : decode b_PngWriter_findCopy 69 = .ok (.iload_n 1, 1) := by decide +kernel
theorem d_PngWriter_findCopy_70 : decode b_PngWriter_findCopy 70 = .ok (.sipush 4096, 3) := by decide +kernel
theorem d_PngWriter_findCopy_73 : decode b_PngWriter_findCopy 73 = .ok (.isub, 1) := by decide +kernel
theorem d_PngWriter_findCopy_74 : decode b_PngWriter_findCopy 74 = .ok (.if_icmp .ge 4, 3) := by decide +kernel
theorem d_PngWriter_findCopy_77 : decode b_PngWriter_findCopy 77 = .ok (.return_, 1) := by decide +kernel
theorem d_PngWriter_findCopy_78 : decode b_PngWriter_findCopy 78 = .ok (.aload_n 0, 1) := by decide +kernel
theorem d_PngWriter_findCopy_79 : decode b_PngWriter_findCopy 79 = .ok (.iload_n 3, 1) := by decide +kernel
theorem d_PngWriter_findCopy_80 : decode b_PngWriter_findCopy 80 = .ok (.iload_n 1, 1) := by decide +kernel
theorem d_PngWriter_findCopy_81 : decode b_PngWriter_findCopy 81 = .ok (.iload_n 2, 1) := by decide +kernel
theorem d_PngWriter_findCopy_82 : decode b_PngWriter_findCopy 82 = .ok (.invokevirtual 150, 3) := by decide +kernel
theorem d_PngWriter_findCopy_85 : decode b_PngWriter_findCopy 85 = .ok (.istore 5, 2) := by decide +kernel
theorem d_PngWriter_findCopy_87 : decode b_PngWriter_findCopy 87 = .ok (.iload 5, 2) := by decide +kernel
theorem d_PngWriter_findCopy_89 : decode b_PngWriter_findCopy 89 = .ok (.iconst 3, 1) := by decide +kernel
theorem d_PngWriter_findCopy_90 : decode b_PngWriter_findCopy 90 = .ok (.if_icmp .lt 25, 3) := by decide +kernel
theorem d_PngWriter_findCopy_93 : decode b_PngWriter_findCopy 93 = .ok (.iload 5, 2) := by decide +kernel
theorem d_PngWriter_findCopy_95 : decode b_PngWriter_findCopy 95 = .ok (.aload_n 0, 1) := by decide +kernel
theorem d_PngWriter_findCopy_96 : decode b_PngWriter_findCopy 96 = .ok (.getfield 22, 3) := by decide +kernel
theorem d_PngWriter_findCopy_99 : decode b_PngWriter_findCopy 99 = .ok (.if_icmp .le 16, 3) := by decide +kernel
theorem d_PngWriter_findCopy_102 : decode b_PngWriter_findCopy 102 = .ok (.aload_n 0, 1) := by decide +kernel
theorem d_PngWriter_findCopy_103 : decode b_PngWriter_findCopy 103 = .ok (.iload 5, 2) := by decide +kernel
theorem d_PngWriter_findCopy_105 : decode b_PngWriter_findCopy 105 = .ok (.putfield 22, 3) := by decide +kernel
theorem d_PngWriter_findCopy_108 : decode b_PngWriter_findCopy 108 = .ok (.aload_n 0, 1) := by decide +kernel
theorem d_PngWriter_findCopy_109 : decode b_PngWriter_findCopy 109 = .ok (.iload_n 1, 1) := by decide +kernel
theorem d_PngWriter_findCopy_110 : decode b_PngWriter_findCopy 110 = .ok (.iload_n 3, 1) := by decide +kernel
theorem d_PngWriter_findCopy_111 : decode b_PngWriter_findCopy 111 = .ok (.isub, 1) := by decide +kernel
theorem d_PngWriter_findCopy_112 : decode b_PngWriter_findCopy 112 = .ok (.putfield 25, 3) := by decide +kernel
theorem d_PngWriter_findCopy_115 : decode b_PngWriter_findCopy 115 = .ok (.aload_n 0, 1) := by decide +kernel
theorem d_PngWriter_findCopy_116 : decode b_PngWriter_findCopy 116 = .ok (.getfield 15, 3) := by decide +kernel
theorem d_PngWriter_findCopy_119 : decode b_PngWriter_findCopy 119 = .ok (.iload_n 3, 1) := by decide +kernel
theorem d_PngWriter_findCopy_120 : decode b_PngWriter_findCopy 120 = .ok (.sipush 4095, 3) := by decide +kernel
theorem d_PngWriter_findCopy_123 : decode b_PngWriter_findCopy 123 = .ok (.iand, 1) := by decide +kernel
theorem d_PngWriter_findCopy_124 : decode b_PngWriter_findCopy 124 = .ok (.iaload, 1) := by decide +kernel
theorem d_PngWriter_findCopy_125 : decode b_PngWriter_findCopy 125 = .ok (.istore_n 3, 1) := by decide +kernel
theorem d_PngWriter_findCopy_126 : decode b_PngWriter_findCopy 126 = .ok (.iinc 4 1, 3) := by decide +kernel
theorem d_PngWriter_findCopy_129 : decode b_PngWriter_findCopy 129 = .ok (.goto (-81), 3) := by decide +kernel
theorem d_PngWriter_findCopy_132 : decode b_PngWriter_findCopy 132 = .ok (.return_, 1) := by decide +kernel
def at_PngWriter_findCopy_48 (p : Program) (l : Launch) (e : Env) (R : Room) (s : State) (m : MethodId) (args : Array Value) (below : List Frame) (meth : Method) (c : Code) (dC : Nat → ClassId) (dI : Nat → Nat → Nat) (A : Nat → Prop) (Q : State → Prop) (h_t : Nat) (h_t_rows : Nat) (h_t_lastPlaces : Nat) (h_t_placesBefore : Nat) (k_t_rows : ClassId) (k_t_lastPlaces : ClassId) (k_t_placesBefore : ClassId) (t_total : Int32) (t_copyLength : Int32) (t_copyDistance : Int32) (a_t_rows : Nat → Int32) (a_t_lastPlaces : Nat → Int32) (a_t_placesBefore : Nat → Int32) (x1 : Int32) (x2 : Int32) (x3 : Int32) (x4 : Int32) : Prop := ∀ (H : Heap) (locs : List Loc) (ls : Array Slot), va_P (dC, dI) classes (ws_PngWriter_findCopy h_t h_t_rows h_t_lastPlaces h_t_placesBefore k_t_rows k_t_lastPlaces k_t_placesBefore t_total t_copyLength t_copyDistance a_t_rows a_t_lastPlaces a_t_placesBefore) H → va_D A (ws_PngWriter_findCopy h_t h_t_rows h_t_lastPlaces h_t_placesBefore k_t_rows k_t_lastPlaces k_t_placesBefore t_total t_copyLength t_copyDistance a_t_rows a_t_lastPlaces a_t_placesBefore) → va_S A s.heap H locs → lv_has ls 6 [(0, .ref h_t), (1, .int x1), (2, .int x2), (3, .int x3), (4, .int x4)] → W p l e R s m args below meth c H locs 0 0 Q (F0 m 48 ls [])
def at_PngWriter_findCopy_77 (p : Program) (l : Launch) (e : Env) (R : Room) (s : State) (m : MethodId) (args : Array Value) (below : List Frame) (meth : Method) (c : Code) (dC : Nat → ClassId) (dI : Nat → Nat → Nat) (A : Nat → Prop) (Q : State → Prop) (h_t : Nat) (h_t_rows : Nat) (h_t_lastPlaces : Nat) (h_t_placesBefore : Nat) (k_t_rows : ClassId) (k_t_lastPlaces : ClassId) (k_t_placesBefore : ClassId) (t_total : Int32) (t_copyLength : Int32) (t_copyDistance : Int32) (a_t_rows : Nat → Int32) (a_t_lastPlaces : Nat → Int32) (a_t_placesBefore : Nat → Int32)  : Prop := ∀ (H : Heap) (locs : List Loc) (ls : Array Slot), va_P (dC, dI) classes (ws_PngWriter_findCopy h_t h_t_rows h_t_lastPlaces h_t_placesBefore k_t_rows k_t_lastPlaces k_t_placesBefore t_total t_copyLength t_copyDistance a_t_rows a_t_lastPlaces a_t_placesBefore) H → va_D A (ws_PngWriter_findCopy h_t h_t_rows h_t_lastPlaces h_t_placesBefore k_t_rows k_t_lastPlaces k_t_placesBefore t_total t_copyLength t_copyDistance a_t_rows a_t_lastPlaces a_t_placesBefore) → va_S A s.heap H locs → lv_has ls 6 [(0, .ref h_t)] → W p l e R s m args below meth c H locs 0 0 Q (F0 m 77 ls [])
def at_PngWriter_findCopy_115 (p : Program) (l : Launch) (e : Env) (R : Room) (s : State) (m : MethodId) (args : Array Value) (below : List Frame) (meth : Method) (c : Code) (dC : Nat → ClassId) (dI : Nat → Nat → Nat) (A : Nat → Prop) (Q : State → Prop) (h_t : Nat) (h_t_rows : Nat) (h_t_lastPlaces : Nat) (h_t_placesBefore : Nat) (k_t_rows : ClassId) (k_t_lastPlaces : ClassId) (k_t_placesBefore : ClassId) (t_total : Int32) (t_copyLength : Int32) (t_copyDistance : Int32) (a_t_rows : Nat → Int32) (a_t_lastPlaces : Nat → Int32) (a_t_placesBefore : Nat → Int32) (x1 : Int32) (x2 : Int32) (x3 : Int32) (x4 : Int32) : Prop := ∀ (H : Heap) (locs : List Loc) (ls : Array Slot), va_P (dC, dI) classes (ws_PngWriter_findCopy h_t h_t_rows h_t_lastPlaces h_t_placesBefore k_t_rows k_t_lastPlaces k_t_placesBefore t_total t_copyLength t_copyDistance a_t_rows a_t_lastPlaces a_t_placesBefore) H → va_D A (ws_PngWriter_findCopy h_t h_t_rows h_t_lastPlaces h_t_placesBefore k_t_rows k_t_lastPlaces k_t_placesBefore t_total t_copyLength t_copyDistance a_t_rows a_t_lastPlaces a_t_placesBefore) → va_S A s.heap H locs → lv_has ls 6 [(0, .ref h_t), (1, .int x1), (2, .int x2), (3, .int x3), (4, .int x4)] → W p l e R s m args below meth c H locs 0 0 Q (F0 m 115 ls [])
def at_PngWriter_findCopy_132 (p : Program) (l : Launch) (e : Env) (R : Room) (s : State) (m : MethodId) (args : Array Value) (below : List Frame) (meth : Method) (c : Code) (dC : Nat → ClassId) (dI : Nat → Nat → Nat) (A : Nat → Prop) (Q : State → Prop) (h_t : Nat) (h_t_rows : Nat) (h_t_lastPlaces : Nat) (h_t_placesBefore : Nat) (k_t_rows : ClassId) (k_t_lastPlaces : ClassId) (k_t_placesBefore : ClassId) (t_total : Int32) (t_copyLength : Int32) (t_copyDistance : Int32) (a_t_rows : Nat → Int32) (a_t_lastPlaces : Nat → Int32) (a_t_placesBefore : Nat → Int32)  : Prop := ∀ (H : Heap) (locs : List Loc) (ls : Array Slot), va_P (dC, dI) classes (ws_PngWriter_findCopy h_t h_t_rows h_t_lastPlaces h_t_placesBefore k_t_rows k_t_lastPlaces k_t_placesBefore t_total t_copyLength t_copyDistance a_t_rows a_t_lastPlaces a_t_placesBefore) H → va_D A (ws_PngWriter_findCopy h_t h_t_rows h_t_lastPlaces h_t_placesBefore k_t_rows k_t_lastPlaces k_t_placesBefore t_total t_copyLength t_copyDistance a_t_rows a_t_lastPlaces a_t_placesBefore) → va_S A s.heap H locs → lv_has ls 6 [(0, .ref h_t)] → W p l e R s m args below meth c H locs 0 0 Q (F0 m 132 ls [])
def f_PngWriter_findCopy_132 (K : Nat)  (t_total : Int32) (t_copyLength : Int32) (t_copyDistance : Int32) (a_t_rows : Nat → Int32) (a_t_lastPlaces : Nat → Int32) (a_t_placesBefore : Nat → Int32)  : Option (Unit × (Int32 × Int32)) := some ((), (t_copyLength, t_copyDistance))
def f_PngWriter_findCopy_115 (K : Nat)  (rec : Int32 → Int32 → Int32 → Int32 → Option (((Int32 × Int32) ⊕ (Int32 × Int32)))) (t_total : Int32) (t_copyLength : Int32) (t_copyDistance : Int32) (a_t_rows : Nat → Int32) (a_t_lastPlaces : Nat → Int32) (a_t_placesBefore : Nat → Int32) (x1 : Int32) (x2 : Int32) (x3 : Int32) (x4 : Int32) : Option (((Int32 × Int32) ⊕ (Int32 × Int32))) := (if inb (x3 &&& 4095) 4096 = true then rec t_copyLength t_copyDistance (a_t_placesBefore ((x3 &&& 4095) : Int32).toNatClampNeg) (x4 + 1) else none)
def f_PngWriter_findCopy_77 (K : Nat)  (t_total : Int32) (t_copyLength : Int32) (t_copyDistance : Int32) (a_t_rows : Nat → Int32) (a_t_lastPlaces : Nat → Int32) (a_t_placesBefore : Nat → Int32)  : Option (Unit × (Int32 × Int32)) := some ((), (t_copyLength, t_copyDistance))
def f_PngWriter_findCopy_48 (K : Nat)  (rec : Int32 → Int32 → Int32 → Int32 → Option (((Int32 × Int32) ⊕ (Int32 × Int32)))) (t_total : Int32) (t_copyLength : Int32) (t_copyDistance : Int32) (a_t_rows : Nat → Int32) (a_t_lastPlaces : Nat → Int32) (a_t_placesBefore : Nat → Int32) (x1 : Int32) (x2 : Int32) (x3 : Int32) (x4 : Int32) : Option (((Int32 × Int32) ⊕ (Int32 × Int32))) := (if 4096 ≤ x4 then (some (.inr (t_copyLength, t_copyDistance))) else ((if x2 ≤ t_copyLength then (some (.inr (t_copyLength, t_copyDistance))) else ((if x3 < 0 then (some (.inl (t_copyLength, t_copyDistance))) else ((if (x1 - 4096) ≤ x3 then (dc_bind (f_PngWriter_commonLength K x3 x1 x2 t_copyLength a_t_rows) (fun r_82 => (if r_82.1 < 3 then (f_PngWriter_findCopy_115 K rec t_total t_copyLength t_copyDistance a_t_rows a_t_lastPlaces a_t_placesBefore x1 x2 x3 x4) else ((if r_82.1 ≤ t_copyLength then (f_PngWriter_findCopy_115 K rec t_total t_copyLength t_copyDistance a_t_rows a_t_lastPlaces a_t_placesBefore x1 x2 x3 x4) else (f_PngWriter_findCopy_115 K rec t_total r_82.1 (x1 - x3) a_t_rows a_t_lastPlaces a_t_placesBefore x1 x2 x3 x4)))))) else (some (.inl (t_copyLength, t_copyDistance))))))))))
def f_PngWriter_findCopy_L48 (K : Nat)  (t_total : Int32) (a_t_rows : Nat → Int32) (a_t_lastPlaces : Nat → Int32) (a_t_placesBefore : Nat → Int32) (x1 : Int32) (x2 : Int32) : Nat → Int32 → Int32 → Int32 → Int32 → Option (((Int32 × Int32) ⊕ (Int32 × Int32)))
  | 0, _, _, _, _ => none
  | n + 1, t_copyLength, t_copyDistance, x3, x4 => f_PngWriter_findCopy_48 K  (f_PngWriter_findCopy_L48 K  t_total a_t_rows a_t_lastPlaces a_t_placesBefore x1 x2 n) t_total t_copyLength t_copyDistance a_t_rows a_t_lastPlaces a_t_placesBefore x1 x2 x3 x4
def f_PngWriter_findCopy (K : Nat)  (x1 : Int32) (t_total : Int32) (t_copyLength : Int32) (t_copyDistance : Int32) (a_t_rows : Nat → Int32) (a_t_lastPlaces : Nat → Int32) (a_t_placesBefore : Nat → Int32) : Option (Unit × (Int32 × Int32)) := (if x1 ≤ (t_total - 3) then (dc_bind (f_PngWriter_chainOf x1 a_t_rows) (fun r_40 => (if inb r_40.1 4096 = true then dc_bind (f_PngWriter_findCopy_L48 K t_total a_t_rows a_t_lastPlaces a_t_placesBefore x1 (if (t_total - x1) < 258 then (t_total - x1) else 258) K 0 0 (a_t_lastPlaces (r_40.1 : Int32).toNatClampNeg) 0) (Sum.elim (fun v_77 => f_PngWriter_findCopy_77 K t_total v_77.1 v_77.2 a_t_rows a_t_lastPlaces a_t_placesBefore) (fun v_132 => f_PngWriter_findCopy_132 K t_total v_132.1 v_132.2 a_t_rows a_t_lastPlaces a_t_placesBefore)) else none))) else (some ((), (0, 0))))
set_option maxHeartbeats 400000 in
set_option maxRecDepth 100000 in
theorem w_PngWriter_findCopy_132 {p : Program} {l : Launch} {e : Env} {R : Room} {s : State} {m : MethodId} {args : Array Value} {below : List Frame} {meth : Method} {c : Code} {dC : Nat → ClassId} {dI : Nat → Nat → Nat} {A : Nat → Prop} {h_t : Nat} {h_t_rows : Nat} {h_t_lastPlaces : Nat} {h_t_placesBefore : Nat} {k_t_rows : ClassId} {k_t_lastPlaces : ClassId} {k_t_placesBefore : ClassId} (C : cx p l e R s m args meth c dC dI A R_PngWriter b_PngWriter_findCopy 6 none 1 40 [(k_t_rows, .byte), (k_t_lastPlaces, .int), (k_t_placesBefore, .int)]) {K : Nat} {o : Unit × (Int32 × Int32)} {t_total : Int32} {t_copyLength : Int32} {t_copyDistance : Int32} {a_t_rows : Nat → Int32} {a_t_lastPlaces : Nat → Int32} {a_t_placesBefore : Nat → Int32}   (h : f_PngWriter_findCopy_132 K  t_total t_copyLength t_copyDistance a_t_rows a_t_lastPlaces a_t_placesBefore = some o) : at_PngWriter_findCopy_132 p l e R s m args below meth c dC dI A (q_PngWriter_findCopy below args s dC dI A h_t h_t_rows h_t_lastPlaces h_t_placesBefore k_t_rows k_t_lastPlaces k_t_placesBefore t_total a_t_rows a_t_lastPlaces a_t_placesBefore o) h_t h_t_rows h_t_lastPlaces h_t_placesBefore k_t_rows k_t_lastPlaces k_t_placesBefore t_total t_copyLength t_copyDistance a_t_rows a_t_lastPlaces a_t_placesBefore := by
  refine fun H locs ls hP hD hS hl => ?_
  obtain ⟨hx, hb, hr, hml, hown, hts, hlk, hK, hA, hV, htr, hex, hF, hL, hfl⟩ := id C
  unfold f_PngWriter_findCopy_132 at h
  cases h
  exact dc_vret C (u := (t_copyLength, t_copyDistance)) (w1 := w1_PngWriter_findCopy h_t h_t_rows h_t_lastPlaces h_t_placesBefore k_t_rows k_t_lastPlaces k_t_placesBefore t_total a_t_rows a_t_lastPlaces a_t_placesBefore) hP hD hS d_PngWriter_findCopy_132
set_option maxHeartbeats 400000 in
set_option maxRecDepth 100000 in
theorem w_PngWriter_findCopy_115 {p : Program} {l : Launch} {e : Env} {R : Room} {s : State} {m : MethodId} {args : Array Value} {below : List Frame} {meth : Method} {c : Code} {dC : Nat → ClassId} {dI : Nat → Nat → Nat} {A : Nat → Prop} {Q : State → Prop} {h_t : Nat} {h_t_rows : Nat} {h_t_lastPlaces : Nat} {h_t_placesBefore : Nat} {k_t_rows : ClassId} {k_t_lastPlaces : ClassId} {k_t_placesBefore : ClassId} (C : cx p l e R s m args meth c dC dI A R_PngWriter b_PngWriter_findCopy 6 none 1 40 [(k_t_rows, .byte), (k_t_lastPlaces, .int), (k_t_placesBefore, .int)]) {K : Nat} {out : ((Int32 × Int32) ⊕ (Int32 × Int32))} {t_total : Int32} {t_copyLength : Int32} {t_copyDistance : Int32} {a_t_rows : Nat → Int32} {a_t_lastPlaces : Nat → Int32} {a_t_placesBefore : Nat → Int32} {x1 : Int32} {x2 : Int32} {x3 : Int32} {x4 : Int32} {rec : Int32 → Int32 → Int32 → Int32 → Option (((Int32 × Int32) ⊕ (Int32 × Int32)))}  (hex0 : ∀ v : Int32 × Int32, out = (.inl v) → at_PngWriter_findCopy_77 p l e R s m args below meth c dC dI A Q h_t h_t_rows h_t_lastPlaces h_t_placesBefore k_t_rows k_t_lastPlaces k_t_placesBefore t_total v.1 v.2 a_t_rows a_t_lastPlaces a_t_placesBefore) (hex1 : ∀ v : Int32 × Int32, out = (.inr v) → at_PngWriter_findCopy_132 p l e R s m args below meth c dC dI A Q h_t h_t_rows h_t_lastPlaces h_t_placesBefore k_t_rows k_t_lastPlaces k_t_placesBefore t_total v.1 v.2 a_t_rows a_t_lastPlaces a_t_placesBefore) (hrec : ∀ (t_copyLength : Int32) (t_copyDistance : Int32) (x3 : Int32) (x4 : Int32), rec t_copyLength t_copyDistance x3 x4 = some out → at_PngWriter_findCopy_48 p l e R s m args below meth c dC dI A Q h_t h_t_rows h_t_lastPlaces h_t_placesBefore k_t_rows k_t_lastPlaces k_t_placesBefore t_total t_copyLength t_copyDistance a_t_rows a_t_lastPlaces a_t_placesBefore x1 x2 x3 x4) (h : f_PngWriter_findCopy_115 K  rec t_total t_copyLength t_copyDistance a_t_rows a_t_lastPlaces a_t_placesBefore x1 x2 x3 x4 = some out) : at_PngWriter_findCopy_115 p l e R s m args below meth c dC dI A Q h_t h_t_rows h_t_lastPlaces h_t_placesBefore k_t_rows k_t_lastPlaces k_t_placesBefore t_total t_copyLength t_copyDistance a_t_rows a_t_lastPlaces a_t_placesBefore x1 x2 x3 x4 := by
  refine fun H locs ls hP hD hS hl => ?_
  obtain ⟨hx, hb, hr, hml, hown, hts, hlk, hK, hA, hV, htr, hex, hF, hL, hfl⟩ := id C
  unfold f_PngWriter_findCopy_115 at h
  refine lv_aload_n hx hb d_PngWriter_findCopy_115 rfl (lv_at hl 0 rfl) ?_
  refine va_get (D := (dC, dI)) (ci := 10) (v := .ref h_t_placesBefore) (C := R_PngWriter) (T := F_PngWriter) (N := 6) hx hb hts i_PngWriter hown hK hP 0 rfl rfl 2 (by decide) (hts _ (lg_in2 (List.mem_of_getElem? (i := 20) rfl) rfl)) (fun _ h9 => h9) rfl d_PngWriter_findCopy_116 ?_
  refine lv_iload_n hx hb d_PngWriter_findCopy_119 rfl (lv_at hl 3 rfl) ?_
  refine lv_sipush (v := 4095) hx hb d_PngWriter_findCopy_120 (by decide) ?_
  refine lv_iand hx hb d_PngWriter_findCopy_123 ?_
  obtain ⟨hi_124, h⟩ := dc_in h
  refine va_iald hx hb hK hP 3 2 rfl rfl hi_124 d_PngWriter_findCopy_124 ?_
  refine lv_istore_n (lv' := [(3, .int (a_t_placesBefore ((x3 &&& 4095) : Int32).toNatClampNeg)), (0, .ref h_t), (1, .int x1), (2, .int x2), (4, .int x4)]) hx hb d_PngWriter_findCopy_125 rfl hl (by decide) rfl (fun ls hl => ?_)
  refine lv_iinc (v := (x4 + 1)) (lv' := [(4, .int (x4 + 1)), (3, .int (a_t_placesBefore ((x3 &&& 4095) : Int32).toNatClampNeg)), (0, .ref h_t), (1, .int x1), (2, .int x2)]) hx hb d_PngWriter_findCopy_126 hl (k := 4) rfl rfl (by decide) rfl (fun ls hl => ?_)
  refine lv_goto (tgt := 48) hx hb d_PngWriter_findCopy_129 (by decide) ?_
  exact hrec _ _ _ _ h H locs ls hP hD hS (lv_sub hl [2, 3, 4, 1, 0] rfl)
set_option maxHeartbeats 400000 in
set_option maxRecDepth 100000 in
theorem w_PngWriter_findCopy_77 {p : Program} {l : Launch} {e : Env} {R : Room} {s : State} {m : MethodId} {args : Array Value} {below : List Frame} {meth : Method} {c : Code} {dC : Nat → ClassId} {dI : Nat → Nat → Nat} {A : Nat → Prop} {h_t : Nat} {h_t_rows : Nat} {h_t_lastPlaces : Nat} {h_t_placesBefore : Nat} {k_t_rows : ClassId} {k_t_lastPlaces : ClassId} {k_t_placesBefore : ClassId} (C : cx p l e R s m args meth c dC dI A R_PngWriter b_PngWriter_findCopy 6 none 1 40 [(k_t_rows, .byte), (k_t_lastPlaces, .int), (k_t_placesBefore, .int)]) {K : Nat} {o : Unit × (Int32 × Int32)} {t_total : Int32} {t_copyLength : Int32} {t_copyDistance : Int32} {a_t_rows : Nat → Int32} {a_t_lastPlaces : Nat → Int32} {a_t_placesBefore : Nat → Int32}   (h : f_PngWriter_findCopy_77 K  t_total t_copyLength t_copyDistance a_t_rows a_t_lastPlaces a_t_placesBefore = some o) : at_PngWriter_findCopy_77 p l e R s m args below meth c dC dI A (q_PngWriter_findCopy below args s dC dI A h_t h_t_rows h_t_lastPlaces h_t_placesBefore k_t_rows k_t_lastPlaces k_t_placesBefore t_total a_t_rows a_t_lastPlaces a_t_placesBefore o) h_t h_t_rows h_t_lastPlaces h_t_placesBefore k_t_rows k_t_lastPlaces k_t_placesBefore t_total t_copyLength t_copyDistance a_t_rows a_t_lastPlaces a_t_placesBefore := by
  refine fun H locs ls hP hD hS hl => ?_
  obtain ⟨hx, hb, hr, hml, hown, hts, hlk, hK, hA, hV, htr, hex, hF, hL, hfl⟩ := id C
  unfold f_PngWriter_findCopy_77 at h
  cases h
  exact dc_vret C (u := (t_copyLength, t_copyDistance)) (w1 := w1_PngWriter_findCopy h_t h_t_rows h_t_lastPlaces h_t_placesBefore k_t_rows k_t_lastPlaces k_t_placesBefore t_total a_t_rows a_t_lastPlaces a_t_placesBefore) hP hD hS d_PngWriter_findCopy_77
set_option maxHeartbeats 400000 in
set_option maxRecDepth 100000 in
theorem w_PngWriter_findCopy_48 {p : Program} {l : Launch} {e : Env} {R : Room} {s : State} {m : MethodId} {args : Array Value} {below : List Frame} {meth : Method} {c : Code} {dC : Nat → ClassId} {dI : Nat → Nat → Nat} {A : Nat → Prop} {Q : State → Prop} {h_t : Nat} {h_t_rows : Nat} {h_t_lastPlaces : Nat} {h_t_placesBefore : Nat} {k_t_rows : ClassId} {k_t_lastPlaces : ClassId} {k_t_placesBefore : ClassId} (C : cx p l e R s m args meth c dC dI A R_PngWriter b_PngWriter_findCopy 6 none 1 40 [(k_t_rows, .byte), (k_t_lastPlaces, .int), (k_t_placesBefore, .int)]) {K : Nat} {out : ((Int32 × Int32) ⊕ (Int32 × Int32))} {t_total : Int32} {t_copyLength : Int32} {t_copyDistance : Int32} {a_t_rows : Nat → Int32} {a_t_lastPlaces : Nat → Int32} {a_t_placesBefore : Nat → Int32} {x1 : Int32} {x2 : Int32} {x3 : Int32} {x4 : Int32} {rec : Int32 → Int32 → Int32 → Int32 → Option (((Int32 × Int32) ⊕ (Int32 × Int32)))}  (hex0 : ∀ v : Int32 × Int32, out = (.inl v) → at_PngWriter_findCopy_77 p l e R s m args below meth c dC dI A Q h_t h_t_rows h_t_lastPlaces h_t_placesBefore k_t_rows k_t_lastPlaces k_t_placesBefore t_total v.1 v.2 a_t_rows a_t_lastPlaces a_t_placesBefore) (hex1 : ∀ v : Int32 × Int32, out = (.inr v) → at_PngWriter_findCopy_132 p l e R s m args below meth c dC dI A Q h_t h_t_rows h_t_lastPlaces h_t_placesBefore k_t_rows k_t_lastPlaces k_t_placesBefore t_total v.1 v.2 a_t_rows a_t_lastPlaces a_t_placesBefore) (hrec : ∀ (t_copyLength : Int32) (t_copyDistance : Int32) (x3 : Int32) (x4 : Int32), rec t_copyLength t_copyDistance x3 x4 = some out → at_PngWriter_findCopy_48 p l e R s m args below meth c dC dI A Q h_t h_t_rows h_t_lastPlaces h_t_placesBefore k_t_rows k_t_lastPlaces k_t_placesBefore t_total t_copyLength t_copyDistance a_t_rows a_t_lastPlaces a_t_placesBefore x1 x2 x3 x4) (h : f_PngWriter_findCopy_48 K  rec t_total t_copyLength t_copyDistance a_t_rows a_t_lastPlaces a_t_placesBefore x1 x2 x3 x4 = some out) : at_PngWriter_findCopy_48 p l e R s m args below meth c dC dI A Q h_t h_t_rows h_t_lastPlaces h_t_placesBefore k_t_rows k_t_lastPlaces k_t_placesBefore t_total t_copyLength t_copyDistance a_t_rows a_t_lastPlaces a_t_placesBefore x1 x2 x3 x4 := by
  refine fun H locs ls hP hD hS hl => ?_
  obtain ⟨hx, hb, hr, hml, hown, hts, hlk, hK, hA, hV, htr, hex, hF, hL, hfl⟩ := id C
  unfold f_PngWriter_findCopy_48 at h
  refine lv_iload hx hb d_PngWriter_findCopy_48 (lv_at hl 4 rfl) ?_
  refine lv_sipush (v := 4096) hx hb d_PngWriter_findCopy_50 (by decide) ?_
  refine lv_icmp_ge (tgt := 132) hx hb d_PngWriter_findCopy_53 (by decide) (fun c_53 => ?_) (fun c_53 => ?_)
  · have h := dc_t c_53 h
    cases h
    exact hex1 _ rfl H locs ls hP hD hS (lv_sub hl [0] rfl)
  have h := dc_f c_53 h
  refine lv_aload_n hx hb d_PngWriter_findCopy_56 rfl (lv_at hl 0 rfl) ?_
  refine va_get (D := (dC, dI)) (ci := 10) (v := .int t_copyLength) (C := R_PngWriter) (T := F_PngWriter) (N := 6) hx hb hts i_PngWriter hown hK hP 0 rfl rfl 4 (by decide) (hts _ (lg_in2 (List.mem_of_getElem? (i := 22) rfl) rfl)) (fun _ h9 => h9) rfl d_PngWriter_findCopy_57 ?_
  refine lv_iload_n hx hb d_PngWriter_findCopy_60 rfl (lv_at hl 2 rfl) ?_
  refine lv_icmp_ge (tgt := 132) hx hb d_PngWriter_findCopy_61 (by decide) (fun c_61 => ?_) (fun c_61 => ?_)
  · have h := dc_t c_61 h
    cases h
    exact hex1 _ rfl H locs ls hP hD hS (lv_sub hl [0] rfl)
  have h := dc_f c_61 h
  refine lv_iload_n hx hb d_PngWriter_findCopy_64 rfl (lv_at hl 3 rfl) ?_
  refine lv_if_lt (tgt := 77) hx hb d_PngWriter_findCopy_65 (by decide) (fun c_65 => ?_) (fun c_65 => ?_)
  · have h := dc_t c_65 h
    cases h
    exact hex0 _ rfl H locs ls hP hD hS (lv_sub hl [0] rfl)
  have h := dc_f c_65 h
  refine lv_iload_n hx hb d_PngWriter_findCopy_68 rfl (lv_at hl 3 rfl) ?_
  refine lv_iload_n hx hb d_PngWriter_findCopy_69 rfl (lv_at hl 1 rfl) ?_
  refine lv_sipush (v := 4096) hx hb d_PngWriter_findCopy_70 (by decide) ?_
  refine lv_isub hx hb d_PngWriter_findCopy_73 ?_
  refine lv_icmp_ge (tgt := 78) hx hb d_PngWriter_findCopy_74 (by decide) (fun c_74 => ?_) (fun c_74 => ?_)
  · have h := dc_t c_74 h
    refine lv_aload_n hx hb d_PngWriter_findCopy_78 rfl (lv_at hl 0 rfl) ?_
    refine lv_iload_n hx hb d_PngWriter_findCopy_79 rfl (lv_at hl 3 rfl) ?_
    refine lv_iload_n hx hb d_PngWriter_findCopy_80 rfl (lv_at hl 1 rfl) ?_
    refine lv_iload_n hx hb d_PngWriter_findCopy_81 rfl (lv_at hl 2 rfl) ?_
    obtain ⟨r_82, hg_82, h⟩ := dc_bindE h
    refine dc_callV (y := y_PngWriter_commonLength) (bytes := b_PngWriter_commonLength) (maxL := 5) (ret' := (some .int)) (fr' := 0) (lo' := 0) (n := 3) (val := vl_i) (o := r_82) (tysc := [(k_t_rows, .byte)]) (As := [.int x3, .int x1, .int x2]) (rest := []) (wc := (ws_PngWriter_commonLength h_t h_t_rows h_t_lastPlaces h_t_placesBefore k_t_rows t_total t_copyDistance t_copyLength a_t_rows)) (wr := [(h_t_lastPlaces, .inl (k_t_lastPlaces, 4096, .inl a_t_lastPlaces)), (h_t_placesBefore, .inl (k_t_placesBefore, 4096, .inl a_t_placesBefore))]) (w1 := w1_PngWriter_commonLength h_t h_t_rows h_t_lastPlaces h_t_placesBefore k_t_rows t_total t_copyDistance t_copyLength a_t_rows) C cw_PngWriter_commonLength (lg_in1 (List.mem_of_getElem? (i := 9) rfl) rfl) (lg_in6 (List.mem_of_getElem? (i := 202) rfl) rfl) (lg_in6 (List.mem_of_getElem? (i := 204) rfl) rfl) (lg_memS (List.mem_of_getElem? (i := 59) rfl) rfl) (ci := 10) (cq := (R_PngWriter, F_PngWriter, 6)) (q0 := 0) rfl rfl rfl (c_PngWriter_commonLength hfl dC dI h_t h_t_rows h_t_lastPlaces h_t_placesBefore k_t_rows t_total t_copyDistance H.size K x3 x1 x2 t_copyLength a_t_rows hg_82) (by decide +kernel) ⟨Nat.le_of_ble_eq_true rfl, Nat.le_of_ble_eq_true rfl⟩ rfl rfl (Nat.le_of_ble_eq_true rfl) d_PngWriter_findCopy_82 hP hD hS hl.1 [0, 1] [2, 3] [0] rfl rfl rfl rfl (by decide) rfl (fun H locs hP hD hS => ?_)
    have hP : va_P (dC, dI) classes (ws_PngWriter_findCopy h_t h_t_rows h_t_lastPlaces h_t_placesBefore k_t_rows k_t_lastPlaces k_t_placesBefore t_total t_copyLength t_copyDistance a_t_rows a_t_lastPlaces a_t_placesBefore) H := hP.sub [2, 3, 0, 1] rfl
    have hD : va_D A (ws_PngWriter_findCopy h_t h_t_rows h_t_lastPlaces h_t_placesBefore k_t_rows k_t_lastPlaces k_t_placesBefore t_total t_copyLength t_copyDistance a_t_rows a_t_lastPlaces a_t_placesBefore) := hD.sub [2, 3, 0, 1] (by decide) rfl
    show W p l e R s m _ below meth c H locs 0 0 _ (F0 m 85 ls [.int r_82.1])
    refine lv_istore (lv' := [(5, .int r_82.1), (0, .ref h_t), (1, .int x1), (2, .int x2), (3, .int x3), (4, .int x4)]) hx hb d_PngWriter_findCopy_85 hl (by decide) rfl (fun ls hl => ?_)
    refine lv_iload hx hb d_PngWriter_findCopy_87 (lv_at hl 0 rfl) ?_
    refine lv_iconst (v := 3) hx hb d_PngWriter_findCopy_89 (by decide) ?_
    refine lv_icmp_lt (tgt := 115) hx hb d_PngWriter_findCopy_90 (by decide) (fun c_90 => ?_) (fun c_90 => ?_)
    · have h := dc_t c_90 h
      exact w_PngWriter_findCopy_115 C hex0 hex1 hrec h H locs ls hP hD hS (lv_sub hl [1, 2, 3, 4, 5] rfl)
    have h := dc_f c_90 h
    refine lv_iload hx hb d_PngWriter_findCopy_93 (lv_at hl 0 rfl) ?_
    refine lv_aload_n hx hb d_PngWriter_findCopy_95 rfl (lv_at hl 1 rfl) ?_
    refine va_get (D := (dC, dI)) (ci := 10) (v := .int t_copyLength) (C := R_PngWriter) (T := F_PngWriter) (N := 6) hx hb hts i_PngWriter hown hK hP 0 rfl rfl 4 (by decide) (hts _ (lg_in2 (List.mem_of_getElem? (i := 22) rfl) rfl)) (fun _ h9 => h9) rfl d_PngWriter_findCopy_96 ?_
    refine lv_icmp_le (tgt := 115) hx hb d_PngWriter_findCopy_99 (by decide) (fun c_99 => ?_) (fun c_99 => ?_)
    · have h := dc_t c_99 h
      exact w_PngWriter_findCopy_115 C hex0 hex1 hrec h H locs ls hP hD hS (lv_sub hl [1, 2, 3, 4, 5] rfl)
    have h := dc_f c_99 h
    refine lv_aload_n hx hb d_PngWriter_findCopy_102 rfl (lv_at hl 1 rfl) ?_
    refine lv_iload hx hb d_PngWriter_findCopy_103 (lv_at hl 0 rfl) ?_
    refine va_put (D := (dC, dI)) (ci := 10) (v := .int r_82.1) (ty := .int) (C := R_PngWriter) (T := F_PngWriter) (N := 6) hx hb hts i_PngWriter t_PngWriter t_PngWriter_ok n_PngWriter hown hK hP hD hS 0 rfl rfl 4 (by decide) (hts _ (lg_in2 (List.mem_of_getElem? (i := 22) rfl) rfl)) (fun _ h9 => h9) rfl (by decide +kernel) rfl rfl (Nat.le_of_ble_eq_true rfl) d_PngWriter_findCopy_105 (fun H locs hP hD hS => ?_)
    have hP : va_P (dC, dI) classes (ws_PngWriter_findCopy h_t h_t_rows h_t_lastPlaces h_t_placesBefore k_t_rows k_t_lastPlaces k_t_placesBefore t_total r_82.1 t_copyDistance a_t_rows a_t_lastPlaces a_t_placesBefore) H := hP
    have hD : va_D A (ws_PngWriter_findCopy h_t h_t_rows h_t_lastPlaces h_t_placesBefore k_t_rows k_t_lastPlaces k_t_placesBefore t_total r_82.1 t_copyDistance a_t_rows a_t_lastPlaces a_t_placesBefore) := hD
    refine lv_aload_n hx hb d_PngWriter_findCopy_108 rfl (lv_at hl 1 rfl) ?_
    refine lv_iload_n hx hb d_PngWriter_findCopy_109 rfl (lv_at hl 2 rfl) ?_
    refine lv_iload_n hx hb d_PngWriter_findCopy_110 rfl (lv_at hl 4 rfl) ?_
    refine lv_isub hx hb d_PngWriter_findCopy_111 ?_
    refine va_put (D := (dC, dI)) (ci := 10) (v := .int (x1 - x3)) (ty := .int) (C := R_PngWriter) (T := F_PngWriter) (N := 6) hx hb hts i_PngWriter t_PngWriter t_PngWriter_ok n_PngWriter hown hK hP hD hS 0 rfl rfl 5 (by decide) (hts _ (lg_in2 (List.mem_of_getElem? (i := 23) rfl) rfl)) (fun _ h9 => h9) rfl (by decide +kernel) rfl rfl (Nat.le_of_ble_eq_true rfl) d_PngWriter_findCopy_112 (fun H locs hP hD hS => ?_)
    have hP : va_P (dC, dI) classes (ws_PngWriter_findCopy h_t h_t_rows h_t_lastPlaces h_t_placesBefore k_t_rows k_t_lastPlaces k_t_placesBefore t_total r_82.1 (x1 - x3) a_t_rows a_t_lastPlaces a_t_placesBefore) H := hP
    have hD : va_D A (ws_PngWriter_findCopy h_t h_t_rows h_t_lastPlaces h_t_placesBefore k_t_rows k_t_lastPlaces k_t_placesBefore t_total r_82.1 (x1 - x3) a_t_rows a_t_lastPlaces a_t_placesBefore) := hD
    exact w_PngWriter_findCopy_115 C hex0 hex1 hrec h H locs ls hP hD hS (lv_sub hl [1, 2, 3, 4, 5] rfl)
  have h := dc_f c_74 h
  cases h
  exact hex0 _ rfl H locs ls hP hD hS (lv_sub hl [0] rfl)
set_option maxHeartbeats 400000 in
set_option maxRecDepth 100000 in
theorem w_PngWriter_findCopy_L48 {p : Program} {l : Launch} {e : Env} {R : Room} {s : State} {m : MethodId} {args : Array Value} {below : List Frame} {meth : Method} {c : Code} {dC : Nat → ClassId} {dI : Nat → Nat → Nat} {A : Nat → Prop} {Q : State → Prop} {h_t : Nat} {h_t_rows : Nat} {h_t_lastPlaces : Nat} {h_t_placesBefore : Nat} {k_t_rows : ClassId} {k_t_lastPlaces : ClassId} {k_t_placesBefore : ClassId} (C : cx p l e R s m args meth c dC dI A R_PngWriter b_PngWriter_findCopy 6 none 1 40 [(k_t_rows, .byte), (k_t_lastPlaces, .int), (k_t_placesBefore, .int)]) {K : Nat} {out : ((Int32 × Int32) ⊕ (Int32 × Int32))} {t_total : Int32} {a_t_rows : Nat → Int32} {a_t_lastPlaces : Nat → Int32} {a_t_placesBefore : Nat → Int32} {x1 : Int32} {x2 : Int32} (hex0 : ∀ v : Int32 × Int32, out = (.inl v) → at_PngWriter_findCopy_77 p l e R s m args below meth c dC dI A Q h_t h_t_rows h_t_lastPlaces h_t_placesBefore k_t_rows k_t_lastPlaces k_t_placesBefore t_total v.1 v.2 a_t_rows a_t_lastPlaces a_t_placesBefore) (hex1 : ∀ v : Int32 × Int32, out = (.inr v) → at_PngWriter_findCopy_132 p l e R s m args below meth c dC dI A Q h_t h_t_rows h_t_lastPlaces h_t_placesBefore k_t_rows k_t_lastPlaces k_t_placesBefore t_total v.1 v.2 a_t_rows a_t_lastPlaces a_t_placesBefore) : ∀ (n : Nat) (t_copyLength : Int32) (t_copyDistance : Int32) (x3 : Int32) (x4 : Int32), f_PngWriter_findCopy_L48 K  t_total a_t_rows a_t_lastPlaces a_t_placesBefore x1 x2 n t_copyLength t_copyDistance x3 x4 = some out → at_PngWriter_findCopy_48 p l e R s m args below meth c dC dI A Q h_t h_t_rows h_t_lastPlaces h_t_placesBefore k_t_rows k_t_lastPlaces k_t_placesBefore t_total t_copyLength t_copyDistance a_t_rows a_t_lastPlaces a_t_placesBefore x1 x2 x3 x4 := by
  intro n
  induction n with
  | zero =>
    intro t_copyLength t_copyDistance x3 x4 h
    exact nomatch (show (none : Option (((Int32 × Int32) ⊕ (Int32 × Int32)))) = some out from h)
  | succ n ih =>
    intro t_copyLength t_copyDistance x3 x4 h
    exact w_PngWriter_findCopy_48 C hex0 hex1 ih h
set_option maxHeartbeats 400000 in
set_option maxRecDepth 100000 in
theorem c_PngWriter_findCopy {l : Launch} (hfl : l.flags = flags0) (dC : Nat → ClassId) (dI : Nat → Nat → Nat) (h_t : Nat) (h_t_rows : Nat) (h_t_lastPlaces : Nat) (h_t_placesBefore : Nat) (k_t_rows : ClassId) (k_t_lastPlaces : ClassId) (k_t_placesBefore : ClassId) (sz : Nat) (K : Nat) (x1 : Int32) (t_total : Int32) (t_copyLength : Int32) (t_copyDistance : Int32) (a_t_rows : Nat → Int32) (a_t_lastPlaces : Nat → Int32) (a_t_placesBefore : Nat → Int32) {o : Unit × (Int32 × Int32)} (h : f_PngWriter_findCopy K x1 t_total t_copyLength t_copyDistance a_t_rows a_t_lastPlaces a_t_placesBefore = some o) : MetX l y_PngWriter_findCopy (Cond.code y_PngWriter_findCopy b_PngWriter_findCopy 6 none :: lw_g) (rmx 1 40 0 0) (vx_Pre dC dI [(k_t_rows, .byte), (k_t_lastPlaces, .int), (k_t_placesBefore, .int)] [.ref h_t, .int x1] sz (ws_PngWriter_findCopy h_t h_t_rows h_t_lastPlaces h_t_placesBefore k_t_rows k_t_lastPlaces k_t_placesBefore t_total t_copyLength t_copyDistance a_t_rows a_t_lastPlaces a_t_placesBefore)) (vx_Q vl_v (.inl o) (fun u t => vx_B dC dI [(k_t_rows, .byte), (k_t_lastPlaces, .int), (k_t_placesBefore, .int)] (va_A (ws_PngWriter_findCopy h_t h_t_rows h_t_lastPlaces h_t_placesBefore k_t_rows k_t_lastPlaces k_t_placesBefore t_total t_copyLength t_copyDistance a_t_rows a_t_lastPlaces a_t_placesBefore) sz) (w1_PngWriter_findCopy h_t h_t_rows h_t_lastPlaces h_t_placesBefore k_t_rows k_t_lastPlaces k_t_placesBefore t_total a_t_rows a_t_lastPlaces a_t_placesBefore u) t) (va_A (ws_PngWriter_findCopy h_t h_t_rows h_t_lastPlaces h_t_placesBefore k_t_rows k_t_lastPlaces k_t_placesBefore t_total t_copyLength t_copyDistance a_t_rows a_t_lastPlaces a_t_placesBefore) sz)) 0 0 (va_A (ws_PngWriter_findCopy h_t h_t_rows h_t_lastPlaces h_t_placesBefore k_t_rows k_t_lastPlaces k_t_placesBefore t_total t_copyLength t_copyDistance a_t_rows a_t_lastPlaces a_t_placesBefore) sz) := by
  refine MetX.ofW (cc := b_PngWriter_findCopy) (maxL := 6) (ret := none) (by decide +kernel) rfl ?_
  intro p e s m args below meth c s₁ B hml hv
  obtain ⟨rfl, rfl, C, hP, hD, hS⟩ := dc_entry hfl B hml hv
  have hl := lv_entry ([.ref h_t, .int x1]) (n := 6) (Nat.le_of_ble_eq_true rfl)
  rw [lg_entry_eq]
  generalize (lg_sl ([.ref h_t, .int x1]) ++ List.replicate (6 - (lg_sl ([.ref h_t, .int x1])).length) Slot.unset).toArray = ls at hl ⊢
  have hl : lv_has ls 6 [(0, .ref h_t), (1, .int x1)] := hl
  generalize hAe : va_A (ws_PngWriter_findCopy h_t h_t_rows h_t_lastPlaces h_t_placesBefore k_t_rows k_t_lastPlaces k_t_placesBefore t_total t_copyLength t_copyDistance a_t_rows a_t_lastPlaces a_t_placesBefore) s.heap.size = A at C hD hS ⊢
  generalize (headSpec (Cond.code y_PngWriter_findCopy b_PngWriter_findCopy 6 none :: lw_g) (rmx 1 40 0 0)).room = R at C ⊢
  have C : cx p l e R s m _ meth c dC dI A R_PngWriter b_PngWriter_findCopy 6 none 1 40 [(k_t_rows, .byte), (k_t_lastPlaces, .int), (k_t_placesBefore, .int)] := C
  obtain ⟨hx, hb, hr, hml, hown, hts, hlk, hK, hA, hV, htr, hex, hF, hL, hfl⟩ := id C
  unfold f_PngWriter_findCopy at h
  revert hP hS
  generalize hH : s.heap = H
  generalize hLo : ([] : List Loc) = locs
  intro hP hS
  have hS : va_S A s.heap H locs := by rw [hH]; exact hS
  refine lv_aload_n hx hb d_PngWriter_findCopy_0 rfl (lv_at hl 0 rfl) ?_
  refine lv_iconst (v := 0) hx hb d_PngWriter_findCopy_1 (by decide) ?_
  refine va_put (D := (dC, dI)) (ci := 10) (v := .int 0) (ty := .int) (C := R_PngWriter) (T := F_PngWriter) (N := 6) hx hb hts i_PngWriter t_PngWriter t_PngWriter_ok n_PngWriter hown hK hP hD hS 0 rfl rfl 4 (by decide) (hts _ (lg_in2 (List.mem_of_getElem? (i := 22) rfl) rfl)) (fun _ h9 => h9) rfl (by decide +kernel) rfl rfl (Nat.le_of_ble_eq_true rfl) d_PngWriter_findCopy_2 (fun H locs hP hD hS => ?_)
  have hP : va_P (dC, dI) classes (ws_PngWriter_findCopy h_t h_t_rows h_t_lastPlaces h_t_placesBefore k_t_rows k_t_lastPlaces k_t_placesBefore t_total 0 t_copyDistance a_t_rows a_t_lastPlaces a_t_placesBefore) H := hP
  have hD : va_D A (ws_PngWriter_findCopy h_t h_t_rows h_t_lastPlaces h_t_placesBefore k_t_rows k_t_lastPlaces k_t_placesBefore t_total 0 t_copyDistance a_t_rows a_t_lastPlaces a_t_placesBefore) := hD
  refine lv_aload_n hx hb d_PngWriter_findCopy_5 rfl (lv_at hl 0 rfl) ?_
  refine lv_iconst (v := 0) hx hb d_PngWriter_findCopy_6 (by decide) ?_
  refine va_put (D := (dC, dI)) (ci := 10) (v := .int 0) (ty := .int) (C := R_PngWriter) (T := F_PngWriter) (N := 6) hx hb hts i_PngWriter t_PngWriter t_PngWriter_ok n_PngWriter hown hK hP hD hS 0 rfl rfl 5 (by decide) (hts _ (lg_in2 (List.mem_of_getElem? (i := 23) rfl) rfl)) (fun _ h9 => h9) rfl (by decide +kernel) rfl rfl (Nat.le_of_ble_eq_true rfl) d_PngWriter_findCopy_7 (fun H locs hP hD hS => ?_)
  have hP : va_P (dC, dI) classes (ws_PngWriter_findCopy h_t h_t_rows h_t_lastPlaces h_t_placesBefore k_t_rows k_t_lastPlaces k_t_placesBefore t_total 0 0 a_t_rows a_t_lastPlaces a_t_placesBefore) H := hP
  have hD : va_D A (ws_PngWriter_findCopy h_t h_t_rows h_t_lastPlaces h_t_placesBefore k_t_rows k_t_lastPlaces k_t_placesBefore t_total 0 0 a_t_rows a_t_lastPlaces a_t_placesBefore) := hD
  refine lv_iload_n hx hb d_PngWriter_findCopy_10 rfl (lv_at hl 1 rfl) ?_
  refine lv_aload_n hx hb d_PngWriter_findCopy_11 rfl (lv_at hl 0 rfl) ?_
  refine va_get (D := (dC, dI)) (ci := 10) (v := .int t_total) (C := R_PngWriter) (T := F_PngWriter) (N := 6) hx hb hts i_PngWriter hown hK hP 0 rfl rfl 3 (by decide) (hts _ (lg_in2 (List.mem_of_getElem? (i := 21) rfl) rfl)) (fun _ h9 => h9) rfl d_PngWriter_findCopy_12 ?_
  refine lv_iconst (v := 3) hx hb d_PngWriter_findCopy_15 (by decide) ?_
  refine lv_isub hx hb d_PngWriter_findCopy_16 ?_
  refine lv_icmp_le (tgt := 21) hx hb d_PngWriter_findCopy_17 (by decide) (fun c_17 => ?_) (fun c_17 => ?_)
  · have h := dc_t c_17 h
    refine lv_sipush (v := 258) hx hb d_PngWriter_findCopy_21 (by decide) ?_
    refine lv_aload_n hx hb d_PngWriter_findCopy_24 rfl (lv_at hl 0 rfl) ?_
    refine va_get (D := (dC, dI)) (ci := 10) (v := .int t_total) (C := R_PngWriter) (T := F_PngWriter) (N := 6) hx hb hts i_PngWriter hown hK hP 0 rfl rfl 3 (by decide) (hts _ (lg_in2 (List.mem_of_getElem? (i := 21) rfl) rfl)) (fun _ h9 => h9) rfl d_PngWriter_findCopy_25 ?_
    refine lv_iload_n hx hb d_PngWriter_findCopy_28 rfl (lv_at hl 1 rfl) ?_
    refine lv_isub hx hb d_PngWriter_findCopy_29 ?_
    refine va_mmin hx hb (hml.trans hl.1.symm) hown (hts _ (lg_in6 (List.mem_of_getElem? (i := 196) rfl) rfl)) (hts _ (lg_in2 (List.mem_of_getElem? (i := 203) rfl) rfl)) (hts _ (lg_in1 (List.mem_of_getElem? (i := 20) rfl) rfl)) (hts _ (lg_in2 (List.mem_of_getElem? (i := 204) rfl) rfl)) (Nat.le_trans (Nat.le_of_ble_eq_true rfl) hF) (Nat.le_trans (Nat.le_of_ble_eq_true rfl) hL) (Nat.zero_le _) (Nat.zero_le _) d_PngWriter_findCopy_30 ?_
    refine lv_istore_n (lv' := [(2, .int (if (t_total - x1) < 258 then (t_total - x1) else 258)), (0, .ref h_t), (1, .int x1)]) hx hb d_PngWriter_findCopy_33 rfl hl (by decide) rfl (fun ls hl => ?_)
    refine lv_aload_n hx hb d_PngWriter_findCopy_34 rfl (lv_at hl 1 rfl) ?_
    refine va_get (D := (dC, dI)) (ci := 10) (v := .ref h_t_lastPlaces) (C := R_PngWriter) (T := F_PngWriter) (N := 6) hx hb hts i_PngWriter hown hK hP 0 rfl rfl 1 (by decide) (hts _ (lg_in2 (List.mem_of_getElem? (i := 19) rfl) rfl)) (fun _ h9 => h9) rfl d_PngWriter_findCopy_35 ?_
    refine lv_aload_n hx hb d_PngWriter_findCopy_38 rfl (lv_at hl 1 rfl) ?_
    refine lv_iload_n hx hb d_PngWriter_findCopy_39 rfl (lv_at hl 2 rfl) ?_
    obtain ⟨r_40, hg_40, h⟩ := dc_bindE h
    refine dc_callV (y := y_PngWriter_chainOf) (bytes := b_PngWriter_chainOf) (maxL := 3) (ret' := (some .int)) (fr' := 0) (lo' := 0) (n := 1) (val := vl_i) (o := r_40) (tysc := [(k_t_rows, .byte)]) (As := [.int x1]) (rest := [.ref h_t_lastPlaces]) (wc := (ws_PngWriter_chainOf h_t h_t_rows h_t_lastPlaces h_t_placesBefore k_t_rows t_total 0 0 a_t_rows)) (wr := [(h_t_lastPlaces, .inl (k_t_lastPlaces, 4096, .inl a_t_lastPlaces)), (h_t_placesBefore, .inl (k_t_placesBefore, 4096, .inl a_t_placesBefore))]) (w1 := w1_PngWriter_chainOf h_t h_t_rows h_t_lastPlaces h_t_placesBefore k_t_rows t_total 0 0 a_t_rows) C cw_PngWriter_chainOf (lg_in1 (List.mem_of_getElem? (i := 9) rfl) rfl) (lg_in6 (List.mem_of_getElem? (i := 197) rfl) rfl) (lg_in6 (List.mem_of_getElem? (i := 199) rfl) rfl) (lg_memS (List.mem_of_getElem? (i := 58) rfl) rfl) (ci := 10) (cq := (R_PngWriter, F_PngWriter, 6)) (q0 := 0) rfl rfl rfl (c_PngWriter_chainOf hfl dC dI h_t h_t_rows h_t_lastPlaces h_t_placesBefore k_t_rows t_total 0 0 H.size x1 a_t_rows hg_40) (by decide +kernel) ⟨Nat.le_of_ble_eq_true rfl, Nat.le_of_ble_eq_true rfl⟩ rfl rfl (Nat.le_of_ble_eq_true rfl) d_PngWriter_findCopy_40 hP hD hS hl.1 [0, 1] [2, 3] [0] rfl rfl rfl rfl (by decide) rfl (fun H locs hP hD hS => ?_)
    have hP : va_P (dC, dI) classes (ws_PngWriter_findCopy h_t h_t_rows h_t_lastPlaces h_t_placesBefore k_t_rows k_t_lastPlaces k_t_placesBefore t_total 0 0 a_t_rows a_t_lastPlaces a_t_placesBefore) H := hP.sub [2, 3, 0, 1] rfl
    have hD : va_D A (ws_PngWriter_findCopy h_t h_t_rows h_t_lastPlaces h_t_placesBefore k_t_rows k_t_lastPlaces k_t_placesBefore t_total 0 0 a_t_rows a_t_lastPlaces a_t_placesBefore) := hD.sub [2, 3, 0, 1] (by decide) rfl
    show W p l e R s m _ below meth c H locs 0 0 _ (F0 m 43 ls [.int r_40.1, .ref h_t_lastPlaces])
    obtain ⟨hi_43, h⟩ := dc_in h
    refine va_iald hx hb hK hP 2 1 rfl rfl hi_43 d_PngWriter_findCopy_43 ?_
    refine lv_istore_n (lv' := [(3, .int (a_t_lastPlaces (r_40.1 : Int32).toNatClampNeg)), (2, .int (if (t_total - x1) < 258 then (t_total - x1) else 258)), (0, .ref h_t), (1, .int x1)]) hx hb d_PngWriter_findCopy_44 rfl hl (by decide) rfl (fun ls hl => ?_)
    refine lv_iconst (v := 0) hx hb d_PngWriter_findCopy_45 (by decide) ?_
    refine lv_istore (lv' := [(4, .int 0), (3, .int (a_t_lastPlaces (r_40.1 : Int32).toNatClampNeg)), (2, .int (if (t_total - x1) < 258 then (t_total - x1) else 258)), (0, .ref h_t), (1, .int x1)]) hx hb d_PngWriter_findCopy_46 hl (by decide) rfl (fun ls hl => ?_)
    obtain ⟨r_48, hg_48, h⟩ := dc_bindE h
    refine w_PngWriter_findCopy_L48 C ?_ ?_ K _ _ _ _ hg_48 H locs ls hP hD hS (lv_sub hl [3, 4, 2, 1, 0] rfl)
    · refine fun v_77 hr => ?_
      subst r_48
      refine fun H locs ls hP hD hS hl => ?_
      have h := dc_el h
      exact w_PngWriter_findCopy_77 C h H locs ls hP hD hS (lv_sub hl [0] rfl)
    · refine fun v_132 hr => ?_
      subst r_48
      refine fun H locs ls hP hD hS hl => ?_
      have h := dc_er h
      exact w_PngWriter_findCopy_132 C h H locs ls hP hD hS (lv_sub hl [0] rfl)
  have h := dc_f c_17 h
  cases h
  exact dc_vret C (u := (0, 0)) (w1 := w1_PngWriter_findCopy h_t h_t_rows h_t_lastPlaces h_t_placesBefore k_t_rows k_t_lastPlaces k_t_placesBefore t_total a_t_rows a_t_lastPlaces a_t_placesBefore) hP hD hS d_PngWriter_findCopy_20
def ws_PngWriter_turned   : va_W := []
abbrev w1_PngWriter_turned   (u : Unit) : va_W := ws_PngWriter_turned 
abbrev q_PngWriter_turned (below : List Frame) (args : Array Value) (s : State) (dC : Nat → ClassId) (dI : Nat → Nat → Nat) (A : Nat → Prop)   (o : Int32 × Unit) : State → Prop := XQ below (vx_Q vl_i (.inl o) (fun u t => vx_B dC dI [] A (w1_PngWriter_turned  u) t) A) args s 0 0 A
theorem d_PngWriter_turned_0 : decode b_PngWriter_turned 0 = .ok (.iconst 0, 1) := by decide +kernel
theorem d_PngWriter_turned_1 : decode b_PngWriter_turned 1 = .ok (.istore_n 2, 1) := by decide +kernel
theorem d_PngWriter_turned_2 : decode b_PngWriter_turned 2 = .ok (.iconst 0, 1) := by decide +kernel
theorem d_PngWriter_turned_3 : decode b_PngWriter_turned 3 = .ok (.istore_n 3, 1) := by decide +kernel
theorem d_PngWriter_turned_4 : decode b_PngWriter_turned 4 = .ok (.iload_n 3, 1) := by decide +kernel
theorem d_PngWriter_turned_5 : decode b_PngWriter_turned 5 = .ok (.iload_n 1, 1) := by decide +kernel
theorem d_PngWriter_turned_6 : decode b_PngWriter_turned 6 = .ok (.if_icmp .ge 19, 3) := by decide +kernel
theorem d_PngWriter_turned_9 : decode b_PngWriter_turned 9 = .ok (.iload_n 2, 1) := by decide +kernel
theorem d_PngWriter_turned_10 : decode b_PngWriter_turned 10 = .ok (.iconst 1, 1) := by decide +kernel
theorem d_PngWriter_turned_11 : decode b_PngWriter_turned 11 = .ok (.ishl, 1) := by decide +kernel
theorem d_PngWriter_turned_12 : decode b_PngWriter_turned 12 = .ok (.iload_n 0, 1) := by decide +kernel
theorem d_PngWriter_turned_13 : decode b_PngWriter_turned 13 = .ok (.iload_n 3, 1) := by decide +kernel
theorem d_PngWriter_turned_14 : decode b_PngWriter_turned 14 = .ok (.ishr, 1) := by decide +kernel
theorem d_PngWriter_turned_15 : decode b_PngWriter_turned 15 = .ok (.iconst 1, 1) := by decide +kernel
theorem d_PngWriter_turned_16 : decode b_PngWriter_turned 16 = .ok (.iand, 1) := by decide +kernel
theorem d_PngWriter_turned_17 : decode b_PngWriter_turned 17 = .ok (.ior, 1) := by decide +kernel
theorem d_PngWriter_turned_18 : decode b_PngWriter_turned 18 = .ok (.istore_n 2, 1) := by decide +kernel
theorem d_PngWriter_turned_19 : decode b_PngWriter_turned 19 = .ok (.iinc 3 1, 3) := by decide +kernel
theorem d_PngWriter_turned_22 : decode b_PngWriter_turned 22 = .ok (.goto (-18), 3) := by decide +kernel
theorem d_PngWriter_turned_25 : decode b_PngWriter_turned 25 = .ok (.iload_n 2, 1) := by decide +kernel
theorem d_PngWriter_turned_26 : decode b_PngWriter_turned 26 = .ok (.ireturn, 1) := by decide +kernel
def at_PngWriter_turned_4 (p : Program) (l : Launch) (e : Env) (R : Room) (s : State) (m : MethodId) (args : Array Value) (below : List Frame) (meth : Method) (c : Code) (dC : Nat → ClassId) (dI : Nat → Nat → Nat) (A : Nat → Prop) (Q : State → Prop)   (x0 : Int32) (x1 : Int32) (x2 : Int32) (x3 : Int32) : Prop := ∀ (H : Heap) (locs : List Loc) (ls : Array Slot), va_P (dC, dI) classes ws_PngWriter_turned H → va_D A ws_PngWriter_turned → va_S A s.heap H locs → lv_has ls 4 [(0, .int x0), (1, .int x1), (2, .int x2), (3, .int x3)] → W p l e R s m args below meth c H locs 0 0 Q (F0 m 4 ls [])
def at_PngWriter_turned_25 (p : Program) (l : Launch) (e : Env) (R : Room) (s : State) (m : MethodId) (args : Array Value) (below : List Frame) (meth : Method) (c : Code) (dC : Nat → ClassId) (dI : Nat → Nat → Nat) (A : Nat → Prop) (Q : State → Prop)   (x2 : Int32) : Prop := ∀ (H : Heap) (locs : List Loc) (ls : Array Slot), va_P (dC, dI) classes ws_PngWriter_turned H → va_D A ws_PngWriter_turned → va_S A s.heap H locs → lv_has ls 4 [(2, .int x2)] → W p l e R s m args below meth c H locs 0 0 Q (F0 m 25 ls [])
def f_PngWriter_turned_4 (K : Nat)  (rec : Int32 → Int32 → Option (Int32))  (x0 : Int32) (x1 : Int32) (x2 : Int32) (x3 : Int32) : Option (Int32) := (if x1 ≤ x3 then (some x2) else (rec ((x2 <<< ((1 : Int32) &&& 31)) ||| ((x0 >>> (x3 &&& 31)) &&& 1)) (x3 + 1)))
def f_PngWriter_turned_L4 (K : Nat)  (x0 : Int32) (x1 : Int32) : Nat → Int32 → Int32 → Option (Int32)
  | 0, _, _ => none
  | n + 1, x2, x3 => f_PngWriter_turned_4 K  (f_PngWriter_turned_L4 K  x0 x1 n) x0 x1 x2 x3
def f_PngWriter_turned (K : Nat)  (x0 : Int32) (x1 : Int32)  : Option (Int32 × Unit) := dc_bind (f_PngWriter_turned_L4 K x0 x1 K 0 0) (fun v_25 => some (v_25, ()))
set_option maxHeartbeats 400000 in
set_option maxRecDepth 100000 in
theorem w_PngWriter_turned_4 {p : Program} {l : Launch} {e : Env} {R : Room} {s : State} {m : MethodId} {args : Array Value} {below : List Frame} {meth : Method} {c : Code} {dC : Nat → ClassId} {dI : Nat → Nat → Nat} {A : Nat → Prop} {Q : State → Prop}  (C : cx p l e R s m args meth c dC dI A R_PngWriter b_PngWriter_turned 4 (some .int) 0 0 []) {K : Nat} {out : Int32}  {x0 : Int32} {x1 : Int32} {x2 : Int32} {x3 : Int32} {rec : Int32 → Int32 → Option (Int32)}  (hex0 : ∀ v : Int32, out = v → at_PngWriter_turned_25 p l e R s m args below meth c dC dI A Q v) (hrec : ∀ (x2 : Int32) (x3 : Int32), rec x2 x3 = some out → at_PngWriter_turned_4 p l e R s m args below meth c dC dI A Q x0 x1 x2 x3) (h : f_PngWriter_turned_4 K  rec x0 x1 x2 x3 = some out) : at_PngWriter_turned_4 p l e R s m args below meth c dC dI A Q x0 x1 x2 x3 := by
  refine fun H locs ls hP hD hS hl => ?_
  obtain ⟨hx, hb, hr, hml, hown, hts, hlk, hK, hA, hV, htr, hex, hF, hL, hfl⟩ := id C
  unfold f_PngWriter_turned_4 at h
  refine lv_iload_n hx hb d_PngWriter_turned_4 rfl (lv_at hl 3 rfl) ?_
  refine lv_iload_n hx hb d_PngWriter_turned_5 rfl (lv_at hl 1 rfl) ?_
  refine lv_icmp_ge (tgt := 25) hx hb d_PngWriter_turned_6 (by decide) (fun c_6 => ?_) (fun c_6 => ?_)
  · have h := dc_t c_6 h
    cases h
    exact hex0 _ rfl H locs ls hP hD hS (lv_sub hl [2] rfl)
  have h := dc_f c_6 h
  refine lv_iload_n hx hb d_PngWriter_turned_9 rfl (lv_at hl 2 rfl) ?_
  refine lv_iconst (v := 1) hx hb d_PngWriter_turned_10 (by decide) ?_
  refine lv_ishl hx hb d_PngWriter_turned_11 ?_
  refine lv_iload_n hx hb d_PngWriter_turned_12 rfl (lv_at hl 0 rfl) ?_
  refine lv_iload_n hx hb d_PngWriter_turned_13 rfl (lv_at hl 3 rfl) ?_
  refine lv_ishr hx hb d_PngWriter_turned_14 ?_
  refine lv_iconst (v := 1) hx hb d_PngWriter_turned_15 (by decide) ?_
  refine lv_iand hx hb d_PngWriter_turned_16 ?_
  refine lv_ior hx hb d_PngWriter_turned_17 ?_
  refine lv_istore_n (lv' := [(2, .int ((x2 <<< ((1 : Int32) &&& 31)) ||| ((x0 >>> (x3 &&& 31)) &&& 1))), (0, .int x0), (1, .int x1), (3, .int x3)]) hx hb d_PngWriter_turned_18 rfl hl (by decide) rfl (fun ls hl => ?_)
  refine lv_iinc (v := (x3 + 1)) (lv' := [(3, .int (x3 + 1)), (2, .int ((x2 <<< ((1 : Int32) &&& 31)) ||| ((x0 >>> (x3 &&& 31)) &&& 1))), (0, .int x0), (1, .int x1)]) hx hb d_PngWriter_turned_19 hl (k := 3) rfl rfl (by decide) rfl (fun ls hl => ?_)
  refine lv_goto (tgt := 4) hx hb d_PngWriter_turned_22 (by decide) ?_
  exact hrec _ _ h H locs ls hP hD hS (lv_sub hl [2, 3, 1, 0] rfl)
set_option maxHeartbeats 400000 in
set_option maxRecDepth 100000 in
theorem w_PngWriter_turned_L4 {p : Program} {l : Launch} {e : Env} {R : Room} {s : State} {m : MethodId} {args : Array Value} {below : List Frame} {meth : Method} {c : Code} {dC : Nat → ClassId} {dI : Nat → Nat → Nat} {A : Nat → Prop} {Q : State → Prop}  (C : cx p l e R s m args meth c dC dI A R_PngWriter b_PngWriter_turned 4 (some .int) 0 0 []) {K : Nat} {out : Int32} {x0 : Int32} {x1 : Int32} (hex0 : ∀ v : Int32, out = v → at_PngWriter_turned_25 p l e R s m args below meth c dC dI A Q v) : ∀ (n : Nat) (x2 : Int32) (x3 : Int32), f_PngWriter_turned_L4 K  x0 x1 n x2 x3 = some out → at_PngWriter_turned_4 p l e R s m args below meth c dC dI A Q x0 x1 x2 x3 := by
  intro n
  induction n with
  | zero =>
    intro x2 x3 h
    exact nomatch (show (none : Option (Int32)) = some out from h)
  | succ n ih =>
    intro x2 x3 h
    exact w_PngWriter_turned_4 C hex0 ih h
set_option maxHeartbeats 400000 in
set_option maxRecDepth 100000 in
theorem c_PngWriter_turned {l : Launch} (hfl : l.flags = flags0) (dC : Nat → ClassId) (dI : Nat → Nat → Nat)  (sz : Nat) (K : Nat) (x0 : Int32) (x1 : Int32)  {o : Int32 × Unit} (h : f_PngWriter_turned K x0 x1 = some o) : MetX l y_PngWriter_turned (Cond.code y_PngWriter_turned b_PngWriter_turned 4 (some .int) :: lw_g) (rmx 0 0 0 0) (vx_Pre dC dI [] [.int x0, .int x1] sz ws_PngWriter_turned) (vx_Q vl_i (.inl o) (fun u t => vx_B dC dI [] (va_A ws_PngWriter_turned sz) (w1_PngWriter_turned  u) t) (va_A ws_PngWriter_turned sz)) 0 0 (va_A ws_PngWriter_turned sz) := by
  refine MetX.ofW (cc := b_PngWriter_turned) (maxL := 4) (ret := (some .int)) (by decide +kernel) rfl ?_
  intro p e s m args below meth c s₁ B hml hv
  obtain ⟨rfl, rfl, C, hP, hD, hS⟩ := dc_entry hfl B hml hv
  have hl := lv_entry ([.int x0, .int x1]) (n := 4) (Nat.le_of_ble_eq_true rfl)
  rw [lg_entry_eq]
  generalize (lg_sl ([.int x0, .int x1]) ++ List.replicate (4 - (lg_sl ([.int x0, .int x1])).length) Slot.unset).toArray = ls at hl ⊢
  have hl : lv_has ls 4 [(0, .int x0), (1, .int x1)] := hl
  generalize hAe : va_A ws_PngWriter_turned s.heap.size = A at C hD hS ⊢
  generalize (headSpec (Cond.code y_PngWriter_turned b_PngWriter_turned 4 (some .int) :: lw_g) (rmx 0 0 0 0)).room = R at C ⊢
  have C : cx p l e R s m _ meth c dC dI A R_PngWriter b_PngWriter_turned 4 (some .int) 0 0 [] := C
  obtain ⟨hx, hb, hr, hml, hown, hts, hlk, hK, hA, hV, htr, hex, hF, hL, hfl⟩ := id C
  unfold f_PngWriter_turned at h
  revert hP hS
  generalize hH : s.heap = H
  generalize hLo : ([] : List Loc) = locs
  intro hP hS
  have hS : va_S A s.heap H locs := by rw [hH]; exact hS
  refine lv_iconst (v := 0) hx hb d_PngWriter_turned_0 (by decide) ?_
  refine lv_istore_n (lv' := [(2, .int 0), (0, .int x0), (1, .int x1)]) hx hb d_PngWriter_turned_1 rfl hl (by decide) rfl (fun ls hl => ?_)
  refine lv_iconst (v := 0) hx hb d_PngWriter_turned_2 (by decide) ?_
  refine lv_istore_n (lv' := [(3, .int 0), (2, .int 0), (0, .int x0), (1, .int x1)]) hx hb d_PngWriter_turned_3 rfl hl (by decide) rfl (fun ls hl => ?_)
  obtain ⟨r_4, hg_4, h⟩ := dc_bindE h
  refine w_PngWriter_turned_L4 C ?_ K _ _ hg_4 H locs ls hP hD hS (lv_sub hl [2, 3, 1, 0] rfl)
  · refine fun v_25 hr => ?_
    subst r_4
    refine fun H locs ls hP hD hS hl => ?_
    refine lv_iload_n hx hb d_PngWriter_turned_25 rfl (lv_at hl 0 rfl) ?_
    cases h
    exact dc_iret C (v := v_25) (u := ()) (w1 := w1_PngWriter_turned ) hP hD hS d_PngWriter_turned_26
def ws_PngWriter_putLiteral (h_p1 : Nat) (h_p1_bytes : Nat) (k_p1_bytes : ClassId) (n_p1_bytes : Nat) (p1_filled : Int32) (p1_bitStore : Int32) (p1_bitsHeld : Int32) (a_p1_bytes : Nat → Int32) : va_W := [(h_p1, .inr (11, [.ref h_p1_bytes, .int p1_filled, .int p1_bitStore, .int p1_bitsHeld])), (h_p1_bytes, .inl (k_p1_bytes, n_p1_bytes, .inl a_p1_bytes))]
abbrev w1_PngWriter_putLiteral (h_p1 : Nat) (h_p1_bytes : Nat) (k_p1_bytes : ClassId) (n_p1_bytes : Nat)  (u : Int32 × Int32 × Int32 × (Nat → Int32)) : va_W := ws_PngWriter_putLiteral h_p1 h_p1_bytes k_p1_bytes n_p1_bytes u.1 u.2.1 u.2.2.1 u.2.2.2
abbrev q_PngWriter_putLiteral (below : List Frame) (args : Array Value) (s : State) (dC : Nat → ClassId) (dI : Nat → Nat → Nat) (A : Nat → Prop) (h_p1 : Nat) (h_p1_bytes : Nat) (k_p1_bytes : ClassId) (n_p1_bytes : Nat)  (o : (Unit × (Int32 × Int32 × Int32 × (Nat → Int32))) ⊕ (Nat × (Int32 × Int32 × Int32 × (Nat → Int32)))) : State → Prop := XQ below (vx_Q vl_v o (fun u t => vx_B dC dI [(k_p1_bytes, .byte)] A (w1_PngWriter_putLiteral h_p1 h_p1_bytes k_p1_bytes n_p1_bytes u) t) A) args s (mcx o) (msx o) A
theorem d_PngWriter_putLiteral_0 : decode b_PngWriter_putLiteral 0 = .ok (.iload_n 0, 1) := by decide +kernel
theorem d_PngWriter_putLiteral_1 : decode b_PngWriter_putLiteral 1 = .ok (.sipush 144, 3) := by decide +kernel
theorem d_PngWriter_putLiteral_4 : decode b_PngWriter_putLiteral 4 = .ok (.if_icmp .ge 21, 3) := by decide +kernel
theorem d_PngWriter_putLiteral_7 : decode b_PngWriter_putLiteral 7 = .ok (.aload_n 1, 1) := by decide +kernel
theorem d_PngWriter_putLiteral_8 : decode b_PngWriter_putLiteral 8 = .ok (.bipush 48, 2) := by decide +kernel
theorem d_PngWriter_putLiteral_10 : decode b_PngWriter_putLiteral 10 = .ok (.iload_n 0, 1) := by decide +kernel
theorem d_PngWriter_putLiteral_11 : decode b_PngWriter_putLiteral 11 = .ok (.iadd, 1) := by decide +kernel
theorem d_PngWriter_putLiteral_12 : decode b_PngWriter_putLiteral 12 = .ok (.bipush 8, 2) := by decide +kernel
theorem d_PngWriter_putLiteral_14 : decode b_PngWriter_putLiteral 14 = .ok (.invokestatic 154, 3) := by decide +kernel
theorem d_PngWriter_putLiteral_17 : decode b_PngWriter_putLiteral 17 = .ok (.bipush 8, 2) := by decide +kernel
theorem d_PngWriter_putLiteral_19 : decode b_PngWriter_putLiteral 19 = .ok (.invokevirtual 112, 3) := by decide +kernel
theorem d_PngWriter_putLiteral_22 : decode b_PngWriter_putLiteral 22 = .ok (.goto 79, 3) := by decide +kernel
theorem d_PngWriter_putLiteral_25 : decode b_PngWriter_putLiteral 25 = .ok (.iload_n 0, 1) := by decide +kernel
theorem d_PngWriter_putLiteral_26 : decode b_PngWriter_putLiteral 26 = .ok (.sipush 256, 3) := by decide +kernel
theorem d_PngWriter_putLiteral_29 : decode b_PngWriter_putLiteral 29 = .ok (.if_icmp .ge 26, 3) := by decide +kernel
theorem d_PngWriter_putLiteral_32 : decode b_PngWriter_putLiteral 32 = .ok (.aload_n 1, 1) := by decide +kernel
theorem d_PngWriter_putLiteral_33 : decode b_PngWriter_putLiteral 33 = .ok (.sipush 400, 3) := by decide +kernel
theorem d_PngWriter_putLiteral_36 : decode b_PngWriter_putLiteral 36 = .ok (.iload_n 0, 1) := by decide +kernel
theorem d_PngWriter_putLiteral_37 : decode b_PngWriter_putLiteral 37 = .ok (.iadd, 1) := by decide +kernel
theorem d_PngWriter_putLiteral_38 : decode b_PngWriter_putLiteral 38 = .ok (.sipush 144, 3) := by decide +kernel
theorem d_PngWriter_putLiteral_41 : decode b_PngWriter_putLiteral 41 = .ok (.isub, 1) := by decide +kernel
theorem d_PngWriter_putLiteral_42 : decode b_PngWriter_putLiteral 42 = .ok (.bipush 9, 2) := by decide +kernel
theorem d_PngWriter_putLiteral_44 : decode b_PngWriter_putLiteral 44 = .ok (.invokestatic 154, 3) := by decide +kernel
theorem d_PngWriter_putLiteral_47 : decode b_PngWriter_putLiteral 47 = .ok (.bipush 9, 2) := by decide +kernel
theorem d_PngWriter_putLiteral_49 : decode b_PngWriter_putLiteral 49 = .ok (.invokevirtual 112, 3) := by decide +kernel
theorem d_PngWriter_putLiteral_52 : decode b_PngWriter_putLiteral 52 = .ok (.goto 49, 3) := by decide +kernel
theorem d_PngWriter_putLiteral_55 : decode b_PngWriter_putLiteral 55 = .ok (.iload_n 0, 1) := by decide +kernel
theorem d_PngWriter_putLiteral_56 : decode b_PngWriter_putLiteral 56 = .ok (.sipush 280, 3) := by decide +kernel
theorem d_PngWriter_putLiteral_59 : decode b_PngWriter_putLiteral 59 = .ok (.if_icmp .ge 22, 3) := by decide +kernel
theorem d_PngWriter_putLiteral_62 : decode b_PngWriter_putLiteral 62 = .ok (.aload_n 1, 1) := by decide +kernel
theorem d_PngWriter_putLiteral_63 : decode b_PngWriter_putLiteral 63 = .ok (.iload_n 0, 1) := by decide +kernel
theorem d_PngWriter_putLiteral_64 : decode b_PngWriter_putLiteral 64 = .ok (.sipush 256, 3) := by decide +kernel
theorem d_PngWriter_putLiteral_67 : decode b_PngWriter_putLiteral 67 = .ok (.isub, 1) := by decide +kernel
theorem d_PngWriter_putLiteral_68 : decode b_PngWriter_putLiteral 68 = .ok (.bipush 7, 2) := by decide +kernel
theorem d_PngWriter_putLiteral_70 : decode b_PngWriter_putLiteral 70 = .ok (.invokestatic 154, 3) := by decide +kernel
theorem d_PngWriter_putLiteral_73 : decode b_PngWriter_putLiteral 73 = .ok (.bipush 7, 2) := by decide +kernel
theorem d_PngWriter_putLiteral_75 : decode b_PngWriter_putLiteral 75 = .ok (.invokevirtual 112, 3) := by decide +kernel
theorem d_PngWriter_putLiteral_78 : decode b_PngWriter_putLiteral 78 = .ok (.goto 23, 3) := by decide +kernel
theorem d_PngWriter_putLiteral_81 : decode b_PngWriter_putLiteral 81 = .ok (.aload_n 1, 1) := by decide +kernel
theorem d_PngWriter_putLiteral_82 : decode b_PngWriter_putLiteral 82 = .ok (.sipush 192, 3) := by decide +kernel
theorem d_PngWriter_putLiteral_85 : decode b_PngWriter_putLiteral 85 = .ok (.iload_n 0, 1) := by decide +kernel
theorem d_PngWriter_putLiteral_86 : decode b_PngWriter_putLiteral 86 = .ok (.iadd, 1) := by decide +kernel
theorem d_PngWriter_putLiteral_87 : decode b_PngWriter_putLiteral 87 = .ok (.sipush 280, 3) := by decide +kernel
theorem d_PngWriter_putLiteral_90 : decode b_PngWriter_putLiteral 90 = .ok (.isub, 1) := by decide +kernel
theorem d_PngWriter_putLiteral_91 : decode b_PngWriter_putLiteral 91 = .ok (.bipush 8, 2) := by decide +kernel
theorem d_PngWriter_putLiteral_93 : decode b_PngWriter_putLiteral 93 = .ok (.invokestatic 154, 3) := by decide +kernel
theorem d_PngWriter_putLiteral_96 : decode b_PngWriter_putLiteral 96 = .ok (.bipush 8, 2) := by decide +kernel
theorem d_PngWriter_putLiteral_98 : decode b_PngWriter_putLiteral 98 = .ok (.invokevirtual 112, 3) := by decide +kernel
theorem d_PngWriter_putLiteral_101 : decode b_PngWriter_putLiteral 101 = .ok (.return_, 1) := by decide +kernel
def at_PngWriter_putLiteral_101 (p : Program) (l : Launch) (e : Env) (R : Room) (s : State) (m : MethodId) (args : Array Value) (below : List Frame) (meth : Method) (c : Code) (dC : Nat → ClassId) (dI : Nat → Nat → Nat) (A : Nat → Prop) (Q : State → Prop) (h_p1 : Nat) (h_p1_bytes : Nat) (k_p1_bytes : ClassId) (n_p1_bytes : Nat) (p1_filled : Int32) (p1_bitStore : Int32) (p1_bitsHeld : Int32) (a_p1_bytes : Nat → Int32)  : Prop := ∀ (H : Heap) (locs : List Loc) (ls : Array Slot), va_P (dC, dI) classes (ws_PngWriter_putLiteral h_p1 h_p1_bytes k_p1_bytes n_p1_bytes p1_filled p1_bitStore p1_bitsHeld a_p1_bytes) H → va_D A (ws_PngWriter_putLiteral h_p1 h_p1_bytes k_p1_bytes n_p1_bytes p1_filled p1_bitStore p1_bitsHeld a_p1_bytes) → va_S A s.heap H locs → lv_has ls 2 [(1, .ref h_p1)] → W p l e R s m args below meth c H locs 0 0 Q (F0 m 101 ls [])
def f_PngWriter_putLiteral_101 (K : Nat) (n_p1_bytes : Nat) (p1_filled : Int32) (p1_bitStore : Int32) (p1_bitsHeld : Int32) (a_p1_bytes : Nat → Int32)  : Option ((Unit × (Int32 × Int32 × Int32 × (Nat → Int32))) ⊕ (Nat × (Int32 × Int32 × Int32 × (Nat → Int32)))) := some (.inl ((), (p1_filled, p1_bitStore, p1_bitsHeld, a_p1_bytes)))
def f_PngWriter_putLiteral (K : Nat) (n_p1_bytes : Nat) (x0 : Int32) (p1_filled : Int32) (p1_bitStore : Int32) (p1_bitsHeld : Int32) (a_p1_bytes : Nat → Int32) : Option ((Unit × (Int32 × Int32 × Int32 × (Nat → Int32))) ⊕ (Nat × (Int32 × Int32 × Int32 × (Nat → Int32)))) := (if 144 ≤ x0 then ((if 256 ≤ x0 then ((if 280 ≤ x0 then (dc_bind (f_PngWriter_turned K ((192 + x0) - 280) 8) (fun r_93 => dc_try (f_Sink_putBits K n_p1_bytes r_93.1 8 p1_filled p1_bitStore p1_bitsHeld a_p1_bytes) (fun r_98 => f_PngWriter_putLiteral_101 K n_p1_bytes r_98.2.1 r_98.2.2.1 r_98.2.2.2.1 r_98.2.2.2.2) (fun r_98 => some (.inr (r_98.1, (r_98.2.1, r_98.2.2.1, r_98.2.2.2.1, r_98.2.2.2.2)))))) else (dc_bind (f_PngWriter_turned K (x0 - 256) 7) (fun r_70 => dc_try (f_Sink_putBits K n_p1_bytes r_70.1 7 p1_filled p1_bitStore p1_bitsHeld a_p1_bytes) (fun r_75 => f_PngWriter_putLiteral_101 K n_p1_bytes r_75.2.1 r_75.2.2.1 r_75.2.2.2.1 r_75.2.2.2.2) (fun r_75 => some (.inr (r_75.1, (r_75.2.1, r_75.2.2.1, r_75.2.2.2.1, r_75.2.2.2.2)))))))) else (dc_bind (f_PngWriter_turned K ((400 + x0) - 144) 9) (fun r_44 => dc_try (f_Sink_putBits K n_p1_bytes r_44.1 9 p1_filled p1_bitStore p1_bitsHeld a_p1_bytes) (fun r_49 => f_PngWriter_putLiteral_101 K n_p1_bytes r_49.2.1 r_49.2.2.1 r_49.2.2.2.1 r_49.2.2.2.2) (fun r_49 => some (.inr (r_49.1, (r_49.2.1, r_49.2.2.1, r_49.2.2.2.1, r_49.2.2.2.2)))))))) else (dc_bind (f_PngWriter_turned K (48 + x0) 8) (fun r_14 => dc_try (f_Sink_putBits K n_p1_bytes r_14.1 8 p1_filled p1_bitStore p1_bitsHeld a_p1_bytes) (fun r_19 => f_PngWriter_putLiteral_101 K n_p1_bytes r_19.2.1 r_19.2.2.1 r_19.2.2.2.1 r_19.2.2.2.2) (fun r_19 => some (.inr (r_19.1, (r_19.2.1, r_19.2.2.1, r_19.2.2.2.1, r_19.2.2.2.2)))))))
set_option maxHeartbeats 400000 in
set_option maxRecDepth 100000 in
theorem w_PngWriter_putLiteral_101 {p : Program} {l : Launch} {e : Env} {R : Room} {s : State} {m : MethodId} {args : Array Value} {below : List Frame} {meth : Method} {c : Code} {dC : Nat → ClassId} {dI : Nat → Nat → Nat} {A : Nat → Prop} {h_p1 : Nat} {h_p1_bytes : Nat} {k_p1_bytes : ClassId} {n_p1_bytes : Nat} (C : cx p l e R s m args meth c dC dI A R_PngWriter b_PngWriter_putLiteral 2 none 8 153 [(k_p1_bytes, .byte)]) {K : Nat} {o : (Unit × (Int32 × Int32 × Int32 × (Nat → Int32))) ⊕ (Nat × (Int32 × Int32 × Int32 × (Nat → Int32)))} {p1_filled : Int32} {p1_bitStore : Int32} {p1_bitsHeld : Int32} {a_p1_bytes : Nat → Int32}   (hRc : mcx o ≤ R.cells ∧ msx o ≤ R.slots) (h : f_PngWriter_putLiteral_101 K n_p1_bytes p1_filled p1_bitStore p1_bitsHeld a_p1_bytes = some o) : at_PngWriter_putLiteral_101 p l e R s m args below meth c dC dI A (q_PngWriter_putLiteral below args s dC dI A h_p1 h_p1_bytes k_p1_bytes n_p1_bytes o) h_p1 h_p1_bytes k_p1_bytes n_p1_bytes p1_filled p1_bitStore p1_bitsHeld a_p1_bytes := by
  refine fun H locs ls hP hD hS hl => ?_
  obtain ⟨hx, hb, hr, hml, hown, hts, hlk, hK, hA, hV, htr, hex, hF, hL, hfl⟩ := id C
  unfold f_PngWriter_putLiteral_101 at h
  cases h
  exact dc_vret C (u := (p1_filled, p1_bitStore, p1_bitsHeld, a_p1_bytes)) (w1 := w1_PngWriter_putLiteral h_p1 h_p1_bytes k_p1_bytes n_p1_bytes) hP hD hS d_PngWriter_putLiteral_101
set_option maxHeartbeats 400000 in
set_option maxRecDepth 100000 in
theorem c_PngWriter_putLiteral {l : Launch} (hfl : l.flags = flags0) (dC : Nat → ClassId) (dI : Nat → Nat → Nat) (h_p1 : Nat) (h_p1_bytes : Nat) (k_p1_bytes : ClassId) (n_p1_bytes : Nat) (sz : Nat) (K : Nat) (x0 : Int32) (p1_filled : Int32) (p1_bitStore : Int32) (p1_bitsHeld : Int32) (a_p1_bytes : Nat → Int32) {o : (Unit × (Int32 × Int32 × Int32 × (Nat → Int32))) ⊕ (Nat × (Int32 × Int32 × Int32 × (Nat → Int32)))} (h : f_PngWriter_putLiteral K n_p1_bytes x0 p1_filled p1_bitStore p1_bitsHeld a_p1_bytes = some o) : MetX l y_PngWriter_putLiteral (Cond.code y_PngWriter_putLiteral b_PngWriter_putLiteral 2 none :: lw_g) (rmx 8 153 (mcx o) (msx o)) (vx_Pre dC dI [(k_p1_bytes, .byte)] [.int x0, .ref h_p1] sz (ws_PngWriter_putLiteral h_p1 h_p1_bytes k_p1_bytes n_p1_bytes p1_filled p1_bitStore p1_bitsHeld a_p1_bytes)) (vx_Q vl_v o (fun u t => vx_B dC dI [(k_p1_bytes, .byte)] (va_A (ws_PngWriter_putLiteral h_p1 h_p1_bytes k_p1_bytes n_p1_bytes p1_filled p1_bitStore p1_bitsHeld a_p1_bytes) sz) (w1_PngWriter_putLiteral h_p1 h_p1_bytes k_p1_bytes n_p1_bytes u) t) (va_A (ws_PngWriter_putLiteral h_p1 h_p1_bytes k_p1_bytes n_p1_bytes p1_filled p1_bitStore p1_bitsHeld a_p1_bytes) sz)) (mcx o) (msx o) (va_A (ws_PngWriter_putLiteral h_p1 h_p1_bytes k_p1_bytes n_p1_bytes p1_filled p1_bitStore p1_bitsHeld a_p1_bytes) sz) := by
  refine MetX.ofW (cc := b_PngWriter_putLiteral) (maxL := 2) (ret := none) (by decide +kernel) rfl ?_
  intro p e s m args below meth c s₁ B hml hv
  obtain ⟨rfl, rfl, C, hP, hD, hS⟩ := dc_entry hfl B hml hv
  have hl := lv_entry ([.int x0, .ref h_p1]) (n := 2) (Nat.le_of_ble_eq_true rfl)
  rw [lg_entry_eq]
  generalize (lg_sl ([.int x0, .ref h_p1]) ++ List.replicate (2 - (lg_sl ([.int x0, .ref h_p1])).length) Slot.unset).toArray = ls at hl ⊢
  have hl : lv_has ls 2 [(0, .int x0), (1, .ref h_p1)] := hl
  generalize hAe : va_A (ws_PngWriter_putLiteral h_p1 h_p1_bytes k_p1_bytes n_p1_bytes p1_filled p1_bitStore p1_bitsHeld a_p1_bytes) s.heap.size = A at C hD hS ⊢
  have hRc : mcx o ≤ (headSpec (Cond.code y_PngWriter_putLiteral b_PngWriter_putLiteral 2 none :: lw_g) (rmx 8 153 (mcx o) (msx o))).room.cells ∧ msx o ≤ (headSpec (Cond.code y_PngWriter_putLiteral b_PngWriter_putLiteral 2 none :: lw_g) (rmx 8 153 (mcx o) (msx o))).room.slots := ⟨Nat.le_refl _, Nat.le_refl _⟩
  generalize (headSpec (Cond.code y_PngWriter_putLiteral b_PngWriter_putLiteral 2 none :: lw_g) (rmx 8 153 (mcx o) (msx o))).room = R at C hRc ⊢
  have C : cx p l e R s m _ meth c dC dI A R_PngWriter b_PngWriter_putLiteral 2 none 8 153 [(k_p1_bytes, .byte)] := C
  obtain ⟨hx, hb, hr, hml, hown, hts, hlk, hK, hA, hV, htr, hex, hF, hL, hfl⟩ := id C
  unfold f_PngWriter_putLiteral at h
  revert hP hS
  generalize hH : s.heap = H
  generalize hLo : ([] : List Loc) = locs
  intro hP hS
  have hS : va_S A s.heap H locs := by rw [hH]; exact hS
  refine lv_iload_n hx hb d_PngWriter_putLiteral_0 rfl (lv_at hl 0 rfl) ?_
  refine lv_sipush (v := 144) hx hb d_PngWriter_putLiteral_1 (by decide) ?_
  refine lv_icmp_ge (tgt := 25) hx hb d_PngWriter_putLiteral_4 (by decide) (fun c_4 => ?_) (fun c_4 => ?_)
  · have h := dc_t c_4 h
    refine lv_iload_n hx hb d_PngWriter_putLiteral_25 rfl (lv_at hl 0 rfl) ?_
    refine lv_sipush (v := 256) hx hb d_PngWriter_putLiteral_26 (by decide) ?_
    refine lv_icmp_ge (tgt := 55) hx hb d_PngWriter_putLiteral_29 (by decide) (fun c_29 => ?_) (fun c_29 => ?_)
    · have h := dc_t c_29 h
      refine lv_iload_n hx hb d_PngWriter_putLiteral_55 rfl (lv_at hl 0 rfl) ?_
      refine lv_sipush (v := 280) hx hb d_PngWriter_putLiteral_56 (by decide) ?_
      refine lv_icmp_ge (tgt := 81) hx hb d_PngWriter_putLiteral_59 (by decide) (fun c_59 => ?_) (fun c_59 => ?_)
      · have h := dc_t c_59 h
        refine lv_aload_n hx hb d_PngWriter_putLiteral_81 rfl (lv_at hl 1 rfl) ?_
        refine lv_sipush (v := 192) hx hb d_PngWriter_putLiteral_82 (by decide) ?_
        refine lv_iload_n hx hb d_PngWriter_putLiteral_85 rfl (lv_at hl 0 rfl) ?_
        refine lv_iadd hx hb d_PngWriter_putLiteral_86 ?_
        refine lv_sipush (v := 280) hx hb d_PngWriter_putLiteral_87 (by decide) ?_
        refine lv_isub hx hb d_PngWriter_putLiteral_90 ?_
        refine lv_bipush (v := 8) hx hb d_PngWriter_putLiteral_91 (by decide) ?_
        obtain ⟨r_93, hg_93, h⟩ := dc_bindE h
        refine dc_callS (y := y_PngWriter_turned) (bytes := b_PngWriter_turned) (maxL := 4) (ret' := (some .int)) (fr' := 0) (lo' := 0) (n := 2) (val := vl_i) (o := r_93) (tysc := []) (As := [.int ((192 + x0) - 280), .int 8]) (rest := [.ref h_p1]) (wc := ws_PngWriter_turned) (wr := [(h_p1, .inr (11, [.ref h_p1_bytes, .int p1_filled, .int p1_bitStore, .int p1_bitsHeld])), (h_p1_bytes, .inl (k_p1_bytes, n_p1_bytes, .inl a_p1_bytes))]) (w1 := w1_PngWriter_turned ) C (c_PngWriter_turned hfl dC dI H.size K ((192 + x0) - 280) 8 hg_93) cw_PngWriter_turned (lg_in1 (List.mem_of_getElem? (i := 9) rfl) rfl) (lg_in6 (List.mem_of_getElem? (i := 217) rfl) rfl) (lg_in6 (List.mem_of_getElem? (i := 218) rfl) rfl) (by decide +kernel) ⟨Nat.le_of_ble_eq_true rfl, Nat.le_of_ble_eq_true rfl⟩ rfl rfl (Nat.le_of_ble_eq_true rfl) d_PngWriter_putLiteral_93 hP hD hS hl.1 [] [0, 1] [] rfl rfl rfl rfl (by decide) rfl (fun H locs hP hD hS => ?_)
        have hP : va_P (dC, dI) classes (ws_PngWriter_putLiteral h_p1 h_p1_bytes k_p1_bytes n_p1_bytes p1_filled p1_bitStore p1_bitsHeld a_p1_bytes) H := hP.sub [0, 1] rfl
        have hD : va_D A (ws_PngWriter_putLiteral h_p1 h_p1_bytes k_p1_bytes n_p1_bytes p1_filled p1_bitStore p1_bitsHeld a_p1_bytes) := hD.sub [0, 1] (by decide) rfl
        show W p l e R s m _ below meth c H locs 0 0 _ (F0 m 96 ls [.int r_93.1, .ref h_p1])
        refine lv_bipush (v := 8) hx hb d_PngWriter_putLiteral_96 (by decide) ?_
        rcases dc_tryE h with ⟨r_98, hg_98, h⟩ | ⟨r_98, hg_98, h⟩
        rotate_left
        · cases h
          exact dc_thrV (y := y_Sink_putBits) (bytes := b_Sink_putBits) (maxL := 3) (ret' := none) (fr' := 7) (lo' := 131) (n := 2) (val := vl_v) (o := r_98) (tysc := [(k_p1_bytes, .byte)]) (As := [.int r_93.1, .int 8]) (rest := []) (wc := (ws_Sink_putBits h_p1 h_p1_bytes k_p1_bytes n_p1_bytes p1_filled p1_bitStore p1_bitsHeld a_p1_bytes)) (wr := []) (w1 := w1_Sink_putBits h_p1 h_p1_bytes k_p1_bytes n_p1_bytes) C cw_Sink_putBits (lg_in1 (List.mem_of_getElem? (i := 2) rfl) rfl) (lg_in6 (List.mem_of_getElem? (i := 187) rfl) rfl) (lg_in6 (List.mem_of_getElem? (i := 188) rfl) rfl) (lg_in6 (List.mem_of_getElem? (i := 189) rfl) rfl) (ci := 11) (cq := (R_Sink, F_Sink, 4)) (q0 := 0) rfl rfl rfl (ct_Sink_putBits hfl dC dI h_p1 h_p1_bytes k_p1_bytes n_p1_bytes H.size K r_93.1 8 p1_filled p1_bitStore p1_bitsHeld a_p1_bytes hg_98) (by decide +kernel) ⟨Nat.le_of_ble_eq_true rfl, Nat.le_of_ble_eq_true rfl⟩ rfl rfl (Nat.le_of_ble_eq_true rfl) d_PngWriter_putLiteral_98 hRc.1 hRc.2 hP hD hS hl.1 [0, 1] [] [0] rfl rfl rfl rfl (by decide) rfl (fun x t H1 locs1 a1 a2 a3 a4 hP hD hS => dc_leaveT (u := (r_98.1, (r_98.2.1, r_98.2.2.1, r_98.2.2.2.1, r_98.2.2.2.2))) (w1 := w1_PngWriter_putLiteral h_p1 h_p1_bytes k_p1_bytes n_p1_bytes) C a1 a2 a3 a4 (hP.sub [0, 1] rfl) (hD.sub [0, 1] (by decide) rfl) hS)
        refine dc_callV (y := y_Sink_putBits) (bytes := b_Sink_putBits) (maxL := 3) (ret' := none) (fr' := 7) (lo' := 131) (n := 2) (val := vl_v) (o := r_98) (tysc := [(k_p1_bytes, .byte)]) (As := [.int r_93.1, .int 8]) (rest := []) (wc := (ws_Sink_putBits h_p1 h_p1_bytes k_p1_bytes n_p1_bytes p1_filled p1_bitStore p1_bitsHeld a_p1_bytes)) (wr := []) (w1 := w1_Sink_putBits h_p1 h_p1_bytes k_p1_bytes n_p1_bytes) C cw_Sink_putBits (lg_in1 (List.mem_of_getElem? (i := 2) rfl) rfl) (lg_in6 (List.mem_of_getElem? (i := 187) rfl) rfl) (lg_in6 (List.mem_of_getElem? (i := 188) rfl) rfl) (lg_in6 (List.mem_of_getElem? (i := 189) rfl) rfl) (ci := 11) (cq := (R_Sink, F_Sink, 4)) (q0 := 0) rfl rfl rfl (cr_Sink_putBits hfl dC dI h_p1 h_p1_bytes k_p1_bytes n_p1_bytes H.size K r_93.1 8 p1_filled p1_bitStore p1_bitsHeld a_p1_bytes hg_98) (by decide +kernel) ⟨Nat.le_of_ble_eq_true rfl, Nat.le_of_ble_eq_true rfl⟩ rfl rfl (Nat.le_of_ble_eq_true rfl) d_PngWriter_putLiteral_98 hP hD hS hl.1 [0, 1] [] [0] rfl rfl rfl rfl (by decide) rfl (fun H locs hP hD hS => ?_)
        have hP : va_P (dC, dI) classes (ws_PngWriter_putLiteral h_p1 h_p1_bytes k_p1_bytes n_p1_bytes r_98.2.1 r_98.2.2.1 r_98.2.2.2.1 r_98.2.2.2.2) H := hP.sub [0, 1] rfl
        have hD : va_D A (ws_PngWriter_putLiteral h_p1 h_p1_bytes k_p1_bytes n_p1_bytes r_98.2.1 r_98.2.2.1 r_98.2.2.2.1 r_98.2.2.2.2) := hD.sub [0, 1] (by decide) rfl
        show W p l e R s m _ below meth c H locs 0 0 _ (F0 m 101 ls [])
        exact w_PngWriter_putLiteral_101 C hRc h H locs ls hP hD hS (lv_sub hl [1] rfl)
      have h := dc_f c_59 h
      refine lv_aload_n hx hb d_PngWriter_putLiteral_62 rfl (lv_at hl 1 rfl) ?_
      refine lv_iload_n hx hb d_PngWriter_putLiteral_63 rfl (lv_at hl 0 rfl) ?_
      refine lv_sipush (v := 256) hx hb d_PngWriter_putLiteral_64 (by decide) ?_
      refine lv_isub hx hb d_PngWriter_putLiteral_67 ?_
      refine lv_bipush (v := 7) hx hb d_PngWriter_putLiteral_68 (by decide) ?_
      obtain ⟨r_70, hg_70, h⟩ := dc_bindE h
      refine dc_callS (y := y_PngWriter_turned) (bytes := b_PngWriter_turned) (maxL := 4) (ret' := (some .int)) (fr' := 0) (lo' := 0) (n := 2) (val := vl_i) (o := r_70) (tysc := []) (As := [.int (x0 - 256), .int 7]) (rest := [.ref h_p1]) (wc := ws_PngWriter_turned) (wr := [(h_p1, .inr (11, [.ref h_p1_bytes, .int p1_filled, .int p1_bitStore, .int p1_bitsHeld])), (h_p1_bytes, .inl (k_p1_bytes, n_p1_bytes, .inl a_p1_bytes))]) (w1 := w1_PngWriter_turned ) C (c_PngWriter_turned hfl dC dI H.size K (x0 - 256) 7 hg_70) cw_PngWriter_turned (lg_in1 (List.mem_of_getElem? (i := 9) rfl) rfl) (lg_in6 (List.mem_of_getElem? (i := 217) rfl) rfl) (lg_in6 (List.mem_of_getElem? (i := 218) rfl) rfl) (by decide +kernel) ⟨Nat.le_of_ble_eq_true rfl, Nat.le_of_ble_eq_true rfl⟩ rfl rfl (Nat.le_of_ble_eq_true rfl) d_PngWriter_putLiteral_70 hP hD hS hl.1 [] [0, 1] [] rfl rfl rfl rfl (by decide) rfl (fun H locs hP hD hS => ?_)
      have hP : va_P (dC, dI) classes (ws_PngWriter_putLiteral h_p1 h_p1_bytes k_p1_bytes n_p1_bytes p1_filled p1_bitStore p1_bitsHeld a_p1_bytes) H := hP.sub [0, 1] rfl
      have hD : va_D A (ws_PngWriter_putLiteral h_p1 h_p1_bytes k_p1_bytes n_p1_bytes p1_filled p1_bitStore p1_bitsHeld a_p1_bytes) := hD.sub [0, 1] (by decide) rfl
      show W p l e R s m _ below meth c H locs 0 0 _ (F0 m 73 ls [.int r_70.1, .ref h_p1])
      refine lv_bipush (v := 7) hx hb d_PngWriter_putLiteral_73 (by decide) ?_
      rcases dc_tryE h with ⟨r_75, hg_75, h⟩ | ⟨r_75, hg_75, h⟩
      rotate_left
      · cases h
        exact dc_thrV (y := y_Sink_putBits) (bytes := b_Sink_putBits) (maxL := 3) (ret' := none) (fr' := 7) (lo' := 131) (n := 2) (val := vl_v) (o := r_75) (tysc := [(k_p1_bytes, .byte)]) (As := [.int r_70.1, .int 7]) (rest := []) (wc := (ws_Sink_putBits h_p1 h_p1_bytes k_p1_bytes n_p1_bytes p1_filled p1_bitStore p1_bitsHeld a_p1_bytes)) (wr := []) (w1 := w1_Sink_putBits h_p1 h_p1_bytes k_p1_bytes n_p1_bytes) C cw_Sink_putBits (lg_in1 (List.mem_of_getElem? (i := 2) rfl) rfl) (lg_in6 (List.mem_of_getElem? (i := 187) rfl) rfl) (lg_in6 (List.mem_of_getElem? (i := 188) rfl) rfl) (lg_in6 (List.mem_of_getElem? (i := 189) rfl) rfl) (ci := 11) (cq := (R_Sink, F_Sink, 4)) (q0 := 0) rfl rfl rfl (ct_Sink_putBits hfl dC dI h_p1 h_p1_bytes k_p1_bytes n_p1_bytes H.size K r_70.1 7 p1_filled p1_bitStore p1_bitsHeld a_p1_bytes hg_75) (by decide +kernel) ⟨Nat.le_of_ble_eq_true rfl, Nat.le_of_ble_eq_true rfl⟩ rfl rfl (Nat.le_of_ble_eq_true rfl) d_PngWriter_putLiteral_75 hRc.1 hRc.2 hP hD hS hl.1 [0, 1] [] [0] rfl rfl rfl rfl (by decide) rfl (fun x t H1 locs1 a1 a2 a3 a4 hP hD hS => dc_leaveT (u := (r_75.1, (r_75.2.1, r_75.2.2.1, r_75.2.2.2.1, r_75.2.2.2.2))) (w1 := w1_PngWriter_putLiteral h_p1 h_p1_bytes k_p1_bytes n_p1_bytes) C a1 a2 a3 a4 (hP.sub [0, 1] rfl) (hD.sub [0, 1] (by decide) rfl) hS)
      refine dc_callV (y := y_Sink_putBits) (bytes := b_Sink_putBits) (maxL := 3) (ret' := none) (fr' := 7) (lo' := 131) (n := 2) (val := vl_v) (o := r_75) (tysc := [(k_p1_bytes, .byte)]) (As := [.int r_70.1, .int 7]) (rest := []) (wc := (ws_Sink_putBits h_p1 h_p1_bytes k_p1_bytes n_p1_bytes p1_filled p1_bitStore p1_bitsHeld a_p1_bytes)) (wr := []) (w1 := w1_Sink_putBits h_p1 h_p1_bytes k_p1_bytes n_p1_bytes) C cw_Sink_putBits (lg_in1 (List.mem_of_getElem? (i := 2) rfl) rfl) (lg_in6 (List.mem_of_getElem? (i := 187) rfl) rfl) (lg_in6 (List.mem_of_getElem? (i := 188) rfl) rfl) (lg_in6 (List.mem_of_getElem? (i := 189) rfl) rfl) (ci := 11) (cq := (R_Sink, F_Sink, 4)) (q0 := 0) rfl rfl rfl (cr_Sink_putBits hfl dC dI h_p1 h_p1_bytes k_p1_bytes n_p1_bytes H.size K r_70.1 7 p1_filled p1_bitStore p1_bitsHeld a_p1_bytes hg_75) (by decide +kernel) ⟨Nat.le_of_ble_eq_true rfl, Nat.le_of_ble_eq_true rfl⟩ rfl rfl (Nat.le_of_ble_eq_true rfl) d_PngWriter_putLiteral_75 hP hD hS hl.1 [0, 1] [] [0] rfl rfl rfl rfl (by decide) rfl (fun H locs hP hD hS => ?_)
      have hP : va_P (dC, dI) classes (ws_PngWriter_putLiteral h_p1 h_p1_bytes k_p1_bytes n_p1_bytes r_75.2.1 r_75.2.2.1 r_75.2.2.2.1 r_75.2.2.2.2) H := hP.sub [0, 1] rfl
      have hD : va_D A (ws_PngWriter_putLiteral h_p1 h_p1_bytes k_p1_bytes n_p1_bytes r_75.2.1 r_75.2.2.1 r_75.2.2.2.1 r_75.2.2.2.2) := hD.sub [0, 1] (by decide) rfl
      show W p l e R s m _ below meth c H locs 0 0 _ (F0 m 78 ls [])
      refine lv_goto (tgt := 101) hx hb d_PngWriter_putLiteral_78 (by decide) ?_
      exact w_PngWriter_putLiteral_101 C hRc h H locs ls hP hD hS (lv_sub hl [1] rfl)
    have h := dc_f c_29 h
    refine lv_aload_n hx hb d_PngWriter_putLiteral_32 rfl (lv_at hl 1 rfl) ?_
    refine lv_sipush (v := 400) hx hb d_PngWriter_putLiteral_33 (by decide) ?_
    refine lv_iload_n hx hb d_PngWriter_putLiteral_36 rfl (lv_at hl 0 rfl) ?_
    refine lv_iadd hx hb d_PngWriter_putLiteral_37 ?_
    refine lv_sipush (v := 144) hx hb d_PngWriter_putLiteral_38 (by decide) ?_
    refine lv_isub hx hb d_PngWriter_putLiteral_41 ?_
    refine lv_bipush (v := 9) hx hb d_PngWriter_putLiteral_42 (by decide) ?_
    obtain ⟨r_44, hg_44, h⟩ := dc_bindE h
    refine dc_callS (y := y_PngWriter_turned) (bytes := b_PngWriter_turned) (maxL := 4) (ret' := (some .int)) (fr' := 0) (lo' := 0) (n := 2) (val := vl_i) (o := r_44) (tysc := []) (As := [.int ((400 + x0) - 144), .int 9]) (rest := [.ref h_p1]) (wc := ws_PngWriter_turned) (wr := [(h_p1, .inr (11, [.ref h_p1_bytes, .int p1_filled, .int p1_bitStore, .int p1_bitsHeld])), (h_p1_bytes, .inl (k_p1_bytes, n_p1_bytes, .inl a_p1_bytes))]) (w1 := w1_PngWriter_turned ) C (c_PngWriter_turned hfl dC dI H.size K ((400 + x0) - 144) 9 hg_44) cw_PngWriter_turned (lg_in1 (List.mem_of_getElem? (i := 9) rfl) rfl) (lg_in6 (List.mem_of_getElem? (i := 217) rfl) rfl) (lg_in6 (List.mem_of_getElem? (i := 218) rfl) rfl) (by decide +kernel) ⟨Nat.le_of_ble_eq_true rfl, Nat.le_of_ble_eq_true rfl⟩ rfl rfl (Nat.le_of_ble_eq_true rfl) d_PngWriter_putLiteral_44 hP hD hS hl.1 [] [0, 1] [] rfl rfl rfl rfl (by decide) rfl (fun H locs hP hD hS => ?_)
    have hP : va_P (dC, dI) classes (ws_PngWriter_putLiteral h_p1 h_p1_bytes k_p1_bytes n_p1_bytes p1_filled p1_bitStore p1_bitsHeld a_p1_bytes) H := hP.sub [0, 1] rfl
    have hD : va_D A (ws_PngWriter_putLiteral h_p1 h_p1_bytes k_p1_bytes n_p1_bytes p1_filled p1_bitStore p1_bitsHeld a_p1_bytes) := hD.sub [0, 1] (by decide) rfl
    show W p l e R s m _ below meth c H locs 0 0 _ (F0 m 47 ls [.int r_44.1, .ref h_p1])
    refine lv_bipush (v := 9) hx hb d_PngWriter_putLiteral_47 (by decide) ?_
    rcases dc_tryE h with ⟨r_49, hg_49, h⟩ | ⟨r_49, hg_49, h⟩
    rotate_left
    · cases h
      exact dc_thrV (y := y_Sink_putBits) (bytes := b_Sink_putBits) (maxL := 3) (ret' := none) (fr' := 7) (lo' := 131) (n := 2) (val := vl_v) (o := r_49) (tysc := [(k_p1_bytes, .byte)]) (As := [.int r_44.1, .int 9]) (rest := []) (wc := (ws_Sink_putBits h_p1 h_p1_bytes k_p1_bytes n_p1_bytes p1_filled p1_bitStore p1_bitsHeld a_p1_bytes)) (wr := []) (w1 := w1_Sink_putBits h_p1 h_p1_bytes k_p1_bytes n_p1_bytes) C cw_Sink_putBits (lg_in1 (List.mem_of_getElem? (i := 2) rfl) rfl) (lg_in6 (List.mem_of_getElem? (i := 187) rfl) rfl) (lg_in6 (List.mem_of_getElem? (i := 188) rfl) rfl) (lg_in6 (List.mem_of_getElem? (i := 189) rfl) rfl) (ci := 11) (cq := (R_Sink, F_Sink, 4)) (q0 := 0) rfl rfl rfl (ct_Sink_putBits hfl dC dI h_p1 h_p1_bytes k_p1_bytes n_p1_bytes H.size K r_44.1 9 p1_filled p1_bitStore p1_bitsHeld a_p1_bytes hg_49) (by decide +kernel) ⟨Nat.le_of_ble_eq_true rfl, Nat.le_of_ble_eq_true rfl⟩ rfl rfl (Nat.le_of_ble_eq_true rfl) d_PngWriter_putLiteral_49 hRc.1 hRc.2 hP hD hS hl.1 [0, 1] [] [0] rfl rfl rfl rfl (by decide) rfl (fun x t H1 locs1 a1 a2 a3 a4 hP hD hS => dc_leaveT (u := (r_49.1, (r_49.2.1, r_49.2.2.1, r_49.2.2.2.1, r_49.2.2.2.2))) (w1 := w1_PngWriter_putLiteral h_p1 h_p1_bytes k_p1_bytes n_p1_bytes) C a1 a2 a3 a4 (hP.sub [0, 1] rfl) (hD.sub [0, 1] (by decide) rfl) hS)
    refine dc_callV (y := y_Sink_putBits) (bytes := b_Sink_putBits) (maxL := 3) (ret' := none) (fr' := 7) (lo' := 131) (n := 2) (val := vl_v) (o := r_49) (tysc := [(k_p1_bytes, .byte)]) (As := [.int r_44.1, .int 9]) (rest := []) (wc := (ws_Sink_putBits h_p1 h_p1_bytes k_p1_bytes n_p1_bytes p1_filled p1_bitStore p1_bitsHeld a_p1_bytes)) (wr := []) (w1 := w1_Sink_putBits h_p1 h_p1_bytes k_p1_bytes n_p1_bytes) C cw_Sink_putBits (lg_in1 (List.mem_of_getElem? (i := 2) rfl) rfl) (lg_in6 (List.mem_of_getElem? (i := 187) rfl) rfl) (lg_in6 (List.mem_of_getElem? (i := 188) rfl) rfl) (lg_in6 (List.mem_of_getElem? (i := 189) rfl) rfl) (ci := 11) (cq := (R_Sink, F_Sink, 4)) (q0 := 0) rfl rfl rfl (cr_Sink_putBits hfl dC dI h_p1 h_p1_bytes k_p1_bytes n_p1_bytes H.size K r_44.1 9 p1_filled p1_bitStore p1_bitsHeld a_p1_bytes hg_49) (by decide +kernel) ⟨Nat.le_of_ble_eq_true rfl, Nat.le_of_ble_eq_true rfl⟩ rfl rfl (Nat.le_of_ble_eq_true rfl) d_PngWriter_putLiteral_49 hP hD hS hl.1 [0, 1] [] [0] rfl rfl rfl rfl (by decide) rfl (fun H locs hP hD hS => ?_)
    have hP : va_P (dC, dI) classes (ws_PngWriter_putLiteral h_p1 h_p1_bytes k_p1_bytes n_p1_bytes r_49.2.1 r_49.2.2.1 r_49.2.2.2.1 r_49.2.2.2.2) H := hP.sub [0, 1] rfl
    have hD : va_D A (ws_PngWriter_putLiteral h_p1 h_p1_bytes k_p1_bytes n_p1_bytes r_49.2.1 r_49.2.2.1 r_49.2.2.2.1 r_49.2.2.2.2) := hD.sub [0, 1] (by decide) rfl
    show W p l e R s m _ below meth c H locs 0 0 _ (F0 m 52 ls [])
    refine lv_goto (tgt := 101) hx hb d_PngWriter_putLiteral_52 (by decide) ?_
    exact w_PngWriter_putLiteral_101 C hRc h H locs ls hP hD hS (lv_sub hl [1] rfl)
  have h := dc_f c_4 h
  refine lv_aload_n hx hb d_PngWriter_putLiteral_7 rfl (lv_at hl 1 rfl) ?_
  refine lv_bipush (v := 48) hx hb d_PngWriter_putLiteral_8 (by decide) ?_
  refine lv_iload_n hx hb d_PngWriter_putLiteral_10 rfl (lv_at hl 0 rfl) ?_
  refine lv_iadd hx hb d_PngWriter_putLiteral_11 ?_
  refine lv_bipush (v := 8) hx hb d_PngWriter_putLiteral_12 (by decide) ?_
  obtain ⟨r_14, hg_14, h⟩ := dc_bindE h
  refine dc_callS (y := y_PngWriter_turned) (bytes := b_PngWriter_turned) (maxL := 4) (ret' := (some .int)) (fr' := 0) (lo' := 0) (n := 2) (val := vl_i) (o := r_14) (tysc := []) (As := [.int (48 + x0), .int 8]) (rest := [.ref h_p1]) (wc := ws_PngWriter_turned) (wr := [(h_p1, .inr (11, [.ref h_p1_bytes, .int p1_filled, .int p1_bitStore, .int p1_bitsHeld])), (h_p1_bytes, .inl (k_p1_bytes, n_p1_bytes, .inl a_p1_bytes))]) (w1 := w1_PngWriter_turned ) C (c_PngWriter_turned hfl dC dI H.size K (48 + x0) 8 hg_14) cw_PngWriter_turned (lg_in1 (List.mem_of_getElem? (i := 9) rfl) rfl) (lg_in6 (List.mem_of_getElem? (i := 217) rfl) rfl) (lg_in6 (List.mem_of_getElem? (i := 218) rfl) rfl) (by decide +kernel) ⟨Nat.le_of_ble_eq_true rfl, Nat.le_of_ble_eq_true rfl⟩ rfl rfl (Nat.le_of_ble_eq_true rfl) d_PngWriter_putLiteral_14 hP hD hS hl.1 [] [0, 1] [] rfl rfl rfl rfl (by decide) rfl (fun H locs hP hD hS => ?_)
  have hP : va_P (dC, dI) classes (ws_PngWriter_putLiteral h_p1 h_p1_bytes k_p1_bytes n_p1_bytes p1_filled p1_bitStore p1_bitsHeld a_p1_bytes) H := hP.sub [0, 1] rfl
  have hD : va_D A (ws_PngWriter_putLiteral h_p1 h_p1_bytes k_p1_bytes n_p1_bytes p1_filled p1_bitStore p1_bitsHeld a_p1_bytes) := hD.sub [0, 1] (by decide) rfl
  show W p l e R s m _ below meth c H locs 0 0 _ (F0 m 17 ls [.int r_14.1, .ref h_p1])
  refine lv_bipush (v := 8) hx hb d_PngWriter_putLiteral_17 (by decide) ?_
  rcases dc_tryE h with ⟨r_19, hg_19, h⟩ | ⟨r_19, hg_19, h⟩
  rotate_left
  · cases h
    exact dc_thrV (y := y_Sink_putBits) (bytes := b_Sink_putBits) (maxL := 3) (ret' := none) (fr' := 7) (lo' := 131) (n := 2) (val := vl_v) (o := r_19) (tysc := [(k_p1_bytes, .byte)]) (As := [.int r_14.1, .int 8]) (rest := []) (wc := (ws_Sink_putBits h_p1 h_p1_bytes k_p1_bytes n_p1_bytes p1_filled p1_bitStore p1_bitsHeld a_p1_bytes)) (wr := []) (w1 := w1_Sink_putBits h_p1 h_p1_bytes k_p1_bytes n_p1_bytes) C cw_Sink_putBits (lg_in1 (List.mem_of_getElem? (i := 2) rfl) rfl) (lg_in6 (List.mem_of_getElem? (i := 187) rfl) rfl) (lg_in6 (List.mem_of_getElem? (i := 188) rfl) rfl) (lg_in6 (List.mem_of_getElem? (i := 189) rfl) rfl) (ci := 11) (cq := (R_Sink, F_Sink, 4)) (q0 := 0) rfl rfl rfl (ct_Sink_putBits hfl dC dI h_p1 h_p1_bytes k_p1_bytes n_p1_bytes H.size K r_14.1 8 p1_filled p1_bitStore p1_bitsHeld a_p1_bytes hg_19) (by decide +kernel) ⟨Nat.le_of_ble_eq_true rfl, Nat.le_of_ble_eq_true rfl⟩ rfl rfl (Nat.le_of_ble_eq_true rfl) d_PngWriter_putLiteral_19 hRc.1 hRc.2 hP hD hS hl.1 [0, 1] [] [0] rfl rfl rfl rfl (by decide) rfl (fun x t H1 locs1 a1 a2 a3 a4 hP hD hS => dc_leaveT (u := (r_19.1, (r_19.2.1, r_19.2.2.1, r_19.2.2.2.1, r_19.2.2.2.2))) (w1 := w1_PngWriter_putLiteral h_p1 h_p1_bytes k_p1_bytes n_p1_bytes) C a1 a2 a3 a4 (hP.sub [0, 1] rfl) (hD.sub [0, 1] (by decide) rfl) hS)
  refine dc_callV (y := y_Sink_putBits) (bytes := b_Sink_putBits) (maxL := 3) (ret' := none) (fr' := 7) (lo' := 131) (n := 2) (val := vl_v) (o := r_19) (tysc := [(k_p1_bytes, .byte)]) (As := [.int r_14.1, .int 8]) (rest := []) (wc := (ws_Sink_putBits h_p1 h_p1_bytes k_p1_bytes n_p1_bytes p1_filled p1_bitStore p1_bitsHeld a_p1_bytes)) (wr := []) (w1 := w1_Sink_putBits h_p1 h_p1_bytes k_p1_bytes n_p1_bytes) C cw_Sink_putBits (lg_in1 (List.mem_of_getElem? (i := 2) rfl) rfl) (lg_in6 (List.mem_of_getElem? (i := 187) rfl) rfl) (lg_in6 (List.mem_of_getElem? (i := 188) rfl) rfl) (lg_in6 (List.mem_of_getElem? (i := 189) rfl) rfl) (ci := 11) (cq := (R_Sink, F_Sink, 4)) (q0 := 0) rfl rfl rfl (cr_Sink_putBits hfl dC dI h_p1 h_p1_bytes k_p1_bytes n_p1_bytes H.size K r_14.1 8 p1_filled p1_bitStore p1_bitsHeld a_p1_bytes hg_19) (by decide +kernel) ⟨Nat.le_of_ble_eq_true rfl, Nat.le_of_ble_eq_true rfl⟩ rfl rfl (Nat.le_of_ble_eq_true rfl) d_PngWriter_putLiteral_19 hP hD hS hl.1 [0, 1] [] [0] rfl rfl rfl rfl (by decide) rfl (fun H locs hP hD hS => ?_)
  have hP : va_P (dC, dI) classes (ws_PngWriter_putLiteral h_p1 h_p1_bytes k_p1_bytes n_p1_bytes r_19.2.1 r_19.2.2.1 r_19.2.2.2.1 r_19.2.2.2.2) H := hP.sub [0, 1] rfl
  have hD : va_D A (ws_PngWriter_putLiteral h_p1 h_p1_bytes k_p1_bytes n_p1_bytes r_19.2.1 r_19.2.2.1 r_19.2.2.2.1 r_19.2.2.2.2) := hD.sub [0, 1] (by decide) rfl
  show W p l e R s m _ below meth c H locs 0 0 _ (F0 m 22 ls [])
  refine lv_goto (tgt := 101) hx hb d_PngWriter_putLiteral_22 (by decide) ?_
  exact w_PngWriter_putLiteral_101 C hRc h H locs ls hP hD hS (lv_sub hl [1] rfl)
theorem cr_PngWriter_putLiteral {l : Launch} (hfl : l.flags = flags0) (dC : Nat → ClassId) (dI : Nat → Nat → Nat) (h_p1 : Nat) (h_p1_bytes : Nat) (k_p1_bytes : ClassId) (n_p1_bytes : Nat) (sz : Nat) (K : Nat) (x0 : Int32) (p1_filled : Int32) (p1_bitStore : Int32) (p1_bitsHeld : Int32) (a_p1_bytes : Nat → Int32) {u : Unit × (Int32 × Int32 × Int32 × (Nat → Int32))} (h : f_PngWriter_putLiteral K n_p1_bytes x0 p1_filled p1_bitStore p1_bitsHeld a_p1_bytes = some (.inl u)) : MetX l y_PngWriter_putLiteral (Cond.code y_PngWriter_putLiteral b_PngWriter_putLiteral 2 none :: lw_g) (rmx 8 153 0 0) (vx_Pre dC dI [(k_p1_bytes, .byte)] [.int x0, .ref h_p1] sz (ws_PngWriter_putLiteral h_p1 h_p1_bytes k_p1_bytes n_p1_bytes p1_filled p1_bitStore p1_bitsHeld a_p1_bytes)) (vx_Q vl_v (.inl u) (fun u t => vx_B dC dI [(k_p1_bytes, .byte)] (va_A (ws_PngWriter_putLiteral h_p1 h_p1_bytes k_p1_bytes n_p1_bytes p1_filled p1_bitStore p1_bitsHeld a_p1_bytes) sz) (w1_PngWriter_putLiteral h_p1 h_p1_bytes k_p1_bytes n_p1_bytes u) t) (va_A (ws_PngWriter_putLiteral h_p1 h_p1_bytes k_p1_bytes n_p1_bytes p1_filled p1_bitStore p1_bitsHeld a_p1_bytes) sz)) 0 0 (va_A (ws_PngWriter_putLiteral h_p1 h_p1_bytes k_p1_bytes n_p1_bytes p1_filled p1_bitStore p1_bitsHeld a_p1_bytes) sz) := dc_cr rfl (c_PngWriter_putLiteral hfl dC dI h_p1 h_p1_bytes k_p1_bytes n_p1_bytes sz K x0 p1_filled p1_bitStore p1_bitsHeld a_p1_bytes h)
theorem ct_PngWriter_putLiteral {l : Launch} (hfl : l.flags = flags0) (dC : Nat → ClassId) (dI : Nat → Nat → Nat) (h_p1 : Nat) (h_p1_bytes : Nat) (k_p1_bytes : ClassId) (n_p1_bytes : Nat) (sz : Nat) (K : Nat) (x0 : Int32) (p1_filled : Int32) (p1_bitStore : Int32) (p1_bitsHeld : Int32) (a_p1_bytes : Nat → Int32) {u : Nat × (Int32 × Int32 × Int32 × (Nat → Int32))} (h : f_PngWriter_putLiteral K n_p1_bytes x0 p1_filled p1_bitStore p1_bitsHeld a_p1_bytes = some (.inr u)) : MetX l y_PngWriter_putLiteral (Cond.code y_PngWriter_putLiteral b_PngWriter_putLiteral 2 none :: lw_g) (rmx 8 153 1 6) (vx_Pre dC dI [(k_p1_bytes, .byte)] [.int x0, .ref h_p1] sz (ws_PngWriter_putLiteral h_p1 h_p1_bytes k_p1_bytes n_p1_bytes p1_filled p1_bitStore p1_bitsHeld a_p1_bytes)) (vx_Q vl_v (.inr u) (fun u t => vx_B dC dI [(k_p1_bytes, .byte)] (va_A (ws_PngWriter_putLiteral h_p1 h_p1_bytes k_p1_bytes n_p1_bytes p1_filled p1_bitStore p1_bitsHeld a_p1_bytes) sz) (w1_PngWriter_putLiteral h_p1 h_p1_bytes k_p1_bytes n_p1_bytes u) t) (va_A (ws_PngWriter_putLiteral h_p1 h_p1_bytes k_p1_bytes n_p1_bytes p1_filled p1_bitStore p1_bitsHeld a_p1_bytes) sz)) 1 6 (va_A (ws_PngWriter_putLiteral h_p1 h_p1_bytes k_p1_bytes n_p1_bytes p1_filled p1_bitStore p1_bitsHeld a_p1_bytes) sz) := dc_ct rfl (c_PngWriter_putLiteral hfl dC dI h_p1 h_p1_bytes k_p1_bytes n_p1_bytes sz K x0 p1_filled p1_bitStore p1_bitsHeld a_p1_bytes h)
def ws_PngWriter_codeFor (h_p1 : Nat) (k_p1 : ClassId) (n_p1 : Nat) (a_p1 : Nat → Int32) : va_W := [(h_p1, .inl (k_p1, n_p1, .inl a_p1))]
abbrev w1_PngWriter_codeFor (h_p1 : Nat) (k_p1 : ClassId) (n_p1 : Nat) (a_p1 : Nat → Int32) (u : Unit) : va_W := ws_PngWriter_codeFor h_p1 k_p1 n_p1 a_p1
abbrev q_PngWriter_codeFor (below : List Frame) (args : Array Value) (s : State) (dC : Nat → ClassId) (dI : Nat → Nat → Nat) (A : Nat → Prop) (h_p1 : Nat) (k_p1 : ClassId) (n_p1 : Nat) (a_p1 : Nat → Int32) (o : Int32 × Unit) : State → Prop := XQ below (vx_Q vl_i (.inl o) (fun u t => vx_B dC dI [(k_p1, .int)] A (w1_PngWriter_codeFor h_p1 k_p1 n_p1 a_p1 u) t) A) args s 0 0 A
theorem d_PngWriter_codeFor_0 : decode b_PngWriter_codeFor 0 = .ok (.aload_n 1, 1) := by decide +kernel
theorem d_PngWriter_codeFor_1 : decode b_PngWriter_codeFor 1 = .ok (.arraylength, 1) := by decide +kernel
theorem d_PngWriter_codeFor_2 : decode b_PngWriter_codeFor 2 = .ok (.iconst 1, 1) := by decide +kernel
theorem d_PngWriter_codeFor_3 : decode b_PngWriter_codeFor 3 = .ok (.isub, 1) := by decide +kernel
theorem d_PngWriter_codeFor_4 : decode b_PngWriter_codeFor 4 = .ok (.istore_n 2, 1) := by decide +kernel
theorem d_PngWriter_codeFor_5 : decode b_PngWriter_codeFor 5 = .ok (.iload_n 2, 1) := by decide +kernel
theorem d_PngWriter_codeFor_6 : decode b_PngWriter_codeFor 6 = .ok (.ifCond .le 16, 3) := by decide +kernel
theorem d_PngWriter_codeFor_9 : decode b_PngWriter_codeFor 9 = .ok (.aload_n 1, 1) := by decide +kernel
theorem d_PngWriter_codeFor_10 : decode b_PngWriter_codeFor 10 = .ok (.iload_n 2, 1) := by decide +kernel
theorem d_PngWriter_codeFor_11 : decode b_PngWriter_codeFor 11 = .ok (.iaload, 1) := by decide +kernel
theorem d_PngWriter_codeFor_12 : decode b_PngWriter_codeFor 12 = .ok (.iload_n 0, 1) := by decide +kernel
theorem d_PngWriter_codeFor_13 : decode b_PngWriter_codeFor 13 = .ok (.if_icmp .le 9, 3) := by decide +kernel
theorem d_PngWriter_codeFor_16 : decode b_PngWriter_codeFor 16 = .ok (.iinc 2 (-1), 3) := by decide +kernel
theorem d_PngWriter_codeFor_19 : decode b_PngWriter_codeFor 19 = .ok (.goto (-14), 3) := by decide +kernel
theorem d_PngWriter_codeFor_22 : decode b_PngWriter_codeFor 22 = .ok (.iload_n 2, 1) := by decide +kernel
theorem d_PngWriter_codeFor_23 : decode b_PngWriter_codeFor 23 = .ok (.ireturn, 1) := by decide +kernel
def at_PngWriter_codeFor_5 (p : Program) (l : Launch) (e : Env) (R : Room) (s : State) (m : MethodId) (args : Array Value) (below : List Frame) (meth : Method) (c : Code) (dC : Nat → ClassId) (dI : Nat → Nat → Nat) (A : Nat → Prop) (Q : State → Prop) (h_p1 : Nat) (k_p1 : ClassId) (n_p1 : Nat) (a_p1 : Nat → Int32) (x0 : Int32) (x2 : Int32) : Prop := ∀ (H : Heap) (locs : List Loc) (ls : Array Slot), va_P (dC, dI) classes (ws_PngWriter_codeFor h_p1 k_p1 n_p1 a_p1) H → va_D A (ws_PngWriter_codeFor h_p1 k_p1 n_p1 a_p1) → va_S A s.heap H locs → lv_has ls 3 [(1, .ref h_p1), (0, .int x0), (2, .int x2)] → W p l e R s m args below meth c H locs 0 0 Q (F0 m 5 ls [])
def at_PngWriter_codeFor_22 (p : Program) (l : Launch) (e : Env) (R : Room) (s : State) (m : MethodId) (args : Array Value) (below : List Frame) (meth : Method) (c : Code) (dC : Nat → ClassId) (dI : Nat → Nat → Nat) (A : Nat → Prop) (Q : State → Prop) (h_p1 : Nat) (k_p1 : ClassId) (n_p1 : Nat) (a_p1 : Nat → Int32) (x2 : Int32) : Prop := ∀ (H : Heap) (locs : List Loc) (ls : Array Slot), va_P (dC, dI) classes (ws_PngWriter_codeFor h_p1 k_p1 n_p1 a_p1) H → va_D A (ws_PngWriter_codeFor h_p1 k_p1 n_p1 a_p1) → va_S A s.heap H locs → lv_has ls 3 [(1, .ref h_p1), (2, .int x2)] → W p l e R s m args below meth c H locs 0 0 Q (F0 m 22 ls [])
def f_PngWriter_codeFor_22 (K : Nat) (n_p1 : Nat) (a_p1 : Nat → Int32) (x2 : Int32) : Option (Int32 × Unit) := some (x2, ())
def f_PngWriter_codeFor_5 (K : Nat) (n_p1 : Nat) (rec : Int32 → Option (Int32)) (a_p1 : Nat → Int32) (x0 : Int32) (x2 : Int32) : Option (Int32) := (if x2 ≤ 0 then (some x2) else ((if inb x2 n_p1 = true then (if (a_p1 (x2 : Int32).toNatClampNeg) ≤ x0 then (some x2) else (rec (x2 + (-1)))) else none)))
def f_PngWriter_codeFor_L5 (K : Nat) (n_p1 : Nat) (a_p1 : Nat → Int32) (x0 : Int32) : Nat → Int32 → Option (Int32)
  | 0, _ => none
  | n + 1, x2 => f_PngWriter_codeFor_5 K n_p1 (f_PngWriter_codeFor_L5 K n_p1 a_p1 x0 n) a_p1 x0 x2
def f_PngWriter_codeFor (K : Nat) (n_p1 : Nat) (x0 : Int32) (a_p1 : Nat → Int32) : Option (Int32 × Unit) := dc_bind (f_PngWriter_codeFor_L5 K n_p1 a_p1 x0 K ((Int32.ofNat n_p1) - 1)) (fun v_22 => f_PngWriter_codeFor_22 K n_p1 a_p1 v_22)
set_option maxHeartbeats 400000 in
set_option maxRecDepth 100000 in
theorem w_PngWriter_codeFor_22 {p : Program} {l : Launch} {e : Env} {R : Room} {s : State} {m : MethodId} {args : Array Value} {below : List Frame} {meth : Method} {c : Code} {dC : Nat → ClassId} {dI : Nat → Nat → Nat} {A : Nat → Prop} {h_p1 : Nat} {k_p1 : ClassId} {n_p1 : Nat} (C : cx p l e R s m args meth c dC dI A R_PngWriter b_PngWriter_codeFor 3 (some .int) 0 0 [(k_p1, .int)]) {K : Nat} {o : Int32 × Unit} {a_p1 : Nat → Int32} {x2 : Int32}  (h : f_PngWriter_codeFor_22 K n_p1 a_p1 x2 = some o) : at_PngWriter_codeFor_22 p l e R s m args below meth c dC dI A (q_PngWriter_codeFor below args s dC dI A h_p1 k_p1 n_p1 a_p1 o) h_p1 k_p1 n_p1 a_p1 x2 := by
  refine fun H locs ls hP hD hS hl => ?_
  obtain ⟨hx, hb, hr, hml, hown, hts, hlk, hK, hA, hV, htr, hex, hF, hL, hfl⟩ := id C
  unfold f_PngWriter_codeFor_22 at h
  refine lv_iload_n hx hb d_PngWriter_codeFor_22 rfl (lv_at hl 1 rfl) ?_
  cases h
  exact dc_iret C (v := x2) (u := ()) (w1 := w1_PngWriter_codeFor h_p1 k_p1 n_p1 a_p1) hP hD hS d_PngWriter_codeFor_23
set_option maxHeartbeats 400000 in
set_option maxRecDepth 100000 in
theorem w_PngWriter_codeFor_5 {p : Program} {l : Launch} {e : Env} {R : Room} {s : State} {m : MethodId} {args : Array Value} {below : List Frame} {meth : Method} {c : Code} {dC : Nat → ClassId} {dI : Nat → Nat → Nat} {A : Nat → Prop} {Q : State → Prop} {h_p1 : Nat} {k_p1 : ClassId} {n_p1 : Nat} (C : cx p l e R s m args meth c dC dI A R_PngWriter b_PngWriter_codeFor 3 (some .int) 0 0 [(k_p1, .int)]) {K : Nat} {out : Int32} {a_p1 : Nat → Int32} {x0 : Int32} {x2 : Int32} {rec : Int32 → Option (Int32)}  (hex0 : ∀ v : Int32, out = v → at_PngWriter_codeFor_22 p l e R s m args below meth c dC dI A Q h_p1 k_p1 n_p1 a_p1 v) (hrec : ∀ (x2 : Int32), rec x2 = some out → at_PngWriter_codeFor_5 p l e R s m args below meth c dC dI A Q h_p1 k_p1 n_p1 a_p1 x0 x2) (h : f_PngWriter_codeFor_5 K n_p1 rec a_p1 x0 x2 = some out) : at_PngWriter_codeFor_5 p l e R s m args below meth c dC dI A Q h_p1 k_p1 n_p1 a_p1 x0 x2 := by
  refine fun H locs ls hP hD hS hl => ?_
  obtain ⟨hx, hb, hr, hml, hown, hts, hlk, hK, hA, hV, htr, hex, hF, hL, hfl⟩ := id C
  unfold f_PngWriter_codeFor_5 at h
  refine lv_iload_n hx hb d_PngWriter_codeFor_5 rfl (lv_at hl 2 rfl) ?_
  refine lv_if_le (tgt := 22) hx hb d_PngWriter_codeFor_6 (by decide) (fun c_6 => ?_) (fun c_6 => ?_)
  · have h := dc_t c_6 h
    cases h
    exact hex0 _ rfl H locs ls hP hD hS (lv_sub hl [0, 2] rfl)
  have h := dc_f c_6 h
  refine lv_aload_n hx hb d_PngWriter_codeFor_9 rfl (lv_at hl 0 rfl) ?_
  refine lv_iload_n hx hb d_PngWriter_codeFor_10 rfl (lv_at hl 2 rfl) ?_
  obtain ⟨hi_11, h⟩ := dc_in h
  refine va_iald hx hb hK hP 0 0 rfl rfl hi_11 d_PngWriter_codeFor_11 ?_
  refine lv_iload_n hx hb d_PngWriter_codeFor_12 rfl (lv_at hl 1 rfl) ?_
  refine lv_icmp_le (tgt := 22) hx hb d_PngWriter_codeFor_13 (by decide) (fun c_13 => ?_) (fun c_13 => ?_)
  · have h := dc_t c_13 h
    cases h
    exact hex0 _ rfl H locs ls hP hD hS (lv_sub hl [0, 2] rfl)
  have h := dc_f c_13 h
  refine lv_iinc (v := (x2 + (-1))) (lv' := [(2, .int (x2 + (-1))), (1, .ref h_p1), (0, .int x0)]) hx hb d_PngWriter_codeFor_16 hl (k := 2) rfl rfl (by decide) rfl (fun ls hl => ?_)
  refine lv_goto (tgt := 5) hx hb d_PngWriter_codeFor_19 (by decide) ?_
  exact hrec _ h H locs ls hP hD hS (lv_sub hl [1, 2, 0] rfl)
set_option maxHeartbeats 400000 in
set_option maxRecDepth 100000 in
theorem w_PngWriter_codeFor_L5 {p : Program} {l : Launch} {e : Env} {R : Room} {s : State} {m : MethodId} {args : Array Value} {below : List Frame} {meth : Method} {c : Code} {dC : Nat → ClassId} {dI : Nat → Nat → Nat} {A : Nat → Prop} {Q : State → Prop} {h_p1 : Nat} {k_p1 : ClassId} {n_p1 : Nat} (C : cx p l e R s m args meth c dC dI A R_PngWriter b_PngWriter_codeFor 3 (some .int) 0 0 [(k_p1, .int)]) {K : Nat} {out : Int32} {a_p1 : Nat → Int32} {x0 : Int32} (hex0 : ∀ v : Int32, out = v → at_PngWriter_codeFor_22 p l e R s m args below meth c dC dI A Q h_p1 k_p1 n_p1 a_p1 v) : ∀ (n : Nat) (x2 : Int32), f_PngWriter_codeFor_L5 K n_p1 a_p1 x0 n x2 = some out → at_PngWriter_codeFor_5 p l e R s m args below meth c dC dI A Q h_p1 k_p1 n_p1 a_p1 x0 x2 := by
  intro n
  induction n with
  | zero =>
    intro x2 h
    exact nomatch (show (none : Option (Int32)) = some out from h)
  | succ n ih =>
    intro x2 h
    exact w_PngWriter_codeFor_5 C hex0 ih h
set_option maxHeartbeats 400000 in
set_option maxRecDepth 100000 in
theorem c_PngWriter_codeFor {l : Launch} (hfl : l.flags = flags0) (dC : Nat → ClassId) (dI : Nat → Nat → Nat) (h_p1 : Nat) (k_p1 : ClassId) (n_p1 : Nat) (sz : Nat) (K : Nat) (x0 : Int32) (a_p1 : Nat → Int32) {o : Int32 × Unit} (h : f_PngWriter_codeFor K n_p1 x0 a_p1 = some o) : MetX l y_PngWriter_codeFor (Cond.code y_PngWriter_codeFor b_PngWriter_codeFor 3 (some .int) :: lw_g) (rmx 0 0 0 0) (vx_Pre dC dI [(k_p1, .int)] [.int x0, .ref h_p1] sz (ws_PngWriter_codeFor h_p1 k_p1 n_p1 a_p1)) (vx_Q vl_i (.inl o) (fun u t => vx_B dC dI [(k_p1, .int)] (va_A (ws_PngWriter_codeFor h_p1 k_p1 n_p1 a_p1) sz) (w1_PngWriter_codeFor h_p1 k_p1 n_p1 a_p1 u) t) (va_A (ws_PngWriter_codeFor h_p1 k_p1 n_p1 a_p1) sz)) 0 0 (va_A (ws_PngWriter_codeFor h_p1 k_p1 n_p1 a_p1) sz) := by
  refine MetX.ofW (cc := b_PngWriter_codeFor) (maxL := 3) (ret := (some .int)) (by decide +kernel) rfl ?_
  intro p e s m args below meth c s₁ B hml hv
  obtain ⟨rfl, rfl, C, hP, hD, hS⟩ := dc_entry hfl B hml hv
  have hl := lv_entry ([.int x0, .ref h_p1]) (n := 3) (Nat.le_of_ble_eq_true rfl)
  rw [lg_entry_eq]
  generalize (lg_sl ([.int x0, .ref h_p1]) ++ List.replicate (3 - (lg_sl ([.int x0, .ref h_p1])).length) Slot.unset).toArray = ls at hl ⊢
  have hl : lv_has ls 3 [(0, .int x0), (1, .ref h_p1)] := hl
  generalize hAe : va_A (ws_PngWriter_codeFor h_p1 k_p1 n_p1 a_p1) s.heap.size = A at C hD hS ⊢
  generalize (headSpec (Cond.code y_PngWriter_codeFor b_PngWriter_codeFor 3 (some .int) :: lw_g) (rmx 0 0 0 0)).room = R at C ⊢
  have C : cx p l e R s m _ meth c dC dI A R_PngWriter b_PngWriter_codeFor 3 (some .int) 0 0 [(k_p1, .int)] := C
  obtain ⟨hx, hb, hr, hml, hown, hts, hlk, hK, hA, hV, htr, hex, hF, hL, hfl⟩ := id C
  unfold f_PngWriter_codeFor at h
  revert hP hS
  generalize hH : s.heap = H
  generalize hLo : ([] : List Loc) = locs
  intro hP hS
  have hS : va_S A s.heap H locs := by rw [hH]; exact hS
  refine lv_aload_n hx hb d_PngWriter_codeFor_0 rfl (lv_at hl 1 rfl) ?_
  refine va_alen (v := (Int32.ofNat n_p1)) hx hb hK hP 0 0 rfl rfl rfl d_PngWriter_codeFor_1 ?_
  refine lv_iconst (v := 1) hx hb d_PngWriter_codeFor_2 (by decide) ?_
  refine lv_isub hx hb d_PngWriter_codeFor_3 ?_
  refine lv_istore_n (lv' := [(2, .int ((Int32.ofNat n_p1) - 1)), (0, .int x0), (1, .ref h_p1)]) hx hb d_PngWriter_codeFor_4 rfl hl (by decide) rfl (fun ls hl => ?_)
  obtain ⟨r_5, hg_5, h⟩ := dc_bindE h
  refine w_PngWriter_codeFor_L5 C ?_ K _ hg_5 H locs ls hP hD hS (lv_sub hl [2, 1, 0] rfl)
  · refine fun v_22 hr => ?_
    subst r_5
    refine fun H locs ls hP hD hS hl => ?_
    exact w_PngWriter_codeFor_22 C h H locs ls hP hD hS (lv_sub hl [0, 1] rfl)
def ws_Sink_restart (h_t : Nat) (h_t_bytes : Nat) (t_filled : Int32) (t_bitStore : Int32) (t_bitsHeld : Int32) : va_W := [(h_t, .inr (11, [.ref h_t_bytes, .int t_filled, .int t_bitStore, .int t_bitsHeld]))]
abbrev w1_Sink_restart (h_t : Nat) (h_t_bytes : Nat)  (u : Int32 × Int32 × Int32) : va_W := ws_Sink_restart h_t h_t_bytes u.1 u.2.1 u.2.2
abbrev q_Sink_restart (below : List Frame) (args : Array Value) (s : State) (dC : Nat → ClassId) (dI : Nat → Nat → Nat) (A : Nat → Prop) (h_t : Nat) (h_t_bytes : Nat)  (o : Unit × (Int32 × Int32 × Int32)) : State → Prop := XQ below (vx_Q vl_v (.inl o) (fun u t => vx_B dC dI [] A (w1_Sink_restart h_t h_t_bytes u) t) A) args s 0 0 A
theorem d_Sink_restart_0 : decode b_Sink_restart 0 = .ok (.aload_n 0, 1) := by decide +kernel
theorem d_Sink_restart_1 : decode b_Sink_restart 1 = .ok (.iconst 0, 1) := by decide +kernel
theorem d_Sink_restart_2 : decode b_Sink_restart 2 = .ok (.putfield 7, 3) := by decide +kernel
theorem d_Sink_restart_5 : decode b_Sink_restart 5 = .ok (.aload_n 0, 1) := by decide +kernel
theorem d_Sink_restart_6 : decode b_Sink_restart 6 = .ok (.iconst 0, 1) := by decide +kernel
theorem d_Sink_restart_7 : decode b_Sink_restart 7 = .ok (.putfield 13, 3) := by decide +kernel
theorem d_Sink_restart_10 : decode b_Sink_restart 10 = .ok (.aload_n 0, 1) := by decide +kernel
theorem d_Sink_restart_11 : decode b_Sink_restart 11 = .ok (.iconst 0, 1) := by decide +kernel
theorem d_Sink_restart_12 : decode b_Sink_restart 12 = .ok (.putfield 16, 3) := by decide +kernel
theorem d_Sink_restart_15 : decode b_Sink_restart 15 = .ok (.return_, 1) := by decide +kernel
def f_Sink_restart   (t_filled : Int32) (t_bitStore : Int32) (t_bitsHeld : Int32) : Option (Unit × (Int32 × Int32 × Int32)) := some ((), (0, 0, 0))
set_option maxHeartbeats 400000 in
set_option maxRecDepth 100000 in
theorem c_Sink_restart {l : Launch} (hfl : l.flags = flags0) (dC : Nat → ClassId) (dI : Nat → Nat → Nat) (h_t : Nat) (h_t_bytes : Nat) (sz : Nat)  (t_filled : Int32) (t_bitStore : Int32) (t_bitsHeld : Int32) {o : Unit × (Int32 × Int32 × Int32)} (h : f_Sink_restart t_filled t_bitStore t_bitsHeld = some o) : MetX l y_Sink_restart (Cond.code y_Sink_restart b_Sink_restart 1 none :: lw_g) (rmx 0 0 0 0) (vx_Pre dC dI [] [.ref h_t] sz (ws_Sink_restart h_t h_t_bytes t_filled t_bitStore t_bitsHeld)) (vx_Q vl_v (.inl o) (fun u t => vx_B dC dI [] (va_A (ws_Sink_restart h_t h_t_bytes t_filled t_bitStore t_bitsHeld) sz) (w1_Sink_restart h_t h_t_bytes u) t) (va_A (ws_Sink_restart h_t h_t_bytes t_filled t_bitStore t_bitsHeld) sz)) 0 0 (va_A (ws_Sink_restart h_t h_t_bytes t_filled t_bitStore t_bitsHeld) sz) := by
  refine MetX.ofW (cc := b_Sink_restart) (maxL := 1) (ret := none) (by decide +kernel) rfl ?_
  intro p e s m args below meth c s₁ B hml hv
  obtain ⟨rfl, rfl, C, hP, hD, hS⟩ := dc_entry hfl B hml hv
  have hl := lv_entry ([.ref h_t]) (n := 1) (Nat.le_of_ble_eq_true rfl)
  rw [lg_entry_eq]
  generalize (lg_sl ([.ref h_t]) ++ List.replicate (1 - (lg_sl ([.ref h_t])).length) Slot.unset).toArray = ls at hl ⊢
  have hl : lv_has ls 1 [(0, .ref h_t)] := hl
  generalize hAe : va_A (ws_Sink_restart h_t h_t_bytes t_filled t_bitStore t_bitsHeld) s.heap.size = A at C hD hS ⊢
  generalize (headSpec (Cond.code y_Sink_restart b_Sink_restart 1 none :: lw_g) (rmx 0 0 0 0)).room = R at C ⊢
  have C : cx p l e R s m _ meth c dC dI A R_Sink b_Sink_restart 1 none 0 0 [] := C
  obtain ⟨hx, hb, hr, hml, hown, hts, hlk, hK, hA, hV, htr, hex, hF, hL, hfl⟩ := id C
  unfold f_Sink_restart at h
  revert hP hS
  generalize hH : s.heap = H
  generalize hLo : ([] : List Loc) = locs
  intro hP hS
  have hS : va_S A s.heap H locs := by rw [hH]; exact hS
  refine lv_aload_n hx hb d_Sink_restart_0 rfl (lv_at hl 0 rfl) ?_
  refine lv_iconst (v := 0) hx hb d_Sink_restart_1 (by decide) ?_
  refine va_put (D := (dC, dI)) (ci := 11) (v := .int 0) (ty := .int) (C := R_Sink) (T := F_Sink) (N := 4) hx hb hts i_Sink t_Sink t_Sink_ok n_Sink hown hK hP hD hS 0 rfl rfl 1 (by decide) (hts _ (lg_in1 (List.mem_of_getElem? (i := 50) rfl) rfl)) (fun _ h9 => h9) rfl (by decide +kernel) rfl rfl (Nat.le_of_ble_eq_true rfl) d_Sink_restart_2 (fun H locs hP hD hS => ?_)
  have hP : va_P (dC, dI) classes (ws_Sink_restart h_t h_t_bytes 0 t_bitStore t_bitsHeld) H := hP
  have hD : va_D A (ws_Sink_restart h_t h_t_bytes 0 t_bitStore t_bitsHeld) := hD
  refine lv_aload_n hx hb d_Sink_restart_5 rfl (lv_at hl 0 rfl) ?_
  refine lv_iconst (v := 0) hx hb d_Sink_restart_6 (by decide) ?_
  refine va_put (D := (dC, dI)) (ci := 11) (v := .int 0) (ty := .int) (C := R_Sink) (T := F_Sink) (N := 4) hx hb hts i_Sink t_Sink t_Sink_ok n_Sink hown hK hP hD hS 0 rfl rfl 2 (by decide) (hts _ (lg_in1 (List.mem_of_getElem? (i := 51) rfl) rfl)) (fun _ h9 => h9) rfl (by decide +kernel) rfl rfl (Nat.le_of_ble_eq_true rfl) d_Sink_restart_7 (fun H locs hP hD hS => ?_)
  have hP : va_P (dC, dI) classes (ws_Sink_restart h_t h_t_bytes 0 0 t_bitsHeld) H := hP
  have hD : va_D A (ws_Sink_restart h_t h_t_bytes 0 0 t_bitsHeld) := hD
  refine lv_aload_n hx hb d_Sink_restart_10 rfl (lv_at hl 0 rfl) ?_
  refine lv_iconst (v := 0) hx hb d_Sink_restart_11 (by decide) ?_
  refine va_put (D := (dC, dI)) (ci := 11) (v := .int 0) (ty := .int) (C := R_Sink) (T := F_Sink) (N := 4) hx hb hts i_Sink t_Sink t_Sink_ok n_Sink hown hK hP hD hS 0 rfl rfl 3 (by decide) (hts _ (lg_in1 (List.mem_of_getElem? (i := 52) rfl) rfl)) (fun _ h9 => h9) rfl (by decide +kernel) rfl rfl (Nat.le_of_ble_eq_true rfl) d_Sink_restart_12 (fun H locs hP hD hS => ?_)
  have hP : va_P (dC, dI) classes (ws_Sink_restart h_t h_t_bytes 0 0 0) H := hP
  have hD : va_D A (ws_Sink_restart h_t h_t_bytes 0 0 0) := hD
  cases h
  exact dc_vret C (u := (0, 0, 0)) (w1 := w1_Sink_restart h_t h_t_bytes) hP hD hS d_Sink_restart_15
def ws_Sink_putLittle2 (h_t : Nat) (h_t_bytes : Nat) (k_t_bytes : ClassId) (n_t_bytes : Nat) (w_t_bitStore : Int32) (w_t_bitsHeld : Int32) (t_filled : Int32) (a_t_bytes : Nat → Int32) : va_W := [(h_t, .inr (11, [.ref h_t_bytes, .int t_filled, .int w_t_bitStore, .int w_t_bitsHeld])), (h_t_bytes, .inl (k_t_bytes, n_t_bytes, .inl a_t_bytes))]
abbrev w1_Sink_putLittle2 (h_t : Nat) (h_t_bytes : Nat) (k_t_bytes : ClassId) (n_t_bytes : Nat) (w_t_bitStore : Int32) (w_t_bitsHeld : Int32)  (u : Int32 × (Nat → Int32)) : va_W := ws_Sink_putLittle2 h_t h_t_bytes k_t_bytes n_t_bytes w_t_bitStore w_t_bitsHeld u.1 u.2
abbrev q_Sink_putLittle2 (below : List Frame) (args : Array Value) (s : State) (dC : Nat → ClassId) (dI : Nat → Nat → Nat) (A : Nat → Prop) (h_t : Nat) (h_t_bytes : Nat) (k_t_bytes : ClassId) (n_t_bytes : Nat) (w_t_bitStore : Int32) (w_t_bitsHeld : Int32)  (o : (Unit × (Int32 × (Nat → Int32))) ⊕ (Nat × (Int32 × (Nat → Int32)))) : State → Prop := XQ below (vx_Q vl_v o (fun u t => vx_B dC dI [(k_t_bytes, .byte)] A (w1_Sink_putLittle2 h_t h_t_bytes k_t_bytes n_t_bytes w_t_bitStore w_t_bitsHeld u) t) A) args s (mcx o) (msx o) A
theorem d_Sink_putLittle2_0 : decode b_Sink_putLittle2 0 = .ok (.aload_n 0, 1) := by decide +kernel
theorem d_Sink_putLittle2_1 : decode b_Sink_putLittle2 1 = .ok (.iload_n 1, 1) := by decide +kernel
theorem d_Sink_putLittle2_2 : decode b_Sink_putLittle2 2 = .ok (.invokevirtual 42, 3) := by decide +kernel
theorem d_Sink_putLittle2_5 : decode b_Sink_putLittle2 5 = .ok (.aload_n 0, 1) := by decide +kernel
theorem d_Sink_putLittle2_6 : decode b_Sink_putLittle2 6 = .ok (.iload_n 1, 1) := by decide +kernel
theorem d_Sink_putLittle2_7 : decode b_Sink_putLittle2 7 = .ok (.bipush 8, 2) := by decide +kernel
theorem d_Sink_putLittle2_9 : decode b_Sink_putLittle2 9 = .ok (.ishr, 1) := by decide +kernel
theorem d_Sink_putLittle2_10 : decode b_Sink_putLittle2 10 = .ok (.invokevirtual 42, 3) := by decide +kernel
theorem d_Sink_putLittle2_13 : decode b_Sink_putLittle2 13 = .ok (.return_, 1) := by decide +kernel
def f_Sink_putLittle2 (n_t_bytes : Nat) (x1 : Int32) (t_filled : Int32) (a_t_bytes : Nat → Int32) : Option ((Unit × (Int32 × (Nat → Int32))) ⊕ (Nat × (Int32 × (Nat → Int32)))) := dc_try (f_Sink_put n_t_bytes x1 t_filled a_t_bytes) (fun r_2 => dc_try (f_Sink_put n_t_bytes (x1 >>> ((8 : Int32) &&& 31)) r_2.2.1 r_2.2.2) (fun r_10 => some (.inl ((), (r_10.2.1, r_10.2.2)))) (fun r_10 => some (.inr (r_10.1, (r_10.2.1, r_10.2.2))))) (fun r_2 => some (.inr (r_2.1, (r_2.2.1, r_2.2.2))))
set_option maxHeartbeats 400000 in
set_option maxRecDepth 100000 in
theorem c_Sink_putLittle2 {l : Launch} (hfl : l.flags = flags0) (dC : Nat → ClassId) (dI : Nat → Nat → Nat) (h_t : Nat) (h_t_bytes : Nat) (k_t_bytes : ClassId) (n_t_bytes : Nat) (w_t_bitStore : Int32) (w_t_bitsHeld : Int32) (sz : Nat) (x1 : Int32) (t_filled : Int32) (a_t_bytes : Nat → Int32) {o : (Unit × (Int32 × (Nat → Int32))) ⊕ (Nat × (Int32 × (Nat → Int32)))} (h : f_Sink_putLittle2 n_t_bytes x1 t_filled a_t_bytes = some o) : MetX l y_Sink_putLittle2 (Cond.code y_Sink_putLittle2 b_Sink_putLittle2 2 none :: lw_g) (rmx 7 131 (mcx o) (msx o)) (vx_Pre dC dI [(k_t_bytes, .byte)] [.ref h_t, .int x1] sz (ws_Sink_putLittle2 h_t h_t_bytes k_t_bytes n_t_bytes w_t_bitStore w_t_bitsHeld t_filled a_t_bytes)) (vx_Q vl_v o (fun u t => vx_B dC dI [(k_t_bytes, .byte)] (va_A (ws_Sink_putLittle2 h_t h_t_bytes k_t_bytes n_t_bytes w_t_bitStore w_t_bitsHeld t_filled a_t_bytes) sz) (w1_Sink_putLittle2 h_t h_t_bytes k_t_bytes n_t_bytes w_t_bitStore w_t_bitsHeld u) t) (va_A (ws_Sink_putLittle2 h_t h_t_bytes k_t_bytes n_t_bytes w_t_bitStore w_t_bitsHeld t_filled a_t_bytes) sz)) (mcx o) (msx o) (va_A (ws_Sink_putLittle2 h_t h_t_bytes k_t_bytes n_t_bytes w_t_bitStore w_t_bitsHeld t_filled a_t_bytes) sz) := by
  refine MetX.ofW (cc := b_Sink_putLittle2) (maxL := 2) (ret := none) (by decide +kernel) rfl ?_
  intro p e s m args below meth c s₁ B hml hv
  obtain ⟨rfl, rfl, C, hP, hD, hS⟩ := dc_entry hfl B hml hv
  have hl := lv_entry ([.ref h_t, .int x1]) (n := 2) (Nat.le_of_ble_eq_true rfl)
  rw [lg_entry_eq]
  generalize (lg_sl ([.ref h_t, .int x1]) ++ List.replicate (2 - (lg_sl ([.ref h_t, .int x1])).length) Slot.unset).toArray = ls at hl ⊢
  have hl : lv_has ls 2 [(0, .ref h_t), (1, .int x1)] := hl
  generalize hAe : va_A (ws_Sink_putLittle2 h_t h_t_bytes k_t_bytes n_t_bytes w_t_bitStore w_t_bitsHeld t_filled a_t_bytes) s.heap.size = A at C hD hS ⊢
  have hRc : mcx o ≤ (headSpec (Cond.code y_Sink_putLittle2 b_Sink_putLittle2 2 none :: lw_g) (rmx 7 131 (mcx o) (msx o))).room.cells ∧ msx o ≤ (headSpec (Cond.code y_Sink_putLittle2 b_Sink_putLittle2 2 none :: lw_g) (rmx 7 131 (mcx o) (msx o))).room.slots := ⟨Nat.le_refl _, Nat.le_refl _⟩
  generalize (headSpec (Cond.code y_Sink_putLittle2 b_Sink_putLittle2 2 none :: lw_g) (rmx 7 131 (mcx o) (msx o))).room = R at C hRc ⊢
  have C : cx p l e R s m _ meth c dC dI A R_Sink b_Sink_putLittle2 2 none 7 131 [(k_t_bytes, .byte)] := C
  obtain ⟨hx, hb, hr, hml, hown, hts, hlk, hK, hA, hV, htr, hex, hF, hL, hfl⟩ := id C
  unfold f_Sink_putLittle2 at h
  revert hP hS
  generalize hH : s.heap = H
  generalize hLo : ([] : List Loc) = locs
  intro hP hS
  have hS : va_S A s.heap H locs := by rw [hH]; exact hS
  refine lv_aload_n hx hb d_Sink_putLittle2_0 rfl (lv_at hl 0 rfl) ?_
  refine lv_iload_n hx hb d_Sink_putLittle2_1 rfl (lv_at hl 1 rfl) ?_
  rcases dc_tryE h with ⟨r_2, hg_2, h⟩ | ⟨r_2, hg_2, h⟩
  rotate_left
  · cases h
    exact dc_thrV (y := y_Sink_put) (bytes := b_Sink_put) (maxL := 2) (ret' := none) (fr' := 6) (lo' := 110) (n := 1) (val := vl_v) (o := r_2) (tysc := [(k_t_bytes, .byte)]) (As := [.int x1]) (rest := []) (wc := (ws_Sink_put h_t h_t_bytes k_t_bytes n_t_bytes w_t_bitStore w_t_bitsHeld t_filled a_t_bytes)) (wr := []) (w1 := w1_Sink_put h_t h_t_bytes k_t_bytes n_t_bytes w_t_bitStore w_t_bitsHeld) C cw_Sink_put (lg_in1 (List.mem_of_getElem? (i := 2) rfl) rfl) (lg_in6 (List.mem_of_getElem? (i := 147) rfl) rfl) (lg_in6 (List.mem_of_getElem? (i := 126) rfl) rfl) (lg_in6 (List.mem_of_getElem? (i := 127) rfl) rfl) (ci := 11) (cq := (R_Sink, F_Sink, 4)) (q0 := 0) rfl rfl rfl (ct_Sink_put hfl dC dI h_t h_t_bytes k_t_bytes n_t_bytes w_t_bitStore w_t_bitsHeld H.size x1 t_filled a_t_bytes hg_2) (by decide +kernel) ⟨Nat.le_of_ble_eq_true rfl, Nat.le_of_ble_eq_true rfl⟩ rfl rfl (Nat.le_of_ble_eq_true rfl) d_Sink_putLittle2_2 hRc.1 hRc.2 hP hD hS hl.1 [0, 1] [] [0] rfl rfl rfl rfl (by decide) rfl (fun x t H1 locs1 a1 a2 a3 a4 hP hD hS => dc_leaveT (u := (r_2.1, (r_2.2.1, r_2.2.2))) (w1 := w1_Sink_putLittle2 h_t h_t_bytes k_t_bytes n_t_bytes w_t_bitStore w_t_bitsHeld) C a1 a2 a3 a4 (hP.sub [0, 1] rfl) (hD.sub [0, 1] (by decide) rfl) hS)
  refine dc_callV (y := y_Sink_put) (bytes := b_Sink_put) (maxL := 2) (ret' := none) (fr' := 6) (lo' := 110) (n := 1) (val := vl_v) (o := r_2) (tysc := [(k_t_bytes, .byte)]) (As := [.int x1]) (rest := []) (wc := (ws_Sink_put h_t h_t_bytes k_t_bytes n_t_bytes w_t_bitStore w_t_bitsHeld t_filled a_t_bytes)) (wr := []) (w1 := w1_Sink_put h_t h_t_bytes k_t_bytes n_t_bytes w_t_bitStore w_t_bitsHeld) C cw_Sink_put (lg_in1 (List.mem_of_getElem? (i := 2) rfl) rfl) (lg_in6 (List.mem_of_getElem? (i := 147) rfl) rfl) (lg_in6 (List.mem_of_getElem? (i := 126) rfl) rfl) (lg_in6 (List.mem_of_getElem? (i := 127) rfl) rfl) (ci := 11) (cq := (R_Sink, F_Sink, 4)) (q0 := 0) rfl rfl rfl (cr_Sink_put hfl dC dI h_t h_t_bytes k_t_bytes n_t_bytes w_t_bitStore w_t_bitsHeld H.size x1 t_filled a_t_bytes hg_2) (by decide +kernel) ⟨Nat.le_of_ble_eq_true rfl, Nat.le_of_ble_eq_true rfl⟩ rfl rfl (Nat.le_of_ble_eq_true rfl) d_Sink_putLittle2_2 hP hD hS hl.1 [0, 1] [] [0] rfl rfl rfl rfl (by decide) rfl (fun H locs hP hD hS => ?_)
  have hP : va_P (dC, dI) classes (ws_Sink_putLittle2 h_t h_t_bytes k_t_bytes n_t_bytes w_t_bitStore w_t_bitsHeld r_2.2.1 r_2.2.2) H := hP.sub [0, 1] rfl
  have hD : va_D A (ws_Sink_putLittle2 h_t h_t_bytes k_t_bytes n_t_bytes w_t_bitStore w_t_bitsHeld r_2.2.1 r_2.2.2) := hD.sub [0, 1] (by decide) rfl
  show W p l e R s m _ below meth c H locs 0 0 _ (F0 m 5 ls [])
  refine lv_aload_n hx hb d_Sink_putLittle2_5 rfl (lv_at hl 0 rfl) ?_
  refine lv_iload_n hx hb d_Sink_putLittle2_6 rfl (lv_at hl 1 rfl) ?_
  refine lv_bipush (v := 8) hx hb d_Sink_putLittle2_7 (by decide) ?_
  refine lv_ishr hx hb d_Sink_putLittle2_9 ?_
  rcases dc_tryE h with ⟨r_10, hg_10, h⟩ | ⟨r_10, hg_10, h⟩
  rotate_left
  · cases h
    exact dc_thrV (y := y_Sink_put) (bytes := b_Sink_put) (maxL := 2) (ret' := none) (fr' := 6) (lo' := 110) (n := 1) (val := vl_v) (o := r_10) (tysc := [(k_t_bytes, .byte)]) (As := [.int (x1 >>> ((8 : Int32) &&& 31))]) (rest := []) (wc := (ws_Sink_put h_t h_t_bytes k_t_bytes n_t_bytes w_t_bitStore w_t_bitsHeld r_2.2.1 r_2.2.2)) (wr := []) (w1 := w1_Sink_put h_t h_t_bytes k_t_bytes n_t_bytes w_t_bitStore w_t_bitsHeld) C cw_Sink_put (lg_in1 (List.mem_of_getElem? (i := 2) rfl) rfl) (lg_in6 (List.mem_of_getElem? (i := 147) rfl) rfl) (lg_in6 (List.mem_of_getElem? (i := 126) rfl) rfl) (lg_in6 (List.mem_of_getElem? (i := 127) rfl) rfl) (ci := 11) (cq := (R_Sink, F_Sink, 4)) (q0 := 0) rfl rfl rfl (ct_Sink_put hfl dC dI h_t h_t_bytes k_t_bytes n_t_bytes w_t_bitStore w_t_bitsHeld H.size (x1 >>> ((8 : Int32) &&& 31)) r_2.2.1 r_2.2.2 hg_10) (by decide +kernel) ⟨Nat.le_of_ble_eq_true rfl, Nat.le_of_ble_eq_true rfl⟩ rfl rfl (Nat.le_of_ble_eq_true rfl) d_Sink_putLittle2_10 hRc.1 hRc.2 hP hD hS hl.1 [0, 1] [] [0] rfl rfl rfl rfl (by decide) rfl (fun x t H1 locs1 a1 a2 a3 a4 hP hD hS => dc_leaveT (u := (r_10.1, (r_10.2.1, r_10.2.2))) (w1 := w1_Sink_putLittle2 h_t h_t_bytes k_t_bytes n_t_bytes w_t_bitStore w_t_bitsHeld) C a1 a2 a3 a4 (hP.sub [0, 1] rfl) (hD.sub [0, 1] (by decide) rfl) hS)
  refine dc_callV (y := y_Sink_put) (bytes := b_Sink_put) (maxL := 2) (ret' := none) (fr' := 6) (lo' := 110) (n := 1) (val := vl_v) (o := r_10) (tysc := [(k_t_bytes, .byte)]) (As := [.int (x1 >>> ((8 : Int32) &&& 31))]) (rest := []) (wc := (ws_Sink_put h_t h_t_bytes k_t_bytes n_t_bytes w_t_bitStore w_t_bitsHeld r_2.2.1 r_2.2.2)) (wr := []) (w1 := w1_Sink_put h_t h_t_bytes k_t_bytes n_t_bytes w_t_bitStore w_t_bitsHeld) C cw_Sink_put (lg_in1 (List.mem_of_getElem? (i := 2) rfl) rfl) (lg_in6 (List.mem_of_getElem? (i := 147) rfl) rfl) (lg_in6 (List.mem_of_getElem? (i := 126) rfl) rfl) (lg_in6 (List.mem_of_getElem? (i := 127) rfl) rfl) (ci := 11) (cq := (R_Sink, F_Sink, 4)) (q0 := 0) rfl rfl rfl (cr_Sink_put hfl dC dI h_t h_t_bytes k_t_bytes n_t_bytes w_t_bitStore w_t_bitsHeld H.size (x1 >>> ((8 : Int32) &&& 31)) r_2.2.1 r_2.2.2 hg_10) (by decide +kernel) ⟨Nat.le_of_ble_eq_true rfl, Nat.le_of_ble_eq_true rfl⟩ rfl rfl (Nat.le_of_ble_eq_true rfl) d_Sink_putLittle2_10 hP hD hS hl.1 [0, 1] [] [0] rfl rfl rfl rfl (by decide) rfl (fun H locs hP hD hS => ?_)
  have hP : va_P (dC, dI) classes (ws_Sink_putLittle2 h_t h_t_bytes k_t_bytes n_t_bytes w_t_bitStore w_t_bitsHeld r_10.2.1 r_10.2.2) H := hP.sub [0, 1] rfl
  have hD : va_D A (ws_Sink_putLittle2 h_t h_t_bytes k_t_bytes n_t_bytes w_t_bitStore w_t_bitsHeld r_10.2.1 r_10.2.2) := hD.sub [0, 1] (by decide) rfl
  show W p l e R s m _ below meth c H locs 0 0 _ (F0 m 13 ls [])
  cases h
  exact dc_vret C (u := (r_10.2.1, r_10.2.2)) (w1 := w1_Sink_putLittle2 h_t h_t_bytes k_t_bytes n_t_bytes w_t_bitStore w_t_bitsHeld) hP hD hS d_Sink_putLittle2_13
theorem cr_Sink_putLittle2 {l : Launch} (hfl : l.flags = flags0) (dC : Nat → ClassId) (dI : Nat → Nat → Nat) (h_t : Nat) (h_t_bytes : Nat) (k_t_bytes : ClassId) (n_t_bytes : Nat) (w_t_bitStore : Int32) (w_t_bitsHeld : Int32) (sz : Nat) (x1 : Int32) (t_filled : Int32) (a_t_bytes : Nat → Int32) {u : Unit × (Int32 × (Nat → Int32))} (h : f_Sink_putLittle2 n_t_bytes x1 t_filled a_t_bytes = some (.inl u)) : MetX l y_Sink_putLittle2 (Cond.code y_Sink_putLittle2 b_Sink_putLittle2 2 none :: lw_g) (rmx 7 131 0 0) (vx_Pre dC dI [(k_t_bytes, .byte)] [.ref h_t, .int x1] sz (ws_Sink_putLittle2 h_t h_t_bytes k_t_bytes n_t_bytes w_t_bitStore w_t_bitsHeld t_filled a_t_bytes)) (vx_Q vl_v (.inl u) (fun u t => vx_B dC dI [(k_t_bytes, .byte)] (va_A (ws_Sink_putLittle2 h_t h_t_bytes k_t_bytes n_t_bytes w_t_bitStore w_t_bitsHeld t_filled a_t_bytes) sz) (w1_Sink_putLittle2 h_t h_t_bytes k_t_bytes n_t_bytes w_t_bitStore w_t_bitsHeld u) t) (va_A (ws_Sink_putLittle2 h_t h_t_bytes k_t_bytes n_t_bytes w_t_bitStore w_t_bitsHeld t_filled a_t_bytes) sz)) 0 0 (va_A (ws_Sink_putLittle2 h_t h_t_bytes k_t_bytes n_t_bytes w_t_bitStore w_t_bitsHeld t_filled a_t_bytes) sz) := dc_cr rfl (c_Sink_putLittle2 hfl dC dI h_t h_t_bytes k_t_bytes n_t_bytes w_t_bitStore w_t_bitsHeld sz x1 t_filled a_t_bytes h)
theorem ct_Sink_putLittle2 {l : Launch} (hfl : l.flags = flags0) (dC : Nat → ClassId) (dI : Nat → Nat → Nat) (h_t : Nat) (h_t_bytes : Nat) (k_t_bytes : ClassId) (n_t_bytes : Nat) (w_t_bitStore : Int32) (w_t_bitsHeld : Int32) (sz : Nat) (x1 : Int32) (t_filled : Int32) (a_t_bytes : Nat → Int32) {u : Nat × (Int32 × (Nat → Int32))} (h : f_Sink_putLittle2 n_t_bytes x1 t_filled a_t_bytes = some (.inr u)) : MetX l y_Sink_putLittle2 (Cond.code y_Sink_putLittle2 b_Sink_putLittle2 2 none :: lw_g) (rmx 7 131 1 6) (vx_Pre dC dI [(k_t_bytes, .byte)] [.ref h_t, .int x1] sz (ws_Sink_putLittle2 h_t h_t_bytes k_t_bytes n_t_bytes w_t_bitStore w_t_bitsHeld t_filled a_t_bytes)) (vx_Q vl_v (.inr u) (fun u t => vx_B dC dI [(k_t_bytes, .byte)] (va_A (ws_Sink_putLittle2 h_t h_t_bytes k_t_bytes n_t_bytes w_t_bitStore w_t_bitsHeld t_filled a_t_bytes) sz) (w1_Sink_putLittle2 h_t h_t_bytes k_t_bytes n_t_bytes w_t_bitStore w_t_bitsHeld u) t) (va_A (ws_Sink_putLittle2 h_t h_t_bytes k_t_bytes n_t_bytes w_t_bitStore w_t_bitsHeld t_filled a_t_bytes) sz)) 1 6 (va_A (ws_Sink_putLittle2 h_t h_t_bytes k_t_bytes n_t_bytes w_t_bitStore w_t_bitsHeld t_filled a_t_bytes) sz) := dc_ct rfl (c_Sink_putLittle2 hfl dC dI h_t h_t_bytes k_t_bytes n_t_bytes w_t_bitStore w_t_bitsHeld sz x1 t_filled a_t_bytes h)
def ws_Sink_putLittle4 (h_t : Nat) (h_t_bytes : Nat) (k_t_bytes : ClassId) (n_t_bytes : Nat) (w_t_bitStore : Int32) (w_t_bitsHeld : Int32) (t_filled : Int32) (a_t_bytes : Nat → Int32) : va_W := [(h_t, .inr (11, [.ref h_t_bytes, .int t_filled, .int w_t_bitStore, .int w_t_bitsHeld])), (h_t_bytes, .inl (k_t_bytes, n_t_bytes, .inl a_t_bytes))]
abbrev w1_Sink_putLittle4 (h_t : Nat) (h_t_bytes : Nat) (k_t_bytes : ClassId) (n_t_bytes : Nat) (w_t_bitStore : Int32) (w_t_bitsHeld : Int32)  (u : Int32 × (Nat → Int32)) : va_W := ws_Sink_putLittle4 h_t h_t_bytes k_t_bytes n_t_bytes w_t_bitStore w_t_bitsHeld u.1 u.2
abbrev q_Sink_putLittle4 (below : List Frame) (args : Array Value) (s : State) (dC : Nat → ClassId) (dI : Nat → Nat → Nat) (A : Nat → Prop) (h_t : Nat) (h_t_bytes : Nat) (k_t_bytes : ClassId) (n_t_bytes : Nat) (w_t_bitStore : Int32) (w_t_bitsHeld : Int32)  (o : (Unit × (Int32 × (Nat → Int32))) ⊕ (Nat × (Int32 × (Nat → Int32)))) : State → Prop := XQ below (vx_Q vl_v o (fun u t => vx_B dC dI [(k_t_bytes, .byte)] A (w1_Sink_putLittle4 h_t h_t_bytes k_t_bytes n_t_bytes w_t_bitStore w_t_bitsHeld u) t) A) args s (mcx o) (msx o) A
theorem d_Sink_putLittle4_0 : decode b_Sink_putLittle4 0 = .ok (.aload_n 0, 1) := by decide +kernel
theorem d_Sink_putLittle4_1 : decode b_Sink_putLittle4 1 = .ok (.iload_n 1, 1) := by decide +kernel
theorem d_Sink_putLittle4_2 : decode b_Sink_putLittle4 2 = .ok (.invokevirtual 56, 3) := by decide +kernel
theorem d_Sink_putLittle4_5 : decode b_Sink_putLittle4 5 = .ok (.aload_n 0, 1) := by decide +kernel
theorem d_Sink_putLittle4_6 : decode b_Sink_putLittle4 6 = .ok (.iload_n 1, 1) := by decide +kernel
theorem d_Sink_putLittle4_7 : decode b_Sink_putLittle4 7 = .ok (.bipush 16, 2) := by decide +kernel
theorem d_Sink_putLittle4_9 : decode b_Sink_putLittle4 9 = .ok (.ishr, 1) := by decide +kernel
theorem d_Sink_putLittle4_10 : decode b_Sink_putLittle4 10 = .ok (.invokevirtual 56, 3) := by decide +kernel
theorem d_Sink_putLittle4_13 : decode b_Sink_putLittle4 13 = .ok (.return_, 1) := by decide +kernel
def f_Sink_putLittle4 (n_t_bytes : Nat) (x1 : Int32) (t_filled : Int32) (a_t_bytes : Nat → Int32) : Option ((Unit × (Int32 × (Nat → Int32))) ⊕ (Nat × (Int32 × (Nat → Int32)))) := dc_try (f_Sink_putLittle2 n_t_bytes x1 t_filled a_t_bytes) (fun r_2 => dc_try (f_Sink_putLittle2 n_t_bytes (x1 >>> ((16 : Int32) &&& 31)) r_2.2.1 r_2.2.2) (fun r_10 => some (.inl ((), (r_10.2.1, r_10.2.2)))) (fun r_10 => some (.inr (r_10.1, (r_10.2.1, r_10.2.2))))) (fun r_2 => some (.inr (r_2.1, (r_2.2.1, r_2.2.2))))
set_option maxHeartbeats 400000 in
set_option maxRecDepth 100000 in
theorem c_Sink_putLittle4 {l : Launch} (hfl : l.flags = flags0) (dC : Nat → ClassId) (dI : Nat → Nat → Nat) (h_t : Nat) (h_t_bytes : Nat) (k_t_bytes : ClassId) (n_t_bytes : Nat) (w_t_bitStore : Int32) (w_t_bitsHeld : Int32) (sz : Nat) (x1 : Int32) (t_filled : Int32) (a_t_bytes : Nat → Int32) {o : (Unit × (Int32 × (Nat → Int32))) ⊕ (Nat × (Int32 × (Nat → Int32)))} (h : f_Sink_putLittle4 n_t_bytes x1 t_filled a_t_bytes = some o) : MetX l y_Sink_putLittle4 (Cond.code y_Sink_putLittle4 b_Sink_putLittle4 2 none :: lw_g) (rmx 8 152 (mcx o) (msx o)) (vx_Pre dC dI [(k_t_bytes, .byte)] [.ref h_t, .int x1] sz (ws_Sink_putLittle4 h_t h_t_bytes k_t_bytes n_t_bytes w_t_bitStore w_t_bitsHeld t_filled a_t_bytes)) (vx_Q vl_v o (fun u t => vx_B dC dI [(k_t_bytes, .byte)] (va_A (ws_Sink_putLittle4 h_t h_t_bytes k_t_bytes n_t_bytes w_t_bitStore w_t_bitsHeld t_filled a_t_bytes) sz) (w1_Sink_putLittle4 h_t h_t_bytes k_t_bytes n_t_bytes w_t_bitStore w_t_bitsHeld u) t) (va_A (ws_Sink_putLittle4 h_t h_t_bytes k_t_bytes n_t_bytes w_t_bitStore w_t_bitsHeld t_filled a_t_bytes) sz)) (mcx o) (msx o) (va_A (ws_Sink_putLittle4 h_t h_t_bytes k_t_bytes n_t_bytes w_t_bitStore w_t_bitsHeld t_filled a_t_bytes) sz) := by
  refine MetX.ofW (cc := b_Sink_putLittle4) (maxL := 2) (ret := none) (by decide +kernel) rfl ?_
  intro p e s m args below meth c s₁ B hml hv
  obtain ⟨rfl, rfl, C, hP, hD, hS⟩ := dc_entry hfl B hml hv
  have hl := lv_entry ([.ref h_t, .int x1]) (n := 2) (Nat.le_of_ble_eq_true rfl)
  rw [lg_entry_eq]
  generalize (lg_sl ([.ref h_t, .int x1]) ++ List.replicate (2 - (lg_sl ([.ref h_t, .int x1])).length) Slot.unset).toArray = ls at hl ⊢
  have hl : lv_has ls 2 [(0, .ref h_t), (1, .int x1)] := hl
  generalize hAe : va_A (ws_Sink_putLittle4 h_t h_t_bytes k_t_bytes n_t_bytes w_t_bitStore w_t_bitsHeld t_filled a_t_bytes) s.heap.size = A at C hD hS ⊢
  have hRc : mcx o ≤ (headSpec (Cond.code y_Sink_putLittle4 b_Sink_putLittle4 2 none :: lw_g) (rmx 8 152 (mcx o) (msx o))).room.cells ∧ msx o ≤ (headSpec (Cond.code y_Sink_putLittle4 b_Sink_putLittle4 2 none :: lw_g) (rmx 8 152 (mcx o) (msx o))).room.slots := ⟨Nat.le_refl _, Nat.le_refl _⟩
  generalize (headSpec (Cond.code y_Sink_putLittle4 b_Sink_putLittle4 2 none :: lw_g) (rmx 8 152 (mcx o) (msx o))).room = R at C hRc ⊢
  have C : cx p l e R s m _ meth c dC dI A R_Sink b_Sink_putLittle4 2 none 8 152 [(k_t_bytes, .byte)] := C
  obtain ⟨hx, hb, hr, hml, hown, hts, hlk, hK, hA, hV, htr, hex, hF, hL, hfl⟩ := id C
  unfold f_Sink_putLittle4 at h
  revert hP hS
  generalize hH : s.heap = H
  generalize hLo : ([] : List Loc) = locs
  intro hP hS
  have hS : va_S A s.heap H locs := by rw [hH]; exact hS
  refine lv_aload_n hx hb d_Sink_putLittle4_0 rfl (lv_at hl 0 rfl) ?_
  refine lv_iload_n hx hb d_Sink_putLittle4_1 rfl (lv_at hl 1 rfl) ?_
  rcases dc_tryE h with ⟨r_2, hg_2, h⟩ | ⟨r_2, hg_2, h⟩
  rotate_left
  · cases h
    exact dc_thrV (y := y_Sink_putLittle2) (bytes := b_Sink_putLittle2) (maxL := 2) (ret' := none) (fr' := 7) (lo' := 131) (n := 1) (val := vl_v) (o := r_2) (tysc := [(k_t_bytes, .byte)]) (As := [.int x1]) (rest := []) (wc := (ws_Sink_putLittle2 h_t h_t_bytes k_t_bytes n_t_bytes w_t_bitStore w_t_bitsHeld t_filled a_t_bytes)) (wr := []) (w1 := w1_Sink_putLittle2 h_t h_t_bytes k_t_bytes n_t_bytes w_t_bitStore w_t_bitsHeld) C cw_Sink_putLittle2 (lg_in1 (List.mem_of_getElem? (i := 2) rfl) rfl) (lg_in7 (List.mem_of_getElem? (i := 125) rfl) rfl) (lg_in7 (List.mem_of_getElem? (i := 50) rfl) rfl) (lg_in7 (List.mem_of_getElem? (i := 51) rfl) rfl) (ci := 11) (cq := (R_Sink, F_Sink, 4)) (q0 := 0) rfl rfl rfl (ct_Sink_putLittle2 hfl dC dI h_t h_t_bytes k_t_bytes n_t_bytes w_t_bitStore w_t_bitsHeld H.size x1 t_filled a_t_bytes hg_2) (by decide +kernel) ⟨Nat.le_of_ble_eq_true rfl, Nat.le_of_ble_eq_true rfl⟩ rfl rfl (Nat.le_of_ble_eq_true rfl) d_Sink_putLittle4_2 hRc.1 hRc.2 hP hD hS hl.1 [0, 1] [] [0] rfl rfl rfl rfl (by decide) rfl (fun x t H1 locs1 a1 a2 a3 a4 hP hD hS => dc_leaveT (u := (r_2.1, (r_2.2.1, r_2.2.2))) (w1 := w1_Sink_putLittle4 h_t h_t_bytes k_t_bytes n_t_bytes w_t_bitStore w_t_bitsHeld) C a1 a2 a3 a4 (hP.sub [0, 1] rfl) (hD.sub [0, 1] (by decide) rfl) hS)
  refine dc_callV (y := y_Sink_putLittle2) (bytes := b_Sink_putLittle2) (maxL := 2) (ret' := none) (fr' := 7) (lo' := 131) (n := 1) (val := vl_v) (o := r_2) (tysc := [(k_t_bytes, .byte)]) (As := [.int x1]) (rest := []) (wc := (ws_Sink_putLittle2 h_t h_t_bytes k_t_bytes n_t_bytes w_t_bitStore w_t_bitsHeld t_filled a_t_bytes)) (wr := []) (w1 := w1_Sink_putLittle2 h_t h_t_bytes k_t_bytes n_t_bytes w_t_bitStore w_t_bitsHeld) C cw_Sink_putLittle2 (lg_in1 (List.mem_of_getElem? (i := 2) rfl) rfl) (lg_in7 (List.mem_of_getElem? (i := 125) rfl) rfl) (lg_in7 (List.mem_of_getElem? (i := 50) rfl) rfl) (lg_in7 (List.mem_of_getElem? (i := 51) rfl) rfl) (ci := 11) (cq := (R_Sink, F_Sink, 4)) (q0 := 0) rfl rfl rfl (cr_Sink_putLittle2 hfl dC dI h_t h_t_bytes k_t_bytes n_t_bytes w_t_bitStore w_t_bitsHeld H.size x1 t_filled a_t_bytes hg_2) (by decide +kernel) ⟨Nat.le_of_ble_eq_true rfl, Nat.le_of_ble_eq_true rfl⟩ rfl rfl (Nat.le_of_ble_eq_true rfl) d_Sink_putLittle4_2 hP hD hS hl.1 [0, 1] [] [0] rfl rfl rfl rfl (by decide) rfl (fun H locs hP hD hS => ?_)
  have hP : va_P (dC, dI) classes (ws_Sink_putLittle4 h_t h_t_bytes k_t_bytes n_t_bytes w_t_bitStore w_t_bitsHeld r_2.2.1 r_2.2.2) H := hP.sub [0, 1] rfl
  have hD : va_D A (ws_Sink_putLittle4 h_t h_t_bytes k_t_bytes n_t_bytes w_t_bitStore w_t_bitsHeld r_2.2.1 r_2.2.2) := hD.sub [0, 1] (by decide) rfl
  show W p l e R s m _ below meth c H locs 0 0 _ (F0 m 5 ls [])
  refine lv_aload_n hx hb d_Sink_putLittle4_5 rfl (lv_at hl 0 rfl) ?_
  refine lv_iload_n hx hb d_Sink_putLittle4_6 rfl (lv_at hl 1 rfl) ?_
  refine lv_bipush (v := 16) hx hb d_Sink_putLittle4_7 (by decide) ?_
  refine lv_ishr hx hb d_Sink_putLittle4_9 ?_
  rcases dc_tryE h with ⟨r_10, hg_10, h⟩ | ⟨r_10, hg_10, h⟩
  rotate_left
  · cases h
    exact dc_thrV (y := y_Sink_putLittle2) (bytes := b_Sink_putLittle2) (maxL := 2) (ret' := none) (fr' := 7) (lo' := 131) (n := 1) (val := vl_v) (o := r_10) (tysc := [(k_t_bytes, .byte)]) (As := [.int (x1 >>> ((16 : Int32) &&& 31))]) (rest := []) (wc := (ws_Sink_putLittle2 h_t h_t_bytes k_t_bytes n_t_bytes w_t_bitStore w_t_bitsHeld r_2.2.1 r_2.2.2)) (wr := []) (w1 := w1_Sink_putLittle2 h_t h_t_bytes k_t_bytes n_t_bytes w_t_bitStore w_t_bitsHeld) C cw_Sink_putLittle2 (lg_in1 (List.mem_of_getElem? (i := 2) rfl) rfl) (lg_in7 (List.mem_of_getElem? (i := 125) rfl) rfl) (lg_in7 (List.mem_of_getElem? (i := 50) rfl) rfl) (lg_in7 (List.mem_of_getElem? (i := 51) rfl) rfl) (ci := 11) (cq := (R_Sink, F_Sink, 4)) (q0 := 0) rfl rfl rfl (ct_Sink_putLittle2 hfl dC dI h_t h_t_bytes k_t_bytes n_t_bytes w_t_bitStore w_t_bitsHeld H.size (x1 >>> ((16 : Int32) &&& 31)) r_2.2.1 r_2.2.2 hg_10) (by decide +kernel) ⟨Nat.le_of_ble_eq_true rfl, Nat.le_of_ble_eq_true rfl⟩ rfl rfl (Nat.le_of_ble_eq_true rfl) d_Sink_putLittle4_10 hRc.1 hRc.2 hP hD hS hl.1 [0, 1] [] [0] rfl rfl rfl rfl (by decide) rfl (fun x t H1 locs1 a1 a2 a3 a4 hP hD hS => dc_leaveT (u := (r_10.1, (r_10.2.1, r_10.2.2))) (w1 := w1_Sink_putLittle4 h_t h_t_bytes k_t_bytes n_t_bytes w_t_bitStore w_t_bitsHeld) C a1 a2 a3 a4 (hP.sub [0, 1] rfl) (hD.sub [0, 1] (by decide) rfl) hS)
  refine dc_callV (y := y_Sink_putLittle2) (bytes := b_Sink_putLittle2) (maxL := 2) (ret' := none) (fr' := 7) (lo' := 131) (n := 1) (val := vl_v) (o := r_10) (tysc := [(k_t_bytes, .byte)]) (As := [.int (x1 >>> ((16 : Int32) &&& 31))]) (rest := []) (wc := (ws_Sink_putLittle2 h_t h_t_bytes k_t_bytes n_t_bytes w_t_bitStore w_t_bitsHeld r_2.2.1 r_2.2.2)) (wr := []) (w1 := w1_Sink_putLittle2 h_t h_t_bytes k_t_bytes n_t_bytes w_t_bitStore w_t_bitsHeld) C cw_Sink_putLittle2 (lg_in1 (List.mem_of_getElem? (i := 2) rfl) rfl) (lg_in7 (List.mem_of_getElem? (i := 125) rfl) rfl) (lg_in7 (List.mem_of_getElem? (i := 50) rfl) rfl) (lg_in7 (List.mem_of_getElem? (i := 51) rfl) rfl) (ci := 11) (cq := (R_Sink, F_Sink, 4)) (q0 := 0) rfl rfl rfl (cr_Sink_putLittle2 hfl dC dI h_t h_t_bytes k_t_bytes n_t_bytes w_t_bitStore w_t_bitsHeld H.size (x1 >>> ((16 : Int32) &&& 31)) r_2.2.1 r_2.2.2 hg_10) (by decide +kernel) ⟨Nat.le_of_ble_eq_true rfl, Nat.le_of_ble_eq_true rfl⟩ rfl rfl (Nat.le_of_ble_eq_true rfl) d_Sink_putLittle4_10 hP hD hS hl.1 [0, 1] [] [0] rfl rfl rfl rfl (by decide) rfl (fun H locs hP hD hS => ?_)
  have hP : va_P (dC, dI) classes (ws_Sink_putLittle4 h_t h_t_bytes k_t_bytes n_t_bytes w_t_bitStore w_t_bitsHeld r_10.2.1 r_10.2.2) H := hP.sub [0, 1] rfl
  have hD : va_D A (ws_Sink_putLittle4 h_t h_t_bytes k_t_bytes n_t_bytes w_t_bitStore w_t_bitsHeld r_10.2.1 r_10.2.2) := hD.sub [0, 1] (by decide) rfl
  show W p l e R s m _ below meth c H locs 0 0 _ (F0 m 13 ls [])
  cases h
  exact dc_vret C (u := (r_10.2.1, r_10.2.2)) (w1 := w1_Sink_putLittle4 h_t h_t_bytes k_t_bytes n_t_bytes w_t_bitStore w_t_bitsHeld) hP hD hS d_Sink_putLittle4_13
theorem cr_Sink_putLittle4 {l : Launch} (hfl : l.flags = flags0) (dC : Nat → ClassId) (dI : Nat → Nat → Nat) (h_t : Nat) (h_t_bytes : Nat) (k_t_bytes : ClassId) (n_t_bytes : Nat) (w_t_bitStore : Int32) (w_t_bitsHeld : Int32) (sz : Nat) (x1 : Int32) (t_filled : Int32) (a_t_bytes : Nat → Int32) {u : Unit × (Int32 × (Nat → Int32))} (h : f_Sink_putLittle4 n_t_bytes x1 t_filled a_t_bytes = some (.inl u)) : MetX l y_Sink_putLittle4 (Cond.code y_Sink_putLittle4 b_Sink_putLittle4 2 none :: lw_g) (rmx 8 152 0 0) (vx_Pre dC dI [(k_t_bytes, .byte)] [.ref h_t, .int x1] sz (ws_Sink_putLittle4 h_t h_t_bytes k_t_bytes n_t_bytes w_t_bitStore w_t_bitsHeld t_filled a_t_bytes)) (vx_Q vl_v (.inl u) (fun u t => vx_B dC dI [(k_t_bytes, .byte)] (va_A (ws_Sink_putLittle4 h_t h_t_bytes k_t_bytes n_t_bytes w_t_bitStore w_t_bitsHeld t_filled a_t_bytes) sz) (w1_Sink_putLittle4 h_t h_t_bytes k_t_bytes n_t_bytes w_t_bitStore w_t_bitsHeld u) t) (va_A (ws_Sink_putLittle4 h_t h_t_bytes k_t_bytes n_t_bytes w_t_bitStore w_t_bitsHeld t_filled a_t_bytes) sz)) 0 0 (va_A (ws_Sink_putLittle4 h_t h_t_bytes k_t_bytes n_t_bytes w_t_bitStore w_t_bitsHeld t_filled a_t_bytes) sz) := dc_cr rfl (c_Sink_putLittle4 hfl dC dI h_t h_t_bytes k_t_bytes n_t_bytes w_t_bitStore w_t_bitsHeld sz x1 t_filled a_t_bytes h)
theorem ct_Sink_putLittle4 {l : Launch} (hfl : l.flags = flags0) (dC : Nat → ClassId) (dI : Nat → Nat → Nat) (h_t : Nat) (h_t_bytes : Nat) (k_t_bytes : ClassId) (n_t_bytes : Nat) (w_t_bitStore : Int32) (w_t_bitsHeld : Int32) (sz : Nat) (x1 : Int32) (t_filled : Int32) (a_t_bytes : Nat → Int32) {u : Nat × (Int32 × (Nat → Int32))} (h : f_Sink_putLittle4 n_t_bytes x1 t_filled a_t_bytes = some (.inr u)) : MetX l y_Sink_putLittle4 (Cond.code y_Sink_putLittle4 b_Sink_putLittle4 2 none :: lw_g) (rmx 8 152 1 6) (vx_Pre dC dI [(k_t_bytes, .byte)] [.ref h_t, .int x1] sz (ws_Sink_putLittle4 h_t h_t_bytes k_t_bytes n_t_bytes w_t_bitStore w_t_bitsHeld t_filled a_t_bytes)) (vx_Q vl_v (.inr u) (fun u t => vx_B dC dI [(k_t_bytes, .byte)] (va_A (ws_Sink_putLittle4 h_t h_t_bytes k_t_bytes n_t_bytes w_t_bitStore w_t_bitsHeld t_filled a_t_bytes) sz) (w1_Sink_putLittle4 h_t h_t_bytes k_t_bytes n_t_bytes w_t_bitStore w_t_bitsHeld u) t) (va_A (ws_Sink_putLittle4 h_t h_t_bytes k_t_bytes n_t_bytes w_t_bitStore w_t_bitsHeld t_filled a_t_bytes) sz)) 1 6 (va_A (ws_Sink_putLittle4 h_t h_t_bytes k_t_bytes n_t_bytes w_t_bitStore w_t_bitsHeld t_filled a_t_bytes) sz) := dc_ct rfl (c_Sink_putLittle4 hfl dC dI h_t h_t_bytes k_t_bytes n_t_bytes w_t_bitStore w_t_bitsHeld sz x1 t_filled a_t_bytes h)
def ws_Sink_closeBits (h_t : Nat) (h_t_bytes : Nat) (k_t_bytes : ClassId) (n_t_bytes : Nat) (t_filled : Int32) (t_bitStore : Int32) (t_bitsHeld : Int32) (a_t_bytes : Nat → Int32) : va_W := [(h_t, .inr (11, [.ref h_t_bytes, .int t_filled, .int t_bitStore, .int t_bitsHeld])), (h_t_bytes, .inl (k_t_bytes, n_t_bytes, .inl a_t_bytes))]
abbrev w1_Sink_closeBits (h_t : Nat) (h_t_bytes : Nat) (k_t_bytes : ClassId) (n_t_bytes : Nat)  (u : Int32 × Int32 × Int32 × (Nat → Int32)) : va_W := ws_Sink_closeBits h_t h_t_bytes k_t_bytes n_t_bytes u.1 u.2.1 u.2.2.1 u.2.2.2
abbrev q_Sink_closeBits (below : List Frame) (args : Array Value) (s : State) (dC : Nat → ClassId) (dI : Nat → Nat → Nat) (A : Nat → Prop) (h_t : Nat) (h_t_bytes : Nat) (k_t_bytes : ClassId) (n_t_bytes : Nat)  (o : (Unit × (Int32 × Int32 × Int32 × (Nat → Int32))) ⊕ (Nat × (Int32 × Int32 × Int32 × (Nat → Int32)))) : State → Prop := XQ below (vx_Q vl_v o (fun u t => vx_B dC dI [(k_t_bytes, .byte)] A (w1_Sink_closeBits h_t h_t_bytes k_t_bytes n_t_bytes u) t) A) args s (mcx o) (msx o) A
theorem d_Sink_closeBits_0 : decode b_Sink_closeBits 0 = .ok (.aload_n 0, 1) := by decide +kernel
theorem d_Sink_closeBits_1 : decode b_Sink_closeBits 1 = .ok (.getfield 16, 3) := by decide +kernel
theorem d_Sink_closeBits_4 : decode b_Sink_closeBits 4 = .ok (.ifCond .le 11, 3) := by decide +kernel
theorem d_Sink_closeBits_7 : decode b_Sink_closeBits 7 = .ok (.aload_n 0, 1) := by decide +kernel
theorem d_Sink_closeBits_8 : decode b_Sink_closeBits 8 = .ok (.aload_n 0, 1) := by decide +kernel
theorem d_Sink_closeBits_9 : decode b_Sink_closeBits 9 = .ok (.getfield 13, 3) := by decide +kernel
theorem d_Sink_closeBits_12 : decode b_Sink_closeBits 12 = .ok (.invokevirtual 42, 3) := by decide +kernel
theorem d_Sink_closeBits_15 : decode b_Sink_closeBits 15 = .ok (.aload_n 0, 1) := by decide +kernel
theorem d_Sink_closeBits_16 : decode b_Sink_closeBits 16 = .ok (.iconst 0, 1) := by decide +kernel
theorem d_Sink_closeBits_17 : decode b_Sink_closeBits 17 = .ok (.putfield 13, 3) := by decide +kernel
theorem d_Sink_closeBits_20 : decode b_Sink_closeBits 20 = .ok (.aload_n 0, 1) := by decide +kernel
theorem d_Sink_closeBits_21 : decode b_Sink_closeBits 21 = .ok (.iconst 0, 1) := by decide +kernel
theorem d_Sink_closeBits_22 : decode b_Sink_closeBits 22 = .ok (.putfield 16, 3) := by decide +kernel
theorem d_Sink_closeBits_25 : decode b_Sink_closeBits 25 = .ok (.return_, 1) := by decide +kernel
def at_Sink_closeBits_15 (p : Program) (l : Launch) (e : Env) (R : Room) (s : State) (m : MethodId) (args : Array Value) (below : List Frame) (meth : Method) (c : Code) (dC : Nat → ClassId) (dI : Nat → Nat → Nat) (A : Nat → Prop) (Q : State → Prop) (h_t : Nat) (h_t_bytes : Nat) (k_t_bytes : ClassId) (n_t_bytes : Nat) (t_filled : Int32) (t_bitStore : Int32) (t_bitsHeld : Int32) (a_t_bytes : Nat → Int32)  : Prop := ∀ (H : Heap) (locs : List Loc) (ls : Array Slot), va_P (dC, dI) classes (ws_Sink_closeBits h_t h_t_bytes k_t_bytes n_t_bytes t_filled t_bitStore t_bitsHeld a_t_bytes) H → va_D A (ws_Sink_closeBits h_t h_t_bytes k_t_bytes n_t_bytes t_filled t_bitStore t_bitsHeld a_t_bytes) → va_S A s.heap H locs → lv_has ls 1 [(0, .ref h_t)] → W p l e R s m args below meth c H locs 0 0 Q (F0 m 15 ls [])
def f_Sink_closeBits_15 (n_t_bytes : Nat) (t_filled : Int32) (t_bitStore : Int32) (t_bitsHeld : Int32) (a_t_bytes : Nat → Int32)  : Option ((Unit × (Int32 × Int32 × Int32 × (Nat → Int32))) ⊕ (Nat × (Int32 × Int32 × Int32 × (Nat → Int32)))) := some (.inl ((), (t_filled, 0, 0, a_t_bytes)))
def f_Sink_closeBits (n_t_bytes : Nat)  (t_filled : Int32) (t_bitStore : Int32) (t_bitsHeld : Int32) (a_t_bytes : Nat → Int32) : Option ((Unit × (Int32 × Int32 × Int32 × (Nat → Int32))) ⊕ (Nat × (Int32 × Int32 × Int32 × (Nat → Int32)))) := (if t_bitsHeld ≤ 0 then (f_Sink_closeBits_15 n_t_bytes t_filled t_bitStore t_bitsHeld a_t_bytes) else (dc_try (f_Sink_put n_t_bytes t_bitStore t_filled a_t_bytes) (fun r_12 => f_Sink_closeBits_15 n_t_bytes r_12.2.1 t_bitStore t_bitsHeld r_12.2.2) (fun r_12 => some (.inr (r_12.1, (r_12.2.1, t_bitStore, t_bitsHeld, r_12.2.2))))))
set_option maxHeartbeats 400000 in
set_option maxRecDepth 100000 in
theorem w_Sink_closeBits_15 {p : Program} {l : Launch} {e : Env} {R : Room} {s : State} {m : MethodId} {args : Array Value} {below : List Frame} {meth : Method} {c : Code} {dC : Nat → ClassId} {dI : Nat → Nat → Nat} {A : Nat → Prop} {h_t : Nat} {h_t_bytes : Nat} {k_t_bytes : ClassId} {n_t_bytes : Nat} (C : cx p l e R s m args meth c dC dI A R_Sink b_Sink_closeBits 1 none 7 131 [(k_t_bytes, .byte)]) {o : (Unit × (Int32 × Int32 × Int32 × (Nat → Int32))) ⊕ (Nat × (Int32 × Int32 × Int32 × (Nat → Int32)))} {t_filled : Int32} {t_bitStore : Int32} {t_bitsHeld : Int32} {a_t_bytes : Nat → Int32}   (hRc : mcx o ≤ R.cells ∧ msx o ≤ R.slots) (h : f_Sink_closeBits_15 n_t_bytes t_filled t_bitStore t_bitsHeld a_t_bytes = some o) : at_Sink_closeBits_15 p l e R s m args below meth c dC dI A (q_Sink_closeBits below args s dC dI A h_t h_t_bytes k_t_bytes n_t_bytes o) h_t h_t_bytes k_t_bytes n_t_bytes t_filled t_bitStore t_bitsHeld a_t_bytes := by
  refine fun H locs ls hP hD hS hl => ?_
  obtain ⟨hx, hb, hr, hml, hown, hts, hlk, hK, hA, hV, htr, hex, hF, hL, hfl⟩ := id C
  unfold f_Sink_closeBits_15 at h
  refine lv_aload_n hx hb d_Sink_closeBits_15 rfl (lv_at hl 0 rfl) ?_
  refine lv_iconst (v := 0) hx hb d_Sink_closeBits_16 (by decide) ?_
  refine va_put (D := (dC, dI)) (ci := 11) (v := .int 0) (ty := .int) (C := R_Sink) (T := F_Sink) (N := 4) hx hb hts i_Sink t_Sink t_Sink_ok n_Sink hown hK hP hD hS 0 rfl rfl 2 (by decide) (hts _ (lg_in1 (List.mem_of_getElem? (i := 51) rfl) rfl)) (fun _ h9 => h9) rfl (by decide +kernel) rfl rfl (Nat.le_of_ble_eq_true rfl) d_Sink_closeBits_17 (fun H locs hP hD hS => ?_)
  have hP : va_P (dC, dI) classes (ws_Sink_closeBits h_t h_t_bytes k_t_bytes n_t_bytes t_filled 0 t_bitsHeld a_t_bytes) H := hP
  have hD : va_D A (ws_Sink_closeBits h_t h_t_bytes k_t_bytes n_t_bytes t_filled 0 t_bitsHeld a_t_bytes) := hD
  refine lv_aload_n hx hb d_Sink_closeBits_20 rfl (lv_at hl 0 rfl) ?_
  refine lv_iconst (v := 0) hx hb d_Sink_closeBits_21 (by decide) ?_
  refine va_put (D := (dC, dI)) (ci := 11) (v := .int 0) (ty := .int) (C := R_Sink) (T := F_Sink) (N := 4) hx hb hts i_Sink t_Sink t_Sink_ok n_Sink hown hK hP hD hS 0 rfl rfl 3 (by decide) (hts _ (lg_in1 (List.mem_of_getElem? (i := 52) rfl) rfl)) (fun _ h9 => h9) rfl (by decide +kernel) rfl rfl (Nat.le_of_ble_eq_true rfl) d_Sink_closeBits_22 (fun H locs hP hD hS => ?_)
  have hP : va_P (dC, dI) classes (ws_Sink_closeBits h_t h_t_bytes k_t_bytes n_t_bytes t_filled 0 0 a_t_bytes) H := hP
  have hD : va_D A (ws_Sink_closeBits h_t h_t_bytes k_t_bytes n_t_bytes t_filled 0 0 a_t_bytes) := hD
  cases h
  exact dc_vret C (u := (t_filled, 0, 0, a_t_bytes)) (w1 := w1_Sink_closeBits h_t h_t_bytes k_t_bytes n_t_bytes) hP hD hS d_Sink_closeBits_25
set_option maxHeartbeats 400000 in
set_option maxRecDepth 100000 in
theorem c_Sink_closeBits {l : Launch} (hfl : l.flags = flags0) (dC : Nat → ClassId) (dI : Nat → Nat → Nat) (h_t : Nat) (h_t_bytes : Nat) (k_t_bytes : ClassId) (n_t_bytes : Nat) (sz : Nat)  (t_filled : Int32) (t_bitStore : Int32) (t_bitsHeld : Int32) (a_t_bytes : Nat → Int32) {o : (Unit × (Int32 × Int32 × Int32 × (Nat → Int32))) ⊕ (Nat × (Int32 × Int32 × Int32 × (Nat → Int32)))} (h : f_Sink_closeBits n_t_bytes t_filled t_bitStore t_bitsHeld a_t_bytes = some o) : MetX l y_Sink_closeBits (Cond.code y_Sink_closeBits b_Sink_closeBits 1 none :: lw_g) (rmx 7 131 (mcx o) (msx o)) (vx_Pre dC dI [(k_t_bytes, .byte)] [.ref h_t] sz (ws_Sink_closeBits h_t h_t_bytes k_t_bytes n_t_bytes t_filled t_bitStore t_bitsHeld a_t_bytes)) (vx_Q vl_v o (fun u t => vx_B dC dI [(k_t_bytes, .byte)] (va_A (ws_Sink_closeBits h_t h_t_bytes k_t_bytes n_t_bytes t_filled t_bitStore t_bitsHeld a_t_bytes) sz) (w1_Sink_closeBits h_t h_t_bytes k_t_bytes n_t_bytes u) t) (va_A (ws_Sink_closeBits h_t h_t_bytes k_t_bytes n_t_bytes t_filled t_bitStore t_bitsHeld a_t_bytes) sz)) (mcx o) (msx o) (va_A (ws_Sink_closeBits h_t h_t_bytes k_t_bytes n_t_bytes t_filled t_bitStore t_bitsHeld a_t_bytes) sz) := by
  refine MetX.ofW (cc := b_Sink_closeBits) (maxL := 1) (ret := none) (by decide +kernel) rfl ?_
  intro p e s m args below meth c s₁ B hml hv
  obtain ⟨rfl, rfl, C, hP, hD, hS⟩ := dc_entry hfl B hml hv
  have hl := lv_entry ([.ref h_t]) (n := 1) (Nat.le_of_ble_eq_true rfl)
  rw [lg_entry_eq]
  generalize (lg_sl ([.ref h_t]) ++ List.replicate (1 - (lg_sl ([.ref h_t])).length) Slot.unset).toArray = ls at hl ⊢
  have hl : lv_has ls 1 [(0, .ref h_t)] := hl
  generalize hAe : va_A (ws_Sink_closeBits h_t h_t_bytes k_t_bytes n_t_bytes t_filled t_bitStore t_bitsHeld a_t_bytes) s.heap.size = A at C hD hS ⊢
  have hRc : mcx o ≤ (headSpec (Cond.code y_Sink_closeBits b_Sink_closeBits 1 none :: lw_g) (rmx 7 131 (mcx o) (msx o))).room.cells ∧ msx o ≤ (headSpec (Cond.code y_Sink_closeBits b_Sink_closeBits 1 none :: lw_g) (rmx 7 131 (mcx o) (msx o))).room.slots := ⟨Nat.le_refl _, Nat.le_refl _⟩
  generalize (headSpec (Cond.code y_Sink_closeBits b_Sink_closeBits 1 none :: lw_g) (rmx 7 131 (mcx o) (msx o))).room = R at C hRc ⊢
  have C : cx p l e R s m _ meth c dC dI A R_Sink b_Sink_closeBits 1 none 7 131 [(k_t_bytes, .byte)] := C
  obtain ⟨hx, hb, hr, hml, hown, hts, hlk, hK, hA, hV, htr, hex, hF, hL, hfl⟩ := id C
  unfold f_Sink_closeBits at h
  revert hP hS
  generalize hH : s.heap = H
  generalize hLo : ([] : List Loc) = locs
  intro hP hS
  have hS : va_S A s.heap H locs := by rw [hH]; exact hS
  refine lv_aload_n hx hb d_Sink_closeBits_0 rfl (lv_at hl 0 rfl) ?_
  refine va_get (D := (dC, dI)) (ci := 11) (v := .int t_bitsHeld) (C := R_Sink) (T := F_Sink) (N := 4) hx hb hts i_Sink hown hK hP 0 rfl rfl 3 (by decide) (hts _ (lg_in1 (List.mem_of_getElem? (i := 52) rfl) rfl)) (fun _ h9 => h9) rfl d_Sink_closeBits_1 ?_
  refine lv_if_le (tgt := 15) hx hb d_Sink_closeBits_4 (by decide) (fun c_4 => ?_) (fun c_4 => ?_)
  · have h := dc_t c_4 h
    exact w_Sink_closeBits_15 C hRc h H locs ls hP hD hS (lv_sub hl [0] rfl)
  have h := dc_f c_4 h
  refine lv_aload_n hx hb d_Sink_closeBits_7 rfl (lv_at hl 0 rfl) ?_
  refine lv_aload_n hx hb d_Sink_closeBits_8 rfl (lv_at hl 0 rfl) ?_
  refine va_get (D := (dC, dI)) (ci := 11) (v := .int t_bitStore) (C := R_Sink) (T := F_Sink) (N := 4) hx hb hts i_Sink hown hK hP 0 rfl rfl 2 (by decide) (hts _ (lg_in1 (List.mem_of_getElem? (i := 51) rfl) rfl)) (fun _ h9 => h9) rfl d_Sink_closeBits_9 ?_
  rcases dc_tryE h with ⟨r_12, hg_12, h⟩ | ⟨r_12, hg_12, h⟩
  rotate_left
  · cases h
    exact dc_thrV (y := y_Sink_put) (bytes := b_Sink_put) (maxL := 2) (ret' := none) (fr' := 6) (lo' := 110) (n := 1) (val := vl_v) (o := r_12) (tysc := [(k_t_bytes, .byte)]) (As := [.int t_bitStore]) (rest := []) (wc := (ws_Sink_put h_t h_t_bytes k_t_bytes n_t_bytes t_bitStore t_bitsHeld t_filled a_t_bytes)) (wr := []) (w1 := w1_Sink_put h_t h_t_bytes k_t_bytes n_t_bytes t_bitStore t_bitsHeld) C cw_Sink_put (lg_in1 (List.mem_of_getElem? (i := 2) rfl) rfl) (lg_in6 (List.mem_of_getElem? (i := 147) rfl) rfl) (lg_in6 (List.mem_of_getElem? (i := 126) rfl) rfl) (lg_in6 (List.mem_of_getElem? (i := 127) rfl) rfl) (ci := 11) (cq := (R_Sink, F_Sink, 4)) (q0 := 0) rfl rfl rfl (ct_Sink_put hfl dC dI h_t h_t_bytes k_t_bytes n_t_bytes t_bitStore t_bitsHeld H.size t_bitStore t_filled a_t_bytes hg_12) (by decide +kernel) ⟨Nat.le_of_ble_eq_true rfl, Nat.le_of_ble_eq_true rfl⟩ rfl rfl (Nat.le_of_ble_eq_true rfl) d_Sink_closeBits_12 hRc.1 hRc.2 hP hD hS hl.1 [0, 1] [] [0] rfl rfl rfl rfl (by decide) rfl (fun x t H1 locs1 a1 a2 a3 a4 hP hD hS => dc_leaveT (u := (r_12.1, (r_12.2.1, t_bitStore, t_bitsHeld, r_12.2.2))) (w1 := w1_Sink_closeBits h_t h_t_bytes k_t_bytes n_t_bytes) C a1 a2 a3 a4 (hP.sub [0, 1] rfl) (hD.sub [0, 1] (by decide) rfl) hS)
  refine dc_callV (y := y_Sink_put) (bytes := b_Sink_put) (maxL := 2) (ret' := none) (fr' := 6) (lo' := 110) (n := 1) (val := vl_v) (o := r_12) (tysc := [(k_t_bytes, .byte)]) (As := [.int t_bitStore]) (rest := []) (wc := (ws_Sink_put h_t h_t_bytes k_t_bytes n_t_bytes t_bitStore t_bitsHeld t_filled a_t_bytes)) (wr := []) (w1 := w1_Sink_put h_t h_t_bytes k_t_bytes n_t_bytes t_bitStore t_bitsHeld) C cw_Sink_put (lg_in1 (List.mem_of_getElem? (i := 2) rfl) rfl) (lg_in6 (List.mem_of_getElem? (i := 147) rfl) rfl) (lg_in6 (List.mem_of_getElem? (i := 126) rfl) rfl) (lg_in6 (List.mem_of_getElem? (i := 127) rfl) rfl) (ci := 11) (cq := (R_Sink, F_Sink, 4)) (q0 := 0) rfl rfl rfl (cr_Sink_put hfl dC dI h_t h_t_bytes k_t_bytes n_t_bytes t_bitStore t_bitsHeld H.size t_bitStore t_filled a_t_bytes hg_12) (by decide +kernel) ⟨Nat.le_of_ble_eq_true rfl, Nat.le_of_ble_eq_true rfl⟩ rfl rfl (Nat.le_of_ble_eq_true rfl) d_Sink_closeBits_12 hP hD hS hl.1 [0, 1] [] [0] rfl rfl rfl rfl (by decide) rfl (fun H locs hP hD hS => ?_)
  have hP : va_P (dC, dI) classes (ws_Sink_closeBits h_t h_t_bytes k_t_bytes n_t_bytes r_12.2.1 t_bitStore t_bitsHeld r_12.2.2) H := hP.sub [0, 1] rfl
  have hD : va_D A (ws_Sink_closeBits h_t h_t_bytes k_t_bytes n_t_bytes r_12.2.1 t_bitStore t_bitsHeld r_12.2.2) := hD.sub [0, 1] (by decide) rfl
  show W p l e R s m _ below meth c H locs 0 0 _ (F0 m 15 ls [])
  exact w_Sink_closeBits_15 C hRc h H locs ls hP hD hS (lv_sub hl [0] rfl)
theorem cr_Sink_closeBits {l : Launch} (hfl : l.flags = flags0) (dC : Nat → ClassId) (dI : Nat → Nat → Nat) (h_t : Nat) (h_t_bytes : Nat) (k_t_bytes : ClassId) (n_t_bytes : Nat) (sz : Nat)  (t_filled : Int32) (t_bitStore : Int32) (t_bitsHeld : Int32) (a_t_bytes : Nat → Int32) {u : Unit × (Int32 × Int32 × Int32 × (Nat → Int32))} (h : f_Sink_closeBits n_t_bytes t_filled t_bitStore t_bitsHeld a_t_bytes = some (.inl u)) : MetX l y_Sink_closeBits (Cond.code y_Sink_closeBits b_Sink_closeBits 1 none :: lw_g) (rmx 7 131 0 0) (vx_Pre dC dI [(k_t_bytes, .byte)] [.ref h_t] sz (ws_Sink_closeBits h_t h_t_bytes k_t_bytes n_t_bytes t_filled t_bitStore t_bitsHeld a_t_bytes)) (vx_Q vl_v (.inl u) (fun u t => vx_B dC dI [(k_t_bytes, .byte)] (va_A (ws_Sink_closeBits h_t h_t_bytes k_t_bytes n_t_bytes t_filled t_bitStore t_bitsHeld a_t_bytes) sz) (w1_Sink_closeBits h_t h_t_bytes k_t_bytes n_t_bytes u) t) (va_A (ws_Sink_closeBits h_t h_t_bytes k_t_bytes n_t_bytes t_filled t_bitStore t_bitsHeld a_t_bytes) sz)) 0 0 (va_A (ws_Sink_closeBits h_t h_t_bytes k_t_bytes n_t_bytes t_filled t_bitStore t_bitsHeld a_t_bytes) sz) := dc_cr rfl (c_Sink_closeBits hfl dC dI h_t h_t_bytes k_t_bytes n_t_bytes sz t_filled t_bitStore t_bitsHeld a_t_bytes h)
theorem ct_Sink_closeBits {l : Launch} (hfl : l.flags = flags0) (dC : Nat → ClassId) (dI : Nat → Nat → Nat) (h_t : Nat) (h_t_bytes : Nat) (k_t_bytes : ClassId) (n_t_bytes : Nat) (sz : Nat)  (t_filled : Int32) (t_bitStore : Int32) (t_bitsHeld : Int32) (a_t_bytes : Nat → Int32) {u : Nat × (Int32 × Int32 × Int32 × (Nat → Int32))} (h : f_Sink_closeBits n_t_bytes t_filled t_bitStore t_bitsHeld a_t_bytes = some (.inr u)) : MetX l y_Sink_closeBits (Cond.code y_Sink_closeBits b_Sink_closeBits 1 none :: lw_g) (rmx 7 131 1 6) (vx_Pre dC dI [(k_t_bytes, .byte)] [.ref h_t] sz (ws_Sink_closeBits h_t h_t_bytes k_t_bytes n_t_bytes t_filled t_bitStore t_bitsHeld a_t_bytes)) (vx_Q vl_v (.inr u) (fun u t => vx_B dC dI [(k_t_bytes, .byte)] (va_A (ws_Sink_closeBits h_t h_t_bytes k_t_bytes n_t_bytes t_filled t_bitStore t_bitsHeld a_t_bytes) sz) (w1_Sink_closeBits h_t h_t_bytes k_t_bytes n_t_bytes u) t) (va_A (ws_Sink_closeBits h_t h_t_bytes k_t_bytes n_t_bytes t_filled t_bitStore t_bitsHeld a_t_bytes) sz)) 1 6 (va_A (ws_Sink_closeBits h_t h_t_bytes k_t_bytes n_t_bytes t_filled t_bitStore t_bitsHeld a_t_bytes) sz) := dc_ct rfl (c_Sink_closeBits hfl dC dI h_t h_t_bytes k_t_bytes n_t_bytes sz t_filled t_bitStore t_bitsHeld a_t_bytes h)
