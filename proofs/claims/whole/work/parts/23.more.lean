/-! words of methods with handlers; constructors over what the tables say of arrays -/
theorem ex_AO_ok {C : String} : exOk (fun _ U _ => va_AO C U) := ⟨fun _ _ _ _ hW h => va_AO.moved hW.alike h, fun _ _ _ _ _ h => h, fun _ _ _ _ _ h => h⟩
theorem vn_M.moved {kG kI : ClassId} {u U : State} (hvm : u.vm.Alike U.vm) (h : vn_M kG kI u) : vn_M kG kI U := by
  obtain ⟨k, hk, hkind⟩ := h
  obtain ⟨k', hk', he⟩ := hvm.2.2 _ _ hk
  exact ⟨k', hk', by rw [he]; exact hkind⟩
theorem ex_MM_ok {kG kI : ClassId} : exOk (fun _ U _ => vn_M kG kI U) := ⟨fun _ _ _ _ hW h => h.moved hW.alike, fun _ _ _ _ _ h => h, fun _ _ _ _ _ h => h⟩
section DN2
variable {p : Program} {l : Launch} {e : Env} {R : Room} {s : State} {m : MethodId} {args : Array Value} {below : List Frame} {meth : Method} {c : Code} {H : Heap} {locs : List Loc} {cells slots : Nat} {Q : State → Prop} {dC : Nat → ClassId} {dI : Nat → Nat → Nat} {A : Nat → Prop}
  {cc : ByteArray} {pc : Nat} {ls : Array Slot} {st0 rest : List Value} {tys tysc : List (ClassId × FieldType)} {ws wc wr : va_W} {own : String} {nL fr lo : Nat} {ret : Option FieldType}
  {y : MethodName} {bytes : ByteArray} {maxL idx fr' lo' n mc ms : Nat} {As : List Value} {Tu : Type} {w1 : Tu → va_W} {b : Nat}
theorem dn_callIE {ex : (Nat → Prop) → State → Heap → Prop} (hok : exOk ex) (hE : ex A s s.heap) (C : cx p l e R s m args meth c dC dI A own cc nL ret fr lo tys)
    (hM : Met l y (Cond.code y bytes maxL none :: lw_g) (rmx fr' lo' mc ms) (vx_PreE dC dI tysc (.ref b :: As) H.size wc ex) (va_Qv (fun _ : Tu => True) (fun u t => vx_B dC dI tysc (va_A wc H.size) (w1 u) t) (va_A wc H.size)) mc ms (va_A wc H.size))
    (hcw : Cond.code y bytes maxL none ∈ lw_g) (hini : Cond.initialized y.cls ∈ lw_g) (hl : Cond.methodLink own idx y ∈ lw_g) (hin : Cond.instanceMethod y ∈ lw_g) (hnm : y.name = "<init>")
    (hd : y.cls ≠ "java/lang/invoke/MethodHandle" ∧ y.cls ≠ "java/lang/invoke/VarHandle" ∧ (parseMethodDescriptor y.desc).map (fun d => d.parameters.length) = some n) (hR' : fr' + 1 ≤ fr ∧ 8 + (maxL + 11) + lo' ≤ lo)
    (hlen : As.length = n) (hst0 : st0 = As.reverse ++ .ref b :: rest) (hw : (rest.map fun v => v.category).sum ≤ 8) (hdg : decode cc pc = .ok (.invokespecial idx, 3)) (hcs : cells + mc ≤ R.cells ∧ slots + ms ≤ R.slots)
    (hP : va_P (dC, dI) classes ws H) (hD : va_D A ws) (hS : va_S A s.heap H locs) (hsz : ls.size = nL) (isC isR isT : List Nat) (hC : isC.map (fun i => ws[i]?) = wc.map some) (hnC : va_nd isC = true) (hR : isR.map (fun i => ws[i]?) = wr.map some) (hnR : va_nd isR = true) (hdis : ∀ i ∈ isR, i ∉ isC) (hT : isT.map (fun i => tys[i]?) = tysc.map some)
    (kk : ∀ (u : Tu) (H1 : Heap) (locs1 : List Loc), va_P (dC, dI) classes (wr ++ w1 u) H1 → va_D A (wr ++ w1 u) → va_S A s.heap H1 locs1 → W p l e R s m args below meth c H1 locs1 (cells + mc) (slots + ms) Q (F0 m (pc + 3) ls rest)) : W p l e R s m args below meth c H locs cells slots Q (F0 m pc ls st0) := by
  obtain ⟨hx, hb, hr, hml, hown, hts, hlk, hK, hA, hV, htr, hex, hF, hL, -⟩ := C
  have hlen2 : ∀ sig, parseMethodDescriptor y.desc = some sig → n = sig.parameters.length := fun sig h => by
    have h2 := hd.2.2
    rw [h] at h2
    exact (Option.some.inj h2).symm
  have run := va_runI (l := l) (e := e) (R := R) (below := below) (meth := meth) (locs := locs) (cells := cells) (slots := slots) (rest := rest) (b := b) (As := As) (g := F0 m pc ls st0) (⟨hx, hb, hml, hown, hts⟩ : CallFix p m c cc nL s args lw_g own) hM ⟨⟨rfl, rfl, Nat.le_trans hR'.1 hF, Nat.le_trans hR'.2 hL, pay_in hts (dc_good _ hcw), List.mem_cons_self, hts _ hcw, hts _ hini, ⟨hd.1, hd.2.1⟩, hlen2, hts _ hl⟩, hnm, hts _ hin⟩ (dc_preE hok hE hP hD hS hA hV hK isC isT hC hnC hT (.ref b :: As)) rfl hlen hsz hst0 (by show 2 * 0 + _ ≤ 8; omega) hdg hcs
  exact dn_back run hP hD hS hA isC isR hC hR hnR hdis kk
end DN2
theorem cwh_M_read : Cond.codeWith y_M_read b_M_read 4 (some .int) [(83, 123, 126, 97), (83, 123, 135, 118)] ∈ lw_g := lg_in8 (List.mem_of_getElem? (i := 156) rfl) rfl
theorem cwh_M_write : Cond.codeWith y_M_write b_M_write 5 (some .int) [(66, 99, 102, 97), (66, 99, 110, 118)] ∈ lw_g := lg_in9 (List.mem_of_getElem? (i := 141) rfl) rfl
theorem cwh_law_feed : Cond.codeWith y_law_feed b_law_feed 8 (some .int) [(0, 16, 19, 13)] ∈ lw_g := lg_in2 (List.mem_of_getElem? (i := 210) rfl) rfl
theorem cwh_law_end : Cond.codeWith y_law_end b_law_end 4 (some .int) [(0, 9, 12, 19)] ∈ lw_g := lg_in3 (List.mem_of_getElem? (i := 52) rfl) rfl
theorem cwh_law_patch : Cond.codeWith y_law_patch b_law_patch 5 (some .int) [(0, 7, 10, 19)] ∈ lw_g := lg_in3 (List.mem_of_getElem? (i := 79) rfl) rfl
theorem cwh_law_read : Cond.codeWith y_law_read b_law_read 4 (some .int) [(0, 9, 12, 19), (0, 9, 15, 28), (0, 9, 18, 13)] ∈ lw_g := lg_in3 (List.mem_of_getElem? (i := 86) rfl) rfl
theorem cwh_law_write : Cond.codeWith y_law_write b_law_write 6 (some .int) [(0, 12, 15, 19), (0, 12, 19, 34), (0, 12, 23, 28), (0, 12, 27, 13)] ∈ lw_g := lg_in6 (List.mem_of_getElem? (i := 86) rfl) rfl
theorem cwh_law_make : Cond.codeWith y_law_make b_law_make 6 (some .int) [(0, 9, 12, 19)] ∈ lw_g := lg_in7 (List.mem_of_getElem? (i := 152) rfl) rfl
theorem cwh_law_set : Cond.codeWith y_law_set b_law_set 7 (some .int) [(0, 14, 17, 19), (0, 14, 21, 34)] ∈ lw_g := lg_in7 (List.mem_of_getElem? (i := 163) rfl) rfl
theorem cwh_law_get : Cond.codeWith y_law_get b_law_get 6 (some .int) [(0, 12, 15, 19), (0, 12, 19, 34)] ∈ lw_g := lg_in7 (List.mem_of_getElem? (i := 174) rfl) rfl
theorem cwh_law_paint : Cond.codeWith y_law_paint b_law_paint 6 (some .int) [(0, 9, 12, 19), (0, 9, 16, 34)] ∈ lw_g := lg_in7 (List.mem_of_getElem? (i := 181) rfl) rfl
theorem cwh_law_hash : Cond.codeWith y_law_hash b_law_hash 4 (some .int) [(0, 9, 12, 19), (0, 9, 15, 34)] ∈ lw_g := lg_in7 (List.mem_of_getElem? (i := 189) rfl) rfl
theorem cwh_law_size : Cond.codeWith y_law_size b_law_size 5 (some .int) [(0, 10, 13, 19), (0, 10, 17, 34)] ∈ lw_g := lg_in7 (List.mem_of_getElem? (i := 196) rfl) rfl
theorem cwh_law_word : Cond.codeWith y_law_word b_law_word 4 (some .int) [(0, 8, 11, 13)] ∈ lw_g := lg_in7 (List.mem_of_getElem? (i := 203) rfl) rfl
theorem cwh_law_count : Cond.codeWith y_law_count b_law_count 4 (some .int) [(0, 9, 12, 19)] ∈ lw_g := lg_in7 (List.mem_of_getElem? (i := 212) rfl) rfl
abbrev b_law_law : ByteArray := code
