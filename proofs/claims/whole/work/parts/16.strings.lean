/-! String constants: rows, names of the JDK's methods -/
def ex_P : (Nat → Prop) → State → Heap → Prop := fun A U H => vs_P A U H
theorem ex_P_ok : exOk ex_P := ⟨fun _ _ _ _ hW h => h.moved hW.alike, fun _ _ _ _ hq h => h.kept hq, fun _ _ _ _ hAB h => h.narrow hAB⟩
def ex_B (t N : Nat) (f : Nat → Int32) : (Nat → Prop) → State → Heap → Prop := fun A U H => va_T .byte t N (fun j => .int (f j)) A U H ∧ vs_P A U H
theorem ex_B_ok {t N : Nat} {f : Nat → Int32} : exOk (ex_B t N f) := ⟨fun _ _ _ _ hW h => ⟨h.1.moved hW.alike, h.2.moved hW.alike⟩, fun _ _ _ _ hq h => ⟨h.1.kept hq, h.2.kept hq⟩, fun _ _ _ _ hAB h => ⟨h.1.narrow hAB, h.2.narrow hAB⟩⟩
theorem dc_narC {v : Int32} (h : vp_nar .char v = v) : narrow .char (.int v) = .int v := by
  have e : narrow .char (.int v) = .int (vp_nar .char v) := rfl
  rw [e, h]
theorem dc_narB {v : Int32} (h : vp_nar .byte v = v) : narrow .byte (.int v) = .int v := by
  have e : narrow .byte (.int v) = .int (vp_nar .byte v) := rfl
  rw [e, h]
section DS0
variable {p : Program} {l : Launch} {e : Env} {R : Room} {s : State} {m : MethodId} {args : Array Value} {below : List Frame} {meth : Method} {c : Code} {H : Heap} {locs : List Loc} {cells slots : Nat} {Q : State → Prop} {cc : ByteArray} {pc : Nat} {ls : Array Slot} {rest : List Value}
theorem va_ldcwS (hexec : p.tables.exec = Jvm.exec) (hb : c.code = cc) {own tx : String} {index q : Nat} (hown : s.vm.findClass own = some m.cls) (hZ : vk_R own index tx q s) (hdg : decode cc pc = .ok (.ldc_w index, 3))
    (k : W p l e R s m args below meth c H locs cells slots Q (F0 m (pc + 3) ls (.ref q :: rest))) : W p l e R s m args below meth c H locs cells slots Q (F0 m pc ls rest) := by
  intro T hT X
  obtain ⟨t, a1, b1⟩ := k T hT X
  exact ⟨t, X.ldcStringW hexec hown (text := tx) (a := q) hZ.1 hZ.2 (g := F0 m pc ls rest) rfl (by rw [hb]; exact hdg) t a1, b1⟩
end DS0
section DS1
variable {p : Program} {l : Launch} {e : Env} {R : Room} {s : State} {m : MethodId} {args : Array Value} {below : List Frame} {meth : Method} {c : Code} {H : Heap} {locs : List Loc} {Q : State → Prop} {dC : Nat → ClassId} {dI : Nat → Nat → Nat} {A : Nat → Prop}
  {cc : ByteArray} {pc : Nat} {ls : Array Slot} {st0 rest : List Value} {tys tysc : List (ClassId × FieldType)} {ws wc wr : va_W} {own : String} {nL fr lo : Nat} {ret : Option FieldType}
  {y : MethodName} {bytes : ByteArray} {maxL idx fr' lo' n : Nat} {ret' : Option FieldType} {As : List Value} {ρ S : Type} {val : ρ → Option Value} {w1 : S → va_W} {ex : (Nat → Prop) → State → Heap → Prop}
theorem dc_nret {ty : FieldType} (C : cx p l e R s m args meth c dC dI A own cc nL (some ty) fr lo tys) {v : Int32} {u : S} (hv : narrow ty (.int v) = .int v) (hP : va_P (dC, dI) classes (w1 u) H) (hD : va_D A (w1 u)) (hS : va_S A s.heap H locs) (hdg : decode cc pc = .ok (.ireturn, 1)) :
    W p l e R s m args below meth c H locs 0 0 (XQ below (vx_Q vl_i (.inl (v, u)) (fun u t => vx_B dC dI tys A (w1 u) t) A) args s 0 0 A) (F0 m pc ls [.int v]) := by
  obtain ⟨hx, hb, hr, -, -, -, hlk, hK, -⟩ := C
  exact W.mono (fun _ => vx_ofMQ) (W.zret (v := v) hx hb hr hv (fun t ht hW => ⟨⟨rfl, by rw [ht]; exact hP, va_K.moved hW.alike hK, hD⟩, hS.F ht⟩) hS.2.2 hdg hlk)
theorem dc_callVX (hok : exOk ex) (hE : ex A s s.heap) (C : cx p l e R s m args meth c dC dI A own cc nL ret fr lo tys) {o : ρ × S}
    (hcw : Cond.code y bytes maxL ret' ∈ lw_g) (hini : Cond.initialized y.cls ∈ lw_g) (hl : Cond.methodLink own idx y ∈ lw_g) (hin : Cond.instanceMethod y ∈ lw_g) (hse : Cond.selects y.cls y y ∈ lw_g) {b : Nat} (hrv : va_O y.cls b A s s.heap)
    (hM : MetX l y (Cond.code y bytes maxL ret' :: lw_g) (rmx fr' lo' 0 0) (vx_PreE dC dI tysc (.ref b :: As) H.size wc ex) (vx_Q val (.inl o) (fun u t => vx_B dC dI tysc (va_A wc H.size) (w1 u) t) (va_A wc H.size)) 0 0 (va_A wc H.size))
    (hd : y.cls ≠ "java/lang/invoke/MethodHandle" ∧ y.cls ≠ "java/lang/invoke/VarHandle" ∧ (parseMethodDescriptor y.desc).map (fun d => d.parameters.length) = some n) (hR' : fr' + 1 ≤ fr ∧ 8 + (maxL + 11) + lo' ≤ lo)
    (hlen : As.length = n) (hst0 : st0 = As.reverse ++ .ref b :: rest) (hw : (rest.map fun v => v.category).sum ≤ 8) (hdg : decode cc pc = .ok (.invokevirtual idx, 3))
    (hP : va_P (dC, dI) classes ws H) (hD : va_D A ws) (hS : va_S A s.heap H locs) (hsz : ls.size = nL) (isC isR isT : List Nat) (hC : isC.map (fun i => ws[i]?) = wc.map some) (hnC : va_nd isC = true) (hR : isR.map (fun i => ws[i]?) = wr.map some) (hnR : va_nd isR = true) (hdis : ∀ i ∈ isR, i ∉ isC) (hT : isT.map (fun i => tys[i]?) = tysc.map some)
    (kk : ∀ (H1 : Heap) (locs1 : List Loc), va_P (dC, dI) classes (wr ++ w1 o.2) H1 → va_D A (wr ++ w1 o.2) → va_S A s.heap H1 locs1 → W p l e R s m args below meth c H1 locs1 0 0 Q (F0 m (pc + 3) ls ((val o.1).toList ++ rest))) : W p l e R s m args below meth c H locs 0 0 Q (F0 m pc ls st0) := by
  obtain ⟨hx, hb, hr, hml, hown, hts, hlk, hK, hA, hV, htr, hex, hF, hL, -⟩ := C
  have hlen2 : ∀ sig, parseMethodDescriptor y.desc = some sig → n = sig.parameters.length := fun sig h => by
    have h2 := hd.2.2
    rw [h] at h2
    exact (Option.some.inj h2).symm
  have run := va_runV (l := l) (e := e) (R := R) (below := below) (meth := meth) (locs := locs) (cells := 0) (slots := 0) (rest := rest) (g := F0 m pc ls st0) (⟨hx, hb, hml, hown, hts⟩ : CallFix p m c cc nL s args lw_g own) (dc_met hM) ⟨⟨rfl, rfl, Nat.le_trans hR'.1 hF, Nat.le_trans hR'.2 hL, pay_in hts (dc_good _ hcw), List.mem_cons_self, hts _ hcw, hts _ hini, ⟨hd.1, hd.2.1⟩, hlen2, hts _ hl⟩, hts _ hin, hts _ hse⟩ (⟨(dc_preE hok hE hP hD hS hA hV hK isC isT hC hnC hT (.ref b :: As)).1, va_Orecv hrv hS, (dc_preE hok hE hP hD hS hA hV hK isC isT hC hnC hT (.ref b :: As)).2⟩) rfl hlen hsz hst0 (by show 2 * 0 + _ ≤ 8; omega) hdg ⟨Nat.zero_le _, Nat.zero_le _⟩
  exact dc_back (mc := 0) (ms := 0) run hP hD hS hA isC isR hC hR hnR hdis kk
end DS1
def str_GifWriter_120 : Nat → Int32 := fun j => ([71, 73, 70, 56, 57, 97] : List Int32).getD j 0
def str_BmpFiles_185 : Nat → Int32 := fun j => ([66, 77] : List Int32).getD j 0
def str_M_146 : Nat → Int32 := fun j => ([73, 72, 68, 82] : List Int32).getD j 0
def str_M_184 : Nat → Int32 := fun j => ([73, 68, 65, 84] : List Int32).getD j 0
def str_M_190 : Nat → Int32 := fun j => ([80, 76, 84, 69] : List Int32).getD j 0
def str_M_196 : Nat → Int32 := fun j => ([116, 82, 78, 83] : List Int32).getD j 0
def str_M_202 : Nat → Int32 := fun j => ([73, 69, 78, 68] : List Int32).getD j 0
def str_M_324 : Nat → Int32 := fun j => ([71, 73, 70, 56] : List Int32).getD j 0
def str_M_435 : Nat → Int32 := fun j => ([71, 73, 70, 56, 57, 97] : List Int32).getD j 0
def R_java_lang_String : String := "java/lang/String"
def R_java_lang_StringLatin1 : String := "java/lang/StringLatin1"
def R_jdk_internal_util_Preconditions : String := "jdk/internal/util/Preconditions"
abbrev b_java_lang_String_lengthT : ByteArray := prog_26_method_54_code
def y_java_lang_String_lengthT : MethodName := ⟨R_java_lang_String, "length", "()I"⟩
theorem cw_java_lang_String_lengthT : Cond.code y_java_lang_String_lengthT b_java_lang_String_lengthT 1 (some .int) ∈ lw_g := (lg_in4 (List.mem_of_getElem? (i := 180) rfl) rfl)
abbrev b_java_lang_String_charAtT : ByteArray := prog_26_method_56_code
def y_java_lang_String_charAtT : MethodName := ⟨R_java_lang_String, "charAt", "(I)C"⟩
theorem cw_java_lang_String_charAtT : Cond.code y_java_lang_String_charAtT b_java_lang_String_charAtT 2 (some .char) ∈ lw_g := (lg_in7 (List.mem_of_getElem? (i := 28) rfl) rfl)
abbrev b_java_lang_String_coderT : ByteArray := prog_26_method_152_code
def y_java_lang_String_coderT : MethodName := ⟨R_java_lang_String, "coder", "()B"⟩
theorem cw_java_lang_String_coderT : Cond.code y_java_lang_String_coderT b_java_lang_String_coderT 1 (some .byte) ∈ lw_g := (lg_in4 (List.mem_of_getElem? (i := 184) rfl) rfl)
abbrev b_java_lang_String_isLatin1T : ByteArray := prog_26_method_154_code
def y_java_lang_String_isLatin1T : MethodName := ⟨R_java_lang_String, "isLatin1", "()Z"⟩
theorem cw_java_lang_String_isLatin1T : Cond.code y_java_lang_String_isLatin1T b_java_lang_String_isLatin1T 1 (some .boolean) ∈ lw_g := (lg_in7 (List.mem_of_getElem? (i := 32) rfl) rfl)
abbrev b_java_lang_String_checkIndexT : ByteArray := prog_26_method_155_code
def y_java_lang_String_checkIndexT : MethodName := ⟨R_java_lang_String, "checkIndex", "(II)V"⟩
theorem cw_java_lang_String_checkIndexT : Cond.code y_java_lang_String_checkIndexT b_java_lang_String_checkIndexT 2 none ∈ lw_g := (lg_in7 (List.mem_of_getElem? (i := 38) rfl) rfl)
abbrev b_java_lang_StringLatin1_charAtT : ByteArray := prog_28_method_2_code
def y_java_lang_StringLatin1_charAtT : MethodName := ⟨R_java_lang_StringLatin1, "charAt", "([BI)C"⟩
theorem cw_java_lang_StringLatin1_charAtT : Cond.code y_java_lang_StringLatin1_charAtT b_java_lang_StringLatin1_charAtT 2 (some .char) ∈ lw_g := (lg_in7 (List.mem_of_getElem? (i := 35) rfl) rfl)
abbrev b_jdk_internal_util_Preconditions_checkIndex : ByteArray := prog_35_method_11_code
def y_jdk_internal_util_Preconditions_checkIndex : MethodName := ⟨R_jdk_internal_util_Preconditions, "checkIndex", "(IILjava/util/function/BiFunction;)I"⟩
theorem cw_jdk_internal_util_Preconditions_checkIndex : Cond.code y_jdk_internal_util_Preconditions_checkIndex b_jdk_internal_util_Preconditions_checkIndex 3 (some .int) ∈ lw_g := (lg_in7 (List.mem_of_getElem? (i := 41) rfl) rfl)
abbrev b_Sink_putTextT : ByteArray := b_Sink_putText
abbrev y_Sink_putTextT : MethodName := y_Sink_putText
theorem cw_Sink_putTextT : Cond.code y_Sink_putTextT b_Sink_putTextT 3 none ∈ lw_g := cw_Sink_putText
abbrev b_M_namedT : ByteArray := b_M_named
abbrev y_M_namedT : MethodName := y_M_named
theorem cw_M_namedT : Cond.code y_M_namedT b_M_namedT 4 (some .boolean) ∈ lw_g := cw_M_named
abbrev b_M_openT : ByteArray := b_M_open
abbrev y_M_openT : MethodName := y_M_open
theorem cw_M_openT : Cond.code y_M_openT b_M_openT 3 (some .int) ∈ lw_g := cw_M_open
