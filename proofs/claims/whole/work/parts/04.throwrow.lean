/-! 'throw new E("..")' and 'throw new E()' as one row -/
def vx_cls (k : Nat) : String := match k with
  | 1 => "java/lang/IllegalArgumentException"
  | 2 => "java/lang/IllegalStateException"
  | 3 => "java/lang/UnsupportedOperationException"
  | _ => "java/lang/IndexOutOfBoundsException"
abbrev vx_up : List String := ["java/lang/RuntimeException", "java/lang/Exception"]
/-- x is an exception of the k-th kind -/
def vx_X (k : Nat) (x : Addr) (t : State) : Prop := ∃ cell : Cell, t.heap[x]? = some cell ∧ cell.vm = .none ∧ t.vm.findClass (vx_cls k) = some cell.cls
/-- words of the tables that stay true under warmer tables, though the kit's 'good' words are others -/
def vx_nw : List Cond := [
  (Cond.methodLinkNest "PictureDesk" (36 : Nat) ({ cls := "PictureDesk$Picture", name := "<init>", desc := "()V" } : MethodName) "PictureDesk"),
  (Cond.methodLinkNest "PictureDesk" (55 : Nat) ({ cls := "PictureDesk$ColourTable", name := "<init>", desc := "()V" } : MethodName) "PictureDesk"),
  (Cond.castable "java/lang/IndexOutOfBoundsException" "java/lang/IndexOutOfBoundsException"),
  (Cond.declares ({ cls := "java/lang/RuntimeException", name := "<init>", desc := "()V" } : MethodName)),
  (Cond.declares ({ cls := "java/lang/RuntimeException", name := "<init>", desc := "(Ljava/lang/String;)V" } : MethodName)),
  (Cond.declares ({ cls := "java/lang/Exception", name := "<init>", desc := "()V" } : MethodName)),
  (Cond.declares ({ cls := "java/lang/Exception", name := "<init>", desc := "(Ljava/lang/String;)V" } : MethodName)),
  (Cond.declares ({ cls := "java/lang/Throwable", name := "<init>", desc := "()V" } : MethodName)),
  (Cond.declares ({ cls := "java/lang/Throwable", name := "<init>", desc := "(Ljava/lang/String;)V" } : MethodName)),
  (Cond.castable "java/lang/IllegalArgumentException" "java/lang/IllegalArgumentException"),
  (Cond.castable "java/lang/UnsupportedOperationException" "java/lang/UnsupportedOperationException"),
  (Cond.methodLinkNest "PictureDesk$PngReader" (73 : Nat) ({ cls := "PictureDesk", name := "need", desc := "(Z)V" } : MethodName) "PictureDesk"),
  (Cond.methodLinkNest "PictureDesk$Source" (55 : Nat) ({ cls := "PictureDesk", name := "need", desc := "(Z)V" } : MethodName) "PictureDesk"),
  (Cond.methodLinkNest "PictureDesk$Source" (70 : Nat) ({ cls := "PictureDesk", name := "crcOf", desc := "([BII)I" } : MethodName) "PictureDesk"),
  (Cond.methodLinkNest "PictureDesk$Inflater" (43 : Nat) ({ cls := "PictureDesk", name := "need", desc := "(Z)V" } : MethodName) "PictureDesk"),
  (Cond.methodLinkNest "PictureDesk$Codes" (32 : Nat) ({ cls := "PictureDesk", name := "need", desc := "(Z)V" } : MethodName) "PictureDesk"),
  (Cond.methodLinkNest "PictureDesk$Inflater" (78 : Nat) ({ cls := "PictureDesk", name := "adlerOf", desc := "([BI)I" } : MethodName) "PictureDesk"),
  (Cond.methodLinkNest "PictureDesk$GifReader" (76 : Nat) ({ cls := "PictureDesk", name := "need", desc := "(Z)V" } : MethodName) "PictureDesk"),
  (Cond.methodLinkNest "PictureDesk$BmpFiles" (59 : Nat) ({ cls := "PictureDesk", name := "need", desc := "(Z)V" } : MethodName) "PictureDesk"),
  (Cond.castable "java/lang/IllegalStateException" "java/lang/IllegalStateException"),
  (Cond.methodLinkNest "PictureDesk$Sink" (63 : Nat) ({ cls := "PictureDesk", name := "crcOf", desc := "([BII)I" } : MethodName) "PictureDesk"),
  (Cond.methodLinkNest "PictureDesk$PngWriter" (138 : Nat) ({ cls := "PictureDesk", name := "adlerOf", desc := "([BI)I" } : MethodName) "PictureDesk"),
  (Cond.methodLinkNest "PictureDeskModel" (47 : Nat) ({ cls := "PictureDeskModel$Codes", name := "<init>", desc := "()V" } : MethodName) "PictureDeskModel"),
  (Cond.fieldLinkNest "PictureDeskModel" (221 : Nat) "PictureDeskModel$Codes" "counts" "[I" "PictureDeskModel"),
  (Cond.fieldLinkNest "PictureDeskModel" (224 : Nat) "PictureDeskModel$Codes" "meanings" "[I" "PictureDeskModel"),
  (Cond.fieldLinkNest "PictureDeskModel" (238 : Nat) "PictureDeskModel$Codes" "all" "I" "PictureDeskModel"),
  (Cond.castable "java/lang/ArrayIndexOutOfBoundsException" "java/lang/IndexOutOfBoundsException")]
def vx_nwk (w : Cond) : Bool := match w with
  | .declares _ => true
  | .castable _ _ => true
  | .methodLinkNest _ _ _ _ => true
  | .fieldLinkNest _ _ _ _ _ _ => true
  | _ => false
theorem vx_nwk_all : vx_nw.all vx_nwk = true := by decide +kernel
theorem vx_nwk_warm {w : Cond} (hw : vx_nwk w = true) {s U : State} (hW : s.WarmedH U.vm) (h : va_Nw w s) : va_Nw w U := by
  cases w <;> simp [vx_nwk] at hw
  · exact va_Nw.warmM hW h
  · exact va_Nw.warmF hW h
  · exact va_Nw.warmD hW h
  · exact va_Nw.warmC hW h
theorem vx_nwk_tab {w : Cond} (hw : vx_nwk w = true) : w.onTables = true := by
  cases w <;> simp [vx_nwk] at hw <;> rfl
/-- a static that holds a reference or null, and lies where the class lays it -/
def vs_L (C n d : String) (A : Nat → Prop) (U : State) (H : Heap) : Prop := ∃ (c : ClassId) (k : Class) (i : Nat) (f : Field) (a : Nat) (cell : Cell) (v : Value), U.vm.findClass C = some c ∧ U.fieldFound? C n d = some (c, k, i, f) ∧ f.isStatic = true ∧ k.statics = some a ∧ k.staticTypes[f.slot]? = some f.type ∧ H[a]? = some cell ∧ cell.vm.isStatics = true ∧ cell.cls = c ∧ f.slot < cell.slots.size ∧ cell.slots[f.slot]? = some v ∧ v.isRef = true ∧ ¬ A a
theorem vs_L.moved {C n d : String} {A : Nat → Prop} {u U : State} {H : Heap} (hvm : u.vm.Alike U.vm) (h : vs_L C n d A u H) : vs_L C n d A U H := by
  obtain ⟨c, k, i, f, a, cell, v, h1, h2, h3, h4, h5, h6⟩ := h
  obtain ⟨k', hi', he⟩ := State.fieldFound?_setVm hvm h2
  exact ⟨c, k', i, f, a, cell, v, by first | (rw [← hvm.findClass]; exact h1) | (rw [hvm.findClass]; exact h1), hi', h3, by rw [he]; exact h4, by rw [he]; exact h5, h6⟩
theorem vs_L.kept {C n d : String} {A : Nat → Prop} {U : State} {H H1 : Heap} (h : vs_L C n d A U H) (hq : ∀ a : Nat, a < H.size → ¬ A a → H1[a]? = H[a]?) : vs_L C n d A U H1 := by
  obtain ⟨c, k, i, f, a, cell, v, h1, h2, h3, h4, h5, h6, h7, h8, h9, h10, h11, h12⟩ := h
  exact ⟨c, k, i, f, a, cell, v, h1, h2, h3, h4, h5, by rw [hq a (Array.getElem?_eq_some_iff.mp h6).1 h12]; exact h6, h7, h8, h9, h10, h11, h12⟩
theorem vs_L.narrow {C n d : String} {A B : Nat → Prop} {U : State} {H : Heap} (h : vs_L C n d A U H) (hAB : ∀ q, B q → A q) : vs_L C n d B U H := by
  obtain ⟨c, k, i, f, a, cell, v, h1, h2, h3, h4, h5, h6, h7, h8, h9, h10, h11, h12⟩ := h
  exact ⟨c, k, i, f, a, cell, v, h1, h2, h3, h4, h5, h6, h7, h8, h9, h10, h11, fun z => h12 (hAB a z)⟩
theorem vs_L.of {args : Array Value} {s : State} {C n d : String} {A : Nat → Prop} (hl : (Cond.laysStatic C n d).before args s = true) (hr : (Cond.isRef (.static C n d)).before args s = true) (hA : ∀ a : Nat, a < s.heap.size → ¬ A a) : vs_L C n d A s s.heap := by
  obtain ⟨c, k, i, f, a, cell, hc, hi, hst, ha, hcell, hs, hcls, hlt, hty⟩ := Cond.laysStatic_spec hl
  obtain ⟨u, hu⟩ := Cond.staticRefV hi hst ha hcell hs hr
  exact ⟨c, k, i, f, a, cell, u.v, hc, hi, hst, ha, hty, hcell, hs, hcls, hlt, hu, u.2, hA a (Array.getElem?_eq_some_iff.mp hcell).1⟩
theorem vs_L.isRef {C n d : String} {A : Nat → Prop} {U : State} {args : Array Value} (h : vs_L C n d A U U.heap) : (Cond.isRef (.static C n d)).before args U = true := by
  obtain ⟨c, k, i, f, a, cell, v, h1, h2, h3, h4, h5, h6, h7, h8, h9, h10, h11, -⟩ := h
  have he : (Term.static C n d).eval args U none [] U = some v := by
    simp [Term.eval, State.fieldNamed?, h2, h3, h4, h6, h7, h10]
  show (Cond.isRef (.static C n d)).holds args U none U [] = true
  simp only [Cond.holds, Cond.value]
  rw [he]
  cases v <;> simp_all [Value.isRef]
theorem vs_L.lays {C n d : String} {A : Nat → Prop} {U : State} {args : Array Value} (h : vs_L C n d A U U.heap) : (Cond.laysStatic C n d).before args U = true := by
  obtain ⟨c, k, i, f, a, cell, v, h1, h2, h3, h4, h5, h6, h7, h8, h9, h10, h11, -⟩ := h
  simp [Cond.before, Cond.holds, Cond.value, h1, h2, h3, h4, h5, h6, h7, h8, h9]
/-- the String constants of the classes -/
def vx_sr : List (String × Nat × String) := [("PictureDesk", 100, "the tape is full"), ("PictureDesk", 203, "a number is out of range"), ("PictureDesk", 216, "the file is broken"), ("PictureDesk$Source", 46, "the file ends too early"), ("PictureDesk$Picture", 26, "too many points"), ("PictureDesk$Codes", 46, "no such code"), ("PictureDesk$Inflater", 124, "more bytes than are due"), ("PictureDesk$GifReader", 144, "no end of the codes"), ("PictureDesk", 208, "the slot holds no image"), ("PictureDesk$Sink", 37, "the result would be too long"), ("PictureDesk$ColourTable", 37, "more than 256 colours"), ("PictureDesk$GifWriter", 120, "GIF89a"), ("PictureDesk$BmpFiles", 185, "BM"), ("PictureDesk", 192, "no byte of the result"), ("PictureDeskModel", 146, "IHDR"), ("PictureDeskModel", 184, "IDAT"), ("PictureDeskModel", 190, "PLTE"), ("PictureDeskModel", 196, "tRNS"), ("PictureDeskModel", 202, "IEND"), ("PictureDeskModel", 324, "GIF8"), ("PictureDeskModel", 435, "GIF89a")]
/-- what a throw needs beside the good words: Throwable's two statics, and the words vx_nw -/
def vs_T (A : Nat → Prop) (U : State) (H : Heap) : Prop := vs_L "java/lang/Throwable" "UNASSIGNED_STACK" "[Ljava/lang/StackTraceElement;" A U H ∧ vs_L "java/lang/Throwable" "SUPPRESSED_SENTINEL" "Ljava/util/List;" A U H ∧ (∀ w ∈ vx_nw, va_Nw w U) ∧ ∀ q ∈ vx_sr, ∃ a, vk_R q.1 q.2.1 q.2.2 a U
theorem vs_T.moved {A : Nat → Prop} {u U : State} {H : Heap} (hW : u.WarmedH U.vm) (h : vs_T A u H) : vs_T A U H := ⟨h.1.moved hW.alike, h.2.1.moved hW.alike, fun w hw => vx_nwk_warm (List.all_eq_true.mp vx_nwk_all w hw) hW (h.2.2.1 w hw), fun q hq => by obtain ⟨a, ha⟩ := h.2.2.2 q hq; exact ⟨a, ha.warm hW⟩⟩
theorem vs_T.kept {A : Nat → Prop} {U : State} {H H1 : Heap} (h : vs_T A U H) (hq : ∀ a : Nat, a < H.size → ¬ A a → H1[a]? = H[a]?) : vs_T A U H1 := ⟨h.1.kept hq, h.2.1.kept hq, h.2.2⟩
theorem vs_T.narrow {A B : Nat → Prop} {U : State} {H : Heap} (h : vs_T A U H) (hAB : ∀ q, B q → A q) : vs_T B U H := ⟨h.1.narrow hAB, h.2.1.narrow hAB, h.2.2⟩
/-- the tables' good words -/
def lw_g : List Cond := lw_tbl.filter goodWord
theorem lg_mem {w : Cond} (i : Nat) (h : tables_1[i]? = some w) (hg : goodWord w = true) : w ∈ lw_g := List.mem_filter.mpr ⟨List.mem_append_right _ (List.mem_of_getElem? h), hg⟩
theorem lg_memS {w : Cond} (h : w ∈ k2_sels lw_privs) (hg : goodWord w = true) : w ∈ lw_g := List.mem_filter.mpr ⟨List.mem_append_left _ h, hg⟩
/-- a word that a throw needs: a good one of the tables', one of vx_nw, or on Throwable's statics -/
def vx_okw (w : Cond) : Prop := (w ∈ tables_1 ∧ goodWord w = true) ∨ w ∈ vx_nw ∨ w = .isRef (.static Bundle.tN "UNASSIGNED_STACK" Bundle.steD) ∨ w = .isRef (.static Bundle.tN "SUPPRESSED_SENTINEL" Bundle.listD) ∨ w = .laysStatic Bundle.tN "UNASSIGNED_STACK" Bundle.steD ∨ w = .laysStatic Bundle.tN "SUPPRESSED_SENTINEL" Bundle.listD
def vx_okb (w : Cond) : Bool := (decide (w ∈ tables_1) && goodWord w) || decide (w ∈ vx_nw) || decide (w = .isRef (.static Bundle.tN "UNASSIGNED_STACK" Bundle.steD)) || decide (w = .isRef (.static Bundle.tN "SUPPRESSED_SENTINEL" Bundle.listD)) || decide (w = .laysStatic Bundle.tN "UNASSIGNED_STACK" Bundle.steD) || decide (w = .laysStatic Bundle.tN "SUPPRESSED_SENTINEL" Bundle.listD)
theorem vx_okb_ok {ws : List Cond} (h : ws.all vx_okb = true) : ∀ w ∈ ws, vx_okw w := by
  intro w hw
  have h1 := List.all_eq_true.mp h w hw
  simp only [vx_okb, Bool.or_eq_true, Bool.and_eq_true, decide_eq_true_eq] at h1
  unfold vx_okw
  rcases h1 with ((((h1 | h1) | h1) | h1) | h1) | h1
  · exact Or.inl h1
  · exact Or.inr (Or.inl h1)
  · exact Or.inr (Or.inr (Or.inl h1))
  · exact Or.inr (Or.inr (Or.inr (Or.inl h1)))
  · exact Or.inr (Or.inr (Or.inr (Or.inr (Or.inl h1))))
  · exact Or.inr (Or.inr (Or.inr (Or.inr (Or.inr h1))))
theorem vx_atoms {args : Array Value} {s T : State} {A : Nat → Prop} {ws : List Cond} (htb : ∀ w ∈ lw_g, w.before args s = true) (hat : ∀ w ∈ ws, vx_okw w) (hV : vs_T A s T.heap) : ∀ w ∈ ws, w.before args (vx_reb s T) = true := by
  intro w hw
  have hVr : vs_T A (vx_reb s T) (vx_reb s T).heap := hV.moved (u := s) (U := vx_reb s T) (State.WarmedH.refl s)
  rcases hat w hw with ⟨h1, h2⟩ | h1 | rfl | rfl | rfl | rfl
  · exact word_at (s := s) (U := vx_reb s T) (State.WarmedH.refl s) (good_of_word h2) (htb w (List.mem_filter.mpr ⟨List.mem_append_right _ h1, h2⟩))
  · exact va_Nw.use (vx_nwk_tab (List.all_eq_true.mp vx_nwk_all w h1)) (hVr.2.2.1 w h1)
  · exact hVr.1.isRef
  · exact hVr.2.1.isRef
  · exact hVr.1.lays
  · exact hVr.2.1.lays
theorem vx_str {args : Array Value} {s : State} {own tx : String} {i : Nat} {cur : ClassId} (hcur : s.vm.findClass own = some cur) (h : (Cond.stringRef own i tx).before args s = true) : ∃ q, vk_R own i tx q s := by
  obtain ⟨k, cf, j, a, -, -, -, -, -, hev⟩ := Cond.stringRef_spec hcur h
  exact ⟨a, vk_R.of h hev⟩
section VX6
variable {p : Program} {l : Launch} {e : Env} {R : Room} {s : State} {m : MethodId} {args : Array Value} {below : List Frame} {meth : Method} {c : Code} {H : Heap} {locs : List Loc} {cells slots : Nat} {Q : State → Prop}
  {cc : ByteArray} {pc : Nat} {ls : Array Slot} {rest : List Value} {A : Nat → Prop} {Qc : Array Value → State → Outcome → State → Prop} {free : Addr → Prop}
/-- the end of a throw, seen from the rebased invocation -/
def vx_End (s T : State) (below : List Frame) (k : Nat) (t : State) : Prop := t.status = .running ∧ ∃ x, Ended t below (.threw x) ∧ (vx_reb s T).WarmedH t.vm ∧ (vx_reb s T).sameButNew ({ t with vm := (vx_reb s T).vm } : State) [] 1 6 ∧ T.heap.size ≤ x ∧ vx_X k x t
theorem vx_out (hce : cells + 1 ≤ R.cells) (hsl : slots + 6 ≤ R.slots) (k : Nat) (hf : ∀ q ∈ locs, free q.base)
    (hq : ∀ (x : Addr) (t : State), vx_X k x t → H.size ≤ x → (∀ j : Nat, j < H.size → t.heap[j]? = H[j]?) → H.size ≤ t.heap.size → s.WarmedH t.vm → Qc args s (.threw x) t)
    (kk : ∀ T : State, T.heap = H → W p l e ({ frames := R.frames, cells := 1, slots := 6, locals := R.locals } : Room) (vx_reb s T) m args below meth c H [] 0 0 (vx_End s T below k) (F0 m pc ls rest)) :
    W p l e R s m args below meth c H locs cells slots (XQ below Qc args s (cells + 1) (slots + 6) free) (F0 m pc ls rest) := by
  intro T hT X
  obtain ⟨t, st, hrun, x, hend, hW, hsame, hnew, hX⟩ := kk T hT T hT (vx_rebStand X (Nat.le_refl _) (Nat.le_refl _) hce hsl)
  have hs2 := vx_rebSame X hsame
  rw [List.append_nil] at hs2
  refine ⟨t, st, .threw x, hrun, hend, hq x t hX (by rw [← hT]; exact hnew) (fun j hj => ?_) ?_ hW, locs, ⟨hW, hs2⟩, hf⟩
  · subst hT
    have hc : (vx_reb s T).heap[j]? = some T.heap[j] := Array.getElem?_eq_getElem hj
    have h1 := hsame.old_cell hc
    show t.heap[j]? = T.heap[j]?
    rw [Array.getElem?_eq_getElem hj]
    exact h1
  · rw [← hT]; exact hsame.2.1
theorem vx_throwS (hx : p.tables.exec = Jvm.exec) (hb : c.code = cc) (htr : e.platform.stackTraces = false) (hlocks : meth.locks = false) (k : Nat) {own tx : String} {i1 i2 i3 : Nat} (hown : s.vm.findClass own = some m.cls) (htb : ∀ w ∈ lw_g, w.before args s = true)
    (hcl : (Cond.classLink own i1 (vx_cls k)).before args s = true) (hins : (Cond.instantiable (vx_cls k) 6).before args s = true) (hini : (Cond.initialized (vx_cls k)).before args s = true) (hsr : ∃ q, vk_R own i2 tx q s)
    (hat : ∀ w ∈ Bundle.ownAtoms own i3 (vx_cls k) vx_up, vx_okw w) (hV : vs_T A s s.heap) (hS : va_S A s.heap H locs) (hml : c.maxLocals = ls.size)
    (hd0 : decode cc pc = .ok (.new i1, 3)) (hd3 : decode cc (pc + 3) = .ok (.dup, 1)) (hd4 : decode cc (pc + 4) = .ok (.ldc i2, 2)) (hd6 : decode cc (pc + 6) = .ok (.invokespecial i3, 3)) (hd9 : decode cc (pc + 9) = .ok (.athrow, 1))
    (hout : ∀ y ∈ c.exceptionTable.toList, covers y (pc + 9) = false) (hfr : 6 ≤ R.frames) (hlo : (rest.map fun v => v.category).sum + 100 ≤ R.locals) (hce : cells + 1 ≤ R.cells) (hsl : slots + 6 ≤ R.slots) (hf : ∀ q ∈ locs, free q.base)
    (hq : ∀ (x : Addr) (t : State), vx_X k x t → H.size ≤ x → (∀ j : Nat, j < H.size → t.heap[j]? = H[j]?) → H.size ≤ t.heap.size → s.WarmedH t.vm → Qc args s (.threw x) t) :
    W p l e R s m args below meth c H locs cells slots (XQ below Qc args s (cells + 1) (slots + 6) free) (F0 m pc ls rest) := by
  refine vx_out hce hsl k hf hq (fun T hT => ?_)
  have hwd : ∀ w : Cond, (w.onTables && w.keeps) = true → w.before args s = true → w.before args (vx_reb s T) = true := fun w hw h => word_at (s := s) (U := vx_reb s T) (State.WarmedH.refl s) (Or.inl hw) h
  have hVT : vs_T A s T.heap := hV.kept (fun a h1 h2 => by rw [hT]; exact hS.2.1 a h1 h2)
  obtain ⟨q, hstr⟩ := hsr
  have hstr' : vk_R own i2 tx q (vx_reb s T) := hstr
  refine W.newc hx hb (s := vx_reb s T) hown (hwd _ rfl hcl) (hwd _ rfl hins) (hwd _ rfl hini) rfl hd0 (Nat.le_refl _) (Nat.le_refl _) (fun cC kC h1 h2 h3 h4 => ?_)
  refine W.eq (g2 := F0 m (pc + 3) ls (.ref H.size :: rest)) rfl ?_
  refine lv_dup hx hb hd3 rfl ?_
  refine va_ldcS hx hb hown hstr' hd4 ?_
  intro T2 hT2 X2
  obtain ⟨U, st, hrun, hend, hW, hsame, ce, hce2, hOC⟩ := X2.ctorThrowS hx htr (own := own) (cls := vx_cls k) (names := vx_up) (ic := i3) hown
    (by unfold vx_cls; split <;> decide +kernel) (by decide +kernel) (vx_atoms htb hat hVT) (fun x hx => by cases hx) h1 h2 (a := H.size)
    (by rw [hT2]; simp) (by show T.heap.size ≤ H.size; rw [hT]; exact Nat.le_refl _) (msg := .ref q) rfl (g := F0 m (pc + 4 + 2) ls (.ref q :: .ref H.size :: .ref H.size :: rest)) rfl hml.symm rfl rfl (rest := rest) rfl
    (by rw [hb]; exact hd6) (by rw [hb]; exact hd9) hout (by show vx_up.length + 3 < R.frames; simp; omega) (by simp [Value.category] at hlo ⊢; omega) hlocks
  refine ⟨U, st, hrun, H.size, hend, hW, hsame, by rw [hT]; exact Nat.le_refl _, ce, hce2, hOC.vm, ?_⟩
  rw [← hOC.cls]
  first | exact (hW.alike.findClass ..) | exact (hW.alike.findClass ..).symm | (rw [hW.alike.findClass])
theorem vx_throw0 (hx : p.tables.exec = Jvm.exec) (hb : c.code = cc) (htr : e.platform.stackTraces = false) (hlocks : meth.locks = false) (k : Nat) {own : String} {i1 i3 : Nat} (hown : s.vm.findClass own = some m.cls) (htb : ∀ w ∈ lw_g, w.before args s = true)
    (hcl : (Cond.classLink own i1 (vx_cls k)).before args s = true) (hins : (Cond.instantiable (vx_cls k) 6).before args s = true) (hini : (Cond.initialized (vx_cls k)).before args s = true)
    (hat : ∀ w ∈ Bundle.ownAtoms0 own i3 (vx_cls k) vx_up, vx_okw w) (hV : vs_T A s s.heap) (hS : va_S A s.heap H locs) (hml : c.maxLocals = ls.size)
    (hd0 : decode cc pc = .ok (.new i1, 3)) (hd3 : decode cc (pc + 3) = .ok (.dup, 1)) (hd6 : decode cc (pc + 4) = .ok (.invokespecial i3, 3)) (hd9 : decode cc (pc + 7) = .ok (.athrow, 1))
    (hout : ∀ y ∈ c.exceptionTable.toList, covers y (pc + 7) = false) (hfr : 6 ≤ R.frames) (hlo : (rest.map fun v => v.category).sum + 100 ≤ R.locals) (hce : cells + 1 ≤ R.cells) (hsl : slots + 6 ≤ R.slots) (hf : ∀ q ∈ locs, free q.base)
    (hq : ∀ (x : Addr) (t : State), vx_X k x t → H.size ≤ x → (∀ j : Nat, j < H.size → t.heap[j]? = H[j]?) → H.size ≤ t.heap.size → s.WarmedH t.vm → Qc args s (.threw x) t) :
    W p l e R s m args below meth c H locs cells slots (XQ below Qc args s (cells + 1) (slots + 6) free) (F0 m pc ls rest) := by
  refine vx_out hce hsl k hf hq (fun T hT => ?_)
  have hwd : ∀ w : Cond, (w.onTables && w.keeps) = true → w.before args s = true → w.before args (vx_reb s T) = true := fun w hw h => word_at (s := s) (U := vx_reb s T) (State.WarmedH.refl s) (Or.inl hw) h
  have hVT : vs_T A s T.heap := hV.kept (fun a h1 h2 => by rw [hT]; exact hS.2.1 a h1 h2)
  refine W.newc hx hb (s := vx_reb s T) hown (hwd _ rfl hcl) (hwd _ rfl hins) (hwd _ rfl hini) rfl hd0 (Nat.le_refl _) (Nat.le_refl _) (fun cC kC h1 h2 h3 h4 => ?_)
  refine W.eq (g2 := F0 m (pc + 3) ls (.ref H.size :: rest)) rfl ?_
  refine lv_dup hx hb hd3 rfl ?_
  intro T2 hT2 X2
  obtain ⟨U, st, hrun, hend, hW, hsame, ce, hce2, hOC⟩ := X2.ctorThrow0 hx htr (own := own) (cls := vx_cls k) (names := vx_up) (ic := i3) hown
    (by unfold vx_cls; split <;> decide +kernel) (by decide +kernel) (vx_atoms htb hat hVT) (fun x hx => by cases hx) h1 h2 (a := H.size)
    (by rw [hT2]; simp) (by show T.heap.size ≤ H.size; rw [hT]; exact Nat.le_refl _) (g := F0 m (pc + 3 + 1) ls (.ref H.size :: .ref H.size :: rest)) rfl hml.symm rfl rfl (rest := rest) rfl
    (by rw [hb]; exact hd6) (by rw [hb]; exact hd9) hout (by show vx_up.length + 3 < R.frames; simp; omega) (by simp [Value.category] at hlo ⊢; omega) hlocks
  refine ⟨U, st, hrun, H.size, hend, hW, hsame, by rw [hT]; exact Nat.le_refl _, ce, hce2, hOC.vm, ?_⟩
  rw [← hOC.cls]
  first | exact (hW.alike.findClass ..) | exact (hW.alike.findClass ..).symm | (rw [hW.alike.findClass])
end VX6
