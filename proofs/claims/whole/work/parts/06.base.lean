/-! the words of the models; the statics; what holds at every point of a walk -/
def tab_PngReader_SIGNATURE (j : Nat) : Int32 := ([137, 80, 78, 71, 13, 10, 26, 10] : List Int32).getD j 0
def tab_D_CRC_STEPS (j : Nat) : Int32 := ([0, 498536548, 997073096, 651767980, 1994146192, 1802195444, 1303535960, 1342533948, -306674912, -267414716, -690576408, -882789492, -1687895376, -2032938284, -1609899400, -1111625188] : List Int32).getD j 0
def tab_PngReader_PASS_X_SHIFT (j : Nat) : Int32 := ([3, 3, 2, 2, 1, 1, 0, 0] : List Int32).getD j 0
def tab_PngReader_PASS_X (j : Nat) : Int32 := ([0, 4, 0, 2, 0, 1, 0, 0] : List Int32).getD j 0
def tab_PngReader_PASS_Y_SHIFT (j : Nat) : Int32 := ([3, 3, 3, 2, 2, 1, 1, 0] : List Int32).getD j 0
def tab_PngReader_PASS_Y (j : Nat) : Int32 := ([0, 0, 4, 0, 2, 0, 1, 0] : List Int32).getD j 0
def tab_Inflater_LENGTHS_ORDER (j : Nat) : Int32 := ([16, 17, 18, 0, 8, 7, 9, 6, 10, 5, 11, 4, 12, 3, 13, 2, 14, 1, 15] : List Int32).getD j 0
def tab_Inflater_LENGTH_BASE (j : Nat) : Int32 := ([3, 4, 5, 6, 7, 8, 9, 10, 11, 13, 15, 17, 19, 23, 27, 31, 35, 43, 51, 59, 67, 83, 99, 115, 131, 163, 195, 227, 258] : List Int32).getD j 0
def tab_Inflater_LENGTH_BITS (j : Nat) : Int32 := ([0, 0, 0, 0, 0, 0, 0, 0, 1, 1, 1, 1, 2, 2, 2, 2, 3, 3, 3, 3, 4, 4, 4, 4, 5, 5, 5, 5, 0] : List Int32).getD j 0
def tab_Inflater_DISTANCE_BASE (j : Nat) : Int32 := ([1, 2, 3, 4, 5, 7, 9, 13, 17, 25, 33, 49, 65, 97, 129, 193, 257, 385, 513, 769, 1025, 1537, 2049, 3073, 4097, 6145, 8193, 12289, 16385, 24577] : List Int32).getD j 0
def tab_Inflater_DISTANCE_BITS (j : Nat) : Int32 := ([0, 0, 0, 0, 1, 1, 2, 2, 3, 3, 4, 4, 5, 5, 6, 6, 7, 7, 8, 8, 9, 9, 10, 10, 11, 11, 12, 12, 13, 13] : List Int32).getD j 0
def tab_M_SIGN (j : Nat) : Int32 := ([137, 80, 78, 71, 13, 10, 26, 10] : List Int32).getD j 0
def tab_M_FROM_X (j : Nat) : Int32 := ([0, 4, 0, 2, 0, 1, 0] : List Int32).getD j 0
def tab_M_STEP_X (j : Nat) : Int32 := ([8, 8, 4, 4, 2, 2, 1] : List Int32).getD j 0
def tab_M_FROM_Y (j : Nat) : Int32 := ([0, 0, 4, 0, 2, 0, 1] : List Int32).getD j 0
def tab_M_STEP_Y (j : Nat) : Int32 := ([8, 8, 8, 4, 4, 2, 2] : List Int32).getD j 0
def tab_M_ORDER (j : Nat) : Int32 := ([16, 17, 18, 0, 8, 7, 9, 6, 10, 5, 11, 4, 12, 3, 13, 2, 14, 1, 15] : List Int32).getD j 0
/-- a static array of ints, that nobody writes -/
def vs_A (C n : String) (N : Nat) (f : Nat → Int32) (A : Nat → Prop) (U : State) (H : Heap) : Prop := ∃ t : Nat, va_Z C n "[I" (.ref t) A U H ∧ va_T .int t N (fun j => .int (f j)) A U H
theorem vs_A.moved {C n : String} {N : Nat} {f : Nat → Int32} {A : Nat → Prop} {u U : State} {H : Heap} (hvm : u.vm.Alike U.vm) (h : vs_A C n N f A u H) : vs_A C n N f A U H := by
  obtain ⟨t, h1, h2⟩ := h
  exact ⟨t, h1.moved hvm, h2.moved hvm⟩
theorem vs_A.kept {C n : String} {N : Nat} {f : Nat → Int32} {A : Nat → Prop} {U : State} {H H1 : Heap} (h : vs_A C n N f A U H) (hq : ∀ a : Nat, a < H.size → ¬ A a → H1[a]? = H[a]?) : vs_A C n N f A U H1 := by
  obtain ⟨t, h1, h2⟩ := h
  exact ⟨t, h1.kept hq, h2.kept hq⟩
theorem vs_A.narrow {C n : String} {N : Nat} {f : Nat → Int32} {A B : Nat → Prop} {U : State} {H : Heap} (h : vs_A C n N f A U H) (hAB : ∀ q, B q → A q) : vs_A C n N f B U H := by
  obtain ⟨t, h1, h2⟩ := h
  exact ⟨t, h1.narrow hAB, h2.narrow hAB⟩
def vs_tabs : List (String × String × Nat × (Nat → Int32)) := [("PictureDesk$PngReader", "SIGNATURE", 8, tab_PngReader_SIGNATURE), ("PictureDesk", "CRC_STEPS", 16, tab_D_CRC_STEPS), ("PictureDesk$PngReader", "PASS_X_SHIFT", 8, tab_PngReader_PASS_X_SHIFT), ("PictureDesk$PngReader", "PASS_X", 8, tab_PngReader_PASS_X), ("PictureDesk$PngReader", "PASS_Y_SHIFT", 8, tab_PngReader_PASS_Y_SHIFT), ("PictureDesk$PngReader", "PASS_Y", 8, tab_PngReader_PASS_Y), ("PictureDesk$Inflater", "LENGTHS_ORDER", 19, tab_Inflater_LENGTHS_ORDER), ("PictureDesk$Inflater", "LENGTH_BASE", 29, tab_Inflater_LENGTH_BASE), ("PictureDesk$Inflater", "LENGTH_BITS", 29, tab_Inflater_LENGTH_BITS), ("PictureDesk$Inflater", "DISTANCE_BASE", 30, tab_Inflater_DISTANCE_BASE), ("PictureDesk$Inflater", "DISTANCE_BITS", 30, tab_Inflater_DISTANCE_BITS), ("PictureDeskModel", "SIGN", 8, tab_M_SIGN), ("PictureDeskModel", "FROM_X", 7, tab_M_FROM_X), ("PictureDeskModel", "STEP_X", 7, tab_M_STEP_X), ("PictureDeskModel", "FROM_Y", 7, tab_M_FROM_Y), ("PictureDeskModel", "STEP_Y", 7, tab_M_STEP_Y), ("PictureDeskModel", "ORDER", 19, tab_M_ORDER)]
/-- what String's own index checks read: a static reference -/
def vs_P (A : Nat → Prop) (U : State) (H : Heap) : Prop := ∃ v : Value, (v = .null ∨ ∃ w : Nat, v = .ref w) ∧ va_Z "jdk/internal/util/Preconditions" "SIOOBE_FORMATTER" "Ljava/util/function/BiFunction;" v A U H
theorem vs_P.moved {A : Nat → Prop} {u U : State} {H : Heap} (hvm : u.vm.Alike U.vm) (h : vs_P A u H) : vs_P A U H := by
  obtain ⟨v, h0, h1⟩ := h
  exact ⟨v, h0, h1.moved hvm⟩
theorem vs_P.kept {A : Nat → Prop} {U : State} {H H1 : Heap} (h : vs_P A U H) (hq : ∀ a : Nat, a < H.size → ¬ A a → H1[a]? = H[a]?) : vs_P A U H1 := by
  obtain ⟨v, h0, h1⟩ := h
  exact ⟨v, h0, h1.kept hq⟩
theorem vs_P.narrow {A B : Nat → Prop} {U : State} {H : Heap} (h : vs_P A U H) (hAB : ∀ q, B q → A q) : vs_P B U H := by
  obtain ⟨v, h0, h1⟩ := h
  exact ⟨v, h0, h1.narrow hAB⟩
/-- a String constant that nobody writes, with its bytes -/
def vs_C (own : String) (idx : Nat) (tx : String) (N : Nat) (f : Nat → Int32) (A : Nat → Prop) (U : State) (H : Heap) : Prop := ∃ q v : Nat, vk_R own idx tx q U ∧ va_O "java/lang/String" q A U H ∧ va_OF "java/lang/String" "coder" "B" (.int 0) q A U H ∧ va_OF "java/lang/String" "value" "[B" (.ref v) q A U H ∧ va_T .byte v N (fun j => .int (f j)) A U H ∧ va_Z "java/lang/String" "COMPACT_STRINGS" "Z" (.int 1) A U H ∧ vs_P A U H
theorem vs_C.moved {own tx : String} {idx N : Nat} {f : Nat → Int32} {A : Nat → Prop} {u U : State} {H : Heap} (hW : u.WarmedH U.vm) (h : vs_C own idx tx N f A u H) : vs_C own idx tx N f A U H := by
  obtain ⟨q, v, h1, h2, h3, h4, h5, h6⟩ := h
  exact ⟨q, v, h1.warm hW, h2.moved hW.alike, h3.moved hW.alike, h4.moved hW.alike, h5.moved hW.alike, h6.1.moved hW.alike, h6.2.moved hW.alike⟩
theorem vs_C.kept {own tx : String} {idx N : Nat} {f : Nat → Int32} {A : Nat → Prop} {U : State} {H H1 : Heap} (h : vs_C own idx tx N f A U H) (hq : ∀ a : Nat, a < H.size → ¬ A a → H1[a]? = H[a]?) : vs_C own idx tx N f A U H1 := by
  obtain ⟨q, v, h1, h2, h3, h4, h5, h6⟩ := h
  exact ⟨q, v, h1, h2.kept hq, h3.kept hq, h4.kept hq, h5.kept hq, h6.1.kept hq, h6.2.kept hq⟩
theorem vs_C.narrow {own tx : String} {idx N : Nat} {f : Nat → Int32} {A B : Nat → Prop} {U : State} {H : Heap} (h : vs_C own idx tx N f A U H) (hAB : ∀ q, B q → A q) : vs_C own idx tx N f B U H := by
  obtain ⟨q, v, h1, h2, h3, h4, h5, h6⟩ := h
  exact ⟨q, v, h1, h2.narrow hAB, h3.narrow hAB, h4.narrow hAB, h5.narrow hAB, h6.1.narrow hAB, h6.2.narrow hAB⟩
def vs_strs : List (String × Nat × String × List Int32) := [("PictureDesk$GifWriter", 120, "GIF89a", [71, 73, 70, 56, 57, 97]), ("PictureDesk$BmpFiles", 185, "BM", [66, 77]), ("PictureDeskModel", 146, "IHDR", [73, 72, 68, 82]), ("PictureDeskModel", 184, "IDAT", [73, 68, 65, 84]), ("PictureDeskModel", 190, "PLTE", [80, 76, 84, 69]), ("PictureDeskModel", 196, "tRNS", [116, 82, 78, 83]), ("PictureDeskModel", 202, "IEND", [73, 69, 78, 68]), ("PictureDeskModel", 324, "GIF8", [71, 73, 70, 56]), ("PictureDeskModel", 435, "GIF89a", [71, 73, 70, 56, 57, 97])]
/-- exceptions that no handler of another kind takes -/
def vs_nc : List (String × String) := [("java/lang/IllegalArgumentException", "java/lang/IllegalStateException"), ("java/lang/IllegalArgumentException", "java/lang/UnsupportedOperationException"), ("java/lang/IllegalArgumentException", "java/lang/IndexOutOfBoundsException"), ("java/lang/IllegalStateException", "java/lang/IllegalArgumentException"), ("java/lang/IllegalStateException", "java/lang/UnsupportedOperationException"), ("java/lang/IllegalStateException", "java/lang/IndexOutOfBoundsException"), ("java/lang/UnsupportedOperationException", "java/lang/IllegalArgumentException"), ("java/lang/UnsupportedOperationException", "java/lang/IllegalStateException"), ("java/lang/UnsupportedOperationException", "java/lang/IndexOutOfBoundsException"), ("java/lang/IndexOutOfBoundsException", "java/lang/IllegalArgumentException"), ("java/lang/IndexOutOfBoundsException", "java/lang/IllegalStateException"), ("java/lang/IndexOutOfBoundsException", "java/lang/UnsupportedOperationException")]
def vs_All (A : Nat → Prop) (U : State) (H : Heap) : Prop := vs_T A U H ∧ (∀ q ∈ vs_tabs, vs_A q.1 q.2.1 q.2.2.1 q.2.2.2 A U H) ∧ (∀ q ∈ vs_strs, vs_C q.1 q.2.1 q.2.2.1 q.2.2.2.length (fun j => q.2.2.2.getD j 0) A U H) ∧ ∀ q ∈ vs_nc, va_Nc q.1 q.2 U
theorem vs_All.moved {A : Nat → Prop} {u U : State} {H : Heap} (hW : u.WarmedH U.vm) (h : vs_All A u H) : vs_All A U H := ⟨h.1.moved hW, fun q hq => (h.2.1 q hq).moved hW.alike, fun q hq => (h.2.2.1 q hq).moved hW, fun q hq => (h.2.2.2 q hq).moved hW.alike⟩
theorem vs_All.kept {A : Nat → Prop} {U : State} {H H1 : Heap} (h : vs_All A U H) (hk : ∀ a : Nat, a < H.size → ¬ A a → H1[a]? = H[a]?) : vs_All A U H1 := ⟨h.1.kept hk, fun q hq => (h.2.1 q hq).kept hk, fun q hq => (h.2.2.1 q hq).kept hk, h.2.2.2⟩
theorem vs_All.narrow {A B : Nat → Prop} {U : State} {H : Heap} (h : vs_All A U H) (hAB : ∀ q, B q → A q) : vs_All B U H := ⟨h.1.narrow hAB, fun q hq => (h.2.1 q hq).narrow hAB, fun q hq => (h.2.2.1 q hq).narrow hAB, h.2.2.2⟩
-- the models' words
def inb (i : Int32) (n : Nat) : Bool := decide (¬ (i < 0 ∨ n ≤ i.toNatClampNeg))
theorem dc_in {α : Type} {i : Int32} {n : Nat} {a : Option α} {r : α} (h : (if inb i n = true then a else none) = some r) : vp_in i n ∧ a = some r := by
  by_cases hc : inb i n = true
  · rw [if_pos hc] at h
    exact ⟨(of_decide_eq_true hc : ¬ (i < 0 ∨ n ≤ i.toNatClampNeg)), h⟩
  · rw [if_neg hc] at h
    cases h
theorem dc_t {α : Sort _} {c : Prop} [Decidable c] {a b r : α} (hc : c) (h : (if c then a else b) = r) : a = r := by rw [if_pos hc] at h; exact h
theorem dc_f {α : Sort _} {c : Prop} [Decidable c] {a b r : α} (hc : ¬ c) (h : (if c then a else b) = r) : b = r := by rw [if_neg hc] at h; exact h
theorem dc_nz {α : Type} {x : Int32} {a : Option α} {r : α} (h : (if x = 0 then none else a) = some r) : ¬ x = 0 ∧ a = some r := by
  by_cases hc : x = 0
  · rw [if_pos hc] at h
    cases h
  · rw [if_neg hc] at h
    exact ⟨hc, h⟩
theorem dc_if {α : Type} {c : Prop} [Decidable c] {a : Option α} {r : α} (h : (if c then a else none) = some r) : c ∧ a = some r := by
  by_cases hc : c
  · rw [if_pos hc] at h
    exact ⟨hc, h⟩
  · rw [if_neg hc] at h
    cases h
def dc_bind {α β : Type} (m : Option α) (f : α → Option β) : Option β := match m with
  | none => none
  | some a => f a
theorem dc_bindE {α β : Type} {m : Option α} {f : α → Option β} {r : β} (h : dc_bind m f = some r) : ∃ a, m = some a ∧ f a = some r := by
  cases m with
  | none => cases h
  | some a => exact ⟨a, rfl, h⟩
def dc_try {α ε β : Type} (m : Option (α ⊕ ε)) (f : α → Option β) (g : ε → Option β) : Option β := match m with
  | none => none
  | some (.inl a) => f a
  | some (.inr e) => g e
theorem dc_tryE {α ε β : Type} {m : Option (α ⊕ ε)} {f : α → Option β} {g : ε → Option β} {r : β} (h : dc_try m f g = some r) : (∃ a, m = some (.inl a) ∧ f a = some r) ∨ (∃ e, m = some (.inr e) ∧ g e = some r) := by
  cases m with
  | none => cases h
  | some a =>
    cases a with
    | inl a => exact Or.inl ⟨a, rfl, h⟩
    | inr e => exact Or.inr ⟨e, rfl, h⟩
def mcx {α ε : Type} (o : α ⊕ ε) : Nat := match o with
  | .inl _ => 0
  | .inr _ => 1
def msx {α ε : Type} (o : α ⊕ ε) : Nat := match o with
  | .inl _ => 0
  | .inr _ => 6
/-- what holds at every point of a walk -/
def cx (p : Program) (l : Launch) (e : Env) (R : Room) (s : State) (m : MethodId) (args : Array Value) (meth : Method) (c : Code) (dC : Nat → ClassId) (dI : Nat → Nat → Nat) (A : Nat → Prop) (own : String) (cc : ByteArray) (nL : Nat) (ret : Option FieldType) (fr lo : Nat) (tys : List (ClassId × FieldType)) : Prop :=
  p.tables.exec = Jvm.exec ∧ c.code = cc ∧ meth.sig.returnType = ret ∧ c.maxLocals = nL ∧ s.vm.findClass own = some m.cls ∧ (∀ w ∈ lw_g, w.before args s = true) ∧ meth.locks = false ∧ va_K (dC, dI) classes tys s ∧ (∀ q : Nat, s.heap.size ≤ q → A q) ∧ vs_All A s s.heap ∧ e.platform.stackTraces = false ∧ (∀ y ∈ c.exceptionTable.toList, False) ∧ fr ≤ R.frames ∧ lo ≤ R.locals ∧ l.flags = flags0
def vx_Pre (dC : Nat → ClassId) (dI : Nat → Nat → Nat) (tys : List (ClassId × FieldType)) (av : List Value) (sz : Nat) (ws : va_W) : Array Value → State → Prop := va_Pc av (fun U => U.heap.size = sz ∧ va_P (dC, dI) classes ws U.heap ∧ va_K (dC, dI) classes tys U ∧ va_D (fun _ => True) ws ∧ vs_All (va_A ws sz) U U.heap)
theorem vx_Pre_blind {dC : Nat → ClassId} {dI : Nat → Nat → Nat} {tys : List (ClassId × FieldType)} {av : List Value} {sz : Nat} {ws : va_W} : FrameBlind (vx_Pre dC dI tys av sz ws) := by
  intro a U g mk h
  obtain ⟨h0, h1, h2, h3, h4, h5⟩ := h
  exact ⟨h0, h1, h2, va_K.moved (u := U) (U := U.calling g mk a) (Vm.Alike.refl U.vm) h3, h4, vs_All.moved (u := U) (U := U.calling g mk a) (State.WarmedH.refl U) h5⟩
def vx_B (dC : Nat → ClassId) (dI : Nat → Nat → Nat) (tys : List (ClassId × FieldType)) (A : Nat → Prop) (ws : va_W) (t : State) : Prop := va_P (dC, dI) classes ws t.heap ∧ va_K (dC, dI) classes tys t ∧ va_D A ws
def vx_Q {ρ S : Type} (val : ρ → Option Value) (o : (ρ × S) ⊕ (Nat × S)) (B : S → State → Prop) (A : Nat → Prop) : Array Value → State → Outcome → State → Prop := fun _ st oc t =>
  (match o with
    | .inl u => oc = .returned (val u.1) ∧ B u.2 t
    | .inr u => ∃ x, oc = .threw x ∧ vx_X u.1 x t ∧ st.heap.size ≤ x ∧ B u.2 t) ∧ va_F A st t
abbrev vl_i (r : Int32) : Option Value := some (.int r)
abbrev vl_l (r : Int64) : Option Value := some (.long r)
abbrev vl_v (_ : Unit) : Option Value := none
abbrev rmx (fr lo mc ms : Nat) : Room := { frames := fr, cells := mc, slots := ms, locals := lo }
