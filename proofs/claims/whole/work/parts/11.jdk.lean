/-! the JDK's own methods that the classes call; System.arraycopy's guard -/
abbrev cpok (ty : FieldType) (f : Nat → Int32) (n0 n1 : Nat) (sp dp n : Int32) : Prop := ¬ sp < 0 ∧ ¬ dp < 0 ∧ ¬ n < 0 ∧ sp.toNatClampNeg + n.toNatClampNeg ≤ n0 ∧ dp.toNatClampNeg + n.toNatClampNeg ≤ n1 ∧ (List.range n.toNatClampNeg).all (fun i => fits ty (.int (f (sp.toNatClampNeg + i)))) = true
theorem cpok_fits {ty : FieldType} {f : Nat → Int32} {a n : Nat} (h : (List.range n).all (fun i => fits ty (.int (f (a + i)))) = true) : ∀ i, i < n → fits ty (.int (f (a + i))) = true := fun i hi => List.all_eq_true.mp h i (List.mem_range.mpr hi)
def R_Arrays : String := "java/util/Arrays"
abbrev b_Arrays_fill2 : ByteArray := prog_33_method_103_code
def y_Arrays_fill2 : MethodName := ⟨R_Arrays, "fill", "([II)V"⟩
theorem cw_Arrays_fill2 : Cond.code y_Arrays_fill2 b_Arrays_fill2 4 none ∈ lw_g := lg_in5 (List.mem_of_getElem? (i := 94) rfl) rfl
abbrev b_Arrays_fill4 : ByteArray := prog_33_method_104_code
def y_Arrays_fill4 : MethodName := ⟨R_Arrays, "fill", "([IIII)V"⟩
theorem cw_Arrays_fill4 : Cond.code y_Arrays_fill4 b_Arrays_fill4 5 none ∈ lw_g := lg_in4 (List.mem_of_getElem? (i := 69) rfl) rfl
abbrev b_Arrays_rangeCheck : ByteArray := prog_33_method_30_code
def y_Arrays_rangeCheck : MethodName := ⟨R_Arrays, "rangeCheck", "(III)V"⟩
theorem cw_Arrays_rangeCheck : Cond.code y_Arrays_rangeCheck b_Arrays_rangeCheck 3 none ∈ lw_g := lg_in4 (List.mem_of_getElem? (i := 72) rfl) rfl
