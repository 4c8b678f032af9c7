/-! second names, for the contracts of methods with a constant among their arguments -/
abbrev b_PngWriter_codeForT : ByteArray := b_PngWriter_codeFor
abbrev y_PngWriter_codeForT : MethodName := y_PngWriter_codeFor
theorem cw_PngWriter_codeForT : Cond.code y_PngWriter_codeForT b_PngWriter_codeForT 3 (some .int) ∈ lw_g := cw_PngWriter_codeFor
