/-! more words of the models -/
theorem dc_out14 {x : Int32} (c0 : ¬ x = 0) (c1 : ¬ x = 1) (c2 : ¬ x = 2) (c3 : ¬ x = 3) (c4 : ¬ x = 4) (c5 : ¬ x = 5) (c6 : ¬ x = 6) (c7 : ¬ x = 7) (c8 : ¬ x = 8) (c9 : ¬ x = 9) (c10 : ¬ x = 10) (c11 : ¬ x = 11) (c12 : ¬ x = 12) (c13 : ¬ x = 13) : x.toInt < 0 ∨ 13 < x.toInt := by
  have h0 : x.toInt ≠ 0 := fun h => c0 (Int32.toInt_inj.mp (h.trans (by decide)))
  have h1 : x.toInt ≠ 1 := fun h => c1 (Int32.toInt_inj.mp (h.trans (by decide)))
  have h2 : x.toInt ≠ 2 := fun h => c2 (Int32.toInt_inj.mp (h.trans (by decide)))
  have h3 : x.toInt ≠ 3 := fun h => c3 (Int32.toInt_inj.mp (h.trans (by decide)))
  have h4 : x.toInt ≠ 4 := fun h => c4 (Int32.toInt_inj.mp (h.trans (by decide)))
  have h5 : x.toInt ≠ 5 := fun h => c5 (Int32.toInt_inj.mp (h.trans (by decide)))
  have h6 : x.toInt ≠ 6 := fun h => c6 (Int32.toInt_inj.mp (h.trans (by decide)))
  have h7 : x.toInt ≠ 7 := fun h => c7 (Int32.toInt_inj.mp (h.trans (by decide)))
  have h8 : x.toInt ≠ 8 := fun h => c8 (Int32.toInt_inj.mp (h.trans (by decide)))
  have h9 : x.toInt ≠ 9 := fun h => c9 (Int32.toInt_inj.mp (h.trans (by decide)))
  have h10 : x.toInt ≠ 10 := fun h => c10 (Int32.toInt_inj.mp (h.trans (by decide)))
  have h11 : x.toInt ≠ 11 := fun h => c11 (Int32.toInt_inj.mp (h.trans (by decide)))
  have h12 : x.toInt ≠ 12 := fun h => c12 (Int32.toInt_inj.mp (h.trans (by decide)))
  have h13 : x.toInt ≠ 13 := fun h => c13 (Int32.toInt_inj.mp (h.trans (by decide)))
  omega
