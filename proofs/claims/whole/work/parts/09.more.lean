/-! more words of the models -/
theorem dc_out7 {x : Int32} (c0 : ¬ x = 0) (c1 : ¬ x = 1) (c2 : ¬ x = 2) (c3 : ¬ x = 3) (c4 : ¬ x = 4) (c5 : ¬ x = 5) (c6 : ¬ x = 6) : x.toInt < 0 ∨ 6 < x.toInt := by
  have h0 : x.toInt ≠ 0 := fun h => c0 (Int32.toInt_inj.mp (h.trans (by decide)))
  have h1 : x.toInt ≠ 1 := fun h => c1 (Int32.toInt_inj.mp (h.trans (by decide)))
  have h2 : x.toInt ≠ 2 := fun h => c2 (Int32.toInt_inj.mp (h.trans (by decide)))
  have h3 : x.toInt ≠ 3 := fun h => c3 (Int32.toInt_inj.mp (h.trans (by decide)))
  have h4 : x.toInt ≠ 4 := fun h => c4 (Int32.toInt_inj.mp (h.trans (by decide)))
  have h5 : x.toInt ≠ 5 := fun h => c5 (Int32.toInt_inj.mp (h.trans (by decide)))
  have h6 : x.toInt ≠ 6 := fun h => c6 (Int32.toInt_inj.mp (h.trans (by decide)))
  omega
theorem dc_out4 {x : Int32} (c1 : ¬ x = 1) (c2 : ¬ x = 2) (c3 : ¬ x = 3) (c4 : ¬ x = 4) : x.toInt < 1 ∨ 4 < x.toInt := by
  have h1 : x.toInt ≠ 1 := fun h => c1 (Int32.toInt_inj.mp (h.trans (by decide)))
  have h2 : x.toInt ≠ 2 := fun h => c2 (Int32.toInt_inj.mp (h.trans (by decide)))
  have h3 : x.toInt ≠ 3 := fun h => c3 (Int32.toInt_inj.mp (h.trans (by decide)))
  have h4 : x.toInt ≠ 4 := fun h => c4 (Int32.toInt_inj.mp (h.trans (by decide)))
  omega
theorem dc_out5 {x : Int32} (c0 : ¬ x = 0) (c1 : ¬ x = 1) (c2 : ¬ x = 2) (c3 : ¬ x = 3) (c4 : ¬ x = 4) : x.toInt < 0 ∨ 4 < x.toInt := by
  have h0 : x.toInt ≠ 0 := fun h => c0 (Int32.toInt_inj.mp (h.trans (by decide)))
  have h1 : x.toInt ≠ 1 := fun h => c1 (Int32.toInt_inj.mp (h.trans (by decide)))
  have h2 : x.toInt ≠ 2 := fun h => c2 (Int32.toInt_inj.mp (h.trans (by decide)))
  have h3 : x.toInt ≠ 3 := fun h => c3 (Int32.toInt_inj.mp (h.trans (by decide)))
  have h4 : x.toInt ≠ 4 := fun h => c4 (Int32.toInt_inj.mp (h.trans (by decide)))
  omega
theorem dc_nzl {α : Type} {x : Int64} {a : Option α} {r : α} (h : (if x = 0 then none else a) = some r) : ¬ x = 0 ∧ a = some r := by
  by_cases hc : x = 0
  · rw [if_pos hc] at h
    cases h
  · rw [if_neg hc] at h
    exact ⟨hc, h⟩
theorem dc_el {α β : Type} {γ : Type} {f : α → γ} {g : β → γ} {a : α} {r : γ} (h : Sum.elim f g (.inl a) = r) : f a = r := h
theorem dc_er {α β : Type} {γ : Type} {f : α → γ} {g : β → γ} {a : β} {r : γ} (h : Sum.elim f g (.inr a) = r) : g a = r := h
