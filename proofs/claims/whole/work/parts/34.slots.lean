/-! the pure half: slots; size, get, hash -/
theorem n00 : nI 0 = 0 := rfl
theorem n10 : ¬ nI 1 = 0 := by decide
theorem n11 : nI 1 = 1 := rfl
theorem n20 : ¬ nI 2 = 0 := by decide
theorem n21 : ¬ nI 2 = 1 := by decide
theorem n22 : nI 2 = 2 := rfl
theorem n30 : ¬ nI 3 = 0 := by decide
theorem n31 : ¬ nI 3 = 1 := by decide
theorem n32 : ¬ nI 3 = 2 := by decide
theorem n33 : nI 3 = 3 := rfl
/-- a choice by the slot's number -/
theorem q_sel4 {α : Type} (A : Nat → Option α) {k : Nat} (hk : k < 4) : (if nI k = 0 then A 0 else if nI k = 1 then A 1 else if nI k = 2 then A 2 else if nI k = 3 then A 3 else none) = A k := by
  match k, hk with
  | 0, _ => rw [if_pos n00]
  | 1, _ => rw [if_neg n10, if_pos n11]
  | 2, _ => rw [if_neg n20, if_neg n21, if_pos n22]
  | 3, _ => rw [if_neg n30, if_neg n31, if_neg n32, if_pos n33]
  | k + 4, h => exact absurd h (by omega)
theorem q_sel4N {α : Type} (A : Nat → Option α) {k : Nat} (hk : k < 4) : (if k = 0 then A 0 else if k = 1 then A 1 else if k = 2 then A 2 else if k = 3 then A 3 else none) = A k := by
  match k, hk with
  | 0, _ => rfl
  | 1, _ => rfl
  | 2, _ => rfl
  | 3, _ => rfl
  | k + 4, h => exact absurd h (by omega)
theorem slot_ok {k : Nat} (hk : k < 4) : f_D_requireSlot (nI k) = some (.inl ((), ())) := by
  unfold f_D_requireSlot
  rw [if_neg (nI_pos (by omega)), if_neg (show ¬ (4 : Int32) ≤ nI k from show ¬ nI 4 ≤ nI k from nI_ge hk (by omega))]
  rfl
theorem slot_no {x : Int32} (h : x < 0 ∨ nI 4 ≤ x) : f_D_requireSlot x = some (.inr (1, ())) := by
  unfold f_D_requireSlot
  by_cases h0 : x < 0
  · rw [if_pos h0]; rfl
  · rw [if_neg h0, if_pos (show (4 : Int32) ≤ x from h.resolve_left h0)]; rfl
/-- any int, as a slot's number -/
theorem slot_cases (x : Int32) : (x < 0 ∨ nI 4 ≤ x) ∨ ∃ k : Nat, k < 4 ∧ x = nI k := by
  rcases pk_ix x (n := 4) (by omega) with h | h | h
  · exact Or.inl (Or.inl h)
  · exact Or.inl (Or.inr h)
  · exact Or.inr h
theorem held_1 {w : Nat} (hw : w < 2 ^ 31) : f_Picture_isHeld (nI w) = some (if w = 0 then 0 else 1, ()) := by
  unfold f_Picture_isHeld
  by_cases h : w = 0
  · subst h
    rw [if_pos (show nI 0 ≤ 0 by decide)]
    rfl
  · rw [if_neg (nI_nle (by omega) hw), if_neg h]
    rfl
theorem held_ok {k : Nat} (hk : k < 4) (W : Nat → Int32) {w : Nat} (hw : w < 2 ^ 31) (e : W k = nI w) : f_D_heldPicture (nI k) (W 3) (W 2) (W 1) (W 0) = some (if w = 0 then .inr (2, ()) else .inl (k, ())) := by
  unfold f_D_heldPicture
  refine (q_sel4 (fun i => dc_bind (f_Picture_isHeld (W i)) (fun r => f_D_heldPicture_9 (W 3) (W 2) (W 1) (W 0) (nI k) r.1)) hk).trans ?_
  show dc_bind (f_Picture_isHeld (W k)) (fun r => f_D_heldPicture_9 (W 3) (W 2) (W 1) (W 0) (nI k) r.1) = _
  rw [e, held_1 hw, q_bind]
  by_cases h : w = 0
  · rw [if_pos h, if_pos h]
    rfl
  · rw [if_neg h, if_neg h]
    show (if (1 : Int32) = 0 then _ else _) = _
    rw [if_neg (by decide)]
    exact q_sel4 (α := (Nat × Unit) ⊕ (Nat × Unit)) (fun i => some (.inl (i, ()))) hk
theorem size_ok (x1 x2 z : Int32) {W Hh Wm Hm : Nat → Int32} (hW : ∀ k, k < 4 → Wm k = W k) (hH : ∀ k, k < 4 → Hm k = Hh k) (hw : ∀ k, k < 4 → ∃ w : Nat, w ≤ 16384 ∧ W k = nI w) :
    (∃ v : Int32, f_D_size x1 x2 (W 3) (Hh 3) (W 2) (Hh 2) (W 1) (Hh 1) (W 0) (Hh 0) = some (.inl (v, ())) ∧ f_M_size x1 x2 z Wm Hm = some (v, 0)) ∨
    (f_D_size x1 x2 (W 3) (Hh 3) (W 2) (Hh 2) (W 1) (Hh 1) (W 0) (Hh 0) = some (.inr (1, ())) ∧ f_M_size x1 x2 z Wm Hm = some (0, 1)) ∨
    (f_D_size x1 x2 (W 3) (Hh 3) (W 2) (Hh 2) (W 1) (Hh 1) (W 0) (Hh 0) = some (.inr (2, ())) ∧ f_M_size x1 x2 z Wm Hm = some (0, 2)) := by
  rcases slot_cases x1 with hx | ⟨k, hk, rfl⟩
  · right; left
    constructor
    · unfold f_D_size
      rw [slot_no hx]
      rfl
    · unfold f_M_size
      by_cases h0 : x1 < 0
      · rw [if_pos h0]; rfl
      · rw [if_neg h0, if_pos (show (3 : Int32) < x1 from Int32.lt_of_lt_of_le (show (3 : Int32) < nI 4 by decide) (hx.resolve_left h0))]
        rfl
  · obtain ⟨w, hw1, hw2⟩ := hw k hk
    have hM : ∀ y : Int32, ¬ nI k < 0 ∧ ¬ (3 : Int32) < nI k ∧ inb (nI k) 4 = true ∧ Wm (nI k).toNatClampNeg = nI w ∧ Hm (nI k).toNatClampNeg = Hh k := fun y => by
      refine ⟨nI_pos (by omega), show ¬ (3 : Int32) < nI k from show ¬ nI 3 < nI k from nI_nlt (by omega) (by omega), q_inb hk (by omega), ?_, ?_⟩
      · rw [nI_clamp (by omega), hW k hk, hw2]
      · rw [nI_clamp (by omega), hH k hk]
    obtain ⟨m1, m2, m3, m4, m5⟩ := hM 0
    have hD : ∀ y : Int32, (x2 = 0 ∨ x2 = 1) → f_D_size_18 (W 3) (Hh 3) (W 2) (Hh 2) (W 1) (Hh 1) (W 0) (Hh 0) (nI k) x2 1 = if w = 0 then some (.inr (2, ())) else some (.inl (if x2 = 0 then W k else Hh k, ())) := fun y hy => by
      unfold f_D_size_18
      rw [show f_D_requireArgument 1 = some (.inl ((), ())) from rfl, q_tryL, held_ok hk W (by omega) hw2]
      by_cases h : w = 0
      · rw [if_pos h, if_pos h]; rfl
      · rw [if_neg h, if_neg h, q_tryL]
        refine (q_sel4N (fun i => if x2 = 0 then f_D_size_35 (W 3) (Hh 3) (W 2) (Hh 2) (W 1) (Hh 1) (W 0) (Hh 0) (W i) else f_D_size_42 (W 3) (Hh 3) (W 2) (Hh 2) (W 1) (Hh 1) (W 0) (Hh 0) (Hh i)) hk).trans ?_
        by_cases h2 : x2 = 0
        · rw [if_pos h2, if_pos h2]; rfl
        · rw [if_neg h2, if_neg h2]; rfl
    by_cases h2 : x2 = 0
    · have e1 : f_D_size (nI k) x2 (W 3) (Hh 3) (W 2) (Hh 2) (W 1) (Hh 1) (W 0) (Hh 0) = if w = 0 then some (.inr (2, ())) else some (.inl (W k, ())) := by
        unfold f_D_size
        rw [slot_ok hk, q_tryL, if_pos h2]
        unfold f_D_size_13
        rw [hD 0 (Or.inl h2), if_pos h2]
      have e2 : f_M_size (nI k) x2 z Wm Hm = if w = 0 then some (0, 2) else some (W k, 0) := by
        unfold f_M_size
        rw [if_neg m1, if_neg m2, if_neg (show ¬ x2 < 0 by rw [h2]; decide), if_pos (show x2 ≤ 1 by rw [h2]; decide), if_pos m3, m4, if_pos h2]
        by_cases h : w = 0
        · subst h
          rw [if_pos n00, if_pos rfl]; rfl
        · rw [if_neg (nI_ne0 (by omega) (by omega)), if_neg h, if_pos m3, hw2]; rfl
      rw [e1, e2]
      by_cases h : w = 0
      · rw [if_pos h, if_pos h]; exact Or.inr (Or.inr ⟨rfl, rfl⟩)
      · rw [if_neg h, if_neg h]; exact Or.inl ⟨_, rfl, rfl⟩
    · by_cases h3 : x2 = 1
      · have e1 : f_D_size (nI k) x2 (W 3) (Hh 3) (W 2) (Hh 2) (W 1) (Hh 1) (W 0) (Hh 0) = if w = 0 then some (.inr (2, ())) else some (.inl (Hh k, ())) := by
          unfold f_D_size
          rw [slot_ok hk, q_tryL, if_neg h2, if_pos h3]
          unfold f_D_size_13
          rw [hD 0 (Or.inr h3), if_neg h2]
        have e2 : f_M_size (nI k) x2 z Wm Hm = if w = 0 then some (0, 2) else some (Hh k, 0) := by
          unfold f_M_size
          rw [if_neg m1, if_neg m2, if_neg (show ¬ x2 < 0 by rw [h3]; decide), if_pos (show x2 ≤ 1 by rw [h3]; decide), if_pos m3, m4, if_neg h2]
          by_cases h : w = 0
          · subst h
            rw [if_pos n00, if_pos rfl]; rfl
          · rw [if_neg (nI_ne0 (by omega) (by omega)), if_neg h, if_pos m3, m5]; rfl
        rw [e1, e2]
        by_cases h : w = 0
        · rw [if_pos h, if_pos h]; exact Or.inr (Or.inr ⟨rfl, rfl⟩)
        · rw [if_neg h, if_neg h]; exact Or.inl ⟨_, rfl, rfl⟩
      · right; left
        constructor
        · unfold f_D_size
          rw [slot_ok hk, q_tryL, if_neg h2, if_neg h3]
          rfl
        · unfold f_M_size
          rw [if_neg m1, if_neg m2]
          by_cases h4 : x2 < 0
          · rw [if_pos h4]; rfl
          · obtain ⟨j, hj, rfl⟩ := nI_of h4
            have hj2 : 2 ≤ j := by
              rcases Nat.lt_or_ge j 2 with h | h
              · have : j = 0 ∨ j = 1 := by omega
                rcases this with rfl | rfl
                · exact absurd rfl h2
                · exact absurd rfl h3
              · exact h
            rw [if_neg h4, if_neg (show ¬ nI j ≤ (1 : Int32) from show ¬ nI j ≤ nI 1 from nI_ge (by omega) hj)]; rfl
