/-! the pure half: get, set -/
theorem cont_ok {w h : Nat} (hw : w ≤ 16384) (hh : h ≤ 16384) (x y : Int32) : (∃ a b : Nat, a < w ∧ b < h ∧ x = nI a ∧ y = nI b ∧ f_Picture_contains x y (nI w) (nI h) = some (1, ())) ∨ (f_Picture_contains x y (nI w) (nI h) = some (0, ()) ∧ (x < 0 ∨ y < 0 ∨ nI w ≤ x ∨ nI h ≤ y)) := by
  by_cases h1 : x < 0
  · right
    unfold f_Picture_contains
    rw [if_pos h1]
    exact ⟨rfl, Or.inl h1⟩
  · by_cases h2 : nI w ≤ x
    · right
      unfold f_Picture_contains
      rw [if_neg h1, if_pos h2]
      exact ⟨rfl, Or.inr (Or.inr (Or.inl h2))⟩
    · by_cases h3 : y < 0
      · right
        unfold f_Picture_contains
        rw [if_neg h1, if_neg h2, if_pos h3]
        exact ⟨rfl, Or.inr (Or.inl h3)⟩
      · by_cases h4 : nI h ≤ y
        · right
          unfold f_Picture_contains
          rw [if_neg h1, if_neg h2, if_neg h3, if_pos h4]
          exact ⟨rfl, Or.inr (Or.inr (Or.inr h4))⟩
        · left
          obtain ⟨a, ha, rfl⟩ := nI_of h1
          obtain ⟨b, hb, rfl⟩ := nI_of h3
          refine ⟨a, b, Nat.lt_of_not_le fun q => h2 (nI_le q ha), Nat.lt_of_not_le fun q => h4 (nI_le q hb), rfl, rfl, ?_⟩
          unfold f_Picture_contains
          rw [if_neg h1, if_neg h2, if_neg h3, if_neg h4]
          rfl
theorem place_0 {k w : Nat} (hk : k < 4) {Wm Hm : Nat → Int32} (hW : Wm k = nI w) (h0 : w = 0) (x y z : Int32) : f_M_place (nI k) x y z Wm Hm = some (0, 2) := by
  unfold f_M_place
  rw [if_neg (nI_pos (by omega)), if_pos (show nI k ≤ (3 : Int32) from show nI k ≤ nI 3 from nI_le (by omega) (by omega)), if_pos (q_inb hk (by omega)), nI_clamp (by omega), hW, h0, if_pos n00]
  rfl
theorem place_1 {k w h a b : Nat} (hk : k < 4) {Wm Hm : Nat → Int32} (hW : Wm k = nI w) (hH : Hm k = nI h) (hw : w ≤ 16384) (hh : h ≤ 16384) (ha : a < w) (hb : b < h) (z : Int32) : f_M_place (nI k) (nI a) (nI b) z Wm Hm = some (nI (b * w + a), z) := by
  unfold f_M_place
  rw [if_neg (nI_pos (by omega)), if_pos (show nI k ≤ (3 : Int32) from show nI k ≤ nI 3 from nI_le (by omega) (by omega)), if_pos (q_inb hk (by omega)), nI_clamp (by omega), hW, hH, if_neg (nI_ne0 (by omega) (by omega)), if_neg (nI_pos (by omega)), if_neg (nI_pos (by omega)), if_pos (q_inb hk (by omega)), if_neg (nI_ge ha (by omega)), if_pos (q_inb hk (by omega)), if_pos (nI_lt hb (by omega)), if_pos (q_inb hk (by omega)), pk_mul, nI_add]
  rfl
theorem place_2 {k w h : Nat} (hk : k < 4) {Wm Hm : Nat → Int32} (hW : Wm k = nI w) (hH : Hm k = nI h) (hw0 : 0 < w) (hw : w ≤ 16384) (hh : h ≤ 16384) {x y : Int32} (hxy : x < 0 ∨ y < 0 ∨ nI w ≤ x ∨ nI h ≤ y) (z : Int32) : f_M_place (nI k) x y z Wm Hm = some (0, 1) := by
  unfold f_M_place
  rw [if_neg (nI_pos (by omega)), if_pos (show nI k ≤ (3 : Int32) from show nI k ≤ nI 3 from nI_le (by omega) (by omega)), if_pos (q_inb hk (by omega)), nI_clamp (by omega), hW, hH, if_neg (nI_ne0 (by omega) (by omega))]
  by_cases h1 : x < 0
  · rw [if_pos h1]; rfl
  · rw [if_neg h1]
    by_cases h2 : y < 0
    · rw [if_pos h2]; rfl
    · rw [if_neg h2, if_pos (q_inb hk (by omega))]
      by_cases h3 : nI w ≤ x
      · rw [if_pos h3]; rfl
      · rw [if_neg h3, if_pos (q_inb hk (by omega))]
        have h4 : nI h ≤ y := by
          rcases hxy with q | q | q | q
          · exact absurd q h1
          · exact absurd q h2
          · exact absurd q h3
          · exact q
        rw [if_neg (Int32.not_lt.mpr h4)]; rfl
theorem pt_in {w h a b : Nat} (ha : a < w) (hb : b < h) : b * w + a < w * h := by
  have h1 : (b + 1) * w ≤ h * w := Nat.mul_le_mul_right w hb
  rw [Nat.succ_mul, Nat.mul_comm h w] at h1
  omega
/-- the points of one slot are others -/
def up4 (P : Nat → Nat → Int32) (k : Nat) (f : Nat → Int32) : Nat → Nat → Int32 := fun j => if j = k then f else P j
theorem get_ok (x1 x2 x3 z : Int32) {W Hh Wm Hm : Nat → Int32} {P Pm : Nat → Nat → Int32} (hW : ∀ k, k < 4 → Wm k = W k) (hH : ∀ k, k < 4 → Hm k = Hh k) (hw : ∀ k, k < 4 → ∃ w h : Nat, w ≤ 16384 ∧ h ≤ 16384 ∧ w * h ≤ 16384 ∧ W k = nI w ∧ Hh k = nI h ∧ ∀ j, j < w * h → Pm k j = P k j) :
    (∃ v : Int32, f_D_get x1 x2 x3 (W 3) (Hh 3) (W 2) (Hh 2) (W 1) (Hh 1) (W 0) (Hh 0) (P 3) (P 2) (P 1) (P 0) = some (.inl (v, ())) ∧ f_M_get x1 x2 x3 z Wm Hm (Pm 3) (Pm 2) (Pm 1) (Pm 0) = some (v, 0)) ∨
    (f_D_get x1 x2 x3 (W 3) (Hh 3) (W 2) (Hh 2) (W 1) (Hh 1) (W 0) (Hh 0) (P 3) (P 2) (P 1) (P 0) = some (.inr (1, ())) ∧ f_M_get x1 x2 x3 z Wm Hm (Pm 3) (Pm 2) (Pm 1) (Pm 0) = some (0, 1)) ∨
    (f_D_get x1 x2 x3 (W 3) (Hh 3) (W 2) (Hh 2) (W 1) (Hh 1) (W 0) (Hh 0) (P 3) (P 2) (P 1) (P 0) = some (.inr (2, ())) ∧ f_M_get x1 x2 x3 z Wm Hm (Pm 3) (Pm 2) (Pm 1) (Pm 0) = some (0, 2)) := by
  rcases slot_cases x1 with hx | ⟨k, hk, rfl⟩
  · right; left
    constructor
    · unfold f_D_get
      rw [slot_no hx]
      rfl
    · have e : f_M_place x1 x2 x3 0 Wm Hm = some (0, 1) := by
        unfold f_M_place
        by_cases h0 : x1 < 0
        · rw [if_pos h0]; rfl
        · rw [if_neg h0, if_neg (Int32.not_le.mpr (show (3 : Int32) < x1 from Int32.lt_of_lt_of_le (show (3 : Int32) < nI 4 by decide) (hx.resolve_left h0)))]
          rfl
      unfold f_M_get
      rw [e]
      rfl
  · obtain ⟨w, h, hw1, hh1, hwh, hw2, hh2, hP⟩ := hw k hk
    have hD : f_D_get (nI k) x2 x3 (W 3) (Hh 3) (W 2) (Hh 2) (W 1) (Hh 1) (W 0) (Hh 0) (P 3) (P 2) (P 1) (P 0) = if w = 0 then some (.inr (2, ())) else dc_bind (f_Picture_contains x2 x3 (nI w) (nI h)) (fun r => dc_try (f_D_requireArgument r.1) (fun _ => (if inb ((x3 * nI w) + x2) 16384 = true then some (.inl (P k ((x3 * nI w) + x2).toNatClampNeg, ())) else none)) (fun q => some (.inr (q.1, ())))) := by
      unfold f_D_get
      rw [slot_ok hk, q_tryL, held_ok hk W (by omega) hw2]
      by_cases h0 : w = 0
      · rw [if_pos h0, if_pos h0]; rfl
      · rw [if_neg h0, if_neg h0, q_tryL]
        refine (q_sel4N (α := (Int32 × Unit) ⊕ (Nat × Unit)) (fun i => dc_bind (f_Picture_contains x2 x3 (W i) (Hh i)) (fun r => dc_try (f_D_requireArgument r.1) (fun _ => (if inb ((x3 * W i) + x2) 16384 = true then some (.inl (P i ((x3 * W i) + x2).toNatClampNeg, ())) else none)) (fun q => some (.inr (q.1, ()))))) hk).trans ?_
        rw [hw2, hh2]
    by_cases h0 : w = 0
    · right; right
      rw [hD, if_pos h0]
      refine ⟨rfl, ?_⟩
      unfold f_M_get
      rw [place_0 hk ((hW k hk).trans hw2) h0]
      rfl
    · rw [hD, if_neg h0]
      rcases cont_ok hw1 hh1 x2 x3 with ⟨a, b, ha, hb, rfl, rfl, e⟩ | ⟨e, hbad⟩
      · left
        have hin := pt_in ha hb
        refine ⟨P k (b * w + a), ?_, ?_⟩
        · rw [e, q_bind]
          show dc_try (f_D_requireArgument 1) _ _ = _
          rw [show f_D_requireArgument 1 = some (.inl ((), ())) from rfl, q_tryL, pk_mul, nI_add, if_pos (q_inb (by omega) (by omega)), nI_clamp (by omega)]
        · unfold f_M_get
          rw [place_1 hk ((hW k hk).trans hw2) ((hH k hk).trans hh2) hw1 hh1 ha hb, q_bind]
          show (if (0 : Int32) = 0 then _ else _) = _
          rw [if_pos rfl]
          refine (q_sel4 (fun i => if inb (nI (b * w + a)) 16384 = true then some (Pm i (nI (b * w + a)).toNatClampNeg, (0 : Int32)) else none) hk).trans ?_
          show (if inb (nI (b * w + a)) 16384 = true then some (Pm k (nI (b * w + a)).toNatClampNeg, (0 : Int32)) else none) = _
          rw [if_pos (q_inb (by omega) (by omega)), nI_clamp (by omega), hP _ hin]
      · right; left
        constructor
        · rw [e, q_bind]
          rfl
        · unfold f_M_get
          rw [place_2 hk ((hW k hk).trans hw2) ((hH k hk).trans hh2) (by omega) hw1 hh1 hbad]
          rfl
