/-! the pure half: hash, set, count -/
def q_hs (P : Nat → Int32) : Nat → Nat → Int32 → Int32
  | _, 0, h => h
  | i, r + 1, h => q_hs P (i + 1) r (31 * h + P i)
theorem q_hs_eq {P Q : Nat → Int32} : ∀ (r i : Nat) (h : Int32), (∀ j, j < i + r → P j = Q j) → q_hs P i r h = q_hs Q i r h := by
  intro r
  induction r with
  | zero => intro i h _; rfl
  | succ r ih =>
    intro i h e
    show q_hs P (i + 1) r (31 * h + P i) = q_hs Q (i + 1) r (31 * h + Q i)
    rw [e i (by omega)]
    exact ih (i + 1) _ (fun j hj => e j (by omega))
theorem hashD_3 (K n : Nat) (hn : n ≤ 16384) (W Hh : Nat → Int32) (P : Nat → Nat → Int32) : ∀ (r i : Nat) (h : Int32) (q : Nat), i + r = n → r < q → f_D_hash_L21 K (W 3) (Hh 3) (W 2) (Hh 2) (W 1) (Hh 1) (W 0) (Hh 0) (P 3) (P 2) (P 1) (P 0) (nI n) q h (nI i) = some (q_hs (P 3) i r h) := by
  intro r
  induction r with
  | zero =>
    intro i h q hi hq
    obtain ⟨q, rfl⟩ : ∃ w, q = w + 1 := ⟨q - 1, by omega⟩
    show f_D_hash_21 K _ (W 3) (Hh 3) (W 2) (Hh 2) (W 1) (Hh 1) (W 0) (Hh 0) (P 3) (P 2) (P 1) (P 0) (nI n) h (nI i) = _
    unfold f_D_hash_21
    rw [if_pos (nI_le (by omega) (by omega))]
    rfl
  | succ r ih =>
    intro i h q hi hq
    obtain ⟨q, rfl⟩ : ∃ w, q = w + 1 := ⟨q - 1, by omega⟩
    show f_D_hash_21 K _ (W 3) (Hh 3) (W 2) (Hh 2) (W 1) (Hh 1) (W 0) (Hh 0) (P 3) (P 2) (P 1) (P 0) (nI n) h (nI i) = _
    unfold f_D_hash_21
    rw [if_neg (nI_ge (by omega) (by omega)), if_pos (q_inb (by omega) (by omega)), nI_clamp (by omega), nI_1, ih (i + 1) _ q (by omega) (by omega)]
    rfl
theorem hashD_2 (K n : Nat) (hn : n ≤ 16384) (W Hh : Nat → Int32) (P : Nat → Nat → Int32) : ∀ (r i : Nat) (h : Int32) (q : Nat), i + r = n → r < q → f_D_hash_L100021 K (W 3) (Hh 3) (W 2) (Hh 2) (W 1) (Hh 1) (W 0) (Hh 0) (P 3) (P 2) (P 1) (P 0) (nI n) q h (nI i) = some (q_hs (P 2) i r h) := by
  intro r
  induction r with
  | zero =>
    intro i h q hi hq
    obtain ⟨q, rfl⟩ : ∃ w, q = w + 1 := ⟨q - 1, by omega⟩
    show f_D_hash_100021 K _ (W 3) (Hh 3) (W 2) (Hh 2) (W 1) (Hh 1) (W 0) (Hh 0) (P 3) (P 2) (P 1) (P 0) (nI n) h (nI i) = _
    unfold f_D_hash_100021
    rw [if_pos (nI_le (by omega) (by omega))]
    rfl
  | succ r ih =>
    intro i h q hi hq
    obtain ⟨q, rfl⟩ : ∃ w, q = w + 1 := ⟨q - 1, by omega⟩
    show f_D_hash_100021 K _ (W 3) (Hh 3) (W 2) (Hh 2) (W 1) (Hh 1) (W 0) (Hh 0) (P 3) (P 2) (P 1) (P 0) (nI n) h (nI i) = _
    unfold f_D_hash_100021
    rw [if_neg (nI_ge (by omega) (by omega)), if_pos (q_inb (by omega) (by omega)), nI_clamp (by omega), nI_1, ih (i + 1) _ q (by omega) (by omega)]
    rfl
theorem hashD_1 (K n : Nat) (hn : n ≤ 16384) (W Hh : Nat → Int32) (P : Nat → Nat → Int32) : ∀ (r i : Nat) (h : Int32) (q : Nat), i + r = n → r < q → f_D_hash_L200021 K (W 3) (Hh 3) (W 2) (Hh 2) (W 1) (Hh 1) (W 0) (Hh 0) (P 3) (P 2) (P 1) (P 0) (nI n) q h (nI i) = some (q_hs (P 1) i r h) := by
  intro r
  induction r with
  | zero =>
    intro i h q hi hq
    obtain ⟨q, rfl⟩ : ∃ w, q = w + 1 := ⟨q - 1, by omega⟩
    show f_D_hash_200021 K _ (W 3) (Hh 3) (W 2) (Hh 2) (W 1) (Hh 1) (W 0) (Hh 0) (P 3) (P 2) (P 1) (P 0) (nI n) h (nI i) = _
    unfold f_D_hash_200021
    rw [if_pos (nI_le (by omega) (by omega))]
    rfl
  | succ r ih =>
    intro i h q hi hq
    obtain ⟨q, rfl⟩ : ∃ w, q = w + 1 := ⟨q - 1, by omega⟩
    show f_D_hash_200021 K _ (W 3) (Hh 3) (W 2) (Hh 2) (W 1) (Hh 1) (W 0) (Hh 0) (P 3) (P 2) (P 1) (P 0) (nI n) h (nI i) = _
    unfold f_D_hash_200021
    rw [if_neg (nI_ge (by omega) (by omega)), if_pos (q_inb (by omega) (by omega)), nI_clamp (by omega), nI_1, ih (i + 1) _ q (by omega) (by omega)]
    rfl
theorem hashD_0 (K n : Nat) (hn : n ≤ 16384) (W Hh : Nat → Int32) (P : Nat → Nat → Int32) : ∀ (r i : Nat) (h : Int32) (q : Nat), i + r = n → r < q → f_D_hash_L300021 K (W 3) (Hh 3) (W 2) (Hh 2) (W 1) (Hh 1) (W 0) (Hh 0) (P 3) (P 2) (P 1) (P 0) (nI n) q h (nI i) = some (q_hs (P 0) i r h) := by
  intro r
  induction r with
  | zero =>
    intro i h q hi hq
    obtain ⟨q, rfl⟩ : ∃ w, q = w + 1 := ⟨q - 1, by omega⟩
    show f_D_hash_300021 K _ (W 3) (Hh 3) (W 2) (Hh 2) (W 1) (Hh 1) (W 0) (Hh 0) (P 3) (P 2) (P 1) (P 0) (nI n) h (nI i) = _
    unfold f_D_hash_300021
    rw [if_pos (nI_le (by omega) (by omega))]
    rfl
  | succ r ih =>
    intro i h q hi hq
    obtain ⟨q, rfl⟩ : ∃ w, q = w + 1 := ⟨q - 1, by omega⟩
    show f_D_hash_300021 K _ (W 3) (Hh 3) (W 2) (Hh 2) (W 1) (Hh 1) (W 0) (Hh 0) (P 3) (P 2) (P 1) (P 0) (nI n) h (nI i) = _
    unfold f_D_hash_300021
    rw [if_neg (nI_ge (by omega) (by omega)), if_pos (q_inb (by omega) (by omega)), nI_clamp (by omega), nI_1, ih (i + 1) _ q (by omega) (by omega)]
    rfl
theorem hashM_L (K n k w h : Nat) (hk : k < 4) (hn : n ≤ 16384) (hwh : w * h = n) (z : Int32) {Wm Hm : Nat → Int32} (hW : Wm k = nI w) (hH : Hm k = nI h) (P : Nat → Nat → Int32) : ∀ (r i : Nat) (v : Int32) (q : Nat), i + r = n → r < q → f_M_hash_L39 K z Wm Hm (P 3) (P 2) (P 1) (P 0) (nI k) q v (nI i) = some (q_hs (P k) i r v) := by
  intro r
  induction r with
  | zero =>
    intro i v q hi hq
    obtain ⟨q, rfl⟩ : ∃ w, q = w + 1 := ⟨q - 1, by omega⟩
    show f_M_hash_39 K _ z Wm Hm (P 3) (P 2) (P 1) (P 0) (nI k) v (nI i) = _
    unfold f_M_hash_39
    rw [if_pos (q_inb hk (by omega)), if_pos (q_inb hk (by omega)), nI_clamp (by omega), hW, hH, pk_mul, hwh, if_pos (nI_le (by omega) (by omega))]
    rfl
  | succ r ih =>
    intro i v q hi hq
    obtain ⟨q, rfl⟩ : ∃ w, q = w + 1 := ⟨q - 1, by omega⟩
    show f_M_hash_39 K _ z Wm Hm (P 3) (P 2) (P 1) (P 0) (nI k) v (nI i) = _
    unfold f_M_hash_39
    rw [if_pos (q_inb hk (by omega)), if_pos (q_inb hk (by omega)), nI_clamp (show k < 2 ^ 31 by omega), hW, hH, pk_mul, hwh, if_neg (nI_ge (by omega) (by omega))]
    refine (q_sel4 (fun j => if inb (nI i) 16384 = true then f_M_hash_L39 K z Wm Hm (P 3) (P 2) (P 1) (P 0) (nI k) q (31 * v + P j (nI i).toNatClampNeg) (nI i + 1) else none) hk).trans ?_
    show (if inb (nI i) 16384 = true then f_M_hash_L39 K z Wm Hm (P 3) (P 2) (P 1) (P 0) (nI k) q (31 * v + P k (nI i).toNatClampNeg) (nI i + 1) else none) = _
    rw [if_pos (q_inb (by omega) (by omega)), nI_clamp (by omega), nI_1, ih (i + 1) _ q (by omega) (by omega)]
    rfl
theorem hash_ok {K : Nat} (hK : 16384 < K) (x1 z : Int32) {W Hh Wm Hm : Nat → Int32} {P Pm : Nat → Nat → Int32} (hW : ∀ k, k < 4 → Wm k = W k) (hH : ∀ k, k < 4 → Hm k = Hh k) (hw : ∀ k, k < 4 → ∃ w h : Nat, w ≤ 16384 ∧ h ≤ 16384 ∧ w * h ≤ 16384 ∧ W k = nI w ∧ Hh k = nI h ∧ ∀ j, j < w * h → Pm k j = P k j) :
    (∃ v : Int32, f_D_hash K x1 (W 3) (Hh 3) (W 2) (Hh 2) (W 1) (Hh 1) (W 0) (Hh 0) (P 3) (P 2) (P 1) (P 0) = some (.inl (v, ())) ∧ f_M_hash K x1 z Wm Hm (Pm 3) (Pm 2) (Pm 1) (Pm 0) = some (v, 0)) ∨
    (f_D_hash K x1 (W 3) (Hh 3) (W 2) (Hh 2) (W 1) (Hh 1) (W 0) (Hh 0) (P 3) (P 2) (P 1) (P 0) = some (.inr (1, ())) ∧ f_M_hash K x1 z Wm Hm (Pm 3) (Pm 2) (Pm 1) (Pm 0) = some (0, 1)) ∨
    (f_D_hash K x1 (W 3) (Hh 3) (W 2) (Hh 2) (W 1) (Hh 1) (W 0) (Hh 0) (P 3) (P 2) (P 1) (P 0) = some (.inr (2, ())) ∧ f_M_hash K x1 z Wm Hm (Pm 3) (Pm 2) (Pm 1) (Pm 0) = some (0, 2)) := by
  rcases slot_cases x1 with hx | ⟨k, hk, rfl⟩
  · right; left
    constructor
    · unfold f_D_hash
      rw [slot_no hx]
      rfl
    · unfold f_M_hash
      by_cases h0 : x1 < 0
      · rw [if_pos h0]; rfl
      · rw [if_neg h0, if_neg (Int32.not_le.mpr (show (3 : Int32) < x1 from Int32.lt_of_lt_of_le (show (3 : Int32) < nI 4 by decide) (hx.resolve_left h0)))]
        rfl
  · obtain ⟨w, h, hw1, hh1, hwh, hw2, hh2, hP⟩ := hw k hk
    have eM : f_M_hash K (nI k) z Wm Hm (Pm 3) (Pm 2) (Pm 1) (Pm 0) = if w = 0 then some (0, 2) else some (q_hs (P k) 0 (w * h) 1, 0) := by
      unfold f_M_hash
      rw [if_neg (nI_pos (by omega)), if_pos (show nI k ≤ (3 : Int32) from show nI k ≤ nI 3 from nI_le (by omega) (by omega)), if_pos (q_inb hk (by omega)), nI_clamp (by omega), hW k hk, hw2]
      by_cases h0 : w = 0
      · subst h0
        rw [if_pos n00, if_pos rfl]; rfl
      · have hl := hashM_L K (w * h) k w h hk hwh rfl 0 ((hW k hk).trans hw2) ((hH k hk).trans hh2) Pm (w * h) 0 1 K (by omega) (by omega)
        rw [if_neg (nI_ne0 (by omega) (by omega)), if_neg h0, show f_M_hash_L39 K 0 Wm Hm (Pm 3) (Pm 2) (Pm 1) (Pm 0) (nI k) K 1 0 = _ from hl, q_bind, q_hs_eq (Q := P k) (w * h) 0 1 (fun j hj => hP j (by omega))]
    have eD : f_D_hash K (nI k) (W 3) (Hh 3) (W 2) (Hh 2) (W 1) (Hh 1) (W 0) (Hh 0) (P 3) (P 2) (P 1) (P 0) = if w = 0 then some (.inr (2, ())) else some (.inl (q_hs (P k) 0 (w * h) 1, ())) := by
      unfold f_D_hash
      rw [slot_ok hk, q_tryL, held_ok hk W (by omega) hw2]
      by_cases h0 : w = 0
      · rw [if_pos h0, if_pos h0]; rfl
      · rw [if_neg h0, if_neg h0, q_tryL]
        have ht : f_Picture_total (W k) (Hh k) = some (nI (w * h), ()) := by unfold f_Picture_total; rw [hw2, hh2, pk_mul]
        match k, hk, ht with
        | 0, _, ht =>
          have hl := hashD_0 K (w * h) hwh W Hh P (w * h) 0 1 K (by omega) (by omega)
          refine Eq.trans (if_pos rfl) ?_
          rw [ht, q_bind]
          show dc_bind (f_D_hash_L300021 K (W 3) (Hh 3) (W 2) (Hh 2) (W 1) (Hh 1) (W 0) (Hh 0) (P 3) (P 2) (P 1) (P 0) (nI (w * h)) K 1 0) _ = _
          rw [show f_D_hash_L300021 K (W 3) (Hh 3) (W 2) (Hh 2) (W 1) (Hh 1) (W 0) (Hh 0) (P 3) (P 2) (P 1) (P 0) (nI (w * h)) K 1 0 = _ from hl]
          rfl
        | 1, _, ht =>
          have hl := hashD_1 K (w * h) hwh W Hh P (w * h) 0 1 K (by omega) (by omega)
          refine Eq.trans (if_neg (show ¬ (1 : Nat) = 0 by decide)) (Eq.trans (if_pos rfl) ?_)
          rw [ht, q_bind]
          show dc_bind (f_D_hash_L200021 K (W 3) (Hh 3) (W 2) (Hh 2) (W 1) (Hh 1) (W 0) (Hh 0) (P 3) (P 2) (P 1) (P 0) (nI (w * h)) K 1 0) _ = _
          rw [show f_D_hash_L200021 K (W 3) (Hh 3) (W 2) (Hh 2) (W 1) (Hh 1) (W 0) (Hh 0) (P 3) (P 2) (P 1) (P 0) (nI (w * h)) K 1 0 = _ from hl]
          rfl
        | 2, _, ht =>
          have hl := hashD_2 K (w * h) hwh W Hh P (w * h) 0 1 K (by omega) (by omega)
          refine Eq.trans (if_neg (show ¬ (2 : Nat) = 0 by decide)) (Eq.trans (if_neg (show ¬ (2 : Nat) = 1 by decide)) (Eq.trans (if_pos rfl) ?_))
          rw [ht, q_bind]
          show dc_bind (f_D_hash_L100021 K (W 3) (Hh 3) (W 2) (Hh 2) (W 1) (Hh 1) (W 0) (Hh 0) (P 3) (P 2) (P 1) (P 0) (nI (w * h)) K 1 0) _ = _
          rw [show f_D_hash_L100021 K (W 3) (Hh 3) (W 2) (Hh 2) (W 1) (Hh 1) (W 0) (Hh 0) (P 3) (P 2) (P 1) (P 0) (nI (w * h)) K 1 0 = _ from hl]
          rfl
        | 3, _, ht =>
          have hl := hashD_3 K (w * h) hwh W Hh P (w * h) 0 1 K (by omega) (by omega)
          refine Eq.trans (if_neg (show ¬ (3 : Nat) = 0 by decide)) (Eq.trans (if_neg (show ¬ (3 : Nat) = 1 by decide)) (Eq.trans (if_neg (show ¬ (3 : Nat) = 2 by decide)) (Eq.trans (if_pos rfl) ?_)))
          rw [ht, q_bind]
          show dc_bind (f_D_hash_L21 K (W 3) (Hh 3) (W 2) (Hh 2) (W 1) (Hh 1) (W 0) (Hh 0) (P 3) (P 2) (P 1) (P 0) (nI (w * h)) K 1 0) _ = _
          rw [show f_D_hash_L21 K (W 3) (Hh 3) (W 2) (Hh 2) (W 1) (Hh 1) (W 0) (Hh 0) (P 3) (P 2) (P 1) (P 0) (nI (w * h)) K 1 0 = _ from hl]
          rfl
        | k + 4, h, _ => exact absurd h (by omega)
    rw [eD, eM]
    by_cases h0 : w = 0
    · rw [if_pos h0, if_pos h0]; exact Or.inr (Or.inr ⟨rfl, rfl⟩)
    · rw [if_neg h0, if_neg h0]; exact Or.inl ⟨_, rfl, rfl⟩
