/-! the pure half: PNG's rows, filtered -/
theorem i_1 (a b c : Int32) : ((a + b) - c) - a = b - c := by
  apply Int32.toBitVec_inj.mp
  apply BitVec.eq_of_toNat_eq
  have h1 := a.toBitVec.isLt
  have h2 := b.toBitVec.isLt
  have h3 := c.toBitVec.isLt
  simp only [Int32.toBitVec_sub, Int32.toBitVec_add, BitVec.toNat_sub, BitVec.toNat_add]
  omega
theorem i_2 (a b c : Int32) : ((a + b) - c) - b = a - c := by
  apply Int32.toBitVec_inj.mp
  apply BitVec.eq_of_toNat_eq
  have h1 := a.toBitVec.isLt
  have h2 := b.toBitVec.isLt
  have h3 := c.toBitVec.isLt
  simp only [Int32.toBitVec_sub, Int32.toBitVec_add, BitVec.toNat_sub, BitVec.toNat_add]
  omega
theorem i_3 (a b c : Int32) : ((a + b) - c) - c = (a + b) - 2 * c := by
  apply Int32.toBitVec_inj.mp
  apply BitVec.eq_of_toNat_eq
  have h1 := a.toBitVec.isLt
  have h2 := b.toBitVec.isLt
  have h3 := c.toBitVec.isLt
  simp only [Int32.toBitVec_sub, Int32.toBitVec_add, Int32.toBitVec_mul, BitVec.toNat_sub, BitVec.toNat_add, BitVec.toNat_mul]
  rw [show (2 : Int32).toBitVec.toNat = 2 from rfl]
  omega
theorem guess_some (f a b c : Int32) : ∃ v, f_M_guess f a b c = some (v, ()) := by
  unfold f_M_guess f_M_guess_83 f_M_guess_95
  by_cases c0 : f = 0
  · exact ⟨0, if_pos c0⟩
  · rw [if_neg c0]
    by_cases c1 : f = 1
    · exact ⟨a, if_pos c1⟩
    · rw [if_neg c1]
      by_cases c2 : f = 2
      · exact ⟨b, if_pos c2⟩
      · rw [if_neg c2]
        by_cases c3 : f = 3
        · exact ⟨(a + b) / 2, if_pos c3⟩
        · rw [if_neg c3]
          generalize (if 0 ≤ (((a + b) - c) - b) then (((a + b) - c) - b) else 0 - (((a + b) - c) - b)) = db
          generalize (if 0 ≤ (((a + b) - c) - a) then (((a + b) - c) - a) else 0 - (((a + b) - c) - a)) = da
          generalize (if 0 ≤ (((a + b) - c) - c) then (((a + b) - c) - c) else 0 - (((a + b) - c) - c)) = dc
          by_cases d1 : db < da
          · rw [if_pos d1]
            by_cases d2 : dc < db
            · exact ⟨c, if_pos d2⟩
            · exact ⟨b, if_neg d2⟩
          · rw [if_neg d1]
            by_cases d3 : dc < da
            · rw [if_pos d3]
              by_cases d2 : dc < db
              · exact ⟨c, if_pos d2⟩
              · exact ⟨b, if_neg d2⟩
            · exact ⟨a, if_neg d3⟩
def gs (f a b c : Int32) : Int32 := ((f_M_guess f a b c).getD (0, ())).1
theorem gs_ok (f a b c : Int32) : f_M_guess f a b c = some (gs f a b c, ()) := by
  obtain ⟨v, hv⟩ := guess_some f a b c
  unfold gs
  rw [hv]
  rfl
theorem pred_ok {f : Nat} (hf : f ≤ 4) (a b c : Int32) : f_PngReader_predicted (nI f) a b c = some (gs (nI f) a b c, ()) := by
  rw [← gs_ok]
  have h : f = 0 ∨ f = 1 ∨ f = 2 ∨ f = 3 ∨ f = 4 := by omega
  rcases h with rfl | rfl | rfl | rfl | rfl
  · unfold f_PngReader_predicted f_M_guess
    rw [if_neg (by decide), if_neg (by decide), if_neg (by decide), if_neg (by decide), if_pos (by decide)]
  · unfold f_PngReader_predicted f_M_guess
    rw [if_pos (by decide), if_neg (by decide), if_pos (by decide)]
  · unfold f_PngReader_predicted f_M_guess
    rw [if_neg (by decide), if_pos (by decide), if_neg (by decide), if_neg (by decide), if_pos (by decide)]
  · unfold f_PngReader_predicted f_M_guess
    rw [if_neg (by decide), if_neg (by decide), if_pos (by decide), if_neg (by decide), if_neg (by decide), if_neg (by decide), if_pos (by decide)]
  · unfold f_PngReader_predicted f_M_guess
    rw [if_neg (by decide), if_neg (by decide), if_neg (by decide), if_pos (by decide), if_neg (by decide), if_neg (by decide), if_neg (by decide), if_neg (by decide)]
    unfold f_PngReader_nearest f_PngReader_nearest_41 f_PngReader_nearest_53 f_M_guess_83 f_M_guess_95
    rw [i_1, i_2, i_3]
    generalize (if 0 ≤ b - c then b - c else 0 - (b - c)) = da
    generalize (if 0 ≤ a - c then a - c else 0 - (a - c)) = db
    generalize (if 0 ≤ (a + b) - 2 * c then (a + b) - 2 * c else 0 - ((a + b) - 2 * c)) = dc
    by_cases d1 : db < da
    · rw [if_pos d1]
      by_cases d2 : dc < db
      · rw [if_pos d2]; rfl
      · rw [if_neg d2]; rfl
    · rw [if_neg d1]
      by_cases d3 : dc < da
      · rw [if_pos d3]
        by_cases d2 : dc < db
        · rw [if_pos d2]; rfl
        · rw [if_neg d2]; rfl
      · rw [if_neg d3]; rfl
/-- byte j of the image -/
def pb (P : Nat → Int32) (j : Nat) : Int32 := (P (j / 4) >>> (nI (24 - 8 * (j % 4)) &&& 31)) &&& 255
def fA (P : Nat → Int32) (w y i : Nat) : Int32 := if 4 ≤ i then pb P (4 * w * y + i - 4) else 0
def fB (P : Nat → Int32) (w y i : Nat) : Int32 := if 0 < y then pb P (4 * w * (y - 1) + i) else 0
def fC (P : Nat → Int32) (w y i : Nat) : Int32 := if 0 < y ∧ 4 ≤ i then pb P (4 * w * (y - 1) + i - 4) else 0
def fb (P : Nat → Int32) (w y : Nat) (f : Int32) (i : Nat) : Int32 := q_by (pb P (4 * w * y + i) - gs f (fA P w y i) (fB P w y i) (fC P w y i))
def ab (v : Int32) : Int32 := if 0 ≤ v then v else 0 - v
def fsum (P : Nat → Int32) (w y : Nat) (f : Int32) : Nat → Int32
  | 0 => 0
  | i + 1 => fsum P w y f i + ab (fb P w y f i)
def FR (P : Nat → Int32) (w y at0 : Nat) (f : Int32) (r0 : Nat → Int32) (i : Nat) (r : Nat → Int32) : Prop := (∀ j, j < at0 → r j = r0 j) ∧ r at0 = q_by f ∧ ∀ k, k < i → r (at0 + 1 + k) = fb P w y f k
theorem FR_s {P : Nat → Int32} {w y at0 i : Nat} {f : Int32} {r0 r : Nat → Int32} (h : FR P w y at0 f r0 i r) : FR P w y at0 f r0 (i + 1) (upd r (at0 + 1 + i) (fb P w y f i)) := by
  obtain ⟨h1, h2, h3⟩ := h
  refine ⟨fun j hj => ?_, ?_, fun k hk => ?_⟩
  · rw [upd_ne _ _ (by omega)]; exact h1 j hj
  · rw [upd_ne _ _ (by omega)]; exact h2
  · by_cases e : k = i
    · rw [e, upd_at]
    · rw [upd_ne _ _ (by omega)]; exact h3 k (by omega)
theorem FR_0 (P : Nat → Int32) (w y at0 : Nat) (f : Int32) (r0 : Nat → Int32) : FR P w y at0 f r0 0 (upd r0 at0 (q_by f)) := ⟨fun j hj => upd_ne _ _ (by omega), upd_at _ _ _, fun k hk => absurd hk (Nat.not_lt_zero _)⟩
theorem four_wy (w y x k : Nat) (hk : k < 4) : (4 * w * y + (4 * x + k)) / 4 = y * w + x ∧ (4 * w * y + (4 * x + k)) % 4 = k := by
  have e : 4 * w * y = 4 * (y * w) := by rw [Nat.mul_assoc, Nat.mul_comm w y]
  rw [e]
  omega
theorem pb_at (P : Nat → Int32) (w y x : Nat) {k : Nat} (hk : k < 4) : pb P (4 * w * y + (4 * x + k)) = (P (y * w + x) >>> (nI (24 - 8 * k) &&& 31)) &&& 255 := by
  unfold pb
  obtain ⟨h1, h2⟩ := four_wy w y x k hk
  rw [h1, h2]
theorem zero_byte : ∀ k, k < 4 → ((0 : Int32) >>> (nI (24 - 8 * k) &&& 31)) &&& 255 = 0 := by decide +kernel
theorem filtD_in {K w y x at0 : Nat} {f : Nat} (hf : f ≤ 4) (P r0 : Nat → Int32) (p a b c : Int32) (hb : at0 + 1 + 4 * w ≤ 147456) (hx : x < w) (hp : ∀ k, k < 4 → (p >>> (nI (24 - 8 * k) &&& 31)) &&& 255 = pb P (4 * w * y + (4 * x + k))) (ha : ∀ k, k < 4 → (a >>> (nI (24 - 8 * k) &&& 31)) &&& 255 = fA P w y (4 * x + k)) (hb2 : ∀ k, k < 4 → (b >>> (nI (24 - 8 * k) &&& 31)) &&& 255 = fB P w y (4 * x + k)) (hc : ∀ k, k < 4 → (c >>> (nI (24 - 8 * k) &&& 31)) &&& 255 = fC P w y (4 * x + k)) (x2 : Int32) (P' : Nat → Int32) (w' : Int32) :
    ∀ (n k q : Nat) (r : Nat → Int32), k + n = 4 → n < q → FR P w y at0 (nI f) r0 (4 * x + k) r → ∃ r', FR P w y at0 (nI f) r0 (4 * x + 4) r' ∧ f_PngWriter_filterRow_L118 K w' P' x2 (nI f) (nI at0) (nI x) p a b c q r (fsum P w y (nI f) (4 * x + k)) (nI k) = some (r', fsum P w y (nI f) (4 * x + 4)) := by
  intro n
  induction n with
  | zero =>
    intro k q r hk hq hr
    obtain ⟨q, rfl⟩ : ∃ w, q = w + 1 := ⟨q - 1, by omega⟩
    have e : k = 4 := by omega
    subst e
    refine ⟨r, hr, ?_⟩
    show f_PngWriter_filterRow_118 K _ r w' P' x2 (nI f) (nI at0) (fsum P w y (nI f) (4 * x + 4)) (nI x) p a b c (nI 4) = _
    unfold f_PngWriter_filterRow_118
    rw [if_pos (by decide)]
  | succ n ih =>
    intro k q r hk hq hr
    obtain ⟨q, rfl⟩ : ∃ w, q = w + 1 := ⟨q - 1, by omega⟩
    obtain ⟨r', g1, g2⟩ := ih (k + 1) q _ (by omega) (by omega) (FR_s hr)
    refine ⟨r', g1, ?_⟩
    have e : (24 : Int32) - 8 * nI k = nI (24 - 8 * k) := by
      rw [show (8 : Int32) * nI k = nI (8 * k) from pk_mul 8 k]
      exact pk_sub (a := 24) (by omega)
    have e2 : (nI at0 + 1) + (4 * nI x) + nI k = nI (at0 + 1 + (4 * x + k)) := by
      rw [show (4 : Int32) * nI x = nI (4 * x) from pk_mul 4 x, nI_1, nI_add, nI_add, Nat.add_assoc]
    show f_PngWriter_filterRow_118 K _ r w' P' x2 (nI f) (nI at0) (fsum P w y (nI f) (4 * x + k)) (nI x) p a b c (nI k) = _
    unfold f_PngWriter_filterRow_118
    rw [if_neg (show ¬ (4 : Int32) ≤ nI k from show ¬ nI 4 ≤ nI k from nI_ge (by omega) (by omega)), e, hp k (by omega), ha k (by omega), hb2 k (by omega), hc k (by omega), pred_ok hf, q_bind, e2, if_pos (q_inb (by omega) (by omega)), nI_clamp (by omega), q_by2, nI_1]
    exact g2
theorem at_le {w h y : Nat} (hwh : w * h ≤ 16384) (hw0 : 0 < w) (hy : y < h) : y * (4 * w + 1) + (1 + 4 * w) ≤ 81920 := by
  have h1 : (y + 1) * (4 * w + 1) ≤ h * (4 * w + 1) := Nat.mul_le_mul_right _ hy
  have h2 : h * (4 * w + 1) = 4 * (w * h) + h := by
    rw [Nat.mul_add, Nat.mul_left_comm, Nat.mul_comm h w, Nat.mul_one]
  have h3 : h ≤ w * h := Nat.le_mul_of_pos_left h hw0
  rw [Nat.succ_mul] at h1
  omega
theorem filtD {K w h y at0 f : Nat} (hK : 16385 < K) (hf : f ≤ 4) (hw0 : 0 < w) (hwh : w * h ≤ 16384) (hy : y < h) (hat : at0 = y * (4 * w + 1)) (P r0 : Nat → Int32) : ∃ r', FR P w y at0 (nI f) r0 (4 * w) r' ∧ f_PngWriter_filterRow K (nI y) (nI f) (nI at0) r0 (nI w) P = some (fsum P w y (nI f) (4 * w), r') := by
  have hal := at_le hwh hw0 hy
  have hrow := row_in (w := w) hy
  have hw : w ≤ 16384 := by omega
  have hyl : y < 16384 := Nat.lt_of_lt_of_le hy (Nat.le_trans (Nat.le_mul_of_pos_left h hw0) hwh)
  have hl := loop_inv (c := w) (fun q (s : (Nat → Int32) × Int32) x => f_PngWriter_filterRow_L15 K (nI w) P (nI y) (nI f) (nI at0) q s.1 s.2 x) (fun x s => FR P w y at0 (nI f) r0 (4 * x) s.1 ∧ s.2 = fsum P w y (nI f) (4 * x)) (fun q s hI => ?_) (fun q x s hx hI => ?_) w 0 (upd r0 at0 (q_by (nI f)), 0) K (by omega) (by omega) ⟨FR_0 P w y at0 (nI f) r0, rfl⟩
  · obtain ⟨s', ⟨h1, h2⟩, h3⟩ := hl
    refine ⟨s'.1, h1, ?_⟩
    unfold f_PngWriter_filterRow
    rw [if_pos (q_inb (by omega) (by omega)), nI_clamp (by omega), q_by2, show f_PngWriter_filterRow_L15 K (nI w) P (nI y) (nI f) (nI at0) K (upd r0 at0 (q_by (nI f))) 0 0 = _ from h3, q_bind, h2]
  · show f_PngWriter_filterRow_15 K _ s.1 (nI w) P (nI y) (nI f) (nI at0) s.2 (nI w) = _
    unfold f_PngWriter_filterRow_15
    rw [if_pos (nI_le (by omega) (by omega))]
  · obtain ⟨h1, h2⟩ := hI
    have e0 : 0 < y → (y - 1) * w + x = y * w + x - w := by
      intro h0
      obtain ⟨z, rfl⟩ : ∃ z, y = z + 1 := ⟨y - 1, by omega⟩
      rw [Nat.succ_mul, Nat.add_sub_cancel]
      omega
    have hyw : 0 < y → w ≤ y * w := fun h0 => Nat.le_mul_of_pos_left w h0
    have hgo : ∀ (a b c : Int32), (∀ k, k < 4 → (a >>> (nI (24 - 8 * k) &&& 31)) &&& 255 = fA P w y (4 * x + k)) → (∀ k, k < 4 → (b >>> (nI (24 - 8 * k) &&& 31)) &&& 255 = fB P w y (4 * x + k)) → (∀ k, k < 4 → (c >>> (nI (24 - 8 * k) &&& 31)) &&& 255 = fC P w y (4 * x + k)) → ∃ s' : (Nat → Int32) × Int32, (FR P w y at0 (nI f) r0 (4 * (x + 1)) s'.1 ∧ s'.2 = fsum P w y (nI f) (4 * (x + 1))) ∧ f_PngWriter_filterRow_113 K (f_PngWriter_filterRow_L15 K (nI w) P (nI y) (nI f) (nI at0) q) s.1 (nI w) P (nI y) (nI f) (nI at0) s.2 (nI x) (P (y * w + x)) a b c = f_PngWriter_filterRow_L15 K (nI w) P (nI y) (nI f) (nI at0) q s'.1 s'.2 (nI (x + 1)) := by
      intro a b c ha hb hc
      obtain ⟨r', g1, g2⟩ := filtD_in (K := K) (w := w) (y := y) (x := x) (at0 := at0) hf P r0 (P (y * w + x)) a b c (by omega) hx (fun k hk => (pb_at P w y x hk).symm) ha hb hc (nI y) P (nI w) 4 0 K s.1 (by omega) (by omega) h1
      refine ⟨(r', fsum P w y (nI f) (4 * (x + 1))), ⟨g1, rfl⟩, ?_⟩
      unfold f_PngWriter_filterRow_113
      rw [h2, show f_PngWriter_filterRow_L118 K (nI w) P (nI y) (nI f) (nI at0) (nI x) (P (y * w + x)) a b c K s.1 (fsum P w y (nI f) (4 * x)) 0 = _ from g2, q_bind, nI_1]
      rfl
    have hA0 : x = 0 → ∀ k, k < 4 → ((0 : Int32) >>> (nI (24 - 8 * k) &&& 31)) &&& 255 = fA P w y (4 * x + k) := by
      intro h0 k hk
      unfold fA
      rw [if_neg (by omega)]
      exact zero_byte k hk
    have hA1 : 0 < x → ∀ k, k < 4 → (P (y * w + x - 1) >>> (nI (24 - 8 * k) &&& 31)) &&& 255 = fA P w y (4 * x + k) := by
      intro h0 k hk
      unfold fA
      rw [if_pos (by omega), show 4 * w * y + (4 * x + k) - 4 = 4 * w * y + (4 * (x - 1) + k) by omega, pb_at P w y (x - 1) hk, show y * w + (x - 1) = y * w + x - 1 by omega]
    have hB0 : y = 0 → ∀ k, k < 4 → ((0 : Int32) >>> (nI (24 - 8 * k) &&& 31)) &&& 255 = fB P w y (4 * x + k) := by
      intro h0 k hk
      unfold fB
      rw [if_neg (by omega)]
      exact zero_byte k hk
    have hB1 : 0 < y → ∀ k, k < 4 → (P (y * w + x - w) >>> (nI (24 - 8 * k) &&& 31)) &&& 255 = fB P w y (4 * x + k) := by
      intro h0 k hk
      unfold fB
      rw [if_pos h0, pb_at P w (y - 1) x hk, e0 h0]
    have hC0 : (x = 0 ∨ y = 0) → ∀ k, k < 4 → ((0 : Int32) >>> (nI (24 - 8 * k) &&& 31)) &&& 255 = fC P w y (4 * x + k) := by
      intro h0 k hk
      unfold fC
      rw [if_neg (by omega)]
      exact zero_byte k hk
    have hC1 : 0 < x → 0 < y → ∀ k, k < 4 → (P (y * w + x - w - 1) >>> (nI (24 - 8 * k) &&& 31)) &&& 255 = fC P w y (4 * x + k) := by
      intro h0 h0y k hk
      have e3 := e0 h0y
      unfold fC
      rw [if_pos ⟨h0y, by omega⟩, show 4 * w * (y - 1) + (4 * x + k) - 4 = 4 * w * (y - 1) + (4 * (x - 1) + k) by omega, pb_at P w (y - 1) (x - 1) hk, show (y - 1) * w + (x - 1) = y * w + x - w - 1 by omega]
    have hstep : ∃ a b c, (∀ k, k < 4 → (a >>> (nI (24 - 8 * k) &&& 31)) &&& 255 = fA P w y (4 * x + k)) ∧ (∀ k, k < 4 → (b >>> (nI (24 - 8 * k) &&& 31)) &&& 255 = fB P w y (4 * x + k)) ∧ (∀ k, k < 4 → (c >>> (nI (24 - 8 * k) &&& 31)) &&& 255 = fC P w y (4 * x + k)) ∧ f_PngWriter_filterRow_L15 K (nI w) P (nI y) (nI f) (nI at0) (q + 1) s.1 s.2 (nI x) = f_PngWriter_filterRow_113 K (f_PngWriter_filterRow_L15 K (nI w) P (nI y) (nI f) (nI at0) q) s.1 (nI w) P (nI y) (nI f) (nI at0) s.2 (nI x) (P (y * w + x)) a b c := by
      have h62 : ∀ a : Int32, ∃ b c, (∀ k, k < 4 → (b >>> (nI (24 - 8 * k) &&& 31)) &&& 255 = fB P w y (4 * x + k)) ∧ (∀ k, k < 4 → (c >>> (nI (24 - 8 * k) &&& 31)) &&& 255 = fC P w y (4 * x + k)) ∧ f_PngWriter_filterRow_62 K (f_PngWriter_filterRow_L15 K (nI w) P (nI y) (nI f) (nI at0) q) s.1 (nI w) P (nI y) (nI f) (nI at0) s.2 (nI x) (nI (y * w + x)) (P (y * w + x)) a = f_PngWriter_filterRow_113 K (f_PngWriter_filterRow_L15 K (nI w) P (nI y) (nI f) (nI at0) q) s.1 (nI w) P (nI y) (nI f) (nI at0) s.2 (nI x) (P (y * w + x)) a b c := by
        intro a
        by_cases cy : y = 0
        · refine ⟨0, 0, hB0 cy, hC0 (.inr cy), ?_⟩
          unfold f_PngWriter_filterRow_62
          rw [if_pos (show nI y ≤ 0 by rw [cy]; decide)]
          unfold f_PngWriter_filterRow_84 f_PngWriter_filterRow_112
          by_cases cx : x = 0
          · rw [if_pos (show nI x ≤ 0 by rw [cx]; decide)]
          · rw [if_neg (nI_nle (by omega) (by omega)), if_pos (show nI y ≤ 0 by rw [cy]; decide)]
        · have hyw2 := hyw (by omega)
          by_cases cx : x = 0
          · refine ⟨P (y * w + x - w), 0, hB1 (by omega), hC0 (.inl cx), ?_⟩
            unfold f_PngWriter_filterRow_62
            rw [if_neg (nI_nle (by omega) (by omega)), pk_sub (by omega), if_pos (q_inb (by omega) (by omega)), nI_clamp (by omega)]
            unfold f_PngWriter_filterRow_84 f_PngWriter_filterRow_112
            rw [if_pos (show nI x ≤ 0 by rw [cx]; decide)]
          · refine ⟨P (y * w + x - w), P (y * w + x - w - 1), hB1 (by omega), hC1 (by omega) (by omega), ?_⟩
            unfold f_PngWriter_filterRow_62
            rw [if_neg (nI_nle (by omega) (by omega)), pk_sub (by omega), if_pos (q_inb (by omega) (by omega)), nI_clamp (by omega)]
            unfold f_PngWriter_filterRow_84
            rw [if_neg (nI_nle (by omega) (by omega)), if_neg (nI_nle (by omega) (by omega)), pk_sub (by omega), show nI (y * w + x - w) - 1 = nI (y * w + x - w - 1) from pk_sub (b := 1) (by omega), if_pos (q_inb (by omega) (by omega)), nI_clamp (by omega)]
      by_cases cx : x = 0
      · obtain ⟨b, c, g1, g2, g3⟩ := h62 0
        refine ⟨0, b, c, hA0 cx, g1, g2, ?_⟩
        show f_PngWriter_filterRow_15 K _ s.1 (nI w) P (nI y) (nI f) (nI at0) s.2 (nI x) = _
        unfold f_PngWriter_filterRow_15
        rw [if_neg (nI_ge (by omega) (by omega)), pk_mul, nI_add, if_pos (q_inb (by omega) (by omega)), if_pos (show nI x ≤ 0 by rw [cx]; decide), nI_clamp (by omega)]
        exact g3
      · obtain ⟨b, c, g1, g2, g3⟩ := h62 (P (y * w + x - 1))
        refine ⟨P (y * w + x - 1), b, c, hA1 (by omega), g1, g2, ?_⟩
        show f_PngWriter_filterRow_15 K _ s.1 (nI w) P (nI y) (nI f) (nI at0) s.2 (nI x) = _
        unfold f_PngWriter_filterRow_15
        rw [if_neg (nI_ge (by omega) (by omega)), pk_mul, nI_add, if_pos (q_inb (by omega) (by omega)), if_neg (nI_nle (by omega) (by omega)), show nI (y * w + x) - 1 = nI (y * w + x - 1) from pk_sub (b := 1) (by omega), if_pos (q_inb (by omega) (by omega)), nI_clamp (by omega), nI_clamp (by omega)]
        exact g3
    obtain ⟨a, b, c, ha, hb, hc, he⟩ := hstep
    obtain ⟨s', g1, g2⟩ := hgo a b c ha hb hc
    exact ⟨s', g1, he.trans g2⟩
/-! the reference -/
theorem pb_eq {P Q : Nat → Int32} {n j : Nat} (h : ∀ k, k < n → Q k = P k) (hj : j / 4 < n) : pb Q j = pb P j := by
  unfold pb
  rw [h _ hj]
theorem byteOf_ok {n j : Nat} (hn : n ≤ 16384) (hj : j / 4 < n) {P Q : Nat → Int32} (h : ∀ k, k < n → Q k = P k) (x2 : Int32) : f_M_byteOf 16384 x2 (nI j) Q = some (pb P j, ()) := by
  have hr : j % 4 < 4 := Nat.mod_lt _ (by omega)
  have e : (24 : Int32) - 8 * nI (j % 4) = nI (24 - 8 * (j % 4)) := by
    rw [show (8 : Int32) * nI (j % 4) = nI (8 * (j % 4)) from pk_mul 8 _]
    exact pk_sub (a := 24) (by omega)
  unfold f_M_byteOf
  rw [show nI j - nI j / 4 * 4 = nI (j % 4) from pk_rem (d := 4) (by omega) (by omega) (by omega), show nI j / 4 = nI (j / 4) from pk_div (d := 4) (by omega) (by omega) (by omega), if_pos (q_inb (by omega) (by omega)), nI_clamp (by omega), e, h _ hj]
  rfl
theorem filtM {K w h y at0 f : Nat} (hK : 70000 < K) (hw0 : 0 < w) (hwh : w * h ≤ 16384) (hy : y < h) (hat : at0 = y * (4 * w + 1)) (P Q r0 : Nat → Int32) (hQ : ∀ j, j < w * h → Q j = P j) : ∃ r', FR P w y at0 (nI f) r0 (4 * w) r' ∧ f_M_filtered K 16384 (nI w) (nI y) (nI f) (nI at0) r0 Q = some (fsum P w y (nI f) (4 * w), r') := by
  have hal := at_le hwh hw0 hy
  have hrow := row_in (w := w) hy
  have hw : w ≤ 16384 := by omega
  have hyl : y < 16384 := Nat.lt_of_lt_of_le hy (Nat.le_trans (Nat.le_mul_of_pos_left h hw0) hwh)
  have e4 : 4 * w * y = 4 * (y * w) := by rw [Nat.mul_assoc, Nat.mul_comm w y]
  have e5 : 0 < y → 4 * w * (y - 1) = 4 * (y * w) - 4 * w := by
    intro h0
    obtain ⟨z, rfl⟩ : ∃ z, y = z + 1 := ⟨y - 1, by omega⟩
    have e : (z + 1) * w = z * w + w := Nat.succ_mul z w
    rw [Nat.add_sub_cancel, Nat.mul_assoc, Nat.mul_comm w z]
    omega
  have hyw : 0 < y → w ≤ y * w := fun h0 => Nat.le_mul_of_pos_left w h0
  have hl := loop_inv (c := 4 * w) (fun q (s : (Nat → Int32) × Int32) x => f_M_filtered_L21 K 16384 Q (nI w) (nI y) (nI f) (nI at0) (nI (4 * w)) q s.1 s.2 x) (fun i s => FR P w y at0 (nI f) r0 i s.1 ∧ s.2 = fsum P w y (nI f) i) (fun q s hI => ?_) (fun q i s hi hI => ?_) (4 * w) 0 (upd r0 at0 (q_by (nI f)), 0) K (by omega) (by omega) ⟨FR_0 P w y at0 (nI f) r0, rfl⟩
  · obtain ⟨s', ⟨h1, h2⟩, h3⟩ := hl
    refine ⟨s'.1, h1, ?_⟩
    unfold f_M_filtered
    rw [if_pos (q_inb (by omega) (by omega)), nI_clamp (by omega), q_by2, show (4 : Int32) * nI w = nI (4 * w) from pk_mul 4 w, show f_M_filtered_L21 K 16384 Q (nI w) (nI y) (nI f) (nI at0) (nI (4 * w)) K (upd r0 at0 (q_by (nI f))) 0 0 = _ from h3, q_bind, h2]
  · show f_M_filtered_21 K 16384 _ s.1 Q (nI w) (nI y) (nI f) (nI at0) s.2 (nI (4 * w)) (nI (4 * w)) = _
    unfold f_M_filtered_21
    rw [if_pos (nI_le (by omega) (by omega))]
  · obtain ⟨h1, h2⟩ := hI
    have e130 : f_M_filtered_130 K 16384 (f_M_filtered_L21 K 16384 Q (nI w) (nI y) (nI f) (nI at0) (nI (4 * w)) q) s.1 Q (nI w) (nI y) (nI f) (nI at0) s.2 (nI (4 * w)) (nI i) (pb P (4 * w * y + i)) (fA P w y i) (fB P w y i) (fC P w y i) = f_M_filtered_L21 K 16384 Q (nI w) (nI y) (nI f) (nI at0) (nI (4 * w)) q (upd s.1 (at0 + 1 + i) (fb P w y (nI f) i)) (fsum P w y (nI f) (i + 1)) (nI (i + 1)) := by
      unfold f_M_filtered_130
      rw [gs_ok, q_bind, nI_1, nI_add, if_pos (q_inb (by omega) (by omega)), if_pos (q_inb (by omega) (by omega)), nI_clamp (by omega), q_by2, upd_at, nI_1, h2]
      rfl
    refine ⟨(upd s.1 (at0 + 1 + i) (fb P w y (nI f) i), fsum P w y (nI f) (i + 1)), ⟨FR_s h1, rfl⟩, ?_⟩
    refine Eq.trans ?_ e130
    show f_M_filtered_21 K 16384 _ s.1 Q (nI w) (nI y) (nI f) (nI at0) s.2 (nI (4 * w)) (nI i) = _
    have hm1 : (4 : Int32) * nI w * nI y + nI i = nI (4 * w * y + i) := by
      rw [show (4 : Int32) * nI w = nI (4 * w) from pk_mul 4 w, pk_mul, nI_add]
    have hm2 : 0 < y → (4 : Int32) * nI w * (nI y - 1) + nI i = nI (4 * w * (y - 1) + i) := by
      intro h0
      rw [show (4 : Int32) * nI w = nI (4 * w) from pk_mul 4 w, show nI y - 1 = nI (y - 1) from pk_sub (b := 1) (by omega), pk_mul, nI_add]
    have c70 : ∀ a, f_M_filtered_70 K 16384 (f_M_filtered_L21 K 16384 Q (nI w) (nI y) (nI f) (nI at0) (nI (4 * w)) q) s.1 Q (nI w) (nI y) (nI f) (nI at0) s.2 (nI (4 * w)) (nI i) (pb P (4 * w * y + i)) a = f_M_filtered_130 K 16384 (f_M_filtered_L21 K 16384 Q (nI w) (nI y) (nI f) (nI at0) (nI (4 * w)) q) s.1 Q (nI w) (nI y) (nI f) (nI at0) s.2 (nI (4 * w)) (nI i) (pb P (4 * w * y + i)) a (fB P w y i) (fC P w y i) := by
      intro a
      unfold f_M_filtered_70 fB fC
      by_cases cy : y = 0
      · rw [if_pos (show nI y ≤ 0 by rw [cy]; decide), if_neg (by omega), if_neg (by omega)]
        unfold f_M_filtered_96 f_M_filtered_129
        rw [if_pos (show nI y ≤ 0 by rw [cy]; decide)]
      · have hyw2 := hyw (by omega)
        have e6 := e5 (by omega)
        rw [if_neg (nI_nle (by omega) (by omega)), hm2 (by omega), byteOf_ok hwh (by omega) hQ, q_bind, if_pos (by omega)]
        unfold f_M_filtered_96 f_M_filtered_129
        rw [if_neg (nI_nle (by omega) (by omega))]
        by_cases ci : i < 4
        · rw [if_pos (show nI i < 4 from show nI i < nI 4 from nI_lt ci (by omega)), if_neg (by omega)]
        · rw [if_neg (show ¬ nI i < 4 from show ¬ nI i < nI 4 from nI_nlt (by omega) (by omega)), if_pos ⟨by omega, by omega⟩, hm2 (by omega), show nI (4 * w * (y - 1) + i) - 4 = nI (4 * w * (y - 1) + i - 4) from pk_sub (b := 4) (by omega), byteOf_ok hwh (by omega) hQ, q_bind]
    unfold f_M_filtered_21
    rw [if_neg (nI_ge hi (by omega)), hm1, byteOf_ok hwh (by omega) hQ, q_bind]
    unfold fA
    by_cases ci : i < 4
    · rw [if_pos (show nI i < 4 from show nI i < nI 4 from nI_lt ci (by omega)), if_neg (by omega)]
      exact c70 0
    · rw [if_neg (show ¬ nI i < 4 from show ¬ nI i < nI 4 from nI_nlt (by omega) (by omega)), if_pos (by omega), show nI (4 * w * y + i) - 4 = nI (4 * w * y + i - 4) from pk_sub (b := 4) (by omega), byteOf_ok hwh (by omega) hQ, q_bind]
      exact c70 _
/-! the best filter -/
def bstF (P : Nat → Int32) (w y : Nat) : Nat → Nat × Int32
  | 0 => (0, fsum P w y (nI 0) (4 * w))
  | k + 1 => if (bstF P w y k).2 ≤ fsum P w y (nI (k + 1)) (4 * w) then bstF P w y k else (k + 1, fsum P w y (nI (k + 1)) (4 * w))
theorem bstF_le (P : Nat → Int32) (w y : Nat) : ∀ k, (bstF P w y k).1 ≤ k := by
  intro k
  induction k with
  | zero => exact Nat.le_refl _
  | succ k ih =>
    show (if (bstF P w y k).2 ≤ fsum P w y (nI (k + 1)) (4 * w) then bstF P w y k else (k + 1, fsum P w y (nI (k + 1)) (4 * w))).1 ≤ k + 1
    by_cases c : (bstF P w y k).2 ≤ fsum P w y (nI (k + 1)) (4 * w)
    · rw [if_pos c]; omega
    · rw [if_neg c]; exact Nat.le_refl _
theorem ab_ok : ∀ n, n < 256 → ∃ v, v ≤ 128 ∧ ab ((BitVec.ofNat 8 n).toNat |> fun m => q_by (nI m)) = nI v := by
  intro n hn
  have h : ∀ n, n < 256 → ∃ v, v < 129 ∧ ab (q_by (nI n)) = nI v := by decide +kernel
  obtain ⟨v, h1, h2⟩ := h n hn
  refine ⟨v, by omega, ?_⟩
  show ab (q_by (nI (BitVec.ofNat 8 n).toNat)) = nI v
  rw [BitVec.toNat_ofNat, Nat.mod_eq_of_lt (by omega)]
  exact h2
theorem ab_by (x : Int32) : ∃ v, v ≤ 128 ∧ ab (q_by x) = nI v := by
  have h : ∀ n, n < 256 → ∃ v, v < 129 ∧ ab (q_by (nI n)) = nI v := by decide +kernel
  have e : q_by x = q_by (nI (x.toBitVec.toNat % 256)) := by
    rw [← by_255 x, show x &&& 255 = nI (x.toBitVec.toNat % 256) from pk_and x 8 (by decide)]
  obtain ⟨v, h1, h2⟩ := h (x.toBitVec.toNat % 256) (Nat.mod_lt _ (by omega))
  exact ⟨v, by omega, by rw [e]; exact h2⟩
theorem fsum_ok (P : Nat → Int32) (w y : Nat) (f : Int32) : ∀ i, ∃ v, v ≤ 128 * i ∧ fsum P w y f i = nI v := by
  intro i
  induction i with
  | zero => exact ⟨0, Nat.le_refl _, rfl⟩
  | succ i ih =>
    obtain ⟨v, h1, h2⟩ := ih
    obtain ⟨u, h3, h4⟩ := ab_by (pb P (4 * w * y + i) - gs f (fA P w y i) (fB P w y i) (fC P w y i))
    refine ⟨v + u, by omega, ?_⟩
    show fsum P w y f i + ab (fb P w y f i) = _
    unfold fb
    rw [h2, h4, nI_add]
theorem fsum_pos {w : Nat} (hw : w ≤ 16384) (P : Nat → Int32) (y : Nat) (f : Int32) : ¬ fsum P w y f (4 * w) < 0 := by
  obtain ⟨v, h1, h2⟩ := fsum_ok P w y f (4 * w)
  rw [h2]
  exact nI_pos (by omega)
theorem bst_pos {w : Nat} (hw : w ≤ 16384) (P : Nat → Int32) (y : Nat) : ∀ k, ¬ (bstF P w y k).2 < 0 := by
  intro k
  induction k with
  | zero => exact fsum_pos hw P y _
  | succ k ih =>
    show ¬ (if (bstF P w y k).2 ≤ fsum P w y (nI (k + 1)) (4 * w) then bstF P w y k else (k + 1, fsum P w y (nI (k + 1)) (4 * w))).2 < 0
    by_cases c : (bstF P w y k).2 ≤ fsum P w y (nI (k + 1)) (4 * w)
    · rw [if_pos c]; exact ih
    · rw [if_neg c]; exact fsum_pos hw P y _
theorem FR_low {P : Nat → Int32} {w y at0 i : Nat} {f : Int32} {r0 r : Nat → Int32} (h : FR P w y at0 f r0 i r) : ∀ j, j < at0 → r j = r0 j := h.1
theorem bestD {K w h y at0 : Nat} (hK : 16385 < K) (hw0 : 0 < w) (hwh : w * h ≤ 16384) (hy : y < h) (hat : at0 = y * (4 * w + 1)) (P r0 : Nat → Int32) : ∃ r', (∀ j, j < at0 → r' j = r0 j) ∧ f_PngWriter_bestFilter K (nI y) (nI at0) r0 (nI w) P = some (nI (bstF P w y 4).1, r') := by
  obtain ⟨r1, g1, g2⟩ := filtD (f := 0) hK (by omega) hw0 hwh hy hat P r0
  have hL : ∀ (n k q : Nat) (r : Nat → Int32), k + n = 4 → n < q → (∀ j, j < at0 → r j = r0 j) → ∃ r', (∀ j, j < at0 → r' j = r0 j) ∧ f_PngWriter_bestFilter_L16 K (nI w) P (nI y) (nI at0) q r (nI (bstF P w y k).1) (bstF P w y k).2 (nI (k + 1)) = some (r', nI (bstF P w y 4).1) := by
    intro n
    induction n with
    | zero =>
      intro k q r hk hq hr
      obtain ⟨q, rfl⟩ : ∃ w, q = w + 1 := ⟨q - 1, by omega⟩
      have e : k = 4 := by omega
      subst e
      refine ⟨r, hr, ?_⟩
      show f_PngWriter_bestFilter_16 K _ r (nI w) P (nI y) (nI at0) (nI (bstF P w y 4).1) (bstF P w y 4).2 (nI 5) = _
      unfold f_PngWriter_bestFilter_16
      rw [if_pos (by decide)]
    | succ n ih =>
      intro k q r hk hq hr
      obtain ⟨q, rfl⟩ : ∃ w, q = w + 1 := ⟨q - 1, by omega⟩
      obtain ⟨r2, k1, k2⟩ := filtD (f := k + 1) hK (by omega) hw0 hwh hy hat P r
      obtain ⟨r', m1, m2⟩ := ih (k + 1) q r2 (by omega) (by omega) (fun j hj => (k1.1 j hj).trans (hr j hj))
      refine ⟨r', m1, ?_⟩
      show f_PngWriter_bestFilter_16 K _ r (nI w) P (nI y) (nI at0) (nI (bstF P w y k).1) (bstF P w y k).2 (nI (k + 1)) = _
      unfold f_PngWriter_bestFilter_16 f_PngWriter_bestFilter_48
      rw [if_neg (show ¬ (5 : Int32) ≤ nI (k + 1) from show ¬ nI 5 ≤ nI (k + 1) from nI_ge (by omega) (by omega)), k2, q_bind, nI_1, ← m2]
      show (if (bstF P w y k).2 ≤ fsum P w y (nI (k + 1)) (4 * w) then _ else _) = f_PngWriter_bestFilter_L16 K (nI w) P (nI y) (nI at0) q r2 (nI (if (bstF P w y k).2 ≤ fsum P w y (nI (k + 1)) (4 * w) then bstF P w y k else (k + 1, fsum P w y (nI (k + 1)) (4 * w))).1) (if (bstF P w y k).2 ≤ fsum P w y (nI (k + 1)) (4 * w) then bstF P w y k else (k + 1, fsum P w y (nI (k + 1)) (4 * w))).2 (nI (k + 1 + 1))
      by_cases c : (bstF P w y k).2 ≤ fsum P w y (nI (k + 1)) (4 * w)
      · rw [if_pos c, if_pos c]
      · rw [if_neg c, if_neg c]
  obtain ⟨r', m1, m2⟩ := hL 4 0 K r1 (by omega) (by omega) g1.1
  refine ⟨r', m1, ?_⟩
  unfold f_PngWriter_bestFilter
  rw [show f_PngWriter_filterRow K (nI y) 0 (nI at0) r0 (nI w) P = _ from g2, q_bind, show f_PngWriter_bestFilter_L16 K (nI w) P (nI y) (nI at0) K r1 0 (fsum P w y (nI 0) (4 * w)) 1 = _ from m2, q_bind]
/-- the filter of a row -/
def rf (P : Nat → Int32) (w y : Nat) (mode : Nat) : Nat := if mode = 5 then (bstF P w y 4).1 else mode
/-- byte j of all filtered rows -/
def rv (P : Nat → Int32) (w mode j : Nat) : Int32 := if j % (4 * w + 1) = 0 then q_by (nI (rf P w (j / (4 * w + 1)) mode)) else fb P w (j / (4 * w + 1)) (nI (rf P w (j / (4 * w + 1)) mode)) (j % (4 * w + 1) - 1)
theorem rf_le (P : Nat → Int32) (w y : Nat) {mode : Nat} (hm : mode ≤ 5) : rf P w y mode ≤ 4 := by
  unfold rf
  by_cases c : mode = 5
  · rw [if_pos c]; exact bstF_le P w y 4
  · rw [if_neg c]; omega
theorem rv_row {P : Nat → Int32} {w y mode : Nat} {r0 r : Nat → Int32} (h0 : ∀ j, j < y * (4 * w + 1) → r0 j = rv P w mode j) (h : FR P w y (y * (4 * w + 1)) (nI (rf P w y mode)) r0 (4 * w) r) : ∀ j, j < (y + 1) * (4 * w + 1) → r j = rv P w mode j := by
  obtain ⟨h1, h2, h3⟩ := h
  intro j hj
  rw [Nat.succ_mul] at hj
  by_cases c : j < y * (4 * w + 1)
  · rw [h1 j c, h0 j c]
  · have hd : j / (4 * w + 1) = y := by
      rw [show j = (4 * w + 1) * y + (j - y * (4 * w + 1)) by rw [Nat.mul_comm (4 * w + 1) y]; omega, Nat.mul_add_div (by omega), Nat.div_eq_of_lt (by omega), Nat.add_zero]
    have hm : j % (4 * w + 1) = j - y * (4 * w + 1) := by
      have := Nat.div_add_mod j (4 * w + 1)
      rw [hd, Nat.mul_comm] at this
      omega
    unfold rv
    rw [hd, hm]
    by_cases e : j = y * (4 * w + 1)
    · rw [if_pos (by omega), e, h2]
    · rw [if_neg (by omega), ← h3 (j - y * (4 * w + 1) - 1) (by omega)]
      congr 1
      omega
theorem rowsP {K w h mode : Nat} (hK : 16385 < K) (hm : mode ≤ 5) (hw0 : 0 < w) (hwh : w * h ≤ 16384) (P r0 : Nat → Int32) (x : Int32) : ∃ r', (∀ j, j < h * (4 * w + 1) → r' j = rv P w mode j) ∧ f_PngWriter_filterRows K (nI mode) (nI w) (nI h) x r0 P = some ((), nI (h * (4 * w + 1)), r') := by
  have hh : h ≤ 16384 := Nat.le_trans (Nat.le_mul_of_pos_left h hw0) hwh
  have e4 : (4 : Int32) * nI w = nI (4 * w) := pk_mul 4 w
  have hl := loop_inv (c := h) (fun q (s : Nat → Int32) y => f_PngWriter_filterRows_L10 K (nI w) (nI h) x P (nI mode) (nI (4 * w)) q s y) (fun y s => ∀ j, j < y * (4 * w + 1) → s j = rv P w mode j) (fun q s hI => ?_) (fun q y s hy hI => ?_) h 0 r0 K (by omega) (by omega) (fun j hj => absurd hj (by omega))
  · obtain ⟨s', h1, h2⟩ := hl
    refine ⟨s', h1, ?_⟩
    unfold f_PngWriter_filterRows
    rw [e4, show f_PngWriter_filterRows_L10 K (nI w) (nI h) x P (nI mode) (nI (4 * w)) K r0 0 = _ from h2, q_bind, nI_1, pk_mul]
  · show f_PngWriter_filterRows_10 K _ (nI w) (nI h) x s P (nI mode) (nI (4 * w)) (nI h) = _
    unfold f_PngWriter_filterRows_10
    rw [if_pos (nI_le (by omega) (by omega))]
  · have h45 : ∀ r1 : Nat → Int32, (∀ j, j < y * (4 * w + 1) → r1 j = rv P w mode j) → ∃ s', (∀ j, j < (y + 1) * (4 * w + 1) → s' j = rv P w mode j) ∧ f_PngWriter_filterRows_45 K (f_PngWriter_filterRows_L10 K (nI w) (nI h) x P (nI mode) (nI (4 * w)) q) (nI w) (nI h) x r1 P (nI mode) (nI (4 * w)) (nI y) (nI (y * (4 * w + 1))) (nI (rf P w y mode)) = f_PngWriter_filterRows_L10 K (nI w) (nI h) x P (nI mode) (nI (4 * w)) q s' (nI (y + 1)) := by
      intro r1 hr1
      obtain ⟨r2, k1, k2⟩ := filtD (f := rf P w y mode) hK (rf_le P w y hm) hw0 hwh hy rfl P r1
      refine ⟨r2, rv_row hr1 k1, ?_⟩
      unfold f_PngWriter_filterRows_45
      rw [k2, q_bind, nI_1]
    have hE : f_PngWriter_filterRows_L10 K (nI w) (nI h) x P (nI mode) (nI (4 * w)) (q + 1) s (nI y) = f_PngWriter_filterRows_10 K (f_PngWriter_filterRows_L10 K (nI w) (nI h) x P (nI mode) (nI (4 * w)) q) (nI w) (nI h) x s P (nI mode) (nI (4 * w)) (nI y) := rfl
    unfold f_PngWriter_filterRows_10 at hE
    rw [if_neg (nI_ge hy (by omega)), nI_1, pk_mul] at hE
    by_cases c : mode = 5
    · obtain ⟨r1, g1, g2⟩ := bestD hK hw0 hwh hy rfl P s
      obtain ⟨s', m1, m2⟩ := h45 r1 (fun j hj => (g1 j hj).trans (hI j hj))
      refine ⟨s', m1, ?_⟩
      rw [if_pos (show nI mode = 5 by rw [c]; rfl), g2, q_bind] at hE
      rw [show rf P w y mode = (bstF P w y 4).1 from if_pos c] at m2
      exact hE.trans m2
    · obtain ⟨s', m1, m2⟩ := h45 s hI
      refine ⟨s', m1, ?_⟩
      rw [if_neg (show ¬ nI mode = 5 from fun e => c ((nI_eq (b := 5) (by omega) (by omega)).mp e))] at hE
      rw [show rf P w y mode = mode from if_neg c] at m2
      exact hE.trans m2
