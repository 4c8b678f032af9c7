/-! the pure half: word -/
theorem q_or8 (x : BitVec 64) {b : Nat} (hb : b < 256) : (x <<< 8) ||| BitVec.ofNat 64 b = x * 256#64 + BitVec.ofNat 64 b := by
  have h1 : x * 256#64 = x <<< 8 := by
    rw [BitVec.shiftLeft_eq_mul_twoPow]; rfl
  rw [h1, BitVec.add_eq_or_of_and_eq_zero]
  apply BitVec.eq_of_getLsbD_eq
  intro i hi
  simp only [BitVec.getLsbD_and, BitVec.getLsbD_shiftLeft, BitVec.getLsbD_ofNat, BitVec.getLsbD_zero]
  by_cases h : i < 8
  · simp [h]
  · have h2 : b.testBit i = false := Nat.testBit_lt_two_pow (Nat.lt_of_lt_of_le hb (show 2 ^ 8 ≤ 2 ^ i from Nat.pow_le_pow_right (by omega) (by omega)))
    simp [h2]
theorem q_or64 (x : Int64) {b : Nat} (hb : b < 256) : (x <<< ((8 : Int32).toInt64 &&& 63)) ||| (nI b).toInt64 = x * 256 + (nI b).toInt64 := by
  have hl : (nI b).toInt64.toBitVec = BitVec.ofNat 64 b := by
    rw [nI_l (by omega)]
    rfl
  apply Int64.toBitVec_inj.mp
  rw [Int64.toBitVec_or, Int64.toBitVec_add, Int64.toBitVec_mul, hl]
  exact q_or8 x.toBitVec hb
def q_wd (v : Nat → Int32) : Nat → Nat → Int64 → Int64
  | _, 0, a => a
  | i, r + 1, a => q_wd v (i + 1) r (a * 256 + (v i).toInt64)
def q_oz (m : Nat) (b : Nat → Int32) (i : Nat) : Int32 := if i < m then b i &&& 255 else 0
theorem q_oz_le (m : Nat) (b : Nat → Int32) (i : Nat) : ∃ j : Nat, j < 256 ∧ q_oz m b i = nI j := by
  unfold q_oz
  by_cases h : i < m
  · rw [if_pos h]
    exact pk_andE (b i) (m := 255) 8 (by decide)
  · rw [if_neg h]
    exact ⟨0, by omega, rfl⟩
theorem boz_ok {N m i : Nat} (hm : m ≤ N) (hN : N < 2 ^ 31) (hi : i < 2 ^ 31) (b : Nat → Int32) : f_Sink_byteOrZero N (nI i) (nI m) b = some (q_oz m b i, ()) := by
  unfold f_Sink_byteOrZero q_oz
  rw [if_neg (nI_pos hi)]
  by_cases h : i < m
  · rw [if_neg (nI_ge h (by omega)), if_pos (q_inb (by omega) hN), nI_clamp hi, if_pos h]
    rfl
  · rw [if_pos (nI_le (by omega) hi), if_neg h]
    rfl
theorem word_LD (K N m i : Nat) (hm : m ≤ N) (hN : N ≤ 65536) (hi : i < 65536) (b : Nat → Int32) : ∀ (r k : Nat) (a : Int64) (q : Nat), k + r = 8 → r < q → f_D_word_L30 K N (nI m) b (nI i) q a (nI k) = some (q_wd (q_oz m b) (i + k) r a) := by
  intro r
  induction r with
  | zero =>
    intro k a q hk hq
    obtain ⟨q, rfl⟩ : ∃ w, q = w + 1 := ⟨q - 1, by omega⟩
    show f_D_word_30 K N _ (nI m) b (nI i) a (nI k) = _
    unfold f_D_word_30
    rw [if_pos (show (8 : Int32) ≤ nI k from show nI 8 ≤ nI k from nI_le (by omega) (by omega))]
    rfl
  | succ r ih =>
    intro k a q hk hq
    obtain ⟨q, rfl⟩ : ∃ w, q = w + 1 := ⟨q - 1, by omega⟩
    show f_D_word_30 K N _ (nI m) b (nI i) a (nI k) = _
    unfold f_D_word_30
    rw [if_neg (show ¬ (8 : Int32) ≤ nI k from show ¬ nI 8 ≤ nI k from nI_ge (by omega) (by omega)), nI_add, boz_ok hm (by omega) (by omega), q_bind]
    obtain ⟨j, hj, e⟩ := q_oz_le m b (i + k)
    show f_D_word_L30 K N (nI m) b (nI i) q ((a <<< ((8 : Int32).toInt64 &&& 63)) ||| (q_oz m b (i + k)).toInt64) (nI k + 1) = _
    rw [e, q_or64 a hj, ← e, nI_1, ih (k + 1) _ q (by omega) (by omega)]
    rfl
theorem word_LM (K m i : Nat) (z : Int32) (hm : m ≤ 65536) (hi : i < 65536) (b : Nat → Int32) : ∀ (r k : Nat) (a : Int64) (q : Nat), k + r = 8 → r < q → f_M_word_L29 K z (nI m) b (nI i) q a (nI (i + k)) = some (q_wd (q_oz m b) (i + k) r a) := by
  intro r
  induction r with
  | zero =>
    intro k a q hk hq
    obtain ⟨q, rfl⟩ : ∃ w, q = w + 1 := ⟨q - 1, by omega⟩
    show f_M_word_29 K _ z (nI m) b (nI i) a (nI (i + k)) = _
    unfold f_M_word_29
    rw [show nI i + 8 = nI (i + 8) from nI_add i 8, if_pos (nI_le (by omega) (by omega))]
    rfl
  | succ r ih =>
    intro k a q hk hq
    obtain ⟨q, rfl⟩ : ∃ w, q = w + 1 := ⟨q - 1, by omega⟩
    show f_M_word_29 K _ z (nI m) b (nI i) a (nI (i + k)) = _
    unfold f_M_word_29
    rw [show nI i + 8 = nI (i + 8) from nI_add i 8, if_neg (nI_ge (by omega) (by omega))]
    have step : ∀ y : Int32, q_oz m b (i + k) = y → f_M_word_67 K (f_M_word_L29 K z (nI m) b (nI i) q) z (nI m) b (nI i) (nI (i + k)) (a * 256) y = some (q_wd (q_oz m b) (i + k) (r + 1) a) := by
      intro y hy
      show f_M_word_L29 K z (nI m) b (nI i) q (a * 256 + y.toInt64) (nI (i + k) + 1) = _
      rw [nI_1, Nat.add_assoc, ih (k + 1) _ q (by omega) (by omega), ← hy]
      rfl
    by_cases h : i + k < m
    · rw [if_neg (nI_ge h (by omega)), if_pos (q_inb (by omega) (by omega)), nI_clamp (by omega)]
      exact step _ (if_pos h)
    · rw [if_pos (nI_le (by omega) (by omega))]
      exact step _ (if_neg h)
theorem q_wd_eq {v w : Nat → Int32} (h : ∀ j, v j = w j) : ∀ (r i : Nat) (a : Int64), q_wd v i r a = q_wd w i r a := by
  intro r
  induction r with
  | zero => intro i a; rfl
  | succ r ih =>
    intro i a
    show q_wd v (i + 1) r (a * 256 + (v i).toInt64) = q_wd w (i + 1) r (a * 256 + (w i).toInt64)
    rw [h i, ih]
theorem word_ok {K m : Nat} (hK : 9 < K) (hm : m ≤ 65536) {r0 r1 : Nat → Int32} (hr : ∀ j, j < m → r0 j = r1 j) (x z : Int32) :
    (∃ a : Int64, f_D_word K 65536 x (nI m) r0 = some (.inl (a, ())) ∧ f_M_word K x z (nI m) r1 = some (a, 0)) ∨ (f_D_word K 65536 x (nI m) r0 = some (.inr (4, ())) ∧ f_M_word K x z (nI m) r1 = some (0, 1)) := by
  by_cases h0 : x < 0
  · right
    unfold f_D_word f_M_word
    rw [if_pos h0, if_pos h0]
    exact ⟨rfl, rfl⟩
  · obtain ⟨i, hi, rfl⟩ := nI_of h0
    by_cases h1 : i < m
    · left
      refine ⟨q_wd (q_oz m r0) (i + 0) 8 0, ?_, ?_⟩
      · unfold f_D_word
        rw [if_neg h0, show f_Sink_filled (nI m) = some (nI m, ()) from rfl, q_bind, if_pos (nI_lt h1 (by omega))]
        have h := word_LD K 65536 m i hm (by omega) (by omega) r0 8 0 0 K (by omega) (by omega)
        rw [show f_D_word_L30 K 65536 (nI m) r0 (nI i) K 0 0 = _ from h]
        rfl
      · unfold f_M_word
        rw [if_neg h0, if_pos (nI_lt h1 (by omega))]
        have h := word_LM K m i 0 hm (by omega) r1 8 0 0 K (by omega) (by omega)
        rw [show f_M_word_L29 K 0 (nI m) r1 (nI i) K 0 (nI i) = _ from h]
        rw [q_wd_eq (v := q_oz m r1) (w := q_oz m r0)]
        · rfl
        · intro j
          unfold q_oz
          by_cases hj : j < m
          · rw [if_pos hj, if_pos hj, hr j hj]
          · rw [if_neg hj, if_neg hj]
    · right
      unfold f_D_word f_M_word
      rw [if_neg h0, if_neg h0, show f_Sink_filled (nI m) = some (nI m, ()) from rfl, q_bind, if_neg (nI_nlt (by omega) (by omega)), if_neg (nI_nlt (by omega) (by omega))]
      exact ⟨rfl, rfl⟩
