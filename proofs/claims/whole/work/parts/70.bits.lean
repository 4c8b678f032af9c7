/-! the pure half: bits taken -/
def bitD (dat : Nat → Nat) (k : Nat) : Bool := (dat (k / 8)).testBit (k % 8)
def vN (dat : Nat → Nat) (b : Nat) : Nat → Nat
  | 0 => 0
  | x + 1 => vN dat b x + (bitD dat (b + x)).toNat * 2 ^ x
theorem vN_lt (dat : Nat → Nat) (b : Nat) : ∀ x, vN dat b x < 2 ^ x := by
  intro x
  induction x with
  | zero => exact Nat.zero_lt_one
  | succ x ih =>
    have h2 : 2 ^ (x + 1) = 2 ^ x + 2 ^ x := by rw [Nat.pow_succ]; omega
    show vN dat b x + (bitD dat (b + x)).toNat * 2 ^ x < _
    rw [h2]
    cases bitD dat (b + x)
    · show vN dat b x + 0 * 2 ^ x < _
      omega
    · show vN dat b x + 1 * 2 ^ x < _
      omega
theorem vN_bit (dat : Nat → Nat) (b : Nat) : ∀ x i, (vN dat b x).testBit i = (decide (i < x) && bitD dat (b + i)) := by
  intro x
  induction x with
  | zero =>
    intro i
    show (0 : Nat).testBit i = _
    rw [Nat.zero_testBit, decide_eq_false (by omega)]
    rfl
  | succ x ih =>
    intro i
    show (vN dat b x + (bitD dat (b + x)).toNat * 2 ^ x).testBit i = _
    rw [Nat.add_comm, ← Nat.shiftLeft_eq, Nat.shiftLeft_add_eq_or_of_lt (vN_lt dat b x), Nat.testBit_or, Nat.testBit_shiftLeft, ih i]
    by_cases h1 : i < x
    · rw [decide_eq_true h1, decide_eq_true (show i < x + 1 by omega), decide_eq_false (show ¬ x ≤ i by omega)]
      simp
    · by_cases h2 : i = x
      · rw [h2, decide_eq_false (show ¬ x < x by omega), decide_eq_true (show x < x + 1 by omega), decide_eq_true (show x ≥ x by omega), Nat.sub_self]
        cases bitD dat (b + x) <;> rfl
      · rw [decide_eq_false h1, decide_eq_false (show ¬ i < x + 1 by omega), decide_eq_true (show i ≥ x by omega)]
        obtain ⟨j, hj⟩ : ∃ j, i - x = j + 1 := ⟨i - x - 1, by omega⟩
        rw [hj]
        cases bitD dat (b + x)
        · show ((0 : Nat).testBit (j + 1) || false) = false
          rw [Nat.zero_testBit]
          rfl
        · show ((1 : Nat).testBit (j + 1) || false) = false
          rw [Nat.testBit_succ]
          show ((0 : Nat).testBit j || false) = false
          rw [Nat.zero_testBit]
          rfl
theorem bt_vN (dat : Nat → Nat) (b x : Nat) {i : Nat} (hi : i < 32) : bt (nI (vN dat b x)) i = (decide (i < x) && bitD dat (b + i)) := by
  rw [bt_nI _ _ hi, vN_bit]
theorem tv_bt (T : Nat → Int32) (j : Nat) {i : Nat} (hi : i < 8) : bt (T j) i = (tv T j).testBit i := by
  have h := congrArg (fun x => bt x i) (tv_ok T j)
  have h2 : bt (T j &&& 255) i = bt (nI (tv T j)) i := h
  rw [bt_and, bt_255 (by omega), bt_nI _ _ (by omega), decide_eq_true hi, Bool.and_true] at h2
  exact h2
theorem test_out {a i : Nat} (ha : a < 256) (hi : 8 ≤ i) : a.testBit i = false := by
  refine Nat.testBit_lt_two_pow (Nat.lt_of_lt_of_le (show a < 2 ^ 8 by omega) (Nat.pow_le_pow_right (by omega) hi))
theorem store_s {dat : Nat → Nat} {b a held : Nat} (hb : 8 * a = b + held) (hd : dat a < 256) (hh : held < 24) : nI (vN dat b held) ||| (nI (dat a) <<< (nI held &&& 31)) = nI (vN dat b (held + 8)) := by
  refine bt_ext (fun i hi => ?_)
  rw [bt_or, bt_vN _ _ _ hi, bt_vN _ _ _ hi, bt_shl (by omega) _ hi, bt_nI _ _ (by omega)]
  by_cases h1 : i < held
  · rw [decide_eq_true h1, decide_eq_true (show i < held + 8 by omega), decide_eq_false (show ¬ held ≤ i by omega)]
    simp
  · rw [decide_eq_false h1, decide_eq_true (show held ≤ i by omega)]
    by_cases h2 : i < held + 8
    · rw [decide_eq_true h2]
      have e1 : (b + i) / 8 = a := by omega
      have e2 : (b + i) % 8 = i - held := by omega
      unfold bitD
      rw [e1, e2]
      rfl
    · rw [decide_eq_false h2, test_out hd (by omega)]
      rfl
theorem take_and {dat : Nat → Nat} {b x h : Nat} (hx : x ≤ 16) (hh : x ≤ h) : nI (vN dat b h) &&& (((1 : Int32) <<< (nI x &&& 31)) - 1) = nI (vN dat b x) := by
  refine bt_ext (fun i hi => ?_)
  rw [bt_and, bt_vN _ _ _ hi, bt_vN _ _ _ hi, mask_bt x hx i hi]
  by_cases h1 : i < x
  · rw [decide_eq_true h1, decide_eq_true (show i < h by omega)]
    cases bitD dat (b + i) <;> rfl
  · rw [decide_eq_false h1]
    cases (decide (i < h) && bitD dat (b + i)) <;> rfl
theorem take_shr {dat : Nat → Nat} {b x h : Nat} (hx : x ≤ 16) (hh : x ≤ h) (h32 : h < 32) : ((nI (vN dat b h)).toUInt32 >>> ((nI x).toUInt32 &&& Int32.toUInt32 31)).toInt32 = nI (vN dat (b + x) (h - x)) := by
  refine bt_ext (fun i hi => ?_)
  rw [bt_ushr (by omega), bt_vN _ _ _ hi]
  by_cases h1 : x + i < 32
  · rw [bt_vN _ _ _ h1, Nat.add_assoc b x i]
    by_cases h2 : x + i < h
    · rw [decide_eq_true h2, decide_eq_true (show i < h - x by omega)]
    · rw [decide_eq_false h2, decide_eq_false (show ¬ i < h - x by omega)]
  · rw [decide_eq_false (show ¬ i < h - x by omega)]
    unfold bt
    rw [BitVec.getLsbD_of_ge _ _ (by omega)]
    rfl
/-- the bytes of a stretch -/
def Dt (g m : Nat) (T : Nat → Int32) (dat : Nat → Nat) : Prop := (∀ i, i < m → tv T (g + i) = dat i) ∧ ∀ i, dat i < 256
theorem bits_LD {K g m x b : Nat} {T : Nat → Int32} {dat : Nat → Nat} (ht : Dt g m T dat) (hg : g + m ≤ 65536) (hx : x ≤ 16) : ∀ (q a held : Nat), 8 * a = b + held → a ≤ m → held < x + 8 → x + 8 ≤ held + 8 * q → (b + x ≤ 8 * m → ∃ a' h', f_Source_bits_L0 K (nI (g + m)) T (nI x) q (nI (g + a)) (nI (vN dat b held)) (nI held) = some (.inr (nI (g + a'), nI (vN dat b h'), nI h')) ∧ x ≤ h' ∧ h' < x + 8 ∧ 8 * a' = b + h' ∧ a' ≤ m) ∧ (¬ b + x ≤ 8 * m → ∃ u, f_Source_bits_L0 K (nI (g + m)) T (nI x) q (nI (g + a)) (nI (vN dat b held)) (nI held) = some (.inl u)) := by
  intro q
  induction q with
  | zero =>
    intro a held h1 h2 h3 h4
    omega
  | succ q ih =>
    intro a held h1 h2 h3 h4
    have e : f_Source_bits_L0 K (nI (g + m)) T (nI x) (q + 1) (nI (g + a)) (nI (vN dat b held)) (nI held) = (f_Source_bits_0 K ((f_Source_bits_L0 K (nI (g + m)) T (nI x)) q) (nI (g + a)) (nI (g + m)) (nI (vN dat b held)) (nI held) T (nI x)) := rfl
    rw [e]
    unfold f_Source_bits_0
    by_cases c1 : x ≤ held
    · rw [if_pos (nI_le c1 (by omega))]
      exact ⟨fun _ => ⟨a, held, rfl, c1, h3, h1, h2⟩, fun q => absurd (show b + x ≤ 8 * m by omega) q⟩
    · rw [if_neg (nI_ge (by omega) (by omega))]
      by_cases c2 : a < m
      · rw [if_pos (nI_lt (by omega) (by omega)), if_pos (q_inb (by omega) (by omega)), nI_clamp (by omega), tv_ok, ht.1 a c2, store_s h1 (ht.2 a) (by omega), nI_1]
        have h := ih (a + 1) (held + 8) (by omega) (by omega) (by omega) (by omega)
        rw [← Nat.add_assoc] at h
        have e8 : nI held + 8 = nI (held + 8) := nI_add held 8
        rw [e8]
        exact h
      · rw [if_neg (nI_nlt (by omega) (by omega))]
        exact ⟨fun q => absurd q (by omega), fun _ => ⟨_, rfl⟩⟩
theorem bitsD {K g m x b a held : Nat} {T : Nat → Int32} {dat : Nat → Nat} (hK : 10 < K) (ht : Dt g m T dat) (hg : g + m ≤ 65536) (hx : x ≤ 16) (h1 : 8 * a = b + held) (h2 : a ≤ m) (h3 : held < 8) : Gq (b + x ≤ 8 * m) (fun r => ∃ v : Nat × Nat, r = some (.inl (nI (vN dat b x), nI (g + v.1), nI (vN dat (b + x) v.2), nI v.2)) ∧ 8 * v.1 = b + x + v.2 ∧ v.1 ≤ m ∧ v.2 < 8) (f_Source_bits K (nI x) (nI (g + a)) (nI (g + m)) (nI (vN dat b held)) (nI held) T) := by
  have h := bits_LD (K := K) (x := x) ht hg hx K a held h1 h2 (by omega) (by omega)
  unfold f_Source_bits
  constructor
  · intro q
    obtain ⟨a', h', e, q1, q2, q3, q4⟩ := h.1 q
    rw [e]
    refine ⟨(a', h' - x), ?_, by omega, q4, by omega⟩
    show some (Sum.inl (nI (vN dat b h') &&& (((1 : Int32) <<< (nI x &&& 31)) - 1), nI (g + a'), ((nI (vN dat b h')).toUInt32 >>> ((nI x).toUInt32 &&& Int32.toUInt32 31)).toInt32, nI h' - nI x)) = _
    rw [take_and hx q1, take_shr hx q1 (by omega), pk_sub q1]
  · intro q
    obtain ⟨u, e⟩ := h.2 q
    rw [e]
    exact ⟨_, rfl⟩
theorem bit1 {x : Int32} {s : Nat} (hs : s < 32) {i : Nat} (hi : i < 32) : bt ((x >>> (nI s &&& 31)) &&& 1) i = (decide (i = 0) && bt x s) := by
  rw [bt_and, bt_sshr hs _ hi]
  have h1 : bt 1 i = decide (i = 0) := by
    have : ∀ i, i < 32 → bt 1 i = decide (i = 0) := by decide +kernel
    exact this i hi
  rw [h1]
  by_cases e : i = 0
  · subst e
    rw [if_pos (by omega), Nat.add_zero, decide_eq_true rfl, Bool.and_true, Bool.true_and]
  · rw [decide_eq_false e, Bool.and_false, Bool.false_and]
theorem bitM_s {dat : Nat → Nat} {b k : Nat} {D : Nat → Int32} (hd : tv D ((b + k) / 8) = dat ((b + k) / 8)) (hk : k < 31) : nI (vN dat b k) ||| (((D ((b + k) / 8) >>> (nI ((b + k) % 8) &&& 31)) &&& 1) <<< (nI k &&& 31)) = nI (vN dat b (k + 1)) := by
  refine bt_ext (fun i hi => ?_)
  rw [bt_or, bt_vN _ _ _ hi, bt_vN _ _ _ hi, bt_shl (by omega) _ hi, bit1 (by omega) (by omega), tv_bt _ _ (by omega), hd]
  by_cases h1 : i < k
  · rw [decide_eq_true h1, decide_eq_true (show i < k + 1 by omega), decide_eq_false (show ¬ k ≤ i by omega), Bool.false_and, Bool.or_false]
  · rw [decide_eq_false h1, decide_eq_true (show k ≤ i by omega), Bool.false_and, Bool.false_or, Bool.true_and]
    by_cases h2 : i = k
    · rw [h2, Nat.sub_self, decide_eq_true rfl, decide_eq_true (show k < k + 1 by omega)]
      rfl
    · rw [decide_eq_false (show ¬ i - k = 0 by omega), decide_eq_false (show ¬ i < k + 1 by omega)]
      rfl
theorem bitsM_L {K m x b : Nat} {D : Nat → Int32} {dat : Nat → Nat} (ht : Dt 0 m D dat) (hm : m ≤ 65536) (hx : x ≤ 31) : ∀ (r k q : Nat), k + r = x → r < q → b + k ≤ 8 * m → Ex (b + x ≤ 8 * m) (nI (b + x), nI (vN dat b x)) (f_M_bits_L4 K (nI m) D (nI x) q (nI (b + k)) (nI (vN dat b k)) (nI k)) := by
  intro r
  induction r with
  | zero =>
    intro k q hk hq hb
    obtain ⟨q, rfl⟩ : ∃ w, q = w + 1 := ⟨q - 1, by omega⟩
    have e : k = x := by omega
    subst e
    refine Ex.gq (Gq.yes hb ?_)
    show (f_M_bits_4 K _ (nI m) (nI (b + k)) D (nI k) (nI (vN dat b k)) (nI k)) = _
    unfold f_M_bits_4
    rw [if_pos (nI_le (by omega) (by omega))]
  | succ r ih =>
    intro k q hk hq hb
    obtain ⟨q, rfl⟩ : ∃ w, q = w + 1 := ⟨q - 1, by omega⟩
    show Ex _ _ (f_M_bits_4 K _ (nI m) (nI (b + k)) D (nI x) (nI (vN dat b k)) (nI k))
    unfold f_M_bits_4 f_M_bits_29
    rw [if_neg (nI_ge (by omega) (by omega)), show (8 : Int32) * nI m = nI (8 * m) from pk_mul 8 m]
    by_cases c : b + k < 8 * m
    · have hd := ht.1 ((b + k) / 8) (by omega)
      rw [Nat.zero_add] at hd
      have e3 : nI (b + k) >>> ((3 : Int32) &&& 31) = nI ((b + k) / 8) := pk_shrN (by omega) (nI 3 &&& 31) 3 (sh_amt 3 (by omega))
      have e7 : nI (b + k) &&& 7 = nI ((b + k) % 8) := pk_andN (by omega) 3 (by decide)
      rw [if_neg (nI_ge c (by omega)), can1, q_tryL, e3, if_pos (q_inb (by omega) (by omega)), nI_clamp (by omega), e7, bitM_s hd (by omega), nI_1, nI_1]
      exact ih (k + 1) q (by omega) (by omega) (by omega)
    · rw [if_pos (nI_le (by omega) (by omega)), can0, q_tryR]
      exact Ex.gq (Gq.no (by omega) ⟨_, rfl⟩)
theorem bitsM {K m x b : Nat} {D : Nat → Int32} {dat : Nat → Nat} (hK : 40 < K) (ht : Dt 0 m D dat) (hm : m ≤ 65536) (hx : x ≤ 31) (hb : b ≤ 8 * m) : Ex (b + x ≤ 8 * m) (nI (vN dat b x), nI (b + x)) (f_M_bits K (nI x) (nI m) (nI b) D) := by
  unfold f_M_bits
  exact Ex.gq (Gq.tryL (bitsM_L ht hm hx x 0 K (by omega) (by omega) hb) (fun u => ⟨_, rfl⟩) id (fun h => Gq.yes h rfl))
