/-! the pure half: bits of ints -/
def bt (x : Int32) (i : Nat) : Bool := x.toBitVec.getLsbD i
theorem sh_amt : ∀ n, n < 32 → ((nI n &&& 31).toBitVec.smod 32).toNat = n := by decide +kernel
theorem us_amt : ∀ n, n < 32 → (((nI n).toUInt32 &&& Int32.toUInt32 31).toBitVec % 32).toNat = n := by decide +kernel
theorem bt_ext {x y : Int32} (h : ∀ i, i < 32 → bt x i = bt y i) : x = y := Int32.toBitVec_inj.mp (BitVec.eq_of_getLsbD_eq (fun i hi => h i hi))
theorem q_by_ext {x y : Int32} (h : ∀ i, i < 8 → bt x i = bt y i) : q_by x = q_by y := by
  unfold q_by
  have e : x.toInt8 = y.toInt8 := by
    apply Int8.toBitVec_inj.mp
    apply BitVec.eq_of_getLsbD_eq
    intro i hi
    show (x.toBitVec.signExtend 8).getLsbD i = (y.toBitVec.signExtend 8).getLsbD i
    rw [BitVec.getLsbD_signExtend, BitVec.getLsbD_signExtend, if_pos (by omega), if_pos (by omega)]
    have := h i hi
    unfold bt at this
    rw [this]
  rw [e]
theorem bt_or (x y : Int32) (i : Nat) : bt (x ||| y) i = (bt x i || bt y i) := by
  unfold bt
  rw [Int32.toBitVec_or, BitVec.getLsbD_or]
theorem bt_and (x y : Int32) (i : Nat) : bt (x &&& y) i = (bt x i && bt y i) := by
  unfold bt
  rw [Int32.toBitVec_and, BitVec.getLsbD_and]
theorem bt_xor (x y : Int32) (i : Nat) : bt (x ^^^ y) i = (bt x i ^^ bt y i) := by
  unfold bt
  rw [Int32.toBitVec_xor, BitVec.getLsbD_xor]
theorem bt_sshr {n : Nat} (hn : n < 32) (x : Int32) {i : Nat} (hi : i < 32) : bt (x >>> (nI n &&& 31)) i = if n + i < 32 then bt x (n + i) else bt x 31 := by
  unfold bt
  show (x.toBitVec.sshiftRight (((nI n &&& 31).toBitVec.smod 32).toNat)).getLsbD i = _
  rw [sh_amt n hn, BitVec.getLsbD_sshiftRight, BitVec.msb_eq_getLsbD_last]
  have h1 : decide (32 ≤ i) = false := decide_eq_false (by omega)
  rw [h1]
  rfl
theorem bt_shl {n : Nat} (hn : n < 32) (x : Int32) {i : Nat} (hi : i < 32) : bt (x <<< (nI n &&& 31)) i = (decide (n ≤ i) && bt x (i - n)) := by
  unfold bt
  show (x.toBitVec <<< (((nI n &&& 31).toBitVec.smod 32).toNat)).getLsbD i = _
  rw [sh_amt n hn, BitVec.getLsbD_shiftLeft]
  by_cases h : n ≤ i
  · have h2 : decide (i < n) = false := decide_eq_false (by omega)
    have h3 : decide (n ≤ i) = true := decide_eq_true h
    have h4 : decide (i < 32) = true := decide_eq_true hi
    rw [h2, h3, h4]
    rfl
  · have h2 : decide (i < n) = true := decide_eq_true (by omega)
    have h3 : decide (n ≤ i) = false := decide_eq_false h
    rw [h2, h3]
    simp
theorem bt_ushr {n : Nat} (hn : n < 32) (x : Int32) (i : Nat) : bt ((x.toUInt32 >>> ((nI n).toUInt32 &&& Int32.toUInt32 31)).toInt32) i = bt x (n + i) := by
  unfold bt
  show (x.toBitVec >>> ((((nI n).toUInt32 &&& Int32.toUInt32 31).toBitVec % 32).toNat)).getLsbD i = _
  rw [us_amt n hn, BitVec.getLsbD_ushiftRight]
theorem bt_nI (n i : Nat) (hi : i < 32) : bt (nI n) i = n.testBit i := by
  unfold bt
  show (BitVec.ofNat 32 n).getLsbD i = _
  rw [BitVec.getLsbD_ofNat]
  have h4 : decide (i < 32) = true := decide_eq_true hi
  rw [h4]
  rfl
theorem bt_255 {i : Nat} (hi : i < 32) : bt 255 i = decide (i < 8) := by
  have h : ∀ j, j < 32 → bt 255 j = decide (j < 8) := by decide
  exact h i hi
def bt6 (x : Int64) (i : Nat) : Bool := x.toBitVec.getLsbD i
theorem sh_amt6 : ∀ n, n < 64 → (((nI n).toInt64 &&& 63).toBitVec.smod 64).toNat = n := by decide +kernel
theorem bt6_sshr {n : Nat} (hn : n < 64) (x : Int64) {i : Nat} (hi : i < 64) : bt6 (x >>> ((nI n).toInt64 &&& 63)) i = if n + i < 64 then bt6 x (n + i) else bt6 x 63 := by
  unfold bt6
  show (x.toBitVec.sshiftRight ((((nI n).toInt64 &&& 63).toBitVec.smod 64).toNat)).getLsbD i = _
  rw [sh_amt6 n hn, BitVec.getLsbD_sshiftRight, BitVec.msb_eq_getLsbD_last]
  have h1 : decide (64 ≤ i) = false := decide_eq_false (by omega)
  rw [h1]
  rfl
theorem bt_i6 (x : Int64) {i : Nat} (hi : i < 32) : bt x.toInt32 i = bt6 x i := by
  unfold bt bt6
  show (x.toBitVec.signExtend 32).getLsbD i = _
  rw [BitVec.getLsbD_signExtend, if_pos (by omega)]
  have h4 : decide (i < 32) = true := decide_eq_true hi
  rw [h4]
  rfl
theorem by_hi6 {n : Nat} (hn : n ≤ 24) (x : Int64) : q_by ((x >>> ((nI n).toInt64 &&& 63)).toInt32) = q_by (x.toInt32 >>> (nI n &&& 31)) := q_by_ext (fun i hi => by
  rw [bt_i6 _ (by omega), bt6_sshr (by omega) _ (by omega), if_pos (by omega), bt_sshr (by omega) _ (by omega), if_pos (by omega), bt_i6 _ (by omega)])
theorem by_shr0 (x : Int32) : q_by (x >>> (nI 0 &&& 31)) = q_by x := q_by_ext (fun i hi => by
  rw [bt_sshr (by omega) _ (by omega), if_pos (by omega), Nat.zero_add])
theorem by_shrshr {a b : Nat} (h : a + b ≤ 24) (x : Int32) : q_by ((x >>> (nI a &&& 31)) >>> (nI b &&& 31)) = q_by (x >>> (nI (a + b) &&& 31)) := q_by_ext (fun i hi => by
  rw [bt_sshr (by omega) _ (by omega), if_pos (by omega), bt_sshr (by omega) _ (by omega), if_pos (by omega), bt_sshr (by omega) _ (by omega), if_pos (by omega), Nat.add_assoc])
