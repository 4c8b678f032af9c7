/-! the pure half: the CRC of bytes, by nibbles (class) and by bits (reference) -/
def cr_s (c : BitVec 32) : BitVec 32 := (c >>> 1) ^^^ (if c.getLsbD 0 then 0xEDB88320#32 else 0#32)
def cr_4 (c : BitVec 32) : BitVec 32 := cr_s (cr_s (cr_s (cr_s c)))
theorem cr_s_bit (c : BitVec 32) (i : Nat) : (cr_s c).getLsbD i = (c.getLsbD (1 + i) ^^ (c.getLsbD 0 && (0xEDB88320#32).getLsbD i)) := by
  unfold cr_s
  rw [BitVec.getLsbD_xor, BitVec.getLsbD_ushiftRight]
  by_cases h : c.getLsbD 0 = true
  · rw [if_pos h, h, Bool.true_and]
  · rw [if_neg h, Bool.not_eq_true _ |>.mp h, Bool.false_and, BitVec.getLsbD_zero]
theorem cr_s_xor (a b : BitVec 32) : cr_s (a ^^^ b) = cr_s a ^^^ cr_s b := by
  apply BitVec.eq_of_getLsbD_eq
  intro i hi
  rw [BitVec.getLsbD_xor, cr_s_bit, cr_s_bit, cr_s_bit, BitVec.getLsbD_xor, BitVec.getLsbD_xor]
  cases a.getLsbD (1 + i) <;> cases b.getLsbD (1 + i) <;> cases a.getLsbD 0 <;> cases b.getLsbD 0 <;> cases (0xEDB88320#32).getLsbD i <;> rfl
theorem cr_4_xor (a b : BitVec 32) : cr_4 (a ^^^ b) = cr_4 a ^^^ cr_4 b := by
  unfold cr_4
  rw [cr_s_xor, cr_s_xor, cr_s_xor, cr_s_xor]
theorem cr_s_even (a : BitVec 32) (h : a.getLsbD 0 = false) : cr_s a = a >>> 1 := by
  unfold cr_s
  rw [h]
  simp
/-- the low four bits cleared: four steps shift it -/
theorem cr_4_high (a : BitVec 32) (h : ∀ i, i < 4 → a.getLsbD i = false) : cr_4 a = a >>> 4 := by
  have h0 := cr_s_even a (h 0 (by omega))
  have h1 := cr_s_even (a >>> 1) (by rw [BitVec.getLsbD_ushiftRight]; exact h 1 (by omega))
  have h2 := cr_s_even (a >>> 1 >>> 1) (by rw [BitVec.getLsbD_ushiftRight, BitVec.getLsbD_ushiftRight]; exact h 2 (by omega))
  have h3 := cr_s_even (a >>> 1 >>> 1 >>> 1) (by rw [BitVec.getLsbD_ushiftRight, BitVec.getLsbD_ushiftRight, BitVec.getLsbD_ushiftRight]; exact h 3 (by omega))
  unfold cr_4
  rw [h0, h1, h2, h3]
  apply BitVec.eq_of_getLsbD_eq
  intro i hi
  simp only [BitVec.getLsbD_ushiftRight]
  congr 1
  omega
theorem cr_tab : ∀ n, n < 16 → cr_4 (BitVec.ofNat 32 n) = (tab_D_CRC_STEPS n).toBitVec := by decide +kernel
theorem cr_4_nib (c : BitVec 32) : cr_4 c = (c >>> 4) ^^^ (tab_D_CRC_STEPS (c.toNat % 16)).toBitVec := by
  have e1 : c = (c &&& 0xFFFFFFF0#32) ^^^ BitVec.ofNat 32 (c.toNat % 16) := by
    apply BitVec.eq_of_getLsbD_eq
    intro i hi
    rw [BitVec.getLsbD_xor, BitVec.getLsbD_and, show (BitVec.ofNat 32 (c.toNat % 16)).getLsbD i = (decide (i < 32) && (c.toNat % 16).testBit i) from BitVec.getLsbD_ofNat _ _ _]
    have h16 : (c.toNat % 16).testBit i = (decide (i < 4) && c.getLsbD i) := by
      rw [show (16 : Nat) = 2 ^ 4 from rfl, Nat.testBit_mod_two_pow]
      rfl
    rw [h16]
    have hm : (0xFFFFFFF0#32).getLsbD i = decide (4 ≤ i) := by
      have h9 : ∀ j, j < 32 → (0xFFFFFFF0#32).getLsbD j = decide (4 ≤ j) := by decide
      exact h9 i hi
    rw [hm]
    by_cases h : i < 4
    · have h2 : ¬ 4 ≤ i := by omega
      simp [h, h2, hi]
    · have h2 : 4 ≤ i := by omega
      simp [h, h2]
  have e2 : (c &&& 0xFFFFFFF0#32) >>> 4 = c >>> 4 := by
    apply BitVec.eq_of_getLsbD_eq
    intro i hi
    rw [BitVec.getLsbD_ushiftRight, BitVec.getLsbD_and, BitVec.getLsbD_ushiftRight]
    by_cases h : 4 + i < 32
    · have hm : (0xFFFFFFF0#32).getLsbD (4 + i) = true := by
        have h9 : ∀ j, j < 32 → 4 ≤ j → (0xFFFFFFF0#32).getLsbD j = true := by decide
        exact h9 _ h (by omega)
      rw [hm, Bool.and_true]
    · rw [BitVec.getLsbD_of_ge c _ (by omega)]
      rfl
  have e3 : cr_4 (c &&& 0xFFFFFFF0#32) = (c &&& 0xFFFFFFF0#32) >>> 4 := cr_4_high _ (fun i hi => by
    rw [BitVec.getLsbD_and]
    have h9 : ∀ j, j < 4 → (0xFFFFFFF0#32).getLsbD j = false := by decide
    rw [h9 i hi, Bool.and_false])
  have e4 := cr_tab (c.toNat % 16) (Nat.mod_lt _ (by omega))
  calc cr_4 c = cr_4 ((c &&& 0xFFFFFFF0#32) ^^^ BitVec.ofNat 32 (c.toNat % 16)) := congrArg cr_4 e1
    _ = cr_4 (c &&& 0xFFFFFFF0#32) ^^^ cr_4 (BitVec.ofNat 32 (c.toNat % 16)) := cr_4_xor _ _
    _ = (c >>> 4) ^^^ (tab_D_CRC_STEPS (c.toNat % 16)).toBitVec := by rw [e3, e2, e4]
/-- one byte -/
def cr_b (c : BitVec 32) (x : Int32) : BitVec 32 := cr_4 (cr_4 (c ^^^ (x &&& 255).toBitVec))
def cr_f (f : Nat → Int32) : Nat → Nat → BitVec 32 → BitVec 32
  | _, 0, c => c
  | i, r + 1, c => cr_f f (i + 1) r (cr_b c (f i))
theorem cr_f_eq {f g : Nat → Int32} : ∀ (r i : Nat) (c : BitVec 32), (∀ j, i ≤ j → j < i + r → f j = g j) → cr_f f i r c = cr_f g i r c := by
  intro r
  induction r with
  | zero => intro i c _; rfl
  | succ r ih =>
    intro i c h
    show cr_f f (i + 1) r (cr_b c (f i)) = cr_f g (i + 1) r (cr_b c (g i))
    rw [h i (by omega) (by omega)]
    exact ih (i + 1) _ (fun j h1 h2 => h j (by omega) (by omega))
/-- the class's nibble step on an int -/
def cr_n (x : Int32) : Int32 := (x.toUInt32 >>> ((4 : Int32).toUInt32 &&& Int32.toUInt32 31)).toInt32 ^^^ (tab_D_CRC_STEPS (x &&& 15).toNatClampNeg)
theorem cr_n_in (x : Int32) : inb (x &&& 15) 16 = true := by
  have e : x &&& 15 = nI (x.toBitVec.toNat % 16) := pk_and x 4 (by decide)
  rw [e]
  exact q_inb (Nat.mod_lt _ (by omega)) (by omega)
theorem cr_n_bv (x : Int32) : (cr_n x).toBitVec = cr_4 x.toBitVec := by
  have e : x &&& 15 = nI (x.toBitVec.toNat % 16) := pk_and x 4 (by decide)
  have hlt : x.toBitVec.toNat % 16 < 16 := Nat.mod_lt _ (by omega)
  unfold cr_n
  rw [e, nI_clamp (by omega), cr_4_nib, Int32.toBitVec_xor]
  rfl
theorem crcD_L (K N : Nat) (hN : N < 2 ^ 31) (b : Nat → Int32) (t : Nat) (ht : t ≤ N) : ∀ (r k : Nat) (c : Int32) (q : Nat), k + r = t → r < q → ∃ c' : Int32, f_D_crcOf_L17 K N b (nI t) q c (nI k) = some c' ∧ c'.toBitVec = cr_f b k r c.toBitVec := by
  intro r
  induction r with
  | zero =>
    intro k c q hk hq
    obtain ⟨q, rfl⟩ : ∃ w, q = w + 1 := ⟨q - 1, by omega⟩
    refine ⟨c, ?_, rfl⟩
    show f_D_crcOf_17 K N _ b (nI t) c (nI k) = _
    unfold f_D_crcOf_17
    rw [if_pos (nI_le (by omega) (by omega))]
  | succ r ih =>
    intro k c q hk hq
    obtain ⟨q, rfl⟩ : ∃ w, q = w + 1 := ⟨q - 1, by omega⟩
    obtain ⟨c', h1, h2⟩ := ih (k + 1) (cr_n (cr_n (c ^^^ (b k &&& 255)))) q (by omega) (by omega)
    refine ⟨c', ?_, ?_⟩
    · show f_D_crcOf_17 K N _ b (nI t) c (nI k) = _
      unfold f_D_crcOf_17
      rw [if_neg (nI_ge (by omega) (by omega)), if_pos (q_inb (by omega) hN), nI_clamp (by omega), if_pos (cr_n_in _), nI_1]
      show (if inb ((cr_n (c ^^^ (b k &&& 255))) &&& 15) 16 = true then f_D_crcOf_L17 K N b (nI t) q (cr_n (cr_n (c ^^^ (b k &&& 255)))) (nI (k + 1)) else none) = _
      rw [if_pos (cr_n_in _)]
      exact h1
    · rw [h2, cr_n_bv, cr_n_bv, Int32.toBitVec_xor]
      rfl
theorem crcD_ok {K N i t : Nat} (hN : N < 2 ^ 31) (hit : i ≤ t) (ht : t ≤ N) (hK : N < K) (b : Nat → Int32) : ∃ c : Int32, f_D_crcOf K N (nI i) (nI t) b = some (c, ()) ∧ c.toBitVec = cr_f b i (t - i) 0xFFFFFFFF#32 ^^^ 0xFFFFFFFF#32 := by
  obtain ⟨c', h1, h2⟩ := crcD_L K N hN b t ht (t - i) i (-1) K (by omega) (by omega)
  refine ⟨c' ^^^ (-1), ?_, ?_⟩
  · unfold f_D_crcOf
    rw [show (if (Int32.ofNat N) < nI t then (Int32.ofNat N) else nI t) = nI t from if_neg (show ¬ nI N < nI t from nI_nlt ht (by omega)), if_neg (nI_pos (by omega)), h1]
    rfl
  · rw [Int32.toBitVec_xor, h2]
    rfl
/-- the reference's, on a long -/
theorem bt6_ext {x y : Int64} (h : ∀ i, i < 64 → bt6 x i = bt6 y i) : x = y := Int64.toBitVec_inj.mp (BitVec.eq_of_getLsbD_eq (fun i hi => h i hi))
theorem bt6_xor (x y : Int64) (i : Nat) : bt6 (x ^^^ y) i = (bt6 x i ^^ bt6 y i) := by
  unfold bt6
  rw [Int64.toBitVec_xor, BitVec.getLsbD_xor]
theorem bt6_and (x y : Int64) (i : Nat) : bt6 (x &&& y) i = (bt6 x i && bt6 y i) := by
  unfold bt6
  rw [Int64.toBitVec_and, BitVec.getLsbD_and]
def Rx (c : BitVec 32) (x : Int64) : Prop := ∀ i, i < 64 → bt6 x i = c.getLsbD i
theorem Rx_eq {c d : BitVec 32} {x y : Int64} (h1 : Rx c x) (h2 : Rx d y) : x = y ↔ c = d := by
  constructor
  · intro e
    refine BitVec.eq_of_getLsbD_eq (fun i hi => ?_)
    rw [← h1 i (by omega), ← h2 i (by omega), e]
  · intro e
    refine bt6_ext (fun i hi => ?_)
    rw [h1 i hi, h2 i hi, e]
theorem cr_64 {c : BitVec 32} {x : Int64} (hx : Rx c x) : Rx (cr_s c) (if (lg_cmp (x &&& 1) 1) = 0 then ((x >>> ((1 : Int32).toInt64 &&& 63)) ^^^ 3988292384) else (x >>> ((1 : Int32).toInt64 &&& 63))) := by
  have h1 : ∀ i, i < 64 → bt6 1 i = decide (i = 0) := by decide
  have hp : ∀ i, i < 64 → bt6 3988292384 i = (0xEDB88320#32).getLsbD i := by decide +kernel
  have hsh : ∀ i, i < 64 → bt6 (x >>> ((1 : Int32).toInt64 &&& 63)) i = (c >>> 1).getLsbD i := by
    intro i hi
    rw [show (1 : Int32) = nI 1 from rfl, bt6_sshr (by omega) _ hi, BitVec.getLsbD_ushiftRight]
    by_cases q : 1 + i < 64
    · rw [if_pos q, hx _ q]
    · rw [if_neg q, hx 63 (by omega), BitVec.getLsbD_of_ge c _ (by omega), BitVec.getLsbD_of_ge c _ (by omega)]
  have hb : lg_cmp (x &&& 1) 1 = 0 ↔ c.getLsbD 0 = true := by
    rw [cmp_eq]
    constructor
    · intro e
      have h2 := congrArg (fun y => bt6 y 0) e
      rw [bt6_and, h1 0 (by omega), decide_eq_true rfl, Bool.and_true, hx 0 (by omega)] at h2
      exact h2
    · intro e
      refine bt6_ext (fun i hi => ?_)
      rw [bt6_and, h1 i hi]
      by_cases q : i = 0
      · rw [q, decide_eq_true rfl, Bool.and_true, hx 0 (by omega), e]
      · rw [decide_eq_false q, Bool.and_false]
  intro i hi
  unfold cr_s
  by_cases q : c.getLsbD 0 = true
  · rw [if_pos (hb.mpr q), if_pos q, bt6_xor, BitVec.getLsbD_xor, hsh i hi, hp i hi]
  · rw [if_neg (fun e => q (hb.mp e)), if_neg q, hsh i hi, BitVec.xor_zero]
def cr_i : Nat → BitVec 32 → BitVec 32
  | 0, c => c
  | r + 1, c => cr_i r (cr_s c)
theorem crcM_L28 {K N : Nat} (b : Nat → Int32) (x2 x5 : Int32) : ∀ (r k q : Nat) (c : BitVec 32) (x : Int64), k + r = 8 → r < q → Rx c x → ∃ x', f_M_crc_L28 K N b x2 x5 q x (nI k) = some x' ∧ Rx (cr_i r c) x' := by
  intro r
  induction r with
  | zero =>
    intro k q c x hk hq hx
    obtain ⟨q, rfl⟩ : ∃ w, q = w + 1 := ⟨q - 1, by omega⟩
    have e : k = 8 := by omega
    subst e
    refine ⟨x, ?_, hx⟩
    show f_M_crc_28 K N _ b x2 x x5 (nI 8) = _
    unfold f_M_crc_28
    rw [if_pos (by decide)]
  | succ r ih =>
    intro k q c x hk hq hx
    obtain ⟨q, rfl⟩ : ∃ w, q = w + 1 := ⟨q - 1, by omega⟩
    obtain ⟨x', h1, h2⟩ := ih (k + 1) q (cr_s c) _ (by omega) (by omega) (cr_64 hx)
    refine ⟨x', ?_, h2⟩
    show f_M_crc_28 K N _ b x2 x x5 (nI k) = _
    unfold f_M_crc_28 f_M_crc_56
    rw [if_neg (show ¬ (8 : Int32) ≤ nI k from show ¬ nI 8 ≤ nI k from nI_ge (by omega) (by omega)), nI_1, ← h1]
    by_cases q : lg_cmp (x &&& 1) 1 = 0
    · rw [if_pos q, if_pos q]
    · rw [if_neg q, if_neg q]
theorem bt6_ext32 (y : Int32) {i : Nat} (hi : i < 64) : bt6 ((y &&& 255).toInt64) i = (y &&& 255).toBitVec.getLsbD i := by
  unfold bt6
  show ((y &&& 255).toBitVec.signExtend 64).getLsbD i = _
  rw [BitVec.getLsbD_signExtend, decide_eq_true hi, Bool.true_and]
  by_cases q : i < 32
  · rw [if_pos q]
  · rw [if_neg q, BitVec.msb_eq_getLsbD_last, BitVec.getLsbD_of_ge _ i (by omega)]
    have h := bt_and y 255 31
    rw [bt_255 (by omega), decide_eq_false (by omega), Bool.and_false] at h
    exact h
theorem crcM_L {K N t : Nat} (hK : 9 < K) (hN : N < 2 ^ 31) (ht : t ≤ N) (b : Nat → Int32) : ∀ (r k q : Nat) (c : BitVec 32) (x : Int64), k + r = t → r < q → Rx c x → ∃ x', f_M_crc_L7 K N b (nI t) q x (nI k) = some x' ∧ Rx (cr_f b k r c) x' := by
  intro r
  induction r with
  | zero =>
    intro k q c x hk hq hx
    obtain ⟨q, rfl⟩ : ∃ w, q = w + 1 := ⟨q - 1, by omega⟩
    refine ⟨x, ?_, hx⟩
    show f_M_crc_7 K N _ b (nI t) x (nI k) = _
    unfold f_M_crc_7
    rw [if_pos (nI_le (by omega) (by omega))]
  | succ r ih =>
    intro k q c x hk hq hx
    obtain ⟨q, rfl⟩ : ∃ w, q = w + 1 := ⟨q - 1, by omega⟩
    have hx2 : Rx (c ^^^ (b k &&& 255).toBitVec) (x ^^^ (b k &&& 255).toInt64) := by
      intro i hi
      rw [bt6_xor, BitVec.getLsbD_xor, hx i hi, bt6_ext32 _ hi]
    obtain ⟨x1, g1, g2⟩ := crcM_L28 (K := K) (N := N) b (nI t) (nI k) 8 0 K _ _ (by omega) (by omega) hx2
    obtain ⟨x', h1, h2⟩ := ih (k + 1) q (cr_b c (b k)) x1 (by omega) (by omega) g2
    refine ⟨x', ?_, h2⟩
    show f_M_crc_7 K N _ b (nI t) x (nI k) = _
    unfold f_M_crc_7
    rw [if_neg (nI_ge (by omega) (by omega)), if_pos (q_inb (by omega) hN), nI_clamp (by omega), show f_M_crc_L28 K N b (nI t) (nI k) K (x ^^^ (b k &&& 255).toInt64) 0 = _ from g1, q_bind, nI_1]
    exact h1
/-- the CRC -/
def crcF (b : Nat → Int32) (i t : Nat) : BitVec 32 := cr_f b i (t - i) 0xFFFFFFFF#32 ^^^ 0xFFFFFFFF#32
theorem crcM_ok {K N i t : Nat} (hN : N < 2 ^ 31) (hit : i ≤ t) (ht : t ≤ N) (hK : N + 9 < K) (b : Nat → Int32) : ∃ x : Int64, f_M_crc K N (nI i) (nI t) b = some (x, ()) ∧ Rx (crcF b i t) x := by
  have h0 : Rx 0xFFFFFFFF#32 4294967295 := by
    have h : ∀ i, i < 64 → bt6 4294967295 i = (0xFFFFFFFF#32).getLsbD i := by decide +kernel
    exact h
  obtain ⟨x', h1, h2⟩ := crcM_L (K := K) (by omega) hN ht b (t - i) i K _ _ (by omega) (by omega) h0
  refine ⟨x' ^^^ 4294967295, ?_, fun j hj => ?_⟩
  · unfold f_M_crc
    rw [h1, q_bind]
  · unfold crcF
    rw [bt6_xor, BitVec.getLsbD_xor, h2 j hj, h0 j hj]
theorem Rx_i {c : Int32} {x : Int64} (h : Rx c.toBitVec x) : x.toInt32 = c := bt_ext (fun i hi => by
  rw [bt_i6 _ hi, h i (by omega)]
  rfl)
theorem crc_both {K N N' i t : Nat} (hN : N < 2 ^ 31) (hN' : N' < 2 ^ 31) (hit : i ≤ t) (ht : t ≤ N) (ht' : t ≤ N') (hK : N + N' + 9 < K) {b b' : Nat → Int32} (hb : ∀ j, i ≤ j → j < t → b' j = b j) : ∃ (c : Int32) (x : Int64), f_D_crcOf K N (nI i) (nI t) b = some (c, ()) ∧ f_M_crc K N' (nI i) (nI t) b' = some (x, ()) ∧ Rx c.toBitVec x := by
  obtain ⟨c, h1, h2⟩ := crcD_ok (K := K) hN hit ht (by omega) b
  obtain ⟨x, h3, h4⟩ := crcM_ok (K := K) hN' hit ht' (by omega) b'
  refine ⟨c, x, h1, h3, ?_⟩
  rw [h2]
  unfold crcF at h4
  rw [cr_f_eq (g := b) (t - i) i _ (fun j g1 g2 => hb j g1 (by omega))] at h4
  exact h4
/-! Adler -/
def adF (f : Nat → Int32) : Nat → Nat → Nat → Nat → Nat × Nat
  | _, 0, a, b => (a, b)
  | i, r + 1, a, b => adF f (i + 1) r ((a + (f i).toBitVec.toNat % 256) % 65521) ((b + (a + (f i).toBitVec.toNat % 256) % 65521) % 65521)
theorem adF_lt (f : Nat → Int32) : ∀ (r i a b : Nat), a < 65521 → b < 65521 → (adF f i r a b).1 < 65521 ∧ (adF f i r a b).2 < 65521 := by
  intro r
  induction r with
  | zero => intro i a b ha hb; exact ⟨ha, hb⟩
  | succ r ih => intro i a b ha hb; exact ih _ _ _ (Nat.mod_lt _ (by omega)) (Nat.mod_lt _ (by omega))
theorem adF_eq {f g : Nat → Int32} : ∀ (r i a b : Nat), (∀ j, i ≤ j → j < i + r → f j = g j) → adF f i r a b = adF g i r a b := by
  intro r
  induction r with
  | zero => intro i a b h; rfl
  | succ r ih =>
    intro i a b h
    show adF f (i + 1) r ((a + (f i).toBitVec.toNat % 256) % 65521) ((b + (a + (f i).toBitVec.toNat % 256) % 65521) % 65521) = adF g (i + 1) r ((a + (g i).toBitVec.toNat % 256) % 65521) ((b + (a + (g i).toBitVec.toNat % 256) % 65521) % 65521)
    rw [h i (by omega) (by omega)]
    exact ih _ _ _ (fun j h1 h2 => h j (by omega) (by omega))
theorem ad_1 {a : Nat} (ha : a < 65521) (x : Int32) : (nI a + (x &&& 255)) - (nI a + (x &&& 255)) / 65521 * 65521 = nI ((a + x.toBitVec.toNat % 256) % 65521) := by
  have e : x &&& 255 = nI (x.toBitVec.toNat % 256) := pk_and x 8 (by decide)
  have : x.toBitVec.toNat % 256 < 256 := Nat.mod_lt _ (by omega)
  rw [e, nI_add]
  exact pk_rem (d := 65521) (by omega) (by omega) (by omega)
theorem ad_2 {a b : Nat} (ha : a < 65521) (hb : b < 65521) : (nI b + nI a) - (nI b + nI a) / 65521 * 65521 = nI ((b + a) % 65521) := by
  rw [nI_add]
  exact pk_rem (d := 65521) (by omega) (by omega) (by omega)
theorem adD_L {K N t : Nat} (hN : N < 2 ^ 31) (ht : t ≤ N) (f : Nat → Int32) : ∀ (r k q a b : Nat), k + r = t → r < q → a < 65521 → b < 65521 → f_D_adlerOf_L15 K N f (nI t) q (nI a) (nI b) (nI k) = some (nI (adF f k r a b).1, nI (adF f k r a b).2) := by
  intro r
  induction r with
  | zero =>
    intro k q a b hk hq ha hb
    obtain ⟨q, rfl⟩ : ∃ w, q = w + 1 := ⟨q - 1, by omega⟩
    show f_D_adlerOf_15 K N _ f (nI t) (nI a) (nI b) (nI k) = _
    unfold f_D_adlerOf_15
    rw [if_pos (nI_le (by omega) (by omega))]
    rfl
  | succ r ih =>
    intro k q a b hk hq ha hb
    obtain ⟨q, rfl⟩ : ∃ w, q = w + 1 := ⟨q - 1, by omega⟩
    have ha2 : (a + (f k).toBitVec.toNat % 256) % 65521 < 65521 := Nat.mod_lt _ (by omega)
    show f_D_adlerOf_15 K N _ f (nI t) (nI a) (nI b) (nI k) = _
    unfold f_D_adlerOf_15
    rw [if_neg (nI_ge (by omega) (by omega)), if_pos (q_inb (by omega) hN), nI_clamp (by omega), ad_1 ha, ad_2 ha2 hb, nI_1]
    exact ih (k + 1) q _ _ (by omega) (by omega) ha2 (Nat.mod_lt _ (by omega))
theorem adM_L {K N t : Nat} (hN : N < 2 ^ 31) (ht : t ≤ N) (f : Nat → Int32) : ∀ (r k q a b : Nat), k + r = t → r < q → a < 65521 → b < 65521 → f_M_adler_L7 K N f (nI t) q (nI a) (nI b) (nI k) = some (nI (adF f k r a b).1, nI (adF f k r a b).2) := by
  intro r
  induction r with
  | zero =>
    intro k q a b hk hq ha hb
    obtain ⟨q, rfl⟩ : ∃ w, q = w + 1 := ⟨q - 1, by omega⟩
    show f_M_adler_7 K N _ f (nI t) (nI a) (nI b) (nI k) = _
    unfold f_M_adler_7
    rw [if_pos (nI_le (by omega) (by omega))]
    rfl
  | succ r ih =>
    intro k q a b hk hq ha hb
    obtain ⟨q, rfl⟩ : ∃ w, q = w + 1 := ⟨q - 1, by omega⟩
    have ha2 : (a + (f k).toBitVec.toNat % 256) % 65521 < 65521 := Nat.mod_lt _ (by omega)
    show f_M_adler_7 K N _ f (nI t) (nI a) (nI b) (nI k) = _
    unfold f_M_adler_7
    rw [if_neg (nI_ge (by omega) (by omega)), if_pos (q_inb (by omega) hN), nI_clamp (by omega), ad_1 ha, ad_2 ha2 hb, nI_1]
    exact ih (k + 1) q _ _ (by omega) (by omega) ha2 (Nat.mod_lt _ (by omega))
theorem nI_or (x y : Nat) : nI x ||| nI y = nI (x ||| y) := bt_ext (fun i hi => by
  rw [bt_or, bt_nI _ _ hi, bt_nI _ _ hi, bt_nI _ _ hi, Nat.testBit_or])
/-- the number -/
def adl (f : Nat → Int32) (n : Nat) : Nat := 65536 * (adF f 0 n 1 0).2 + (adF f 0 n 1 0).1
theorem adl_lt (f : Nat → Int32) (n : Nat) : adl f n < 2 ^ 32 := by
  obtain ⟨h1, h2⟩ := adF_lt f n 0 1 0 (by omega) (by omega)
  unfold adl
  omega
theorem adl_eq {f g : Nat → Int32} {n : Nat} (h : ∀ j, j < n → f j = g j) : adl f n = adl g n := by
  unfold adl
  rw [adF_eq n 0 1 0 (fun j _ h2 => h j (by omega))]
theorem adD_ok {K N t : Nat} (hN : N < 2 ^ 31) (ht : t ≤ N) (hK : N < K) (f : Nat → Int32) : f_D_adlerOf K N (nI t) f = some (nI (adl f t), ()) := by
  obtain ⟨h1, h2⟩ := adF_lt f t 0 1 0 (by omega) (by omega)
  unfold f_D_adlerOf adl
  rw [show (if (Int32.ofNat N) < nI t then (Int32.ofNat N) else nI t) = nI t from if_neg (show ¬ nI N < nI t from nI_nlt ht (by omega)), show f_D_adlerOf_L15 K N f (nI t) K 1 0 0 = _ from adD_L (K := K) hN ht f t 0 K 1 0 (by omega) (by omega) (by omega) (by omega), q_bind]
  show some ((nI (adF f 0 t 1 0).2 <<< ((16 : Int32) &&& 31)) ||| nI (adF f 0 t 1 0).1, ()) = _
  rw [pk_shlN ((16 : Int32) &&& 31) 16 (by decide) (by omega), nI_or, ← Nat.shiftLeft_eq, ← Nat.shiftLeft_add_eq_or_of_lt (by omega), Nat.shiftLeft_eq, Nat.mul_comm]
theorem adM_ok {K N t : Nat} (hN : N < 2 ^ 31) (ht : t ≤ N) (hK : N < K) (f : Nat → Int32) : f_M_adler K N (nI t) f = some (lN (adl f t), ()) := by
  obtain ⟨h1, h2⟩ := adF_lt f t 0 1 0 (by omega) (by omega)
  unfold f_M_adler adl
  rw [show f_M_adler_L7 K N f (nI t) K 1 0 0 = _ from adM_L (K := K) hN ht f t 0 K 1 0 (by omega) (by omega) (by omega) (by omega), q_bind, nI_l (by omega), nI_l (by omega), show (65536 : Int64) = lN 65536 from rfl, lN_mul, lN_add]
