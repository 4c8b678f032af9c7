/-! the pure half: bits written, the lowest first -/
def vn : List Bool → Nat
  | [] => 0
  | x :: R => x.toNat + 2 * vn R
theorem vn_bit : ∀ (R : List Bool) (i : Nat), (vn R).testBit i = (R[i]?).getD false := by
  intro R
  induction R with
  | nil => intro i; exact Nat.zero_testBit i
  | cons x R ih =>
    intro i
    cases i with
    | zero =>
      show (x.toNat + 2 * vn R).testBit 0 = x
      rw [Nat.testBit_zero]
      cases x
      · exact decide_eq_false (by show ¬ (0 + 2 * vn R) % 2 = 1; omega)
      · exact decide_eq_true (by show (1 + 2 * vn R) % 2 = 1; omega)
    | succ i =>
      show (x.toNat + 2 * vn R).testBit (i + 1) = (R[i]?).getD false
      rw [Nat.testBit_succ, ← ih i]
      congr 1
      cases x
      · show (0 + 2 * vn R) / 2 = vn R; omega
      · show (1 + 2 * vn R) / 2 = vn R; omega
def vb (R : List Bool) : Int32 := nI (vn R)
theorem bt_vb (R : List Bool) {i : Nat} (hi : i < 32) : bt (vb R) i = (R[i]?).getD false := by
  unfold vb
  rw [bt_nI _ _ hi, vn_bit]
/-- bits k .. k + n - 1 of v -/
def bo (v : Int32) (k n : Nat) : List Bool := (List.range' k n).map (bt v)
theorem bo_s (v : Int32) (k n : Nat) : bo v k (n + 1) = bt v k :: bo v (k + 1) n := by
  unfold bo
  rw [List.range'_succ, List.map_cons]
theorem bo_len (v : Int32) (k n : Nat) : (bo v k n).length = n := by
  unfold bo
  rw [List.length_map, List.length_range']
theorem bo_get (v : Int32) : ∀ (n k i : Nat), ((bo v k n)[i]?).getD false = (decide (i < n) && bt v (k + i)) := by
  intro n
  induction n with
  | zero =>
    intro k i
    rw [decide_eq_false (by omega)]
    rfl
  | succ n ih =>
    intro k i
    rw [bo_s]
    cases i with
    | zero => rw [decide_eq_true (by omega)]; exact (Bool.true_and _).symm
    | succ i =>
      show ((bo v (k + 1) n)[i]?).getD false = _
      rw [ih (k + 1) i, show k + 1 + i = k + (i + 1) by omega]
      by_cases c : i < n
      · rw [decide_eq_true c, decide_eq_true (by omega)]
      · rw [decide_eq_false c, decide_eq_false (by omega)]
theorem get_app (R S : List Bool) (i : Nat) : ((R ++ S)[i]?).getD false = if i < R.length then (R[i]?).getD false else (S[i - R.length]?).getD false := by
  by_cases c : i < R.length
  · rw [if_pos c, List.getElem?_append_left c]
  · rw [if_neg c, List.getElem?_append_right (by omega)]
theorem get_out (R : List Bool) {i : Nat} (h : R.length ≤ i) : (R[i]?).getD false = false := by
  rw [List.getElem?_eq_none h]
  rfl
def bytk : Nat → List Bool → List Int32
  | 0, _ => []
  | k + 1, S => q_by (vb (S.take 8)) :: bytk k (S.drop 8)
def byt (S : List Bool) : List Int32 := bytk (S.length / 8) S
def rst (S : List Bool) : List Bool := S.drop (8 * (S.length / 8))
theorem byt_s {S : List Bool} (h : 8 ≤ S.length) : byt S = q_by (vb (S.take 8)) :: byt (S.drop 8) := by
  unfold byt
  rw [show S.length / 8 = (S.drop 8).length / 8 + 1 by rw [List.length_drop]; omega]
  rfl
theorem ret_s {S : List Bool} (h : 8 ≤ S.length) : rst S = rst (S.drop 8) := by
  unfold rst
  rw [List.drop_drop, List.length_drop]
  congr 1
  omega
theorem byt_lt {S : List Bool} (h : S.length < 8) : byt S = [] := by
  unfold byt
  rw [show S.length / 8 = 0 by omega]
  rfl
theorem ret_lt {S : List Bool} (h : S.length < 8) : rst S = S := by
  unfold rst
  rw [show S.length / 8 = 0 by omega]
  rfl
theorem ret_len (S : List Bool) : (rst S).length = S.length % 8 := by
  unfold rst
  rw [List.length_drop]
  omega
theorem bytk_len : ∀ (k : Nat) (S : List Bool), (bytk k S).length = k := by
  intro k
  induction k with
  | zero => intro S; rfl
  | succ k ih => intro S; show (bytk k _).length + 1 = _; rw [ih]
theorem byt_len (S : List Bool) : (byt S).length = S.length / 8 := bytk_len _ _
theorem byt_app (T : List Bool) : ∀ (n : Nat) (S : List Bool), S.length ≤ n → byt (S ++ T) = byt S ++ byt (rst S ++ T) ∧ rst (S ++ T) = rst (rst S ++ T) := by
  intro n
  induction n with
  | zero =>
    intro S h
    have h8 : S.length < 8 := by omega
    rw [byt_lt h8, ret_lt h8]
    exact ⟨rfl, rfl⟩
  | succ n ih =>
    intro S h
    by_cases h8 : S.length < 8
    · rw [byt_lt h8, ret_lt h8]
      exact ⟨rfl, rfl⟩
    · have h9 : 8 ≤ (S ++ T).length := by rw [List.length_append]; omega
      obtain ⟨i1, i2⟩ := ih (S.drop 8) (by rw [List.length_drop]; omega)
      have e1 : (S ++ T).drop 8 = S.drop 8 ++ T := List.drop_append_of_le_length (by omega)
      have e2 : (S ++ T).take 8 = S.take 8 := List.take_append_of_le_length (by omega)
      rw [byt_s h9, byt_s (S := S) (by omega), ret_s (S := S) (by omega), ret_s h9, e1, e2, i1, i2]
      exact ⟨rfl, rfl⟩
theorem byt_a (S T : List Bool) : byt (S ++ T) = byt S ++ byt (rst S ++ T) := (byt_app T _ S (Nat.le_refl _)).1
theorem ret_a (S T : List Bool) : rst (S ++ T) = rst (rst S ++ T) := (byt_app T _ S (Nat.le_refl _)).2
/-- the bits S are put behind the bytes Y; or they are refused -/
def As {α ε : Type} (N : Nat) (b : Nat → Int32) (Y : List Int32) (S : List Bool) (mk : Int32 → Int32 → Int32 → (Nat → Int32) → α) (r : Option (α ⊕ (Nat × ε))) : Prop := ((Y ++ byt S).length ≤ N → r = some (.inl (mk (nI (Y ++ byt S).length) (vb (rst S)) (nI (rst S).length) (wr b (Y ++ byt S))))) ∧ (N < (Y ++ byt S).length → ∃ u, r = some (.inr (4, u)))
theorem As.nil {α ε : Type} {N : Nat} {b : Nat → Int32} {Y : List Int32} {R : List Bool} {mk : Int32 → Int32 → Int32 → (Nat → Int32) → α} (hR : R.length < 8) (h : Y.length ≤ N) : As (ε := ε) N b Y (R ++ []) mk (some (.inl (mk (nI Y.length) (vb R) (nI R.length) (wr b Y)))) := by
  unfold As
  rw [List.append_nil, byt_lt hR, ret_lt hR, List.append_nil]
  exact ⟨fun _ => rfl, fun h2 => absurd h2 (by omega)⟩
theorem As.seq {α α' ε ε' : Type} {N : Nat} {b : Nat → Int32} {Y : List Int32} {R B1 B2 : List Bool} {mk : Int32 → Int32 → Int32 → (Nat → Int32) → α} {mk' : Int32 → Int32 → Int32 → (Nat → Int32) → α'} {m : Option (α ⊕ (Nat × ε))} {f : α → Option (α' ⊕ (Nat × ε'))} {g : Nat × ε → Option (α' ⊕ (Nat × ε'))} (h : As N b Y (R ++ B1) mk m) (hg : ∀ u, ∃ u', g (4, u) = some (.inr (4, u')))
    (hf : (Y ++ byt (R ++ B1)).length ≤ N → As N b (Y ++ byt (R ++ B1)) (rst (R ++ B1) ++ B2) mk' (f (mk (nI (Y ++ byt (R ++ B1)).length) (vb (rst (R ++ B1))) (nI (rst (R ++ B1)).length) (wr b (Y ++ byt (R ++ B1)))))) : As N b Y (R ++ (B1 ++ B2)) mk' (dc_try m f g) := by
  unfold As
  rw [← List.append_assoc R B1 B2, byt_a (R ++ B1) B2, ret_a (R ++ B1) B2, ← List.append_assoc Y]
  constructor
  · intro h1
    have h2 : (Y ++ byt (R ++ B1)).length ≤ N := by rw [List.length_append] at h1; omega
    rw [h.1 h2, q_tryL]
    exact (hf h2).1 h1
  · intro h1
    by_cases h2 : (Y ++ byt (R ++ B1)).length ≤ N
    · rw [h.1 h2, q_tryL]
      exact (hf h2).2 h1
    · obtain ⟨u, hu⟩ := h.2 (by omega)
      rw [hu, q_tryR]
      exact hg u
theorem As.seqL {α α' ε ε' : Type} {N : Nat} {b : Nat → Int32} {Y : List Int32} {R B1 B2 : List Bool} {mk : Int32 → Int32 → Int32 → (Nat → Int32) → α} {mk' : Int32 → Int32 → Int32 → (Nat → Int32) → α'} {m : Option (α ⊕ (Nat × ε))} {f : α → Option (α' ⊕ (Nat × ε'))} {g : Nat × ε → Option (α' ⊕ (Nat × ε'))} (h : As N b Y (R ++ B1) mk m) (hg : ∀ u, ∃ u', g (4, u) = some (.inr (4, u')))
    (hf : (Y ++ byt (R ++ B1)).length ≤ N → As N b (Y ++ byt (R ++ B1)) (rst (R ++ B1) ++ B2) mk' (f (mk (nI (Y ++ byt (R ++ B1)).length) (vb (rst (R ++ B1))) (nI (rst (R ++ B1)).length) (wr b (Y ++ byt (R ++ B1)))))) : As N b Y (R ++ (B1 ++ B2)) mk' (dc_bind m (Sum.elim f g)) := by
  rw [bind_elim]
  exact As.seq h hg hf
theorem As.eq {α ε : Type} {N : Nat} {b : Nat → Int32} {Y : List Int32} {S S' : List Bool} {mk : Int32 → Int32 → Int32 → (Nat → Int32) → α} {r : Option (α ⊕ (Nat × ε))} (h : As N b Y S mk r) (e : S = S') : As N b Y S' mk r := e ▸ h
theorem As.bnd {α β ε : Type} {N : Nat} {b : Nat → Int32} {Y : List Int32} {S : List Bool} {mk : Int32 → Int32 → Int32 → (Nat → Int32) → α} {m : Option β} {a : β} {f : β → Option (α ⊕ (Nat × ε))} (h : m = some a) (hf : As N b Y S mk (f a)) : As N b Y S mk (dc_bind m f) := by
  rw [h, q_bind]
  exact hf
abbrev mkB : Int32 → Int32 → Int32 → (Nat → Int32) → Unit × (Int32 × Int32 × Int32 × (Nat → Int32)) := fun n s c b => ((), n, s, c, b)
abbrev mk4 : Int32 → Int32 → Int32 → (Nat → Int32) → Int32 × Int32 × Int32 × (Nat → Int32) := fun n s c b => (n, s, c, b)
theorem As.fin {ε : Type} {N : Nat} {b : Nat → Int32} {Y : List Int32} {R B : List Bool} {r : Option ((Int32 × Int32 × Int32 × (Nat → Int32)) ⊕ (Nat × ε))} (h : As N b Y (R ++ B) mk4 r) : As N b Y (R ++ B) mkB (dc_bind r (Sum.elim (fun v => some (.inl ((), (v.1, v.2.1, v.2.2.1, v.2.2.2)))) (fun u => some (.inr u)))) := by
  refine As.eq (As.seqL (B2 := []) h (fun u => ⟨u, rfl⟩) (fun h2 => As.nil (mk := mkB) ?_ h2)) (by rw [List.append_nil])
  rw [ret_len]
  omega
theorem mask_bt : ∀ n, n ≤ 16 → ∀ i, i < 32 → bt (((1 : Int32) <<< (nI n &&& 31)) - 1) i = decide (i < n) := by decide +kernel
theorem store_or {R : List Bool} (hR : R.length < 8) {n : Nat} (hn : n ≤ 16) (v : Int32) : vb R ||| ((v &&& (((1 : Int32) <<< (nI n &&& 31)) - 1)) <<< (nI R.length &&& 31)) = vb (R ++ bo v 0 n) := by
  refine bt_ext (fun i hi => ?_)
  rw [bt_or, bt_vb _ hi, bt_vb _ hi, bt_shl (by omega) _ hi, get_app]
  by_cases c : i < R.length
  · rw [if_pos c, decide_eq_false (by omega), Bool.false_and, Bool.or_false]
  · rw [if_neg c, get_out R (by omega), Bool.false_or, decide_eq_true (by omega), Bool.true_and, bt_and, mask_bt n hn _ (by omega), bo_get, Nat.zero_add, Bool.and_comm]
theorem by_take {S : List Bool} : q_by (vb S) = q_by (vb (S.take 8)) := q_by_ext (fun i hi => by
  rw [bt_vb _ (by omega), bt_vb _ (by omega), List.getElem?_take_of_lt hi])
theorem sh_drop {S : List Bool} (h : S.length < 32) : ((vb S).toUInt32 >>> ((8 : Int32).toUInt32 &&& Int32.toUInt32 31)).toInt32 = vb (S.drop 8) := by
  refine bt_ext (fun i hi => ?_)
  rw [show (8 : Int32) = nI 8 from rfl, bt_ushr (by omega), bt_vb _ hi, List.getElem?_drop]
  by_cases c : 8 + i < 32
  · rw [bt_vb _ c]
  · rw [List.getElem?_eq_none (by omega)]
    unfold bt
    rw [BitVec.getLsbD_of_ge _ _ (by omega)]
    rfl
theorem putBits_L {K N : Nat} (hN : N < 2 ^ 31) (b : Nat → Int32) : ∀ (k q : Nat) (S : List Bool) (Y : List Int32), S.length < 8 * (k + 1) → S.length < 32 → k < q → Y.length ≤ N → As N b Y S mk4 (f_Sink_putBits_L31 K N q (nI Y.length) (vb S) (nI S.length) (wr b Y)) := by
  have hlt : ∀ (q : Nat) (S : List Bool) (Y : List Int32), S.length < 8 → Y.length ≤ N → As N b Y S mk4 (f_Sink_putBits_L31 K N (q + 1) (nI Y.length) (vb S) (nI S.length) (wr b Y)) := by
    intro q S Y h8 hY
    show As N b Y S mk4 (f_Sink_putBits_31 K N _ (nI Y.length) (vb S) (nI S.length) (wr b Y))
    unfold f_Sink_putBits_31
    rw [if_pos (show nI S.length < 8 from show nI S.length < nI 8 from nI_lt h8 (by omega))]
    exact As.eq (As.nil (mk := mk4) h8 hY) (List.append_nil S)
  intro k
  induction k with
  | zero =>
    intro q S Y h8 h32 hq hY
    obtain ⟨q, rfl⟩ : ∃ w, q = w + 1 := ⟨q - 1, by omega⟩
    exact hlt q S Y (by omega) hY
  | succ k ih =>
    intro q S Y h8 h32 hq hY
    obtain ⟨q, rfl⟩ : ∃ w, q = w + 1 := ⟨q - 1, by omega⟩
    by_cases c : S.length < 8
    · exact hlt q S Y c hY
    · show As N b Y S mk4 (f_Sink_putBits_31 K N _ (nI Y.length) (vb S) (nI S.length) (wr b Y))
      unfold f_Sink_putBits_31
      rw [if_neg (show ¬ nI S.length < 8 from show ¬ nI S.length < nI 8 from nI_nlt (by omega) (by omega)), sh_drop h32, show nI S.length - 8 = nI (S.drop 8).length by rw [List.length_drop]; exact pk_sub (b := 8) (by omega)]
      have hp := put_ap b (vb S) hY hN
      rw [by_take] at hp
      unfold As
      rw [byt_s (S := S) (by omega), ret_s (S := S) (by omega)]
      have e : Y ++ q_by (vb (S.take 8)) :: byt (S.drop 8) = (Y ++ [q_by (vb (S.take 8))]) ++ byt (S.drop 8) := by rw [List.append_assoc]; rfl
      rw [e]
      constructor
      · intro h1
        have h2 : (Y ++ [q_by (vb (S.take 8))]).length ≤ N := by rw [List.length_append] at h1; omega
        rw [hp.1 h2, q_tryL]
        exact (ih q (S.drop 8) (Y ++ [q_by (vb (S.take 8))]) (by rw [List.length_drop]; omega) (by rw [List.length_drop]; omega) (by omega) h2).1 h1
      · intro h1
        by_cases h2 : (Y ++ [q_by (vb (S.take 8))]).length ≤ N
        · rw [hp.1 h2, q_tryL]
          exact (ih q (S.drop 8) (Y ++ [q_by (vb (S.take 8))]) (by rw [List.length_drop]; omega) (by rw [List.length_drop]; omega) (by omega) h2).2 h1
        · obtain ⟨u, hu⟩ := hp.2 (by omega)
          rw [hu, q_tryR]
          exact ⟨_, rfl⟩
/-- the class's bits -/
theorem putBits_as {K N n : Nat} (hK : 4 < K) (hN : N < 2 ^ 31) (b : Nat → Int32) {Y : List Int32} {R : List Bool} (hR : R.length < 8) (hn : n ≤ 16) (v : Int32) (hY : Y.length ≤ N) : As N b Y (R ++ bo v 0 n) mkB (f_Sink_putBits K N v (nI n) (nI Y.length) (vb R) (nI R.length) (wr b Y)) := by
  have hl : (R ++ bo v 0 n).length = R.length + n := by rw [List.length_append, bo_len]
  have h := putBits_L (K := K) hN b 3 K (R ++ bo v 0 n) Y (by omega) (by omega) (by omega) hY
  unfold f_Sink_putBits
  rw [store_or hR hn, nI_add]
  rw [hl] at h
  exact As.fin h
theorem bit_or {R : List Bool} (hR : R.length < 8) {k : Nat} (hk : k < 32) (v : Int32) : vb R ||| (((v >>> (nI k &&& 31)) &&& 1) <<< (nI R.length &&& 31)) = vb (R ++ [bt v k]) := by
  have h1 : ∀ i, i < 32 → bt 1 i = decide (i = 0) := by decide
  refine bt_ext (fun i hi => ?_)
  rw [bt_or, bt_vb _ hi, bt_vb _ hi, bt_shl (by omega) _ hi, get_app]
  by_cases c : i < R.length
  · rw [if_pos c, decide_eq_false (by omega), Bool.false_and, Bool.or_false]
  · rw [if_neg c, get_out R (by omega), Bool.false_or, decide_eq_true (by omega), Bool.true_and, bt_and, h1 _ (by omega)]
    by_cases c2 : i = R.length
    · rw [c2, Nat.sub_self, decide_eq_true rfl, Bool.and_true, bt_sshr hk _ (by omega), if_pos (by omega)]
      rfl
    · rw [decide_eq_false (by omega), Bool.and_false]
      exact (get_out [bt v k] (by rw [List.length_singleton]; omega)).symm
theorem flushM_ap {R : List Bool} (b : Nat → Int32) {Y : List Int32} (h0 : 0 < R.length) (h8 : R.length ≤ 8) (hY : Y.length ≤ 262144) : Ap 262144 b Y [q_by (vb R)] (fun n o => ((), n, (0 : Int32), (0 : Int32), o)) (f_M_flush (nI Y.length) (vb R) (nI R.length) (wr b Y)) := by
  unfold f_M_flush
  rw [if_neg (nI_ne0 h0 (by omega))]
  exact Ap.eq (Ap.seq (X2 := []) (putM_ap b _ hY) (fun u => ⟨_, rfl⟩) (fun h1 => Ap.nil (mk := fun n o => ((), n, (0 : Int32), (0 : Int32), o)) h1)) rfl
theorem putBitsM_L {K n : Nat} (hn : n ≤ 31) (v : Int32) (b : Nat → Int32) : ∀ (r k q : Nat) (R : List Bool) (Y : List Int32), k + r = n → r < q → R.length < 8 → Y.length ≤ 262144 → As 262144 b Y (R ++ bo v k r) mk4 (f_M_putBits_L2 K v (nI n) q (nI Y.length) (vb R) (nI R.length) (wr b Y) (nI k)) := by
  intro r
  induction r with
  | zero =>
    intro k q R Y hk hq hR hY
    obtain ⟨q, rfl⟩ : ∃ w, q = w + 1 := ⟨q - 1, by omega⟩
    show As _ _ _ _ _ (f_M_putBits_2 K _ (nI Y.length) (vb R) (nI R.length) (wr b Y) v (nI n) (nI k))
    unfold f_M_putBits_2
    rw [if_pos (nI_le (by omega) (by omega))]
    exact As.nil (mk := mk4) hR hY
  | succ r ih =>
    intro k q R Y hk hq hR hY
    obtain ⟨q, rfl⟩ : ∃ w, q = w + 1 := ⟨q - 1, by omega⟩
    have hl : (R ++ [bt v k]).length = R.length + 1 := by rw [List.length_append]; rfl
    show As _ _ _ _ _ (f_M_putBits_2 K _ (nI Y.length) (vb R) (nI R.length) (wr b Y) v (nI n) (nI k))
    unfold f_M_putBits_2
    rw [if_neg (nI_ge (by omega) (by omega)), bit_or hR (by omega), nI_1, ← hl, bo_s, show R ++ bt v k :: bo v (k + 1) r = (R ++ [bt v k]) ++ bo v (k + 1) r by rw [List.append_assoc]; rfl]
    by_cases c : (R ++ [bt v k]).length = 8
    · rw [if_pos (show nI (R ++ [bt v k]).length = 8 by rw [c]; rfl)]
      have e1 : byt (R ++ [bt v k]) = [q_by (vb (R ++ [bt v k]))] := by
        rw [byt_s (by omega), byt_lt (by rw [List.length_drop]; omega), ← by_take]
      have e2 : rst (R ++ [bt v k]) = [] := List.eq_nil_of_length_eq_zero (by rw [ret_len, c])
      have hp := flushM_ap b (R := R ++ [bt v k]) (by omega) (by omega) hY
      unfold As
      rw [byt_a (R ++ [bt v k]), ret_a (R ++ [bt v k]), e1, e2, ← List.append_assoc Y]
      unfold f_M_putBits_49
      rw [nI_1]
      constructor
      · intro h1
        have h2 : (Y ++ [q_by (vb (R ++ [bt v k]))]).length ≤ 262144 := by rw [List.length_append] at h1; omega
        rw [hp.1 h2, q_tryL]
        exact (ih (k + 1) q [] (Y ++ [q_by (vb (R ++ [bt v k]))]) (by omega) (by omega) (by decide) h2).1 h1
      · intro h1
        by_cases h2 : (Y ++ [q_by (vb (R ++ [bt v k]))]).length ≤ 262144
        · rw [hp.1 h2, q_tryL]
          exact (ih (k + 1) q [] (Y ++ [q_by (vb (R ++ [bt v k]))]) (by omega) (by omega) (by decide) h2).2 h1
        · obtain ⟨u, hu⟩ := hp.2 (by omega)
          rw [hu, q_tryR]
          exact ⟨_, rfl⟩
    · rw [if_neg (show ¬ nI (R ++ [bt v k]).length = 8 from fun e => c ((nI_eq (b := 8) (by omega) (by omega)).mp e))]
      unfold f_M_putBits_49
      rw [nI_1]
      exact ih (k + 1) q (R ++ [bt v k]) Y (by omega) (by omega) (by omega) hY
theorem putBitsM_as {K n : Nat} (hK : 32 < K) (b : Nat → Int32) {Y : List Int32} {R : List Bool} (hR : R.length < 8) (hn : n ≤ 31) (v : Int32) (hY : Y.length ≤ 262144) : As 262144 b Y (R ++ bo v 0 n) mkB (f_M_putBits K v (nI n) (nI Y.length) (vb R) (nI R.length) (wr b Y)) := by
  unfold f_M_putBits
  exact As.fin (putBitsM_L hn v b n 0 K R Y (by omega) (by omega) hR hY)
/-- what is left is filled up with zeros -/
def bytz (R : List Bool) : List Int32 := if R.length = 0 then [] else [q_by (vb R)]
theorem close_ap {N : Nat} (hN : N < 2 ^ 31) {R : List Bool} (b : Nat → Int32) {Y : List Int32} (h8 : R.length < 8) (hY : Y.length ≤ N) : Ap N b Y (bytz R) (fun n o => ((), n, (0 : Int32), (0 : Int32), o)) (f_Sink_closeBits N (nI Y.length) (vb R) (nI R.length) (wr b Y)) := by
  unfold f_Sink_closeBits f_Sink_closeBits_15 bytz
  by_cases c : R.length = 0
  · rw [if_pos c, if_pos (show nI R.length ≤ 0 by rw [c]; decide)]
    exact Ap.nil (mk := fun n o => ((), n, (0 : Int32), (0 : Int32), o)) hY
  · rw [if_neg c, if_neg (nI_nle (by omega) (by omega))]
    exact Ap.eq (Ap.seq (X2 := []) (put_ap b _ hY hN) (fun u => ⟨_, rfl⟩) (fun h1 => Ap.nil (mk := fun n o => ((), n, (0 : Int32), (0 : Int32), o)) h1)) rfl
theorem flushM_any {R : List Bool} (b : Nat → Int32) {Y : List Int32} (h8 : R.length < 8) (hY : Y.length ≤ 262144) : Ap 262144 b Y (bytz R) (fun n o => ((), n, (0 : Int32), (0 : Int32), o)) (f_M_flush (nI Y.length) (vb R) (nI R.length) (wr b Y)) := by
  by_cases c : R.length = 0
  · have e : R = [] := List.eq_nil_of_length_eq_zero c
    subst e
    unfold f_M_flush bytz
    rw [if_pos c, if_pos (show nI ([] : List Bool).length = 0 from rfl)]
    exact Ap.nil (mk := fun n o => ((), n, (0 : Int32), (0 : Int32), o)) hY
  · unfold bytz
    rw [if_neg c]
    exact flushM_ap b (by omega) (by omega) hY
/-! codes, the highest bit first -/
def co (v : Int32) : Nat → List Bool
  | 0 => []
  | n + 1 => bt v n :: co v n
theorem co_len (v : Int32) : ∀ n, (co v n).length = n := by
  intro n
  induction n with
  | zero => rfl
  | succ n ih => show (co v n).length + 1 = _; rw [ih]
theorem co_get (v : Int32) : ∀ (n i : Nat), ((co v n)[i]?).getD false = (decide (i < n) && bt v (n - 1 - i)) := by
  intro n
  induction n with
  | zero =>
    intro i
    rw [decide_eq_false (by omega)]
    rfl
  | succ n ih =>
    intro i
    cases i with
    | zero => rw [decide_eq_true (by omega)]; exact (Bool.true_and _).symm
    | succ i =>
      show ((co v n)[i]?).getD false = _
      rw [ih i, show n + 1 - 1 - (i + 1) = n - 1 - i by omega]
      by_cases c : i < n
      · rw [decide_eq_true c, decide_eq_true (by omega)]
      · rw [decide_eq_false c, decide_eq_false (by omega)]
theorem codeM_L {K : Nat} (hK : 32 < K) (v : Int32) (b : Nat → Int32) : ∀ (n q : Nat) (R : List Bool) (Y : List Int32), n ≤ 32 → n < q → R.length < 8 → Y.length ≤ 262144 → As 262144 b Y (R ++ co v n) mk4 (f_M_putCode_L4 K v q (nI Y.length) (vb R) (nI R.length) (wr b Y) (nI n + (-1))) := by
  intro n
  induction n with
  | zero =>
    intro q R Y hn hq hR hY
    obtain ⟨q, rfl⟩ : ∃ w, q = w + 1 := ⟨q - 1, by omega⟩
    show As _ _ _ _ _ (f_M_putCode_4 K _ (nI Y.length) (vb R) (nI R.length) (wr b Y) v (nI 0 + (-1)))
    unfold f_M_putCode_4
    rw [if_pos (by decide)]
    exact As.nil (mk := mk4) hR hY
  | succ n ih =>
    intro q R Y hn hq hR hY
    obtain ⟨q, rfl⟩ : ∃ w, q = w + 1 := ⟨q - 1, by omega⟩
    rw [pk_m1]
    show As _ _ _ _ _ (f_M_putCode_4 K _ (nI Y.length) (vb R) (nI R.length) (wr b Y) v (nI n))
    unfold f_M_putCode_4
    rw [if_neg (nI_pos (by omega))]
    have hp := putBitsM_as (n := 1) hK b hR (by omega) ((v >>> (nI n &&& 31)) &&& 1) hY
    have e : bo ((v >>> (nI n &&& 31)) &&& 1) 0 1 = [bt v n] := by
      show [bt _ 0] = _
      rw [bt_and, bt_sshr (by omega) _ (by omega), if_pos (by omega), show bt 1 0 = true by decide, Bool.and_true]
      rfl
    rw [e] at hp
    refine As.seq (B1 := [bt v n]) hp (fun u => ⟨_, rfl⟩) (fun h2 => ?_)
    exact ih q _ _ (by omega) (by omega) (by rw [ret_len]; omega) h2
theorem codeM_as {K n : Nat} (hK : 33 < K) (hn : n ≤ 32) (v : Int32) (b : Nat → Int32) {Y : List Int32} {R : List Bool} (hR : R.length < 8) (hY : Y.length ≤ 262144) : As 262144 b Y (R ++ co v n) mkB (f_M_putCode K v (nI n) (nI Y.length) (vb R) (nI R.length) (wr b Y)) := by
  unfold f_M_putCode
  rw [Int32.sub_eq_add_neg (nI n) 1]
  exact As.fin (codeM_L (by omega) v b n K R Y hn (by omega) hR hY)
/-- the class turns them round -/
theorem turned_L {K n : Nat} (hn : n ≤ 16) (v : Int32) : ∀ (r k q : Nat) (t : Int32), k + r = n → r < q → (∀ i, i < 32 → bt t i = (decide (i < k) && bt v (k - 1 - i))) → ∃ t', f_PngWriter_turned_L4 K v (nI n) q t (nI k) = some t' ∧ ∀ i, i < 32 → bt t' i = (decide (i < n) && bt v (n - 1 - i)) := by
  have h1 : ∀ i, i < 32 → bt 1 i = decide (i = 0) := by decide
  intro r
  induction r with
  | zero =>
    intro k q t hk hq ht
    obtain ⟨q, rfl⟩ : ∃ w, q = w + 1 := ⟨q - 1, by omega⟩
    have e : k = n := by omega
    subst e
    refine ⟨t, ?_, ht⟩
    show f_PngWriter_turned_4 K _ v (nI k) t (nI k) = _
    unfold f_PngWriter_turned_4
    rw [if_pos (nI_le (by omega) (by omega))]
  | succ r ih =>
    intro k q t hk hq ht
    obtain ⟨q, rfl⟩ : ∃ w, q = w + 1 := ⟨q - 1, by omega⟩
    obtain ⟨t', h2, h3⟩ := ih (k + 1) q ((t <<< ((1 : Int32) &&& 31)) ||| ((v >>> (nI k &&& 31)) &&& 1)) (by omega) (by omega) (fun i hi => by
      rw [show ((1 : Int32) &&& 31) = (nI 1 &&& 31) from rfl, bt_or, bt_shl (by omega) _ hi, bt_and, h1 i hi]
      by_cases c : i = 0
      · rw [c, decide_eq_false (by omega), Bool.false_and, Bool.false_or, decide_eq_true rfl, Bool.and_true, bt_sshr (by omega) _ (by omega), if_pos (by omega), decide_eq_true (by omega), Bool.true_and]
        rfl
      · rw [decide_eq_true (show 1 ≤ i by omega), decide_eq_false c, Bool.and_false, Bool.or_false, Bool.true_and, ht (i - 1) (by omega), show k - 1 - (i - 1) = k + 1 - 1 - i by omega]
        by_cases c2 : i - 1 < k
        · rw [decide_eq_true c2, decide_eq_true (by omega)]
        · rw [decide_eq_false c2, decide_eq_false (by omega)])
    refine ⟨t', ?_, h3⟩
    show f_PngWriter_turned_4 K _ v (nI n) t (nI k) = _
    unfold f_PngWriter_turned_4
    rw [if_neg (nI_ge (by omega) (by omega)), nI_1]
    exact h2
theorem turned_ok {K n : Nat} (hK : 17 < K) (hn : n ≤ 16) (v : Int32) : ∃ t', f_PngWriter_turned K v (nI n) = some (t', ()) ∧ bo t' 0 n = co v n := by
  obtain ⟨t', h1, h2⟩ := turned_L (K := K) hn v n 0 K 0 (by omega) (by omega) (fun i hi => by
    rw [decide_eq_false (by omega), Bool.false_and]
    show (0 : BitVec 32).getLsbD i = false
    simp)
  refine ⟨t', ?_, ?_⟩
  · unfold f_PngWriter_turned
    rw [show f_PngWriter_turned_L4 K v (nI n) K 0 0 = _ from h1]
    rfl
  · refine List.ext_getElem? (fun i => ?_)
    by_cases c : i < n
    · have e1 := bo_get t' n 0 i
      have e2 := co_get v n i
      rw [Nat.zero_add, h2 i (by omega), decide_eq_true c, Bool.true_and, Bool.true_and] at e1
      rw [decide_eq_true c, Bool.true_and] at e2
      have l1 : i < (bo t' 0 n).length := by rw [bo_len]; exact c
      have l2 : i < (co v n).length := by rw [co_len]; exact c
      rw [List.getElem?_eq_getElem l1, Option.getD_some] at e1
      rw [List.getElem?_eq_getElem l2, Option.getD_some] at e2
      rw [List.getElem?_eq_getElem l1, List.getElem?_eq_getElem l2, e1, e2]
    · rw [List.getElem?_eq_none (by rw [bo_len]; omega), List.getElem?_eq_none (by rw [co_len]; omega)]
theorem turned_as {K N n : Nat} (hK : 17 < K) (hN : N < 2 ^ 31) (hn : n ≤ 16) (v : Int32) (b : Nat → Int32) {Y : List Int32} {R : List Bool} (hR : R.length < 8) (hY : Y.length ≤ N) : ∃ t', f_PngWriter_turned K v (nI n) = some (t', ()) ∧ As N b Y (R ++ co v n) mkB (f_Sink_putBits K N t' (nI n) (nI Y.length) (vb R) (nI R.length) (wr b Y)) := by
  obtain ⟨t', h1, h2⟩ := turned_ok hK hn v
  refine ⟨t', h1, ?_⟩
  rw [← h2]
  exact putBits_as (by omega) hN b hR hn t' hY
/-- a literal's code -/
def lit (m : Int32) : List Bool := if 144 ≤ m then if 256 ≤ m then if 280 ≤ m then co ((192 + m) - 280) 8 else co (m - 256) 7 else co ((400 + m) - 144) 9 else co (48 + m) 8
theorem As.fin2 {ε ε' : Type} {N : Nat} {b : Nat → Int32} {Y : List Int32} {R B : List Bool} {r : Option ((Unit × (Int32 × Int32 × Int32 × (Nat → Int32))) ⊕ (Nat × ε))} {g : Nat × ε → Option ((Unit × (Int32 × Int32 × Int32 × (Nat → Int32))) ⊕ (Nat × ε'))} (h : As N b Y (R ++ B) mkB r) (hg : ∀ u, ∃ u', g (4, u) = some (.inr (4, u'))) : As N b Y (R ++ B) mkB (dc_try r (fun v => some (.inl ((), (v.2.1, v.2.2.1, v.2.2.2.1, v.2.2.2.2)))) g) := by
  refine As.eq (As.seq (B2 := []) h hg (fun h2 => As.nil (mk := mkB) ?_ h2)) (by rw [List.append_nil])
  rw [ret_len]
  omega
theorem litD_as {K N : Nat} (hK : 17 < K) (hN : N < 2 ^ 31) (m : Int32) (b : Nat → Int32) {Y : List Int32} {R : List Bool} (hR : R.length < 8) (hY : Y.length ≤ N) : As N b Y (R ++ lit m) mkB (f_PngWriter_putLiteral K N m (nI Y.length) (vb R) (nI R.length) (wr b Y)) := by
  unfold f_PngWriter_putLiteral lit
  by_cases c1 : 144 ≤ m
  · rw [if_pos c1, if_pos c1]
    by_cases c2 : 256 ≤ m
    · rw [if_pos c2, if_pos c2]
      by_cases c3 : 280 ≤ m
      · rw [if_pos c3, if_pos c3]
        obtain ⟨t', h1, h2⟩ := turned_as (n := 8) hK hN (by omega) ((192 + m) - 280) b hR hY
        rw [show f_PngWriter_turned K ((192 + m) - 280) 8 = _ from h1, q_bind]
        exact As.fin2 h2 (fun u => ⟨_, rfl⟩)
      · rw [if_neg c3, if_neg c3]
        obtain ⟨t', h1, h2⟩ := turned_as (n := 7) hK hN (by omega) (m - 256) b hR hY
        rw [show f_PngWriter_turned K (m - 256) 7 = _ from h1, q_bind]
        exact As.fin2 h2 (fun u => ⟨_, rfl⟩)
    · rw [if_neg c2, if_neg c2]
      obtain ⟨t', h1, h2⟩ := turned_as (n := 9) hK hN (by omega) ((400 + m) - 144) b hR hY
      rw [show f_PngWriter_turned K ((400 + m) - 144) 9 = _ from h1, q_bind]
      exact As.fin2 h2 (fun u => ⟨_, rfl⟩)
  · rw [if_neg c1, if_neg c1]
    obtain ⟨t', h1, h2⟩ := turned_as (n := 8) hK hN (by omega) (48 + m) b hR hY
    rw [show f_PngWriter_turned K (48 + m) 8 = _ from h1, q_bind]
    exact As.fin2 h2 (fun u => ⟨_, rfl⟩)
theorem litM_as {K : Nat} (hK : 33 < K) (m : Int32) (b : Nat → Int32) {Y : List Int32} {R : List Bool} (hR : R.length < 8) (hY : Y.length ≤ 262144) : As 262144 b Y (R ++ lit m) mkB (f_M_putLiteral K m (nI Y.length) (vb R) (nI R.length) (wr b Y)) := by
  unfold f_M_putLiteral lit
  by_cases c1 : 144 ≤ m
  · rw [if_pos c1, if_pos c1]
    by_cases c2 : 256 ≤ m
    · rw [if_pos c2, if_pos c2]
      by_cases c3 : 280 ≤ m
      · rw [if_pos c3, if_pos c3]
        exact As.fin2 (codeM_as (n := 8) hK (by omega) _ b hR hY) (fun u => ⟨_, rfl⟩)
      · rw [if_neg c3, if_neg c3]
        exact As.fin2 (codeM_as (n := 7) hK (by omega) _ b hR hY) (fun u => ⟨_, rfl⟩)
    · rw [if_neg c2, if_neg c2]
      exact As.fin2 (codeM_as (n := 9) hK (by omega) _ b hR hY) (fun u => ⟨_, rfl⟩)
  · rw [if_neg c1, if_neg c1]
    exact As.fin2 (codeM_as (n := 8) hK (by omega) _ b hR hY) (fun u => ⟨_, rfl⟩)
