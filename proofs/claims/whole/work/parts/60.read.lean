/-! the pure half: bytes taken -/
def Th {α ε : Type} (k : Nat) (m : Option (α ⊕ (Nat × ε))) : Prop := ∃ u, m = some (.inr (k, u))
/-- it answers a if φ, and finds it broken if not -/
def Ex {α ε : Type} (φ : Prop) (a : α) (m : Option (α ⊕ (Nat × ε))) : Prop := (φ → m = some (.inl a)) ∧ (¬ φ → Th 3 m)
/-- Q if χ, and broken if not -/
def Gq {α ε : Type} (χ : Prop) (Q : Option (α ⊕ (Nat × ε)) → Prop) (m : Option (α ⊕ (Nat × ε))) : Prop := (χ → Q m) ∧ (¬ χ → Th 3 m)
theorem Gq.no {α ε : Type} {χ : Prop} {Q : Option (α ⊕ (Nat × ε)) → Prop} {m : Option (α ⊕ (Nat × ε))} (h : ¬ χ) (ht : Th 3 m) : Gq χ Q m := ⟨fun q => absurd q h, fun _ => ht⟩
theorem Gq.yes {α ε : Type} {χ : Prop} {Q : Option (α ⊕ (Nat × ε)) → Prop} {m : Option (α ⊕ (Nat × ε))} (h : χ) (hq : Q m) : Gq χ Q m := ⟨fun _ => hq, fun q => absurd h q⟩
theorem Gq.try {α α' ε ε' : Type} {φ χ : Prop} {a : α} {Q : Option (α' ⊕ (Nat × ε')) → Prop} {m : Option (α ⊕ (Nat × ε))} {f : α → Option (α' ⊕ (Nat × ε'))} {g : Nat × ε → Option (α' ⊕ (Nat × ε'))} (h : Ex φ a m) (hg : ∀ u, ∃ u', g (3, u) = some (.inr (3, u'))) (hχ : χ → φ) (hf : φ → Gq χ Q (f a)) : Gq χ Q (dc_try m f g) := by
  by_cases c : φ
  · rw [h.1 c, q_tryL]
    exact hf c
  · obtain ⟨u, hu⟩ := h.2 c
    rw [hu, q_tryR]
    exact Gq.no (fun q => c (hχ q)) (hg u)
theorem Gq.tryL {α α' ε ε' : Type} {φ χ : Prop} {a : α} {Q : Option (α' ⊕ (Nat × ε')) → Prop} {m : Option (α ⊕ (Nat × ε))} {f : α → Option (α' ⊕ (Nat × ε'))} {g : Nat × ε → Option (α' ⊕ (Nat × ε'))} (h : Ex φ a m) (hg : ∀ u, ∃ u', g (3, u) = some (.inr (3, u'))) (hχ : χ → φ) (hf : φ → Gq χ Q (f a)) : Gq χ Q (dc_bind m (Sum.elim f g)) := by
  rw [bind_elim]
  exact Gq.try h hg hχ hf
theorem Ex.gq {α ε : Type} {φ : Prop} {a : α} {m : Option (α ⊕ (Nat × ε))} (h : Gq φ (fun m => m = some (.inl a)) m) : Ex φ a m := h
theorem Ex.iff {α ε : Type} {φ ψ : Prop} {a : α} {m : Option (α ⊕ (Nat × ε))} (h : Ex φ a m) (e : φ ↔ ψ) : Ex ψ a m := ⟨fun q => h.1 (e.mpr q), fun q => h.2 (fun p => q (e.mp p))⟩
theorem need1 : f_D_need 1 = some (.inl ((), ())) := if_neg (by decide)
theorem need0 : f_D_need 0 = some (.inr (3, ())) := if_pos rfl
/-- byte j -/
def tv (T : Nat → Int32) (j : Nat) : Nat := (T j).toBitVec.toNat % 256
theorem tv_lt (T : Nat → Int32) (j : Nat) : tv T j < 256 := Nat.mod_lt _ (by omega)
theorem tv_ok (T : Nat → Int32) (j : Nat) : T j &&& 255 = nI (tv T j) := pk_and (T j) 8 (by decide)
theorem tv_eq {T T' : Nat → Int32} {j : Nat} (h : T' j = T j) : tv T' j = tv T j := by
  unfold tv
  rw [h]
theorem nI_eq32 {a b : Nat} (ha : a < 2 ^ 32) (hb : b < 2 ^ 32) : nI a = nI b ↔ a = b := by
  constructor
  · intro h
    have := congrArg (fun x => x.toBitVec.toNat) h
    have h2 : (nI a).toBitVec.toNat = (nI b).toBitVec.toNat := this
    rw [pk_tn ha, pk_tn hb] at h2
    exact h2
  · intro h; rw [h]
/-- t: the bytes below n, as numbers -/
def Tb (n : Nat) (T : Nat → Int32) (t : Nat → Nat) : Prop := (∀ j, j < n → tv T j = t j) ∧ ∀ j, t j < 256
theorem next_ex {p n : Nat} (hp : p ≤ n) (hn : n ≤ 65536) {T : Nat → Int32} {t : Nat → Nat} (ht : Tb n T t) : Ex (p < n) (nI (t p), nI (p + 1)) (f_Source_next (nI p) (nI n) T) := by
  unfold f_Source_next
  constructor
  · intro h
    rw [if_pos (nI_lt h (by omega)), if_pos (q_inb (by omega) (by omega)), nI_clamp (by omega), tv_ok, ht.1 p h, nI_1]
  · intro h
    rw [if_neg (nI_nlt (by omega) (by omega))]
    exact ⟨_, rfl⟩
theorem nextM_ex {p n : Nat} (hp : p ≤ n) (hn : n ≤ 65536) {T : Nat → Int32} {t : Nat → Nat} (ht : Tb n T t) : Ex (p < n) (nI (t p), nI (p + 1)) (f_M_next (nI n) (nI p) T) := by
  unfold f_M_next f_M_next_17
  constructor
  · intro h
    rw [if_neg (nI_ge h (by omega)), can1, q_tryL, if_pos (q_inb (by omega) (by omega)), nI_clamp (by omega), tv_ok, ht.1 p h, nI_1]
  · intro h
    rw [if_pos (nI_le (by omega) (by omega)), can0, q_tryR]
    exact ⟨_, rfl⟩
theorem or_sh {a b s : Nat} (ha : a < 2 ^ s) (hs : s < 32) (hb : b * 2 ^ s < 2 ^ 32) : nI a ||| (nI b <<< (nI s &&& 31)) = nI (a + b * 2 ^ s) := by
  rw [pk_shlN (nI s &&& 31) s (sh_amt s hs) hb, nI_or, Nat.or_comm, ← Nat.shiftLeft_eq, ← Nat.shiftLeft_add_eq_or_of_lt ha, Nat.add_comm]
def l2 (t : Nat → Nat) (p : Nat) : Nat := t p + t (p + 1) * 256
def l4 (t : Nat → Nat) (p : Nat) : Nat := l2 t p + l2 t (p + 2) * 65536
theorem l2_lt {t : Nat → Nat} (hb : ∀ j, t j < 256) (p : Nat) : l2 t p < 65536 := by
  have h1 := hb p
  have h2 := hb (p + 1)
  unfold l2
  omega
theorem l4_lt {t : Nat → Nat} (hb : ∀ j, t j < 256) (p : Nat) : l4 t p < 2 ^ 32 := by
  have h1 := l2_lt hb p
  have h2 := l2_lt hb (p + 2)
  unfold l4
  omega
theorem little2_ex {p n : Nat} (hp : p ≤ n) (hn : n ≤ 65536) {T : Nat → Int32} {t : Nat → Nat} (ht : Tb n T t) : Ex (p + 2 ≤ n) (nI (l2 t p), nI (p + 2)) (f_Source_little2 (nI p) (nI n) T) := by
  unfold f_Source_little2
  refine Ex.gq (Gq.try (next_ex hp hn ht) (fun u => ⟨_, rfl⟩) (fun h => by omega) (fun h1 => ?_))
  refine Gq.try (next_ex (by omega) hn ht) (fun u => ⟨_, rfl⟩) (fun h => by omega) (fun h2 => ?_)
  have t1 := ht.2 p
  have t2 := ht.2 (p + 1)
  refine Gq.yes (by omega) ?_
  show some (Sum.inl (nI (t p) ||| (nI (t (p + 1)) <<< (nI 8 &&& 31)), nI (p + 1 + 1))) = _
  rw [or_sh (s := 8) (by omega) (by omega) (by omega)]
  rfl
theorem little4_ex {p n : Nat} (hp : p ≤ n) (hn : n ≤ 65536) {T : Nat → Int32} {t : Nat → Nat} (ht : Tb n T t) : Ex (p + 4 ≤ n) (nI (l4 t p), nI (p + 4)) (f_Source_little4 (nI p) (nI n) T) := by
  unfold f_Source_little4
  refine Ex.gq (Gq.try (little2_ex hp hn ht) (fun u => ⟨_, rfl⟩) (fun h => by omega) (fun h1 => ?_))
  refine Gq.try (little2_ex h1 hn ht) (fun u => ⟨_, rfl⟩) (fun h => by omega) (fun h2 => ?_)
  have t1 := l2_lt ht.2 p
  have t2 := l2_lt ht.2 (p + 2)
  refine Gq.yes (by omega) ?_
  show some (Sum.inl (nI (l2 t p) ||| (nI (l2 t (p + 2)) <<< (nI 16 &&& 31)), nI (p + 2 + 2))) = _
  rw [or_sh (s := 16) (by omega) (by omega) (by omega)]
  rfl
theorem skip_ex {p n k : Nat} (hp : p ≤ n) (hn : n ≤ 65536) (hk : k < 2 ^ 31) : Ex (p + k ≤ n) ((), nI (p + k)) (f_Source_skip (nI k) (nI p) (nI n)) := by
  unfold f_Source_skip f_Source_left f_Source_skip_16 f_Source_skip_17
  rw [if_neg (nI_pos hk), q_bind, pk_sub hp]
  constructor
  · intro h
    rw [if_neg (nI_nlt (by omega) (by omega)), need1, q_tryL, nI_add]
  · intro h
    rw [if_pos (nI_lt (by omega) hk), need0, q_tryR]
    exact ⟨_, rfl⟩
theorem skip_neg {x : Int32} (h : x < 0) (p n : Int32) : Th 3 (f_Source_skip x p n) := by
  unfold f_Source_skip f_Source_skip_16 f_Source_skip_17
  rw [if_pos h, need0, q_tryR]
  exact ⟨_, rfl⟩
/-! the reference's longs -/
theorem bt6_lN (n i : Nat) (hi : i < 64) : bt6 (lN n) i = n.testBit i := by
  unfold bt6
  show (BitVec.ofNat 64 n).getLsbD i = _
  rw [BitVec.getLsbD_ofNat, decide_eq_true hi, Bool.true_and]
theorem bt6_or (x y : Int64) (i : Nat) : bt6 (x ||| y) i = (bt6 x i || bt6 y i) := by
  unfold bt6
  rw [Int64.toBitVec_or, BitVec.getLsbD_or]
theorem bt6_shl {n : Nat} (hn : n < 64) (x : Int64) {i : Nat} (hi : i < 64) : bt6 (x <<< ((nI n).toInt64 &&& 63)) i = (decide (n ≤ i) && bt6 x (i - n)) := by
  unfold bt6
  show (x.toBitVec <<< ((((nI n).toInt64 &&& 63).toBitVec.smod 64).toNat)).getLsbD i = _
  rw [sh_amt6 n hn, BitVec.getLsbD_shiftLeft, decide_eq_true hi, Bool.true_and]
  by_cases h : n ≤ i
  · rw [decide_eq_false (by omega), decide_eq_true h]
    rfl
  · rw [decide_eq_true (by omega), decide_eq_false h]
    rfl
theorem or_sh6 {a b s : Nat} (ha : a < 2 ^ s) (hs : s < 64) : lN a ||| (lN b <<< ((nI s).toInt64 &&& 63)) = lN (a + b * 2 ^ s) := by
  refine bt6_ext (fun i hi => ?_)
  rw [bt6_or, bt6_shl hs _ hi, bt6_lN _ _ hi, bt6_lN _ _ hi, bt6_lN _ _ (by omega), Nat.add_comm, ← Nat.shiftLeft_eq, Nat.shiftLeft_add_eq_or_of_lt ha, Nat.testBit_or, Nat.testBit_shiftLeft, Bool.or_comm]
def lc (t : Nat → Nat) (p : Nat) : Nat → Nat
  | 0 => 0
  | c + 1 => lc t p c + t (p + c) * 2 ^ (8 * c)
theorem lc_lt {t : Nat → Nat} (hb : ∀ j, t j < 256) (p : Nat) : ∀ c, lc t p c < 2 ^ (8 * c) := by
  intro c
  induction c with
  | zero => exact Nat.zero_lt_one
  | succ c ih =>
    have h1 := hb (p + c)
    have h2 : 2 ^ (8 * (c + 1)) = 256 * 2 ^ (8 * c) := by rw [show 8 * (c + 1) = 8 + 8 * c by omega, Nat.pow_add]
    have h3 : t (p + c) * 2 ^ (8 * c) ≤ 255 * 2 ^ (8 * c) := Nat.mul_le_mul_right _ (by omega)
    show lc t p c + t (p + c) * 2 ^ (8 * c) < _
    rw [h2]
    omega
theorem lc_2 (t : Nat → Nat) (p : Nat) : lc t p 2 = l2 t p := by
  show 0 + t (p + 0) * 1 + t (p + 1) * 2 ^ 8 = _
  unfold l2
  rw [Nat.add_zero]
  omega
theorem lc_4 (t : Nat → Nat) (p : Nat) : lc t p 4 = l4 t p := by
  show lc t p 2 + t (p + 2) * 2 ^ 16 + t (p + 3) * 2 ^ 24 = _
  rw [lc_2]
  unfold l4
  unfold l2
  rw [show p + 2 + 1 = p + 3 by omega]
  omega
theorem littleM_L {K n c : Nat} (hn : n ≤ 65536) (hc : c ≤ 4) {T : Nat → Int32} {t : Nat → Nat} (ht : Tb n T t) : ∀ (r k p q : Nat), k + r = c → r < q → p + k ≤ n → Ex (p + c ≤ n) (nI (p + c), lN (lc t p c)) (f_M_little_L5 K (nI n) T (nI c) q (nI (p + k)) (lN (lc t p k)) (nI k)) := by
  intro r
  induction r with
  | zero =>
    intro k p q hk hq hp
    obtain ⟨q, rfl⟩ : ∃ w, q = w + 1 := ⟨q - 1, by omega⟩
    have e : k = c := by omega
    subst e
    refine Ex.gq (Gq.yes hp ?_)
    show f_M_little_5 K _ (nI n) (nI (p + k)) T (nI k) (lN (lc t p k)) (nI k) = _
    unfold f_M_little_5
    rw [if_pos (nI_le (by omega) (by omega))]
  | succ r ih =>
    intro k p q hk hq hp
    obtain ⟨q, rfl⟩ : ∃ w, q = w + 1 := ⟨q - 1, by omega⟩
    show Ex _ _ (f_M_little_5 K _ (nI n) (nI (p + k)) T (nI c) (lN (lc t p k)) (nI k))
    unfold f_M_little_5
    rw [if_neg (nI_ge (by omega) (by omega)), show (8 : Int32) * nI k = nI (8 * k) from pk_mul 8 k, nI_1]
    refine Ex.gq (Gq.try (nextM_ex hp hn ht) (fun u => ⟨_, rfl⟩) (fun h => by omega) (fun h1 => ?_))
    have t1 := ht.2 (p + k)
    show Gq _ _ (f_M_little_L5 K (nI n) T (nI c) q (nI (p + k + 1)) (lN (lc t p k) ||| ((nI (t (p + k))).toInt64 <<< ((nI (8 * k)).toInt64 &&& 63))) (nI (k + 1)))
    rw [nI_l (by omega), or_sh6 (lc_lt ht.2 p k) (by omega), Nat.add_assoc p k 1]
    exact ih (k + 1) p q (by omega) (by omega) (by omega)
theorem littleM_ex {K n c p : Nat} (hK : 10 < K) (hn : n ≤ 65536) (hc : c ≤ 4) (hp : p ≤ n) {T : Nat → Int32} {t : Nat → Nat} (ht : Tb n T t) : Ex (p + c ≤ n) (lN (lc t p c), nI (p + c)) (f_M_little K (nI c) (nI n) (nI p) T) := by
  unfold f_M_little
  refine Ex.gq (Gq.tryL (littleM_L hn hc ht c 0 p K (by omega) (by omega) hp) (fun u => ⟨u, rfl⟩) id (fun h => Gq.yes h rfl))
theorem l4M_ex {K n p : Nat} (hK : 10 < K) (hn : n ≤ 65536) (hp : p ≤ n) {T : Nat → Int32} {t : Nat → Nat} (ht : Tb n T t) : Ex (p + 4 ≤ n) (lN (l4 t p), nI (p + 4)) (f_M_little K 4 (nI n) (nI p) T) := by
  have h := littleM_ex (c := 4) hK hn (by omega) hp ht
  rw [lc_4] at h
  exact h
theorem l2M_ex {K n p : Nat} (hK : 10 < K) (hn : n ≤ 65536) (hp : p ≤ n) {T : Nat → Int32} {t : Nat → Nat} (ht : Tb n T t) : Ex (p + 2 ≤ n) (lN (l2 t p), nI (p + 2)) (f_M_little K 2 (nI n) (nI p) T) := by
  have h := littleM_ex (c := 2) hK hn (by omega) hp ht
  rw [lc_2] at h
  exact h
