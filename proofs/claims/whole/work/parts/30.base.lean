/-! the pure half: words -/
theorem q_bind {α β : Type} (a : α) (f : α → Option β) : dc_bind (some a) f = f a := rfl
theorem q_tryL {α ε β : Type} (a : α) (f : α → Option β) (g : ε → Option β) : dc_try (some (.inl a : α ⊕ ε)) f g = f a := rfl
theorem q_tryR {α ε β : Type} (a : ε) (f : α → Option β) (g : ε → Option β) : dc_try (some (.inr a : α ⊕ ε)) f g = g a := rfl
theorem q_inb {i n : Nat} (h : i < n) (hn : n < 2 ^ 31) : inb (nI i) n = true := decide_eq_true (vp_in_nI h hn)
theorem q_lit (n : Nat) : (OfNat.ofNat n : Int32) = nI n := rfl
/-- the byte of an int, with its sign -/
def q_by (x : Int32) : Int32 := x.toInt8.toInt32
theorem q_by1 (x : Int32) : vp_nar .byte x = q_by x := rfl
theorem q_by2 (x : Int32) : vp_nar .byte (x.toInt8.toInt32) = q_by x := by
  show (x.toInt8.toInt32).toInt8.toInt32 = x.toInt8.toInt32
  rw [Int8.toInt8_toInt32]
theorem q_byby (x : Int32) : q_by (q_by x) = q_by x := by
  show (x.toInt8.toInt32).toInt8.toInt32 = x.toInt8.toInt32
  rw [Int8.toInt8_toInt32]
theorem q_fits {x : Int32} (h : q_by x = x) : fits .byte (.int x) = true := by
  rw [← h]
  have h1 := Int8.le_toInt x.toInt8
  have h2 := Int8.toInt_lt x.toInt8
  show (decide ((-128 : Int32) ≤ (x.toInt8.toInt32)) && decide ((x.toInt8.toInt32) ≤ 127)) = true
  rw [Bool.and_eq_true, decide_eq_true_eq, decide_eq_true_eq, Int32.le_iff_toInt_le, Int32.le_iff_toInt_le, Int8.toInt_toInt32]
  have e1 : (-128 : Int32).toInt = -128 := by decide
  have e2 : (127 : Int32).toInt = 127 := by decide
  rw [e1, e2]
  omega
theorem upd_at (f : Nat → Int32) (k : Nat) (x : Int32) : upd f k x k = x := if_pos rfl
theorem upd_ne (f : Nat → Int32) {k j : Nat} (x : Int32) (h : j ≠ k) : upd f k x j = f j := if_neg h
/-- bytes below n -/
def Bt (n : Nat) (f : Nat → Int32) : Prop := ∀ j, j < n → q_by (f j) = f j
/-- n bytes of v, the highest first, from a on -/
def q_lay (n : Nat) (v : Int32) (k : Nat) : Int32 := q_by (v >>> ((8 * ((nI n - 1) - nI k)) &&& 31))
def q_laid (f : Nat → Int32) (a n : Nat) (v : Int32) : Nat → Int32 := fun j => if a ≤ j ∧ j < a + n then q_lay n v (j - a) else f j
theorem lay_L (K a n : Nat) (v : Int32) (ha : a + n ≤ 65536) : ∀ (r k : Nat) (tape : Nat → Int32) (m : Nat), k + r = n → r < m → f_D_layOnTape_L3 K (nI a) v (nI n) m tape (nI k) = some (fun j => if a + k ≤ j ∧ j < a + n then q_lay n v (j - a) else tape j) := by
  intro r
  induction r with
  | zero =>
    intro k tape m hk hm
    obtain ⟨m, rfl⟩ : ∃ q, m = q + 1 := ⟨m - 1, by omega⟩
    show f_D_layOnTape_3 K _ tape (nI a) v (nI n) (nI k) = _
    unfold f_D_layOnTape_3
    rw [if_pos (nI_le (by omega) (by omega))]
    refine congrArg some (funext fun j => ?_)
    rw [if_neg (by omega)]
  | succ r ih =>
    intro k tape m hk hm
    obtain ⟨m, rfl⟩ : ∃ q, m = q + 1 := ⟨m - 1, by omega⟩
    show f_D_layOnTape_3 K _ tape (nI a) v (nI n) (nI k) = _
    unfold f_D_layOnTape_3
    rw [if_neg (nI_ge (by omega) (by omega)), nI_add, if_pos (q_inb (by omega) (by omega)), nI_clamp (by omega), nI_1, ih (k + 1) _ m (by omega) (by omega)]
    refine congrArg some (funext fun j => ?_)
    by_cases h : j = a + k
    · subst h
      rw [if_neg (by omega), if_pos (by omega), upd_at, q_by2, show a + k - a = k by omega]
      rfl
    · by_cases h2 : a + (k + 1) ≤ j ∧ j < a + n
      · rw [if_pos h2, if_pos (by omega)]
      · rw [if_neg h2, if_neg (by omega), upd_ne _ _ h]
theorem lay_ok {K a n : Nat} (hK : n < K) (v : Int32) (ha : a + n ≤ 65536) (tape : Nat → Int32) : f_D_layOnTape K (nI a) v (nI n) tape = some ((), q_laid tape a n v) := by
  unfold f_D_layOnTape
  rw [show (0 : Int32) = nI 0 from rfl, lay_L K a n v ha n 0 tape K (by omega) hK]
  rfl
theorem patch_L (K a n : Nat) (v z t : Int32) (ha : a + n ≤ 65536) : ∀ (r k : Nat) (tape : Nat → Int32) (m : Nat), k + r = n → r < m → f_M_patch_L40 K z t (nI a) v (nI n) m tape (nI k) = some (fun j => if a + k ≤ j ∧ j < a + n then q_lay n v (j - a) else tape j) := by
  intro r
  induction r with
  | zero =>
    intro k tape m hk hm
    obtain ⟨m, rfl⟩ : ∃ q, m = q + 1 := ⟨m - 1, by omega⟩
    show f_M_patch_40 K _ z t tape (nI a) v (nI n) (nI k) = _
    unfold f_M_patch_40
    rw [if_pos (nI_le (by omega) (by omega))]
    refine congrArg some (funext fun j => ?_)
    rw [if_neg (by omega)]
  | succ r ih =>
    intro k tape m hk hm
    obtain ⟨m, rfl⟩ : ∃ q, m = q + 1 := ⟨m - 1, by omega⟩
    show f_M_patch_40 K _ z t tape (nI a) v (nI n) (nI k) = _
    unfold f_M_patch_40
    rw [if_neg (nI_ge (by omega) (by omega)), nI_add, if_pos (q_inb (by omega) (by omega)), nI_clamp (by omega), nI_1, ih (k + 1) _ m (by omega) (by omega)]
    refine congrArg some (funext fun j => ?_)
    by_cases h : j = a + k
    · subst h
      rw [if_neg (by omega), if_pos (by omega), upd_at, q_by2, show a + k - a = k by omega]
      rfl
    · by_cases h2 : a + (k + 1) ≤ j ∧ j < a + n
      · rw [if_pos h2, if_pos (by omega)]
      · rw [if_neg h2, if_neg (by omega), upd_ne _ _ h]
/-- the reference's feed: byte k of twenty -/
def q_fd (x1 x2 x3 x4 x5 : Int32) (k : Nat) : Int32 := q_lay 4 (if k < 4 then x1 else if k < 8 then x2 else if k < 12 then x3 else if k < 16 then x4 else x5) (k % 4)
theorem q_fd_sh : ∀ k, k < 20 → ((24 : Int32) - (8 * (nI k - nI k / 4 * 4))) &&& 31 = (8 * ((nI 4 - 1) - nI (k % 4))) &&& 31 := by decide +kernel
theorem feed_L (K : Nat) (z x1 x2 x3 x4 x5 : Int32) (t : Nat) (ht : t + 20 ≤ 65536) : ∀ (r k : Nat) (tape : Nat → Int32) (m : Nat), k + r = 20 → r < m → f_M_feed_L26 K z x1 x2 x3 x4 x5 m (nI (t + k)) tape (nI k) = some (nI (t + 20), fun j => if t + k ≤ j ∧ j < t + 20 then q_fd x1 x2 x3 x4 x5 (j - t) else tape j) := by
  intro r
  induction r with
  | zero =>
    intro k tape m hk hm
    obtain ⟨m, rfl⟩ : ∃ q, m = q + 1 := ⟨m - 1, by omega⟩
    show f_M_feed_26 K _ z (nI (t + k)) tape x1 x2 x3 x4 x5 (nI k) = _
    unfold f_M_feed_26
    have hk2 : k = 20 := by omega
    subst hk2
    rw [if_pos (show (20 : Int32) ≤ nI 20 by decide)]
    refine congrArg some (congrArg (Prod.mk _) (funext fun j => ?_))
    rw [if_neg (by omega)]
  | succ r ih =>
    intro k tape m hk hm
    obtain ⟨m, rfl⟩ : ∃ q, m = q + 1 := ⟨m - 1, by omega⟩
    have hst : ∀ y : Int32, (if k < 4 then x1 else if k < 8 then x2 else if k < 12 then x3 else if k < 16 then x4 else x5) = y → f_M_feed_79 K (f_M_feed_L26 K z x1 x2 x3 x4 x5 m) z (nI (t + k)) tape x1 x2 x3 x4 x5 (nI k) y = some (nI (t + 20), fun j => if t + k ≤ j ∧ j < t + 20 then q_fd x1 x2 x3 x4 x5 (j - t) else tape j) := by
      intro y hy
      unfold f_M_feed_79
      rw [if_pos (q_inb (by omega) (by omega)), nI_clamp (by omega), nI_1, nI_1, Nat.add_assoc t k 1, ih (k + 1) _ m (by omega) (by omega)]
      refine congrArg some (congrArg (Prod.mk _) (funext fun j => ?_))
      by_cases h : j = t + k
      · subst h
        rw [if_neg (by omega), if_pos (by omega), upd_at, q_by2, show t + k - t = k by omega, q_fd_sh k (by omega)]
        unfold q_fd q_lay
        rw [hy]
      · by_cases h2 : t + (k + 1) ≤ j ∧ j < t + 20
        · rw [if_pos h2, if_pos (by omega)]
        · rw [if_neg h2, if_neg (by omega), upd_ne _ _ h]
    show f_M_feed_26 K _ z (nI (t + k)) tape x1 x2 x3 x4 x5 (nI k) = _
    unfold f_M_feed_26
    rw [show (20 : Int32) = nI 20 from rfl, show (16 : Int32) = nI 16 from rfl, show (12 : Int32) = nI 12 from rfl, show (8 : Int32) = nI 8 from rfl, show (4 : Int32) = nI 4 from rfl, if_neg (nI_ge (by omega) (by omega))]
    by_cases h1 : k < 4
    · rw [if_neg (nI_ge h1 (by omega))]
      exact hst x1 (by rw [if_pos h1])
    · rw [if_pos (nI_le (by omega) (by omega))]
      by_cases h2 : k < 8
      · rw [if_neg (nI_ge h2 (by omega))]
        exact hst x2 (by rw [if_neg h1, if_pos h2])
      · rw [if_pos (nI_le (by omega) (by omega))]
        by_cases h3 : k < 12
        · rw [if_neg (nI_ge h3 (by omega))]
          exact hst x3 (by rw [if_neg h1, if_neg h2, if_pos h3])
        · rw [if_pos (nI_le (by omega) (by omega))]
          by_cases h4 : k < 16
          · rw [if_neg (nI_ge h4 (by omega))]
            exact hst x4 (by rw [if_neg h1, if_neg h2, if_neg h3, if_pos h4])
          · rw [if_pos (nI_le (by omega) (by omega))]
            exact hst x5 (by rw [if_neg h1, if_neg h2, if_neg h3, if_neg h4])
/-- a loop's steps, one behind the other -/
def it {σ : Type} (f : Nat → σ → σ) : Nat → Nat → σ → σ
  | _, 0, s => s
  | k, r + 1, s => it f (k + 1) r (f k s)
theorem loop_it {σ : Type} {c : Nat} (F : Nat → σ → Int32 → Option σ) (f : Nat → σ → σ) (hend : ∀ q s, F (q + 1) s (nI c) = some s) (hstep : ∀ q k s, k < c → F (q + 1) s (nI k) = F q (f k s) (nI (k + 1))) : ∀ (r k : Nat) (s : σ) (q : Nat), k + r = c → r < q → F q s (nI k) = some (it f k r s) := by
  intro r
  induction r with
  | zero =>
    intro k s q hk hq
    obtain ⟨q, rfl⟩ : ∃ w, q = w + 1 := ⟨q - 1, by omega⟩
    have e : k = c := by omega
    subst e
    exact hend q s
  | succ r ih =>
    intro k s q hk hq
    obtain ⟨q, rfl⟩ : ∃ w, q = w + 1 := ⟨q - 1, by omega⟩
    rw [hstep q k s (by omega)]
    exact ih (k + 1) (f k s) q (by omega) (by omega)
theorem it_map (g : Nat → Int32 → Int32) : ∀ (r k : Nat) (f : Nat → Int32), it (fun k f => upd f k (g k (f k))) k r f = fun j => if k ≤ j ∧ j < k + r then g j (f j) else f j := by
  intro r
  induction r with
  | zero =>
    intro k f
    funext j
    show f j = _
    rw [if_neg (by omega)]
  | succ r ih =>
    intro k f
    show it _ (k + 1) r (upd f k (g k (f k))) = _
    rw [ih]
    funext j
    by_cases h : j = k
    · subst h
      rw [if_neg (by omega), if_pos (by omega), upd_at]
    · rw [upd_ne _ _ h]
      by_cases h2 : k + 1 ≤ j ∧ j < k + 1 + r
      · rw [if_pos h2, if_pos (by omega)]
      · rw [if_neg h2, if_neg (by omega)]
/-- a loop whose state keeps to I -/
theorem loop_inv {σ : Type} {c : Nat} (F : Nat → σ → Int32 → Option σ) (I : Nat → σ → Prop) (hend : ∀ q s, I c s → F (q + 1) s (nI c) = some s) (hstep : ∀ q k s, k < c → I k s → ∃ s', I (k + 1) s' ∧ F (q + 1) s (nI k) = F q s' (nI (k + 1))) : ∀ (r k : Nat) (s : σ) (q : Nat), k + r = c → r < q → I k s → ∃ s', I c s' ∧ F q s (nI k) = some s' := by
  intro r
  induction r with
  | zero =>
    intro k s q hk hq hI
    obtain ⟨q, rfl⟩ : ∃ w, q = w + 1 := ⟨q - 1, by omega⟩
    have e : k = c := by omega
    subst e
    exact ⟨s, hI, hend q s hI⟩
  | succ r ih =>
    intro k s q hk hq hI
    obtain ⟨q, rfl⟩ : ∃ w, q = w + 1 := ⟨q - 1, by omega⟩
    obtain ⟨s', h1, h2⟩ := hstep q k s (by omega) hI
    obtain ⟨s2, h3, h4⟩ := ih (k + 1) s' q (by omega) (by omega) h1
    exact ⟨s2, h3, h2.trans h4⟩
/-- the first j places through g -/
def mp (g : Nat → Int32 → Int32) (f : Nat → Int32) (j : Nat) : Nat → Int32 := fun i => if i < j then g i (f i) else f i
theorem mp_0 (g : Nat → Int32 → Int32) (f : Nat → Int32) : mp g f 0 = f := by
  funext i
  show (if i < 0 then _ else _) = _
  rw [if_neg (by omega)]
theorem mp_at (g : Nat → Int32 → Int32) (f : Nat → Int32) (j : Nat) : mp g f j j = f j := by
  show (if j < j then _ else _) = _
  rw [if_neg (by omega)]
theorem mp_lt (g : Nat → Int32 → Int32) (f : Nat → Int32) {i j : Nat} (h : i < j) : mp g f j i = g i (f i) := if_pos h
theorem mp_ge (g : Nat → Int32 → Int32) (f : Nat → Int32) {i j : Nat} (h : j ≤ i) : mp g f j i = f i := if_neg (by omega)
theorem mp_s (g : Nat → Int32 → Int32) (f : Nat → Int32) (j : Nat) : upd (mp g f j) j (g j (f j)) = mp g f (j + 1) := by
  funext i
  by_cases h : i = j
  · subst h
    rw [upd_at, mp_lt _ _ (by omega)]
  · rw [upd_ne _ _ h]
    by_cases h2 : i < j
    · rw [mp_lt _ _ h2, mp_lt _ _ (by omega)]
    · rw [mp_ge _ _ (by omega), mp_ge _ _ (by omega)]
theorem loop_mp {c K : Nat} (F : Nat → (Nat → Int32) → Int32 → Option (Nat → Int32)) (g : Nat → Int32 → Int32) (f : Nat → Int32) (hend : ∀ q s, F (q + 1) s (nI c) = some s) (hstep : ∀ q k, k < c → F (q + 1) (mp g f k) (nI k) = F q (upd (mp g f k) k (g k (f k))) (nI (k + 1))) (hK : c < K) : F K f 0 = some (mp g f c) := by
  obtain ⟨s', h1, h2⟩ := loop_inv (c := c) F (fun k s => s = mp g f k) (fun q s _ => hend q s) (fun q k s hk hs => ⟨_, rfl, by rw [hs, hstep q k hk, mp_s]⟩) c 0 f K (by omega) hK (mp_0 g f).symm
  rw [← h1]
  exact h2
