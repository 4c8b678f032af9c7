/-! the pure half: colours in the order in which they come -/
def lk (L : List Nat) (k : Nat) : Nat := (L[k]?).getD 0
theorem lk_l {L : List Nat} (M : List Nat) {k : Nat} (h : k < L.length) : lk (L ++ M) k = lk L k := by
  unfold lk
  rw [List.getElem?_append_left h]
theorem lk_e (L : List Nat) (n : Nat) : lk (L ++ [n]) L.length = n := by
  unfold lk
  rw [List.getElem?_append_right (Nat.le_refl _), Nat.sub_self]
  rfl
/-- the first of L whose value is x, or the length -/
def pos (c : Nat → Int32) : List Nat → Int32 → Nat
  | [], _ => 0
  | j :: L, x => if c j = x then 0 else pos c L x + 1
theorem pos_le (c : Nat → Int32) (x : Int32) : ∀ L : List Nat, pos c L x ≤ L.length := by
  intro L
  induction L with
  | nil => exact Nat.le_refl _
  | cons j L ih =>
    show (if c j = x then 0 else pos c L x + 1) ≤ L.length + 1
    by_cases h : c j = x
    · rw [if_pos h]; omega
    · rw [if_neg h]; omega
theorem pos_hit (c : Nat → Int32) (x : Int32) : ∀ L : List Nat, pos c L x < L.length → c (lk L (pos c L x)) = x := by
  intro L
  induction L with
  | nil => intro h; exact absurd h (Nat.not_lt_zero _)
  | cons j L ih =>
    intro h
    have e : pos c (j :: L) x = if c j = x then 0 else pos c L x + 1 := rfl
    by_cases h1 : c j = x
    · rw [e, if_pos h1]; exact h1
    · rw [e, if_neg h1] at h ⊢
      exact ih (Nat.lt_of_succ_lt_succ h)
theorem pos_min (c : Nat → Int32) (x : Int32) : ∀ (L : List Nat) (k : Nat), k < pos c L x → c (lk L k) ≠ x := by
  intro L
  induction L with
  | nil => intro k h; exact absurd h (Nat.not_lt_zero _)
  | cons j L ih =>
    intro k h
    have e : pos c (j :: L) x = if c j = x then 0 else pos c L x + 1 := rfl
    by_cases h1 : c j = x
    · rw [e, if_pos h1] at h; exact absurd h (Nat.not_lt_zero _)
    · rw [e, if_neg h1] at h
      cases k with
      | zero => exact h1
      | succ k => exact ih k (by omega)
theorem pos_mem {c : Nat → Int32} {x : Int32} {L : List Nat} {k : Nat} (h : c (lk L k) = x) : pos c L x ≤ k := by
  by_cases h2 : pos c L x ≤ k
  · exact h2
  · exact absurd h (pos_min c x L k (by omega))
theorem pos_app (c : Nat → Int32) (x : Int32) (M : List Nat) : ∀ L : List Nat, pos c L x < L.length → pos c (L ++ M) x = pos c L x := by
  intro L
  induction L with
  | nil => intro h; exact absurd h (Nat.not_lt_zero _)
  | cons j L ih =>
    intro h
    show (if c j = x then 0 else pos c (L ++ M) x + 1) = if c j = x then 0 else pos c L x + 1
    have e : pos c (j :: L) x = if c j = x then 0 else pos c L x + 1 := rfl
    by_cases h1 : c j = x
    · rw [if_pos h1, if_pos h1]
    · rw [if_neg h1, if_neg h1, ih]
      rw [e, if_neg h1] at h
      exact Nat.lt_of_succ_lt_succ h
theorem pos_new (c : Nat → Int32) (n : Nat) : ∀ L : List Nat, pos c L (c n) = L.length → pos c (L ++ [n]) (c n) = L.length := by
  intro L
  induction L with
  | nil => intro h; exact if_pos rfl
  | cons j L ih =>
    intro h
    have e : pos c (j :: L) (c n) = if c j = c n then 0 else pos c L (c n) + 1 := rfl
    by_cases h1 : c j = c n
    · rw [e, if_pos h1] at h
      exact absurd h (by rw [List.length_cons]; omega)
    · rw [e, if_neg h1] at h
      show (if c j = c n then 0 else pos c (L ++ [n]) (c n) + 1) = L.length + 1
      rw [if_neg h1, ih (by rw [List.length_cons] at h; omega)]
/-- the first places of the values of c -/
def Sp (c : Nat → Int32) : Nat → List Nat
  | 0 => []
  | n + 1 => if pos c (Sp c n) (c n) < (Sp c n).length then Sp c n else Sp c n ++ [n]
theorem Sp_old {c : Nat → Int32} {n : Nat} (h : pos c (Sp c n) (c n) < (Sp c n).length) : Sp c (n + 1) = Sp c n := if_pos h
theorem Sp_new {c : Nat → Int32} {n : Nat} (h : ¬ pos c (Sp c n) (c n) < (Sp c n).length) : Sp c (n + 1) = Sp c n ++ [n] := if_neg h
theorem Sp_len_s (c : Nat → Int32) (n : Nat) : (Sp c n).length ≤ (Sp c (n + 1)).length := by
  by_cases h : pos c (Sp c n) (c n) < (Sp c n).length
  · rw [Sp_old h]; exact Nat.le_refl _
  · rw [Sp_new h, List.length_append]; omega
theorem Sp_len (c : Nat → Int32) (n : Nat) : ∀ m, n ≤ m → (Sp c n).length ≤ (Sp c m).length := by
  intro m
  induction m with
  | zero => intro h; rw [show n = 0 by omega]; exact Nat.le_refl _
  | succ m ih =>
    intro h
    by_cases e : n = m + 1
    · rw [e]; exact Nat.le_refl _
    · exact Nat.le_trans (ih (by omega)) (Sp_len_s c m)
/-- a value that came keeps its index -/
theorem Sp_keep {c : Nat → Int32} {n : Nat} {x : Int32} (h : pos c (Sp c n) x < (Sp c n).length) : pos c (Sp c (n + 1)) x = pos c (Sp c n) x := by
  by_cases h1 : pos c (Sp c n) (c n) < (Sp c n).length
  · rw [Sp_old h1]
  · rw [Sp_new h1, pos_app c x _ _ h]
theorem Sp_self (c : Nat → Int32) (n : Nat) : pos c (Sp c (n + 1)) (c n) < (Sp c (n + 1)).length := by
  by_cases h1 : pos c (Sp c n) (c n) < (Sp c n).length
  · rw [Sp_old h1]; exact h1
  · have := pos_le c (c n) (Sp c n)
    rw [Sp_new h1, pos_new c n _ (by omega), List.length_append]
    exact Nat.lt_succ_self _
theorem Sp_hit (c : Nat → Int32) : ∀ (n i : Nat), i < n → pos c (Sp c n) (c i) < (Sp c n).length := by
  intro n
  induction n with
  | zero => intro i h; exact absurd h (Nat.not_lt_zero _)
  | succ n ih =>
    intro i h
    by_cases e : i = n
    · rw [e]; exact Sp_self c n
    · have h2 := ih i (by omega)
      rw [Sp_keep h2]
      exact Nat.lt_of_lt_of_le h2 (Sp_len_s c n)
theorem Sp_lt (c : Nat → Int32) : ∀ (n k : Nat), k < (Sp c n).length → lk (Sp c n) k < n := by
  intro n
  induction n with
  | zero => intro k h; exact absurd h (Nat.not_lt_zero _)
  | succ n ih =>
    intro k h
    by_cases h1 : pos c (Sp c n) (c n) < (Sp c n).length
    · rw [Sp_old h1] at h ⊢
      exact Nat.lt_succ_of_lt (ih k h)
    · rw [Sp_new h1] at h ⊢
      rw [List.length_append, List.length_singleton] at h
      by_cases e : k = (Sp c n).length
      · rw [e, lk_e]; exact Nat.lt_succ_self _
      · rw [lk_l _ (by omega)]
        exact Nat.lt_succ_of_lt (ih k (by omega))
theorem Sp_inj (c : Nat → Int32) : ∀ (n j : Nat), j < (Sp c n).length → pos c (Sp c n) (c (lk (Sp c n) j)) = j := by
  intro n
  induction n with
  | zero => intro k h; exact absurd h (Nat.not_lt_zero _)
  | succ n ih =>
    intro k h
    by_cases h1 : pos c (Sp c n) (c n) < (Sp c n).length
    · rw [Sp_old h1] at h ⊢
      exact ih k h
    · have hl := pos_le c (c n) (Sp c n)
      rw [Sp_new h1] at h ⊢
      rw [List.length_append, List.length_singleton] at h
      by_cases e : k = (Sp c n).length
      · rw [e, lk_e, pos_new c n _ (by omega)]
      · have h2 : k < (Sp c n).length := by omega
        rw [lk_l _ h2, pos_app c _ _ _ (by rw [ih k h2]; exact h2), ih k h2]
theorem pos_congr {c r : Nat → Int32} (h : ∀ i j, c i = c j ↔ r i = r j) (i : Nat) : ∀ L : List Nat, pos c L (c i) = pos r L (r i) := by
  intro L
  induction L with
  | nil => rfl
  | cons j L ih =>
    show (if c j = c i then 0 else pos c L (c i) + 1) = if r j = r i then 0 else pos r L (r i) + 1
    by_cases h1 : c j = c i
    · rw [if_pos h1, if_pos ((h j i).mp h1)]
    · rw [if_neg h1, if_neg (fun e => h1 ((h j i).mpr e)), ih]
theorem Sp_congr {c r : Nat → Int32} (h : ∀ i j, c i = c j ↔ r i = r j) : ∀ n, Sp c n = Sp r n := by
  intro n
  induction n with
  | zero => rfl
  | succ n ih =>
    show (if pos c (Sp c n) (c n) < (Sp c n).length then Sp c n else Sp c n ++ [n]) = if pos r (Sp r n) (r n) < (Sp r n).length then Sp r n else Sp r n ++ [n]
    rw [pos_congr h, ih]
/-! the class's cells -/
theorem nI_tn {y : Int32} {j : Nat} (h : y.toBitVec.toNat = j) : y = nI j := by
  have hj : j < 2 ^ 32 := by rw [← h]; exact y.toBitVec.isLt
  apply Int32.toBitVec_inj.mp
  apply BitVec.eq_of_toNat_eq
  rw [h, pk_tn hj]
def hh (x : Int32) : Nat := (x * (-1640531527)).toBitVec.toNat / 2 ^ 22
theorem hh_lt (x : Int32) : hh x < 1024 := by
  have := (x * (-1640531527)).toBitVec.isLt
  unfold hh
  omega
theorem hh_ok (x : Int32) : (((x * (-1640531527)) : Int32).toUInt32 >>> ((22 : Int32).toUInt32 &&& Int32.toUInt32 31)).toInt32 = nI (hh x) := nI_tn (pk_ushr _ 22 22 (by decide))
/-- how many of the first n are not 0 -/
def cz (f : Nat → Int32) : Nat → Nat
  | 0 => 0
  | n + 1 => cz f n + if f n = 0 then 0 else 1
theorem cz_full (f : Nat → Int32) : ∀ n, (∀ i, i < n → f i ≠ 0) → cz f n = n := by
  intro n
  induction n with
  | zero => intro h; rfl
  | succ n ih =>
    intro h
    show cz f n + (if f n = 0 then 0 else 1) = n + 1
    rw [ih (fun i hi => h i (by omega)), if_neg (h n (by omega))]
theorem cz_zero (f : Nat → Int32) : ∀ n, (∀ i, i < n → f i = 0) → cz f n = 0 := by
  intro n
  induction n with
  | zero => intro h; rfl
  | succ n ih =>
    intro h
    show cz f n + (if f n = 0 then 0 else 1) = 0
    rw [ih (fun i hi => h i (by omega)), if_pos (h n (by omega))]
theorem cz_ge (f : Nat → Int32) {p : Nat} (x : Int32) : ∀ n, n ≤ p → cz (upd f p x) n = cz f n := by
  intro n
  induction n with
  | zero => intro h; rfl
  | succ n ih =>
    intro h
    show cz (upd f p x) n + (if upd f p x n = 0 then 0 else 1) = cz f n + (if f n = 0 then 0 else 1)
    rw [ih (by omega), upd_ne _ _ (by omega)]
theorem cz_upd (f : Nat → Int32) {p : Nat} {x : Int32} (hp : f p = 0) (hx : x ≠ 0) : ∀ n, p < n → cz (upd f p x) n = cz f n + 1 := by
  intro n
  induction n with
  | zero => intro h; exact absurd h (Nat.not_lt_zero _)
  | succ n ih =>
    intro h
    show cz (upd f p x) n + (if upd f p x n = 0 then 0 else 1) = cz f n + (if f n = 0 then 0 else 1) + 1
    by_cases e : p = n
    · subst e
      rw [cz_ge f x p (by omega), upd_at, if_neg hx, if_pos hp]
    · rw [ih (by omega), upd_ne _ _ (by omega)]
      omega
theorem cz_free {f : Nat → Int32} {n : Nat} (h : cz f n < n) : ∃ i, i < n ∧ f i = 0 := by
  refine Classical.byContradiction fun hc => ?_
  have := cz_full f n (fun i hi e => hc ⟨i, hi, e⟩)
  omega
def CI (c : Nat → Int32) (L : List Nat) (cells : Nat → Int32) : Prop := (∀ p, p < 1024 → cells p = 0 ∨ ∃ k, k < L.length ∧ cells p = nI (k + 1)) ∧ (∀ k, k < L.length → ∃ d, d < 1024 ∧ cells ((hh (c (lk L k)) + d) % 1024) = nI (k + 1) ∧ ∀ e, e < d → cells ((hh (c (lk L k)) + e) % 1024) ≠ 0) ∧ cz cells 1024 = L.length
def CT (c : Nat → Int32) (n : Nat) (used tr : Int32) (cells colours indices : Nat → Int32) : Prop := (Sp c n).length ≤ 256 ∧ used = nI (Sp c n).length ∧ CI c (Sp c n) cells ∧ (∀ k, k < (Sp c n).length → colours k = c (lk (Sp c n) k)) ∧ (∀ i, i < n → indices i = nI (pos c (Sp c n) (c i))) ∧ (∀ k, k < (Sp c n).length → c (lk (Sp c n) k) = -1 → tr = nI k) ∧ ((∀ k, k < (Sp c n).length → c (lk (Sp c n) k) ≠ -1) → tr = -1)
theorem CT_0 (c : Nat → Int32) {cells : Nat → Int32} (colours indices : Nat → Int32) (h : ∀ p, p < 1024 → cells p = 0) : CT c 0 0 (-1) cells colours indices := by
  refine ⟨Nat.zero_le _, rfl, ⟨fun p hp => .inl (h p hp), fun k hk => absurd hk (Nat.not_lt_zero _), cz_zero _ _ h⟩, fun k hk => absurd hk (Nat.not_lt_zero _), fun k hk => absurd hk (Nat.not_lt_zero _), fun k hk => absurd hk (Nat.not_lt_zero _), fun _ => rfl⟩
theorem lay_step {K h t q : Nat} {c : Nat → Int32} {L : List Nat} {used tr x1 x : Int32} {cells colours indices : Nat → Int32} (hL : L.length ≤ 256) (hcol : ∀ k, k < L.length → colours k = c (lk L k)) (hc : ∃ k, k < L.length ∧ cells ((h + t) % 1024) = nI (k + 1) ∧ c (lk L k) ≠ x) (ht : t < 1024) :
    f_ColourTable_lay_L11 K used tr cells colours indices x1 x (q + 1) (nI ((h + t) % 1024)) (nI t) = f_ColourTable_lay_L11 K used tr cells colours indices x1 x q (nI ((h + (t + 1)) % 1024)) (nI (t + 1)) := by
  obtain ⟨k, hk, e1, e2⟩ := hc
  have hm : (h + t) % 1024 < 1024 := Nat.mod_lt _ (by omega)
  show f_ColourTable_lay_11 K _ used tr cells colours indices x1 x (nI ((h + t) % 1024)) (nI t) = _
  unfold f_ColourTable_lay_11
  rw [if_neg (show ¬ (1024 : Int32) ≤ nI t from show ¬ nI 1024 ≤ nI t from nI_ge ht (by omega)), if_pos (q_inb hm (by omega)), nI_clamp (by omega), e1, if_neg (nI_ne0 (by omega) (by omega)), if_pos (q_inb hm (by omega)), nI_pred, if_pos (q_inb (by omega) (by omega)), nI_clamp (by omega), hcol k hk, if_neg e2, nI_1, nI_1, pk_andN (by omega) (m := 1023) 10 (by decide)]
  rw [show ((h + t) % 1024 + 1) % 2 ^ 10 = (h + (t + 1)) % 1024 by omega]
theorem lay_walk {K h d : Nat} {c : Nat → Int32} {L : List Nat} {used tr x1 x : Int32} {cells colours indices : Nat → Int32} (hL : L.length ≤ 256) (hcol : ∀ k, k < L.length → colours k = c (lk L k)) (hd : d ≤ 1024) (hc : ∀ e, e < d → ∃ k, k < L.length ∧ cells ((h + e) % 1024) = nI (k + 1) ∧ c (lk L k) ≠ x) : ∀ (r t q : Nat), t + r = d →
    f_ColourTable_lay_L11 K used tr cells colours indices x1 x (q + r) (nI ((h + t) % 1024)) (nI t) = f_ColourTable_lay_L11 K used tr cells colours indices x1 x q (nI ((h + d) % 1024)) (nI d) := by
  intro r
  induction r with
  | zero => intro t q ht; rw [show t = d by omega]; rfl
  | succ r ih =>
    intro t q ht
    rw [show q + (r + 1) = (q + r) + 1 by omega, lay_step hL hcol (hc t (by omega)) (by omega)]
    exact ih (t + 1) q (by omega)
theorem lay_old {K n : Nat} (hK : 1025 < K) (hn : n < 16384) {c : Nat → Int32} {used tr : Int32} {cells colours indices : Nat → Int32} (hI : CT c n used tr cells colours indices) (hp : pos c (Sp c n) (c n) < (Sp c n).length) :
    ∃ ind', f_ColourTable_lay K (nI n) (c n) used tr cells colours indices = some (.inl ((), used, tr, cells, colours, ind')) ∧ CT c (n + 1) used tr cells colours ind' := by
  obtain ⟨hL, hu, ⟨h1, h2, h3⟩, hcol, hix, ht1, ht2⟩ := hI
  have hk := pos_hit c (c n) _ hp
  obtain ⟨d, hd, hz, hlow⟩ := h2 _ hp
  rw [hk] at hz hlow
  obtain ⟨d0, hd0, hmin⟩ := pk_least (fun d => cells ((hh (c n) + d) % 1024) = nI (pos c (Sp c n) (c n) + 1)) ⟨d, hz⟩
  have hle : d0 ≤ d := by
    by_cases q : d0 ≤ d
    · exact q
    · exact absurd hz (hmin d (by omega))
  have hm : (hh (c n) + d0) % 1024 < 1024 := Nat.mod_lt _ (by omega)
  have hw : ∀ e, e < d0 → ∃ k, k < (Sp c n).length ∧ cells ((hh (c n) + e) % 1024) = nI (k + 1) ∧ c (lk (Sp c n) k) ≠ c n := by
    intro e he
    rcases h1 ((hh (c n) + e) % 1024) (Nat.mod_lt _ (by omega)) with h0 | ⟨k, hk1, hk2⟩
    · exact absurd h0 (hlow e (by omega))
    · refine ⟨k, hk1, hk2, fun hh2 => ?_⟩
      have := Sp_inj c n k hk1
      rw [hh2] at this
      rw [← this] at hk2
      exact hmin e he hk2
  refine ⟨upd indices n (nI (pos c (Sp c n) (c n))), ?_, ?_⟩
  · unfold f_ColourTable_lay
    obtain ⟨q, hq⟩ : ∃ q, K = (q + 1) + d0 := ⟨K - 1 - d0, by omega⟩
    have hw0 := lay_walk (K := K) (h := hh (c n)) (used := used) (tr := tr) (x1 := nI n) (indices := indices) hL hcol (by omega) hw d0 0 (q + 1) (by omega)
    rw [← hq, Nat.add_zero, Nat.mod_eq_of_lt (hh_lt (c n))] at hw0
    rw [hh_ok, show f_ColourTable_lay_L11 K used tr cells colours indices (nI n) (c n) K (nI (hh (c n))) 0 = _ from hw0]
    have he : f_ColourTable_lay_L11 K used tr cells colours indices (nI n) (c n) (q + 1) (nI ((hh (c n) + d0) % 1024)) (nI d0) = some (.inl (nI ((hh (c n) + d0) % 1024))) := by
      show f_ColourTable_lay_11 K _ used tr cells colours indices (nI n) (c n) (nI ((hh (c n) + d0) % 1024)) (nI d0) = _
      unfold f_ColourTable_lay_11
      rw [if_neg (show ¬ (1024 : Int32) ≤ nI d0 from show ¬ nI 1024 ≤ nI d0 from nI_ge (by omega) (by omega)), if_pos (q_inb hm (by omega)), nI_clamp (by omega), hd0, if_neg (nI_ne0 (by omega) (by omega)), if_pos (q_inb hm (by omega)), nI_pred, if_pos (q_inb (by omega) (by omega)), nI_clamp (by omega), hcol _ hp, if_pos hk]
    rw [he, q_bind, Sum.elim_inl]
    rw [if_pos (q_inb hm (by omega)), if_pos (q_inb hn (by omega)), nI_clamp (by omega), nI_clamp (by omega), hd0, nI_pred]
  · have e := Sp_old hp
    refine ⟨by rw [e]; exact hL, by rw [e]; exact hu, by rw [e]; exact ⟨h1, h2, h3⟩, by rw [e]; exact hcol, ?_, by rw [e]; exact ht1, by rw [e]; exact ht2⟩
    intro i hi
    rw [e]
    by_cases hin : i = n
    · rw [hin, upd_at]
    · rw [upd_ne _ _ hin]
      exact hix i (by omega)
theorem lay_free {c : Nat → Int32} {n : Nat} {cells : Nat → Int32} (hL : (Sp c n).length ≤ 256) (hC : CI c (Sp c n) cells) (hp : ¬ pos c (Sp c n) (c n) < (Sp c n).length) : ∃ d, d < 1024 ∧ cells ((hh (c n) + d) % 1024) = 0 ∧ ∀ e, e < d → ∃ k, k < (Sp c n).length ∧ cells ((hh (c n) + e) % 1024) = nI (k + 1) ∧ c (lk (Sp c n) k) ≠ c n := by
  obtain ⟨h1, h2, h3⟩ := hC
  obtain ⟨z, hz, hz0⟩ := cz_free (f := cells) (n := 1024) (by omega)
  have hh1 := hh_lt (c n)
  have hex : cells ((hh (c n) + (z + 1024 - hh (c n)) % 1024) % 1024) = 0 := by
    rw [show (hh (c n) + (z + 1024 - hh (c n)) % 1024) % 1024 = z by omega]
    exact hz0
  obtain ⟨d, hd, hmin⟩ := pk_least (fun d => cells ((hh (c n) + d) % 1024) = 0) ⟨_, hex⟩
  have hd2 : d < 1024 := by
    by_cases q : d ≤ (z + 1024 - hh (c n)) % 1024
    · exact Nat.lt_of_le_of_lt q (Nat.mod_lt _ (by omega))
    · exact absurd hex (hmin _ (by omega))
  refine ⟨d, hd2, hd, fun e he => ?_⟩
  rcases h1 ((hh (c n) + e) % 1024) (Nat.mod_lt _ (by omega)) with h0 | ⟨k, hk1, hk2⟩
  · exact absurd h0 (hmin e he)
  · refine ⟨k, hk1, hk2, fun q => ?_⟩
    have := pos_mem q
    omega
theorem CI_new {c : Nat → Int32} {n d : Nat} {cells : Nat → Int32} (hL : (Sp c n).length < 256) (hC : CI c (Sp c n) cells) (hd : d < 1024) (hz : cells ((hh (c n) + d) % 1024) = 0) (hw : ∀ e, e < d → cells ((hh (c n) + e) % 1024) ≠ 0) : CI c (Sp c n ++ [n]) (upd cells ((hh (c n) + d) % 1024) (nI ((Sp c n).length + 1))) := by
  obtain ⟨h1, h2, h3⟩ := hC
  have hm : (hh (c n) + d) % 1024 < 1024 := Nat.mod_lt _ (by omega)
  have hne : nI ((Sp c n).length + 1) ≠ 0 := nI_ne0 (by omega) (by omega)
  refine ⟨fun p hp => ?_, fun k hk => ?_, ?_⟩
  · by_cases e : p = (hh (c n) + d) % 1024
    · rw [e, upd_at]
      exact .inr ⟨(Sp c n).length, by rw [List.length_append]; exact Nat.lt_succ_self _, rfl⟩
    · rw [upd_ne _ _ e]
      rcases h1 p hp with h0 | ⟨k, hk1, hk2⟩
      · exact .inl h0
      · exact .inr ⟨k, by rw [List.length_append]; omega, hk2⟩
  · rw [List.length_append, List.length_singleton] at hk
    by_cases e : k = (Sp c n).length
    · rw [e, lk_e]
      refine ⟨d, hd, upd_at _ _ _, fun e2 he2 => ?_⟩
      by_cases q : (hh (c n) + e2) % 1024 = (hh (c n) + d) % 1024
      · rw [q, upd_at]; exact hne
      · rw [upd_ne _ _ q]; exact hw e2 he2
    · rw [lk_l _ (by omega)]
      obtain ⟨d2, hd2, hz2, hw2⟩ := h2 k (by omega)
      refine ⟨d2, hd2, ?_, fun e2 he2 => ?_⟩
      · rw [upd_ne _ _ (fun q => ?_)]
        · exact hz2
        · rw [q, hz] at hz2
          exact nI_ne0 (n := k + 1) (by omega) (by omega) hz2.symm
      · by_cases q : (hh (c (lk (Sp c n) k)) + e2) % 1024 = (hh (c n) + d) % 1024
        · rw [q, upd_at]; exact hne
        · rw [upd_ne _ _ q]; exact hw2 e2 he2
  · rw [cz_upd cells hz hne 1024 hm, h3, List.length_append, List.length_singleton]
theorem lay_miss {K n : Nat} (hK : 1025 < K) {c : Nat → Int32} {used tr : Int32} {cells colours indices : Nat → Int32} (hI : CT c n used tr cells colours indices) (hp : ¬ pos c (Sp c n) (c n) < (Sp c n).length) :
    ∃ d, d < 1024 ∧ cells ((hh (c n) + d) % 1024) = 0 ∧ (∀ e, e < d → cells ((hh (c n) + e) % 1024) ≠ 0) ∧ f_ColourTable_lay K (nI n) (c n) used tr cells colours indices = f_ColourTable_lay_74 K used tr cells colours indices (nI n) (c n) (nI ((hh (c n) + d) % 1024)) := by
  obtain ⟨hL, hu, hC, hcol, hix, ht1, ht2⟩ := hI
  obtain ⟨d0, hd1, hd0, hw⟩ := lay_free hL hC hp
  have hm : (hh (c n) + d0) % 1024 < 1024 := Nat.mod_lt _ (by omega)
  refine ⟨d0, hd1, hd0, fun e he => ?_, ?_⟩
  · obtain ⟨k, hk1, hk2, _⟩ := hw e he
    rw [hk2]
    exact nI_ne0 (by omega) (by omega)
  · unfold f_ColourTable_lay
    obtain ⟨q, hq⟩ : ∃ q, K = (q + 1) + d0 := ⟨K - 1 - d0, by omega⟩
    have hw0 := lay_walk (K := K) (h := hh (c n)) (used := used) (tr := tr) (x1 := nI n) (indices := indices) hL hcol (by omega) hw d0 0 (q + 1) (by omega)
    rw [← hq, Nat.add_zero, Nat.mod_eq_of_lt (hh_lt (c n))] at hw0
    rw [hh_ok, show f_ColourTable_lay_L11 K used tr cells colours indices (nI n) (c n) K (nI (hh (c n))) 0 = _ from hw0]
    have he : f_ColourTable_lay_L11 K used tr cells colours indices (nI n) (c n) (q + 1) (nI ((hh (c n) + d0) % 1024)) (nI d0) = some (.inr (nI ((hh (c n) + d0) % 1024))) := by
      show f_ColourTable_lay_11 K _ used tr cells colours indices (nI n) (c n) (nI ((hh (c n) + d0) % 1024)) (nI d0) = _
      unfold f_ColourTable_lay_11
      rw [if_neg (show ¬ (1024 : Int32) ≤ nI d0 from show ¬ nI 1024 ≤ nI d0 from nI_ge (by omega) (by omega)), if_pos (q_inb hm (by omega)), nI_clamp (by omega), hd0, if_pos rfl]
    rw [he]
    rfl
theorem lay_full {K n : Nat} (hK : 1025 < K) {c : Nat → Int32} {used tr : Int32} {cells colours indices : Nat → Int32} (hI : CT c n used tr cells colours indices) (hp : ¬ pos c (Sp c n) (c n) < (Sp c n).length) (h256 : (Sp c n).length = 256) :
    ∃ u, f_ColourTable_lay K (nI n) (c n) used tr cells colours indices = some (.inr (3, u)) := by
  obtain ⟨d, hd1, hd0, hw, he⟩ := lay_miss hK hI hp
  rw [he, hI.2.1, h256]
  unfold f_ColourTable_lay_74
  rw [if_neg (by decide)]
  exact ⟨_, rfl⟩
theorem lay_new {K n : Nat} (hK : 1025 < K) (hn : n < 16384) {c : Nat → Int32} {used tr : Int32} {cells colours indices : Nat → Int32} (hI : CT c n used tr cells colours indices) (hp : ¬ pos c (Sp c n) (c n) < (Sp c n).length) (h256 : (Sp c n).length < 256) :
    ∃ used' tr' cells' colours' indices', f_ColourTable_lay K (nI n) (c n) used tr cells colours indices = some (.inl ((), used', tr', cells', colours', indices')) ∧ CT c (n + 1) used' tr' cells' colours' indices' := by
  obtain ⟨d, hd1, hd0, hw, he⟩ := lay_miss hK hI hp
  obtain ⟨hL, hu, hC, hcol, hix, ht1, ht2⟩ := hI
  have hl := pos_le c (c n) (Sp c n)
  have hm : (hh (c n) + d) % 1024 < 1024 := Nat.mod_lt _ (by omega)
  have h107 : ∀ tr, f_ColourTable_lay_107 K (nI (Sp c n).length) tr cells colours indices (nI n) (c n) (nI ((hh (c n) + d) % 1024)) = some (.inl ((), nI ((Sp c n).length + 1), tr, upd cells ((hh (c n) + d) % 1024) (nI ((Sp c n).length + 1)), upd colours (Sp c n).length (c n), upd indices n (nI (Sp c n).length))) := by
    intro tr
    unfold f_ColourTable_lay_107
    rw [if_pos (q_inb h256 (by omega)), if_pos (q_inb hn (by omega)), if_pos (q_inb hm (by omega)), nI_clamp (by omega), nI_clamp (by omega), nI_clamp (by omega), nI_1]
  have e := Sp_new hp
  have hlen : (Sp c (n + 1)).length = (Sp c n).length + 1 := by rw [e, List.length_append, List.length_singleton]
  have hCT : ∀ tr', (∀ k, k < (Sp c (n + 1)).length → c (lk (Sp c (n + 1)) k) = -1 → tr' = nI k) → ((∀ k, k < (Sp c (n + 1)).length → c (lk (Sp c (n + 1)) k) ≠ -1) → tr' = -1) → CT c (n + 1) (nI ((Sp c n).length + 1)) tr' (upd cells ((hh (c n) + d) % 1024) (nI ((Sp c n).length + 1))) (upd colours (Sp c n).length (c n)) (upd indices n (nI (Sp c n).length)) := by
    intro tr' t1 t2
    refine ⟨by omega, by rw [hlen], by rw [e]; exact CI_new h256 hC hd1 hd0 hw, fun k hk => ?_, fun i hi => ?_, t1, t2⟩
    · rw [e]
      by_cases q : k = (Sp c n).length
      · rw [q, upd_at, lk_e]
      · rw [upd_ne _ _ q, lk_l _ (by omega)]
        exact hcol k (by omega)
    · by_cases q : i = n
      · rw [q, upd_at, e, pos_new c n _ (by omega)]
      · rw [upd_ne _ _ q, Sp_keep (Sp_hit c n i (by omega))]
        exact hix i (by omega)
  rw [he, hu]
  unfold f_ColourTable_lay_74
  rw [if_pos (show nI (Sp c n).length < 256 from show nI (Sp c n).length < nI 256 from nI_lt h256 (by omega))]
  by_cases hm1 : c n = -1
  · rw [if_pos hm1, h107]
    refine ⟨_, _, _, _, _, rfl, hCT _ (fun k hk hk2 => ?_) (fun q => ?_)⟩
    · rw [e] at hk hk2
      have h5 := Sp_inj c (n + 1) k (by rw [e]; exact hk)
      rw [e, hk2, ← hm1, pos_new c n _ (by omega)] at h5
      rw [h5]
    · exfalso
      refine q (Sp c n).length (by omega) ?_
      rw [e, lk_e]
      exact hm1
  · rw [if_neg hm1, h107]
    refine ⟨_, _, _, _, _, rfl, hCT _ (fun k hk hk2 => ?_) (fun q => ?_)⟩
    · rw [e] at hk2
      by_cases q : k = (Sp c n).length
      · rw [q, lk_e] at hk2
        exact absurd hk2 hm1
      · rw [lk_l _ (by omega)] at hk2
        exact ht1 k (by omega) hk2
    · refine ht2 (fun k hk hk2 => q k (by omega) ?_)
      rw [e, lk_l _ hk]
      exact hk2
/-- a loop that keeps to I, or throws 3 because of B -/
theorem loop_th {σ ε : Type} {T : Nat} {B : Prop} (F : Nat → σ → Int32 → Option (σ ⊕ (Nat × ε))) (I : Nat → σ → Prop) (hend : ∀ q s, I T s → F (q + 1) s (nI T) = some (.inl s)) (hstep : ∀ q k s, k < T → I k s → (∃ s', I (k + 1) s' ∧ F (q + 1) s (nI k) = F q s' (nI (k + 1))) ∨ (B ∧ ∃ u, F (q + 1) s (nI k) = some (.inr (3, u)))) : ∀ (r k : Nat) (s : σ) (q : Nat), k + r = T → r < q → I k s → (∃ s', I T s' ∧ F q s (nI k) = some (.inl s')) ∨ (B ∧ ∃ u, F q s (nI k) = some (.inr (3, u))) := by
  intro r
  induction r with
  | zero =>
    intro k s q hk hq hI
    obtain ⟨q, rfl⟩ : ∃ w, q = w + 1 := ⟨q - 1, by omega⟩
    have e : k = T := by omega
    subst e
    exact .inl ⟨s, hI, hend q s hI⟩
  | succ r ih =>
    intro k s q hk hq hI
    obtain ⟨q, rfl⟩ : ∃ w, q = w + 1 := ⟨q - 1, by omega⟩
    rcases hstep q k s (by omega) hI with ⟨s', h1, h2⟩ | h
    · rw [h2]
      exact ih (k + 1) s' q (by omega) (by omega) h1
    · exact .inr h
abbrev CTs := Int32 × Int32 × (Nat → Int32) × (Nat → Int32) × (Nat → Int32)
abbrev CTi (c : Nat → Int32) (n : Nat) (s : CTs) : Prop := CT c n s.1 s.2.1 s.2.2.1 s.2.2.2.1 s.2.2.2.2
/-- the class's loop over lay -/
theorem lay_loop {ε : Type} {K T : Nat} (hK : 16385 < K) (hT : T ≤ 16384) {c : Nat → Int32} (F : Nat → CTs → Int32 → Option (CTs ⊕ (Nat × ε))) (hend : ∀ q s, F (q + 1) s (nI T) = some (.inl s))
    (hstep : ∀ q k (s : CTs), k < T → (∀ a, f_ColourTable_lay K (nI k) (c k) s.1 s.2.1 s.2.2.1 s.2.2.2.1 s.2.2.2.2 = some (.inl a) → F (q + 1) s (nI k) = F q a.2 (nI (k + 1))) ∧ (∀ u, f_ColourTable_lay K (nI k) (c k) s.1 s.2.1 s.2.2.1 s.2.2.2.1 s.2.2.2.2 = some (.inr (3, u)) → ∃ u', F (q + 1) s (nI k) = some (.inr (3, u')))) {s : CTs} (h0 : CTi c 0 s) :
    (∃ s' : CTs, CTi c T s' ∧ F K s 0 = some (.inl s')) ∨ (256 < (Sp c T).length ∧ ∃ u, F K s 0 = some (.inr (3, u))) := by
  refine loop_th F (CTi c) (fun q s _ => hend q s) (fun q k s hk hI => ?_) T 0 s K (by omega) (by omega) h0
  obtain ⟨hg1, hg2⟩ := hstep q k s hk
  by_cases hp : pos c (Sp c k) (c k) < (Sp c k).length
  · obtain ⟨ind', h1, h2⟩ := lay_old (K := K) (by omega) (by omega) hI hp
    exact .inl ⟨(s.1, s.2.1, s.2.2.1, s.2.2.2.1, ind'), h2, hg1 _ h1⟩
  · by_cases h256 : (Sp c k).length < 256
    · obtain ⟨a1, a2, a3, a4, a5, h1, h2⟩ := lay_new (K := K) (by omega) (by omega) hI hp h256
      exact .inl ⟨(a1, a2, a3, a4, a5), h2, hg1 _ h1⟩
    · have h256' : (Sp c k).length = 256 := by have := hI.1; omega
      obtain ⟨u, hu⟩ := lay_full (K := K) (by omega) hI hp h256'
      refine .inr ⟨?_, hg2 u hu⟩
      have h3 := Sp_len c (k + 1) T (by omega)
      rw [Sp_new hp, List.length_append, List.length_singleton] at h3
      omega
theorem restart_ok {K : Nat} (hK : 1024 < K) (u t : Int32) (cells : Nat → Int32) : ∃ cells', (∀ p, p < 1024 → cells' p = 0) ∧ f_ColourTable_restart K u t cells = some ((), 0, -1, cells') := by
  refine ⟨fun j => if j < 1024 then 0 else cells j, fun p hp => if_pos hp, ?_⟩
  unfold f_ColourTable_restart
  rw [fill2_ok (by omega) hK, q_bind]
/-! the reference's keys -/
def kyM (x2 p : Int32) : Int32 := if x2 = 0 then p &&& (-256) else if 128 ≤ p &&& 255 then p &&& (-256) else 1
def CM (r : Nat → Int32) (n : Nat) (s : Int32 × (Nat → Int32) × (Nat → Int32)) : Prop := (Sp r n).length ≤ 256 ∧ s.1 = nI (Sp r n).length ∧ (∀ k, k < (Sp r n).length → s.2.1 k = r (lk (Sp r n) k)) ∧ ∀ i, i < n → s.2.2 i = nI (pos r (Sp r n) (r i))
theorem can1 : f_M_can 1 = some (.inl ((), ())) := if_neg (by decide)
theorem can0 : f_M_can 0 = some (.inr (3, ())) := if_pos rfl
theorem findM {K : Nat} {a_t_widths : Nat → Int32} {a_t_heights : Nat → Int32} {a_t_images_3 : Nat → Int32} {a_t_keys : Nat → Int32} {a_t_indices : Nat → Int32} {a_t_images_2 : Nat → Int32} {a_t_images_1 : Nat → Int32} {a_t_images_0 : Nat → Int32} {x1 : Int32} {x2 : Int32} {x3 : Int32} {x5 : Int32} {r : Nat → Int32} {L : List Nat} (hL : L.length ≤ 256) (hk : ∀ k, k < L.length → a_t_keys k = r (lk L k)) : ∀ (m i q : Nat), i + m = pos r L x5 → m < q → (f_M_collect_L65 K (nI L.length) a_t_widths a_t_heights a_t_images_3 a_t_keys a_t_indices a_t_images_2 a_t_images_1 a_t_images_0 x1 x2 x3 x5 q (nI i)) = some (nI (pos r L x5)) := by
  have hp := pos_le r x5 L
  intro m
  induction m with
  | zero =>
    intro i q hi hq
    obtain ⟨q, rfl⟩ : ∃ w, q = w + 1 := ⟨q - 1, by omega⟩
    show (f_M_collect_65 K _ (nI L.length) a_t_widths a_t_heights a_t_images_3 a_t_keys a_t_indices a_t_images_2 a_t_images_1 a_t_images_0 x1 x2 x3 x5 (nI i)) = _
    unfold f_M_collect_65
    have e : i = pos r L x5 := by omega
    by_cases c : pos r L x5 < L.length
    · rw [if_neg (nI_ge (by omega) (by omega)), if_pos (q_inb (by omega) (by omega)), nI_clamp (by omega), hk i (by omega), e, if_pos (pos_hit r x5 L c)]
    · rw [if_pos (nI_le (by omega) (by omega)), e]
  | succ m ih =>
    intro i q hi hq
    obtain ⟨q, rfl⟩ : ∃ w, q = w + 1 := ⟨q - 1, by omega⟩
    show (f_M_collect_65 K _ (nI L.length) a_t_widths a_t_heights a_t_images_3 a_t_keys a_t_indices a_t_images_2 a_t_images_1 a_t_images_0 x1 x2 x3 x5 (nI i)) = _
    unfold f_M_collect_65
    rw [if_neg (nI_ge (by omega) (by omega)), if_pos (q_inb (by omega) (by omega)), nI_clamp (by omega), hk i (by omega), if_neg (pos_min r x5 L i (by omega)), nI_1]
    exact ih (i + 1) q (by omega) (by omega)
theorem collect_key {K : Nat} {rec : Int32 → (Nat → Int32) → (Nat → Int32) → Int32 → Option (((Int32 × (Nat → Int32) × (Nat → Int32)) ⊕ (Nat × (Int32 × (Nat → Int32) × (Nat → Int32)))))} {t_keyCount : Int32} {a_t_widths : Nat → Int32} {a_t_heights : Nat → Int32} {a_t_images_3 : Nat → Int32} {a_t_keys : Nat → Int32} {a_t_indices : Nat → Int32} {a_t_images_2 : Nat → Int32} {a_t_images_1 : Nat → Int32} {a_t_images_0 : Nat → Int32} {x1 : Int32} {x2 : Int32} {x3 : Int32} (p : Int32) : (f_M_collect_32 K rec t_keyCount a_t_widths a_t_heights a_t_images_3 a_t_keys a_t_indices a_t_images_2 a_t_images_1 a_t_images_0 x1 x2 x3 p) = (f_M_collect_60 K rec t_keyCount a_t_widths a_t_heights a_t_images_3 a_t_keys a_t_indices a_t_images_2 a_t_images_1 a_t_images_0 x1 x2 x3 (kyM x2 p)) := by
  unfold f_M_collect_32 kyM
  by_cases c : x2 = 0
  · rw [if_pos c, if_pos c]; rfl
  · rw [if_neg c, if_neg c]
    by_cases c2 : 128 ≤ p &&& 255
    · rw [if_pos c2, if_pos c2]; rfl
    · rw [if_neg c2, if_neg c2]
theorem collect_ok {K T w h sl : Nat} (hK : 16385 < K) (hsl : sl < 4) (hT : w * h = T) (hT2 : T ≤ 16384) (P Wm Hm : Nat → Int32) (Q : Nat → Nat → Int32) (hQ : ∀ j, j < T → Q sl j = P j) (hW : Wm sl = nI w) (hH : Hm sl = nI h) (x2 t_keyCount : Int32) (a_t_keys a_t_indices : Nat → Int32) :
    (∃ s : Int32 × (Nat → Int32) × (Nat → Int32), CM (fun i => kyM x2 (P i)) T s ∧ (f_M_collect K (nI sl) x2 t_keyCount Wm Hm (Q 3) a_t_keys a_t_indices (Q 2) (Q 1) (Q 0)) = some (.inl ((), s))) ∨ (256 < (Sp (fun i => kyM x2 (P i)) T).length ∧ ∃ u, (f_M_collect K (nI sl) x2 t_keyCount Wm Hm (Q 3) a_t_keys a_t_indices (Q 2) (Q 1) (Q 0)) = some (.inr (3, u))) := by
  have h0 : CM (fun i => kyM x2 (P i)) 0 (0, a_t_keys, a_t_indices) := ⟨Nat.zero_le _, rfl, fun k hk => absurd hk (Nat.not_lt_zero _), fun k hk => absurd hk (Nat.not_lt_zero _)⟩
  have hl := loop_th (T := T) (B := 256 < (Sp (fun i => kyM x2 (P i)) T).length) (fun q (s : Int32 × (Nat → Int32) × (Nat → Int32)) x => (f_M_collect_L7 K Wm Hm (Q 3) (Q 2) (Q 1) (Q 0) (nI sl) x2 q s.1 s.2.1 s.2.2 x)) (CM (fun i => kyM x2 (P i))) (fun q s hI => ?_) (fun q k s hk hI => ?_) T 0 (0, a_t_keys, a_t_indices) K (by omega) (by omega) h0
  · unfold f_M_collect
    rcases hl with ⟨s, h1, h2⟩ | ⟨hB, u, h2⟩
    · refine .inl ⟨s, h1, ?_⟩
      rw [show (f_M_collect_L7 K Wm Hm (Q 3) (Q 2) (Q 1) (Q 0) (nI sl) x2 K 0 a_t_keys a_t_indices 0) = _ from h2]
      rfl
    · refine .inr ⟨hB, u, ?_⟩
      rw [show (f_M_collect_L7 K Wm Hm (Q 3) (Q 2) (Q 1) (Q 0) (nI sl) x2 K 0 a_t_keys a_t_indices 0) = _ from h2]
      rfl
  · show (f_M_collect_7 K _ s.1 Wm Hm (Q 3) s.2.1 s.2.2 (Q 2) (Q 1) (Q 0) (nI sl) x2 (nI T)) = _
    unfold f_M_collect_7
    rw [if_pos (q_inb hsl (by omega)), if_pos (q_inb hsl (by omega)), nI_clamp (by omega), hW, hH, pk_mul, hT, if_pos (nI_le (by omega) (by omega))]
  · obtain ⟨hL, hu, hkeys, hix⟩ := hI
    have hple := pos_le (fun i => kyM x2 (P i)) (kyM x2 (P k)) (Sp (fun i => kyM x2 (P i)) k)
    have e1 : (f_M_collect_L7 K Wm Hm (Q 3) (Q 2) (Q 1) (Q 0) (nI sl) x2 (q + 1) s.1 s.2.1 s.2.2 (nI k)) = (f_M_collect_92 K ((f_M_collect_L7 K Wm Hm (Q 3) (Q 2) (Q 1) (Q 0) (nI sl) x2) q) s.1 Wm Hm (Q 3) s.2.1 s.2.2 (Q 2) (Q 1) (Q 0) (nI sl) x2 (nI k) (kyM x2 (P k)) (nI (pos (fun i => kyM x2 (P i)) (Sp (fun i => kyM x2 (P i)) k) (kyM x2 (P k))))) := by
      show (f_M_collect_7 K _ s.1 Wm Hm (Q 3) s.2.1 s.2.2 (Q 2) (Q 1) (Q 0) (nI sl) x2 (nI k)) = _
      unfold f_M_collect_7
      rw [if_pos (q_inb hsl (by omega)), if_pos (q_inb hsl (by omega)), nI_clamp (n := sl) (by omega), hW, hH, pk_mul, hT, if_neg (nI_ge hk (by omega))]
      refine (q_sel4 (fun i => if inb (nI k) 16384 = true then (f_M_collect_32 K ((f_M_collect_L7 K Wm Hm (Q 3) (Q 2) (Q 1) (Q 0) (nI sl) x2) q) s.1 Wm Hm (Q 3) s.2.1 s.2.2 (Q 2) (Q 1) (Q 0) (nI sl) x2 (nI k) (Q i (nI k).toNatClampNeg)) else none) hsl).trans ?_
      show (if _ then _ else none) = _
      rw [if_pos (q_inb (by omega) (by omega)), nI_clamp (by omega), hQ k hk, collect_key]
      unfold f_M_collect_60
      rw [hu, show (f_M_collect_L65 K (nI (Sp (fun i => kyM x2 (P i)) k).length) Wm Hm (Q 3) s.2.1 s.2.2 (Q 2) (Q 1) (Q 0) (nI sl) x2 (nI k) (kyM x2 (P k)) K 0) = _ from findM (r := fun i => kyM x2 (P i)) hL hkeys (pos (fun i => kyM x2 (P i)) (Sp (fun i => kyM x2 (P i)) k) (kyM x2 (P k))) 0 K (by omega) (by omega), q_bind]
    have e2 : ∀ (kc : Int32) (ky : Nat → Int32) (x6 : Int32), (f_M_collect_141 K ((f_M_collect_L7 K Wm Hm (Q 3) (Q 2) (Q 1) (Q 0) (nI sl) x2) q) kc Wm Hm (Q 3) ky s.2.2 (Q 2) (Q 1) (Q 0) (nI sl) x2 (nI k) x6) = (f_M_collect_L7 K Wm Hm (Q 3) (Q 2) (Q 1) (Q 0) (nI sl) x2 q kc ky (upd s.2.2 k x6) (nI (k + 1))) := by
      intro kc ky x6
      unfold f_M_collect_141
      rw [if_pos (q_inb (by omega) (by omega)), nI_clamp (by omega), nI_1]
    by_cases hp : pos (fun i => kyM x2 (P i)) (Sp (fun i => kyM x2 (P i)) k) (kyM x2 (P k)) < (Sp (fun i => kyM x2 (P i)) k).length
    · refine .inl ⟨(s.1, s.2.1, upd s.2.2 k (nI (pos (fun i => kyM x2 (P i)) (Sp (fun i => kyM x2 (P i)) k) (kyM x2 (P k))))), ?_, ?_⟩
      · have e := Sp_old (c := fun i => kyM x2 (P i)) (n := k) hp
        refine ⟨by rw [e]; exact hL, by rw [e]; exact hu, by rw [e]; exact hkeys, fun i hi => ?_⟩
        rw [e]
        show upd s.2.2 k _ i = _
        by_cases hin : i = k
        · rw [hin, upd_at]
        · rw [upd_ne _ _ hin]
          exact hix i (by omega)
      · refine e1.trans ?_
        unfold f_M_collect_92
        rw [if_neg (fun q => by rw [hu] at q; have := (nI_eq (by omega) (by omega)).mp q; omega), e2]
    · have he : pos (fun i => kyM x2 (P i)) (Sp (fun i => kyM x2 (P i)) k) (kyM x2 (P k)) = (Sp (fun i => kyM x2 (P i)) k).length := by omega
      have en := Sp_new (c := fun i => kyM x2 (P i)) (n := k) hp
      have hlen : (Sp (fun i => kyM x2 (P i)) (k + 1)).length = (Sp (fun i => kyM x2 (P i)) k).length + 1 := by rw [en, List.length_append, List.length_singleton]
      by_cases h256 : (Sp (fun i => kyM x2 (P i)) k).length < 256
      · refine .inl ⟨(nI ((Sp (fun i => kyM x2 (P i)) k).length + 1), upd s.2.1 (Sp (fun i => kyM x2 (P i)) k).length (kyM x2 (P k)), upd s.2.2 k (nI (Sp (fun i => kyM x2 (P i)) k).length)), ?_, ?_⟩
        · refine ⟨by omega, by rw [hlen], fun j hj => ?_, fun i hi => ?_⟩
          · rw [en]
            show upd s.2.1 _ _ j = _
            by_cases c : j = (Sp (fun i => kyM x2 (P i)) k).length
            · rw [c, upd_at, lk_e]
            · rw [upd_ne _ _ c, lk_l _ (by omega)]
              exact hkeys j (by omega)
          · show upd s.2.2 _ _ i = _
            by_cases c : i = k
            · rw [c, upd_at, en, pos_new (fun i => kyM x2 (P i)) k _ he]
            · rw [upd_ne _ _ c, Sp_keep (Sp_hit (fun i => kyM x2 (P i)) k i (by omega))]
              exact hix i (by omega)
        · refine e1.trans ?_
          unfold f_M_collect_92
          rw [he, hu, if_pos rfl, if_neg (show ¬ (256 : Int32) ≤ _ from show ¬ nI 256 ≤ nI (Sp (fun i => kyM x2 (P i)) k).length from nI_ge h256 (by omega))]
          unfold f_M_collect_117
          rw [can1, q_tryL, if_pos (q_inb h256 (by omega)), nI_1, nI_clamp (by omega), e2]
      · have h256' : (Sp (fun i => kyM x2 (P i)) k).length = 256 := by omega
        refine .inr ⟨?_, ?_⟩
        · have := Sp_len (fun i => kyM x2 (P i)) (k + 1) T (by omega)
          omega
        · refine ⟨(s.1, s.2.1, s.2.2), e1.trans ?_⟩
          unfold f_M_collect_92
          rw [he, hu, if_pos rfl, h256', if_pos (by decide)]
          unfold f_M_collect_117
          rw [can0, q_tryR]
