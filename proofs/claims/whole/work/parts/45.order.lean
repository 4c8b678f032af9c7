/-! the pure half: the order of rows -/
def wl (f : Nat → Int32) (L : List Nat) : Nat → Int32 := fun j => if j < L.length then nI (lk L j) else f j
theorem wl_put (f : Nat → Int32) (L : List Nat) (x : Nat) : upd (wl f L) L.length (nI x) = wl f (L ++ [x]) := by
  funext j
  by_cases e : j = L.length
  · subst e
    rw [upd_at]
    unfold wl
    rw [if_pos (by rw [List.length_append]; exact Nat.lt_succ_self _), lk_e]
  · rw [upd_ne _ _ e]
    unfold wl
    by_cases c : j < L.length
    · rw [if_pos c, if_pos (by rw [List.length_append]; omega), lk_l _ c]
    · rw [if_neg c, if_neg (by rw [List.length_append, List.length_singleton]; omega)]
theorem wl_nil (f : Nat → Int32) : wl f [] = f := by
  funext j
  exact if_neg (Nat.not_lt_zero j)
theorem wl_at (f : Nat → Int32) {L : List Nat} {j : Nat} (h : j < L.length) : wl f L j = nI (lk L j) := if_pos h
/-- a, a + s, .. below h: c of them -/
def st (a s : Nat) : Nat → List Nat
  | 0 => []
  | c + 1 => a :: st (a + s) s c
theorem st_len (s : Nat) : ∀ (c a : Nat), (st a s c).length = c := by
  intro c
  induction c with
  | zero => intro a; rfl
  | succ c ih => intro a; show (st (a + s) s c).length + 1 = _; rw [ih]
theorem st_lk (s : Nat) : ∀ (c a j : Nat), j < c → lk (st a s c) j = a + s * j := by
  intro c
  induction c with
  | zero => intro a j h; exact absurd h (Nat.not_lt_zero _)
  | succ c ih =>
    intro a j h
    cases j with
    | zero => rfl
    | succ j =>
      show lk (st (a + s) s c) j = _
      rw [ih (a + s) j (by omega), Nat.mul_succ]
      omega
def cn8 (h : Nat) : Nat := (h + 7) / 8
def cn4 (h : Nat) : Nat := (h + 3) / 8
def cn2 (h : Nat) : Nat := (h + 1) / 4
def cn1 (h : Nat) : Nat := h / 2
def ordL (h : Nat) (il : Bool) : List Nat := cond il (((st 0 8 (cn8 h) ++ st 4 8 (cn4 h)) ++ st 2 4 (cn2 h)) ++ st 1 2 (cn1 h)) (st 0 1 h)
theorem lk_r {L : List Nat} (M : List Nat) (k : Nat) : lk (L ++ M) (L.length + k) = lk M k := by
  unfold lk
  rw [List.getElem?_append_right (by omega), Nat.add_sub_cancel_left]
theorem ordL_len (h : Nat) (il : Bool) : (ordL h il).length = h := by
  cases il
  · exact st_len 1 h 0
  · show (((st 0 8 (cn8 h) ++ st 4 8 (cn4 h)) ++ st 2 4 (cn2 h)) ++ st 1 2 (cn1 h)).length = h
    rw [List.length_append, List.length_append, List.length_append, st_len, st_len, st_len, st_len]
    unfold cn8 cn4 cn2 cn1
    omega
theorem ordL_lt {h : Nat} {il : Bool} {j : Nat} (hj : j < h) : lk (ordL h il) j < h := by
  cases il
  · show lk (st 0 1 h) j < h
    rw [st_lk 1 h 0 j hj]
    omega
  · show lk (((st 0 8 (cn8 h) ++ st 4 8 (cn4 h)) ++ st 2 4 (cn2 h)) ++ st 1 2 (cn1 h)) j < h
    have e8 : cn8 h = (h + 7) / 8 := rfl
    have e4 : cn4 h = (h + 3) / 8 := rfl
    have e2 : cn2 h = (h + 1) / 4 := rfl
    have e1 : cn1 h = h / 2 := rfl
    have l1 : (st 0 8 (cn8 h)).length = cn8 h := st_len _ _ _
    have l2 : (st 0 8 (cn8 h) ++ st 4 8 (cn4 h)).length = cn8 h + cn4 h := by rw [List.length_append, st_len, st_len]
    have l3 : ((st 0 8 (cn8 h) ++ st 4 8 (cn4 h)) ++ st 2 4 (cn2 h)).length = cn8 h + cn4 h + cn2 h := by rw [List.length_append, l2, st_len]
    by_cases c3 : j < cn8 h + cn4 h + cn2 h
    · rw [lk_l _ (by omega)]
      by_cases c2 : j < cn8 h + cn4 h
      · rw [lk_l _ (by omega)]
        by_cases c1 : j < cn8 h
        · rw [lk_l _ (by omega), st_lk _ _ _ _ c1]
          omega
        · rw [show j = (st 0 8 (cn8 h)).length + (j - cn8 h) by omega, lk_r, st_lk _ _ _ _ (by omega)]
          omega
      · rw [show j = (st 0 8 (cn8 h) ++ st 4 8 (cn4 h)).length + (j - (cn8 h + cn4 h)) by omega, lk_r, st_lk _ _ _ _ (by omega)]
        omega
    · rw [show j = ((st 0 8 (cn8 h) ++ st 4 8 (cn4 h)) ++ st 2 4 (cn2 h)).length + (j - (cn8 h + cn4 h + cn2 h)) by omega, lk_r, st_lk _ _ _ _ (by omega)]
      omega
theorem ord31 {K h : Nat} (hh : h ≤ 16384) (f : Nat → Int32) : ∀ (c a q : Nat) (L : List Nat), c = (h + 7 - a) / 8 → a < h + 8 → c < q → L.length + c ≤ 16384 → f_GifReader_layRowOrder_L31 K 16384 (nI h) q (wl f L) (nI L.length) (nI a) = some (wl f (L ++ st a 8 c), nI (L.length + c)) := by
  intro c
  induction c with
  | zero =>
    intro a q L hc ha hq hL
    obtain ⟨q, rfl⟩ : ∃ w, q = w + 1 := ⟨q - 1, by omega⟩
    show f_GifReader_layRowOrder_31 K 16384 _ (wl f L) (nI h) (nI L.length) (nI a) = _
    unfold f_GifReader_layRowOrder_31
    rw [if_pos (nI_le (by omega) (by omega)), show st a 8 0 = [] from rfl, List.append_nil]
    rfl
  | succ c ih =>
    intro a q L hc ha hq hL
    obtain ⟨q, rfl⟩ : ∃ w, q = w + 1 := ⟨q - 1, by omega⟩
    show f_GifReader_layRowOrder_31 K 16384 _ (wl f L) (nI h) (nI L.length) (nI a) = _
    unfold f_GifReader_layRowOrder_31
    rw [if_neg (nI_ge (by omega) (by omega)), if_pos (q_inb (by omega) (by omega)), nI_clamp (by omega), wl_put, nI_1, show nI a + 8 = nI (a + 8) from nI_add a 8]
    have hl : (L ++ [a]).length = L.length + 1 := by rw [List.length_append]; rfl
    have h1 := ih (a + 8) q (L ++ [a]) (by omega) (by omega) (by omega) (by omega)
    rw [hl] at h1
    rw [h1, List.append_assoc, show L.length + 1 + c = L.length + (c + 1) by omega]
    rfl
theorem ord67 {K h s : Nat} (hs : s = 8 ∨ s = 4 ∨ s = 2) (hh : h ≤ 16384) (f : Nat → Int32) : ∀ (c a q : Nat) (L : List Nat), c = (h + (s - 1) - a) / s → a < h + s → c < q → L.length + c ≤ 16384 → f_GifReader_layRowOrder_L67 K 16384 (nI h) (nI s) q (wl f L) (nI L.length) (nI a) = some (wl f (L ++ st a s c), nI (L.length + c)) := by
  intro c
  induction c with
  | zero =>
    intro a q L hc ha hq hL
    obtain ⟨q, rfl⟩ : ∃ w, q = w + 1 := ⟨q - 1, by omega⟩
    have hle : h ≤ a := by rcases hs with rfl | rfl | rfl <;> omega
    show f_GifReader_layRowOrder_67 K 16384 _ (wl f L) (nI h) (nI L.length) (nI s) (nI a) = _
    unfold f_GifReader_layRowOrder_67
    rw [if_pos (nI_le hle (by rcases hs with rfl | rfl | rfl <;> omega)), show st a s 0 = [] from rfl, List.append_nil]
    rfl
  | succ c ih =>
    intro a q L hc ha hq hL
    obtain ⟨q, rfl⟩ : ∃ w, q = w + 1 := ⟨q - 1, by omega⟩
    have hlt : a < h := by rcases hs with rfl | rfl | rfl <;> omega
    have hc2 : c = (h + (s - 1) - (a + s)) / s := by rcases hs with rfl | rfl | rfl <;> omega
    show f_GifReader_layRowOrder_67 K 16384 _ (wl f L) (nI h) (nI L.length) (nI s) (nI a) = _
    unfold f_GifReader_layRowOrder_67
    rw [if_neg (nI_ge hlt (by omega)), if_pos (q_inb (by omega) (by omega)), nI_clamp (by omega), wl_put, nI_1, nI_add]
    have hl : (L ++ [a]).length = L.length + 1 := by rw [List.length_append]; rfl
    have h1 := ih (a + s) q (L ++ [a]) hc2 (by omega) (by omega) (by omega)
    rw [hl] at h1
    rw [h1, List.append_assoc, show L.length + 1 + c = L.length + (c + 1) by omega]
    rfl
theorem ord9 {K h : Nat} (hh : h ≤ 16384) (f : Nat → Int32) : ∀ (c a q : Nat) (L : List Nat), a + c = h → L.length = a → c < q → f_GifReader_layRowOrder_L9 K 16384 (nI h) q (wl f L) (nI a) = some (wl f (L ++ st a 1 c)) := by
  intro c
  induction c with
  | zero =>
    intro a q L hc hL hq
    obtain ⟨q, rfl⟩ : ∃ w, q = w + 1 := ⟨q - 1, by omega⟩
    show f_GifReader_layRowOrder_9 K 16384 _ (wl f L) (nI h) (nI a) = _
    unfold f_GifReader_layRowOrder_9
    rw [if_pos (nI_le (by omega) (by omega)), show st a 1 0 = [] from rfl, List.append_nil]
  | succ c ih =>
    intro a q L hc hL hq
    obtain ⟨q, rfl⟩ : ∃ w, q = w + 1 := ⟨q - 1, by omega⟩
    subst hL
    show f_GifReader_layRowOrder_9 K 16384 _ (wl f L) (nI h) (nI L.length) = _
    unfold f_GifReader_layRowOrder_9
    rw [if_neg (nI_ge (by omega) (by omega)), if_pos (q_inb (by omega) (by omega)), nI_clamp (by omega), wl_put, nI_1, ih (L.length + 1) q (L ++ [L.length]) (by omega) (by rw [List.length_append]; rfl) (by omega), List.append_assoc]
    rfl
theorem order_ok {K h : Nat} (hK : 16385 < K) (hh : h ≤ 16384) (il : Bool) (f : Nat → Int32) : f_GifReader_layRowOrder K 16384 (nI h) (cond il 1 0) f = some ((), wl f (ordL h il)) := by
  unfold f_GifReader_layRowOrder
  cases il
  · rw [if_pos (show cond false (1 : Int32) 0 = 0 from rfl)]
    have h9 := ord9 (K := K) hh f h 0 K [] (by omega) rfl (by omega)
    rw [wl_nil] at h9
    rw [show f_GifReader_layRowOrder_L9 K 16384 (nI h) K f 0 = _ from h9, q_bind]
    rfl
  · rw [if_neg (show ¬ cond true (1 : Int32) 0 = 0 by decide)]
    have e8 : cn8 h = (h + 7) / 8 := rfl
    have e4 : cn4 h = (h + 3) / 8 := rfl
    have e2 : cn2 h = (h + 1) / 4 := rfl
    have e1 : cn1 h = h / 2 := rfl
    have l1 : (([] : List Nat) ++ st 0 8 (cn8 h)).length = cn8 h := by rw [List.nil_append, st_len]
    have l2 : (([] : List Nat) ++ st 0 8 (cn8 h) ++ st 4 8 (cn4 h)).length = cn8 h + cn4 h := by rw [List.length_append, l1, st_len]
    have l3 : (([] : List Nat) ++ st 0 8 (cn8 h) ++ st 4 8 (cn4 h) ++ st 2 4 (cn2 h)).length = cn8 h + cn4 h + cn2 h := by rw [List.length_append, l2, st_len]
    have g1 := ord31 (K := K) hh f (cn8 h) 0 K [] (by omega) (by omega) (by omega) (by show 0 + _ ≤ _; omega)
    rw [wl_nil] at g1
    have g2 := ord67 (K := K) (s := 8) (.inl rfl) hh f (cn4 h) 4 K (([] : List Nat) ++ st 0 8 (cn8 h)) (by omega) (by omega) (by omega) (by omega)
    have g3 := ord67 (K := K) (s := 4) (.inr (.inl rfl)) hh f (cn2 h) 2 K (([] : List Nat) ++ st 0 8 (cn8 h) ++ st 4 8 (cn4 h)) (by omega) (by omega) (by omega) (by omega)
    have g4 := ord67 (K := K) (s := 2) (.inr (.inr rfl)) hh f (cn1 h) 1 K (([] : List Nat) ++ st 0 8 (cn8 h) ++ st 4 8 (cn4 h) ++ st 2 4 (cn2 h)) (by omega) (by omega) (by omega) (by omega)
    have s1 : ([] : List Nat).length + cn8 h = (([] : List Nat) ++ st 0 8 (cn8 h)).length := by rw [l1]; exact Nat.zero_add _
    rw [s1] at g1
    rw [show (([] : List Nat) ++ st 0 8 (cn8 h)).length + cn4 h = (([] : List Nat) ++ st 0 8 (cn8 h) ++ st 4 8 (cn4 h)).length by omega] at g2
    rw [show (([] : List Nat) ++ st 0 8 (cn8 h) ++ st 4 8 (cn4 h)).length + cn2 h = (([] : List Nat) ++ st 0 8 (cn8 h) ++ st 4 8 (cn4 h) ++ st 2 4 (cn2 h)).length by omega] at g3
    rw [show f_GifReader_layRowOrder_L31 K 16384 (nI h) K f 0 0 = _ from g1, q_bind]
    obtain ⟨q, hq⟩ : ∃ q, K = q + 4 := ⟨K - 4, by omega⟩
    have hs : ∀ (p : Nat) (o : Nat → Int32) (k s : Int32), ¬ s < 2 → f_GifReader_layRowOrder_L55 K 16384 (nI h) (p + 1) o k s = dc_bind (f_GifReader_layRowOrder_L67 K 16384 (nI h) s K o k (s / 2)) (fun v_91 => f_GifReader_layRowOrder_L55 K 16384 (nI h) p v_91.1 v_91.2 (s / 2)) := by
      intro p o k s hs
      show f_GifReader_layRowOrder_55 K 16384 _ o (nI h) k s = _
      unfold f_GifReader_layRowOrder_55
      rw [if_neg hs]
    have hL : f_GifReader_layRowOrder_L55 K 16384 (nI h) (q + 4) (wl f (([] : List Nat) ++ st 0 8 (cn8 h))) (nI (([] : List Nat) ++ st 0 8 (cn8 h)).length) 8 = some (wl f (([] : List Nat) ++ st 0 8 (cn8 h) ++ st 4 8 (cn4 h) ++ st 2 4 (cn2 h) ++ st 1 2 (cn1 h))) := by
      rw [hs (q + 3) _ _ 8 (by decide), show (8 : Int32) / 2 = 4 from rfl, show f_GifReader_layRowOrder_L67 K 16384 (nI h) 8 K _ _ 4 = _ from g2, q_bind]
      show f_GifReader_layRowOrder_L55 K 16384 (nI h) (q + 2 + 1) _ _ 4 = _
      rw [hs (q + 2) _ _ 4 (by decide), show (4 : Int32) / 2 = 2 from rfl, show f_GifReader_layRowOrder_L67 K 16384 (nI h) 4 K _ _ 2 = _ from g3, q_bind]
      show f_GifReader_layRowOrder_L55 K 16384 (nI h) (q + 1 + 1) _ _ 2 = _
      rw [hs (q + 1) _ _ 2 (by decide), show (2 : Int32) / 2 = 1 from rfl, show f_GifReader_layRowOrder_L67 K 16384 (nI h) 2 K _ _ 1 = _ from g4, q_bind]
      show f_GifReader_layRowOrder_55 K 16384 _ _ (nI h) _ 1 = _
      unfold f_GifReader_layRowOrder_55
      rw [if_pos (by decide)]
    rw [← hq] at hL
    rw [show f_GifReader_layRowOrder_L55 K 16384 (nI h) K _ _ 8 = _ from hL, q_bind, List.nil_append]
    rfl
/-- the place whose point comes as the j-th -/
def plc (w h : Nat) (il : Bool) (j : Nat) : Nat := lk (ordL h il) (j / w) * w + j % w
theorem plc_lt {w h j : Nat} {il : Bool} (hj : j < w * h) : plc w h il j < w * h := by
  have hw : 0 < w := by
    rcases Nat.eq_zero_or_pos w with e | e
    · rw [e, Nat.zero_mul] at hj; exact absurd hj (Nat.not_lt_zero _)
    · exact e
  have h1 : j / w < h := Nat.div_lt_of_lt_mul hj
  exact pt_in (Nat.mod_lt _ hw) (ordL_lt h1)
theorem plc_at {w h i x : Nat} {il : Bool} (hx : x < w) : plc w h il (i * w + x) = lk (ordL h il) i * w + x := by
  unfold plc
  rw [Nat.mul_comm i w, Nat.mul_add_div (by omega), Nat.div_eq_of_lt hx, Nat.add_zero, Nat.mul_add_mod, Nat.mod_eq_of_lt hx]
/-- the class's indices in that order -/
theorem layIx43 {K w h y i : Nat} (ind f : Nat → Int32) (il : Bool) (ord : Nat → Int32) (x4 : Int32) (hwh : w * h ≤ 16384) (hi : i < h) (hy : lk (ordL h il) i = y) (hyh : y < h) : ∀ (r x q : Nat) (s : Nat → Int32), x + r = w → r < q → (∀ j, j < i * w + x → s j = ind (plc w h il j)) → ∃ s', (∀ j, j < i * w + w → s' j = ind (plc w h il j)) ∧ f_GifWriter_layIndices_L43 K (nI w) (nI h) ord ind x4 (nI (y * w)) q s (nI (i * w + x)) (nI x) = some (s', nI (i * w + w)) := by
  have hrow := row_in (w := w) hi
  have hrow2 := row_in (w := w) hyh
  intro r
  induction r with
  | zero =>
    intro x q s hx hq hs
    obtain ⟨q, rfl⟩ : ∃ w, q = w + 1 := ⟨q - 1, by omega⟩
    have e : x = w := by omega
    subst e
    refine ⟨s, hs, ?_⟩
    show f_GifWriter_layIndices_43 K _ (nI x) (nI h) ord ind s (nI (i * x + x)) x4 (nI (y * x)) (nI x) = _
    unfold f_GifWriter_layIndices_43
    have hx2 : x < 2 ^ 31 := by
      have := Nat.le_mul_of_pos_right x (show 0 < h by omega)
      omega
    rw [if_pos (nI_le (Nat.le_refl _) hx2)]
  | succ r ih =>
    intro x q s hx hq hs
    obtain ⟨q, rfl⟩ : ∃ w, q = w + 1 := ⟨q - 1, by omega⟩
    obtain ⟨s', h1, h2⟩ := ih (x + 1) q (upd s (i * w + x) (ind (y * w + x))) (by omega) (by omega) (fun j hj => by
      by_cases e : j = i * w + x
      · rw [e, upd_at, plc_at (by omega), hy]
      · rw [upd_ne _ _ e]
        exact hs j (by omega))
    refine ⟨s', h1, ?_⟩
    show f_GifWriter_layIndices_43 K _ (nI w) (nI h) ord ind s (nI (i * w + x)) x4 (nI (y * w)) (nI x) = _
    unfold f_GifWriter_layIndices_43 f_ColourTable_indexAt
    rw [if_neg (nI_ge (by omega) (by omega)), nI_add, if_pos (q_inb (by omega) (by omega)), nI_clamp (by omega), q_bind, if_pos (q_inb (by omega) (by omega)), nI_clamp (by omega), nI_1, nI_1]
    exact h2
theorem layIx {K w h : Nat} (hK : 16385 < K) (hw0 : 0 < w) (hwh : w * h ≤ 16384) (il : Bool) (ind f o : Nat → Int32) : ∃ s' o', (∀ j, j < w * h → s' j = ind (plc w h il j)) ∧ f_GifWriter_layIndices K (cond il 1 0) (nI w) (nI h) o ind f = some ((), o', s') := by
  have hh : h ≤ 16384 := Nat.le_trans (Nat.le_mul_of_pos_left h hw0) hwh
  have hl := loop_inv (c := h) (fun q (s : (Nat → Int32) × Int32) x => dc_bind (f_GifWriter_layIndices_L17 K (nI w) (nI h) (wl o (ordL h il)) ind q s.1 s.2 x) (fun v => some (v, nI (h * w)))) (fun i s => s.2 = nI (i * w) ∧ ∀ j, j < i * w → s.1 j = ind (plc w h il j)) (fun q s hI => ?_) (fun q i s hi hI => ?_) h 0 (f, 0) K (by omega) (by omega) ⟨by rw [Nat.zero_mul]; rfl, fun j hj => by rw [Nat.zero_mul] at hj; exact absurd hj (Nat.not_lt_zero _)⟩
  · obtain ⟨s', ⟨h1, h2⟩, h3⟩ := hl
    cases hq : f_GifWriter_layIndices_L17 K (nI w) (nI h) (wl o (ordL h il)) ind K f 0 0 with
    | none =>
      have h4 : dc_bind (f_GifWriter_layIndices_L17 K (nI w) (nI h) (wl o (ordL h il)) ind K f 0 0) (fun v => some (v, nI (h * w))) = some s' := h3
      rw [hq] at h4
      exact absurd h4 (by intro e; cases e)
    | some v =>
      have h4 : dc_bind (f_GifWriter_layIndices_L17 K (nI w) (nI h) (wl o (ordL h il)) ind K f 0 0) (fun v => some (v, nI (h * w))) = some s' := h3
      rw [hq, q_bind] at h4
      have h5 : s' = (v, nI (h * w)) := (Option.some.inj h4).symm
      refine ⟨v, wl o (ordL h il), fun j hj => ?_, ?_⟩
      · rw [h5] at h2
        exact h2 j (by rw [Nat.mul_comm h w]; exact hj)
      · unfold f_GifWriter_layIndices
        rw [order_ok hK hh, q_bind, hq, q_bind]
  · obtain ⟨h1, h2⟩ := hI
    show dc_bind (f_GifWriter_layIndices_17 K _ (nI w) (nI h) (wl o (ordL h il)) ind s.1 s.2 (nI h)) _ = _
    unfold f_GifWriter_layIndices_17
    rw [if_pos (nI_le (by omega) (by omega)), q_bind, ← h1]
  · obtain ⟨h1, h2⟩ := hI
    obtain ⟨s', g1, g2⟩ := layIx43 (K := K) (h := h) ind f il (wl o (ordL h il)) (nI i) hwh hi rfl (ordL_lt hi) w 0 K s.1 (by omega) (by have := Nat.le_mul_of_pos_right w (show 0 < h by omega); omega) (fun j hj => h2 j (by omega))
    refine ⟨(s', nI ((i + 1) * w)), ⟨rfl, fun j hj => g1 j (by rw [Nat.succ_mul] at hj; exact hj)⟩, ?_⟩
    show dc_bind (f_GifWriter_layIndices_17 K _ (nI w) (nI h) (wl o (ordL h il)) ind s.1 s.2 (nI i)) _ = _
    unfold f_GifWriter_layIndices_17
    rw [if_neg (nI_ge hi (by omega)), if_pos (q_inb (by omega) (by omega)), nI_clamp (by omega), wl_at _ (by rw [ordL_len]; exact hi), pk_mul, h1, show f_GifWriter_layIndices_L43 K (nI w) (nI h) (wl o (ordL h il)) ind (nI i) (nI (lk (ordL h il) i * w)) K s.1 (nI (i * w)) 0 = _ from g2, q_bind, nI_1, Nat.succ_mul]
