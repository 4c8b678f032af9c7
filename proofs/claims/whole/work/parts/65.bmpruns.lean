/-! the pure half: a BMP file's runs, both sides in step -/
/-- both find it broken, or both answer, and R ties the answers -/
def Lk {α ε α' ε' : Type} (R : α → α' → Prop) (m : Option (α ⊕ (Nat × ε))) (m' : Option (α' ⊕ (Nat × ε'))) : Prop := (Th 3 m ∧ Th 3 m') ∨ ∃ a b, m = some (.inl a) ∧ m' = some (.inl b) ∧ R a b
theorem Lk.no {α ε α' ε' : Type} {R : α → α' → Prop} {m : Option (α ⊕ (Nat × ε))} {m' : Option (α' ⊕ (Nat × ε'))} (h : Th 3 m) (h' : Th 3 m') : Lk R m m' := Or.inl ⟨h, h'⟩
theorem Lk.yes {α ε α' ε' : Type} {R : α → α' → Prop} {a : α} {b : α'} (h : R a b) : Lk R (some (.inl a) : Option (α ⊕ (Nat × ε))) (some (.inl b) : Option (α' ⊕ (Nat × ε'))) := Or.inr ⟨a, b, rfl, rfl, h⟩
theorem Lk.both {α ε α' ε' : Type} {φ : Prop} {a : α} {b : α'} {m : Option (α ⊕ (Nat × ε))} {m' : Option (α' ⊕ (Nat × ε'))} (h : Ex φ a m) (h' : Ex φ b m') : Lk (fun x y => x = a ∧ y = b ∧ φ) m m' := by
  by_cases c : φ
  · exact Or.inr ⟨a, b, h.1 c, h'.1 c, rfl, rfl, c⟩
  · exact Or.inl ⟨h.2 c, h'.2 c⟩
theorem Lk.try {α ε α' ε' β δ β' δ' : Type} {R : α → α' → Prop} {R' : β → β' → Prop} {m : Option (α ⊕ (Nat × ε))} {m' : Option (α' ⊕ (Nat × ε'))} {f : α → Option (β ⊕ (Nat × δ))} {g : Nat × ε → Option (β ⊕ (Nat × δ))} {f' : α' → Option (β' ⊕ (Nat × δ'))} {g' : Nat × ε' → Option (β' ⊕ (Nat × δ'))} (h : Lk R m m') (hg : ∀ u, ∃ u', g (3, u) = some (.inr (3, u'))) (hg' : ∀ u, ∃ u', g' (3, u) = some (.inr (3, u'))) (hf : ∀ a b, R a b → Lk R' (f a) (f' b)) : Lk R' (dc_try m f g) (dc_try m' f' g') := by
  rcases h with ⟨⟨u, hu⟩, ⟨v, hv⟩⟩ | ⟨a, b, ha, hb, hR⟩
  · rw [hu, hv, q_tryR, q_tryR]
    exact Or.inl ⟨hg u, hg' v⟩
  · rw [ha, hb, q_tryL, q_tryL]
    exact hf a b hR
theorem Lk.tryL {α ε α' ε' β δ β' δ' : Type} {R : α → α' → Prop} {R' : β → β' → Prop} {m : Option (α ⊕ (Nat × ε))} {m' : Option (α' ⊕ (Nat × ε'))} {f : α → Option (β ⊕ (Nat × δ))} {g : Nat × ε → Option (β ⊕ (Nat × δ))} {f' : α' → Option (β' ⊕ (Nat × δ'))} {g' : Nat × ε' → Option (β' ⊕ (Nat × δ'))} (h : Lk R m m') (hg : ∀ u, ∃ u', g (3, u) = some (.inr (3, u'))) (hg' : ∀ u, ∃ u', g' (3, u) = some (.inr (3, u'))) (hf : ∀ a b, R a b → Lk R' (f a) (f' b)) : Lk R' (dc_bind m (Sum.elim f g)) (dc_bind m' (Sum.elim f' g')) := by
  rw [bind_elim, bind_elim]
  exact Lk.try h hg hg' hf
/-- both try the same thing -/
theorem Lk.step {α ε α' ε' β δ β' δ' : Type} {φ : Prop} {a : α} {b : α'} {R' : β → β' → Prop} {m : Option (α ⊕ (Nat × ε))} {m' : Option (α' ⊕ (Nat × ε'))} {f : α → Option (β ⊕ (Nat × δ))} {g : Nat × ε → Option (β ⊕ (Nat × δ))} {f' : α' → Option (β' ⊕ (Nat × δ'))} {g' : Nat × ε' → Option (β' ⊕ (Nat × δ'))} (h : Ex φ a m) (h' : Ex φ b m') (hg : ∀ u, ∃ u', g (3, u) = some (.inr (3, u'))) (hg' : ∀ u, ∃ u', g' (3, u) = some (.inr (3, u'))) (hf : φ → Lk R' (f a) (f' b)) : Lk R' (dc_try m f g) (dc_try m' f' g') :=
  Lk.try (Lk.both h h') hg hg' (fun x y hxy => by rw [hxy.1, hxy.2.1]; exact hf hxy.2.2)
theorem Lk.mono {α ε α' ε' : Type} {R R' : α → α' → Prop} {m : Option (α ⊕ (Nat × ε))} {m' : Option (α' ⊕ (Nat × ε'))} (h : Lk R m m') (hR : ∀ a b, R a b → R' a b) : Lk R' m m' := by
  rcases h with h | ⟨a, b, ha, hb, h⟩
  · exact Or.inl h
  · exact Or.inr ⟨a, b, ha, hb, hR a b h⟩
/-- a value laid over a stretch -/
def lyv (f : Nat → Int32) (p k : Nat) (v : Int32) : Nat → Int32 := fun j => if p ≤ j ∧ j < p + k then v else f j
theorem lyv_0 (f : Nat → Int32) (p : Nat) (v : Int32) : lyv f p 0 v = f := by
  funext j
  exact if_neg (by omega)
theorem lyv_s (f : Nat → Int32) (p k : Nat) (v : Int32) : upd (lyv f p k v) (p + k) v = lyv f p (k + 1) v := by
  funext j
  by_cases e : j = p + k
  · rw [e, upd_at]
    exact (if_pos (by omega)).symm
  · rw [upd_ne _ _ e]
    unfold lyv
    by_cases e2 : p ≤ j ∧ j < p + k
    · rw [if_pos e2, if_pos (by omega)]
    · rw [if_neg e2, if_neg (by omega)]
theorem nge0 {a : Nat} (h0 : 0 < a) (h : a < 256) : ¬ nI a ≤ 0 := nI_ge (a := 0) h0 (by omega)
theorem runM_L {K n w h c p col line a b : Nat} {TM palM pts0 : Nat → Int32} (hb : b < 256) (hbc : b < c) (hc : c ≤ 256) (ha : a < 256) (ha0 : 0 < a) (hwh : w * h ≤ 16384) (hw0 : 0 < w) (hl : line < h) (hcol : col + a ≤ w) : ∀ (r k q : Nat), k + r = a → r < q → (f_M_packedRows_L188 K (nI n) (nI w) (nI h) (nI c) palM TM (nI line) (nI a) (nI b) (nI a) q (nI p) (lyv pts0 ((h - 1 - line) * w + col) k (palM b)) (nI (col + k)) (nI k)) = some (.inl (nI p, lyv pts0 ((h - 1 - line) * w + col) a (palM b), nI (col + a))) := by
  have hin := row_in (w := w) (show h - 1 - line < h by omega)
  have hh := Nat.le_mul_of_pos_left h hw0
  intro r
  induction r with
  | zero =>
    intro k q hk hq
    obtain ⟨q, rfl⟩ : ∃ w, q = w + 1 := ⟨q - 1, by omega⟩
    have e : k = a := by omega
    subst e
    show (f_M_packedRows_188 K _ (nI n) (nI p) (nI w) (nI h) (nI c) palM (lyv pts0 ((h - 1 - line) * w + col) k (palM b)) TM (nI (col + k)) (nI line) (nI k) (nI b) (nI k) (nI k)) = _
    unfold f_M_packedRows_188
    rw [if_pos (nI_le (by omega) (by omega))]
  | succ r ih =>
    intro k q hk hq
    obtain ⟨q, rfl⟩ : ∃ w, q = w + 1 := ⟨q - 1, by omega⟩
    show (f_M_packedRows_188 K _ (nI n) (nI p) (nI w) (nI h) (nI c) palM (lyv pts0 ((h - 1 - line) * w + col) k (palM b)) TM (nI (col + k)) (nI line) (nI a) (nI b) (nI a) (nI k)) = _
    unfold f_M_packedRows_188 f_M_packedRows_208 f_M_packedRows_225
    rw [if_neg (nI_ge (by omega) (by omega)), if_neg (nge0 ha0 ha), if_neg (nI_ge hbc (by omega)), can1, q_tryL, if_pos (q_inb hb (by omega)), y0_ok hl, pk_mul, nI_add, ← Nat.add_assoc, if_pos (q_inb (by omega) (by omega)), nI_clamp (by omega), nI_clamp (by omega), lyv_s, nI_1, nI_1]
    exact ih (k + 1) q (by omega) (by omega)
theorem runM_no {K n w h c p col line a b q : Nat} {TM palM pts : Nat → Int32} (hb : b < 256) (hbc : ¬ b < c) (ha : a < 256) (ha0 : 0 < a) (hq : 0 < q) {X1 : Int32} : Th 3 (f_M_packedRows_L188 K (nI n) (nI w) (nI h) (nI c) palM TM (nI line) (nI a) (nI b) (nI a) q (nI p) pts X1 (nI 0)) := by
  obtain ⟨q, rfl⟩ : ∃ w, q = w + 1 := ⟨q - 1, by omega⟩
  show Th 3 (f_M_packedRows_188 K _ (nI n) (nI p) (nI w) (nI h) (nI c) palM pts TM X1 (nI line) (nI a) (nI b) (nI a) (nI 0))
  unfold f_M_packedRows_188 f_M_packedRows_208 f_M_packedRows_225
  rw [if_neg (nI_ge ha0 (by omega)), if_neg (nge0 ha0 ha), if_pos (nI_le (by omega) (by omega)), can0, q_tryR]
  exact ⟨_, rfl⟩
def Agr (m : Nat) (f g : Nat → Int32) : Prop := ∀ j, j < m → f j = g j
theorem Agr_u {m j : Nat} {f g : Nat → Int32} {u v : Int32} (h : Agr m f g) (e : u = v) : Agr m (upd f j u) (upd g j v) := by
  intro i hi
  by_cases q : i = j
  · rw [q, upd_at, upd_at, e]
  · rw [upd_ne _ _ q, upd_ne _ _ q]
    exact h i hi
theorem Agr_l {m p k : Nat} {f g : Nat → Int32} {u v : Int32} (h : Agr m f g) (e : u = v) : Agr m (lyv f p k u) (lyv g p k v) := by
  intro i hi
  unfold lyv
  by_cases q : p ≤ i ∧ i < p + k
  · rw [if_pos q, if_pos q, e]
  · rw [if_neg q, if_neg q]
    exact h i hi
theorem singles_L {K n w h c p col line a : Nat} {T TM palD palM : Nat → Int32} {t : Nat → Nat} (hn : n ≤ 65536) (ht : Tb n T t) (htM : Tb n TM t) (hpal : Agr c palD palM) (hc : c ≤ 256) (ha : a < 256) (hwh : w * h ≤ 16384) (hw0 : 0 < w) (hl : line < h) (hcol : col + a ≤ w) : ∀ (r k qD qM : Nat) (ptsD ptsM : Nat → Int32), k + r = a → r < qD → r < qM → p + k ≤ n → Agr (w * h) ptsD ptsM → Lk (fun x y => ∃ D' M', x = (nI (p + a), D') ∧ y = (nI (p + a), M', nI (col + a)) ∧ p + a ≤ n ∧ Agr (w * h) D' M') (f_BmpFiles_takeSingles_L10 K (nI c) (nI col) (nI line) (nI w) (nI h) (nI n) T palD (nI a) (nI ((h - 1 - line) * w + col)) qD (nI (p + k)) ptsD (nI k)) (f_M_packedRows_L188 K (nI n) (nI w) (nI h) (nI c) palM TM (nI line) (nI 0) (nI a) (nI a) qM (nI (p + k)) ptsM (nI (col + k)) (nI k)) := by
  have hin := row_in (w := w) (show h - 1 - line < h by omega)
  have hh := Nat.le_mul_of_pos_left h hw0
  intro r
  induction r with
  | zero =>
    intro k qD qM ptsD ptsM hk hq hq2 hp hA
    obtain ⟨qD, rfl⟩ : ∃ w, qD = w + 1 := ⟨qD - 1, by omega⟩
    obtain ⟨qM, rfl⟩ : ∃ w, qM = w + 1 := ⟨qM - 1, by omega⟩
    have e : k = a := by omega
    subst e
    show Lk _ (f_BmpFiles_takeSingles_10 K _ (nI c) (nI col) (nI line) (nI w) (nI h) (nI (p + k)) (nI n) T palD ptsD (nI k) (nI ((h - 1 - line) * w + col)) (nI k)) (f_M_packedRows_188 K _ (nI n) (nI (p + k)) (nI w) (nI h) (nI c) palM ptsM TM (nI (col + k)) (nI line) (nI 0) (nI k) (nI k) (nI k))
    unfold f_M_packedRows_188 f_BmpFiles_takeSingles_10
    rw [if_pos (nI_le (by omega) (by omega)), if_pos (nI_le (by omega) (by omega))]
    exact Lk.yes ⟨_, _, rfl, rfl, hp, hA⟩
  | succ r ih =>
    intro k qD qM ptsD ptsM hk hq hq2 hp hA
    obtain ⟨qD, rfl⟩ : ∃ w, qD = w + 1 := ⟨qD - 1, by omega⟩
    obtain ⟨qM, rfl⟩ : ∃ w, qM = w + 1 := ⟨qM - 1, by omega⟩
    have tb := ht.2 (p + k)
    show Lk _ (f_BmpFiles_takeSingles_10 K _ (nI c) (nI col) (nI line) (nI w) (nI h) (nI (p + k)) (nI n) T palD ptsD (nI a) (nI ((h - 1 - line) * w + col)) (nI k)) (f_M_packedRows_188 K _ (nI n) (nI (p + k)) (nI w) (nI h) (nI c) palM ptsM TM (nI (col + k)) (nI line) (nI 0) (nI a) (nI a) (nI k))
    unfold f_M_packedRows_188 f_BmpFiles_takeSingles_10
    rw [if_neg (nI_ge (by omega) (by omega)), if_neg (nI_ge (by omega) (by omega)), if_pos (show nI 0 ≤ 0 by decide)]
    refine Lk.step (next_ex hp hn ht) (nextM_ex hp hn htM) (fun u => ⟨_, rfl⟩) (fun u => ⟨_, rfl⟩) (fun h1 => ?_)
    show Lk _ _ (f_M_packedRows_208 K _ (nI n) (nI (p + k + 1)) (nI w) (nI h) (nI c) palM ptsM TM (nI (col + k)) (nI line) (nI 0) (nI a) (nI a) (nI k) (nI (t (p + k))))
    unfold f_M_packedRows_208 f_M_packedRows_225
    by_cases hi : t (p + k) < c
    · rw [(colourOf_ex tb hc palD).1 hi, q_tryL, if_neg (nI_ge hi (by omega)), can1, q_tryL, if_pos (q_inb tb (by omega)), y0_ok hl, pk_mul, nI_add, if_pos (q_inb (by omega) (by omega)), nI_add, ← Nat.add_assoc, if_pos (q_inb (by omega) (by omega)), nI_clamp (by omega), nI_clamp (by omega), nI_1, nI_1]
      exact ih (k + 1) qD qM _ _ (by omega) (by omega) (by omega) (by omega) (Agr_u hA (hpal _ hi))
    · obtain ⟨u, hu⟩ := (colourOf_ex tb hc palD).2 hi
      rw [hu, q_tryR, if_pos (nI_le (by omega) (by omega)), can0, q_tryR]
      exact Lk.no ⟨_, rfl⟩ ⟨_, rfl⟩
theorem placeFor_ok {w h col line a : Nat} (hw : w ≤ 16384) (hh : h ≤ 16384) (ha : a < 256) (hc : col ≤ w) (hl : line ≤ h) : Ex (line < h ∧ col + a ≤ w) (nI ((h - 1 - line) * w + col), ()) (f_BmpFiles_placeFor (nI a) (nI col) (nI line) (nI w) (nI h)) := by
  unfold f_BmpFiles_placeFor f_BmpFiles_placeFor_28 f_BmpFiles_placeFor_29
  rw [pk_sub hc]
  constructor
  · intro q
    rw [if_neg (nI_ge q.1 (by omega)), if_neg (nI_nlt (by omega) (by omega)), need1, q_tryL, y0_ok q.1, pk_mul, nI_add]
  · intro q
    by_cases q1 : line < h
    · rw [if_neg (nI_ge q1 (by omega)), if_pos (nI_lt (by omega) (by omega)), need0, q_tryR]
      exact ⟨_, rfl⟩
    · rw [if_pos (nI_le (by omega) (by omega)), need0, q_tryR]
      exact ⟨_, rfl⟩
theorem odd_ok {a : Nat} (ha : a < 256) : nI a - nI a / 2 * 2 = nI (a % 2) := pk_rem (d := 2) (by omega) (by omega) (by omega)
theorem runs_L {K n w h c : Nat} {T TM palD palM : Nat → Int32} {t : Nat → Nat} (hK : 65536 < K) (hn : n ≤ 65536) (ht : Tb n T t) (htM : Tb n TM t) (hpal : Agr c palD palM) (hc : c ≤ 256) (hwh : w * h ≤ 16384) (hw0 : 0 < w) (hh0 : 0 < h) : ∀ (r p k qD qM col line : Nat) (ptsD ptsM : Nat → Int32), n - p ≤ r → r + 1 < qD → r < qM → p ≤ n → 2 * k ≤ p → col ≤ w → line ≤ h → Agr (w * h) ptsD ptsM → Lk (fun x y => ∃ col' line' p' D' M', x = (nI col', nI line', D', nI p', (1 : Int32)) ∧ y = (nI p', M') ∧ p' ≤ n ∧ Agr (w * h) D' M') (f_BmpFiles_takeRuns_L31 K (nI w) (nI h) (nI c) palD (nI n) T qD (nI col) (nI line) ptsD (nI p) 0 (nI k)) (f_M_packedRows_L37 K (nI n) (nI w) (nI h) (nI c) palM TM qM (nI p) ptsM (nI col) (nI line)) := by
  have hw : w ≤ 16384 := Nat.le_trans (Nat.le_mul_of_pos_right w hh0) hwh
  have hh : h ≤ 16384 := Nat.le_trans (Nat.le_mul_of_pos_left h hw0) hwh
  intro r
  induction r using Nat.strongRecOn with
  | _ r ih =>
    intro p k qD qM col line ptsD ptsM hr hqD hqM hp hk hcol hline hA
    obtain ⟨qD, rfl⟩ : ∃ w, qD = w + 1 := ⟨qD - 1, by omega⟩
    obtain ⟨qM, rfl⟩ : ∃ w, qM = w + 1 := ⟨qM - 1, by omega⟩
    have hgo : ∀ (p' col' line' : Nat) (D' M' : Nat → Int32), p + 2 ≤ p' → p' ≤ n → col' ≤ w → line' ≤ h → Agr (w * h) D' M' → Lk (fun x y => ∃ col' line' p' D' M', x = (nI col', nI line', D', nI p', (1 : Int32)) ∧ y = (nI p', M') ∧ p' ≤ n ∧ Agr (w * h) D' M') (f_BmpFiles_takeRuns_L31 K (nI w) (nI h) (nI c) palD (nI n) T qD (nI col') (nI line') D' (nI p') 0 (nI (k + 1))) (f_M_packedRows_L37 K (nI n) (nI w) (nI h) (nI c) palM TM qM (nI p') M' (nI col') (nI line')) := by
      intro p' col' line' D' M' h1 h2 h3 h4 h5
      exact ih (n - p') (by omega) p' (k + 1) qD qM col' line' D' M' (by omega) (by omega) (by omega) h2 (by omega) h3 h4 h5
    generalize eR : (fun (x : Int32 × Int32 × (Nat → Int32) × Int32 × Int32) (y : Int32 × (Nat → Int32)) => ∃ (col' line' p' : Nat) (D' M' : Nat → Int32), x = (nI col', nI line', D', nI p', (1 : Int32)) ∧ y = (nI p', M') ∧ p' ≤ n ∧ Agr (w * h) D' M') = R at hgo ⊢
    show Lk R (f_BmpFiles_takeRuns_31 K _ (nI w) (nI h) (nI c) (nI col) (nI line) palD ptsD (nI p) (nI n) T 0 (nI k)) (f_M_packedRows_37 K _ (nI n) (nI p) (nI w) (nI h) (nI c) palM ptsM TM (nI col) (nI line))
    unfold f_BmpFiles_takeRuns_31 f_M_packedRows_37
    rw [if_pos rfl, if_neg (show ¬ (65536 : Int32) ≤ nI k from show ¬ nI 65536 ≤ nI k from nI_ge (by omega) (by omega))]
    refine Lk.step (next_ex hp hn ht) (nextM_ex hp hn htM) (fun u => ⟨_, rfl⟩) (fun u => ⟨_, rfl⟩) (fun h1 => ?_)
    refine Lk.step (next_ex (show p + 1 ≤ n by omega) hn ht) (nextM_ex (show p + 1 ≤ n by omega) hn htM) (fun u => ⟨_, rfl⟩) (fun u => ⟨_, rfl⟩) (fun h2 => ?_)
    have ta := ht.2 p
    have tb := ht.2 (p + 1)
    generalize ea : t p = a at ta ⊢
    generalize eb : t (p + 1) = b at tb ⊢
    by_cases e0 : a = 0
    · subst e0
      rw [if_pos (show nI 0 ≤ 0 by decide), if_pos (show nI 0 = 0 from rfl)]
      by_cases e1 : b = 1
      · subst e1
        rw [if_pos (show nI 1 ≤ 2 by decide), if_pos (show nI 1 = 1 from rfl), if_pos (show nI 1 = 1 from rfl)]
        obtain ⟨qD, rfl⟩ : ∃ w, qD = w + 1 := ⟨qD - 1, by omega⟩
        show Lk R (f_BmpFiles_takeRuns_31 K ((f_BmpFiles_takeRuns_L31 K (nI w) (nI h) (nI c) palD (nI n) T) qD) (nI w) (nI h) (nI c) (nI col) (nI line) palD ptsD (nI (p + 1 + 1)) (nI n) T 1 (nI k + 1)) _
        unfold f_BmpFiles_takeRuns_31
        rw [if_neg (show ¬ (1 : Int32) = 0 by decide)]
        refine Lk.yes ?_
        rw [← eR]
        exact ⟨col, line, p + 1 + 1, ptsD, ptsM, rfl, rfl, by omega, hA⟩
      · by_cases e3 : b < 3
        · rw [if_pos (show nI b ≤ 2 from nI_le (b := 2) (by omega) (by omega)), if_neg (show ¬ nI b = 1 from fun q => e1 ((nI_eq32 (b := 1) (by omega) (by omega)).mp q)), if_neg (show ¬ nI b = 1 from fun q => e1 ((nI_eq32 (b := 1) (by omega) (by omega)).mp q))]
          unfold f_M_packedRows_59 f_M_packedRows_93 f_M_packedRows_87 f_BmpFiles_takeRuns_116 f_BmpFiles_takeMove
          rw [if_pos (show nI 0 = 0 from rfl), if_pos (show nI 0 = 0 from rfl), nI_1 line]
          by_cases e2 : b = 2
          · subst e2
            rw [if_pos (show nI 2 = 2 from rfl), if_neg (show ¬ (1 : Int32) = 0 by decide), if_neg (show ¬ nI 2 = 0 by decide), if_pos (show nI 2 = 2 from rfl), try_try]
            refine Lk.step (next_ex (show p + 1 + 1 ≤ n by omega) hn ht) (nextM_ex (show p + 1 + 1 ≤ n by omega) hn htM) (fun u => ⟨_, rfl⟩) (fun u => ⟨_, rfl⟩) (fun h3 => ?_)
            rw [try_try]
            refine Lk.step (next_ex (show p + 1 + 1 + 1 ≤ n by omega) hn ht) (nextM_ex (show p + 1 + 1 + 1 ≤ n by omega) hn htM) (fun u => ⟨_, rfl⟩) (fun u => ⟨_, rfl⟩) (fun h4 => ?_)
            have tc := ht.2 (p + 1 + 1)
            have td := ht.2 (p + 1 + 1 + 1)
            generalize t (p + 1 + 1) = dx at tc ⊢
            generalize t (p + 1 + 1 + 1) = dy at td ⊢
            unfold f_BmpFiles_takeMove_54 f_BmpFiles_takeMove_80 f_BmpFiles_takeMove_81 f_M_packedRows_138 f_M_packedRows_139
            rw [nI_add, nI_add]
            by_cases q1 : w < col + dx
            · rw [if_pos (nI_lt q1 (by omega)), if_pos (nI_lt q1 (by omega)), need0, can0, q_tryR, q_tryR]
              exact Lk.no ⟨_, rfl⟩ ⟨_, rfl⟩
            · by_cases q2 : h < line + dy
              · have q3 : ¬ nI w < nI (col + dx) := nI_nlt (by omega) (by omega)
                rw [if_neg q3, if_neg q3, if_pos (nI_lt q2 (by omega)), if_pos (nI_lt q2 (by omega)), need0, can0, q_tryR, q_tryR]
                exact Lk.no ⟨_, rfl⟩ ⟨_, rfl⟩
              · rw [if_neg (nI_nlt (by omega) (by omega)), if_neg (nI_nlt (by omega) (by omega)), if_neg (nI_nlt (by omega) (by omega)), if_neg (nI_nlt (by omega) (by omega)), need1, can1, q_tryL, q_tryL, q_tryL]
                unfold f_BmpFiles_takeRuns_119 f_M_packedRows_282
                rw [nI_1]
                exact hgo (p + 1 + 1 + 1 + 1) (col + dx) (line + dy) ptsD ptsM (by omega) (by omega) (by omega) (by omega) hA
          · have eb0 : b = 0 := by omega
            subst eb0
            rw [if_neg (show ¬ nI 0 = 2 by decide), if_pos (show (0 : Int32) = 0 from rfl), if_pos (show nI 0 = 0 from rfl)]
            unfold f_BmpFiles_takeMove_54 f_BmpFiles_takeMove_80 f_BmpFiles_takeMove_81
            rw [if_neg (show ¬ nI w < 0 from nI_pos (by omega))]
            by_cases q2 : h < line + 1
            · rw [if_pos (nI_lt q2 (by omega)), if_pos (nI_lt q2 (by omega)), need0, can0, q_tryR, q_tryR]
              exact Lk.no ⟨_, rfl⟩ ⟨_, rfl⟩
            · rw [if_neg (nI_nlt (by omega) (by omega)), if_neg (nI_nlt (by omega) (by omega)), need1, can1, q_tryL, q_tryL, q_tryL]
              unfold f_BmpFiles_takeRuns_119 f_M_packedRows_282
              rw [nI_1]
              exact hgo (p + 1 + 1) 0 (line + 1) ptsD ptsM (by omega) (by omega) (by omega) (by omega) hA
        · rw [if_neg (show ¬ nI b ≤ 2 from nI_ge (a := 2) (by omega) (by omega)), if_neg (show ¬ nI b = 1 from fun q => e1 ((nI_eq32 (b := 1) (by omega) (by omega)).mp q))]
          unfold f_M_packedRows_59 f_M_packedRows_93 f_M_packedRows_145 f_M_packedRows_155 f_M_packedRows_181 f_M_packedRows_182
          rw [if_pos (show nI 0 = 0 from rfl), if_neg (show ¬ nI b = 0 from nI_ne0 (by omega) (by omega)), if_pos (show nI 0 = 0 from rfl), if_neg (show ¬ nI b = 2 from fun q => by have := (nI_eq32 (b := 2) (by omega) (by omega)).mp q; omega), if_pos (show nI 0 ≤ 0 by decide), nI_add]
          unfold f_BmpFiles_takeSingles
          by_cases q1 : line < h ∧ col + b ≤ w
          · rw [(placeFor_ok hw hh tb hcol hline).1 q1, q_tryL, if_neg (nI_ge q1.1 (by omega)), if_neg (nI_nlt q1.2 (by omega)), can1, q_tryL, bind_elim, try_try]
            have hS := singles_L (K := K) hn ht htM hpal hc tb hwh hw0 q1.1 q1.2 b 0 K K ptsD ptsM (p := p + 1 + 1) (by omega) (by omega) (by omega) (by omega) hA
            rw [bind_elim]
            refine Lk.try hS (fun u => ⟨_, rfl⟩) (fun u => ⟨_, rfl⟩) (fun x y hxy => ?_)
            obtain ⟨D', M', rfl, rfl, hp', hA'⟩ := hxy
            rw [odd_ok tb, if_pos (show nI 0 = 0 from rfl), try_try, nI_add]
            unfold f_BmpFiles_takeRuns_119 f_M_packedRows_282
            rw [nI_1]
            by_cases o : b % 2 = 1
            · rw [if_pos (show nI (b % 2) = 1 by rw [o]; rfl), o]
              refine Lk.step (skip_ex (k := 1) hp' hn (by omega)) ((nextM_ex hp' hn htM).iff (by omega)) (fun u => ⟨_, rfl⟩) (fun u => ⟨_, rfl⟩) (fun h3 => ?_)
              exact hgo (p + 1 + 1 + b + 1) (col + b) line D' M' (by omega) (by omega) (by omega) (by omega) hA'
            · have o2 : b % 2 = 0 := by omega
              rw [o2, if_neg (show ¬ nI 0 = 1 by decide), (skip_ex (k := 0) hp' hn (by omega)).1 (by omega), q_tryL]
              exact hgo (p + 1 + 1 + b) (col + b) line D' M' (by omega) (by omega) (by omega) (by omega) hA'
          · obtain ⟨u, hu⟩ := (placeFor_ok hw hh tb hcol hline).2 q1
            rw [hu, q_tryR, q_tryR]
            refine Lk.no ⟨_, rfl⟩ ?_
            by_cases q2 : line < h
            · rw [if_neg (nI_ge q2 (by omega)), if_pos (nI_lt (by omega) (by omega)), can0, q_tryR]
              exact ⟨_, rfl⟩
            · rw [if_pos (nI_le (by omega) (by omega)), can0, q_tryR]
              exact ⟨_, rfl⟩
    · rw [if_neg (nge0 (by omega) ta), if_neg (show ¬ nI a = 0 from nI_ne0 (by omega) (by omega))]
      unfold f_M_packedRows_59 f_M_packedRows_93 f_M_packedRows_145 f_M_packedRows_155 f_M_packedRows_181 f_M_packedRows_182
      rw [if_neg (show ¬ nI a = 0 from nI_ne0 (by omega) (by omega)), if_neg (show ¬ nI a = 0 from nI_ne0 (by omega) (by omega)), if_neg (nge0 (by omega) ta), nI_add]
      unfold f_BmpFiles_takeRun
      by_cases q1 : line < h ∧ col + a ≤ w
      · have hin := row_in (w := w) (show h - 1 - line < h by omega)
        rw [(placeFor_ok hw hh ta hcol hline).1 q1, q_tryL, if_neg (nI_ge q1.1 (by omega)), if_neg (nI_nlt q1.2 (by omega)), can1, q_tryL]
        by_cases hbc : b < c
        · have hM := runM_L (K := K) (n := n) (p := p + 1 + 1) (TM := TM) (palM := palM) (pts0 := ptsM) tb hbc hc ta (by omega) hwh hw0 q1.1 q1.2 a 0 K (by omega) (by omega)
          rw [lyv_0] at hM
          rw [(colourOf_ex tb hc palD).1 hbc, q_tryL, nI_add, fill4_ok (by omega) (by omega) (by omega) (by omega), q_bind, q_tryL, bind_elim]
          have hM2 : (f_M_packedRows_L188 K (nI n) (nI w) (nI h) (nI c) palM TM (nI line) (nI a) (nI b) (nI a) K (nI (p + 1 + 1)) ptsM (nI col) 0) = _ := hM
          rw [hM2, q_tryL, if_neg (show ¬ nI a = 0 from nI_ne0 (by omega) (by omega)), nI_add]
          unfold f_BmpFiles_takeRuns_119 f_M_packedRows_282
          rw [nI_1]
          exact hgo (p + 1 + 1) (col + a) line _ _ (by omega) (by omega) (by omega) (by omega) (Agr_l hA (hpal b hbc))
        · obtain ⟨u, hu⟩ := (colourOf_ex tb hc palD).2 hbc
          rw [hu, q_tryR, q_tryR]
          refine Lk.no ⟨_, rfl⟩ ?_
          obtain ⟨v, hv⟩ := runM_no (K := K) (n := n) (w := w) (h := h) (c := c) (p := p + 1 + 1) (TM := TM) (palM := palM) (pts := ptsM) (col := col) (line := line) (q := K) (X1 := nI col) tb hbc ta (by omega) (by omega)
          have hv2 : (f_M_packedRows_L188 K (nI n) (nI w) (nI h) (nI c) palM TM (nI line) (nI a) (nI b) (nI a) K (nI (p + 1 + 1)) ptsM (nI col) 0) = _ := hv
          rw [hv2]
          exact ⟨_, rfl⟩
      · obtain ⟨u, hu⟩ := (placeFor_ok hw hh ta hcol hline).2 q1
        rw [hu, q_tryR, q_tryR]
        refine Lk.no ⟨_, rfl⟩ ?_
        by_cases q2 : line < h
        · rw [if_neg (nI_ge q2 (by omega)), if_pos (nI_lt (by omega) (by omega)), can0, q_tryR]
          exact ⟨_, rfl⟩
        · rw [if_pos (nI_le (by omega) (by omega)), can0, q_tryR]
          exact ⟨_, rfl⟩
theorem fillM_L {K n w h c : Nat} {TM palM : Nat → Int32} (hwh : w * h ≤ 16384) {AT : Int32} : ∀ (r k q : Nat) (pts : Nat → Int32), k + r = w * h → r < q → (f_M_packedRows_L2 K (nI n) AT (nI w) (nI h) (nI c) palM TM q (lyv pts 0 k (palM 0)) (nI k)) = some (lyv pts 0 (w * h) (palM 0)) := by
  intro r
  induction r with
  | zero =>
    intro k q pts hk hq
    obtain ⟨q, rfl⟩ : ∃ w, q = w + 1 := ⟨q - 1, by omega⟩
    have e : k = w * h := by omega
    show (f_M_packedRows_2 K _ (nI n) AT (nI w) (nI h) (nI c) palM (lyv pts 0 k (palM 0)) TM (nI k)) = _
    unfold f_M_packedRows_2
    rw [pk_mul, ← e, if_pos (nI_le (by omega) (by omega))]
  | succ r ih =>
    intro k q pts hk hq
    obtain ⟨q, rfl⟩ : ∃ w, q = w + 1 := ⟨q - 1, by omega⟩
    show (f_M_packedRows_2 K _ (nI n) AT (nI w) (nI h) (nI c) palM (lyv pts 0 k (palM 0)) TM (nI k)) = _
    unfold f_M_packedRows_2
    have hl := lyv_s pts 0 k (palM 0)
    rw [Nat.zero_add] at hl
    rw [pk_mul, if_neg (nI_ge (by omega) (by omega)), if_pos (show inb 0 256 = true by decide), if_pos (q_inb (by omega) (by omega)), nI_clamp (by omega), nI_1]
    show (f_M_packedRows_L2 K (nI n) AT (nI w) (nI h) (nI c) palM TM q (upd (lyv pts 0 k (palM 0)) k (palM 0)) (nI (k + 1))) = _
    rw [hl]
    exact ih (k + 1) q pts (by omega) (by omega)
theorem runs_ok {K n w h c p : Nat} {T TM palD palM : Nat → Int32} {t : Nat → Nat} (hK : 70000 < K) (hn : n ≤ 65536) (ht : Tb n T t) (htM : Tb n TM t) (hpal : Agr c palD palM) (hc : c ≤ 256) (hc0 : 0 < c) (hwh : w * h ≤ 16384) (hw0 : 0 < w) (hh0 : 0 < h) (hp : p ≤ n) (ptsD ptsM : Nat → Int32) (C L : Int32) : Lk (fun x y => ∃ col' line' p' D' M', x = ((), nI col', nI line', D', nI p') ∧ y = ((), nI p', M') ∧ p' ≤ n ∧ Agr (w * h) D' M') (f_BmpFiles_takeRuns K (nI w) (nI h) (nI c) C L palD ptsD (nI p) (nI n) T) (f_M_packedRows K (nI n) (nI p) (nI w) (nI h) (nI c) palM ptsM TM) := by
  unfold f_BmpFiles_takeRuns f_M_packedRows f_Picture_total
  have hM := fillM_L (K := K) (n := n) (c := c) (TM := TM) (palM := palM) (AT := nI p) hwh (w * h) 0 K ptsM (by omega) (by omega)
  rw [lyv_0] at hM
  have hM2 : (f_M_packedRows_L2 K (nI n) (nI p) (nI w) (nI h) (nI c) palM TM K ptsM 0) = _ := hM
  have hD := (colourOf_ex (i := 0) (c := c) (by omega) hc palD).1 hc0
  have hD2 : f_BmpFiles_colourOf 0 (nI c) palD = _ := hD
  rw [hM2, q_bind, q_bind, hD2, q_tryL, pk_mul, show (0 : Int32) = nI 0 from rfl, fill4_ok (by omega) hwh (by omega) (by omega), q_bind]
  have hA : Agr (w * h) (fun j => if 0 ≤ j ∧ j < w * h then palD 0 else ptsD j) (lyv ptsM 0 (w * h) (palM 0)) := by
    intro j hj
    show (if 0 ≤ j ∧ j < w * h then palD 0 else ptsD j) = (if 0 ≤ j ∧ j < 0 + w * h then palM 0 else ptsM j)
    rw [if_pos ⟨Nat.zero_le _, hj⟩, if_pos ⟨Nat.zero_le _, by omega⟩]
    exact hpal 0 hc0
  refine Lk.tryL (runs_L (K := K) (by omega) hn ht htM hpal hc hwh hw0 hh0 n p 0 K K 0 0 _ _ (by omega) (by omega) (by omega) hp (by omega) (by omega) (by omega) hA) (fun u => ⟨_, rfl⟩) (fun u => ⟨_, rfl⟩) (fun x y hxy => ?_)
  obtain ⟨col', line', p', D', M', rfl, rfl, hp', hA'⟩ := hxy
  unfold f_BmpFiles_takeRuns_125
  rw [need1, q_tryL]
  exact Lk.yes ⟨col', line', p', D', M', rfl, rfl, hp', hA'⟩
