/-! the pure half: writers; bytes are appended to a list of bytes -/
theorem bind_elim {α ε β : Type} (m : Option (α ⊕ ε)) (f : α → Option β) (g : ε → Option β) : dc_bind m (Sum.elim f g) = dc_try m f g := by
  cases m with
  | none => rfl
  | some x => cases x <;> rfl
def wr (b : Nat → Int32) (Y : List Int32) : Nat → Int32 := fun j => if j < Y.length then q_by ((Y[j]?).getD 0) else b j
theorem wr_nil (b : Nat → Int32) : wr b [] = b := by
  funext j
  show (if j < 0 then _ else _) = _
  rw [if_neg (by omega)]
theorem wr_lt (b : Nat → Int32) {Y : List Int32} {j : Nat} (h : j < Y.length) : wr b Y j = q_by ((Y[j]?).getD 0) := if_pos h
theorem wr_ge (b : Nat → Int32) {Y : List Int32} {j : Nat} (h : ¬ j < Y.length) : wr b Y j = b j := if_neg h
theorem wr_put (b : Nat → Int32) (Y : List Int32) (x : Int32) : upd (wr b Y) Y.length (q_by x) = wr b (Y ++ [q_by x]) := by
  funext j
  by_cases h : j = Y.length
  · subst h
    rw [upd_at, wr_lt _ (by rw [List.length_append]; exact Nat.lt_succ_self _), List.getElem?_append_right (Nat.le_refl _), Nat.sub_self]
    exact (q_byby x).symm
  · rw [upd_ne _ _ h]
    by_cases h2 : j < Y.length
    · rw [wr_lt _ h2, wr_lt _ (by rw [List.length_append]; omega), List.getElem?_append_left h2]
    · rw [wr_ge _ h2, wr_ge _ (by rw [List.length_append, List.length_singleton]; omega)]
theorem wr_upd (b : Nat → Int32) {Y : List Int32} {k : Nat} (hk : k < Y.length) (x : Int32) : upd (wr b Y) k (q_by x) = wr b (Y.set k (q_by x)) := by
  funext j
  by_cases h : j = k
  · subst h
    rw [upd_at, wr_lt _ (by rw [List.length_set]; exact hk), List.getElem?_set_self hk]
    exact (q_byby x).symm
  · rw [upd_ne _ _ h]
    by_cases h2 : j < Y.length
    · rw [wr_lt _ h2, wr_lt _ (by rw [List.length_set]; exact h2), List.getElem?_set_ne (Ne.symm h)]
    · rw [wr_ge _ h2, wr_ge _ (by rw [List.length_set]; exact h2)]
/-- X is appended to Y; or, if that is longer than N, it is refused -/
def Ap {α ε : Type} (N : Nat) (b : Nat → Int32) (Y X : List Int32) (mk : Int32 → (Nat → Int32) → α) (r : Option (α ⊕ (Nat × ε))) : Prop := ((Y ++ X).length ≤ N → r = some (.inl (mk (nI (Y ++ X).length) (wr b (Y ++ X))))) ∧ (N < (Y ++ X).length → ∃ u, r = some (.inr (4, u)))
theorem Ap.nil {α ε : Type} {N : Nat} {b : Nat → Int32} {Y : List Int32} {mk : Int32 → (Nat → Int32) → α} (h : Y.length ≤ N) : Ap (ε := ε) N b Y [] mk (some (.inl (mk (nI Y.length) (wr b Y)))) := by
  unfold Ap
  rw [List.append_nil]
  exact ⟨fun _ => rfl, fun h2 => absurd h2 (by omega)⟩
theorem Ap.seq {α α' ε ε' : Type} {N : Nat} {b : Nat → Int32} {Y X1 X2 : List Int32} {mk : Int32 → (Nat → Int32) → α} {mk' : Int32 → (Nat → Int32) → α'} {m : Option (α ⊕ (Nat × ε))} {f : α → Option (α' ⊕ (Nat × ε'))} {g : Nat × ε → Option (α' ⊕ (Nat × ε'))} (h : Ap N b Y X1 mk m) (hg : ∀ u, ∃ u', g (4, u) = some (.inr (4, u')))
    (hf : (Y ++ X1).length ≤ N → Ap N b (Y ++ X1) X2 mk' (f (mk (nI (Y ++ X1).length) (wr b (Y ++ X1))))) : Ap N b Y (X1 ++ X2) mk' (dc_try m f g) := by
  have e : Y ++ (X1 ++ X2) = (Y ++ X1) ++ X2 := (List.append_assoc _ _ _).symm
  unfold Ap
  rw [e]
  constructor
  · intro h1
    have h2 : (Y ++ X1).length ≤ N := by rw [List.length_append] at h1; omega
    rw [h.1 h2, q_tryL]
    exact (hf h2).1 h1
  · intro h1
    by_cases h2 : (Y ++ X1).length ≤ N
    · rw [h.1 h2, q_tryL]
      exact (hf h2).2 h1
    · obtain ⟨u, hu⟩ := h.2 (by omega)
      rw [hu, q_tryR]
      exact hg u
theorem Ap.seqL {α α' ε ε' : Type} {N : Nat} {b : Nat → Int32} {Y X1 X2 : List Int32} {mk : Int32 → (Nat → Int32) → α} {mk' : Int32 → (Nat → Int32) → α'} {m : Option (α ⊕ (Nat × ε))} {f : α → Option (α' ⊕ (Nat × ε'))} {g : Nat × ε → Option (α' ⊕ (Nat × ε'))} (h : Ap N b Y X1 mk m) (hg : ∀ u, ∃ u', g (4, u) = some (.inr (4, u')))
    (hf : (Y ++ X1).length ≤ N → Ap N b (Y ++ X1) X2 mk' (f (mk (nI (Y ++ X1).length) (wr b (Y ++ X1))))) : Ap N b Y (X1 ++ X2) mk' (dc_bind m (Sum.elim f g)) := by
  rw [bind_elim]
  exact Ap.seq h hg hf
theorem Ap.eq {α ε : Type} {N : Nat} {b : Nat → Int32} {Y X X' : List Int32} {mk : Int32 → (Nat → Int32) → α} {r : Option (α ⊕ (Nat × ε))} (h : Ap N b Y X mk r) (e : X = X') : Ap N b Y X' mk r := e ▸ h
theorem Ap.bnd {α β ε : Type} {N : Nat} {b : Nat → Int32} {Y X : List Int32} {mk : Int32 → (Nat → Int32) → α} {m : Option β} {a : β} {f : β → Option (α ⊕ (Nat × ε))} (h : m = some a) (hf : Ap N b Y X mk (f a)) : Ap N b Y X mk (dc_bind m f) := by
  rw [h, q_bind]
  exact hf
theorem Ap.le {α ε : Type} {N : Nat} {b : Nat → Int32} {Y X : List Int32} {mk : Int32 → (Nat → Int32) → α} {r : Option (α ⊕ (Nat × ε))} (h : Y.length ≤ N → Ap N b Y X mk r) (h2 : Y.length ≤ N) : Ap N b Y X mk r := h h2
def cat (g : Nat → List Int32) (k r : Nat) : List Int32 := (List.range' k r).flatMap g
theorem cat_s (g : Nat → List Int32) (k r : Nat) : cat g k (r + 1) = g k ++ cat g (k + 1) r := by
  unfold cat
  rw [List.range'_succ, List.flatMap_cons]
theorem Ap.up {ε : Type} {N c : Nat} {b : Nat → Int32} (F : Nat → Int32 → (Nat → Int32) → Int32 → Option ((Int32 × (Nat → Int32)) ⊕ (Nat × ε))) (g : Nat → List Int32) (hend : ∀ q n b, F (q + 1) n b (nI c) = some (.inl (n, b)))
    (hstep : ∀ q k Y X, k < c → Y.length ≤ N → ((Y ++ g k).length ≤ N → Ap N b (Y ++ g k) X Prod.mk (F q (nI (Y ++ g k).length) (wr b (Y ++ g k)) (nI (k + 1)))) → Ap N b Y (g k ++ X) Prod.mk (F (q + 1) (nI Y.length) (wr b Y) (nI k))) :
    ∀ (r k q : Nat) (Y : List Int32), k + r = c → r < q → Y.length ≤ N → Ap N b Y (cat g k r) Prod.mk (F q (nI Y.length) (wr b Y) (nI k)) := by
  intro r
  induction r with
  | zero =>
    intro k q Y hk hq hn
    obtain ⟨q, rfl⟩ : ∃ w, q = w + 1 := ⟨q - 1, by omega⟩
    have e : k = c := by omega
    subst e
    rw [hend]
    exact Ap.nil hn
  | succ r ih =>
    intro k q Y hk hq hn
    obtain ⟨q, rfl⟩ : ∃ w, q = w + 1 := ⟨q - 1, by omega⟩
    rw [cat_s]
    exact hstep q k Y _ (by omega) hn (fun h => ih (k + 1) q _ (by omega) (by omega) h)
def catd (g : Nat → List Int32) : Nat → List Int32
  | 0 => []
  | k + 1 => g k ++ catd g k
theorem Ap.dn {ε : Type} {N : Nat} {b : Nat → Int32} (F : Nat → Int32 → (Nat → Int32) → Int32 → Option ((Int32 × (Nat → Int32)) ⊕ (Nat × ε))) (g : Nat → List Int32) (hend : ∀ q n b, F (q + 1) n b (-1) = some (.inl (n, b))) {c : Nat}
    (hstep : ∀ q k Y X, k < c → Y.length ≤ N → ((Y ++ g k).length ≤ N → Ap N b (Y ++ g k) X Prod.mk (F q (nI (Y ++ g k).length) (wr b (Y ++ g k)) (nI k + (-1)))) → Ap N b Y (g k ++ X) Prod.mk (F (q + 1) (nI Y.length) (wr b Y) (nI k))) :
    ∀ (h q : Nat) (Y : List Int32), h ≤ c → h < q → Y.length ≤ N → Ap N b Y (catd g h) Prod.mk (F q (nI Y.length) (wr b Y) (nI h + (-1))) := by
  intro h
  induction h with
  | zero =>
    intro q Y hc hq hn
    obtain ⟨q, rfl⟩ : ∃ w, q = w + 1 := ⟨q - 1, by omega⟩
    rw [show nI 0 + (-1) = -1 from rfl, hend]
    exact Ap.nil hn
  | succ k ih =>
    intro q Y hc hq hn
    obtain ⟨q, rfl⟩ : ∃ w, q = w + 1 := ⟨q - 1, by omega⟩
    rw [pk_m1]
    exact hstep q k Y _ (by omega) hn (fun h => ih q _ (by omega) (by omega) h)
abbrev mkU : Int32 → (Nat → Int32) → Unit × (Int32 × (Nat → Int32)) := fun n b => ((), n, b)
theorem rt4 {α ε ε' : Type} {g : Nat × ε → Option (α ⊕ (Nat × ε'))} (f : ε → ε') (h : ∀ r, g r = some (.inr (r.1, f r.2))) : ∀ u, ∃ u', g (4, u) = some (.inr (4, u')) := fun u => ⟨f u, h (4, u)⟩
theorem put_ap {N : Nat} (b : Nat → Int32) {Y : List Int32} (x : Int32) (hn : Y.length ≤ N) (hN : N < 2 ^ 31) : Ap N b Y [q_by x] mkU (f_Sink_put N x (nI Y.length) (wr b Y)) := by
  unfold Ap f_Sink_put
  rw [List.length_append, List.length_singleton]
  constructor
  · intro h
    rw [if_pos (show nI Y.length < Int32.ofNat N from nI_lt (by omega) hN), if_pos (q_inb (by omega) hN), nI_clamp (by omega), nI_1, q_by2, wr_put]
  · intro h
    rw [if_neg (show ¬ nI Y.length < Int32.ofNat N from nI_nlt (by omega) (by omega))]
    exact ⟨_, rfl⟩
theorem putM_ap (b : Nat → Int32) {Y : List Int32} (x : Int32) (hn : Y.length ≤ 262144) : Ap 262144 b Y [q_by x] mkU (f_M_put x (nI Y.length) (wr b Y)) := by
  unfold Ap f_M_put
  rw [List.length_append, List.length_singleton]
  constructor
  · intro h
    rw [if_neg (show ¬ nI Y.length = 262144 from fun e => by have := (nI_eq (a := Y.length) (b := 262144) (by omega) (by omega)).mp e; omega), if_pos (q_inb (by omega) (by omega)), nI_clamp (by omega), nI_1, q_by2, wr_put]
  · intro h
    have e : Y.length = 262144 := by omega
    rw [e, if_pos (show nI 262144 = 262144 from rfl)]
    exact ⟨_, rfl⟩
/-- byte k of x, the lowest first -/
def Lb (x : Int32) (k : Nat) : Int32 := q_by (x >>> (nI (8 * k) &&& 31))
