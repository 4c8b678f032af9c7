/-! the pure half: a BMP file's colours and plain rows -/
def bc (t : Nat → Nat) (p : Nat) : Int32 := (((nI (t (p + 2)) <<< ((24 : Int32) &&& 31)) ||| (nI (t (p + 1)) <<< ((16 : Int32) &&& 31))) ||| (nI (t p) <<< ((8 : Int32) &&& 31))) ||| 255
theorem colour_ex {p n : Nat} (hp : p ≤ n) (hn : n ≤ 65536) {T : Nat → Int32} {t : Nat → Nat} (ht : Tb n T t) : Ex (p + 3 ≤ n) (bc t p, nI (p + 3)) (f_BmpFiles_takeColour (nI p) (nI n) T) := by
  unfold f_BmpFiles_takeColour
  refine Ex.gq (Gq.try (next_ex hp hn ht) (fun u => ⟨_, rfl⟩) (fun h => by omega) (fun h1 => ?_))
  refine Gq.try (next_ex (by omega) hn ht) (fun u => ⟨_, rfl⟩) (fun h => by omega) (fun h2 => ?_)
  refine Gq.try (next_ex (by omega) hn ht) (fun u => ⟨_, rfl⟩) (fun h => by omega) (fun h3 => ?_)
  exact Gq.yes (by omega) rfl
theorem palD_L {K n c p : Nat} (hn : n ≤ 65536) (hc : c ≤ 256) {T : Nat → Int32} {t : Nat → Nat} (ht : Tb n T t) : ∀ (r k q : Nat) (pal : Nat → Int32), k + r = c → r < q → p + 4 * k ≤ n → (∀ j, j < k → pal j = bc t (p + 4 * j)) → Gq (p + 4 * c ≤ n) (fun m => ∃ pal', m = some (.inl (nI (p + 4 * c), pal')) ∧ ∀ j, j < c → pal' j = bc t (p + 4 * j)) (f_BmpFiles_takeColours_L2 K (nI c) (nI n) T q (nI (p + 4 * k)) pal (nI k)) := by
  intro r
  induction r with
  | zero =>
    intro k q pal hk hq hp hI
    obtain ⟨q, rfl⟩ : ∃ w, q = w + 1 := ⟨q - 1, by omega⟩
    have e : k = c := by omega
    subst e
    refine Gq.yes hp ⟨pal, ?_, hI⟩
    show (f_BmpFiles_takeColours_2 K _ (nI k) (nI (p + 4 * k)) (nI n) T pal (nI k)) = _
    unfold f_BmpFiles_takeColours_2
    rw [if_pos (nI_le (by omega) (by omega))]
  | succ r ih =>
    intro k q pal hk hq hp hI
    obtain ⟨q, rfl⟩ : ∃ w, q = w + 1 := ⟨q - 1, by omega⟩
    show Gq _ _ (f_BmpFiles_takeColours_2 K _ (nI c) (nI (p + 4 * k)) (nI n) T pal (nI k))
    unfold f_BmpFiles_takeColours_2
    rw [if_neg (nI_ge (by omega) (by omega))]
    refine Gq.try (colour_ex hp hn ht) (fun u => ⟨_, rfl⟩) (fun h => by omega) (fun h1 => ?_)
    rw [if_pos (q_inb (by omega) (by omega)), nI_clamp (by omega), nI_1]
    refine Gq.try (skip_ex (k := 1) (by omega) hn (by omega)) (fun u => ⟨_, rfl⟩) (fun h => by omega) (fun h2 => ?_)
    have h3 := ih (k + 1) q (upd pal k (bc t (p + 4 * k))) (by omega) (by omega) (by omega) (fun j hj => by
      by_cases e : j = k
      · rw [e, upd_at]
      · rw [upd_ne _ _ e]; exact hI j (by omega))
    rw [show p + 4 * (k + 1) = p + 4 * k + 3 + 1 by omega] at h3
    exact h3
theorem palM_L {K n c p : Nat} (hn : n ≤ 65536) (hc : c ≤ 256) {T : Nat → Int32} {t : Nat → Nat} (ht : Tb n T t) {t_width : Int32} {t_height : Int32} {t_depth : Int32} {a_t_points : Nat → Int32} {x3 : Int64} {x7 : Int64} {x9 : Int64} : ∀ (r k q : Nat) (pal : Nat → Int32), k + r = c → r < q → p + 4 * k ≤ n → (∀ j, j < k → pal j = bc t (p + 4 * j)) → Gq (p + 4 * c ≤ n) (fun m => ∃ pal', m = some (.inl (nI (p + 4 * c), pal')) ∧ ∀ j, j < c → pal' j = bc t (p + 4 * j)) (f_M_readBmp_L384 K (nI n) t_width t_height t_depth (nI c) T a_t_points x3 x7 x9 q (nI (p + 4 * k)) pal (nI k)) := by
  intro r
  induction r with
  | zero =>
    intro k q pal hk hq hp hI
    obtain ⟨q, rfl⟩ : ∃ w, q = w + 1 := ⟨q - 1, by omega⟩
    have e : k = c := by omega
    subst e
    refine Gq.yes hp ⟨pal, ?_, hI⟩
    show (f_M_readBmp_384 K _ (nI n) (nI (p + 4 * k)) t_width t_height t_depth (nI k) T pal a_t_points x3 x7 x9 (nI k)) = _
    unfold f_M_readBmp_384
    rw [if_pos (nI_le (by omega) (by omega))]
  | succ r ih =>
    intro k q pal hk hq hp hI
    obtain ⟨q, rfl⟩ : ∃ w, q = w + 1 := ⟨q - 1, by omega⟩
    show Gq _ _ (f_M_readBmp_384 K _ (nI n) (nI (p + 4 * k)) t_width t_height t_depth (nI c) T pal a_t_points x3 x7 x9 (nI k))
    unfold f_M_readBmp_384
    rw [if_neg (nI_ge (by omega) (by omega))]
    refine Gq.try (nextM_ex hp hn ht) (fun u => ⟨_, rfl⟩) (fun h => by omega) (fun h1 => ?_)
    refine Gq.try (nextM_ex (by omega) hn ht) (fun u => ⟨_, rfl⟩) (fun h => by omega) (fun h2 => ?_)
    refine Gq.try (nextM_ex (by omega) hn ht) (fun u => ⟨_, rfl⟩) (fun h => by omega) (fun h3 => ?_)
    rw [if_pos (q_inb (by omega) (by omega)), nI_clamp (by omega), nI_1]
    refine Gq.try (nextM_ex (by omega) hn ht) (fun u => ⟨_, rfl⟩) (fun h => by omega) (fun h4 => ?_)
    have h5 := ih (k + 1) q (upd pal k (bc t (p + 4 * k))) (by omega) (by omega) (by omega) (fun j hj => by
      by_cases e : j = k
      · rw [e, upd_at]
      · rw [upd_ne _ _ e]; exact hI j (by omega))
    rw [show p + 4 * (k + 1) = p + 4 * k + 1 + 1 + 1 + 1 by omega] at h5
    exact h5
def d8 (d : Nat) : Prop := d = 1 ∨ d = 4 ∨ d = 8
/-- index x of a row that begins at p -/
def ib (t : Nat → Nat) (p d x : Nat) : Nat := t (p + x * d / 8) / 2 ^ (8 - d - x * d % 8) % 2 ^ d
theorem ib_lt {t : Nat → Nat} {p d x : Nat} (hd : d8 d) : ib t p d x < 256 := by
  have h : 2 ^ d ≤ 2 ^ 8 := Nat.pow_le_pow_right (by omega) (by rcases hd with rfl | rfl | rfl <;> omega)
  have h2 : ib t p d x < 2 ^ d := Nat.mod_lt _ (Nat.two_pow_pos d)
  omega
theorem mask_d {d : Nat} (hd : d8 d) : (((1 : Int32) <<< (nI d &&& 31)) - 1).toBitVec.toNat = 2 ^ d - 1 := by
  rcases hd with rfl | rfl | rfl <;> decide +kernel
theorem ix_ok {b s d : Nat} (hb : b < 256) (hs : s < 8) (hd : d8 d) : (nI b >>> (nI s &&& 31)) &&& (((1 : Int32) <<< (nI d &&& 31)) - 1) = nI (b / 2 ^ s % 2 ^ d) := by
  have h1 : b / 2 ^ s ≤ b := Nat.div_le_self _ _
  rw [pk_shrN (by omega) (nI s &&& 31) s (sh_amt s (by omega)), pk_andN (by omega) d (mask_d hd)]
theorem d8_key {d : Nat} (hd : d8 d) (x : Nat) : x * d % 8 + d ≤ 8 ∧ 1 ≤ d := by
  rcases hd with rfl | rfl | rfl <;> omega
/-- a row laid from val, the rest kept -/
def RW (pts0 : Nat → Int32) (y w : Nat) (val : Nat → Int32) (x : Nat) (pts : Nat → Int32) : Prop := (∀ k, k < x → pts (y * w + k) = val k) ∧ ∀ j, (j < y * w ∨ y * w + w ≤ j) → pts j = pts0 j
theorem RW_s {pts0 pts : Nat → Int32} {y w x : Nat} {val : Nat → Int32} (hx : x < w) (h : RW pts0 y w val x pts) : RW pts0 y w val (x + 1) (upd pts (y * w + x) (val x)) := by
  obtain ⟨h1, h2⟩ := h
  refine ⟨fun k hk => ?_, fun j hj => ?_⟩
  · by_cases e : k = x
    · rw [e, upd_at]
    · rw [upd_ne _ _ (by omega)]; exact h1 k (by omega)
  · rw [upd_ne _ _ (by omega)]; exact h2 j hj
theorem RW_0 (pts : Nat → Int32) (y w : Nat) (val : Nat → Int32) : RW pts y w val 0 pts := ⟨fun k hk => absurd hk (Nat.not_lt_zero _), fun _ _ => rfl⟩
theorem colourOf_ex {i c : Nat} (hi : i < 256) (hc : c ≤ 256) (pal : Nat → Int32) : Ex (i < c) (pal i, ()) (f_BmpFiles_colourOf (nI i) (nI c) pal) := by
  unfold f_BmpFiles_colourOf f_BmpFiles_colourOf_13
  constructor
  · intro h
    rw [if_neg (nI_ge h (by omega)), need1, q_tryL, if_pos (q_inb hi (by omega)), nI_clamp (by omega)]
  · intro h
    rw [if_pos (nI_le (by omega) (by omega)), need0, q_tryR]
    exact ⟨_, rfl⟩
theorem rowI_D {K n p d w h y c : Nat} (hn : n ≤ 65536) (hd : d8 d) (hc : c ≤ 256) (hwh : w * h ≤ 16384) (hy : y < h) {T : Nat → Int32} {t : Nat → Nat} (ht : Tb n T t) (pal pts0 : Nat → Int32) : ∀ (r x q : Nat) (pts : Nat → Int32) (x3 x4 : Int32), x + r = w → r < q → p + (x * d + 7) / 8 ≤ n → ((x * d % 8 = 0 ∧ x4 = 0) ∨ (x * d % 8 ≠ 0 ∧ x4 = nI (8 - x * d % 8) ∧ x3 = nI (t (p + x * d / 8)))) → (∀ k, k < x → ib t p d k < c) → RW pts0 y w (fun k => pal (ib t p d k)) x pts → Gq (p + (w * d + 7) / 8 ≤ n ∧ ∀ k, k < w → ib t p d k < c) (fun m => ∃ pts', m = some (.inl (nI (p + (w * d + 7) / 8), pts')) ∧ RW pts0 y w (fun k => pal (ib t p d k)) w pts') (f_BmpFiles_takeIndices_L8 K (nI w) (nI c) (nI d) (nI n) T pal (nI y) q (nI (p + (x * d + 7) / 8)) pts x3 x4 (nI x)) := by
  have hrow := row_in (w := w) hy
  intro r
  induction r with
  | zero =>
    intro x q pts x3 x4 hx hq hp h4 hix hI
    obtain ⟨q, rfl⟩ : ∃ w, q = w + 1 := ⟨q - 1, by omega⟩
    have e : x = w := by omega
    subst e
    refine Gq.yes ⟨hp, hix⟩ ⟨pts, ?_, hI⟩
    show (f_BmpFiles_takeIndices_8 K _ (nI x) (nI c) (nI d) (nI (p + (x * d + 7) / 8)) (nI n) T pal pts (nI y) x3 x4 (nI x)) = _
    unfold f_BmpFiles_takeIndices_8
    rw [if_pos (nI_le (by omega) (by omega))]
  | succ r ih =>
    intro x q pts x3 x4 hx hq hp h4 hix hI
    obtain ⟨q, rfl⟩ : ∃ w, q = w + 1 := ⟨q - 1, by omega⟩
    obtain ⟨k1, k2⟩ := d8_key hd x
    have hs1 : (x + 1) * d = x * d + d := Nat.succ_mul x d
    have hwd : x * d + d ≤ w * d := by rw [← hs1]; exact Nat.mul_le_mul_right d (by omega)
    have tb := ht.2 (p + x * d / 8)
    have h34 : p + x * d / 8 + 1 ≤ n → Gq (p + (w * d + 7) / 8 ≤ n ∧ ∀ k, k < w → ib t p d k < c) (fun m => ∃ pts', m = some (.inl (nI (p + (w * d + 7) / 8), pts')) ∧ RW pts0 y w (fun k => pal (ib t p d k)) w pts') (f_BmpFiles_takeIndices_34 K ((f_BmpFiles_takeIndices_L8 K (nI w) (nI c) (nI d) (nI n) T pal (nI y)) q) (nI w) (nI c) (nI d) (nI (p + x * d / 8 + 1)) (nI n) T pal pts (nI y) (nI (t (p + x * d / 8))) (nI (8 - x * d % 8)) (nI x)) := by
      intro hav
      unfold f_BmpFiles_takeIndices_34
      rw [pk_sub (show d ≤ 8 - x * d % 8 by omega), show 8 - x * d % 8 - d = 8 - d - x * d % 8 by omega, ix_ok tb (by omega) hd]
      refine Gq.try (colourOf_ex (ib_lt hd) hc pal) (fun u => ⟨_, rfl⟩) (fun h => h.2 x (by omega)) (fun h1 => ?_)
      rw [pk_mul, nI_add, if_pos (q_inb (by omega) (by omega)), nI_clamp (by omega), nI_1]
      have hr := ih (x + 1) q (upd pts (y * w + x) (pal (ib t p d x))) (nI (t (p + x * d / 8))) (nI (8 - d - x * d % 8)) (by omega) (by omega) (by rw [hs1]; omega) (by
        rw [hs1]
        by_cases e : x * d % 8 + d = 8
        · left
          refine ⟨by omega, ?_⟩
          rw [show 8 - d - x * d % 8 = 0 by omega]
          rfl
        · right
          refine ⟨by omega, ?_, ?_⟩
          · rw [show 8 - (x * d + d) % 8 = 8 - d - x * d % 8 by omega]
          · rw [show (x * d + d) / 8 = x * d / 8 by omega]) (fun k hk => by
        by_cases e : k = x
        · rw [e]; exact h1
        · exact hix k (by omega)) (RW_s (val := fun k => pal (ib t p d k)) (by omega) hI)
      rw [hs1, show p + (x * d + d + 7) / 8 = p + x * d / 8 + 1 by omega] at hr
      exact hr
    show Gq _ _ (f_BmpFiles_takeIndices_8 K _ (nI w) (nI c) (nI d) (nI (p + (x * d + 7) / 8)) (nI n) T pal pts (nI y) x3 x4 (nI x))
    unfold f_BmpFiles_takeIndices_8
    rw [if_neg (nI_ge (by omega) (by omega))]
    rcases h4 with ⟨e1, e2⟩ | ⟨e1, e2, e3⟩
    · rw [if_pos e2, show p + (x * d + 7) / 8 = p + x * d / 8 by omega]
      refine Gq.try (next_ex (by omega) hn ht) (fun u => ⟨_, rfl⟩) (fun h => by have := h.1; omega) (fun h1 => ?_)
      have h2 := h34 (by omega)
      rw [show 8 - x * d % 8 = 8 by omega] at h2
      exact h2
    · rw [e2, e3, if_neg (nI_ne0 (by omega) (by omega)), show p + (x * d + 7) / 8 = p + x * d / 8 + 1 by omega]
      exact h34 (by omega)
theorem rowI_M {K n p d w h y c : Nat} (hn : n ≤ 65536) (hd : d8 d) (hc : c ≤ 256) (hwh : w * h ≤ 16384) (hy : y < h) {T : Nat → Int32} {t : Nat → Nat} (ht : Tb n T t) (pal pts0 : Nat → Int32) (x2 : Int32) : ∀ (r x q : Nat) (pts : Nat → Int32) (x3 : Int32), x + r = w → r < q → p + (x * d + 7) / 8 ≤ n → (x * d % 8 ≠ 0 → x3 = nI (t (p + x * d / 8))) → (∀ k, k < x → ib t p d k < c) → RW pts0 y w (fun k => pal (ib t p d k)) x pts → Gq (p + (w * d + 7) / 8 ≤ n ∧ ∀ k, k < w → ib t p d k < c) (fun m => ∃ pts', m = some (.inl (nI (p + (w * d + 7) / 8), pts')) ∧ RW pts0 y w (fun k => pal (ib t p d k)) w pts') (f_M_plainRow_L10 K (nI n) (nI w) (nI d) (nI c) T pal (nI y) x2 q (nI (p + (x * d + 7) / 8)) pts x3 (nI x)) := by
  have hrow := row_in (w := w) hy
  have dle : d ≤ 8 := by rcases hd with rfl | rfl | rfl <;> omega
  intro r
  induction r with
  | zero =>
    intro x q pts x3 hx hq hp h4 hix hI
    obtain ⟨q, rfl⟩ : ∃ w, q = w + 1 := ⟨q - 1, by omega⟩
    have e : x = w := by omega
    subst e
    refine Gq.yes ⟨hp, hix⟩ ⟨pts, ?_, hI⟩
    show (f_M_plainRow_10 K _ (nI n) (nI (p + (x * d + 7) / 8)) (nI x) (nI d) (nI c) T pts pal (nI y) x2 x3 (nI x)) = _
    unfold f_M_plainRow_10
    rw [if_pos (nI_le (by omega) (by omega))]
  | succ r ih =>
    intro x q pts x3 hx hq hp h4 hix hI
    obtain ⟨q, rfl⟩ : ∃ w, q = w + 1 := ⟨q - 1, by omega⟩
    obtain ⟨k1, k2⟩ := d8_key hd x
    have hs1 : (x + 1) * d = x * d + d := Nat.succ_mul x d
    have hwd : x * d + d ≤ w * d := by rw [← hs1]; exact Nat.mul_le_mul_right d (by omega)
    have hxd : x * d < 2 ^ 31 := by
      have : x * d ≤ x * 8 := Nat.mul_le_mul_left x dle
      omega
    have tb := ht.2 (p + x * d / 8)
    have erem : nI x * nI d - nI x * nI d / 8 * 8 = nI (x * d % 8) := by
      rw [pk_mul]
      exact pk_rem (d := 8) hxd (by omega) (by omega)
    have h116 : p + x * d / 8 + 1 ≤ n → Gq (p + (w * d + 7) / 8 ≤ n ∧ ∀ k, k < w → ib t p d k < c) (fun m => ∃ pts', m = some (.inl (nI (p + (w * d + 7) / 8), pts')) ∧ RW pts0 y w (fun k => pal (ib t p d k)) w pts') (f_M_plainRow_116 K ((f_M_plainRow_L10 K (nI n) (nI w) (nI d) (nI c) T pal (nI y) x2) q) (nI n) (nI (p + x * d / 8 + 1)) (nI w) (nI d) (nI c) T pts pal (nI y) x2 (nI (t (p + x * d / 8))) (nI x) (nI (y * w + x))) := by
      intro hav
      have hil := ib_lt (t := t) (p := p) (x := x) hd
      unfold f_M_plainRow_116
      rw [erem, show (8 : Int32) - nI d = nI (8 - d) from pk_sub (a := 8) dle, pk_sub (show x * d % 8 ≤ 8 - d by omega), ix_ok tb (by omega) hd]
      show Gq _ _ (if nI c ≤ nI (ib t p d x) then _ else _)
      by_cases hi : ib t p d x < c
      · rw [if_neg (nI_ge hi (by omega))]
        unfold f_M_plainRow_162 f_M_plainRow_179
        show Gq _ _ (dc_try (f_M_can 1) (fun _ => if inb (nI (ib t p d x)) 256 = true then _ else none) _)
        rw [can1, q_tryL, if_pos (q_inb hil (by omega)), if_pos (q_inb (by omega) (by omega)), nI_clamp (by omega)]
        show Gq _ _ ((f_M_plainRow_L10 K (nI n) (nI w) (nI d) (nI c) T pal (nI y) x2) q (nI (p + x * d / 8 + 1)) (upd pts (y * w + x) (pal (nI (ib t p d x)).toNatClampNeg)) (nI (t (p + x * d / 8))) (nI x + 1))
        rw [nI_clamp (by omega), nI_1]
        have hr := ih (x + 1) q (upd pts (y * w + x) (pal (ib t p d x))) (nI (t (p + x * d / 8))) (by omega) (by omega) (by rw [hs1]; omega) (fun e => by
          rw [hs1] at e ⊢
          rw [show (x * d + d) / 8 = x * d / 8 by omega]) (fun k hk => by
          by_cases e : k = x
          · rw [e]; exact hi
          · exact hix k (by omega)) (RW_s (val := fun k => pal (ib t p d k)) (by omega) hI)
        rw [hs1, show p + (x * d + d + 7) / 8 = p + x * d / 8 + 1 by omega] at hr
        exact hr
      · rw [if_pos (nI_le (by omega) (by omega))]
        unfold f_M_plainRow_162
        rw [can0, q_tryR]
        exact Gq.no (fun h => hi (h.2 x (by omega))) ⟨_, rfl⟩
    show Gq _ _ (f_M_plainRow_10 K _ (nI n) (nI (p + (x * d + 7) / 8)) (nI w) (nI d) (nI c) T pts pal (nI y) x2 x3 (nI x))
    unfold f_M_plainRow_10
    rw [if_neg (nI_ge (by omega) (by omega)), if_pos (show nI d < 24 from show nI d < nI 24 from nI_lt (by omega) (by omega)), erem, pk_mul, nI_add]
    by_cases e1 : x * d % 8 = 0
    · rw [if_pos (show nI (x * d % 8) = 0 by rw [e1]; rfl), show p + (x * d + 7) / 8 = p + x * d / 8 by omega]
      refine Gq.try (nextM_ex (by omega) hn ht) (fun u => ⟨_, rfl⟩) (fun h => by have := h.1; omega) (fun h1 => ?_)
      exact h116 (by omega)
    · rw [if_neg (nI_ne0 (by omega) (by omega)), h4 e1, show p + (x * d + 7) / 8 = p + x * d / 8 + 1 by omega]
      exact h116 (by omega)
/-- the step of a row of whole points -/
def s3 (d : Nat) : Nat := if d = 32 then 4 else 3
theorem rowP_D {K n p d w h y : Nat} (hn : n ≤ 65536) (hd : d = 24 ∨ d = 32) (hwh : w * h ≤ 16384) (hy : y < h) {T : Nat → Int32} {t : Nat → Nat} (ht : Tb n T t) (pts0 : Nat → Int32) : ∀ (r x q : Nat) (pts : Nat → Int32), x + r = w → r < q → p + s3 d * x ≤ n → RW pts0 y w (fun k => bc t (p + s3 d * k)) x pts → Gq (p + s3 d * w ≤ n) (fun m => ∃ pts', m = some (.inl (nI (p + s3 d * w), pts')) ∧ RW pts0 y w (fun k => bc t (p + s3 d * k)) w pts') (f_BmpFiles_takePoints_L2 K (nI w) (nI d) (nI n) T (nI y) q (nI (p + s3 d * x)) pts (nI x)) := by
  have hrow := row_in (w := w) hy
  intro r
  induction r with
  | zero =>
    intro x q pts hx hq hp hI
    obtain ⟨q, rfl⟩ : ∃ w, q = w + 1 := ⟨q - 1, by omega⟩
    have e : x = w := by omega
    subst e
    refine Gq.yes hp ⟨pts, ?_, hI⟩
    show (f_BmpFiles_takePoints_2 K _ (nI x) (nI d) (nI (p + s3 d * x)) (nI n) T pts (nI y) (nI x)) = _
    unfold f_BmpFiles_takePoints_2
    rw [if_pos (nI_le (by omega) (by omega))]
  | succ r ih =>
    intro x q pts hx hq hp hI
    obtain ⟨q, rfl⟩ : ∃ w, q = w + 1 := ⟨q - 1, by omega⟩
    have hs1 : s3 d * (x + 1) = s3 d * x + s3 d := Nat.mul_succ _ _
    have hwd : s3 d * x + s3 d ≤ s3 d * w := by rw [← hs1]; exact Nat.mul_le_mul_left _ (by omega)
    have hr := ih (x + 1) q (upd pts (y * w + x) (bc t (p + s3 d * x))) (by omega) (by omega)
    rw [hs1] at hr
    show Gq _ _ (f_BmpFiles_takePoints_2 K _ (nI w) (nI d) (nI (p + s3 d * x)) (nI n) T pts (nI y) (nI x))
    unfold f_BmpFiles_takePoints_2 f_BmpFiles_takePoints_44
    rw [if_neg (nI_ge (by omega) (by omega))]
    rcases hd with rfl | rfl
    · have e3 : s3 24 = 3 := rfl
      rw [e3] at hr hp hI hwd ⊢
      refine Gq.try (colour_ex hp hn ht) (fun u => ⟨_, rfl⟩) (fun h => by omega) (fun h1 => ?_)
      rw [pk_mul, nI_add, if_pos (q_inb (by omega) (by omega)), if_neg (by decide), nI_clamp (by omega), nI_1]
      exact hr (by omega) (RW_s (val := fun k => bc t (p + 3 * k)) (by omega) hI)
    · have e3 : s3 32 = 4 := rfl
      rw [e3] at hr hp hI hwd ⊢
      refine Gq.try (colour_ex hp hn ht) (fun u => ⟨_, rfl⟩) (fun h => by omega) (fun h1 => ?_)
      rw [pk_mul, nI_add, if_pos (q_inb (by omega) (by omega)), if_pos (show nI 32 = 32 from rfl), nI_clamp (by omega), nI_1]
      refine Gq.try (skip_ex (k := 1) h1 hn (by omega)) (fun u => ⟨_, rfl⟩) (fun h => by omega) (fun h2 => ?_)
      exact hr (by omega) (RW_s (val := fun k => bc t (p + 4 * k)) (by omega) hI)
theorem rowP_M {K n p d w h y : Nat} (hn : n ≤ 65536) (hd : d = 24 ∨ d = 32) (hwh : w * h ≤ 16384) (hy : y < h) {T : Nat → Int32} {t : Nat → Nat} (ht : Tb n T t) (pal pts0 : Nat → Int32) (c x2 : Int32) : ∀ (r x q : Nat) (pts : Nat → Int32) (x3 : Int32), x + r = w → r < q → p + s3 d * x ≤ n → RW pts0 y w (fun k => bc t (p + s3 d * k)) x pts → Gq (p + s3 d * w ≤ n) (fun m => ∃ pts', m = some (.inl (nI (p + s3 d * w), pts')) ∧ RW pts0 y w (fun k => bc t (p + s3 d * k)) w pts') (f_M_plainRow_L10 K (nI n) (nI w) (nI d) c T pal (nI y) x2 q (nI (p + s3 d * x)) pts x3 (nI x)) := by
  have hrow := row_in (w := w) hy
  intro r
  induction r with
  | zero =>
    intro x q pts x3 hx hq hp hI
    obtain ⟨q, rfl⟩ : ∃ w, q = w + 1 := ⟨q - 1, by omega⟩
    have e : x = w := by omega
    subst e
    refine Gq.yes hp ⟨pts, ?_, hI⟩
    show (f_M_plainRow_10 K _ (nI n) (nI (p + s3 d * x)) (nI x) (nI d) c T pts pal (nI y) x2 x3 (nI x)) = _
    unfold f_M_plainRow_10
    rw [if_pos (nI_le (by omega) (by omega))]
  | succ r ih =>
    intro x q pts x3 hx hq hp hI
    obtain ⟨q, rfl⟩ : ∃ w, q = w + 1 := ⟨q - 1, by omega⟩
    have hs1 : s3 d * (x + 1) = s3 d * x + s3 d := Nat.mul_succ _ _
    have hwd : s3 d * x + s3 d ≤ s3 d * w := by rw [← hs1]; exact Nat.mul_le_mul_left _ (by omega)
    have hr := fun x3 => ih (x + 1) q (upd pts (y * w + x) (bc t (p + s3 d * x))) x3 (by omega) (by omega)
    rw [hs1] at hr
    show Gq _ _ (f_M_plainRow_10 K _ (nI n) (nI (p + s3 d * x)) (nI w) (nI d) c T pts pal (nI y) x2 x3 (nI x))
    unfold f_M_plainRow_10 f_M_plainRow_179
    rw [if_neg (nI_ge (by omega) (by omega))]
    rcases hd with rfl | rfl
    · have e3 : s3 24 = 3 := rfl
      rw [e3] at hr hp hI hwd ⊢
      rw [if_neg (by decide)]
      refine Gq.try (nextM_ex hp hn ht) (fun u => ⟨_, rfl⟩) (fun h => by omega) (fun h1 => ?_)
      refine Gq.try (nextM_ex (by omega) hn ht) (fun u => ⟨_, rfl⟩) (fun h => by omega) (fun h2 => ?_)
      refine Gq.try (nextM_ex (by omega) hn ht) (fun u => ⟨_, rfl⟩) (fun h => by omega) (fun h3 => ?_)
      rw [pk_mul, nI_add, if_pos (q_inb (by omega) (by omega)), if_neg (by decide), nI_clamp (by omega), nI_1]
      exact hr _ (by omega) (RW_s (val := fun k => bc t (p + 3 * k)) (by omega) hI)
    · have e3 : s3 32 = 4 := rfl
      rw [e3] at hr hp hI hwd ⊢
      rw [if_neg (by decide)]
      refine Gq.try (nextM_ex hp hn ht) (fun u => ⟨_, rfl⟩) (fun h => by omega) (fun h1 => ?_)
      refine Gq.try (nextM_ex (by omega) hn ht) (fun u => ⟨_, rfl⟩) (fun h => by omega) (fun h2 => ?_)
      refine Gq.try (nextM_ex (by omega) hn ht) (fun u => ⟨_, rfl⟩) (fun h => by omega) (fun h3 => ?_)
      rw [pk_mul, nI_add, if_pos (q_inb (by omega) (by omega)), if_pos (show nI 32 = 32 from rfl), nI_clamp (by omega), nI_1]
      refine Gq.try (nextM_ex (by omega) hn ht) (fun u => ⟨_, rfl⟩) (fun h => by omega) (fun h4 => ?_)
      exact hr _ (by omega) (RW_s (val := fun k => bc t (p + 4 * k)) (by omega) hI)
