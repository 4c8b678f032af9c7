/-! the pure half: LZW written -/
def b2 (x : Bool) : Int32 := cond x 1 0
def ec (cn : Nat) (cf : Bool) : Nat := if cf = false ∧ cn < 4096 then cn + 1 else cn
def ew (c w : Nat) : Nat := if c = 2 ^ w ∧ w < 12 then w + 1 else w
def D0 : Nat → Nat → Nat := fun _ _ => 0
def up2 (D : Nat → Nat → Nat) (a i v : Nat) : Nat → Nat → Nat := fun a' i' => if a' = a ∧ i' = i then v else D a' i'
def lzE (m cw : Nat) : List Bool := bo (nI (2 ^ m + 1)) 0 cw
def lz (m : Nat) (ix : Nat → Nat) : Nat → Nat → Nat → (Nat → Nat → Nat) → Nat → Nat → Nat → Bool → Bool → List Bool
  | 0, _, code, _, _, cw, cn, cf, fu => bo (nI code) 0 cw ++ (if fu = true then bo (nI (2 ^ m)) 0 (ew (ec cn cf) cw) ++ lzE m (m + 1) else lzE m (ew (ec cn cf) cw))
  | r + 1, k, code, D, nx, cw, cn, cf, fu => if D code (ix k) ≠ 0 then lz m ix r (k + 1) (D code (ix k)) D nx cw cn cf fu else bo (nI code) 0 cw ++ (if fu = true then bo (nI (2 ^ m)) 0 (ew (ec cn cf) cw) ++ lz m ix r (k + 1) (ix k) D0 (2 ^ m + 2) (m + 1) (2 ^ m + 2) true false else lz m ix r (k + 1) (ix k) (up2 D code (ix k) nx) (nx + 1) (ew (ec cn cf) cw) (ec cn cf) false (decide (nx = 4095)))
theorem lz_go {m r k code nx cw cn : Nat} {ix : Nat → Nat} {D : Nat → Nat → Nat} {cf fu : Bool} (h : D code (ix k) ≠ 0) : lz m ix (r + 1) k code D nx cw cn cf fu = lz m ix r (k + 1) (D code (ix k)) D nx cw cn cf fu := if_pos h
theorem lz_full {m r k code nx cw cn : Nat} {ix : Nat → Nat} {D : Nat → Nat → Nat} {cf : Bool} (h : D code (ix k) = 0) : lz m ix (r + 1) k code D nx cw cn cf true = bo (nI code) 0 cw ++ (bo (nI (2 ^ m)) 0 (ew (ec cn cf) cw) ++ lz m ix r (k + 1) (ix k) D0 (2 ^ m + 2) (m + 1) (2 ^ m + 2) true false) := (if_neg (fun q => q h)).trans rfl
theorem lz_add {m r k code nx cw cn : Nat} {ix : Nat → Nat} {D : Nat → Nat → Nat} {cf : Bool} (h : D code (ix k) = 0) : lz m ix (r + 1) k code D nx cw cn cf false = bo (nI code) 0 cw ++ lz m ix r (k + 1) (ix k) (up2 D code (ix k) nx) (nx + 1) (ew (ec cn cf) cw) (ec cn cf) false (decide (nx = 4095)) := (if_neg (fun q => q h)).trans rfl
def LI (m nx cw cn : Nat) (fu : Bool) (D : Nat → Nat → Nat) : Prop := 2 ^ m + 2 ≤ nx ∧ nx ≤ 4096 ∧ (fu = true ↔ nx = 4096) ∧ cw ≤ 12 ∧ cn ≤ 4096 ∧ ∀ a i, D a i < nx
theorem ec_le {cn : Nat} (h : cn ≤ 4096) (cf : Bool) : ec cn cf ≤ 4096 := by
  unfold ec
  by_cases c : cf = false ∧ cn < 4096
  · rw [if_pos c]; omega
  · rw [if_neg c]; exact h
theorem ew_le (c : Nat) {w : Nat} (h : w ≤ 12) : ew c w ≤ 12 := by
  unfold ew
  by_cases q : c = 2 ^ w ∧ w < 12
  · rw [if_pos q]; omega
  · rw [if_neg q]; exact h
theorem m_pow {m : Nat} (h : m ≤ 8) : 2 ^ m ≤ 256 := Nat.pow_le_pow_right (by omega) h
theorem LI_0 {m : Nat} (hm : m ≤ 8) : LI m (2 ^ m + 2) (m + 1) (2 ^ m + 2) false D0 := by
  have := m_pow hm
  have hp0 : 0 < 2 ^ m := Nat.two_pow_pos m
  refine ⟨Nat.le_refl _, by omega, ⟨fun h => absurd h (by decide), fun h => absurd h (by omega)⟩, by omega, by omega, fun a i => ?_⟩
  exact Nat.succ_pos _
theorem LI_add {m nx cw cn : Nat} {D : Nat → Nat → Nat} (h : LI m nx cw cn false D) (cf : Bool) (a i : Nat) : LI m (nx + 1) (ew (ec cn cf) cw) (ec cn cf) (decide (nx = 4095)) (up2 D a i nx) := by
  obtain ⟨h1, h2, h3, h4, h5, h6⟩ := h
  have hne : nx ≠ 4096 := fun e => absurd (h3.mpr e) (by decide)
  refine ⟨by omega, by omega, ⟨fun h => ?_, fun h => decide_eq_true (by omega)⟩, ew_le _ h4, ec_le h5 cf, fun a' i' => ?_⟩
  · have := of_decide_eq_true h
    omega
  · unfold up2
    by_cases c : a' = a ∧ i' = i
    · rw [if_pos c]; omega
    · rw [if_neg c]; have := h6 a' i'; omega
theorem lz_len {m : Nat} (hm : m ≤ 8) (ix : Nat → Nat) : ∀ (r k code : Nat) (D : Nat → Nat → Nat) (nx cw cn : Nat) (cf fu : Bool), LI m nx cw cn fu D → (lz m ix r k code D nx cw cn cf fu).length ≤ 12 * (r + 3) + 12 * ((r + nx - 258) / 3838) := by
  have hp := m_pow hm
  have hp0 : 0 < 2 ^ m := Nat.two_pow_pos m
  intro r
  induction r with
  | zero =>
    intro k code D nx cw cn cf fu h
    have hw := ew_le (ec cn cf) h.2.2.2.1
    have h4 := h.2.2.2.1
    show (bo (nI code) 0 cw ++ _).length ≤ _
    cases fu
    · show (bo (nI code) 0 cw ++ bo _ 0 _).length ≤ _
      rw [List.length_append, bo_len, bo_len]
      omega
    · show (bo (nI code) 0 cw ++ (bo _ 0 _ ++ bo _ 0 _)).length ≤ _
      rw [List.length_append, List.length_append, bo_len, bo_len, bo_len]
      omega
  | succ r ih =>
    intro k code D nx cw cn cf fu h
    by_cases c : D code (ix k) = 0
    · cases fu
      · rw [lz_add c, List.length_append, bo_len]
        have := ih (k + 1) (ix k) _ _ _ _ false _ (LI_add h cf code (ix k))
        have h4 := h.2.2.2.1
        rw [show r + (nx + 1) - 258 = r + 1 + nx - 258 by omega] at this
        omega
      · rw [lz_full c, List.length_append, List.length_append, bo_len, bo_len]
        have := ih (k + 1) (ix k) D0 _ _ _ true false (LI_0 hm)
        have hw := ew_le (ec cn cf) h.2.2.2.1
        have h4 := h.2.2.2.1
        have hnx : nx = 4096 := h.2.2.1.mp rfl
        have e1 : (r + (2 ^ m + 2) - 258) / 3838 ≤ r / 3838 := Nat.div_le_div_right (by omega)
        have e2 : (r + 1 + nx - 258) / 3838 = (r + 1) / 3838 + 1 := by
          rw [hnx, show r + 1 + 4096 - 258 = r + 1 + 3838 by omega, Nat.add_div_right _ (by omega)]
        have e3 : r / 3838 ≤ (r + 1) / 3838 := Nat.div_le_div_right (by omega)
        omega
    · rw [lz_go c]
      have := ih (k + 1) (D code (ix k)) D nx cw cn cf fu h
      have e3 : (r + nx - 258) / 3838 ≤ (r + 1 + nx - 258) / 3838 := Nat.div_le_div_right (by omega)
      omega
/-- all bits, filled up to bytes -/
def Zf (Y : List Int32) (S : List Bool) : List Int32 := (Y ++ byt S) ++ bytz (rst S)
theorem Zf_step (Y : List Int32) (R B1 B2 : List Bool) : Zf Y (R ++ (B1 ++ B2)) = Zf (Y ++ byt (R ++ B1)) (rst (R ++ B1) ++ B2) := by
  unfold Zf
  rw [← List.append_assoc R B1 B2, byt_a (R ++ B1) B2, ret_a (R ++ B1) B2, ← List.append_assoc Y]
theorem Zf_le (Y : List Int32) (S : List Bool) : Y.length ≤ (Zf Y S).length := by
  unfold Zf
  rw [List.length_append, List.length_append]
  omega
theorem Zf_le2 (Y : List Int32) (R B1 B2 : List Bool) : (Y ++ byt (R ++ B1)).length ≤ (Zf Y (R ++ (B1 ++ B2))).length := by
  rw [Zf_step]
  exact Zf_le _ _
theorem Zf_len (Y : List Int32) (S : List Bool) : (Zf Y S).length ≤ Y.length + S.length / 8 + 1 := by
  unfold Zf bytz
  rw [List.length_append, List.length_append, byt_len]
  by_cases c : (rst S).length = 0
  · rw [if_pos c]; show _ + 0 ≤ _; omega
  · rw [if_neg c]; show _ + 1 ≤ _; omega
theorem ret8 (S : List Bool) : (rst S).length < 8 := by
  rw [ret_len]
  omega
theorem try_try {α ε β ε' γ : Type} (m : Option (α ⊕ ε)) (f : α → Option (β ⊕ ε')) (g : ε → Option (β ⊕ ε')) (F : β → Option γ) (G : ε' → Option γ) : dc_try (dc_try m f g) F G = dc_try m (fun a => dc_try (f a) F G) (fun e => dc_try (g e) F G) := by
  cases m with
  | none => rfl
  | some x => cases x <;> rfl
/-! the class's rows: chains of longer ones -/
def chn (os : Nat → Int32) (nx : Nat) : Int32 → List Nat → Prop
  | p, [] => p = -1
  | p, c :: l => p = nI c ∧ 0 < c ∧ c < nx ∧ chn os nx (os c) l
def fd (li : Nat → Int32) : List Nat → Nat → Nat
  | [], _ => 0
  | c :: l, i => if li c = nI i then c else fd li l i
theorem chn_upd {os : Nat → Int32} {nx : Nat} (v : Int32) : ∀ (l : List Nat) (p : Int32), chn os nx p l → chn (upd os nx v) (nx + 1) p l := by
  intro l
  induction l with
  | nil => intro p h; exact h
  | cons c l ih =>
    intro p h
    obtain ⟨h1, h2, h3, h4⟩ := h
    refine ⟨h1, h2, by omega, ?_⟩
    rw [upd_ne _ _ (by omega)]
    exact ih _ h4
theorem fd_upd {os li : Nat → Int32} {nx : Nat} (v : Int32) (i : Nat) : ∀ (l : List Nat) (p : Int32), chn os nx p l → fd (upd li nx v) l i = fd li l i := by
  intro l
  induction l with
  | nil => intro p h; rfl
  | cons c l ih =>
    intro p h
    obtain ⟨h1, h2, h3, h4⟩ := h
    show (if upd li nx v c = nI i then c else fd (upd li nx v) l i) = if li c = nI i then c else fd li l i
    rw [upd_ne _ _ (by omega), ih _ h4]
theorem cz_le (f : Nat → Int32) : ∀ n, cz f n ≤ n := by
  intro n
  induction n with
  | zero => exact Nat.le_refl _
  | succ n ih =>
    show cz f n + (if f n = 0 then 0 else 1) ≤ n + 1
    by_cases c : f n = 0
    · rw [if_pos c]; omega
    · rw [if_neg c]; omega
def CR (nx : Nat) (D : Nat → Nat → Nat) (nl li os : Nat → Int32) : Prop := ∃ ch : Nat → List Nat, ∀ a, a < 4096 → chn os nx (nl a) (ch a) ∧ (∀ i, i < 256 → D a i = fd li (ch a) i) ∧ (ch a).length = cz (fun i => nI (D a i)) 256
theorem CR_0 {nl : Nat → Int32} (nx : Nat) (li os : Nat → Int32) (h : ∀ a, a < 4096 → nl a = -1) : CR nx D0 nl li os := by
  refine ⟨fun _ => [], fun a ha => ⟨h a ha, fun i _ => rfl, ?_⟩⟩
  exact (cz_zero _ 256 (fun i _ => rfl)).symm
theorem CR_add {nx a i : Nat} {D : Nat → Nat → Nat} {nl li os : Nat → Int32} (h : CR nx D nl li os) (ha : a < 4096) (hi : i < 256) (h0 : 0 < nx) (hnx : nx < 4096) (hD : D a i = 0) : CR (nx + 1) (up2 D a i nx) (upd nl a (nI nx)) (upd li nx (nI i)) (upd os nx (nl a)) := by
  obtain ⟨ch, hc⟩ := h
  refine ⟨fun a' => if a' = a then nx :: ch a else ch a', fun a' ha' => ?_⟩
  show chn (upd os nx (nl a)) (nx + 1) (upd nl a (nI nx) a') (if a' = a then nx :: ch a else ch a') ∧ (∀ i_1, i_1 < 256 → up2 D a i nx a' i_1 = fd (upd li nx (nI i)) (if a' = a then nx :: ch a else ch a') i_1) ∧ (if a' = a then nx :: ch a else ch a').length = cz (fun i_1 => nI (up2 D a i nx a' i_1)) 256
  by_cases e : a' = a
  · subst e
    obtain ⟨h1, h2, h3⟩ := hc a' ha'
    rw [if_pos rfl]
    refine ⟨?_, fun i' hi' => ?_, ?_⟩
    · rw [upd_at]
      refine ⟨rfl, h0, by omega, ?_⟩
      rw [upd_at]
      exact chn_upd _ _ _ h1
    · show up2 D a' i nx a' i' = if upd li nx (nI i) nx = nI i' then nx else fd (upd li nx (nI i)) (ch a') i'
      rw [upd_at, fd_upd _ _ _ _ h1, ← h2 i' hi']
      unfold up2
      by_cases e2 : i' = i
      · rw [if_pos ⟨rfl, e2⟩, if_pos (by rw [e2])]
      · rw [if_neg (fun q => e2 q.2), if_neg (fun q => e2 ((nI_eq (by omega) (by omega)).mp q).symm)]
    · have ef : (fun i' => nI (up2 D a' i nx a' i')) = upd (fun i' => nI (D a' i')) i (nI nx) := by
        funext i'
        unfold up2
        by_cases e2 : i' = i
        · rw [if_pos ⟨rfl, e2⟩, e2, upd_at]
        · rw [if_neg (fun q => e2 q.2), upd_ne _ _ e2]
      rw [ef, cz_upd _ (by rw [hD]; rfl) (nI_ne0 h0 (by omega)) 256 hi, List.length_cons, h3]
  · obtain ⟨h1, h2, h3⟩ := hc a' ha'
    rw [if_neg e, upd_ne _ _ e]
    have eD : ∀ i', up2 D a i nx a' i' = D a' i' := fun i' => if_neg (fun q => e q.1)
    refine ⟨chn_upd _ _ _ h1, fun i' hi' => ?_, ?_⟩
    · rw [eD, fd_upd _ _ _ _ h1]
      exact h2 i' hi'
    · rw [h3]
      congr 1
      funext i'
      rw [eD]
theorem longer_L {K nx i : Nat} (nl : Nat → Int32) {li os : Nat → Int32} (hnx : nx ≤ 4096) : ∀ (l : List Nat) (p : Int32) (t q : Nat), chn os nx p l → t + l.length ≤ 256 → l.length < q → f_GifWriter_longerRow_L10 K nl li os (nI i) q p (nI t) = some (if fd li l i = 0 then .inr () else .inl (nI (fd li l i))) := by
  intro l
  induction l with
  | nil =>
    intro p t q h ht hq
    obtain ⟨q, rfl⟩ : ∃ w, q = w + 1 := ⟨q - 1, by omega⟩
    show f_GifWriter_longerRow_10 K _ nl li os (nI i) p (nI t) = _
    unfold f_GifWriter_longerRow_10
    rw [if_pos (show fd li [] i = 0 from rfl)]
    by_cases c : (256 : Int32) ≤ nI t
    · rw [if_pos c]
    · rw [if_neg c, if_pos (show p = -1 from h)]
  | cons c l ih =>
    intro p t q h ht hq
    obtain ⟨q, rfl⟩ : ∃ w, q = w + 1 := ⟨q - 1, by omega⟩
    obtain ⟨h1, h2, h3, h4⟩ := h
    rw [List.length_cons] at ht hq
    show f_GifWriter_longerRow_10 K _ nl li os (nI i) p (nI t) = _
    have e0 : fd li (c :: l) i = if li c = nI i then c else fd li l i := rfl
    rw [e0]
    have hm1 : ¬ nI c = -1 := fun e => by
      have h5 := nI_pos (n := c) (by omega)
      rw [e] at h5
      exact h5 (by decide)
    unfold f_GifWriter_longerRow_10
    rw [h1, if_neg (show ¬ (256 : Int32) ≤ nI t from show ¬ nI 256 ≤ nI t from nI_ge (by omega) (by omega)), if_neg hm1, if_pos (q_inb (by omega) (by omega)), nI_clamp (by omega)]
    by_cases e : li c = nI i
    · rw [if_pos e, if_pos e, if_neg (by omega)]
    · rw [if_neg e, if_neg e, if_pos (q_inb (by omega) (by omega)), nI_1]
      exact ih (os c) (t + 1) q h4 (by omega) (by omega)
def lg (D : Nat → Nat → Nat) (a i : Nat) : Int32 := if D a i = 0 then -1 else nI (D a i)
theorem longer_ok {K nx a i : Nat} {D : Nat → Nat → Nat} {nl li os : Nat → Int32} (hK : 300 < K) (hnx : nx ≤ 4096) (h : CR nx D nl li os) (ha : a < 4096) (hi : i < 256) : f_GifWriter_longerRow K (nI a) (nI i) nl li os = some (lg D a i, ()) := by
  obtain ⟨ch, hc⟩ := h
  obtain ⟨h1, h2, h3⟩ := hc a ha
  have hl := cz_le (fun i => nI (D a i)) 256
  unfold f_GifWriter_longerRow lg
  rw [if_pos (q_inb ha (by omega)), nI_clamp (by omega), show f_GifWriter_longerRow_L10 K nl li os (nI i) K (nl a) 0 = _ from longer_L (nx := nx) nl hnx (ch a) (nl a) 0 K h1 (by omega) (by omega), q_bind, ← h2 i hi]
  by_cases c : D a i = 0
  · rw [if_pos c, if_pos c]; rfl
  · rw [if_neg c, if_neg c]; rfl
/-! the class's codes -/
theorem pow_sh : ∀ w, w ≤ 12 → (1 : Int32) <<< (nI w &&& 31) = nI (2 ^ w) := by decide +kernel
theorem code39 {K cw c : Nat} (hcw : cw ≤ 12) (hc : c ≤ 4096) (f : Int32) (n s h : Int32) (o : Nat → Int32) : (f_GifWriter_putCode_39 K 32768 (nI cw) (nI c) f n s h o) = some (.inl ((), nI (ew c cw), nI c, 0, n, s, h, o)) := by
  have hp : 2 ^ cw ≤ 2 ^ 12 := Nat.pow_le_pow_right (by omega) hcw
  unfold f_GifWriter_putCode_39 f_GifWriter_putCode_76 ew
  rw [pow_sh cw hcw]
  by_cases e : c = 2 ^ cw
  · rw [if_pos (by rw [e])]
    by_cases e2 : cw < 12
    · rw [if_neg (show ¬ (12 : Int32) ≤ nI cw from show ¬ nI 12 ≤ nI cw from nI_ge e2 (by omega)), if_pos ⟨e, e2⟩, nI_1]
    · rw [if_pos (show (12 : Int32) ≤ nI cw from show nI 12 ≤ nI cw from nI_le (by omega) (by omega)), if_neg (fun q => e2 q.2)]
  · rw [if_neg (fun q => e ((nI_eq (by omega) (by omega)).mp q)), if_neg (fun q => e q.1)]
theorem putCode_eq {K cw cn code : Nat} (cf : Bool) (hcw : cw ≤ 12) (hcn : cn ≤ 4096) {a : Unit × (Int32 × Int32 × Int32 × (Nat → Int32))} {n s h : Int32} {o : Nat → Int32} (hp : f_Sink_putBits K 32768 (nI code) (nI cw) n s h o = some (.inl a)) : f_GifWriter_putCode K 32768 (nI code) (nI cw) (nI cn) (b2 cf) n s h o = some (.inl ((), nI (ew (ec cn cf) cw), nI (ec cn cf), 0, a.2.1, a.2.2.1, a.2.2.2.1, a.2.2.2.2)) := by
  unfold f_GifWriter_putCode ec
  rw [hp, q_tryL]
  cases cf
  · rw [if_pos (show b2 false = 0 from rfl)]
    by_cases c : cn < 4096
    · rw [if_neg (show ¬ (4096 : Int32) ≤ nI cn from show ¬ nI 4096 ≤ nI cn from nI_ge c (by omega)), nI_1, code39 hcw (by omega), if_pos ⟨rfl, c⟩]
    · rw [if_pos (show (4096 : Int32) ≤ nI cn from show nI 4096 ≤ nI cn from nI_le (by omega) (by omega)), code39 hcw (by omega), if_neg (fun q => c q.2)]
  · rw [if_neg (show ¬ b2 true = 0 by decide), code39 hcw (by omega), if_neg (fun q => absurd q.1 (by decide))]
theorem begin_eq {K m cw : Nat} (hK : 4097 < K) (hm : m ≤ 8) (x1 x3 : Int32) {a : Unit × (Int32 × Int32 × Int32 × (Nat → Int32))} {n s h : Int32} {o nl : Nat → Int32} (f : Int32) (hp : f_Sink_putBits K 32768 (nI (2 ^ m)) (nI cw) n s h o = some (.inl a)) : ∃ nl', (∀ j, j < 4096 → nl' j = -1) ∧ f_GifWriter_putBeginning K 32768 (nI m) x1 (nI cw) x3 f n s h o nl = some (.inl ((), nI (2 ^ m + 2), nI (m + 1), nI (2 ^ m + 2), 1, a.2.1, a.2.2.1, a.2.2.2.1, a.2.2.2.2, nl')) := by
  refine ⟨fun j => if j < 4096 then -1 else nl j, fun j hj => if_pos hj, ?_⟩
  unfold f_GifWriter_putBeginning
  rw [pow_sh m (by omega), hp, q_tryL, fill2_ok (by omega) (by omega), q_bind, nI_1, show nI (2 ^ m) + 2 = nI (2 ^ m + 2) from nI_add _ 2]
def pkC (K : Nat) (m : Int32) (v_143 : Int32 × Int32 × Int32 × Int32 × Int32 × Int32 × Int32 × (Nat → Int32) × (Nat → Int32) × (Nat → Int32) × (Nat → Int32)) : Option ((Unit × (Int32 × Int32 × Int32 × Int32 × Int32 × Int32 × Int32 × (Nat → Int32) × (Nat → Int32) × (Nat → Int32) × (Nat → Int32))) ⊕ (Nat × (Int32 × Int32 × Int32 × Int32 × Int32 × Int32 × Int32 × (Nat → Int32) × (Nat → Int32) × (Nat → Int32) × (Nat → Int32)))) := dc_try (f_Sink_putBits K 32768 (((1 : Int32) <<< (m &&& 31)) + 1) v_143.2.1 v_143.2.2.2.2.1 v_143.2.2.2.2.2.1 v_143.2.2.2.2.2.2.1 v_143.2.2.2.2.2.2.2.1) (fun r_159 => dc_try (f_Sink_closeBits 32768 r_159.2.1 r_159.2.2.1 r_159.2.2.2.1 r_159.2.2.2.2) (fun r_166 => some (.inl ((), (v_143.1, v_143.2.1, v_143.2.2.1, v_143.2.2.2.1, r_166.2.1, r_166.2.2.1, r_166.2.2.2.1, r_166.2.2.2.2, v_143.2.2.2.2.2.2.2.2.1, v_143.2.2.2.2.2.2.2.2.2.1, v_143.2.2.2.2.2.2.2.2.2.2)))) (fun r_166 => some (.inr (r_166.1, (v_143.1, v_143.2.1, v_143.2.2.1, v_143.2.2.2.1, r_166.2.1, r_166.2.2.1, r_166.2.2.2.1, r_166.2.2.2.2, v_143.2.2.2.2.2.2.2.2.1, v_143.2.2.2.2.2.2.2.2.2.1, v_143.2.2.2.2.2.2.2.2.2.2))))) (fun r_159 => some (.inr (r_159.1, (v_143.1, v_143.2.1, v_143.2.2.1, v_143.2.2.2.1, r_159.2.1, r_159.2.2.1, r_159.2.2.2.1, r_159.2.2.2.2, v_143.2.2.2.2.2.2.2.2.1, v_143.2.2.2.2.2.2.2.2.2.1, v_143.2.2.2.2.2.2.2.2.2.2))))
/-- the last code, and the bits that are left -/
theorem pkC_ok {K m cw : Nat} (hK : 4 < K) (hm : m ≤ 8) (hcw : cw ≤ 12) (b : Nat → Int32) {Y : List Int32} {R : List Bool} (hR : R.length < 8) (hZ : (Zf Y (R ++ lzE m cw)).length ≤ 32768) (a1 a3 a4 : Int32) (a9 a10 a11 : Nat → Int32) : pkC K (nI m) (a1, nI cw, a3, a4, nI Y.length, vb R, nI R.length, wr b Y, a9, a10, a11) = some (.inl ((), a1, nI cw, a3, a4, nI (Zf Y (R ++ lzE m cw)).length, 0, 0, wr b (Zf Y (R ++ lzE m cw)), a9, a10, a11)) := by
  have h1 : Y.length ≤ 32768 := Nat.le_trans (Zf_le _ _) hZ
  have h2 : (Y ++ byt (R ++ lzE m cw)).length ≤ 32768 := by
    unfold Zf at hZ
    rw [List.length_append] at hZ
    omega
  have hp := (putBits_as (K := K) (N := 32768) (n := cw) hK (by omega) b hR (by omega) (nI (2 ^ m + 1)) h1).1 h2
  unfold pkC
  rw [pow_sh m (by omega), show nI (2 ^ m) + 1 = nI (2 ^ m + 1) from nI_1 _]
  show dc_try (f_Sink_putBits K 32768 (nI (2 ^ m + 1)) (nI cw) (nI Y.length) (vb R) (nI R.length) (wr b Y)) _ _ = _
  rw [hp, q_tryL]
  have hc := (close_ap (N := 32768) (by omega) (R := rst (R ++ lzE m cw)) b (ret8 _) h2).1 hZ
  show dc_try (f_Sink_closeBits 32768 (nI (Y ++ byt (R ++ lzE m cw)).length) (vb (rst (R ++ lzE m cw))) (nI (rst (R ++ lzE m cw)).length) (wr b (Y ++ byt (R ++ lzE m cw)))) _ _ = _
  rw [hc, q_tryL]
  rfl
theorem packD_in {K m T nx : Nat} (hK : 300 < K) {ix : Nat → Nat} {ixs nl li os : Nat → Int32} {D : Nat → Nat → Nat} {fu : Bool} (hT : T ≤ 16384) (hix : ∀ i, i < T → ixs i = nI (ix i)) (hlt : ∀ i, i < T → ix i < 256) (hC : CR nx D nl li os) (hnx : nx ≤ 4096) (hD : ∀ a i, D a i < nx) (cw cn : Nat) (cf : Bool) (Y : List Int32) (R : List Bool) (b : Nat → Int32) : ∀ (r k code q : Nat), k + r = T → r < q → code < nx → ∃ r' k' code', k' + r' = T ∧ k ≤ k' ∧ r' ≤ r ∧ code' < nx ∧ (r' = 0 ∨ D code' (ix k') = 0) ∧ (f_GifWriter_pack_L64 K 32768 (nI m) (nI nx) (nI cw) (nI cn) (b2 cf) (nI Y.length) (vb R) (nI R.length) (wr b Y) nl ixs li os (nI T) (b2 fu) q (nI k) (nI code) (if r = 0 then -1 else lg D code (ix k))) = some (nI k', nI code') ∧ lz m ix r k code D nx cw cn cf fu = lz m ix r' k' code' D nx cw cn cf fu := by
  intro r
  induction r with
  | zero =>
    intro k code q hk hq hc
    obtain ⟨q, rfl⟩ : ∃ w, q = w + 1 := ⟨q - 1, by omega⟩
    refine ⟨0, k, code, hk, Nat.le_refl _, Nat.le_refl _, hc, .inl rfl, ?_, rfl⟩
    show (f_GifWriter_pack_64 K 32768 _ (nI m) (nI nx) (nI cw) (nI cn) (b2 cf) (nI Y.length) (vb R) (nI R.length) (wr b Y) nl ixs li os (nI T) (b2 fu) (nI k) (nI code) (if 0 = 0 then -1 else lg D code (ix k))) = _
    unfold f_GifWriter_pack_64
    rw [if_pos rfl, if_pos rfl]
  | succ r ih =>
    intro k code q hk hq hc
    obtain ⟨q, rfl⟩ : ∃ w, q = w + 1 := ⟨q - 1, by omega⟩
    rw [if_neg (by omega)]
    by_cases c : D code (ix k) = 0
    · refine ⟨r + 1, k, code, hk, Nat.le_refl _, Nat.le_refl _, hc, .inr c, ?_, rfl⟩
      show (f_GifWriter_pack_64 K 32768 _ (nI m) (nI nx) (nI cw) (nI cn) (b2 cf) (nI Y.length) (vb R) (nI R.length) (wr b Y) nl ixs li os (nI T) (b2 fu) (nI k) (nI code) (lg D code (ix k))) = _
      unfold f_GifWriter_pack_64 lg
      rw [if_pos c, if_pos rfl]
    · obtain ⟨r', k', code', g1, g2, g3, g4, g5, g6, g7⟩ := ih (k + 1) (D code (ix k)) q (by omega) (by omega) (hD _ _)
      refine ⟨r', k', code', g1, by omega, by omega, g4, g5, ?_, (lz_go c).trans g7⟩
      show (f_GifWriter_pack_64 K 32768 _ (nI m) (nI nx) (nI cw) (nI cn) (b2 cf) (nI Y.length) (vb R) (nI R.length) (wr b Y) nl ixs li os (nI T) (b2 fu) (nI k) (nI code) (lg D code (ix k))) = _
      have hlt2 := hD code (ix k)
      have hm1 : ¬ nI (D code (ix k)) = -1 := fun e => by
        have h5 := nI_pos (n := D code (ix k)) (by omega)
        rw [e] at h5
        exact h5 (by decide)
      unfold f_GifWriter_pack_64 lg
      rw [if_neg c, if_neg hm1, nI_1]
      by_cases c2 : r = 0
      · rw [if_pos (nI_le (by omega) (by omega))]
        unfold f_GifWriter_pack_98
        rw [if_pos c2] at g6
        exact g6
      · rw [if_neg (nI_ge (by omega) (by omega)), if_pos (q_inb (by omega) (by omega)), nI_clamp (by omega), hix (k + 1) (by omega), longer_ok hK hnx hC (by omega) (hlt _ (by omega)), q_bind]
        unfold f_GifWriter_pack_98
        rw [if_neg c2] at g6
        exact g6
def lzB (m : Nat) (ix : Nat → Nat) : Nat → Nat → (Nat → Nat → Nat) → Nat → Nat → Nat → Bool → Bool → List Bool
  | 0, _, _, _, cw, _, _, _ => lzE m cw
  | r + 1, k, D, nx, cw, cn, cf, fu => lz m ix r (k + 1) (ix k) D nx cw cn cf fu
theorem packD_L {K m T : Nat} (hK : 17000 < K) (hm : m ≤ 8) {ix : Nat → Nat} {ixs : Nat → Int32} (hT : T ≤ 16384) (hix : ∀ i, i < T → ixs i = nI (ix i)) (hlt : ∀ i, i < T → ix i < 2 ^ m) (b : Nat → Int32) : ∀ (n r k q : Nat) (Y : List Int32) (R : List Bool) (D : Nat → Nat → Nat) (nx cw cn : Nat) (cf fu : Bool) (nl li os : Nat → Int32), r ≤ n → k + r = T → r < q → LI m nx cw cn fu D → CR nx D nl li os → R.length < 8 → (r = 0 → fu = false) → (Zf Y (R ++ lzB m ix r k D nx cw cn cf fu)).length ≤ 32768 → ∃ a, dc_bind (f_GifWriter_pack_L25 K 32768 (nI m) ixs (nI T) q (nI nx) (nI cw) (nI cn) (b2 cf) (nI Y.length) (vb R) (nI R.length) (wr b Y) nl li os (b2 fu) (nI k)) (Sum.elim (pkC K (nI m)) (fun u => some (.inr u))) = some (.inl a) ∧ a.2.2.2.2.2.1 = nI (Zf Y (R ++ lzB m ix r k D nx cw cn cf fu)).length ∧ a.2.2.2.2.2.2.2.2.1 = wr b (Zf Y (R ++ lzB m ix r k D nx cw cn cf fu)) := by
  have hpm := m_pow hm
  have hp0 : 0 < 2 ^ m := Nat.two_pow_pos m
  intro n
  induction n with
  | zero =>
    intro r k q Y R D nx cw cn cf fu nl li os hr hk hq hI hC hR hfu hZ
    obtain ⟨q, rfl⟩ : ∃ w, q = w + 1 := ⟨q - 1, by omega⟩
    have e : r = 0 := by omega
    subst e
    have e2 : (f_GifWriter_pack_L25 K 32768 (nI m) ixs (nI T) (q + 1) (nI nx) (nI cw) (nI cn) (b2 cf) (nI Y.length) (vb R) (nI R.length) (wr b Y) nl li os (b2 fu) (nI k)) = some (.inl (nI nx, nI cw, nI cn, b2 cf, nI Y.length, vb R, nI R.length, wr b Y, nl, li, os)) := by
      show (f_GifWriter_pack_25 K 32768 _ (nI m) (nI nx) (nI cw) (nI cn) (b2 cf) (nI Y.length) (vb R) (nI R.length) (wr b Y) nl ixs li os (nI T) (b2 fu) (nI k)) = _
      unfold f_GifWriter_pack_25
      rw [if_pos (nI_le (by omega) (by omega))]
    rw [e2, q_bind]
    refine ⟨_, pkC_ok (by omega) hm hI.2.2.2.1 b hR hZ _ _ _ _ _ _, rfl, rfl⟩
  | succ n ih =>
    intro r k q Y R D nx cw cn cf fu nl li os hr hk hq hI hC hR hfu hZ
    cases r with
    | zero => exact ih 0 k q Y R D nx cw cn cf fu nl li os (by omega) hk hq hI hC hR hfu hZ
    | succ r =>
      obtain ⟨q, rfl⟩ : ∃ w, q = w + 1 := ⟨q - 1, by omega⟩
      obtain ⟨i1, i2, i3, i4, i5, i6⟩ := hI
      have hik := hlt k (by omega)
      obtain ⟨r', k', code', g1, g2, g3, g4, g5, g6, g7⟩ := packD_in (K := K) (m := m) (T := T) (nx := nx) (ix := ix) (ixs := ixs) (nl := nl) (li := li) (os := os) (D := D) (fu := fu) (by omega) hT hix (fun i hi => Nat.lt_of_lt_of_le (hlt i hi) hpm) hC i2 i6 cw cn cf Y R b r (k + 1) (ix k) K (by omega) (by omega) (by omega)
      have e1 : (f_GifWriter_pack_L25 K 32768 (nI m) ixs (nI T) (q + 1) (nI nx) (nI cw) (nI cn) (b2 cf) (nI Y.length) (vb R) (nI R.length) (wr b Y) nl li os (b2 fu) (nI k)) = (f_GifWriter_pack_62 K 32768 ((f_GifWriter_pack_L25 K 32768 (nI m) ixs (nI T)) q) (nI m) (nI nx) (nI cw) (nI cn) (b2 cf) (nI Y.length) (vb R) (nI R.length) (wr b Y) nl ixs li os (nI T) (b2 fu) (nI (k + 1)) (nI (ix k)) (if r = 0 then -1 else lg D (ix k) (ix (k + 1)))) := by
        show (f_GifWriter_pack_25 K 32768 _ (nI m) (nI nx) (nI cw) (nI cn) (b2 cf) (nI Y.length) (vb R) (nI R.length) (wr b Y) nl ixs li os (nI T) (b2 fu) (nI k)) = _
        unfold f_GifWriter_pack_25
        rw [if_neg (nI_ge (by omega) (by omega)), if_pos (q_inb (by omega) (by omega)), nI_1, nI_clamp (n := k) (by omega), hix k (by omega)]
        by_cases c2 : r = 0
        · rw [if_pos (nI_le (by omega) (by omega)), if_pos c2]
        · rw [if_neg (nI_ge (by omega) (by omega)), if_pos (q_inb (by omega) (by omega)), nI_clamp (by omega), hix (k + 1) (by omega), longer_ok (by omega) i2 hC (by omega) (Nat.lt_of_lt_of_le (hlt _ (by omega)) hpm), q_bind, if_neg c2]
      have hbody : lzB m ix (r + 1) k D nx cw cn cf fu = lz m ix r' k' code' D nx cw cn cf fu := g7
      rw [hbody] at hZ ⊢
      rw [e1]
      unfold f_GifWriter_pack_62
      rw [g6, q_bind]
      show ∃ a, dc_bind (dc_try (f_GifWriter_putCode K 32768 (nI code') (nI cw) (nI cn) (b2 cf) (nI Y.length) (vb R) (nI R.length) (wr b Y)) _ _) _ = _ ∧ _
      cases r' with
      | zero =>
        cases fu with
        | false =>
          have hb : lz m ix 0 k' code' D nx cw cn cf false = bo (nI code') 0 cw ++ lzB m ix 0 k' D nx (ew (ec cn cf) cw) (ec cn cf) false false := rfl
          rw [hb] at hZ ⊢
          have hZ2 := Zf_le2 Y R (bo (nI code') 0 cw) (lzB m ix 0 k' D nx (ew (ec cn cf) cw) (ec cn cf) false false)
          have hp := (putBits_as (K := K) (N := 32768) (n := cw) (by omega) (by omega) b hR (by omega) (nI code') (Nat.le_trans (Zf_le _ _) hZ)).1 (by omega)
          rw [putCode_eq cf i4 i5 hp, q_tryL]
          rw [Zf_step] at hZ ⊢
          show ∃ a, dc_bind (if b2 false = 0 then if nI T ≤ nI k' then _ else _ else _) _ = _ ∧ _
          rw [if_pos (show b2 false = 0 from rfl), if_pos (nI_le (by omega) (by omega))]
          unfold f_GifWriter_pack_140
          exact ih 0 k' q (Y ++ byt (R ++ bo (nI code') 0 cw)) (rst (R ++ bo (nI code') 0 cw)) D nx (ew (ec cn cf) cw) (ec cn cf) false false nl li os (by omega) (by omega) (by omega) ⟨i1, i2, i3, ew_le _ i4, ec_le i5 cf, i6⟩ hC (ret8 _) (fun _ => rfl) hZ
        | true =>
          have hb : lz m ix 0 k' code' D nx cw cn cf true = bo (nI code') 0 cw ++ (bo (nI (2 ^ m)) 0 (ew (ec cn cf) cw) ++ lzB m ix 0 k' D0 (2 ^ m + 2) (m + 1) (2 ^ m + 2) true false) := rfl
          rw [hb] at hZ ⊢
          have hZ2 := Zf_le2 Y R (bo (nI code') 0 cw) (bo (nI (2 ^ m)) 0 (ew (ec cn cf) cw) ++ lzB m ix 0 k' D0 (2 ^ m + 2) (m + 1) (2 ^ m + 2) true false)
          have hp := (putBits_as (K := K) (N := 32768) (n := cw) (by omega) (by omega) b hR (by omega) (nI code') (Nat.le_trans (Zf_le _ _) hZ)).1 (by omega)
          rw [putCode_eq cf i4 i5 hp, q_tryL]
          rw [Zf_step] at hZ ⊢
          have hew := ew_le (ec cn cf) i4
          have hZ3 := Zf_le2 (Y ++ byt (R ++ bo (nI code') 0 cw)) (rst (R ++ bo (nI code') 0 cw)) (bo (nI (2 ^ m)) 0 (ew (ec cn cf) cw)) (lzB m ix 0 k' D0 (2 ^ m + 2) (m + 1) (2 ^ m + 2) true false)
          have hp2 := (putBits_as (K := K) (N := 32768) (n := ew (ec cn cf) cw) (by omega) (by omega) b (ret8 (R ++ bo (nI code') 0 cw)) (by omega) (nI (2 ^ m)) (Nat.le_trans (Zf_le _ _) hZ)).1 (by omega)
          obtain ⟨nl', hn1, hn2⟩ := begin_eq (K := K) (m := m) (nl := nl) (by omega) hm (nI nx) (nI (ec cn cf)) 0 hp2
          show ∃ a, dc_bind (if b2 true = 0 then _ else dc_try (f_GifWriter_putBeginning K 32768 (nI m) (nI nx) (nI (ew (ec cn cf) cw)) (nI (ec cn cf)) 0 (nI (Y ++ byt (R ++ bo (nI code') 0 cw)).length) (vb (rst (R ++ bo (nI code') 0 cw))) (nI (rst (R ++ bo (nI code') 0 cw)).length) (wr b (Y ++ byt (R ++ bo (nI code') 0 cw))) nl) _ _) _ = _ ∧ _
          rw [if_neg (show ¬ b2 true = 0 by decide), hn2, q_tryL]
          rw [Zf_step] at hZ ⊢
          unfold f_GifWriter_pack_140
          exact ih 0 k' q _ _ D0 (2 ^ m + 2) (m + 1) (2 ^ m + 2) true false nl' li os (by omega) (by omega) (by omega) (LI_0 hm) (CR_0 _ _ _ hn1) (ret8 _) (fun _ => rfl) hZ
      | succ r' =>
        have hD0 : D code' (ix k') = 0 := g5.resolve_left (by omega)
        cases fu with
        | false =>
          have hne : nx ≠ 4096 := fun e => absurd (i3.mpr e) (by decide)
          have hb : lz m ix (r' + 1) k' code' D nx cw cn cf false = bo (nI code') 0 cw ++ lzB m ix (r' + 1) k' (up2 D code' (ix k') nx) (nx + 1) (ew (ec cn cf) cw) (ec cn cf) false (decide (nx = 4095)) := lz_add hD0
          rw [hb] at hZ ⊢
          have hZ2 := Zf_le2 Y R (bo (nI code') 0 cw) (lzB m ix (r' + 1) k' (up2 D code' (ix k') nx) (nx + 1) (ew (ec cn cf) cw) (ec cn cf) false (decide (nx = 4095)))
          have hp := (putBits_as (K := K) (N := 32768) (n := cw) (by omega) (by omega) b hR (by omega) (nI code') (Nat.le_trans (Zf_le _ _) hZ)).1 (by omega)
          rw [putCode_eq cf i4 i5 hp, q_tryL]
          rw [Zf_step] at hZ ⊢
          have hadd : f_GifWriter_addRow (nI code') (nI (ix k')) (nI nx) li nl os = some (b2 (decide (nx = 4095)), nI (nx + 1), upd li nx (nI (ix k')), upd nl code' (nI nx), upd os nx (nl code')) := by
            unfold f_GifWriter_addRow f_GifWriter_addRow_72
            rw [if_pos (show nI nx < 4096 from show nI nx < nI 4096 from nI_lt (by omega) (by omega)), if_pos (q_inb (by omega) (by omega)), if_pos (q_inb (by omega) (by omega)), if_pos (q_inb (by omega) (by omega)), if_pos (q_inb (by omega) (by omega)), nI_1, nI_clamp (by omega), nI_clamp (by omega)]
            by_cases c : nx = 4095
            · rw [if_pos (show nI (nx + 1) = 4096 by rw [c]; rfl), if_pos (.inr rfl), decide_eq_true c]
              rfl
            · rw [if_neg (show ¬ nI (nx + 1) = 4096 from fun e => c (by have := (nI_eq (a := nx + 1) (b := 4096) (by omega) (by omega)).mp e; omega)), if_pos (.inl rfl), decide_eq_false c]
              rfl
          show ∃ a, dc_bind (if b2 false = 0 then if nI T ≤ nI k' then _ else if inb (nI k') 16384 = true then dc_bind (f_GifWriter_addRow (nI code') (ixs (nI k').toNatClampNeg) (nI nx) li nl os) _ else none else _) _ = _ ∧ _
          rw [if_pos (show b2 false = 0 from rfl), if_neg (nI_ge (by omega) (by omega)), if_pos (q_inb (by omega) (by omega)), nI_clamp (by omega), hix k' (by omega), hadd, q_bind]
          unfold f_GifWriter_pack_140
          have hlik := hlt k' (by omega)
          exact ih (r' + 1) k' q _ _ (up2 D code' (ix k') nx) (nx + 1) (ew (ec cn cf) cw) (ec cn cf) false (decide (nx = 4095)) (upd nl code' (nI nx)) (upd li nx (nI (ix k'))) (upd os nx (nl code')) (by omega) (by omega) (by omega) (LI_add ⟨i1, i2, i3, i4, i5, i6⟩ cf code' (ix k')) (CR_add hC (by omega) (by omega) (by omega) (by omega) hD0) (ret8 _) (fun h => absurd h (by omega)) hZ
        | true =>
          have hb : lz m ix (r' + 1) k' code' D nx cw cn cf true = bo (nI code') 0 cw ++ (bo (nI (2 ^ m)) 0 (ew (ec cn cf) cw) ++ lzB m ix (r' + 1) k' D0 (2 ^ m + 2) (m + 1) (2 ^ m + 2) true false) := lz_full hD0
          rw [hb] at hZ ⊢
          have hZ2 := Zf_le2 Y R (bo (nI code') 0 cw) (bo (nI (2 ^ m)) 0 (ew (ec cn cf) cw) ++ lzB m ix (r' + 1) k' D0 (2 ^ m + 2) (m + 1) (2 ^ m + 2) true false)
          have hp := (putBits_as (K := K) (N := 32768) (n := cw) (by omega) (by omega) b hR (by omega) (nI code') (Nat.le_trans (Zf_le _ _) hZ)).1 (by omega)
          rw [putCode_eq cf i4 i5 hp, q_tryL]
          rw [Zf_step] at hZ ⊢
          have hew := ew_le (ec cn cf) i4
          have hZ3 := Zf_le2 (Y ++ byt (R ++ bo (nI code') 0 cw)) (rst (R ++ bo (nI code') 0 cw)) (bo (nI (2 ^ m)) 0 (ew (ec cn cf) cw)) (lzB m ix (r' + 1) k' D0 (2 ^ m + 2) (m + 1) (2 ^ m + 2) true false)
          have hp2 := (putBits_as (K := K) (N := 32768) (n := ew (ec cn cf) cw) (by omega) (by omega) b (ret8 (R ++ bo (nI code') 0 cw)) (by omega) (nI (2 ^ m)) (Nat.le_trans (Zf_le _ _) hZ)).1 (by omega)
          obtain ⟨nl', hn1, hn2⟩ := begin_eq (K := K) (m := m) (nl := nl) (by omega) hm (nI nx) (nI (ec cn cf)) 0 hp2
          show ∃ a, dc_bind (if b2 true = 0 then _ else dc_try (f_GifWriter_putBeginning K 32768 (nI m) (nI nx) (nI (ew (ec cn cf) cw)) (nI (ec cn cf)) 0 (nI (Y ++ byt (R ++ bo (nI code') 0 cw)).length) (vb (rst (R ++ bo (nI code') 0 cw))) (nI (rst (R ++ bo (nI code') 0 cw)).length) (wr b (Y ++ byt (R ++ bo (nI code') 0 cw))) nl) _ _) _ = _ ∧ _
          rw [if_neg (show ¬ b2 true = 0 by decide), hn2, q_tryL]
          rw [Zf_step] at hZ ⊢
          unfold f_GifWriter_pack_140
          exact ih (r' + 1) k' q _ _ D0 (2 ^ m + 2) (m + 1) (2 ^ m + 2) true false nl' li os (by omega) (by omega) (by omega) (LI_0 hm) (CR_0 _ _ _ hn1) (ret8 _) (fun _ => rfl) hZ
/-! the reference's rows: a table -/
def KR (D : Nat → Nat → Nat) (kids : Nat → Int32) : Prop := ∀ a i, a < 4096 → i < 256 → kids (256 * a + i) = nI (D a i)
theorem KR_0 {kids : Nat → Int32} (h : ∀ j, j < 1048576 → kids j = 0) : KR D0 kids := fun a i ha hi => h _ (by omega)
theorem KR_add {a i nx : Nat} {D : Nat → Nat → Nat} {kids : Nat → Int32} (h : KR D kids) (hi : i < 256) : KR (up2 D a i nx) (upd kids (256 * a + i) (nI nx)) := by
  intro a' i' ha' hi'
  unfold up2
  by_cases e : a' = a ∧ i' = i
  · rw [if_pos e, e.1, e.2, upd_at]
  · rw [if_neg e, upd_ne _ _ (by
      intro q
      apply e
      constructor <;> omega)]
    exact h a' i' ha' hi'
theorem emit36 {K cw c : Nat} (hcw : cw ≤ 12) (hc : c ≤ 4096) (f : Int32) (n s h : Int32) (o : Nat → Int32) : (f_M_emit_36 K n s h (nI cw) (nI c) f o) = some (.inl ((), n, s, h, nI (ew c cw), nI c, 0, o)) := by
  have hp : 2 ^ cw ≤ 2 ^ 12 := Nat.pow_le_pow_right (by omega) hcw
  unfold f_M_emit_36 f_M_emit_73 ew
  rw [pow_sh cw hcw]
  by_cases e : c = 2 ^ cw
  · rw [if_pos (by rw [e])]
    by_cases e2 : cw < 12
    · rw [if_neg (show ¬ (12 : Int32) ≤ nI cw from show ¬ nI 12 ≤ nI cw from nI_ge e2 (by omega)), if_pos ⟨e, e2⟩, nI_1]
    · rw [if_pos (show (12 : Int32) ≤ nI cw from show nI 12 ≤ nI cw from nI_le (by omega) (by omega)), if_neg (fun q => e2 q.2)]
  · rw [if_neg (fun q => e ((nI_eq (by omega) (by omega)).mp q)), if_neg (fun q => e q.1)]
theorem emit_eq {K cw cn code : Nat} (cf : Bool) (hcw : cw ≤ 12) (hcn : cn ≤ 4096) {a : Unit × (Int32 × Int32 × Int32 × (Nat → Int32))} {n s h : Int32} {o : Nat → Int32} (hp : f_M_putBits K (nI code) (nI cw) n s h o = some (.inl a)) : f_M_emit K (nI code) n s h (nI cw) (nI cn) (b2 cf) o = some (.inl ((), a.2.1, a.2.2.1, a.2.2.2.1, nI (ew (ec cn cf) cw), nI (ec cn cf), 0, a.2.2.2.2)) := by
  unfold f_M_emit ec
  rw [hp, q_tryL]
  cases cf
  · rw [if_pos (show b2 false = 0 from rfl)]
    by_cases c : cn < 4096
    · rw [if_neg (show ¬ (4096 : Int32) ≤ nI cn from show ¬ nI 4096 ≤ nI cn from nI_ge c (by omega)), nI_1, emit36 hcw (by omega), if_pos ⟨rfl, c⟩]
    · rw [if_pos (show (4096 : Int32) ≤ nI cn from show nI 4096 ≤ nI cn from nI_le (by omega) (by omega)), emit36 hcw (by omega), if_neg (fun q => c q.2)]
  · rw [if_neg (show ¬ b2 true = 0 by decide), emit36 hcw (by omega), if_neg (fun q => absurd q.1 (by decide))]
theorem kids158 {K : Nat} (hK : 1048577 < K) {t_outSize : Int32} {t_bitBuffer : Int32} {t_bitCount : Int32} {t_codeWidth : Int32} {t_codeNext : Int32} {t_codeFirst : Int32} {a_t_out : Nat → Int32} {a_t_rows : Nat → Int32} {x1 : Int32} {x2 : Int32} {x3 : Int32} {x7 : Int32} {x8 : Int32} (kids : Nat → Int32) : ∃ kids', (∀ j, j < 1048576 → kids' j = 0) ∧ (f_M_pack_L158 K t_outSize t_bitBuffer t_bitCount t_codeWidth t_codeNext t_codeFirst a_t_out a_t_rows x1 x2 x3 x7 x8 K kids 0) = some kids' := by
  refine ⟨mp (fun _ _ => 0) kids 1048576, fun j hj => mp_lt _ _ hj, ?_⟩
  refine loop_mp (c := 1048576) (fun q s x => (f_M_pack_L158 K t_outSize t_bitBuffer t_bitCount t_codeWidth t_codeNext t_codeFirst a_t_out a_t_rows x1 x2 x3 x7 x8 q s x)) (fun _ _ => 0) kids (fun q s => ?_) (fun q k hk => ?_) (by omega)
  · show (f_M_pack_158 K _ t_outSize t_bitBuffer t_bitCount t_codeWidth t_codeNext t_codeFirst a_t_out s a_t_rows x1 x2 x3 x7 x8 (nI 1048576)) = _
    unfold f_M_pack_158
    rw [if_pos (by decide)]
  · show (f_M_pack_158 K _ t_outSize t_bitBuffer t_bitCount t_codeWidth t_codeNext t_codeFirst a_t_out _ a_t_rows x1 x2 x3 x7 x8 (nI k)) = _
    unfold f_M_pack_158
    rw [if_neg (show ¬ (1048576 : Int32) ≤ nI k from show ¬ nI 1048576 ≤ nI k from nI_ge hk (by omega)), if_pos (q_inb hk (by omega)), nI_clamp (by omega), nI_1]
theorem kids31 {K : Nat} (hK : 1048577 < K) {t_outSize : Int32} {t_bitBuffer : Int32} {t_bitCount : Int32} {t_codeWidth : Int32} {t_codeNext : Int32} {t_codeFirst : Int32} {a_t_out : Nat → Int32} {a_t_rows : Nat → Int32} {x1 : Int32} {x2 : Int32} {x3 : Int32} (kids : Nat → Int32) : ∃ kids', (∀ j, j < 1048576 → kids' j = 0) ∧ (f_M_pack_L31 K t_outSize t_bitBuffer t_bitCount t_codeWidth t_codeNext t_codeFirst a_t_out a_t_rows x1 x2 x3 K kids 0) = some kids' := by
  refine ⟨mp (fun _ _ => 0) kids 1048576, fun j hj => mp_lt _ _ hj, ?_⟩
  refine loop_mp (c := 1048576) (fun q s x => (f_M_pack_L31 K t_outSize t_bitBuffer t_bitCount t_codeWidth t_codeNext t_codeFirst a_t_out a_t_rows x1 x2 x3 q s x)) (fun _ _ => 0) kids (fun q s => ?_) (fun q k hk => ?_) (by omega)
  · show (f_M_pack_31 K _ t_outSize t_bitBuffer t_bitCount t_codeWidth t_codeNext t_codeFirst a_t_out s a_t_rows x1 x2 x3 (nI 1048576)) = _
    unfold f_M_pack_31
    rw [if_pos (by decide)]
  · show (f_M_pack_31 K _ t_outSize t_bitBuffer t_bitCount t_codeWidth t_codeNext t_codeFirst a_t_out _ a_t_rows x1 x2 x3 (nI k)) = _
    unfold f_M_pack_31
    rw [if_neg (show ¬ (1048576 : Int32) ≤ nI k from show ¬ nI 1048576 ≤ nI k from nI_ge hk (by omega)), if_pos (q_inb hk (by omega)), nI_clamp (by omega), nI_1]
theorem beginM {m : Nat} (hm : m ≤ 8) (a b c : Int32) : f_M_begin (nI m) a b c = some ((), nI (m + 1), nI (2 ^ m + 2), 1) := by
  unfold f_M_begin
  rw [nI_1, pow_sh m (by omega), show nI (2 ^ m) + 2 = nI (2 ^ m + 2) from nI_add _ 2]
theorem pack259 {K m cw : Nat} (hK : 40 < K) (hm : m ≤ 8) (hcw : cw ≤ 12) (b : Nat → Int32) {Y : List Int32} {R : List Bool} (hR : R.length < 8) (hZ : (Zf Y (R ++ lzE m cw)).length ≤ 262144) (cn cf : Int32) (kids rows : Nat → Int32) : f_M_pack_259 K (nI Y.length) (vb R) (nI R.length) (nI cw) cn cf (wr b Y) kids rows (nI (2 ^ m)) = some (.inl ((), nI (Zf Y (R ++ lzE m cw)).length, 0, 0, nI cw, cn, cf, wr b (Zf Y (R ++ lzE m cw)), kids)) := by
  have h1 : Y.length ≤ 262144 := Nat.le_trans (Zf_le _ _) hZ
  have h2 : (Y ++ byt (R ++ lzE m cw)).length ≤ 262144 := by
    unfold Zf at hZ
    rw [List.length_append] at hZ
    omega
  have hp := (putBitsM_as (K := K) (n := cw) (by omega) b hR (by omega) (nI (2 ^ m + 1)) h1).1 h2
  unfold f_M_pack_259
  rw [nI_1, hp, q_tryL]
  have hc := (flushM_any (R := rst (R ++ lzE m cw)) b (ret8 _) h2).1 hZ
  show dc_try (f_M_flush (nI (Y ++ byt (R ++ lzE m cw)).length) (vb (rst (R ++ lzE m cw))) (nI (rst (R ++ lzE m cw)).length) (wr b (Y ++ byt (R ++ lzE m cw)))) _ _ = _
  rw [hc, q_tryL]
  rfl
theorem packM_L {K m T : Nat} (hK : 1048577 < K) (hm : m ≤ 8) {ix : Nat → Nat} {rows : Nat → Int32} (hT : T ≤ 16384) (hix : ∀ i, i < T → rows i &&& 255 = nI (ix i)) (hlt : ∀ i, i < T → ix i < 2 ^ m) (b : Nat → Int32) : ∀ (r k q : Nat) (Y : List Int32) (R : List Bool) (D : Nat → Nat → Nat) (code nx cw cn : Nat) (cf fu : Bool) (kids : Nat → Int32), k + r = T → r < q → LI m nx cw cn fu D → code < nx → KR D kids → R.length < 8 → (Zf Y (R ++ lz m ix r k code D nx cw cn cf fu)).length ≤ 262144 → ∃ a, dc_bind (f_M_pack_L75 K rows (nI m) (nI T) (nI (2 ^ m)) q (nI Y.length) (vb R) (nI R.length) (nI cw) (nI cn) (b2 cf) (wr b Y) kids (nI nx) (nI code) (b2 fu) (nI k)) (Sum.elim (fun v_234 => dc_try (f_M_emit K v_234.2.2.2.2.2.2.2.2.1 v_234.1 v_234.2.1 v_234.2.2.1 v_234.2.2.2.1 v_234.2.2.2.2.1 v_234.2.2.2.2.2.1 v_234.2.2.2.2.2.2.1) (fun r_237 => (if v_234.2.2.2.2.2.2.2.2.2 = 0 then (f_M_pack_259 K r_237.2.1 r_237.2.2.1 r_237.2.2.2.1 r_237.2.2.2.2.1 r_237.2.2.2.2.2.1 r_237.2.2.2.2.2.2.1 r_237.2.2.2.2.2.2.2 v_234.2.2.2.2.2.2.2.1 rows ((1 : Int32) <<< ((nI m) &&& 31))) else (dc_try (f_M_putBits K ((1 : Int32) <<< ((nI m) &&& 31)) r_237.2.2.2.2.1 r_237.2.1 r_237.2.2.1 r_237.2.2.2.1 r_237.2.2.2.2.2.2.2) (fun r_251 => dc_bind (f_M_begin (nI m) r_237.2.2.2.2.1 r_237.2.2.2.2.2.1 r_237.2.2.2.2.2.2.1) (fun r_256 => f_M_pack_259 K r_251.2.1 r_251.2.2.1 r_251.2.2.2.1 r_256.2.1 r_256.2.2.1 r_256.2.2.2 r_251.2.2.2.2 v_234.2.2.2.2.2.2.2.1 rows ((1 : Int32) <<< ((nI m) &&& 31)))) (fun r_251 => some (.inr (r_251.1, (r_251.2.1, r_251.2.2.1, r_251.2.2.2.1, r_237.2.2.2.2.1, r_237.2.2.2.2.2.1, r_237.2.2.2.2.2.2.1, r_251.2.2.2.2, v_234.2.2.2.2.2.2.2.1))))))) (fun r_237 => some (.inr (r_237.1, (r_237.2.1, r_237.2.2.1, r_237.2.2.2.1, r_237.2.2.2.2.1, r_237.2.2.2.2.2.1, r_237.2.2.2.2.2.2.1, r_237.2.2.2.2.2.2.2, v_234.2.2.2.2.2.2.2.1))))) (fun u => some (.inr u))) = some (.inl a) ∧ a.2.1 = nI (Zf Y (R ++ lz m ix r k code D nx cw cn cf fu)).length ∧ a.2.2.2.2.2.2.2.1 = wr b (Zf Y (R ++ lz m ix r k code D nx cw cn cf fu)) := by
  have hpm := m_pow hm
  have hp0 : 0 < 2 ^ m := Nat.two_pow_pos m
  have e2m : (1 : Int32) <<< (nI m &&& 31) = nI (2 ^ m) := pow_sh m (by omega)
  intro r
  induction r with
  | zero =>
    intro k q Y R D code nx cw cn cf fu kids hk hq hI hc hKR hR hZ
    obtain ⟨q, rfl⟩ : ∃ w, q = w + 1 := ⟨q - 1, by omega⟩
    obtain ⟨i1, i2, i3, i4, i5, i6⟩ := hI
    have e1 : (f_M_pack_L75 K rows (nI m) (nI T) (nI (2 ^ m)) (q + 1) (nI Y.length) (vb R) (nI R.length) (nI cw) (nI cn) (b2 cf) (wr b Y) kids (nI nx) (nI code) (b2 fu) (nI k)) = some (.inl (nI Y.length, vb R, nI R.length, nI cw, nI cn, b2 cf, wr b Y, kids, nI code, b2 fu)) := by
      show (f_M_pack_75 K _ (nI Y.length) (vb R) (nI R.length) (nI cw) (nI cn) (b2 cf) (wr b Y) kids rows (nI m) (nI T) (nI (2 ^ m)) (nI nx) (nI code) (b2 fu) (nI k)) = _
      unfold f_M_pack_75
      rw [if_pos (nI_le (by omega) (by omega))]
    rw [e1, q_bind, e2m]
    show ∃ a, dc_try (f_M_emit K (nI code) (nI Y.length) (vb R) (nI R.length) (nI cw) (nI cn) (b2 cf) (wr b Y)) _ _ = _ ∧ _
    cases fu with
    | false =>
      have hb : lz m ix 0 k code D nx cw cn cf false = bo (nI code) 0 cw ++ lzE m (ew (ec cn cf) cw) := rfl
      rw [hb] at hZ ⊢
      have hZ2 := Zf_le2 Y R (bo (nI code) 0 cw) (lzE m (ew (ec cn cf) cw))
      have hp := (putBitsM_as (K := K) (n := cw) (by omega) b hR (by omega) (nI code) (Nat.le_trans (Zf_le _ _) hZ)).1 (by omega)
      rw [emit_eq cf i4 i5 hp, q_tryL]
      rw [Zf_step] at hZ ⊢
      show ∃ a, (if b2 false = 0 then _ else _) = _ ∧ _
      rw [if_pos (show b2 false = 0 from rfl)]
      exact ⟨_, pack259 (by omega) hm (ew_le _ i4) b (ret8 _) hZ _ _ _ _, rfl, rfl⟩
    | true =>
      have hb : lz m ix 0 k code D nx cw cn cf true = bo (nI code) 0 cw ++ (bo (nI (2 ^ m)) 0 (ew (ec cn cf) cw) ++ lzE m (m + 1)) := rfl
      rw [hb] at hZ ⊢
      have hZ2 := Zf_le2 Y R (bo (nI code) 0 cw) (bo (nI (2 ^ m)) 0 (ew (ec cn cf) cw) ++ lzE m (m + 1))
      have hp := (putBitsM_as (K := K) (n := cw) (by omega) b hR (by omega) (nI code) (Nat.le_trans (Zf_le _ _) hZ)).1 (by omega)
      rw [emit_eq cf i4 i5 hp, q_tryL]
      rw [Zf_step] at hZ ⊢
      have hew := ew_le (ec cn cf) i4
      have hZ3 := Zf_le2 (Y ++ byt (R ++ bo (nI code) 0 cw)) (rst (R ++ bo (nI code) 0 cw)) (bo (nI (2 ^ m)) 0 (ew (ec cn cf) cw)) (lzE m (m + 1))
      have hp2 := (putBitsM_as (K := K) (n := ew (ec cn cf) cw) (by omega) b (ret8 (R ++ bo (nI code) 0 cw)) (by omega) (nI (2 ^ m)) (Nat.le_trans (Zf_le _ _) hZ)).1 (by omega)
      show ∃ a, (if b2 true = 0 then _ else dc_try (f_M_putBits K (nI (2 ^ m)) (nI (ew (ec cn cf) cw)) (nI (Y ++ byt (R ++ bo (nI code) 0 cw)).length) (vb (rst (R ++ bo (nI code) 0 cw))) (nI (rst (R ++ bo (nI code) 0 cw)).length) (wr b (Y ++ byt (R ++ bo (nI code) 0 cw)))) _ _) = _ ∧ _
      rw [if_neg (show ¬ b2 true = 0 by decide), hp2, q_tryL]
      rw [Zf_step] at hZ ⊢
      rw [beginM hm, q_bind]
      exact ⟨_, pack259 (by omega) hm (by omega) b (ret8 _) hZ _ _ _ _, rfl, rfl⟩
  | succ r ih =>
    intro k q Y R D code nx cw cn cf fu kids hk hq hI hc hKR hR hZ
    obtain ⟨q, rfl⟩ : ∃ w, q = w + 1 := ⟨q - 1, by omega⟩
    obtain ⟨i1, i2, i3, i4, i5, i6⟩ := hI
    have hik := hlt k (by omega)
    have hD := i6 code (ix k)
    have e0 : (256 : Int32) * nI code + nI (ix k) = nI (256 * code + ix k) := by
      rw [show (256 : Int32) * nI code = nI (256 * code) from pk_mul 256 code, nI_add]
    show ∃ a, dc_bind (f_M_pack_75 K ((f_M_pack_L75 K rows (nI m) (nI T) (nI (2 ^ m))) q) (nI Y.length) (vb R) (nI R.length) (nI cw) (nI cn) (b2 cf) (wr b Y) kids rows (nI m) (nI T) (nI (2 ^ m)) (nI nx) (nI code) (b2 fu) (nI k)) _ = _ ∧ _
    unfold f_M_pack_75
    rw [if_neg (nI_ge (by omega) (by omega)), if_pos (q_inb (by omega) (by omega)), nI_clamp (n := k) (by omega), hix k (by omega), e0, if_pos (q_inb (by omega) (by omega)), nI_clamp (by omega), hKR code (ix k) (by omega) (by omega)]
    by_cases c : D code (ix k) = 0
    · rw [if_pos (show nI (D code (ix k)) = 0 by rw [c]; rfl), bind_try]
      cases fu with
      | false =>
        have hne : nx ≠ 4096 := fun e => absurd (i3.mpr e) (by decide)
        rw [lz_add c] at hZ ⊢
        have hZ2 := Zf_le2 Y R (bo (nI code) 0 cw) (lz m ix r (k + 1) (ix k) (up2 D code (ix k) nx) (nx + 1) (ew (ec cn cf) cw) (ec cn cf) false (decide (nx = 4095)))
        have hp := (putBitsM_as (K := K) (n := cw) (by omega) b hR (by omega) (nI code) (Nat.le_trans (Zf_le _ _) hZ)).1 (by omega)
        rw [emit_eq cf i4 i5 hp, q_tryL]
        rw [Zf_step] at hZ ⊢
        have hgo := ih (k + 1) q _ _ (up2 D code (ix k) nx) (ix k) (nx + 1) (ew (ec cn cf) cw) (ec cn cf) false (decide (nx = 4095)) (upd kids (256 * code + ix k) (nI nx)) (by omega) (by omega) (LI_add ⟨i1, i2, i3, i4, i5, i6⟩ cf code (ix k)) (by omega) (KR_add hKR (by omega)) (ret8 _) hZ
        show ∃ a, dc_bind (if b2 false = 0 then if inb (nI (256 * code + ix k)) 1048576 = true then if nI nx = 4095 then _ else _ else none else _) _ = _ ∧ _
        rw [if_pos (show b2 false = 0 from rfl), if_pos (q_inb (by omega) (by omega))]
        by_cases c2 : nx = 4095
        · rw [if_pos (show nI nx = 4095 by rw [c2]; rfl)]
          rw [decide_eq_true c2] at hgo hZ ⊢
          unfold f_M_pack_219 f_M_pack_224 f_M_pack_228
          rw [nI_1, nI_1]
          exact hgo
        · rw [if_neg (show ¬ nI nx = 4095 from fun e => c2 ((nI_eq (b := 4095) (by omega) (by omega)).mp e))]
          rw [decide_eq_false c2] at hgo hZ ⊢
          unfold f_M_pack_219 f_M_pack_224 f_M_pack_228
          rw [nI_1, nI_1]
          exact hgo
      | true =>
        rw [lz_full c] at hZ ⊢
        have hZ2 := Zf_le2 Y R (bo (nI code) 0 cw) (bo (nI (2 ^ m)) 0 (ew (ec cn cf) cw) ++ lz m ix r (k + 1) (ix k) D0 (2 ^ m + 2) (m + 1) (2 ^ m + 2) true false)
        have hp := (putBitsM_as (K := K) (n := cw) (by omega) b hR (by omega) (nI code) (Nat.le_trans (Zf_le _ _) hZ)).1 (by omega)
        rw [emit_eq cf i4 i5 hp, q_tryL]
        rw [Zf_step] at hZ ⊢
        have hew := ew_le (ec cn cf) i4
        have hZ3 := Zf_le2 (Y ++ byt (R ++ bo (nI code) 0 cw)) (rst (R ++ bo (nI code) 0 cw)) (bo (nI (2 ^ m)) 0 (ew (ec cn cf) cw)) (lz m ix r (k + 1) (ix k) D0 (2 ^ m + 2) (m + 1) (2 ^ m + 2) true false)
        have hp2 := (putBitsM_as (K := K) (n := ew (ec cn cf) cw) (by omega) b (ret8 (R ++ bo (nI code) 0 cw)) (by omega) (nI (2 ^ m)) (Nat.le_trans (Zf_le _ _) hZ)).1 (by omega)
        show ∃ a, dc_bind (if b2 true = 0 then _ else dc_try (f_M_putBits K (nI (2 ^ m)) (nI (ew (ec cn cf) cw)) (nI (Y ++ byt (R ++ bo (nI code) 0 cw)).length) (vb (rst (R ++ bo (nI code) 0 cw))) (nI (rst (R ++ bo (nI code) 0 cw)).length) (wr b (Y ++ byt (R ++ bo (nI code) 0 cw)))) _ _) _ = _ ∧ _
        rw [if_neg (show ¬ b2 true = 0 by decide), hp2, q_tryL]
        rw [Zf_step] at hZ ⊢
        rw [beginM hm, q_bind]
        obtain ⟨kids', hk1, hk2⟩ := @kids158 K hK (nI ((Y ++ byt (R ++ bo (nI code) 0 cw)) ++ byt (rst (R ++ bo (nI code) 0 cw) ++ bo (nI (2 ^ m)) 0 (ew (ec cn cf) cw))).length) (vb (rst (rst (R ++ bo (nI code) 0 cw) ++ bo (nI (2 ^ m)) 0 (ew (ec cn cf) cw)))) (nI (rst (rst (R ++ bo (nI code) 0 cw) ++ bo (nI (2 ^ m)) 0 (ew (ec cn cf) cw))).length) (nI (m + 1)) (nI (2 ^ m + 2)) 1 (wr b ((Y ++ byt (R ++ bo (nI code) 0 cw)) ++ byt (rst (R ++ bo (nI code) 0 cw) ++ bo (nI (2 ^ m)) 0 (ew (ec cn cf) cw)))) rows (nI m) (nI T) (nI (2 ^ m)) (nI k) (nI (ix k)) kids
        have hgo := ih (k + 1) q _ _ D0 (ix k) (2 ^ m + 2) (m + 1) (2 ^ m + 2) true false kids' (by omega) (by omega) (LI_0 hm) (by omega) (KR_0 hk1) (ret8 _) hZ
        rw [hk2, q_bind, show nI (2 ^ m) + 2 = nI (2 ^ m + 2) from nI_add _ 2]
        unfold f_M_pack_224 f_M_pack_228
        rw [nI_1]
        exact hgo
    · rw [if_neg (nI_ne0 (by omega) (by omega)), if_pos (q_inb (by omega) (by omega))]
      rw [lz_go c] at hZ ⊢
      unfold f_M_pack_228
      rw [nI_1]
      exact ih (k + 1) q Y R D (D code (ix k)) nx cw cn cf fu kids (by omega) (by omega) ⟨i1, i2, i3, i4, i5, i6⟩ hD hKR hR hZ
/-- all the bits of a packed image -/
def lzA (m : Nat) (ix : Nat → Nat) (T : Nat) : List Bool := bo (nI (2 ^ m)) 0 (m + 1) ++ lzB m ix T 0 D0 (2 ^ m + 2) (m + 1) (2 ^ m + 2) true false
theorem lzA_len {m T : Nat} (hm : m ≤ 8) (hT : T ≤ 16384) (ix : Nat → Nat) : (lzA m ix T).length ≤ 200000 := by
  have hp := m_pow hm
  have hp0 : 0 < 2 ^ m := Nat.two_pow_pos m
  unfold lzA
  rw [List.length_append, bo_len]
  cases T with
  | zero => show _ + (bo _ 0 _).length ≤ _; rw [bo_len]; omega
  | succ T =>
    have h := lz_len hm ix T 1 (ix 0) D0 (2 ^ m + 2) (m + 1) (2 ^ m + 2) true false (LI_0 hm)
    have h2 : (T + (2 ^ m + 2) - 258) / 3838 ≤ 16384 / 3838 := Nat.div_le_div_right (by omega)
    show _ + (lz m ix T 1 (ix 0) D0 (2 ^ m + 2) (m + 1) (2 ^ m + 2) true false).length ≤ _
    omega
theorem packD {K m T : Nat} (hK : 17000 < K) (hm : m ≤ 8) {ix : Nat → Nat} {ixs : Nat → Int32} (hT : T ≤ 16384) (hix : ∀ i, i < T → ixs i = nI (ix i)) (hlt : ∀ i, i < T → ix i < 2 ^ m) (b : Nat → Int32) (a1 a2 a3 a4 a5 a6 a7 : Int32) (nl li os : Nat → Int32) : ∃ a, f_GifWriter_pack K 32768 (nI T) (nI m) a1 a2 a3 a4 a5 a6 a7 b nl ixs li os = some (.inl a) ∧ a.2.2.2.2.2.1 = nI (Zf [] (lzA m ix T)).length ∧ a.2.2.2.2.2.2.2.2.1 = wr b (Zf [] (lzA m ix T)) := by
  have hpm := m_pow hm
  have hp0 : 0 < 2 ^ m := Nat.two_pow_pos m
  have hZ : (Zf [] (lzA m ix T)).length ≤ 32768 := by
    have h1 := Zf_len [] (lzA m ix T)
    have h2 := lzA_len hm hT ix
    have h3 : ([] : List Int32).length = 0 := rfl
    omega
  unfold lzA at hZ ⊢
  rw [show bo (nI (2 ^ m)) 0 (m + 1) ++ lzB m ix T 0 D0 (2 ^ m + 2) (m + 1) (2 ^ m + 2) true false = [] ++ (bo (nI (2 ^ m)) 0 (m + 1) ++ lzB m ix T 0 D0 (2 ^ m + 2) (m + 1) (2 ^ m + 2) true false) from rfl] at hZ ⊢
  have hZ2 := Zf_le2 [] [] (bo (nI (2 ^ m)) 0 (m + 1)) (lzB m ix T 0 D0 (2 ^ m + 2) (m + 1) (2 ^ m + 2) true false)
  have hp := (putBits_as (K := K) (N := 32768) (n := m + 1) (by omega) (by omega) b (Y := []) (R := []) (by decide) (by omega) (nI (2 ^ m)) (Nat.zero_le _)).1 (by omega)
  rw [wr_nil] at hp
  have hp' : f_Sink_putBits K 32768 (nI (2 ^ m)) (nI (m + 1)) 0 0 0 b = _ := hp
  obtain ⟨nl', hn1, hn3⟩ := begin_eq (K := K) (m := m) (nl := nl) (by omega) hm a1 a3 a4 hp'
  rw [Zf_step] at hZ ⊢
  have hgo := packD_L hK hm hT hix hlt b T T 0 K _ _ D0 (2 ^ m + 2) (m + 1) (2 ^ m + 2) true false nl' li os (by omega) (by omega) (by omega) (LI_0 hm) (CR_0 _ _ _ hn1) (ret8 _) (fun _ => rfl) hZ
  unfold f_GifWriter_pack f_Sink_restart
  rw [q_bind, nI_1]
  show ∃ a, dc_try (f_GifWriter_putBeginning K 32768 (nI m) a1 (nI (m + 1)) a3 a4 0 0 0 b nl) _ _ = _ ∧ _
  rw [hn3, q_tryL]
  exact hgo
theorem packM {K m T : Nat} (hK : 1048577 < K) (hm : m ≤ 8) (hT0 : 0 < T) {ix : Nat → Nat} {rows : Nat → Int32} (hT : T ≤ 16384) (hix : ∀ i, i < T → rows i &&& 255 = nI (ix i)) (hlt : ∀ i, i < T → ix i < 2 ^ m) (b : Nat → Int32) {Y : List Int32} (hY : Y.length ≤ 2000) (a1 a2 a3 a4 a5 : Int32) (kids : Nat → Int32) : ∃ a, f_M_pack K (nI m) (nI T) (nI Y.length) a1 a2 a3 a4 a5 (wr b Y) kids rows = some (.inl a) ∧ a.2.1 = nI (Zf Y (lzA m ix T)).length ∧ a.2.2.2.2.2.2.2.1 = wr b (Zf Y (lzA m ix T)) := by
  have hpm := m_pow hm
  have hp0 : 0 < 2 ^ m := Nat.two_pow_pos m
  have hZ : (Zf Y (lzA m ix T)).length ≤ 262144 := by
    have h1 := Zf_len Y (lzA m ix T)
    have h2 := lzA_len hm hT ix
    omega
  unfold lzA at hZ ⊢
  rw [show bo (nI (2 ^ m)) 0 (m + 1) ++ lzB m ix T 0 D0 (2 ^ m + 2) (m + 1) (2 ^ m + 2) true false = [] ++ (bo (nI (2 ^ m)) 0 (m + 1) ++ lzB m ix T 0 D0 (2 ^ m + 2) (m + 1) (2 ^ m + 2) true false) from rfl] at hZ ⊢
  have hZ2 := Zf_le2 Y [] (bo (nI (2 ^ m)) 0 (m + 1)) (lzB m ix T 0 D0 (2 ^ m + 2) (m + 1) (2 ^ m + 2) true false)
  have hp := (putBitsM_as (K := K) (n := m + 1) (by omega) b (Y := Y) (R := []) (by decide) (by omega) (nI (2 ^ m)) (by omega)).1 (by omega)
  rw [Zf_step] at hZ ⊢
  obtain ⟨T1, rfl⟩ : ∃ q, T = q + 1 := ⟨T - 1, by omega⟩
  have hlt0 := hlt 0 (by omega)
  unfold f_M_pack
  rw [beginM hm, q_bind, pow_sh m (by omega)]
  show ∃ a, dc_try (f_M_putBits K (nI (2 ^ m)) (nI (m + 1)) (nI Y.length) 0 0 (wr b Y)) _ _ = _ ∧ _
  rw [show f_M_putBits K (nI (2 ^ m)) (nI (m + 1)) (nI Y.length) 0 0 (wr b Y) = _ from hp, q_tryL]
  obtain ⟨kids', hk1, hk2⟩ := @kids31 K hK (nI (Y ++ byt ([] ++ bo (nI (2 ^ m)) 0 (m + 1))).length) (vb (rst ([] ++ bo (nI (2 ^ m)) 0 (m + 1)))) (nI (rst ([] ++ bo (nI (2 ^ m)) 0 (m + 1))).length) (nI (m + 1)) (nI (2 ^ m + 2)) 1 (wr b (Y ++ byt ([] ++ bo (nI (2 ^ m)) 0 (m + 1)))) rows (nI m) (nI (T1 + 1)) (nI (2 ^ m)) kids
  have hgo := packM_L hK hm hT hix hlt b T1 1 K _ _ D0 (ix 0) (2 ^ m + 2) (m + 1) (2 ^ m + 2) true false kids' (by omega) (by omega) (LI_0 hm) (by omega) (KR_0 hk1) (ret8 _) hZ
  show ∃ a, dc_bind (f_M_pack_L31 _ _ _ _ _ _ _ _ _ _ _ _ _ _ _) _ = _ ∧ _
  rw [hk2, q_bind, if_pos (by decide), show (0 : Int32).toNatClampNeg = 0 from rfl, hix 0 (by omega), show nI (2 ^ m) + 2 = nI (2 ^ m + 2) from nI_add _ 2]
  rw [pow_sh m (by omega)] at hgo
  exact hgo
