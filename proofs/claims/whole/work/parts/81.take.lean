/-! the pure half: codes of the reference; a code taken -/
theorem mk3_L {K N a n : Nat} {A : Nat → Int32} {t_all : Int32} {a_t_meanings : Nat → Int32} (C : Nat → Int32) (hK : 16 < K) : (f_MCodes_make_L3 K N t_all A a_t_meanings (nI a) (nI n) K C 0) = some (fun j => if j < 16 then 0 else C j) := by
  have h := loop_it (c := 16) (f_MCodes_make_L3 K N t_all A a_t_meanings (nI a) (nI n)) (fun k f => upd f k 0) (fun q s => ?_) (fun q k s hk => ?_) 16 0 C K (by omega) (by omega)
  · rw [it_map (fun _ _ => 0)] at h
    refine Eq.trans h (congrArg some (funext fun j => ?_))
    by_cases c : j < 16
    · rw [if_pos (by omega), if_pos c]
    · rw [if_neg (by omega), if_neg c]
  · show (f_MCodes_make_3 K N _ t_all s A a_t_meanings (nI a) (nI n) (nI 16)) = _
    unfold f_MCodes_make_3
    rw [if_pos (show (16 : Int32) ≤ nI 16 by decide)]
  · show (f_MCodes_make_3 K N _ t_all s A a_t_meanings (nI a) (nI n) (nI k)) = _
    unfold f_MCodes_make_3
    rw [if_neg (show ¬ (16 : Int32) ≤ nI k from show ¬ nI 16 ≤ nI k from nI_ge hk (by omega)), if_pos (q_inb hk (by omega)), nI_clamp (by omega), nI_1]
/-- what is laid when l - 1 lengths are done, and of length l those below k -/
def Mk (L : Nat → Nat) (n l k : Nat) (C Mn : Nat → Int32) : Prop := (∀ l', 1 ≤ l' → l' < l → C l' = nI (cn L l' n)) ∧ (C l = nI (cn L l k)) ∧ (∀ l', l < l' → l' < 16 → C l' = 0) ∧ ∀ m, m < n → 1 ≤ L m → (L m < l ∨ (L m = l ∧ m < k)) → Mn (sn L n (L m) + cn L (L m) m) = nI m
theorem mk42_L {K N a n l : Nat} {A : Nat → Int32} {L : Nat → Nat} (hA : Ln A a n L) (hn : n ≤ 320) (hN : a + n ≤ N) (hN2 : N < 2 ^ 20) (hl1 : 1 ≤ l) (hl : l < 16) : ∀ (r k q : Nat) (C Mn : Nat → Int32), k + r = n → r < q → Mk L n l k C Mn → ∃ C' Mn', (f_MCodes_make_L42 K N A (nI a) (nI n) (nI l) q (nI (sn L n l + cn L l k)) C Mn (nI k)) = some (nI (sn L n (l + 1)), C', Mn') ∧ Mk L n l n C' Mn' := by
  intro r
  induction r with
  | zero =>
    intro k q C Mn hk hq hI
    obtain ⟨q, rfl⟩ : ∃ w, q = w + 1 := ⟨q - 1, by omega⟩
    have e : k = n := by omega
    subst e
    refine ⟨C, Mn, ?_, hI⟩
    show (f_MCodes_make_42 K N _ (nI (sn L k l + cn L l k)) C A Mn (nI a) (nI k) (nI l) (nI k)) = _
    unfold f_MCodes_make_42
    rw [if_pos (nI_le (by omega) (by omega)), sn_s L k hl1]
  | succ r ih =>
    intro k q C Mn hk hq hI
    obtain ⟨q, rfl⟩ : ∃ w, q = w + 1 := ⟨q - 1, by omega⟩
    obtain ⟨e1, e2⟩ := hA k (by omega)
    obtain ⟨i1, i2, i3, i4⟩ := hI
    by_cases c0 : L k = l
    · have hlt := cn_lt (show k < n by omega) c0
      have hs := sn_n L n (l + 1)
      rw [sn_s L n hl1] at hs
      obtain ⟨C', Mn', h1, h2⟩ := ih (k + 1) q (upd C l (nI (cn L l k + 1))) (upd Mn (sn L n l + cn L l k) (nI k)) (by omega) (by omega) ⟨fun l' a1 a2 => by rw [upd_ne _ _ (by omega)]; exact i1 l' a1 a2, by rw [upd_at, cn_y c0], fun l' a1 a2 => by rw [upd_ne _ _ (by omega)]; exact i3 l' a1 a2, fun m a1 a2 a3 => by
        by_cases c : m = k
        · rw [c, c0, upd_at]
        · have hne := place_ne (L := L) (n := n) (m := k) (m' := m) a1 (by omega) (by omega) a2 (fun _ => by omega)
          rw [c0] at hne
          rw [upd_ne _ _ hne]
          exact i4 m a1 a2 (by omega)⟩
      refine ⟨C', Mn', ?_, h2⟩
      rw [← h1, cn_y c0]
      show (f_MCodes_make_42 K N _ (nI (sn L n l + cn L l k)) C A Mn (nI a) (nI n) (nI l) (nI k)) = _
      unfold f_MCodes_make_42 f_MCodes_make_94
      rw [if_neg (nI_ge (by omega) (by omega)), nI_add, if_pos (q_inb (by omega) (by omega)), nI_clamp (show a + k < 2 ^ 31 by omega), e1, c0, if_pos (rfl : nI l = nI l), if_pos (q_inb (show l < 16 from hl) (by omega)), if_pos (q_inb (show l < 16 from hl) (by omega)), if_pos (q_inb (show sn L n l + cn L l k < 320 by omega) (by omega)), nI_clamp (show l < 2 ^ 31 by omega), nI_clamp (show sn L n l + cn L l k < 2 ^ 31 by omega), i2, nI_1, nI_1, nI_1, Nat.add_assoc]
    · obtain ⟨C', Mn', h1, h2⟩ := ih (k + 1) q C Mn (by omega) (by omega) ⟨i1, by rw [cn_n c0]; exact i2, i3, fun m a1 a2 a3 => by
        by_cases c : m = k
        · rw [c] at a3
          exact i4 m a1 a2 (by rw [c]; omega)
        · exact i4 m a1 a2 (by omega)⟩
      refine ⟨C', Mn', ?_, h2⟩
      rw [← h1, cn_n c0]
      show (f_MCodes_make_42 K N _ (nI (sn L n l + cn L l k)) C A Mn (nI a) (nI n) (nI l) (nI k)) = _
      unfold f_MCodes_make_42 f_MCodes_make_94
      rw [if_neg (nI_ge (by omega) (by omega)), nI_add, if_pos (q_inb (by omega) (by omega)), nI_clamp (show a + k < 2 ^ 31 by omega), e1, if_neg (fun q => c0 ((nI_eq32 (by omega) (by omega)).mp q)), nI_1]
theorem mk32_L {K N a n : Nat} (hK : 1000 < K) {A : Nat → Int32} {L : Nat → Nat} (hA : Ln A a n L) (hn : n ≤ 320) (hN : a + n ≤ N) (hN2 : N < 2 ^ 20) : ∀ (r l q : Nat) (C Mn : Nat → Int32), l + r = 16 → r < q → 1 ≤ l → (∀ l', 1 ≤ l' → l' < l → C l' = nI (cn L l' n)) → (∀ l', l ≤ l' → l' < 16 → C l' = 0) → (∀ m, m < n → 1 ≤ L m → L m < l → Mn (sn L n (L m) + cn L (L m) m) = nI m) → ∃ C' Mn', (f_MCodes_make_L32 K N A (nI a) (nI n) q (nI (sn L n l)) C Mn (nI l)) = some (nI (sn L n 16), C', Mn') ∧ Cd L n C' Mn' := by
  intro r
  induction r with
  | zero =>
    intro l q C Mn hl hq h1 i1 i2 i3
    obtain ⟨q, rfl⟩ : ∃ w, q = w + 1 := ⟨q - 1, by omega⟩
    have e : l = 16 := by omega
    subst e
    refine ⟨C, Mn, ?_, i1, fun m a1 a2 => i3 m a1 a2 (hA m a1).2⟩
    show (f_MCodes_make_32 K N _ (nI (sn L n 16)) C A Mn (nI a) (nI n) (nI 16)) = _
    unfold f_MCodes_make_32
    rw [if_pos (show (16 : Int32) ≤ nI 16 by decide)]
  | succ r ih =>
    intro l q C Mn hl hq h1 i1 i2 i3
    obtain ⟨q, rfl⟩ : ∃ w, q = w + 1 := ⟨q - 1, by omega⟩
    obtain ⟨C1, Mn1, h2, j1, j2, j3, j4⟩ := mk42_L (K := K) hA hn hN hN2 h1 (show l < 16 by omega) n 0 K C Mn (by omega) (by omega) ⟨i1, i2 l (by omega) (by omega), fun l' a1 a2 => i2 l' (by omega) a2, fun m a1 a2 a3 => i3 m a1 a2 (by omega)⟩
    obtain ⟨C', Mn', h3, h4⟩ := ih (l + 1) q C1 Mn1 (by omega) (by omega) (by omega) (fun l' a1 a2 => by
      by_cases c : l' = l
      · rw [c]; exact j2
      · exact j1 l' a1 (by omega)) (fun l' a1 a2 => j3 l' (by omega) a2) (fun m a1 a2 a3 => j4 m a1 a2 (by omega))
    refine ⟨C', Mn', ?_, h4⟩
    rw [← h3]
    show (f_MCodes_make_32 K N _ (nI (sn L n l)) C A Mn (nI a) (nI n) (nI l)) = _
    unfold f_MCodes_make_32
    have h2' : (f_MCodes_make_L42 K N A (nI a) (nI n) (nI l) K (nI (sn L n l)) C Mn 0) = _ := h2
    rw [if_neg (show ¬ (16 : Int32) ≤ nI l from show ¬ nI 16 ≤ nI l from nI_ge (by omega) (by omega)), h2', q_bind, nI_1]
theorem nI_subsub (x y z : Nat) : (nI x - nI y) - nI z = nI x - nI (y + z) := by
  rw [← nI_add, Int32.sub_sub]
theorem mk113_L {K N n : Nat} {A : Nat → Int32} {L : Nat → Nat} (hn : n ≤ 320) {C : Nat → Int32} (hC : ∀ l, 1 ≤ l → l < 16 → C l = nI (cn L l n)) {t_all : Int32} {a_t_meanings : Nat → Int32} : ∀ (r l q : Nat), l + r = 16 → r < q → 1 ≤ l → (f_MCodes_make_L113 K N t_all C A a_t_meanings q (nI 32768 - nI (wn L n l)) (nI l)) = some (nI 32768 - nI (wn L n 16)) := by
  intro r
  induction r with
  | zero =>
    intro l q hl hq h1
    obtain ⟨q, rfl⟩ : ∃ w, q = w + 1 := ⟨q - 1, by omega⟩
    have e : l = 16 := by omega
    subst e
    show (f_MCodes_make_113 K N _ t_all C A a_t_meanings (nI 32768 - nI (wn L n 16)) (nI 16)) = _
    unfold f_MCodes_make_113
    rw [if_pos (show (16 : Int32) ≤ nI 16 by decide)]
  | succ r ih =>
    intro l q hl hq h1
    obtain ⟨q, rfl⟩ : ∃ w, q = w + 1 := ⟨q - 1, by omega⟩
    have hc := cn_le L l n
    have hp : 2 ^ (15 - l) ≤ 2 ^ 14 := Nat.pow_le_pow_right (by omega) (by omega)
    have hb : cn L l n * 2 ^ (15 - l) ≤ 320 * 2 ^ 14 := Nat.mul_le_mul (by omega) hp
    rw [← ih (l + 1) q (by omega) (by omega) (by omega), wn_s L n h1]
    show (f_MCodes_make_113 K N _ t_all C A a_t_meanings (nI 32768 - nI (wn L n l)) (nI l)) = _
    unfold f_MCodes_make_113
    rw [if_neg (show ¬ (16 : Int32) ≤ nI l from show ¬ nI 16 ≤ nI l from nI_ge (by omega) (by omega)), if_pos (q_inb (by omega) (by omega)), nI_clamp (by omega), hC l h1 (by omega), show (15 : Int32) - nI l = nI (15 - l) from pk_sub (a := 15) (by omega), pk_shlN (nI (15 - l) &&& 31) (15 - l) (sh_amt _ (by omega)) (by omega), nI_subsub, nI_1]
theorem make_okM {K N n a : Nat} (hK : 1000 < K) {A : Nat → Int32} {L : Nat → Nat} (hA : Ln A a n L) (hn : n ≤ 320) (hN : a + n ≤ N) (hN2 : N < 2 ^ 20) (U : Int32) (C Mn : Nat → Int32) : ∃ C' Mn', (f_MCodes_make K N (nI a) (nI n) U C A Mn) = some (nI 32768 - nI (wn L n 16), (nI (sn L n 16), C', Mn')) ∧ Cd L n C' Mn' := by
  obtain ⟨C', Mn', h1, h2⟩ := mk32_L hK hA hn hN hN2 15 1 K (fun j => if j < 16 then 0 else C j) Mn (by omega) (by omega) (by omega) (fun l' a1 a2 => by omega) (fun l' a1 a2 => if_pos a2) (fun m a1 a2 a3 => by omega)
  refine ⟨C', Mn', ?_, h2⟩
  unfold f_MCodes_make
  have h1' : (f_MCodes_make_L32 K N A (nI a) (nI n) K 0 (fun j => if j < 16 then 0 else C j) Mn 1) = _ := h1
  have h3 := mk113_L (K := K) (N := N) (A := A) hn h2.1 (t_all := nI (sn L n 16)) (a_t_meanings := Mn') 15 1 K (by omega) (by omega) (by omega)
  rw [show nI 32768 - nI (wn L n 1) = nI 32768 from show nI 32768 - nI 0 = nI 32768 by decide] at h3
  have h3' : f_MCodes_make_L113 K N (nI (sn L n 16)) C' A Mn' K (nI 32768) (nI 1) = _ := h3
  rw [mk3_L C (by omega), q_bind, h1', q_bind]
  dsimp only
  rw [show (32768 : Int32) = nI 32768 from rfl, show (1 : Int32) = nI 1 from rfl, h3', q_bind]
theorem left_0 {a : Nat} (h : a < 2 ^ 31) : nI 32768 - nI a = 0 ↔ a = 32768 := by
  constructor
  · intro e
    have e2 : nI 32768 = nI a := by
      have e3 := congrArg (fun z => z + nI a) e
      have e4 : nI 32768 - nI a + nI a = 0 + nI a := e3
      rw [Int32.sub_add_cancel, Int32.zero_add] at e4
      exact e4
    exact ((nI_eq32 (by omega) (by omega)).mp e2).symm
  · intro e
    rw [e]
    rfl
/-! bits, both sides -/
def Bq (g m : Nat) (dat : Nat → Nat) (b : Nat) (A S H : Int32) : Prop := ∃ a held, A = nI (g + a) ∧ S = nI (vN dat b held) ∧ H = nI held ∧ 8 * a = b + held ∧ a ≤ m ∧ held < 8
theorem Bq.le {g m b : Nat} {dat : Nat → Nat} {A S H : Int32} (h : Bq g m dat b A S H) : b ≤ 8 * m := by
  obtain ⟨a, held, -, -, -, h1, h2, h3⟩ := h
  omega
theorem bits_lk {K g m b x : Nat} (hK : 40 < K) {T D : Nat → Int32} {dat : Nat → Nat} (ht : Dt g m T dat) (hd : Dt 0 m D dat) (hg : g + m ≤ 65536) (hx : x ≤ 16) {A S H : Int32} (hq : Bq g m dat b A S H) : Lk (fun u v => ∃ A' S' H', u = (nI (vN dat b x), A', S', H') ∧ v = (nI (vN dat b x), nI (b + x)) ∧ Bq g m dat (b + x) A' S' H') (f_Source_bits K (nI x) A (nI (g + m)) S H T) (f_M_bits K (nI x) (nI m) (nI b) D) := by
  have hb := hq.le
  obtain ⟨a, held, rfl, rfl, rfl, h1, h2, h3⟩ := hq
  have hD := bitsD (K := K) (x := x) (by omega) ht hg hx h1 h2 h3
  have hM := bitsM (K := K) (x := x) hK hd (by omega) (by omega) hb
  by_cases c : b + x ≤ 8 * m
  · obtain ⟨v, e, h4, h5, h6⟩ := hD.1 c
    rw [e, hM.1 c]
    exact Lk.yes ⟨_, _, _, rfl, rfl, v.1, v.2, rfl, rfl, rfl, h4, h5, h6⟩
  · exact Lk.no (hD.2 c) (hM.2 c)
theorem vN_1 (dat : Nat → Nat) (b : Nat) : vN dat b 1 < 2 := vN_lt dat b 1
theorem code_s {c b : Nat} (hc : c < 2 ^ 20) (hb : b < 2) : (nI c <<< ((1 : Int32) &&& 31)) ||| nI b = nI (2 * c + b) := by
  have e : nI c <<< ((1 : Int32) &&& 31) = nI (c * 2 ^ 1) := pk_shlN (nI 1 &&& 31) 1 (sh_amt 1 (by omega)) (by omega)
  rw [e, nI_or, ← Nat.shiftLeft_eq, ← Nat.shiftLeft_add_eq_or_of_lt (show b < 2 ^ 1 by omega), Nat.shiftLeft_eq]
  congr 1
  omega
theorem sh_1 {c : Nat} (hc : c < 2 ^ 20) : nI c <<< ((1 : Int32) &&& 31) = nI (2 * c) := by
  have e : nI c <<< ((1 : Int32) &&& 31) = nI (c * 2 ^ 1) := pk_shlN (nI 1 &&& 31) 1 (sh_amt 1 (by omega)) (by omega)
  rw [e, Nat.mul_comm]
/-- the place of a meaning -/
theorem place_ex {L : Nat → Nat} {n l i : Nat} (h1 : 1 ≤ l) (hi : i < cn L l n) {C Mn C' Mn' : Nat → Int32} (hD : Cd L n C Mn) (hM : Cd L n C' Mn') : ∃ v, v < n ∧ L v = l ∧ Mn (sn L n l + i) = nI v ∧ Mn' (sn L n l + i) = nI v := by
  obtain ⟨m, a1, a2, a3⟩ := cn_ex L l n i hi
  have b1 := hD.2 m a1 (by omega)
  have b2 := hM.2 m a1 (by omega)
  rw [a2, a3] at b1 b2
  exact ⟨m, a1, a2, b1, b2⟩
/-- the loops' ends: D found, or none; M likewise -/
def Lt {α β ε α' β' ε' : Type} (R : α → α' → Prop) (m : Option (α ⊕ (β ⊕ (Nat × ε)))) (m' : Option (α' ⊕ (β' ⊕ (Nat × ε')))) : Prop := (((∃ u, m = some (.inr (.inr (3, u)))) ∨ ∃ u, m = some (.inr (.inl u))) ∧ ((∃ u, m' = some (.inr (.inr (3, u)))) ∨ ∃ u, m' = some (.inr (.inl u)))) ∨ ∃ a b, m = some (.inl a) ∧ m' = some (.inl b) ∧ R a b
theorem take_L {K g m n Mx : Nat} (hK : 40 < K) {T D CD MD CM MM : Nat → Int32} {dat L : Nat → Nat} (ht : Dt g m T dat) (hd : Dt 0 m D dat) (hg : g + m ≤ 65536) (hn : n ≤ 400) (hcD : Cd L n CD MD) (hcM : Cd L n CM MM) : ∀ (r l qD qM b c f : Nat) (A S H : Int32), l + r = 16 → r < qD → r < qM → 1 ≤ l → f ≤ c → c < 2 ^ (l - 1) → Bq g m dat b A S H → Lt (fun x y => ∃ l i b' A' S' H' cc ff, 1 ≤ l ∧ i < cn L l n ∧ b < b' ∧ x = (A', S', H', nI (sn L n l), nI i) ∧ y = (nI b', nI cc, nI ff, nI (sn L n l)) ∧ cc = ff + i ∧ cc < 65536 ∧ Bq g m dat b' A' S' H') (f_Codes_take_L10 K Mx (nI (g + m)) T CD MD qD A S H (nI c) (nI (2 * f)) (nI (sn L n l)) (nI l)) (f_M_meaning_L10 K (nI m) D CM MM qM (nI b) (nI c) (nI f) (nI (sn L n l)) (nI l)) := by
  intro r
  induction r with
  | zero =>
    intro l qD qM b c f A S H hl hqD hqM h1 hf hc hq
    obtain ⟨qD, rfl⟩ : ∃ w, qD = w + 1 := ⟨qD - 1, by omega⟩
    obtain ⟨qM, rfl⟩ : ∃ w, qM = w + 1 := ⟨qM - 1, by omega⟩
    have e : l = 16 := by omega
    subst e
    refine Or.inl ⟨Or.inr ⟨(A, S, H), ?_⟩, Or.inr ⟨nI b, ?_⟩⟩
    · show (f_Codes_take_10 K Mx _ A (nI (g + m)) S H T CD MD (nI c) (nI (2 * f)) (nI (sn L n 16)) (nI 16)) = _
      unfold f_Codes_take_10
      rw [if_pos (show (15 : Int32) < nI 16 by decide)]
    · show (f_M_meaning_10 K _ (nI m) (nI b) D CM MM (nI c) (nI f) (nI (sn L n 16)) (nI 16)) = _
      unfold f_M_meaning_10
      rw [if_pos (show (16 : Int32) ≤ nI 16 by decide)]
  | succ r ih =>
    intro l qD qM b c f A S H hl hqD hqM h1 hf hc hq
    obtain ⟨qD, rfl⟩ : ∃ w, qD = w + 1 := ⟨qD - 1, by omega⟩
    obtain ⟨qM, rfl⟩ : ∃ w, qM = w + 1 := ⟨qM - 1, by omega⟩
    have eD : (f_Codes_take_L10 K Mx (nI (g + m)) T CD MD (qD + 1) A S H (nI c) (nI (2 * f)) (nI (sn L n l)) (nI l)) = (f_Codes_take_10 K Mx ((f_Codes_take_L10 K Mx (nI (g + m)) T CD MD) qD) A (nI (g + m)) S H T CD MD (nI c) (nI (2 * f)) (nI (sn L n l)) (nI l)) := rfl
    have eM : (f_M_meaning_L10 K (nI m) D CM MM (qM + 1) (nI b) (nI c) (nI f) (nI (sn L n l)) (nI l)) = (f_M_meaning_10 K ((f_M_meaning_L10 K (nI m) D CM MM) qM) (nI m) (nI b) D CM MM (nI c) (nI f) (nI (sn L n l)) (nI l)) := rfl
    rw [eD, eM]
    clear eD eM
    unfold f_Codes_take_10 f_M_meaning_10
    rw [if_neg (show ¬ (15 : Int32) < nI l from show ¬ nI 15 < nI l from nI_nlt (by omega) (by omega)), if_neg (show ¬ (16 : Int32) ≤ nI l from show ¬ nI 16 ≤ nI l from nI_ge (by omega) (by omega))]
    have hb := bits_lk (K := K) (x := 1) hK ht hd hg (by omega) hq
    have hb2 : Lk _ (f_Source_bits K 1 A (nI (g + m)) S H T) (f_M_bits K 1 (nI m) (nI b) D) := hb
    rcases hb2 with ⟨⟨u, hu⟩, ⟨v, hv⟩⟩ | ⟨x, y, hx, hy, A', S', H', rfl, rfl, hq'⟩
    · rw [hu, hv, q_tryR, q_tryR]
      exact Or.inl ⟨Or.inl ⟨_, rfl⟩, Or.inl ⟨_, rfl⟩⟩
    · have hv1 := vN_1 dat b
      generalize vN dat b 1 = w at hv1 hx hy
      have hp : 2 ^ (l - 1) ≤ 2 ^ 14 := Nat.pow_le_pow_right (by omega) (by omega)
      have hp2 : 2 ^ l = 2 * 2 ^ (l - 1) := by
        obtain ⟨k, rfl⟩ : ∃ k, l = k + 1 := ⟨l - 1, by omega⟩
        rw [Nat.add_sub_cancel, Nat.pow_succ]
        omega
      have hcn := cn_le L l n
      have hsn := sn_n L n l
      rw [hx, hy, q_tryL, q_tryL, if_pos (q_inb (by omega) (by omega)), if_pos (q_inb (by omega) (by omega)), nI_clamp (show l < 2 ^ 31 by omega), hcD.1 l h1 (by omega), hcM.1 l h1 (by omega), code_s (by omega) hv1, sh_1 (show f < 2 ^ 20 by omega), pk_sub (show 2 * f ≤ 2 * c + w by omega)]
      by_cases cc : cn L l n ≤ 2 * c + w - 2 * f
      · rw [if_pos (nI_le cc (by omega)), if_pos (nI_le cc (by omega)), if_pos (q_inb (by omega) (by omega)), if_pos (q_inb (by omega) (by omega)), if_pos (q_inb (by omega) (by omega)), if_pos (q_inb (by omega) (by omega)), nI_add, nI_add, ← sn_s L n h1, sh_1 (show 2 * f + cn L l n < 2 ^ 20 by omega), nI_1]
        have h := ih (l + 1) qD qM (b + 1) (2 * c + w) (2 * f + cn L l n) A' S' H' (by omega) (by omega) (by omega) (by omega) (by omega) (by rw [Nat.add_sub_cancel]; omega) hq'
        rcases h with h | ⟨x, y, e1, e2, l2, i, b', A2, S2, H2, c2, f2, k1, k2, k3, k⟩
        · exact Or.inl h
        · exact Or.inr ⟨x, y, e1, e2, l2, i, b', A2, S2, H2, c2, f2, k1, k2, by omega, k⟩
      · rw [if_neg (nI_ge (by omega) (by omega)), if_neg (nI_ge (by omega) (by omega)), if_pos (q_inb (by omega) (by omega))]
        exact Or.inr ⟨_, _, rfl, rfl, l, 2 * c + w - 2 * f, b + 1, A', S', H', 2 * c + w, 2 * f, h1, by omega, by omega, rfl, rfl, by omega, by omega, hq'⟩
/-- a code taken: its meaning is below n, and has a length -/
theorem take_lk {K g m n Mx b : Nat} (hK : 40 < K) {T D CD MD CM MM : Nat → Int32} {dat L : Nat → Nat} (ht : Dt g m T dat) (hd : Dt 0 m D dat) (hg : g + m ≤ 65536) (hn : n ≤ 320) (hM : n ≤ Mx) (hM2 : Mx < 2 ^ 20) (hcD : Cd L n CD MD) (hcM : Cd L n CM MM) {A S H : Int32} (hq : Bq g m dat b A S H) : Lk (fun x y => ∃ v b' A' S' H', v < n ∧ b < b' ∧ x = (nI v, A', S', H') ∧ y = (nI v, nI b') ∧ Bq g m dat b' A' S' H') (f_Codes_take K Mx A (nI (g + m)) S H T CD MD) (f_M_meaning K (nI m) (nI b) D CM MM) := by
  have h := take_L (Mx := Mx) hK ht hd hg (by omega) hcD hcM 15 1 K K b 0 0 A S H (by omega) (by omega) (by omega) (by omega) (by omega) (by decide) hq
  have h2 : Lt _ (f_Codes_take_L10 K Mx (nI (g + m)) T CD MD K A S H 0 0 0 1) (f_M_meaning_L10 K (nI m) D CM MM K (nI b) 0 0 0 1) := h
  unfold f_Codes_take f_M_meaning
  rcases h2 with ⟨hD, hM'⟩ | ⟨x, y, e1, e2, l, i, b', A', S', H', cc, ff, k1, k2, k3, rfl, rfl, k4, k5, k6⟩
  · refine Lk.no ?_ ?_
    · rcases hD with ⟨u, hu⟩ | ⟨u, hu⟩
      · rw [hu]
        exact ⟨_, rfl⟩
      · rw [hu]
        exact ⟨_, rfl⟩
    · rcases hM' with ⟨u, hu⟩ | ⟨u, hu⟩
      · rw [hu]
        exact ⟨_, rfl⟩
      · rw [hu]
        exact ⟨_, rfl⟩
  · obtain ⟨v, v1, v2, v3, v4⟩ := place_ex k1 k2 hcD hcM
    have hs := sn_n L n (l + 1)
    rw [sn_s L n k1] at hs
    rw [e1, e2, q_bind, q_bind]
    show Lk _ (if inb (nI (sn L n l) + nI i) Mx = true then some (Sum.inl (MD ((nI (sn L n l) + nI i).toNatClampNeg), (A', S', H'))) else none) (if inb ((nI (sn L n l) + nI cc) - nI ff) 320 = true then some (Sum.inl (MM (((nI (sn L n l) + nI cc) - nI ff).toNatClampNeg), nI b')) else none)
    rw [nI_add, nI_add, pk_sub (show ff ≤ sn L n l + cc by omega), show sn L n l + cc - ff = sn L n l + i by omega, if_pos (q_inb (by omega) (by omega)), if_pos (q_inb (by omega) (by omega)), nI_clamp (by omega), v3, v4]
    exact Lk.yes ⟨v, b', A', S', H', v1, k3, rfl, rfl, k6⟩
