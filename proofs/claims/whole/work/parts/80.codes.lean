/-! the pure half: codes -/
/-- how many of the first n have length l -/
def cn (L : Nat → Nat) (l : Nat) : Nat → Nat
  | 0 => 0
  | m + 1 => cn L l m + if L m = l then 1 else 0
/-- how many have a length of 1 .. l - 1 -/
def sn (L : Nat → Nat) (n : Nat) : Nat → Nat
  | 0 => 0
  | 1 => 0
  | l + 2 => sn L n (l + 1) + cn L (l + 1) n
/-- the words of 15 bits that the lengths 1 .. l - 1 use -/
def wn (L : Nat → Nat) (n : Nat) : Nat → Nat
  | 0 => 0
  | 1 => 0
  | l + 2 => wn L n (l + 1) + cn L (l + 1) n * 2 ^ (15 - (l + 1))
theorem sn_s (L : Nat → Nat) (n : Nat) {l : Nat} (h : 1 ≤ l) : sn L n (l + 1) = sn L n l + cn L l n := by
  obtain ⟨k, rfl⟩ : ∃ k, l = k + 1 := ⟨l - 1, by omega⟩
  rfl
theorem wn_s (L : Nat → Nat) (n : Nat) {l : Nat} (h : 1 ≤ l) : wn L n (l + 1) = wn L n l + cn L l n * 2 ^ (15 - l) := by
  obtain ⟨k, rfl⟩ : ∃ k, l = k + 1 := ⟨l - 1, by omega⟩
  rfl
theorem cn_y {L : Nat → Nat} {l m : Nat} (h : L m = l) : cn L l (m + 1) = cn L l m + 1 := by
  show cn L l m + (if L m = l then 1 else 0) = _
  rw [if_pos h]
theorem cn_n {L : Nat → Nat} {l m : Nat} (h : ¬ L m = l) : cn L l (m + 1) = cn L l m := by
  show cn L l m + (if L m = l then 1 else 0) = _
  rw [if_neg h, Nat.add_zero]
theorem cn_mono (L : Nat → Nat) (l : Nat) {m n : Nat} (h : m ≤ n) : cn L l m ≤ cn L l n := by
  induction n with
  | zero => rw [show m = 0 by omega]; exact Nat.le_refl _
  | succ n ih =>
    by_cases e : m = n + 1
    · rw [e]; exact Nat.le_refl _
    · have := ih (by omega)
      show _ ≤ cn L l n + (if L n = l then 1 else 0)
      omega
theorem cn_lt {L : Nat → Nat} {l m n : Nat} (h : m < n) (e : L m = l) : cn L l m < cn L l n := by
  have := cn_mono L l (show m + 1 ≤ n by omega)
  rw [cn_y e] at this
  omega
theorem cn_le (L : Nat → Nat) (l : Nat) : ∀ n, cn L l n ≤ n := by
  intro n
  induction n with
  | zero => exact Nat.le_refl _
  | succ n ih =>
    show cn L l n + (if L n = l then 1 else 0) ≤ _
    by_cases e : L n = l
    · rw [if_pos e]; omega
    · rw [if_neg e]; omega
theorem sn_mono (L : Nat → Nat) (n : Nat) {l l' : Nat} (h1 : 1 ≤ l) (h : l ≤ l') : sn L n l ≤ sn L n l' := by
  induction l' with
  | zero => omega
  | succ k ih =>
    by_cases e : l = k + 1
    · rw [e]; exact Nat.le_refl _
    · have := ih (by omega)
      rw [sn_s L n (show 1 ≤ k by omega)]
      omega
theorem sn_lt (L : Nat → Nat) (n : Nat) {l l' : Nat} (h1 : 1 ≤ l) (h : l < l') : sn L n l + cn L l n ≤ sn L n l' := by
  have := sn_mono L n (show 1 ≤ l + 1 by omega) (show l + 1 ≤ l' by omega)
  rw [sn_s L n h1] at this
  exact this
/-- all of them -/
theorem sn_n (L : Nat → Nat) : ∀ (n l : Nat), sn L n l + cn L 0 n ≤ n := by
  intro n
  induction n with
  | zero =>
    intro l
    have : ∀ l, sn L 0 l = 0 := by
      intro l
      induction l with
      | zero => rfl
      | succ l ih =>
        cases l with
        | zero => rfl
        | succ l => rw [sn_s L 0 (by omega), ih]; rfl
    rw [this l]
    exact Nat.le_refl _
  | succ n ih =>
    intro l
    have h1 : ∀ l, sn L (n + 1) l ≤ sn L n l + (if 1 ≤ L n ∧ L n < l then 1 else 0) := by
      intro l
      induction l with
      | zero => exact Nat.zero_le _
      | succ l ihl =>
        cases l with
        | zero => exact Nat.zero_le _
        | succ l =>
          rw [sn_s L (n + 1) (by omega), sn_s L n (by omega)]
          have e : cn L (l + 1) (n + 1) = cn L (l + 1) n + (if L n = l + 1 then 1 else 0) := rfl
          rw [e]
          by_cases c : L n = l + 1
          · rw [if_pos c, if_pos (by omega)]
            rw [if_neg (by omega)] at ihl
            omega
          · rw [if_neg c]
            by_cases c2 : 1 ≤ L n ∧ L n < l + 1
            · rw [if_pos c2] at ihl
              rw [if_pos (by omega)]
              omega
            · rw [if_neg c2] at ihl
              omega
    have h2 := h1 l
    have h3 := ih l
    have e : cn L 0 (n + 1) = cn L 0 n + (if L n = 0 then 1 else 0) := rfl
    rw [e]
    by_cases c : L n = 0
    · rw [if_pos c]
      rw [if_neg (by omega)] at h2
      omega
    · rw [if_neg c]
      by_cases c2 : 1 ≤ L n ∧ L n < l
      · rw [if_pos c2] at h2
        omega
      · rw [if_neg c2] at h2
        omega
theorem sn_all {L : Nat → Nat} : ∀ {n : Nat}, (∀ m, m < n → L m < 16) → sn L n 16 + cn L 0 n = n := by
  intro n
  induction n with
  | zero => intro _; rfl
  | succ n ih =>
    intro h
    have h0 := ih (fun m hm => h m (by omega))
    have hn := h n (by omega)
    have e1 : ∀ l, 1 ≤ l → l ≤ 16 → sn L (n + 1) l = sn L n l + (if 1 ≤ L n ∧ L n < l then 1 else 0) := by
      intro l
      induction l with
      | zero => intro q; omega
      | succ l ihl =>
        intro _ hl
        by_cases c0 : l = 0
        · subst c0
          rw [if_neg (by omega)]
          rfl
        · rw [sn_s L (n + 1) (by omega), sn_s L n (by omega), ihl (by omega) (by omega)]
          have e : cn L l (n + 1) = cn L l n + (if L n = l then 1 else 0) := rfl
          rw [e]
          by_cases c : L n = l
          · rw [if_neg (by omega), if_pos c, if_pos (by omega)]
            omega
          · rw [if_neg c]
            by_cases c2 : 1 ≤ L n ∧ L n < l
            · rw [if_pos c2, if_pos (by omega)]
              omega
            · rw [if_neg c2, if_neg (by omega)]
              omega
    have e2 : cn L 0 (n + 1) = cn L 0 n + (if L n = 0 then 1 else 0) := rfl
    rw [e1 16 (by omega) (by omega), e2]
    by_cases c : L n = 0
    · rw [if_neg (by omega), if_pos c]
      omega
    · rw [if_pos (by omega), if_neg c]
      omega
theorem wn_le (L : Nat → Nat) (n : Nat) : ∀ l, wn L n l ≤ 16384 * sn L n l := by
  intro l
  induction l with
  | zero => exact Nat.zero_le _
  | succ l ih =>
    cases l with
    | zero => exact Nat.zero_le _
    | succ l =>
      rw [wn_s L n (by omega), sn_s L n (by omega)]
      have h1 : 2 ^ (15 - (l + 1)) ≤ 2 ^ 14 := Nat.pow_le_pow_right (by omega) (by omega)
      have h2 : cn L (l + 1) n * 2 ^ (15 - (l + 1)) ≤ cn L (l + 1) n * 2 ^ 14 := Nat.mul_le_mul_left _ h1
      omega
theorem wn_mono (L : Nat → Nat) (n : Nat) {l l' : Nat} (h1 : 1 ≤ l) (h : l ≤ l') : wn L n l ≤ wn L n l' := by
  induction l' with
  | zero => omega
  | succ k ih =>
    by_cases e : l = k + 1
    · rw [e]; exact Nat.le_refl _
    · have := ih (by omega)
      rw [wn_s L n (show 1 ≤ k by omega)]
      omega
/-- the i-th of length l -/
theorem cn_ex (L : Nat → Nat) (l : Nat) : ∀ (n i : Nat), i < cn L l n → ∃ m, m < n ∧ L m = l ∧ cn L l m = i := by
  intro n
  induction n with
  | zero => intro i h; exact absurd h (Nat.not_lt_zero _)
  | succ n ih =>
    intro i h
    have e : cn L l (n + 1) = cn L l n + (if L n = l then 1 else 0) := rfl
    rw [e] at h
    by_cases c : i < cn L l n
    · obtain ⟨m, h1, h2, h3⟩ := ih i c
      exact ⟨m, by omega, h2, h3⟩
    · by_cases c2 : L n = l
      · rw [if_pos c2] at h
        exact ⟨n, by omega, c2, by omega⟩
      · rw [if_neg c2] at h
        omega
/-- the codes laid: counts, and what they mean -/
def Cd (L : Nat → Nat) (n : Nat) (C Mn : Nat → Int32) : Prop := (∀ l, 1 ≤ l → l < 16 → C l = nI (cn L l n)) ∧ ∀ m, m < n → 1 ≤ L m → Mn (sn L n (L m) + cn L (L m) m) = nI m
/-- the lengths lie from a on -/
def Ln (A : Nat → Int32) (a n : Nat) (L : Nat → Nat) : Prop := ∀ m, m < n → A (a + m) = nI (L m) ∧ L m < 16
theorem place_ne {L : Nat → Nat} {n m m' : Nat} (h : m' < n) (hm : m < n) (h1 : 1 ≤ L m) (h1' : 1 ≤ L m') (hne : L m' = L m → m' < m) : sn L n (L m') + cn L (L m') m' ≠ sn L n (L m) + cn L (L m) m := by
  have a1 := cn_lt h (rfl : L m' = L m')
  have a2 := cn_lt hm (rfl : L m = L m)
  rcases Nat.lt_trichotomy (L m') (L m) with c | c | c
  · have := sn_lt L n h1' c
    omega
  · have := cn_lt (hne c) c
    rw [c]
    omega
  · have := sn_lt L n h1 c
    omega
theorem and_15 {l : Nat} (h : l < 16) : nI l &&& 15 = nI l := by
  rw [pk_andN (by omega) 4 (by decide), Nat.mod_eq_of_lt h]
theorem layC_L {K N Mx a n : Nat} {A : Nat → Int32} {L : Nat → Nat} (hA : Ln A a n L) (hN : a + n ≤ N) (hN2 : N < 2 ^ 20) {t_used : Int32} {t_unusedWords : Int32} {a_t_places : Nat → Int32} {a_t_meanings : Nat → Int32} : ∀ (r k q : Nat) (C : Nat → Int32), k + r = n → r < q → (∀ l, l < 16 → C l = nI (cn L l k)) → ∃ C', (f_Codes_lay_L11 K N Mx t_used t_unusedWords A a_t_places a_t_meanings (nI a) (nI n) q C (nI k)) = some C' ∧ ∀ l, l < 16 → C' l = nI (cn L l n) := by
  intro r
  induction r with
  | zero =>
    intro k q C hk hq hC
    obtain ⟨q, rfl⟩ : ∃ w, q = w + 1 := ⟨q - 1, by omega⟩
    have e : k = n := by omega
    subst e
    refine ⟨C, ?_, hC⟩
    show (f_Codes_lay_11 K N Mx _ t_used t_unusedWords C A a_t_places a_t_meanings (nI a) (nI k) (nI k)) = _
    unfold f_Codes_lay_11
    rw [if_pos (nI_le (by omega) (by omega))]
  | succ r ih =>
    intro k q C hk hq hC
    obtain ⟨q, rfl⟩ : ∃ w, q = w + 1 := ⟨q - 1, by omega⟩
    obtain ⟨e1, e2⟩ := hA k (by omega)
    obtain ⟨C', h1, h2⟩ := ih (k + 1) q (upd C (L k) (nI (cn L (L k) k + 1))) (by omega) (by omega) (fun l hl => by
      by_cases c : l = L k
      · rw [c, upd_at, cn_y rfl]
      · rw [upd_ne _ _ c, cn_n (fun q => c q.symm)]
        exact hC l hl)
    refine ⟨C', ?_, h2⟩
    rw [← h1]
    show (f_Codes_lay_11 K N Mx _ t_used t_unusedWords C A a_t_places a_t_meanings (nI a) (nI n) (nI k)) = _
    unfold f_Codes_lay_11
    rw [if_neg (nI_ge (by omega) (by omega)), nI_add, if_pos (q_inb (by omega) (by omega)), nI_clamp (by omega), e1, and_15 e2, if_pos (q_inb e2 (by omega)), if_pos (q_inb e2 (by omega)), nI_clamp (by omega), hC _ e2, nI_1, nI_1]
/-- the words left over -/
theorem layP_L {K N Mx n a : Nat} {A : Nat → Int32} {L : Nat → Nat} (hn : n ≤ 400) {C : Nat → Int32} (hC : ∀ l, 1 ≤ l → l < 16 → C l = nI (cn L l n)) {t_used : Int32} {a_t_meanings : Nat → Int32} : ∀ (r l q u : Nat) (P : Nat → Int32), l + r = 16 → r < q → 1 ≤ l → u ≤ 32768 → u * 2 ^ (16 - l) + wn L n l = 32768 → (∀ l', 1 ≤ l' → l' < l → P l' = nI (sn L n l')) → Gq (wn L n 16 ≤ 32768) (fun m => ∃ P', m = some (.inl (nI (32768 - wn L n 16), P')) ∧ ∀ l', 1 ≤ l' → l' < 16 → P' l' = nI (sn L n l')) (f_Codes_lay_L71 K N Mx t_used C A a_t_meanings (nI a) (nI n) q (nI u) P (nI (sn L n l)) (nI l)) := by
  intro r
  induction r with
  | zero =>
    intro l q u P hl hq h1 hu hw hP
    obtain ⟨q, rfl⟩ : ∃ w, q = w + 1 := ⟨q - 1, by omega⟩
    have e : l = 16 := by omega
    subst e
    refine Gq.yes (by omega) ⟨P, ?_, hP⟩
    show (f_Codes_lay_71 K N Mx _ t_used (nI u) C A P a_t_meanings (nI a) (nI n) (nI (sn L n 16)) (nI 16)) = _
    unfold f_Codes_lay_71
    rw [if_pos (show (15 : Int32) < nI 16 by decide), show u = 32768 - wn L n 16 by omega]
  | succ r ih =>
    intro l q u P hl hq h1 hu hw hP
    obtain ⟨q, rfl⟩ : ∃ w, q = w + 1 := ⟨q - 1, by omega⟩
    have hc := cn_le L l n
    have hs := sn_n L n l
    show Gq _ _ (f_Codes_lay_71 K N Mx _ t_used (nI u) C A P a_t_meanings (nI a) (nI n) (nI (sn L n l)) (nI l))
    unfold f_Codes_lay_71 f_Codes_lay_108
    rw [if_neg (show ¬ (15 : Int32) < nI l from show ¬ nI 15 < nI l from nI_nlt (by omega) (by omega)), if_pos (q_inb (by omega) (by omega)), nI_clamp (by omega), hC l h1 (by omega), show (2 : Int32) * nI u = nI (2 * u) from pk_mul 2 u]
    have e2 : 2 ^ (16 - l) = 2 * 2 ^ (15 - l) := by
      rw [show 16 - l = (15 - l) + 1 by omega, Nat.pow_succ]
      omega
    have hp : 0 < 2 ^ (15 - l) := Nat.two_pow_pos _
    have hw' : 2 * u * 2 ^ (15 - l) + wn L n l = 32768 := by
      rw [← hw, e2, ← Nat.mul_assoc, Nat.mul_comm u 2]
    have hws := wn_s L n h1
    by_cases c : 2 * u < cn L l n
    · rw [if_pos (pk_sneg (by omega) c), need0, q_tryR]
      refine Gq.no (fun h => ?_) ⟨_, rfl⟩
      have h2 := wn_mono L n (show 1 ≤ l + 1 by omega) (show l + 1 ≤ 16 by omega)
      have h3 : (2 * u + 1) * 2 ^ (15 - l) ≤ cn L l n * 2 ^ (15 - l) := Nat.mul_le_mul_right _ (by omega)
      rw [Nat.add_mul] at h3
      omega
    · have h3 : cn L l n * 2 ^ (15 - l) ≤ 2 * u * 2 ^ (15 - l) := Nat.mul_le_mul_right _ (by omega)
      have h4 : (2 * u - cn L l n) * 2 ^ (15 - l) = 2 * u * 2 ^ (15 - l) - cn L l n * 2 ^ (15 - l) := Nat.sub_mul _ _ _
      have h5 : 2 * u - cn L l n ≤ 32768 := by
        have : (2 * u - cn L l n) * 1 ≤ (2 * u - cn L l n) * 2 ^ (15 - l) := Nat.mul_le_mul_left _ hp
        omega
      rw [pk_sub (by omega), if_neg (nI_pos (by omega)), need1, q_tryL, if_pos (q_inb (by omega) (by omega)), if_pos (q_inb (by omega) (by omega)), nI_add, nI_1, ← sn_s L n h1]
      refine ih (l + 1) q (2 * u - cn L l n) (upd P l (nI (sn L n l))) (by omega) (by omega) (by omega) h5 ?_ (fun l' h6 h7 => ?_)
      · rw [show 16 - (l + 1) = 15 - l by omega, hws, h4]
        omega
      · by_cases c2 : l' = l
        · rw [c2, upd_at]
        · rw [upd_ne _ _ c2]
          exact hP l' h6 (by omega)
theorem layM_L {K N Mx n a : Nat} {A : Nat → Int32} {L : Nat → Nat} (hA : Ln A a n L) (hN : a + n ≤ N) (hN2 : N < 2 ^ 20) (hM : n ≤ Mx) (hM2 : Mx < 2 ^ 20) {t_used : Int32} {t_unusedWords : Int32} {a_t_counts : Nat → Int32} : ∀ (r k q : Nat) (P Mn : Nat → Int32), k + r = n → r < q → (∀ l, 1 ≤ l → l < 16 → P l = nI (sn L n l + cn L l k)) → (∀ m, m < k → 1 ≤ L m → Mn (sn L n (L m) + cn L (L m) m) = nI m) → ∃ P' Mn', (f_Codes_lay_L141 K N Mx t_used t_unusedWords a_t_counts A (nI a) (nI n) q P Mn (nI k)) = some (P', Mn') ∧ ∀ m, m < n → 1 ≤ L m → Mn' (sn L n (L m) + cn L (L m) m) = nI m := by
  intro r
  induction r with
  | zero =>
    intro k q P Mn hk hq hP hI
    obtain ⟨q, rfl⟩ : ∃ w, q = w + 1 := ⟨q - 1, by omega⟩
    have e : k = n := by omega
    subst e
    refine ⟨P, Mn, ?_, hI⟩
    show (f_Codes_lay_141 K N Mx _ t_used t_unusedWords a_t_counts A P Mn (nI a) (nI k) (nI k)) = _
    unfold f_Codes_lay_141
    rw [if_pos (nI_le (by omega) (by omega))]
  | succ r ih =>
    intro k q P Mn hk hq hP hI
    obtain ⟨q, rfl⟩ : ∃ w, q = w + 1 := ⟨q - 1, by omega⟩
    obtain ⟨e1, e2⟩ := hA k (by omega)
    have hu : ∀ P' Mn', (f_Codes_lay_L141 K N Mx t_used t_unusedWords a_t_counts A (nI a) (nI n) q P' Mn' (nI (k + 1))) = (f_Codes_lay_L141 K N Mx t_used t_unusedWords a_t_counts A (nI a) (nI n) q P' Mn' (nI k + 1)) := fun P' Mn' => by rw [nI_1]
    by_cases c0 : L k = 0
    · obtain ⟨P', Mn', h1, h2⟩ := ih (k + 1) q P Mn (by omega) (by omega) (fun l h3 h4 => by rw [cn_n (by omega)]; exact hP l h3 h4) (fun m h3 h4 => by
        by_cases c : m = k
        · rw [c] at h4; omega
        · exact hI m (by omega) h4)
      refine ⟨P', Mn', ?_, h2⟩
      rw [← h1, hu]
      show (f_Codes_lay_141 K N Mx _ t_used t_unusedWords a_t_counts A P Mn (nI a) (nI n) (nI k)) = _
      unfold f_Codes_lay_141 f_Codes_lay_188
      rw [if_neg (nI_ge (by omega) (by omega)), nI_add, if_pos (q_inb (by omega) (by omega)), nI_clamp (by omega), e1, and_15 e2, if_pos (show nI (L k) ≤ 0 from nI_le (b := 0) (by omega) (by omega))]
    · have hlt := cn_lt (show k < n by omega) (rfl : L k = L k)
      have hs := sn_n L n (L k + 1)
      rw [sn_s L n (by omega)] at hs
      obtain ⟨P', Mn', h1, h2⟩ := ih (k + 1) q (upd P (L k) (nI (sn L n (L k) + cn L (L k) k + 1))) (upd Mn (sn L n (L k) + cn L (L k) k) (nI k)) (by omega) (by omega) (fun l h3 h4 => by
        by_cases c : l = L k
        · rw [c, upd_at, cn_y rfl]
          rfl
        · rw [upd_ne _ _ c, cn_n (fun q => c q.symm)]
          exact hP l h3 h4) (fun m h3 h4 => by
        by_cases c : m = k
        · rw [c, upd_at]
        · rw [upd_ne _ _ (place_ne (show m < n by omega) (by omega) (by omega) h4 (fun _ => by omega))]
          exact hI m (by omega) h4)
      refine ⟨P', Mn', ?_, h2⟩
      rw [← h1, hu]
      show (f_Codes_lay_141 K N Mx _ t_used t_unusedWords a_t_counts A P Mn (nI a) (nI n) (nI k)) = _
      unfold f_Codes_lay_141 f_Codes_lay_188
      rw [if_neg (nI_ge (by omega) (by omega)), nI_add, if_pos (q_inb (by omega) (by omega)), nI_clamp (show a + k < 2 ^ 31 by omega), e1, and_15 e2, if_neg (show ¬ nI (L k) ≤ 0 from nI_ge (a := 0) (by omega) (by omega)), if_pos (q_inb e2 (by omega)), nI_clamp (show L k < 2 ^ 31 by omega), hP _ (by omega) e2, if_pos (q_inb (show sn L n (L k) + cn L (L k) k < Mx by omega) (by omega)), if_pos (q_inb e2 (by omega)), if_pos (q_inb e2 (by omega)), nI_clamp (show sn L n (L k) + cn L (L k) k < 2 ^ 31 by omega), nI_1]
theorem lay_okD {K N Mx n a : Nat} (hK : 1000 < K) {A : Nat → Int32} {L : Nat → Nat} (hA : Ln A a n L) (hn : n ≤ 400) (hN : a + n ≤ N) (hN2 : N < 2 ^ 20) (hM : n ≤ Mx) (hM2 : Mx < 2 ^ 20) (U W : Int32) (C P Mn : Nat → Int32) : Gq (wn L n 16 ≤ 32768) (fun m => ∃ v : (Nat → Int32) × (Nat → Int32) × (Nat → Int32), m = some (.inl ((), nI (sn L n 16), nI (32768 - wn L n 16), v.1, v.2.1, v.2.2)) ∧ Cd L n v.1 v.2.2) (f_Codes_lay K N Mx (nI a) (nI n) U W C A P Mn) := by
  unfold f_Codes_lay
  rw [fill2_ok (by omega) (by omega), q_bind]
  obtain ⟨C1, h1, h2⟩ := layC_L (K := K) (Mx := Mx) hA hN hN2 (t_used := U) (t_unusedWords := W) (a_t_places := P) (a_t_meanings := Mn) n 0 K (fun j => if j < 16 then 0 else C j) (by omega) (by omega) (fun l hl => if_pos hl)
  have h1' : (f_Codes_lay_L11 K N Mx U W A P Mn (nI a) (nI n) K (fun j => if j < 16 then 0 else C j) 0) = _ := h1
  have e0 : C1 0 = nI (cn L 0 n) := h2 0 (by omega)
  have hall := sn_all (fun m hm => (hA m hm).2)
  have eU : nI n - C1 (Int32.toNatClampNeg 0) = nI (sn L n 16) := by
    show nI n - C1 0 = _
    rw [e0, pk_sub (show cn L 0 n ≤ n from cn_le L 0 n), show n - cn L 0 n = sn L n 16 by omega]
  rw [h1', q_bind, if_pos (show inb 0 16 = true from q_inb (i := 0) (by omega) (by omega)), if_pos (show inb 0 16 = true from q_inb (i := 0) (by omega) (by omega)), eU]
  have hC2 : ∀ l, 1 ≤ l → l < 16 → upd C1 0 0 l = nI (cn L l n) := fun l h3 h4 => by rw [upd_ne _ _ (by omega)]; exact h2 l h4
  have hP := layP_L (K := K) (N := N) (Mx := Mx) (a := a) (A := A) hn hC2 (t_used := nI (sn L n 16)) (a_t_meanings := Mn) 15 1 K 1 P (by omega) (by omega) (by omega) (by omega) rfl (fun l' h3 h4 => by omega)
  refine Gq.tryQL hP (fun u => ⟨_, rfl⟩) id (fun hw P1 hP1 => ?_)
  obtain ⟨P2, Mn2, h5, h6⟩ := layM_L (K := K) hA hN hN2 hM hM2 (t_used := nI (sn L n 16)) (t_unusedWords := nI (32768 - wn L n 16)) (a_t_counts := upd C1 0 0) n 0 K P1 Mn (by omega) (by omega) (fun l h3 h4 => hP1 l h3 h4) (fun m hm => absurd hm (Nat.not_lt_zero _))
  have h5' : (f_Codes_lay_L141 K N Mx (nI (sn L n 16)) (nI (32768 - wn L n 16)) (upd C1 0 0) A (nI a) (nI n) K P1 Mn 0) = _ := h5
  show Gq _ _ (dc_bind (f_Codes_lay_L141 K N Mx (nI (sn L n 16)) (nI (32768 - wn L n 16)) (upd C1 0 0) A (nI a) (nI n) K P1 Mn 0) _)
  rw [h5', q_bind]
  exact Gq.yes hw ⟨(upd C1 0 0, P2, Mn2), rfl, hC2, h6⟩
