/-! the pure half: codes that are told -/
def Lg (n : Nat) (A B : Nat → Int32) (L : Nat → Nat) : Prop := ∀ j, j < n → A j = nI (L j) ∧ B j = nI (L j) ∧ L j < 16
def o19 : List Nat := [16, 17, 18, 0, 8, 7, 9, 6, 10, 5, 11, 4, 12, 3, 13, 2, 14, 1, 15]
theorem ord_D : ∀ k, k < 19 → tab_Inflater_LENGTHS_ORDER k = nI (o19.getD k 0) ∧ tab_M_ORDER k = nI (o19.getD k 0) ∧ o19.getD k 0 < 19 := by decide +kernel
theorem Lg_u {n i v : Nat} {A B : Nat → Int32} {L : Nat → Nat} (h : Lg n A B L) (hv : v < 16) : Lg n (upd A i (nI v)) (upd B i (nI v)) (fun j => if j = i then v else L j) := by
  intro j hj
  by_cases e : j = i
  · rw [e, upd_at, upd_at]
    refine ⟨?_, ?_, ?_⟩
    · show nI v = nI (if i = i then v else L i)
      rw [if_pos rfl]
    · show nI v = nI (if i = i then v else L i)
      rw [if_pos rfl]
    · show (if i = i then v else L i) < 16
      rw [if_pos rfl]
      exact hv
  · rw [upd_ne _ _ e, upd_ne _ _ e]
    obtain ⟨h1, h2, h3⟩ := h j hj
    refine ⟨?_, ?_, ?_⟩
    · show _ = nI (if j = i then v else L j)
      rw [if_neg e]
      exact h1
    · show _ = nI (if j = i then v else L j)
      rw [if_neg e]
      exact h2
    · show (if j = i then v else L j) < 16
      rw [if_neg e]
      exact h3
theorem Lg_rep {a t v : Nat} {A B : Nat → Int32} {L : Nat → Nat} (h : Lg a A B L) (hv : v < 16) : Lg (a + t) (lyv A a t (nI v)) (lyv B a t (nI v)) (fun j => if a ≤ j ∧ j < a + t then v else L j) := by
  intro j hj
  unfold lyv
  by_cases e : a ≤ j ∧ j < a + t
  · refine ⟨?_, ?_, ?_⟩
    · show (if _ then _ else _) = nI (if _ then _ else _)
      rw [if_pos e, if_pos e]
    · show (if _ then _ else _) = nI (if _ then _ else _)
      rw [if_pos e, if_pos e]
    · show (if _ then _ else _) < 16
      rw [if_pos e]
      exact hv
  · obtain ⟨h1, h2, h3⟩ := h j (by omega)
    refine ⟨?_, ?_, ?_⟩
    · show (if _ then _ else _) = nI (if _ then _ else _)
      rw [if_neg e, if_neg e]
      exact h1
    · show (if _ then _ else _) = nI (if _ then _ else _)
      rw [if_neg e, if_neg e]
      exact h2
    · show (if _ then _ else _) < 16
      rw [if_neg e]
      exact h3
theorem upd_lyv (f : Nat → Int32) (p : Nat) (v : Int32) : upd f p v = lyv f p 1 v := by
  have h := lyv_s f p 0 v
  rw [lyv_0] at h
  exact h
def RS (g m : Nat) (dat : Nat → Nat) (b n : Nat) (x : Int32 × Int32 × Int32 × (Nat → Int32)) (y : Int32 × (Nat → Int32)) : Prop := ∃ (b' : Nat) (L : Nat → Nat), y.1 = nI b' ∧ b ≤ b' ∧ Bq g m dat b' x.1 x.2.1 x.2.2.1 ∧ Lg n x.2.2.2 y.2 L
theorem told_L {K g m c : Nat} (hK : 40 < K) {T D : Nat → Int32} {dat : Nat → Nat} (ht : Dt g m T dat) (hd : Dt 0 m D dat) (hg : g + m ≤ 65536) (hc : c ≤ 19) {n_t_lengthCodes_meanings : Nat} {n_t_literals_meanings : Nat} {n_t_distances_meanings : Nat} {t_lengthCodes_used : Int32} {t_lengthCodes_unusedWords : Int32} {a_t_lengthCodes_places : Nat → Int32} {t_literals_used : Int32} {t_literals_unusedWords : Int32} {a_t_literals_places : Nat → Int32} {t_distances_used : Int32} {t_distances_unusedWords : Int32} {a_t_distances_places : Nat → Int32} {x1 : Int32} {x2 : Int32} {dc1 dc2 dc3 dc4 dc5 dc6 : Nat → Int32} {t_lengthCodes_all : Int32} {a_t_lengthCodes_counts : Nat → Int32} {a_t_lengthCodes_meanings : Nat → Int32} {t_literals_all : Int32} {a_t_literals_counts : Nat → Int32} {a_t_literals_meanings : Nat → Int32} {t_distances_all : Int32} {a_t_distances_counts : Nat → Int32} {a_t_distances_meanings : Nat → Int32} : ∀ (r k qD qM b : Nat) (A S H : Int32) (lD lM : Nat → Int32) (L : Nat → Nat), k + r = c → r < qD → r < qM → Bq g m dat b A S H → Lg 19 lD lM L → Lk (RS g m dat b 19) (f_Inflater_takeCodes_L70 K n_t_lengthCodes_meanings n_t_literals_meanings n_t_distances_meanings (nI (g + m)) T t_lengthCodes_used t_lengthCodes_unusedWords dc1 a_t_lengthCodes_places dc2 t_literals_used t_literals_unusedWords dc3 a_t_literals_places dc4 t_distances_used t_distances_unusedWords dc5 a_t_distances_places dc6 x1 x2 (nI c) qD A S H lD (nI k)) (f_M_toldCodes_L75 K (nI m) D t_lengthCodes_all a_t_lengthCodes_counts a_t_lengthCodes_meanings t_literals_all a_t_literals_counts a_t_literals_meanings t_distances_all a_t_distances_counts a_t_distances_meanings x1 x2 (nI c) qM (nI b) lM (nI k)) := by
  intro r
  induction r with
  | zero =>
    intro k qD qM b A S H lD lM L hk hqD hqM hq hL
    obtain ⟨qD, rfl⟩ : ∃ w, qD = w + 1 := ⟨qD - 1, by omega⟩
    obtain ⟨qM, rfl⟩ : ∃ w, qM = w + 1 := ⟨qM - 1, by omega⟩
    have e : k = c := by omega
    subst e
    show Lk _ (f_Inflater_takeCodes_70 K n_t_lengthCodes_meanings n_t_literals_meanings n_t_distances_meanings _ A (nI (g + m)) S H T lD t_lengthCodes_used t_lengthCodes_unusedWords dc1 a_t_lengthCodes_places dc2 t_literals_used t_literals_unusedWords dc3 a_t_literals_places dc4 t_distances_used t_distances_unusedWords dc5 a_t_distances_places dc6 x1 x2 (nI k) (nI k)) (f_M_toldCodes_75 K _ (nI m) (nI b) D lM t_lengthCodes_all a_t_lengthCodes_counts a_t_lengthCodes_meanings t_literals_all a_t_literals_counts a_t_literals_meanings t_distances_all a_t_distances_counts a_t_distances_meanings x1 x2 (nI k) (nI k))
    unfold f_Inflater_takeCodes_70 f_M_toldCodes_75
    rw [if_pos (nI_le (by omega) (by omega)), if_pos (nI_le (by omega) (by omega))]
    exact Lk.yes ⟨b, L, rfl, by omega, hq, hL⟩
  | succ r ih =>
    intro k qD qM b A S H lD lM L hk hqD hqM hq hL
    obtain ⟨qD, rfl⟩ : ∃ w, qD = w + 1 := ⟨qD - 1, by omega⟩
    obtain ⟨qM, rfl⟩ : ∃ w, qM = w + 1 := ⟨qM - 1, by omega⟩
    show Lk _ (f_Inflater_takeCodes_70 K n_t_lengthCodes_meanings n_t_literals_meanings n_t_distances_meanings _ A (nI (g + m)) S H T lD t_lengthCodes_used t_lengthCodes_unusedWords dc1 a_t_lengthCodes_places dc2 t_literals_used t_literals_unusedWords dc3 a_t_literals_places dc4 t_distances_used t_distances_unusedWords dc5 a_t_distances_places dc6 x1 x2 (nI c) (nI k)) (f_M_toldCodes_75 K _ (nI m) (nI b) D lM t_lengthCodes_all a_t_lengthCodes_counts a_t_lengthCodes_meanings t_literals_all a_t_literals_counts a_t_literals_meanings t_distances_all a_t_distances_counts a_t_distances_meanings x1 x2 (nI c) (nI k))
    unfold f_Inflater_takeCodes_70 f_M_toldCodes_75
    obtain ⟨o1, o2, o3⟩ := ord_D k (by omega)
    rw [if_neg (nI_ge (by omega) (by omega)), if_neg (nI_ge (by omega) (by omega)), if_neg (show ¬ (19 : Int32) ≤ nI k from nI_ge (b := 19) (by omega) (by omega)), if_pos (q_inb (by omega) (by omega)), if_pos (q_inb (by omega) (by omega)), nI_clamp (by omega), o1, o2]
    refine Lk.try (bits_lk (K := K) (x := 3) hK ht hd hg (by omega) hq) (fun u => ⟨_, rfl⟩) (fun u => ⟨_, rfl⟩) (fun x y hxy => ?_)
    obtain ⟨A2, S2, H2, rfl, rfl, hq2⟩ := hxy
    have hw := vN_lt dat b 3
    generalize vN dat b 3 = w at hw ⊢
    rw [if_pos (q_inb (by omega) (by omega)), if_pos (q_inb (by omega) (by omega)), nI_clamp (by omega), nI_1]
    have h := ih (k + 1) qD qM (b + 3) A2 S2 H2 (upd lD (o19.getD k 0) (nI w)) (upd lM (o19.getD k 0) (nI w)) _ (by omega) (by omega) (by omega) hq2 (Lg_u hL (by omega))
    refine Lk.mono h (fun x y hxy => ?_)
    obtain ⟨b', L', k1, k2, k3⟩ := hxy
    exact ⟨b', L', k1, by omega, k3⟩
theorem repM_L {K a t l d : Nat} (ha : a + t ≤ 640) {CM MM : Nat → Int32} {t_dataSize : Int32} {t_bitAt : Int32} {a_t_data : Nat → Int32} {t_lengthCodes_all : Int32} {t_literals_all : Int32} {a_t_literals_counts : Nat → Int32} {a_t_literals_meanings : Nat → Int32} {t_distances_all : Int32} {a_t_distances_counts : Nat → Int32} {a_t_distances_meanings : Nat → Int32} {x6 : Int32} (f : Nat → Int32) : ∀ (r k q : Nat), k + r = t → r < q → (f_M_toldCodes_L283 K t_dataSize t_bitAt a_t_data t_lengthCodes_all CM MM t_literals_all a_t_literals_counts a_t_literals_meanings t_distances_all a_t_distances_counts a_t_distances_meanings (nI l) (nI d) x6 (nI t) q (lyv f a k x6) (nI (a + k)) (nI k)) = some (lyv f a t x6, nI (a + t)) := by
  intro r
  induction r with
  | zero =>
    intro k q hk hq
    obtain ⟨q, rfl⟩ : ∃ w, q = w + 1 := ⟨q - 1, by omega⟩
    have e : k = t := by omega
    subst e
    show (f_M_toldCodes_283 K _ t_dataSize t_bitAt a_t_data (lyv f a k x6) t_lengthCodes_all CM MM t_literals_all a_t_literals_counts a_t_literals_meanings t_distances_all a_t_distances_counts a_t_distances_meanings (nI l) (nI d) (nI (a + k)) x6 (nI k) (nI k)) = _
    unfold f_M_toldCodes_283
    rw [if_pos (nI_le (by omega) (by omega))]
  | succ r ih =>
    intro k q hk hq
    obtain ⟨q, rfl⟩ : ∃ w, q = w + 1 := ⟨q - 1, by omega⟩
    show (f_M_toldCodes_283 K _ t_dataSize t_bitAt a_t_data (lyv f a k x6) t_lengthCodes_all CM MM t_literals_all a_t_literals_counts a_t_literals_meanings t_distances_all a_t_distances_counts a_t_distances_meanings (nI l) (nI d) (nI (a + k)) x6 (nI t) (nI k)) = _
    unfold f_M_toldCodes_283
    rw [if_neg (nI_ge (by omega) (by omega)), if_pos (q_inb (by omega) (by omega)), nI_clamp (by omega), lyv_s, nI_1, nI_1]
    exact ih (k + 1) q (by omega) (by omega)
theorem lens_L {K g m n l d Nc : Nat} (hK : 1000 < K) {T D CD MD CM MM : Nat → Int32} {dat LL : Nat → Nat} (ht : Dt g m T dat) (hd : Dt 0 m D dat) (hg : g + m ≤ 65536) (hn : n ≤ 19) (hN : n ≤ Nc) (hN2 : Nc < 2 ^ 20) (hcD : Cd LL n CD MD) (hcM : Cd LL n CM MM) (hld : l + d ≤ 316) {t_lengthCodes_all : Int32} {t_literals_all : Int32} {a_t_literals_counts : Nat → Int32} {a_t_literals_meanings : Nat → Int32} {t_distances_all : Int32} {a_t_distances_counts : Nat → Int32} {a_t_distances_meanings : Nat → Int32} : ∀ (r a qD qM b : Nat) (A S H : Int32) (lD lM : Nat → Int32) (L : Nat → Nat), l + d - a ≤ r → r < qD → r < qM → a ≤ l + d → Bq g m dat b A S H → Lg a lD lM L → Lk (RS g m dat b (l + d)) (f_Inflater_takeLengths_L2 K Nc (nI (g + m)) T CD MD (nI (l + d)) qD A S H lD (nI a)) (f_M_toldCodes_L132 K (nI m) D t_lengthCodes_all CM MM t_literals_all a_t_literals_counts a_t_literals_meanings t_distances_all a_t_distances_counts a_t_distances_meanings (nI l) (nI d) qM (nI b) lM (nI a)) := by
  intro r
  induction r using Nat.strongRecOn with
  | _ r ih =>
    intro a qD qM b A S H lD lM L hr hqD hqM ha hq hL
    obtain ⟨qD, rfl⟩ : ∃ w, qD = w + 1 := ⟨qD - 1, by omega⟩
    obtain ⟨qM, rfl⟩ : ∃ w, qM = w + 1 := ⟨qM - 1, by omega⟩
    show Lk _ (f_Inflater_takeLengths_2 K Nc _ A (nI (g + m)) S H T CD MD lD (nI (l + d)) (nI a)) (f_M_toldCodes_132 K _ (nI m) (nI b) D lM t_lengthCodes_all CM MM t_literals_all a_t_literals_counts a_t_literals_meanings t_distances_all a_t_distances_counts a_t_distances_meanings (nI l) (nI d) (nI a))
    unfold f_Inflater_takeLengths_2 f_M_toldCodes_132
    rw [nI_add]
    by_cases e0 : l + d = a
    · rw [if_pos (nI_le (by omega) (by omega)), if_pos (nI_le (by omega) (by omega))]
      exact Lk.yes ⟨b, L, rfl, by omega, hq, by rw [e0]; exact hL⟩
    rw [if_neg (nI_ge (by omega) (by omega)), if_neg (nI_ge (by omega) (by omega))]
    refine Lk.try (take_lk (by omega) ht hd hg (by omega) hN hN2 hcD hcM hq) (fun u => ⟨_, rfl⟩) (fun u => ⟨_, rfl⟩) (fun x y hxy => ?_)
    obtain ⟨v, b1, A1, S1, H1, v1, v2, rfl, rfl, hq1⟩ := hxy
    dsimp only
    have hgo : ∀ (t w b' : Nat) (A' S' H' : Int32), 1 ≤ t → a + t ≤ l + d → w < 16 → b1 ≤ b' → Bq g m dat b' A' S' H' → Lk (RS g m dat b (l + d)) (f_Inflater_takeLengths_L2 K Nc (nI (g + m)) T CD MD (nI (l + d)) qD A' S' H' (lyv lD a t (nI w)) (nI (a + t))) (f_M_toldCodes_L132 K (nI m) D t_lengthCodes_all CM MM t_literals_all a_t_literals_counts a_t_literals_meanings t_distances_all a_t_distances_counts a_t_distances_meanings (nI l) (nI d) qM (nI b') (lyv lM a t (nI w)) (nI (a + t))) := by
      intro t w b' A' S' H' k1 k2 k3 k4 k5
      have h := ih (l + d - (a + t)) (by omega) (a + t) qD qM b' A' S' H' _ _ _ (by omega) (by omega) (by omega) (by omega) k5 (Lg_rep hL k3)
      refine Lk.mono h (fun x y hxy => ?_)
      obtain ⟨b2, L', f1, f2, f3⟩ := hxy
      exact ⟨b2, L', f1, by omega, f3⟩
    have hD110 : ∀ (t w : Nat) (A' S' H' : Int32), t ≤ 200 → (a + t ≤ l + d → (f_Inflater_takeLengths_110 K Nc ((f_Inflater_takeLengths_L2 K Nc (nI (g + m)) T CD MD (nI (l + d))) qD) A' (nI (g + m)) S' H' T CD MD lD (nI (l + d)) (nI a) (nI w) (nI t)) = (f_Inflater_takeLengths_L2 K Nc (nI (g + m)) T CD MD (nI (l + d)) qD A' S' H' (lyv lD a t (nI w)) (nI (a + t)))) ∧ (¬ a + t ≤ l + d → Th 3 (f_Inflater_takeLengths_110 K Nc ((f_Inflater_takeLengths_L2 K Nc (nI (g + m)) T CD MD (nI (l + d))) qD) A' (nI (g + m)) S' H' T CD MD lD (nI (l + d)) (nI a) (nI w) (nI t))) := by
      intro t w A' S' H' k0
      unfold f_Inflater_takeLengths_110 f_Inflater_takeLengths_123
      rw [pk_sub ha]
      constructor
      · intro k1
        rw [if_neg (nI_nlt (by omega) (by omega)), need1, q_tryL, nI_add, fill4_ok (by omega) (by omega) (by omega) (by omega), q_bind]
        rfl
      · intro k1
        rw [if_pos (nI_lt (by omega) (by omega)), need0, q_tryR]
        exact ⟨_, rfl⟩
    have hrep : ∀ (t w b' : Nat) (A' S' H' : Int32), 1 ≤ t → t ≤ 200 → w < 16 → b1 ≤ b' → Bq g m dat b' A' S' H' → Lk (RS g m dat b (l + d)) (f_Inflater_takeLengths_110 K Nc ((f_Inflater_takeLengths_L2 K Nc (nI (g + m)) T CD MD (nI (l + d))) qD) A' (nI (g + m)) S' H' T CD MD lD (nI (l + d)) (nI a) (nI w) (nI t)) (f_M_toldCodes_258 K ((f_M_toldCodes_L132 K (nI m) D t_lengthCodes_all CM MM t_literals_all a_t_literals_counts a_t_literals_meanings t_distances_all a_t_distances_counts a_t_distances_meanings (nI l) (nI d)) qM) (nI m) (nI b') D lM t_lengthCodes_all CM MM t_literals_all a_t_literals_counts a_t_literals_meanings t_distances_all a_t_distances_counts a_t_distances_meanings (nI l) (nI d) (nI a) (nI w) (nI t)) := by
      intro t w b' A' S' H' k0 k1 k2 k3 k4
      obtain ⟨d1, d2⟩ := hD110 t w A' S' H' k1
      unfold f_M_toldCodes_258 f_M_toldCodes_277
      rw [nI_add, nI_add]
      by_cases c : a + t ≤ l + d
      · have hM : (f_M_toldCodes_L283 K (nI m) (nI b') D t_lengthCodes_all CM MM t_literals_all a_t_literals_counts a_t_literals_meanings t_distances_all a_t_distances_counts a_t_distances_meanings (nI l) (nI d) (nI w) (nI t) K lM (nI a) 0) = some (lyv lM a t (nI w), nI (a + t)) := by
          have := repM_L (K := K) (a := a) (t := t) (l := l) (d := d) (by omega) (CM := CM) (MM := MM) (t_dataSize := nI m) (t_bitAt := nI b') (a_t_data := D) (t_lengthCodes_all := t_lengthCodes_all) (t_literals_all := t_literals_all) (a_t_literals_counts := a_t_literals_counts) (a_t_literals_meanings := a_t_literals_meanings) (t_distances_all := t_distances_all) (a_t_distances_counts := a_t_distances_counts) (a_t_distances_meanings := a_t_distances_meanings) (x6 := nI w) lM t 0 K (by omega) (by omega)
          rw [lyv_0] at this
          exact this
        rw [d1 c, if_neg (nI_nlt (by omega) (by omega)), can1, q_tryL, hM, q_bind]
        exact hgo t w b' A' S' H' k0 c k2 k3 k4
      · rw [if_pos (nI_lt (by omega) (by omega)), can0, q_tryR]
        exact Lk.no (d2 c) ⟨_, rfl⟩
    by_cases c16 : v < 16
    · rw [if_neg (show ¬ nI v = 16 from fun q => by have := (nI_eq32 (b := 16) (by omega) (by omega)).mp q; omega), if_pos (show nI v ≤ 16 from nI_le (b := 16) (by omega) (by omega)), if_neg (show ¬ (16 : Int32) ≤ nI v from nI_ge (b := 16) c16 (by omega)), if_pos (q_inb (by omega) (by omega)), nI_clamp (by omega), nI_1, upd_lyv]
      have := (hD110 1 v A1 S1 H1 (by omega)).1 (by omega)
      show Lk _ (f_Inflater_takeLengths_110 K Nc ((f_Inflater_takeLengths_L2 K Nc (nI (g + m)) T CD MD (nI (l + d))) qD) A1 (nI (g + m)) S1 H1 T CD MD lD (nI (l + d)) (nI a) (nI v) (nI 1)) _
      rw [this]
      exact hgo 1 v b1 A1 S1 H1 (by omega) (by omega) c16 (by omega) hq1
    rw [if_pos (show (16 : Int32) ≤ nI v from nI_le (a := 16) (by omega) (by omega))]
    unfold f_M_toldCodes_185 f_M_toldCodes_190 f_M_toldCodes_213
    by_cases e16 : v = 16
    · subst e16
      rw [if_pos (show nI 16 = 16 from rfl), if_neg (show ¬ (16 : Int32) < nI 16 by decide)]
      unfold f_Inflater_takeLengths_40
      by_cases a0 : a = 0
      · have z : nI a ≤ 0 := nI_le (b := 0) (by omega) (by omega)
        rw [if_pos z, if_pos z, need0, can0, q_tryR, q_tryR]
        exact Lk.no ⟨_, rfl⟩ ⟨_, rfl⟩
      have z : ¬ nI a ≤ 0 := nI_ge (a := 0) (by omega) (by omega)
      have ea : nI a - 1 = nI (a - 1) := pk_sub (b := 1) (by omega)
      obtain ⟨l1, l2', l3⟩ := hL (a - 1) (by omega)
      rw [if_neg z, if_neg z, need1, can1, q_tryL, q_tryL, if_pos (show nI 16 = 16 from rfl), ea, if_pos (q_inb (by omega) (by omega)), if_pos (q_inb (by omega) (by omega)), nI_clamp (by omega), l1, l2', if_pos (show nI 16 = 16 from rfl)]
      refine Lk.try (bits_lk (K := K) (x := 2) (by omega) ht hd hg (by omega) hq1) (fun u => ⟨_, rfl⟩) (fun u => ⟨_, rfl⟩) (fun x y hxy => ?_)
      obtain ⟨A2, S2, H2, rfl, rfl, hq2⟩ := hxy
      have hw := vN_lt dat b1 2
      generalize vN dat b1 2 = w at hw ⊢
      dsimp only
      rw [show (3 : Int32) + nI w = nI (3 + w) from nI_add 3 w]
      exact hrep (3 + w) (L (a - 1)) (b1 + 2) A2 S2 H2 (by omega) (by omega) l3 (by omega) hq2
    have n16 : ¬ nI v = 16 := fun q => e16 ((nI_eq32 (b := 16) (by omega) (by omega)).mp q)
    rw [if_neg n16, if_neg (show ¬ nI v ≤ 16 from nI_ge (a := 16) (by omega) (by omega)), if_pos (show (16 : Int32) < nI v from nI_lt (a := 16) (by omega) (by omega)), can1, q_tryL, if_neg n16, if_neg n16]
    unfold f_Inflater_takeLengths_108
    by_cases e17 : v = 17
    · subst e17
      rw [if_pos (show nI 17 = 17 from rfl), if_pos (show nI 17 = 17 from rfl)]
      refine Lk.try (bits_lk (K := K) (x := 3) (by omega) ht hd hg (by omega) hq1) (fun u => ⟨_, rfl⟩) (fun u => ⟨_, rfl⟩) (fun x y hxy => ?_)
      obtain ⟨A2, S2, H2, rfl, rfl, hq2⟩ := hxy
      have hw := vN_lt dat b1 3
      generalize vN dat b1 3 = w at hw ⊢
      dsimp only
      rw [show (3 : Int32) + nI w = nI (3 + w) from nI_add 3 w]
      exact hrep (3 + w) 0 (b1 + 3) A2 S2 H2 (by omega) (by omega) (by omega) (by omega) hq2
    · have n17 : ¬ nI v = 17 := fun q => e17 ((nI_eq32 (b := 17) (by omega) (by omega)).mp q)
      rw [if_neg n17, if_neg n17]
      refine Lk.try (bits_lk (K := K) (x := 7) (by omega) ht hd hg (by omega) hq1) (fun u => ⟨_, rfl⟩) (fun u => ⟨_, rfl⟩) (fun x y hxy => ?_)
      obtain ⟨A2, S2, H2, rfl, rfl, hq2⟩ := hxy
      have hw := vN_lt dat b1 7
      generalize vN dat b1 7 = w at hw ⊢
      dsimp only
      rw [show (11 : Int32) + nI w = nI (11 + w) from nI_add 11 w]
      exact hrep (11 + w) 0 (b1 + 7) A2 S2 H2 (by omega) (by omega) (by omega) (by omega) hq2
