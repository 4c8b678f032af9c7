/-! the pure half: DEFLATE taken -/
theorem vN_add (dat : Nat → Nat) (b x : Nat) : ∀ y, vN dat b (x + y) = vN dat b x + 2 ^ x * vN dat (b + x) y := by
  intro y
  induction y with
  | zero =>
    show vN dat b x = vN dat b x + 2 ^ x * 0
    omega
  | succ y ih =>
    show vN dat b (x + y) + (bitD dat (b + (x + y))).toNat * 2 ^ (x + y) = vN dat b x + 2 ^ x * (vN dat (b + x) y + (bitD dat (b + x + y)).toNat * 2 ^ y)
    rw [ih, Nat.mul_add, Nat.pow_add, ← Nat.add_assoc b x y, Nat.mul_left_comm (2 ^ x)]
    omega
theorem vN_8 {dat : Nat → Nat} (hb : ∀ i, dat i < 256) (a : Nat) : vN dat (8 * a) 8 = dat a := by
  refine Nat.eq_of_testBit_eq (fun i => ?_)
  rw [vN_bit]
  by_cases h : i < 8
  · rw [decide_eq_true h, Bool.true_and]
    unfold bitD
    rw [show (8 * a + i) / 8 = a by omega, show (8 * a + i) % 8 = i by omega]
  · rw [decide_eq_false h, test_out (hb a) (by omega)]
    rfl
theorem vN_16 {dat : Nat → Nat} (hb : ∀ i, dat i < 256) (a : Nat) : vN dat (8 * a) 16 = dat a + dat (a + 1) * 256 := by
  have h := vN_add dat (8 * a) 8 8
  rw [vN_8 hb a, show 8 * a + 8 = 8 * (a + 1) by omega, vN_8 hb (a + 1)] at h
  rw [show (16 : Nat) = 8 + 8 from rfl, h]
  omega
/-- the class's source, from a byte's beginning -/
theorem Dt.tf {g m : Nat} {T : Nat → Int32} {dat : Nat → Nat} (h : Dt g m T dat) (a : Nat) : Tf (g + a) (g + m) T (tv T) ∧ ∀ i, i < m → tv T (g + i) = dat i := ⟨⟨fun j _ _ => rfl, tv_lt T⟩, h.1⟩
theorem next_lk {K g m a : Nat} (hK : 40 < K) {T D : Nat → Int32} {dat : Nat → Nat} (ht : Dt g m T dat) (hd : Dt 0 m D dat) (hg : g + m ≤ 65536) (ha : a ≤ m) : Lk (fun x y => x = (nI (dat a), nI (g + (a + 1))) ∧ y = (nI (dat a), nI (8 * (a + 1))) ∧ a + 1 ≤ m) (f_Source_next (nI (g + a)) (nI (g + m)) T) (f_M_bits K 8 (nI m) (nI (8 * a)) D) := by
  have h1 := next_exF (show g + a ≤ g + m by omega) hg (ht.tf a).1
  have h2 := bitsM (K := K) (x := 8) hK hd (by omega) (by omega) (show 8 * a ≤ 8 * m by omega)
  by_cases c : a < m
  · refine Or.inr ⟨_, _, h1.1 (by omega), h2.1 (by omega), ?_, ?_, by omega⟩
    · rw [ht.1 a c]
      rfl
    · rw [vN_8 hd.2 a]
      rfl
  · exact Or.inl ⟨h1.2 (by omega), h2.2 (by omega)⟩
theorem lit2_lk {K g m a : Nat} (hK : 40 < K) {T D : Nat → Int32} {dat : Nat → Nat} (ht : Dt g m T dat) (hd : Dt 0 m D dat) (hg : g + m ≤ 65536) (ha : a ≤ m) : Lk (fun x y => ∃ v, v < 65536 ∧ x = (nI v, nI (g + (a + 2))) ∧ y = (nI v, nI (8 * (a + 2))) ∧ a + 2 ≤ m) (f_Source_little2 (nI (g + a)) (nI (g + m)) T) (f_M_bits K 16 (nI m) (nI (8 * a)) D) := by
  have h1 := little2_exF (show g + a ≤ g + m by omega) hg (ht.tf a).1
  have h2 := bitsM (K := K) (x := 16) hK hd (by omega) (by omega) (show 8 * a ≤ 8 * m by omega)
  by_cases c : a + 2 ≤ m
  · have e1 := ht.1 a (by omega)
    have e2 := ht.1 (a + 1) (by omega)
    have b1 := ht.2 a
    have b2 := ht.2 (a + 1)
    have e3 : l2 (tv T) (g + a) = dat a + dat (a + 1) * 256 := by
      unfold l2
      rw [e1, Nat.add_assoc g a 1, e2]
    refine Or.inr ⟨_, _, h1.1 (by omega), h2.1 (by omega), dat a + dat (a + 1) * 256, by omega, ?_, ?_, c⟩
    · rw [e3]
      rfl
    · rw [vN_16 hd.2 a]
      rfl
  · exact Or.inl ⟨h1.2 (by omega), h2.2 (by omega)⟩
theorem up8 {g m b : Nat} {dat : Nat → Nat} {A S H : Int32} (hm : m ≤ 65536) (h : Bq g m dat b A S H) : ∃ a, A = nI (g + a) ∧ ((nI b + 7) / 8) * 8 = nI (8 * a) ∧ a ≤ m ∧ b ≤ 8 * a := by
  obtain ⟨a, held, h1, -, -, h4, h5, h6⟩ := h
  refine ⟨a, h1, ?_, h5, by omega⟩
  rw [show nI b + 7 = nI (b + 7) from nI_add b 7, show nI (b + 7) / 8 = nI ((b + 7) / 8) from pk_div (d := 8) (by omega) (by omega) (by omega), show nI ((b + 7) / 8) * 8 = nI ((b + 7) / 8 * 8) from pk_mul _ 8]
  congr 1
  omega
theorem Bq.at {g m a : Nat} (dat : Nat → Nat) (ha : a ≤ m) : Bq g m dat (8 * a) (nI (g + a)) 0 0 := ⟨a, 0, rfl, rfl, rfl, by omega, ha, by omega⟩
theorem Agr_g {n : Nat} {f h : Nat → Int32} (x : Int32) (hA : Agr n f h) : Agr (n + 1) (upd f n x) (upd h n x) := by
  intro j hj
  by_cases e : j = n
  · rw [e, upd_at, upd_at]
  · rw [upd_ne _ _ e, upd_ne _ _ e]
    exact hA j (by omega)
theorem store_L {K g m due made a n : Nat} (hK : 40 < K) {T D : Nat → Int32} {dat : Nat → Nat} (ht : Dt g m T dat) (hd : Dt 0 m D dat) (hg : g + m ≤ 65536) (hdue : due ≤ 147456) (hn : made + n ≤ due) (hn2 : n < 65536) {t_width : Int32} {t_height : Int32} {t_depth : Int32} {t_kind : Int32} {t_interlace : Int32} {a_t_lengths : Nat → Int32} {t_literals_all : Int32} {a_t_literals_counts : Nat → Int32} {a_t_literals_meanings : Nat → Int32} {t_distances_all : Int32} {a_t_distances_counts : Nat → Int32} {a_t_distances_meanings : Nat → Int32} {t_lengthCodes_all : Int32} {a_t_lengthCodes_counts : Nat → Int32} {a_t_lengthCodes_meanings : Nat → Int32} {x3 : Int32} {S H : Int32} : ∀ (r k qD qM : Nat) (out RO : Nat → Int32), k + r = n → r < qD → r < qM → a + k ≤ m → Agr (made + k) out RO → Lk (fun x y => ∃ out' RO', x = (nI (made + n), nI (g + (a + n)), out') ∧ y = (nI (8 * (a + n)), nI (made + n), RO') ∧ a + n ≤ m ∧ Agr (made + n) out' RO') (f_Inflater_takeStored_L60 K (nI due) (nI (g + m)) S H T (nI n) qD (nI (made + k)) (nI (g + (a + k))) out (nI k)) (f_M_inflate_L207 K t_width t_height t_depth t_kind t_interlace (nI m) (nI due) D a_t_lengths t_literals_all a_t_literals_counts a_t_literals_meanings t_distances_all a_t_distances_counts a_t_distances_meanings t_lengthCodes_all a_t_lengthCodes_counts a_t_lengthCodes_meanings x3 (nI n) qM (nI (8 * (a + k))) (nI (made + k)) RO (nI k)) := by
  intro r
  induction r with
  | zero =>
    intro k qD qM out RO hk hqD hqM ha hA
    obtain ⟨qD, rfl⟩ : ∃ w, qD = w + 1 := ⟨qD - 1, by omega⟩
    obtain ⟨qM, rfl⟩ : ∃ w, qM = w + 1 := ⟨qM - 1, by omega⟩
    have e : k = n := by omega
    subst e
    show Lk _ (f_Inflater_takeStored_60 K _ (nI (made + k)) (nI due) (nI (g + (a + k))) (nI (g + m)) S H T out (nI k) (nI k)) (f_M_inflate_207 K _ t_width t_height t_depth t_kind t_interlace (nI m) (nI (8 * (a + k))) (nI (made + k)) (nI due) D RO a_t_lengths t_literals_all a_t_literals_counts a_t_literals_meanings t_distances_all a_t_distances_counts a_t_distances_meanings t_lengthCodes_all a_t_lengthCodes_counts a_t_lengthCodes_meanings x3 (nI k) (nI k))
    unfold f_Inflater_takeStored_60 f_M_inflate_207
    rw [if_pos (nI_le (by omega) (by omega)), if_pos (nI_le (by omega) (by omega))]
    exact Lk.yes ⟨out, RO, rfl, rfl, ha, hA⟩
  | succ r ih =>
    intro k qD qM out RO hk hqD hqM ha hA
    obtain ⟨qD, rfl⟩ : ∃ w, qD = w + 1 := ⟨qD - 1, by omega⟩
    obtain ⟨qM, rfl⟩ : ∃ w, qM = w + 1 := ⟨qM - 1, by omega⟩
    show Lk _ (f_Inflater_takeStored_60 K _ (nI (made + k)) (nI due) (nI (g + (a + k))) (nI (g + m)) S H T out (nI n) (nI k)) (f_M_inflate_207 K _ t_width t_height t_depth t_kind t_interlace (nI m) (nI (8 * (a + k))) (nI (made + k)) (nI due) D RO a_t_lengths t_literals_all a_t_literals_counts a_t_literals_meanings t_distances_all a_t_distances_counts a_t_distances_meanings t_lengthCodes_all a_t_lengthCodes_counts a_t_lengthCodes_meanings x3 (nI n) (nI k))
    unfold f_Inflater_takeStored_60 f_M_inflate_207
    rw [if_neg (nI_ge (by omega) (by omega)), if_neg (nI_ge (by omega) (by omega))]
    refine Lk.try (next_lk hK ht hd hg ha) (fun u => ⟨_, rfl⟩) (fun u => ⟨_, rfl⟩) (fun x y hxy => ?_)
    obtain ⟨rfl, rfl, h1⟩ := hxy
    rw [if_pos (q_inb (by omega) (by omega)), nI_clamp (by omega), q_by2, nI_1, nI_1, (giveM_ex (show made + k ≤ due by omega) hdue (nI (dat (a + k))) RO).1 (by omega), q_tryL]
    exact ih (k + 1) qD qM _ _ (by omega) (by omega) (by omega) (by omega) (Agr_g _ hA)
theorem store_no {K m due made n : Nat} (hK : 40 < K) {D : Nat → Int32} {dat : Nat → Nat} (hd : Dt 0 m D dat) (hm : m ≤ 65536) (hdue : due ≤ 147456) (hn : due < made + n) (hn2 : n < 65536) {t_width : Int32} {t_height : Int32} {t_depth : Int32} {t_kind : Int32} {t_interlace : Int32} {a_t_lengths : Nat → Int32} {t_literals_all : Int32} {a_t_literals_counts : Nat → Int32} {a_t_literals_meanings : Nat → Int32} {t_distances_all : Int32} {a_t_distances_counts : Nat → Int32} {a_t_distances_meanings : Nat → Int32} {t_lengthCodes_all : Int32} {a_t_lengthCodes_counts : Nat → Int32} {a_t_lengthCodes_meanings : Nat → Int32} {x3 : Int32} : ∀ (r k b qM : Nat) (RO : Nat → Int32), k + r = n → r < qM → b ≤ 8 * m → made + k ≤ due → Th 3 (f_M_inflate_L207 K t_width t_height t_depth t_kind t_interlace (nI m) (nI due) D a_t_lengths t_literals_all a_t_literals_counts a_t_literals_meanings t_distances_all a_t_distances_counts a_t_distances_meanings t_lengthCodes_all a_t_lengthCodes_counts a_t_lengthCodes_meanings x3 (nI n) qM (nI b) (nI (made + k)) RO (nI k)) := by
  intro r
  induction r with
  | zero =>
    intro k b qM RO hk hqM hb hmd
    omega
  | succ r ih =>
    intro k b qM RO hk hqM hb hmd
    obtain ⟨qM, rfl⟩ : ∃ w, qM = w + 1 := ⟨qM - 1, by omega⟩
    show Th 3 (f_M_inflate_207 K _ t_width t_height t_depth t_kind t_interlace (nI m) (nI b) (nI (made + k)) (nI due) D RO a_t_lengths t_literals_all a_t_literals_counts a_t_literals_meanings t_distances_all a_t_distances_counts a_t_distances_meanings t_lengthCodes_all a_t_lengthCodes_counts a_t_lengthCodes_meanings x3 (nI n) (nI k))
    unfold f_M_inflate_207
    rw [if_neg (nI_ge (by omega) (by omega))]
    have h := bitsM (K := K) (x := 8) hK hd (by omega) (by omega) hb
    by_cases c : b + 8 ≤ 8 * m
    · have h1 : f_M_bits K 8 (nI m) (nI b) D = _ := h.1 c
      rw [h1, q_tryL]
      dsimp only
      have hg := giveM_ex hmd hdue (nI (vN dat b 8)) RO
      by_cases c2 : made + k < due
      · rw [hg.1 c2, q_tryL, nI_1]
        exact ih (k + 1) (b + 8) qM _ (by omega) (by omega) (by omega) (by omega)
      · obtain ⟨u, hu⟩ := hg.2 c2
        rw [hu]
        exact ⟨_, rfl⟩
    · obtain ⟨u, hu⟩ := h.2 c
      have hu2 : f_M_bits K 8 (nI m) (nI b) D = _ := hu
      rw [hu2]
      exact ⟨_, rfl⟩
