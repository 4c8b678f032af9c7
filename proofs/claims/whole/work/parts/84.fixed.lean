/-! the pure half: the codes that are fixed, and those that are told -/
def fxL (m : Nat) : Nat := if m < 144 then 8 else if m < 256 then 9 else if m < 280 then 7 else 8
theorem fxL_lt (m : Nat) : fxL m < 16 := by
  unfold fxL
  by_cases h1 : m < 144
  · rw [if_pos h1]; omega
  · rw [if_neg h1]
    by_cases h2 : m < 256
    · rw [if_pos h2]; omega
    · rw [if_neg h2]
      by_cases h3 : m < 280
      · rw [if_pos h3]; omega
      · rw [if_neg h3]; omega
theorem fx_w : wn fxL 288 16 = 32768 := by decide +kernel
theorem fx_d : wn (fun _ => 5) 32 16 = 32768 := by decide +kernel
theorem fill4_L {K N a b : Nat} {x y : Int32} (ea : x = nI a) (eb : y = nI b) (hab : a ≤ b) (hb : b ≤ N) (hN : N < 2 ^ 31) (hK : b < K) (v : Int32) (f : Nat → Int32) : f_Arrays_fill4 K N x y v f = some ((), fun j => if a ≤ j ∧ j < b then v else f j) := by
  rw [ea, eb]
  exact fill4_ok hab hb hN hK v f
theorem fixed_D {K Nl Nd : Nat} (hK : 1000 < K) (hNl : 288 ≤ Nl) (hNl2 : Nl < 2 ^ 20) (hNd : 32 ≤ Nd) (hNd2 : Nd < 2 ^ 20) {a_t_lengths : Nat → Int32} {t_literals_used : Int32} {t_literals_unusedWords : Int32} {a_t_literals_counts : Nat → Int32} {a_t_literals_places : Nat → Int32} {a_t_literals_meanings : Nat → Int32} {t_distances_used : Int32} {t_distances_unusedWords : Int32} {a_t_distances_counts : Nat → Int32} {a_t_distances_places : Nat → Int32} {a_t_distances_meanings : Nat → Int32} : ∃ (len : Nat → Int32) (u w : Int32) (C P Mn : Nat → Int32) (u2 w2 : Int32) (C2 P2 Mn2 : Nat → Int32), (f_Inflater_layFixedCodes K Nl Nd a_t_lengths t_literals_used t_literals_unusedWords a_t_literals_counts a_t_literals_places a_t_literals_meanings t_distances_used t_distances_unusedWords a_t_distances_counts a_t_distances_places a_t_distances_meanings) = some (.inl ((), len, u, w, C, P, Mn, u2, w2, C2, P2, Mn2)) ∧ Cd fxL 288 C Mn ∧ Cd (fun _ => 5) 32 C2 Mn2 := by
  unfold f_Inflater_layFixedCodes
  rw [fill4_L (x := 0) (y := 144) (a := 0) (b := 144) rfl rfl (by omega) (by omega) (by omega) (by omega), q_bind, fill4_L (x := 144) (y := 256) (a := 144) (b := 256) rfl rfl (by omega) (by omega) (by omega) (by omega), q_bind, fill4_L (x := 256) (y := 280) (a := 256) (b := 280) rfl rfl (by omega) (by omega) (by omega) (by omega), q_bind, fill4_L (x := 280) (y := 288) (a := 280) (b := 288) rfl rfl (by omega) (by omega) (by omega) (by omega), q_bind, fill4_L (x := 0) (y := 32) (a := 0) (b := 32) rfl rfl (by omega) (by omega) (by omega) (by omega)]
  dsimp only
  have h1 : Ln (fun j => if 280 ≤ j ∧ j < 288 then (8 : Int32) else if 256 ≤ j ∧ j < 280 then 7 else if 144 ≤ j ∧ j < 256 then 9 else if 0 ≤ j ∧ j < 144 then 8 else a_t_lengths j) 0 288 fxL := by
    intro m hm
    refine ⟨?_, fxL_lt m⟩
    rw [Nat.zero_add]
    show (if 280 ≤ m ∧ m < 288 then (8 : Int32) else if 256 ≤ m ∧ m < 280 then 7 else if 144 ≤ m ∧ m < 256 then 9 else if 0 ≤ m ∧ m < 144 then 8 else a_t_lengths m) = _
    unfold fxL
    by_cases c1 : m < 144
    · rw [if_neg (by omega), if_neg (by omega), if_neg (by omega), if_pos (by omega), if_pos c1]
      rfl
    · by_cases c2 : m < 256
      · rw [if_neg (by omega), if_neg (by omega), if_pos (by omega), if_neg c1, if_pos c2]
        rfl
      · by_cases c3 : m < 280
        · rw [if_neg (by omega), if_pos (by omega), if_neg c1, if_neg c2, if_pos c3]
          rfl
        · rw [if_pos (by omega), if_neg c1, if_neg c2, if_neg c3]
          rfl
  have hw := fx_w
  have hd := fx_d
  generalize hA : (fun j => if 280 ≤ j ∧ j < 288 then (8 : Int32) else if 256 ≤ j ∧ j < 280 then 7 else if 144 ≤ j ∧ j < 256 then 9 else if 0 ≤ j ∧ j < 144 then 8 else a_t_lengths j) = A1 at h1 ⊢
  obtain ⟨v, e, hc⟩ := (lay_okD (K := K) (N := 316) (Mx := Nl) hK h1 (by omega) (by omega) (by omega) hNl hNl2 t_literals_used t_literals_unusedWords a_t_literals_counts a_t_literals_places a_t_literals_meanings).1 (by omega)
  have h2 : Ln (fun j => if 0 ≤ j ∧ j < 32 then (5 : Int32) else A1 j) 0 32 (fun _ => 5) := by
    intro m hm
    refine ⟨?_, show (5 : Nat) < 16 by omega⟩
    rw [Nat.zero_add]
    exact if_pos (by omega)
  obtain ⟨v2, e2, hc2⟩ := (lay_okD (K := K) (N := 316) (Mx := Nd) hK h2 (by omega) (by omega) (by omega) hNd hNd2 t_distances_used t_distances_unusedWords a_t_distances_counts a_t_distances_places a_t_distances_meanings).1 (by omega)
  have e' : f_Codes_lay K 316 Nl 0 288 t_literals_used t_literals_unusedWords a_t_literals_counts A1 a_t_literals_places a_t_literals_meanings = _ := e
  have e2' : f_Codes_lay K 316 Nd 0 32 t_distances_used t_distances_unusedWords a_t_distances_counts (fun j => if 0 ≤ j ∧ j < 32 then (5 : Int32) else A1 j) a_t_distances_places a_t_distances_meanings = _ := e2
  rw [e', q_tryL, q_bind]
  subst hA
  dsimp only at e2' ⊢
  rw [e2', q_tryL]
  exact ⟨_, _, _, _, _, _, _, _, _, _, _, rfl, hc, hc2⟩
theorem fixed_M {K : Nat} (hK : 1000 < K) {a_t_lengths : Nat → Int32} {t_literals_all : Int32} {a_t_literals_counts : Nat → Int32} {a_t_literals_meanings : Nat → Int32} {t_distances_all : Int32} {a_t_distances_counts : Nat → Int32} {a_t_distances_meanings : Nat → Int32} : ∃ (len : Nat → Int32) (u : Int32) (C Mn : Nat → Int32) (u2 : Int32) (C2 Mn2 : Nat → Int32), (f_M_fixedCodes K a_t_lengths t_literals_all a_t_literals_counts a_t_literals_meanings t_distances_all a_t_distances_counts a_t_distances_meanings) = some ((), len, u, C, Mn, u2, C2, Mn2) ∧ Cd fxL 288 C Mn ∧ Cd (fun _ => 5) 32 C2 Mn2 := by
  unfold f_M_fixedCodes
  have hl := loop_mp (c := 288) (K := K) (f_M_fixedCodes_L2 K t_literals_all a_t_literals_counts a_t_literals_meanings t_distances_all a_t_distances_counts a_t_distances_meanings) (fun k _ => nI (fxL k)) a_t_lengths (fun q s => ?_) (fun q k hk => ?_) (by omega)
  · rw [hl, q_bind]
    have h1 : Ln (mp (fun k _ => nI (fxL k)) a_t_lengths 288) 0 288 fxL := fun m hm => ⟨by rw [Nat.zero_add, mp_lt _ _ hm], fxL_lt m⟩
    generalize mp (fun k _ => nI (fxL k)) a_t_lengths 288 = A1 at h1 ⊢
    obtain ⟨C, Mn, e, hc⟩ := make_okM (K := K) (N := 640) hK h1 (by omega) (by omega) (by omega) t_literals_all a_t_literals_counts a_t_literals_meanings
    have e' : f_MCodes_make K 640 0 288 t_literals_all a_t_literals_counts A1 a_t_literals_meanings = _ := e
    rw [e', q_bind]
    dsimp only
    have hl2 := loop_mp (c := 32) (K := K) (f_M_fixedCodes_L77 K (nI (sn fxL 288 16)) C Mn t_distances_all a_t_distances_counts a_t_distances_meanings) (fun k _ => 5) A1 (fun q s => ?_) (fun q k hk => ?_) (by omega)
    · rw [hl2, q_bind]
      have h2 : Ln (mp (fun k _ => 5) A1 32) 0 32 (fun _ => 5) := fun m hm => ⟨by rw [Nat.zero_add, mp_lt _ _ hm]; rfl, show (5 : Nat) < 16 by omega⟩
      generalize mp (fun k _ => (5 : Int32)) A1 32 = A2 at h2 ⊢
      obtain ⟨C2, Mn2, e2, hc2⟩ := make_okM (K := K) (N := 640) hK h2 (by omega) (by omega) (by omega) t_distances_all a_t_distances_counts a_t_distances_meanings
      have e2' : f_MCodes_make K 640 0 32 t_distances_all a_t_distances_counts A2 a_t_distances_meanings = _ := e2
      rw [e2', q_bind]
      exact ⟨_, _, _, _, _, _, _, rfl, hc, hc2⟩
    · show (f_M_fixedCodes_77 K _ s (nI (sn fxL 288 16)) C Mn t_distances_all a_t_distances_counts a_t_distances_meanings (nI 32)) = _
      unfold f_M_fixedCodes_77
      rw [if_pos (show (32 : Int32) ≤ nI 32 by decide)]
    · show (f_M_fixedCodes_77 K _ (mp (fun k _ => 5) A1 k) (nI (sn fxL 288 16)) C Mn t_distances_all a_t_distances_counts a_t_distances_meanings (nI k)) = _
      unfold f_M_fixedCodes_77
      rw [if_neg (show ¬ (32 : Int32) ≤ nI k from nI_ge (b := 32) hk (by omega)), if_pos (q_inb (by omega) (by omega)), nI_clamp (by omega), nI_1]
  · show (f_M_fixedCodes_2 K _ s t_literals_all a_t_literals_counts a_t_literals_meanings t_distances_all a_t_distances_counts a_t_distances_meanings (nI 288)) = _
    unfold f_M_fixedCodes_2
    rw [if_pos (show (288 : Int32) ≤ nI 288 by decide)]
  · show (f_M_fixedCodes_2 K _ (mp (fun k _ => nI (fxL k)) a_t_lengths k) t_literals_all a_t_literals_counts a_t_literals_meanings t_distances_all a_t_distances_counts a_t_distances_meanings (nI k)) = _
    unfold f_M_fixedCodes_2 f_M_fixedCodes_52 fxL
    rw [if_neg (show ¬ (288 : Int32) ≤ nI k from nI_ge (b := 288) hk (by omega)), if_pos (q_inb (show k < 640 by omega) (by omega)), if_pos (q_inb (show k < 640 by omega) (by omega)), if_pos (q_inb (show k < 640 by omega) (by omega)), nI_clamp (by omega), nI_1]
    by_cases c1 : k < 144
    · rw [if_neg (show ¬ (144 : Int32) ≤ nI k from nI_ge (b := 144) c1 (by omega)), if_pos c1]
      rfl
    · rw [if_pos (show (144 : Int32) ≤ nI k from nI_le (a := 144) (by omega) (by omega)), if_neg c1]
      by_cases c2 : k < 256
      · rw [if_neg (show ¬ (256 : Int32) ≤ nI k from nI_ge (b := 256) c2 (by omega)), if_pos c2]
        rfl
      · rw [if_pos (show (256 : Int32) ≤ nI k from nI_le (a := 256) (by omega) (by omega)), if_neg c2]
        by_cases c3 : k < 280
        · rw [if_neg (show ¬ (280 : Int32) ≤ nI k from nI_ge (b := 280) c3 (by omega)), if_pos c3]
          rfl
        · rw [if_pos (show (280 : Int32) ≤ nI k from nI_le (a := 280) (by omega) (by omega)), if_neg c3]
          rfl
