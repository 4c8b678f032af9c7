/-! the pure half: a BMP file's head, the reference -/
theorem sized_ok {w h : Nat} (hw0 : 0 < w) (hh0 : 0 < h) (hw : w < 2 ^ 31) (hh : h ≤ 2 ^ 31) (a b : Int32) : f_M_sized (lN w) (lN h) a b = if w * h ≤ 16384 then some (.inl ((), nI w, nI h)) else some (.inr (4, (a, b))) := by
  have hb : w * h < 2 ^ 63 := Nat.lt_of_le_of_lt (Nat.mul_le_mul (Nat.le_of_lt hw) hh) (by omega)
  have h1 : w ≤ w * h := Nat.le_mul_of_pos_right w hh0
  have h2 : h ≤ w * h := Nat.le_mul_of_pos_left h hw0
  unfold f_M_sized f_M_sized_18 f_M_sized_47
  rw [if_neg (fun e => by have := (pk_lLE (b := 0) (by omega) (by omega)).mp (show lN w ≤ lN 0 from (cmp_le _ _).mp e); omega), if_neg (fun e => by have := (pk_lLE (b := 0) (by omega) (by omega)).mp (show lN h ≤ lN 0 from (cmp_le _ _).mp e); omega), can1, q_tryL, lN_mul, lN_i, lN_i, show (16384 : Int64) = lN 16384 from rfl]
  by_cases c : w * h ≤ 16384
  · rw [if_neg (fun e => by have := (pk_lLT (a := 16384) (by omega) (by omega)).mp (show lN 16384 < lN w from (cmp_gt _ _).mp e); omega), if_neg (fun e => by have := (pk_lLT (a := 16384) (by omega) (by omega)).mp (show lN 16384 < lN h from (cmp_gt _ _).mp e); omega), if_pos ((cmp_le _ _).mpr (show lN (w * h) ≤ lN 16384 from (pk_lLE hb (by omega)).mpr c)), if_pos c]
  · rw [if_neg c]
    by_cases c1 : 16384 < w
    · rw [if_pos ((cmp_gt _ _).mpr (show lN 16384 < lN w from (pk_lLT (by omega) (by omega)).mpr c1))]
    · rw [if_neg (fun e => c1 ((pk_lLT (a := 16384) (by omega) (by omega)).mp (show lN 16384 < lN w from (cmp_gt _ _).mp e)))]
      by_cases c2 : 16384 < h
      · rw [if_pos ((cmp_gt _ _).mpr (show lN 16384 < lN h from (pk_lLT (by omega) (by omega)).mpr c2))]
      · rw [if_neg (fun e => c2 ((pk_lLT (a := 16384) (by omega) (by omega)).mp (show lN 16384 < lN h from (cmp_gt _ _).mp e))), if_neg (fun e => c ((pk_lLE hb (by omega)).mp (show lN (w * h) ≤ lN 16384 from (cmp_le _ _).mp e)))]
theorem l_eq {a b : Nat} (ha : a < 2 ^ 63) (hb : b < 2 ^ 63) : lg_cmp (lN a) (lN b) = 0 ↔ a = b := (cmp_eq _ _).trans (pk_lEQ ha hb)
theorem hgt_pos {a : Nat} (h : a ≠ 0) (h2 : a < 2 ^ 32) : 0 < hgt a := by
  unfold hgt
  by_cases c : a < 2 ^ 31
  · rw [if_pos c]; omega
  · rw [if_neg c]; omega
theorem headM {K n : Nat} (hK : 10 < K) (hn : n ≤ 65536) {T : Nat → Int32} {t : Nat → Nat} (ht : Tb n T t) {t_width : Int32} {t_height : Int32} {t_depth : Int32} {t_colours : Int32} {a_t_palette : Nat → Int32} {a_t_points : Nat → Int32} : Gq (bmpOk n t) (fun m => if l4 t 18 * hgt (l4 t 22) ≤ 16384 then m = (f_M_readBmp_378 K (nI n) (nI 54) (nI (l4 t 18)) (nI (hgt (l4 t 22))) (nI (l2 t 28)) t_colours T a_t_palette a_t_points (lN (l4 t 10)) ((nI (l4 t 22)).toInt64) (lN (l4 t 30)) (nI (bcol t))) else Th 4 m) (f_M_readBmp K (nI n) (nI 0) t_width t_height t_depth t_colours T a_t_palette a_t_points) := by
  have hl : (nI n).toInt64 = lN n := nI_l (by omega)
  have n37 : ∀ a, Th 3 (f_M_readBmp_37 K (nI n) a t_width t_height t_depth t_colours T a_t_palette a_t_points) := by
    intro a
    unfold f_M_readBmp_37 f_M_readBmp_38
    rw [can0, q_tryR]
    exact ⟨_, rfl⟩
  unfold f_M_readBmp
  refine Gq.try (nextM_ex (by omega) hn ht) (fun u => ⟨_, rfl⟩) (fun h => by have := h.1; omega) (fun h0 => ?_)
  have t0 := ht.2 0
  by_cases c0 : t 0 = 66
  rotate_left
  · rw [if_neg (show ¬ nI (t 0) = 66 from fun e => c0 ((nI_eq (b := 66) (by omega) (by omega)).mp e))]
    exact Gq.no (fun h => c0 h.2.1) (n37 _)
  rw [if_pos (show nI (t 0) = 66 by rw [c0]; rfl)]
  refine Gq.try (nextM_ex (by omega) hn ht) (fun u => ⟨_, rfl⟩) (fun h => by have := h.1; omega) (fun h1 => ?_)
  have t1 := ht.2 1
  by_cases c1 : t 1 = 77
  rotate_left
  · rw [if_neg (show ¬ nI (t (0 + 1)) = 77 from fun e => c1 ((nI_eq (b := 77) (by omega) (by omega)).mp e))]
    exact Gq.no (fun h => c1 h.2.2.1) (n37 _)
  rw [if_pos (show nI (t (0 + 1)) = 77 by rw [Nat.zero_add, c1]; rfl)]
  refine Gq.try (l4M_ex (p := 2) hK hn (by omega) ht) (fun u => ⟨_, rfl⟩) (fun h => by have := h.1; omega) (fun h2 => ?_)
  have b2' := l4_lt ht.2 2
  rw [hl]
  by_cases c2 : l4 t 2 = n
  rotate_left
  · rw [if_neg (fun e => c2 ((l_eq (by omega) (by omega)).mp e))]
    exact Gq.no (fun h => c2 h.2.2.2.1) (n37 _)
  rw [if_pos ((l_eq (by omega) (by omega)).mpr c2)]
  unfold f_M_readBmp_38
  rw [can1, q_tryL]
  refine Gq.try (l4M_ex (p := 6) hK hn (by omega) ht) (fun u => ⟨_, rfl⟩) (fun h => by have := h.1; omega) (fun h3 => ?_)
  refine Gq.try (l4M_ex (p := 10) hK hn (by omega) ht) (fun u => ⟨_, rfl⟩) (fun h => by have := h.1; omega) (fun h4 => ?_)
  refine Gq.try (l4M_ex (p := 14) hK hn (by omega) ht) (fun u => ⟨_, rfl⟩) (fun h => by have := h.1; omega) (fun h5 => ?_)
  have b14 := l4_lt ht.2 14
  by_cases c3 : l4 t 14 = 40
  rotate_left
  · rw [if_neg (show ¬ lg_cmp (lN (l4 t 14)) 40 = 0 from fun e => c3 ((l_eq (b := 40) (by omega) (by omega)).mp e))]
    unfold f_M_readBmp_71
    rw [can0, q_tryR]
    exact Gq.no (fun h => c3 h.2.2.2.2.1) ⟨_, rfl⟩
  rw [if_pos (show lg_cmp (lN (l4 t 14)) 40 = 0 from (l_eq (b := 40) (by omega) (by omega)).mpr c3)]
  unfold f_M_readBmp_71
  rw [can1, q_tryL]
  refine Gq.try (l4M_ex (p := 18) hK hn (by omega) ht) (fun u => ⟨_, rfl⟩) (fun h => by have := h.1; omega) (fun h6 => ?_)
  have bw := l4_lt ht.2 18
  have bh := l4_lt ht.2 22
  by_cases c4 : 0 < l4 t 18 ∧ l4 t 18 < 2 ^ 31
  rotate_left
  · refine Gq.no (fun h => c4 ⟨h.2.2.2.2.2.1, h.2.2.2.2.2.2.1⟩) ?_
    have h102 : ∀ x a, Th 3 (f_M_readBmp_102 K (nI n) a t_width t_height t_depth t_colours T a_t_palette a_t_points (lN (l4 t 10)) x) := by
      intro x a
      unfold f_M_readBmp_102 f_M_readBmp_103
      rw [can0, q_tryR]
      exact ⟨_, rfl⟩
    by_cases q : l4 t 18 = 0
    · rw [if_pos (show lg_cmp (lN (l4 t 18)) 0 ≤ 0 from (cmp_le _ _).mpr (show lN (l4 t 18) ≤ lN 0 from (pk_lLE (by omega) (by omega)).mpr (by omega)))]
      exact h102 _ _
    · rw [if_neg (show ¬ lg_cmp (lN (l4 t 18)) 0 ≤ 0 from fun e => by have := (pk_lLE (b := 0) (by omega) (by omega)).mp (show lN (l4 t 18) ≤ lN 0 from (cmp_le _ _).mp e); omega), if_pos (show 0 ≤ lg_cmp (lN (l4 t 18)) 2147483648 from (cmp_ge _ _).mpr (show lN 2147483648 ≤ lN (l4 t 18) from (pk_lLE (by omega) (by omega)).mpr (by omega)))]
      exact h102 _ _
  rw [if_neg (show ¬ lg_cmp (lN (l4 t 18)) 0 ≤ 0 from fun e => by have := (pk_lLE (b := 0) (by omega) (by omega)).mp (show lN (l4 t 18) ≤ lN 0 from (cmp_le _ _).mp e); omega), if_neg (show ¬ 0 ≤ lg_cmp (lN (l4 t 18)) 2147483648 from fun e => by have := (pk_lLE (a := 2147483648) (by omega) (by omega)).mp (show lN 2147483648 ≤ lN (l4 t 18) from (cmp_ge _ _).mp e); omega)]
  unfold f_M_readBmp_103
  rw [can1, q_tryL]
  refine Gq.try (l4M_ex (p := 22) hK hn (by omega) ht) (fun u => ⟨_, rfl⟩) (fun h => by have := h.1; omega) (fun h7 => ?_)
  rw [lN_i]
  by_cases c5 : l4 t 22 = 0
  · rw [if_pos ((cmp_eq _ _).mpr ((hv_0 bh).mpr c5))]
    unfold f_M_readBmp_128
    rw [can0, q_tryR]
    exact Gq.no (fun h => h.2.2.2.2.2.2.2.1 c5) ⟨_, rfl⟩
  rw [if_neg (fun e => c5 ((hv_0 bh).mp ((cmp_eq _ _).mp e)))]
  unfold f_M_readBmp_128
  rw [can1, q_tryL]
  refine Gq.try (l2M_ex (p := 26) hK hn (by omega) ht) (fun u => ⟨_, rfl⟩) (fun h => by have := h.1; omega) (fun h8 => ?_)
  have bp := l2_lt ht.2 26
  by_cases c6 : l2 t 26 = 1
  rotate_left
  · rw [if_neg (show ¬ lg_cmp (lN (l2 t 26)) 1 = 0 from fun e => c6 ((l_eq (b := 1) (by omega) (by omega)).mp e))]
    unfold f_M_readBmp_147
    rw [can0, q_tryR]
    exact Gq.no (fun h => c6 h.2.2.2.2.2.2.2.2.1) ⟨_, rfl⟩
  rw [if_pos (show lg_cmp (lN (l2 t 26)) 1 = 0 from (l_eq (b := 1) (by omega) (by omega)).mpr c6)]
  unfold f_M_readBmp_147
  rw [can1, q_tryL]
  refine Gq.try (l2M_ex (p := 28) hK hn (by omega) ht) (fun u => ⟨_, rfl⟩) (fun h => by have := h.1; omega) (fun h9 => ?_)
  have bd := l2_lt ht.2 28
  rw [lN_i]
  by_cases c7 : dOk (l2 t 28)
  rotate_left
  · rw [sel5n bd c7]
    unfold f_M_readBmp_209
    rw [can0, q_tryR]
    exact Gq.no (fun h => c7 h.2.2.2.2.2.2.2.2.2.1) ⟨_, rfl⟩
  rw [sel5 c7]
  unfold f_M_readBmp_204 f_M_readBmp_209
  rw [can1, q_tryL]
  refine Gq.try (l4M_ex (p := 30) hK hn (by omega) ht) (fun u => ⟨_, rfl⟩) (fun h => by have := h.1; omega) (fun h10 => ?_)
  have bk := l4_lt ht.2 30
  have dle := dOk_le c7
  by_cases c8 : l4 t 30 = 0 ∨ (l4 t 30 = 1 ∧ l2 t 28 = 8 ∧ l4 t 22 < 2 ^ 31)
  rotate_left
  · have h254 : ∀ (x9 : Int64) (a : Int32), Th 3 (f_M_readBmp_254 K (nI n) a t_width t_height (nI (l2 t 28)) t_colours T a_t_palette a_t_points (lN (l4 t 10)) (lN (l4 t 18)) ((nI (l4 t 22)).toInt64) x9) := by
      intro x9 a
      unfold f_M_readBmp_254 f_M_readBmp_255
      rw [can0, q_tryR]
      exact ⟨_, rfl⟩
    refine Gq.no (fun h => c8 h.2.2.2.2.2.2.2.2.2.2.1) ?_
    rw [if_neg (show ¬ lg_cmp (lN (l4 t 30)) 0 = 0 from fun e => c8 (.inl ((l_eq (b := 0) (by omega) (by omega)).mp e)))]
    by_cases q1 : l4 t 30 = 1
    · rw [if_pos (show lg_cmp (lN (l4 t 30)) 1 = 0 from (l_eq (b := 1) (by omega) (by omega)).mpr q1)]
      by_cases q2 : l2 t 28 = 8
      · rw [if_pos (show nI (l2 t 28) = 8 by rw [q2]; rfl), if_pos ((cmp_le _ _).mpr (Int64.not_lt.mp (fun e => c8 (.inr ⟨q1, q2, ((hv_gt bh).mp e).2⟩))))]
        exact h254 _ _
      · rw [if_neg (show ¬ nI (l2 t 28) = 8 from fun e => q2 ((nI_eq (b := 8) (by omega) (by omega)).mp e))]
        exact h254 _ _
    · rw [if_neg (show ¬ lg_cmp (lN (l4 t 30)) 1 = 0 from fun e => q1 ((l_eq (b := 1) (by omega) (by omega)).mp e))]
      exact h254 _ _
  have h250 : ∀ (A B : Option ((Unit × (Int32 × Int32 × Int32 × Int32 × Int32 × (Nat → Int32) × (Nat → Int32))) ⊕ (Nat × (Int32 × Int32 × Int32 × Int32 × Int32 × (Nat → Int32) × (Nat → Int32))))), (if lg_cmp (lN (l4 t 30)) 0 = 0 then A else if lg_cmp (lN (l4 t 30)) 1 = 0 then if nI (l2 t 28) = 8 then if lg_cmp ((nI (l4 t 22)).toInt64) 0 ≤ 0 then B else A else B else B) = A := by
    intro A B
    rcases c8 with q | ⟨q1, q2, q3⟩
    · rw [if_pos (show lg_cmp (lN (l4 t 30)) 0 = 0 from (l_eq (b := 0) (by omega) (by omega)).mpr q)]
    · rw [if_neg (show ¬ lg_cmp (lN (l4 t 30)) 0 = 0 from fun e => by have := (l_eq (b := 0) (by omega) (by omega)).mp e; omega), if_pos (show lg_cmp (lN (l4 t 30)) 1 = 0 from (l_eq (b := 1) (by omega) (by omega)).mpr q1), if_pos (show nI (l2 t 28) = 8 by rw [q2]; rfl), if_neg (fun e => Int64.not_lt.mpr ((cmp_le _ _).mp e) ((hv_gt bh).mpr ⟨by omega, q3⟩))]
  rw [h250]
  unfold f_M_readBmp_250 f_M_readBmp_255
  rw [can1, q_tryL]
  refine Gq.try (l4M_ex (p := 34) hK hn (by omega) ht) (fun u => ⟨_, rfl⟩) (fun h => by have := h.1; omega) (fun h11 => ?_)
  refine Gq.try (l4M_ex (p := 38) hK hn (by omega) ht) (fun u => ⟨_, rfl⟩) (fun h => by have := h.1; omega) (fun h12 => ?_)
  refine Gq.try (l4M_ex (p := 42) hK hn (by omega) ht) (fun u => ⟨_, rfl⟩) (fun h => by have := h.1; omega) (fun h13 => ?_)
  refine Gq.try (l4M_ex (p := 46) hK hn (by omega) ht) (fun u => ⟨_, rfl⟩) (fun h => by have := h.1; omega) (fun h14 => ?_)
  refine Gq.try (l4M_ex (p := 50) hK hn (by omega) ht) (fun u => ⟨_, rfl⟩) (fun h => by have := h.1; omega) (fun h15 => ?_)
  have bu := l4_lt ht.2 46
  have hm256 := mst_le c7
  have hd8 := dOk_8 c7
  have h311 : ∀ F : Int32 → Option ((Unit × (Int32 × Int32 × Int32 × Int32 × Int32 × (Nat → Int32) × (Nat → Int32))) ⊕ (Nat × (Int32 × Int32 × Int32 × Int32 × Int32 × (Nat → Int32) × (Nat → Int32)))), (if 24 ≤ nI (l2 t 28) then F 0 else F ((1 : Int32) <<< (nI (l2 t 28) &&& 31))) = F (nI (mst (l2 t 28))) := by
    intro F
    unfold mst
    by_cases q : l2 t 28 ≤ 8
    · rw [if_neg (show ¬ 24 ≤ nI (l2 t 28) from show ¬ nI 24 ≤ nI (l2 t 28) from nI_ge (by omega) (by omega)), if_pos q, pow_sh _ (by omega)]
    · rw [if_pos (show 24 ≤ nI (l2 t 28) from show nI 24 ≤ nI (l2 t 28) from nI_le (by omega) (by omega)), if_neg q]
      rfl
  refine (congrArg (Gq _ _) (h311 (fun y => (f_M_readBmp_311 K (nI n) (nI (50 + 4)) t_width t_height (nI (l2 t 28)) t_colours T a_t_palette a_t_points (lN (l4 t 10)) (lN (l4 t 18)) ((nI (l4 t 22)).toInt64) (lN (l4 t 30)) (lN (l4 t 46)) (lN (l4 t 46)) y)))).mpr ?_
  unfold f_M_readBmp_311
  rw [nI_l (n := mst (l2 t 28)) (by omega)]
  by_cases c9 : l4 t 46 ≤ mst (l2 t 28)
  rotate_left
  · rw [if_pos (show 0 < lg_cmp (lN (l4 t 46)) (lN (mst (l2 t 28))) from (cmp_gt _ _).mpr ((pk_lLT (by omega) (by omega)).mpr (by omega)))]
    unfold f_M_readBmp_321
    rw [can0, q_tryR]
    exact Gq.no (fun h => c9 h.2.2.2.2.2.2.2.2.2.2.2) ⟨_, rfl⟩
  rw [if_neg (show ¬ 0 < lg_cmp (lN (l4 t 46)) (lN (mst (l2 t 28))) from fun e => by
    have h5 : mst (l2 t 28) < l4 t 46 := (pk_lLT (by omega) (by omega)).mp ((cmp_gt _ _).mp e)
    omega)]
  unfold f_M_readBmp_321
  rw [can1, q_tryL]
  have hok : bmpOk n t := ⟨by omega, c0, c1, c2, c3, c4.1, c4.2, c5, c6, c7, c8, c9⟩
  refine Gq.yes hok ?_
  have h342 : (if 0 ≤ lg_cmp ((nI (l4 t 22)).toInt64) 0 then (f_M_readBmp_342 K (nI n) (nI (50 + 4)) t_width t_height (nI (l2 t 28)) t_colours T a_t_palette a_t_points (lN (l4 t 10)) ((nI (l4 t 22)).toInt64) (lN (l4 t 30)) (lN (l4 t 46)) (lN (l4 t 18)) ((nI (l4 t 22)).toInt64)) else (f_M_readBmp_342 K (nI n) (nI (50 + 4)) t_width t_height (nI (l2 t 28)) t_colours T a_t_palette a_t_points (lN (l4 t 10)) ((nI (l4 t 22)).toInt64) (lN (l4 t 30)) (lN (l4 t 46)) (lN (l4 t 18)) (-((nI (l4 t 22)).toInt64)))) = (f_M_readBmp_342 K (nI n) (nI (50 + 4)) t_width t_height (nI (l2 t 28)) t_colours T a_t_palette a_t_points (lN (l4 t 10)) ((nI (l4 t 22)).toInt64) (lN (l4 t 30)) (lN (l4 t 46)) (lN (l4 t 18)) (lN (hgt (l4 t 22)))) := by
    unfold hgt
    by_cases q : l4 t 22 < 2 ^ 31
    · rw [if_pos ((cmp_ge _ _).mpr ((hv_ge bh).mpr q)), if_pos q]
      congr 1
      exact nI_l q
    · rw [if_neg (fun e => q ((hv_ge bh).mp ((cmp_ge _ _).mp e))), if_neg q, hv_neg (by omega) bh]
  show (fun m => if l4 t 18 * hgt (l4 t 22) ≤ 16384 then m = (f_M_readBmp_378 K (nI n) (nI 54) (nI (l4 t 18)) (nI (hgt (l4 t 22))) (nI (l2 t 28)) t_colours T a_t_palette a_t_points (lN (l4 t 10)) ((nI (l4 t 22)).toInt64) (lN (l4 t 30)) (nI (bcol t))) else Th 4 m) (if 0 ≤ lg_cmp ((nI (l4 t 22)).toInt64) 0 then _ else _)
  rw [h342]
  unfold f_M_readBmp_342
  rw [sized_ok c4.1 (hgt_pos c5 bh) c4.2 (hgt_le bh)]
  by_cases q : l4 t 18 * hgt (l4 t 22) ≤ 16384
  · rw [if_pos q, q_tryL]
    refine (if_pos q).mpr ?_
    have e378 : ∀ F : Int32 → Option ((Unit × (Int32 × Int32 × Int32 × Int32 × Int32 × (Nat → Int32) × (Nat → Int32))) ⊕ (Nat × (Int32 × Int32 × Int32 × Int32 × Int32 × (Nat → Int32) × (Nat → Int32)))), (if 24 ≤ nI (l2 t 28) then F 0 else if lg_cmp (lN (l4 t 46)) 0 = 0 then F ((1 : Int32) <<< (nI (l2 t 28) &&& 31)) else F ((lN (l4 t 46)).toInt32)) = F (nI (bcol t)) := by
      intro F
      unfold bcol mst
      unfold mst at c9
      by_cases q1 : l2 t 28 ≤ 8
      · rw [if_neg (show ¬ 24 ≤ nI (l2 t 28) from show ¬ nI 24 ≤ nI (l2 t 28) from nI_ge (by omega) (by omega)), if_pos q1, pow_sh _ (by omega), lN_i]
        by_cases q2 : l4 t 46 = 0
        · rw [if_pos (show lg_cmp (lN (l4 t 46)) 0 = 0 from (l_eq (b := 0) (by omega) (by omega)).mpr q2), if_pos q2]
        · rw [if_neg (show ¬ lg_cmp (lN (l4 t 46)) 0 = 0 from fun e => q2 ((l_eq (b := 0) (by omega) (by omega)).mp e)), if_neg q2]
      · rw [if_neg q1] at c9
        rw [if_pos (show 24 ≤ nI (l2 t 28) from show nI 24 ≤ nI (l2 t 28) from nI_le (by omega) (by omega)), if_pos (by omega), if_neg q1]
        rfl
    exact e378 (fun y => (f_M_readBmp_378 K (nI n) (nI 54) (nI (l4 t 18)) (nI (hgt (l4 t 22))) (nI (l2 t 28)) t_colours T a_t_palette a_t_points (lN (l4 t 10)) ((nI (l4 t 22)).toInt64) (lN (l4 t 30)) y))
  · rw [if_neg q, q_tryR]
    exact (if_neg q).mpr ⟨_, rfl⟩
