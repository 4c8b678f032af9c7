/-! the pure half: a BMP file's head -/
theorem nI_neg {a : Nat} (h1 : 2 ^ 31 ≤ a) (h2 : a < 2 ^ 32) : nI a < 0 := by
  rw [Int32.lt_iff_toInt_lt]
  show (nI a).toBitVec.toInt < 0
  rw [BitVec.toInt_eq_toNat_cond, pk_tn h2, if_neg (by omega)]
  omega
theorem nI_negI {a : Nat} (h1 : 2 ^ 31 ≤ a) (h2 : a < 2 ^ 32) : (nI a).toInt = (a : Int) - 2 ^ 32 := by
  show (nI a).toBitVec.toInt = _
  rw [BitVec.toInt_eq_toNat_cond, pk_tn h2, if_neg (by omega)]
  omega
def hgt (a : Nat) : Nat := if a < 2 ^ 31 then a else 2 ^ 32 - a
theorem hv_neg {a : Nat} (h1 : 2 ^ 31 ≤ a) (h2 : a < 2 ^ 32) : -((nI a).toInt64) = lN (2 ^ 32 - a) := by
  apply Int64.toInt_inj.mp
  have e1 : ((nI a).toInt64).toInt = (a : Int) - 2 ^ 32 := by rw [Int32.toInt_toInt64, nI_negI h1 h2]
  rw [Int64.toInt_neg, e1, pk_lT (by omega), Int.bmod_eq_of_le (by omega) (by omega)]
  omega
theorem hv_lt {a : Nat} (h1 : 2 ^ 31 ≤ a) (h2 : a < 2 ^ 32) : (nI a).toInt64 < 0 := by
  rw [Int64.lt_iff_toInt_lt, Int32.toInt_toInt64, nI_negI h1 h2]
  show _ < (0 : Int)
  omega
theorem hv_0 {a : Nat} (h2 : a < 2 ^ 32) : (nI a).toInt64 = 0 ↔ a = 0 := by
  constructor
  · intro h
    by_cases c : a < 2 ^ 31
    · rw [nI_l c] at h
      exact (pk_lEQ (by omega) (by omega)).mp (show lN a = lN 0 from h)
    · have := hv_lt (by omega) h2
      rw [h] at this
      exact absurd this (by decide)
  · intro h; rw [h]; rfl
theorem hv_ge {a : Nat} (h2 : a < 2 ^ 32) : 0 ≤ (nI a).toInt64 ↔ a < 2 ^ 31 := by
  constructor
  · intro h
    by_cases c : a < 2 ^ 31
    · exact c
    · exact absurd (hv_lt (by omega) h2) (Int64.not_lt.mpr h)
  · intro c
    rw [nI_l c]
    exact (pk_lLE (a := 0) (by omega) (by omega)).mpr (Nat.zero_le _)
theorem hv_gt {a : Nat} (h2 : a < 2 ^ 32) : 0 < (nI a).toInt64 ↔ (0 < a ∧ a < 2 ^ 31) := by
  constructor
  · intro h
    have h3 := (hv_ge h2).mp (Int64.le_of_lt h)
    refine ⟨?_, h3⟩
    rcases Nat.eq_zero_or_pos a with e | e
    · rw [e] at h; exact absurd h (by decide)
    · exact e
  · intro ⟨h3, h4⟩
    rw [nI_l h4]
    exact (pk_lLT (a := 0) (by omega) (by omega)).mpr h3
def mst (d : Nat) : Nat := if d ≤ 8 then 2 ^ d else 0
def dOk (d : Nat) : Prop := d = 1 ∨ d = 4 ∨ d = 8 ∨ d = 24 ∨ d = 32
def bmpOk (n : Nat) (t : Nat → Nat) : Prop := 54 ≤ n ∧ t 0 = 66 ∧ t 1 = 77 ∧ l4 t 2 = n ∧ l4 t 14 = 40 ∧ 0 < l4 t 18 ∧ l4 t 18 < 2 ^ 31 ∧ l4 t 22 ≠ 0 ∧ l2 t 26 = 1 ∧ dOk (l2 t 28) ∧ (l4 t 30 = 0 ∨ (l4 t 30 = 1 ∧ l2 t 28 = 8 ∧ l4 t 22 < 2 ^ 31)) ∧ l4 t 46 ≤ mst (l2 t 28)
def bcol (t : Nat → Nat) : Nat := if l4 t 46 = 0 then mst (l2 t 28) else l4 t 46
theorem hgt_le {a : Nat} (h2 : a < 2 ^ 32) : hgt a ≤ 2 ^ 31 := by
  unfold hgt
  by_cases c : a < 2 ^ 31
  · rw [if_pos c]; omega
  · rw [if_neg c]; omega
theorem sel5 {α : Type} {d : Nat} (h : dOk d) (A B : α) : (if nI d = 1 then A else if nI d = 4 then A else if nI d = 8 then A else if nI d = 24 then A else if nI d = 32 then A else B) = A := by
  rcases h with rfl | rfl | rfl | rfl | rfl <;> rfl
theorem sel5n {α : Type} {d : Nat} (hd : d < 65536) (h : ¬ dOk d) (A B : α) : (if nI d = 1 then A else if nI d = 4 then A else if nI d = 8 then A else if nI d = 24 then A else if nI d = 32 then A else B) = B := by
  rw [if_neg (show ¬ nI d = 1 from fun e => h (.inl ((nI_eq (b := 1) (by omega) (by omega)).mp e))), if_neg (show ¬ nI d = 4 from fun e => h (.inr (.inl ((nI_eq (b := 4) (by omega) (by omega)).mp e)))), if_neg (show ¬ nI d = 8 from fun e => h (.inr (.inr (.inl ((nI_eq (b := 8) (by omega) (by omega)).mp e))))), if_neg (show ¬ nI d = 24 from fun e => h (.inr (.inr (.inr (.inl ((nI_eq (b := 24) (by omega) (by omega)).mp e)))))), if_neg (show ¬ nI d = 32 from fun e => h (.inr (.inr (.inr (.inr ((nI_eq (b := 32) (by omega) (by omega)).mp e))))))]
theorem dOk_le {d : Nat} (h : dOk d) : d ≤ 32 := by
  rcases h with rfl | rfl | rfl | rfl | rfl <;> omega
theorem dOk_8 {d : Nat} (h : dOk d) : d ≤ 8 ∨ 24 ≤ d := by
  rcases h with rfl | rfl | rfl | rfl | rfl <;> omega
theorem mst_le {d : Nat} (h : dOk d) : mst d ≤ 256 := by
  rcases h with rfl | rfl | rfl | rfl | rfl <;> decide
theorem neg37 {t_colours : Int32} {t_depth : Int32} {t_isFromTop : Int32} {t_hasRuns : Int32} {t_start : Int32} {t_in_at : Int32} {t_in_stop : Int32} {a_t_in_bytes : Nat → Int32} {p1_width : Int32} {p1_height : Int32} {x2 : Int32} : Th 3 (f_BmpFiles_takeHead_37 t_colours t_depth t_isFromTop t_hasRuns t_start t_in_at t_in_stop a_t_in_bytes p1_width p1_height x2 0) := by
  unfold f_BmpFiles_takeHead_37
  rw [need0, q_tryR]
  exact ⟨_, rfl⟩
theorem headD {n : Nat} (hn : n ≤ 65536) {T : Nat → Int32} {t : Nat → Nat} (ht : Tb n T t) {t_colours : Int32} {t_depth : Int32} {t_isFromTop : Int32} {t_hasRuns : Int32} {t_start : Int32} {p1_width : Int32} {p1_height : Int32} : Gq (bmpOk n t) (fun m => if l4 t 18 * hgt (l4 t 22) ≤ 16384 then m = some (.inl ((), (nI (bcol t), nI (l2 t 28), b2 (decide (¬ l4 t 22 < 2 ^ 31)), nI (l4 t 30), nI (l4 t 10), nI 54, nI (l4 t 18), nI (hgt (l4 t 22))))) else Th 4 m) (f_BmpFiles_takeHead t_colours t_depth t_isFromTop t_hasRuns t_start (nI 0) (nI n) T p1_width p1_height) := by
  unfold f_BmpFiles_takeHead f_Source_left
  rw [q_bind, show nI n - nI 0 = nI n from pk_sub (b := 0) (by omega)]
  refine Gq.try (next_ex (by omega) hn ht) (fun u => ⟨_, rfl⟩) (fun h => by have := h.1; omega) (fun h0 => ?_)
  have t0 := ht.2 0
  by_cases c0 : t 0 = 66
  rotate_left
  · rw [if_neg (show ¬ nI (t 0) = 66 from fun e => c0 ((nI_eq (b := 66) (by omega) (by omega)).mp e))]
    exact Gq.no (fun h => c0 h.2.1) neg37
  rw [if_pos (show nI (t 0) = 66 by rw [c0]; rfl)]
  refine Gq.try (next_ex (by omega) hn ht) (fun u => ⟨_, rfl⟩) (fun h => by have := h.1; omega) (fun h1 => ?_)
  have t1 := ht.2 1
  by_cases c1 : t 1 = 77
  rotate_left
  · rw [if_neg (show ¬ nI (t (0 + 1)) = 77 from fun e => c1 ((nI_eq (b := 77) (by omega) (by omega)).mp e))]
    exact Gq.no (fun h => c1 h.2.2.1) neg37
  rw [if_pos (show nI (t (0 + 1)) = 77 by rw [Nat.zero_add, c1]; rfl)]
  unfold f_BmpFiles_takeHead_37
  rw [need1, q_tryL]
  refine Gq.try (little4_ex (p := 2) (by omega) hn ht) (fun u => ⟨_, rfl⟩) (fun h => by have := h.1; omega) (fun h2 => ?_)
  have b2' := l4_lt ht.2 2
  by_cases c2 : l4 t 2 = n
  rotate_left
  · rw [if_neg (show ¬ nI (l4 t 2) = nI n from fun e => c2 ((nI_eq32 b2' (by omega)).mp e))]
    unfold f_BmpFiles_takeHead_56
    rw [need0, q_tryR]
    exact Gq.no (fun h => c2 h.2.2.2.1) ⟨_, rfl⟩
  rw [if_pos (show nI (l4 t 2) = nI n by rw [c2])]
  unfold f_BmpFiles_takeHead_56
  rw [need1, q_tryL]
  refine Gq.try (skip_ex (p := 6) (k := 4) (by omega) hn (by omega)) (fun u => ⟨_, rfl⟩) (fun h => by have := h.1; omega) (fun h3 => ?_)
  refine Gq.try (little4_ex (p := 10) (by omega) hn ht) (fun u => ⟨_, rfl⟩) (fun h => by have := h.1; omega) (fun h4 => ?_)
  refine Gq.try (little4_ex (p := 14) (by omega) hn ht) (fun u => ⟨_, rfl⟩) (fun h => by have := h.1; omega) (fun h5 => ?_)
  by_cases c3 : l4 t 14 = 40
  rotate_left
  · rw [if_neg (show ¬ nI (l4 t 14) = 40 from fun e => c3 ((nI_eq32 (b := 40) (l4_lt ht.2 14) (by omega)).mp e))]
    unfold f_BmpFiles_takeHead_95
    rw [need0, q_tryR]
    exact Gq.no (fun h => c3 h.2.2.2.2.1) ⟨_, rfl⟩
  rw [if_pos (show nI (l4 t 14) = 40 by rw [c3]; rfl)]
  unfold f_BmpFiles_takeHead_95
  rw [need1, q_tryL]
  refine Gq.try (little4_ex (p := 18) (by omega) hn ht) (fun u => ⟨_, rfl⟩) (fun h => by have := h.1; omega) (fun h6 => ?_)
  refine Gq.try (little4_ex (p := 22) (by omega) hn ht) (fun u => ⟨_, rfl⟩) (fun h => by have := h.1; omega) (fun h7 => ?_)
  have bw := l4_lt ht.2 18
  have bh := l4_lt ht.2 22
  have hneg131 : ∀ (x3 : Int32) (x4 : Int64), Th 3 (f_BmpFiles_takeHead_131 t_colours t_depth t_isFromTop t_hasRuns (nI (l4 t 10)) (nI (22 + 4)) (nI n) T p1_width p1_height x3 x4) := by
    intro x3 x4
    unfold f_BmpFiles_takeHead_131 f_BmpFiles_takeHead_132
    rw [need0, q_tryR]
    exact ⟨_, rfl⟩
  by_cases c4 : 0 < l4 t 18 ∧ l4 t 18 < 2 ^ 31
  rotate_left
  · have hle : nI (l4 t 18) ≤ 0 := by
      by_cases q : l4 t 18 = 0
      · rw [q]; decide
      · exact Int32.le_of_lt (nI_neg (by omega) bw)
    rw [if_pos hle]
    exact Gq.no (fun h => c4 ⟨h.2.2.2.2.2.1, h.2.2.2.2.2.2.1⟩) (hneg131 _ _)
  rw [if_neg (nI_nle c4.1 c4.2)]
  by_cases c5 : l4 t 22 = 0
  · rw [if_pos ((cmp_eq _ _).mpr ((hv_0 bh).mpr c5))]
    exact Gq.no (fun h => h.2.2.2.2.2.2.2.1 c5) (hneg131 _ _)
  rw [if_neg (fun e => c5 ((hv_0 bh).mp ((cmp_eq _ _).mp e)))]
  unfold f_BmpFiles_takeHead_132
  rw [need1, q_tryL]
  refine Gq.try (little2_ex (p := 26) (by omega) hn ht) (fun u => ⟨_, rfl⟩) (fun h => by have := h.1; omega) (fun h8 => ?_)
  have bp := l2_lt ht.2 26
  by_cases c6 : l2 t 26 = 1
  rotate_left
  · rw [if_neg (show ¬ nI (l2 t 26) = 1 from fun e => c6 ((nI_eq (b := 1) (by omega) (by omega)).mp e))]
    unfold f_BmpFiles_takeHead_151
    rw [need0, q_tryR]
    exact Gq.no (fun h => c6 h.2.2.2.2.2.2.2.2.1) ⟨_, rfl⟩
  rw [if_pos (show nI (l2 t 26) = 1 by rw [c6]; rfl)]
  unfold f_BmpFiles_takeHead_151
  rw [need1, q_tryL]
  refine Gq.try (little2_ex (p := 28) (by omega) hn ht) (fun u => ⟨_, rfl⟩) (fun h => by have := h.1; omega) (fun h9 => ?_)
  have bd := l2_lt ht.2 28
  by_cases c7 : dOk (l2 t 28)
  rotate_left
  · show Gq _ _ (if nI (l2 t 28) = 1 then _ else if nI (l2 t 28) = 4 then _ else if nI (l2 t 28) = 8 then _ else if nI (l2 t 28) = 24 then _ else if nI (l2 t 28) = 32 then _ else _)
    rw [sel5n bd c7]
    unfold f_BmpFiles_takeHead_213
    rw [need0, q_tryR]
    exact Gq.no (fun h => c7 h.2.2.2.2.2.2.2.2.2.1) ⟨_, rfl⟩
  show Gq _ _ (if nI (l2 t 28) = 1 then _ else if nI (l2 t 28) = 4 then _ else if nI (l2 t 28) = 8 then _ else if nI (l2 t 28) = 24 then _ else if nI (l2 t 28) = 32 then _ else _)
  rw [sel5 c7]
  unfold f_BmpFiles_takeHead_208 f_BmpFiles_takeHead_213
  rw [need1, q_tryL]
  refine Gq.try (little4_ex (p := 30) (by omega) hn ht) (fun u => ⟨_, rfl⟩) (fun h => by have := h.1; omega) (fun h10 => ?_)
  have bk := l4_lt ht.2 30
  have dle := dOk_le c7
  by_cases c8 : l4 t 30 = 0 ∨ (l4 t 30 = 1 ∧ l2 t 28 = 8 ∧ l4 t 22 < 2 ^ 31)
  rotate_left
  · have h256 : ∀ (x6 : Int32) (a : Int32), Th 3 (f_BmpFiles_takeHead_256 t_colours (nI (l2 t 28)) t_isFromTop t_hasRuns (nI (l4 t 10)) a (nI n) T p1_width p1_height (nI (l4 t 18)) ((nI (l4 t 22)).toInt64) x6) := by
      intro x6 a
      unfold f_BmpFiles_takeHead_256 f_BmpFiles_takeHead_257
      rw [need0, q_tryR]
      exact ⟨_, rfl⟩
    refine Gq.no (fun h => c8 h.2.2.2.2.2.2.2.2.2.2.1) ?_
    show Th 3 (if nI (l4 t 30) = 0 then _ else if nI (l4 t 30) = 1 then if nI (l2 t 28) = 8 then if lg_cmp ((nI (l4 t 22)).toInt64) 0 ≤ 0 then _ else _ else _ else _)
    rw [if_neg (show ¬ nI (l4 t 30) = 0 from fun e => c8 (.inl ((nI_eq32 (b := 0) bk (by omega)).mp e)))]
    by_cases q1 : l4 t 30 = 1
    · rw [if_pos (show nI (l4 t 30) = 1 by rw [q1]; rfl)]
      by_cases q2 : l2 t 28 = 8
      · rw [if_pos (show nI (l2 t 28) = 8 by rw [q2]; rfl), if_pos ((cmp_le _ _).mpr (Int64.not_lt.mp (fun e => c8 (.inr ⟨q1, q2, ((hv_gt bh).mp e).2⟩))))]
        exact h256 _ _
      · rw [if_neg (show ¬ nI (l2 t 28) = 8 from fun e => q2 ((nI_eq (b := 8) (by omega) (by omega)).mp e))]
        exact h256 _ _
    · rw [if_neg (show ¬ nI (l4 t 30) = 1 from fun e => q1 ((nI_eq32 (b := 1) bk (by omega)).mp e))]
      exact h256 _ _
  have h252 : (if nI (l4 t 30) = 0 then (f_BmpFiles_takeHead_252 t_colours (nI (l2 t 28)) t_isFromTop t_hasRuns (nI (l4 t 10)) (nI (30 + 4)) (nI n) T p1_width p1_height (nI (l4 t 18)) ((nI (l4 t 22)).toInt64) (nI (l4 t 30))) else if nI (l4 t 30) = 1 then if nI (l2 t 28) = 8 then if lg_cmp ((nI (l4 t 22)).toInt64) 0 ≤ 0 then (f_BmpFiles_takeHead_256 t_colours (nI (l2 t 28)) t_isFromTop t_hasRuns (nI (l4 t 10)) (nI (30 + 4)) (nI n) T p1_width p1_height (nI (l4 t 18)) ((nI (l4 t 22)).toInt64) (nI (l4 t 30))) else (f_BmpFiles_takeHead_252 t_colours (nI (l2 t 28)) t_isFromTop t_hasRuns (nI (l4 t 10)) (nI (30 + 4)) (nI n) T p1_width p1_height (nI (l4 t 18)) ((nI (l4 t 22)).toInt64) (nI (l4 t 30))) else (f_BmpFiles_takeHead_256 t_colours (nI (l2 t 28)) t_isFromTop t_hasRuns (nI (l4 t 10)) (nI (30 + 4)) (nI n) T p1_width p1_height (nI (l4 t 18)) ((nI (l4 t 22)).toInt64) (nI (l4 t 30))) else (f_BmpFiles_takeHead_256 t_colours (nI (l2 t 28)) t_isFromTop t_hasRuns (nI (l4 t 10)) (nI (30 + 4)) (nI n) T p1_width p1_height (nI (l4 t 18)) ((nI (l4 t 22)).toInt64) (nI (l4 t 30)))) = (f_BmpFiles_takeHead_252 t_colours (nI (l2 t 28)) t_isFromTop t_hasRuns (nI (l4 t 10)) (nI (30 + 4)) (nI n) T p1_width p1_height (nI (l4 t 18)) ((nI (l4 t 22)).toInt64) (nI (l4 t 30))) := by
    rcases c8 with q | ⟨q1, q2, q3⟩
    · rw [if_pos (show nI (l4 t 30) = 0 by rw [q]; rfl)]
    · rw [if_neg (show ¬ nI (l4 t 30) = 0 by rw [q1]; decide), if_pos (show nI (l4 t 30) = 1 by rw [q1]; rfl), if_pos (show nI (l2 t 28) = 8 by rw [q2]; rfl), if_neg (fun e => Int64.not_lt.mpr ((cmp_le _ _).mp e) ((hv_gt bh).mpr ⟨by omega, q3⟩))]
  refine (congrArg (Gq _ _) h252).mpr ?_
  unfold f_BmpFiles_takeHead_252 f_BmpFiles_takeHead_257
  rw [need1, q_tryL]
  refine Gq.try (skip_ex (p := 34) (k := 12) (by omega) hn (by omega)) (fun u => ⟨_, rfl⟩) (fun h => by have := h.1; omega) (fun h11 => ?_)
  refine Gq.try (little4_ex (p := 46) (by omega) hn ht) (fun u => ⟨_, rfl⟩) (fun h => by have := h.1; omega) (fun h12 => ?_)
  have bu := l4_lt ht.2 46
  have hm256 := mst_le c7
  have h297 : (if 8 < nI (l2 t 28) then (f_BmpFiles_takeHead_297 t_colours (nI (l2 t 28)) t_isFromTop t_hasRuns (nI (l4 t 10)) (nI (46 + 4)) (nI n) T p1_width p1_height (nI (l4 t 18)) ((nI (l4 t 22)).toInt64) (nI (l4 t 30)) (nI (l4 t 46)) 0) else (f_BmpFiles_takeHead_297 t_colours (nI (l2 t 28)) t_isFromTop t_hasRuns (nI (l4 t 10)) (nI (46 + 4)) (nI n) T p1_width p1_height (nI (l4 t 18)) ((nI (l4 t 22)).toInt64) (nI (l4 t 30)) (nI (l4 t 46)) ((1 : Int32) <<< (nI (l2 t 28) &&& 31)))) = (f_BmpFiles_takeHead_297 t_colours (nI (l2 t 28)) t_isFromTop t_hasRuns (nI (l4 t 10)) (nI (46 + 4)) (nI n) T p1_width p1_height (nI (l4 t 18)) ((nI (l4 t 22)).toInt64) (nI (l4 t 30)) (nI (l4 t 46)) (nI (mst (l2 t 28)))) := by
    unfold mst
    by_cases q : l2 t 28 ≤ 8
    · rw [if_neg (show ¬ 8 < nI (l2 t 28) from show ¬ nI 8 < nI (l2 t 28) from nI_nlt q (by omega)), if_pos q, pow_sh _ (by omega)]
    · rw [if_pos (show 8 < nI (l2 t 28) from show nI 8 < nI (l2 t 28) from nI_lt (by omega) (by omega)), if_neg q]
      rfl
  refine (congrArg (Gq _ _) h297).mpr ?_
  unfold f_BmpFiles_takeHead_297
  by_cases c9 : l4 t 46 ≤ mst (l2 t 28)
  rotate_left
  · have h315 : ∀ x8, Th 3 (f_BmpFiles_takeHead_315 t_colours (nI (l2 t 28)) t_isFromTop t_hasRuns (nI (l4 t 10)) (nI (46 + 4)) (nI n) T p1_width p1_height (nI (l4 t 18)) ((nI (l4 t 22)).toInt64) (nI (l4 t 30)) (nI (l4 t 46)) x8) := by
      intro x8
      unfold f_BmpFiles_takeHead_315 f_BmpFiles_takeHead_316
      rw [need0, q_tryR]
      exact ⟨_, rfl⟩
    refine Gq.no (fun h => c9 h.2.2.2.2.2.2.2.2.2.2.2) ?_
    by_cases q : l4 t 46 < 2 ^ 31
    · rw [if_neg (nI_pos q), if_pos (nI_lt (by omega) q)]
      exact h315 _
    · rw [if_pos (nI_neg (by omega) bu)]
      exact h315 _
  rw [if_neg (nI_pos (by omega)), if_neg (nI_nlt c9 (by omega))]
  unfold f_BmpFiles_takeHead_316
  rw [need1, q_tryL]
  refine Gq.try (skip_ex (p := 50) (k := 4) (by omega) hn (by omega)) (fun u => ⟨_, rfl⟩) (fun h => by have := h.1; omega) (fun h13 => ?_)
  have hok : bmpOk n t := ⟨by omega, c0, c1, c2, c3, c4.1, c4.2, c5, c6, c7, c8, c9⟩
  refine Gq.yes hok ?_
  have h01 : nI (l4 t 30) = 0 ∨ nI (l4 t 30) = 1 := by
    rcases c8 with q | ⟨q1, q2, q3⟩
    · left; rw [q]; rfl
    · right; rw [q1]; rfl
  have h339 : (if nI (l4 t 30) = 1 then (f_BmpFiles_takeHead_339 t_colours (nI (l2 t 28)) t_isFromTop t_hasRuns (nI (l4 t 10)) (nI (50 + 4)) (nI n) T p1_width p1_height (nI (l4 t 18)) ((nI (l4 t 22)).toInt64) (nI (l4 t 46)) (nI (mst (l2 t 28))) 1) else (f_BmpFiles_takeHead_339 t_colours (nI (l2 t 28)) t_isFromTop t_hasRuns (nI (l4 t 10)) (nI (50 + 4)) (nI n) T p1_width p1_height (nI (l4 t 18)) ((nI (l4 t 22)).toInt64) (nI (l4 t 46)) (nI (mst (l2 t 28))) 0)) = (f_BmpFiles_takeHead_392 (nI (bcol t)) (nI (l2 t 28)) (b2 (decide (¬ l4 t 22 < 2 ^ 31))) (nI (l4 t 30)) (nI (l4 t 10)) (nI (50 + 4)) (nI n) T p1_width p1_height (lN (l4 t 18)) (lN (hgt (l4 t 22)))) := by
    have e1 : ∀ y, y = nI (l4 t 30) → (f_BmpFiles_takeHead_339 t_colours (nI (l2 t 28)) t_isFromTop t_hasRuns (nI (l4 t 10)) (nI (50 + 4)) (nI n) T p1_width p1_height (nI (l4 t 18)) ((nI (l4 t 22)).toInt64) (nI (l4 t 46)) (nI (mst (l2 t 28))) y) = (f_BmpFiles_takeHead_392 (nI (bcol t)) (nI (l2 t 28)) (b2 (decide (¬ l4 t 22 < 2 ^ 31))) (nI (l4 t 30)) (nI (l4 t 10)) (nI (50 + 4)) (nI n) T p1_width p1_height (lN (l4 t 18)) (lN (hgt (l4 t 22)))) := by
      intro y hy
      subst hy
      have e2 : ∀ z : Int32, (if nI (l4 t 46) = 0 then (f_BmpFiles_takeHead_371 t_colours (nI (l2 t 28)) z (nI (l4 t 30)) (nI (l4 t 10)) (nI (50 + 4)) (nI n) T p1_width p1_height (nI (l4 t 18)) ((nI (l4 t 22)).toInt64) (nI (mst (l2 t 28)))) else (f_BmpFiles_takeHead_371 t_colours (nI (l2 t 28)) z (nI (l4 t 30)) (nI (l4 t 10)) (nI (50 + 4)) (nI n) T p1_width p1_height (nI (l4 t 18)) ((nI (l4 t 22)).toInt64) (nI (l4 t 46)))) = (f_BmpFiles_takeHead_371 t_colours (nI (l2 t 28)) z (nI (l4 t 30)) (nI (l4 t 10)) (nI (50 + 4)) (nI n) T p1_width p1_height (nI (l4 t 18)) ((nI (l4 t 22)).toInt64) (nI (bcol t))) := by
        intro z
        unfold bcol
        by_cases q : l4 t 46 = 0
        · rw [if_pos (show nI (l4 t 46) = 0 by rw [q]; rfl), if_pos q]
        · rw [if_neg (show ¬ nI (l4 t 46) = 0 from fun e => q ((nI_eq32 (b := 0) bu (by omega)).mp e)), if_neg q]
      unfold f_BmpFiles_takeHead_339 f_BmpFiles_takeHead_355
      rw [if_pos h01]
      by_cases q : l4 t 22 < 2 ^ 31
      · rw [if_pos ((cmp_ge _ _).mpr ((hv_ge bh).mpr q)), if_pos (.inl rfl), e2]
        unfold f_BmpFiles_takeHead_371
        rw [if_pos rfl, nI_l c4.2, nI_l q, decide_eq_false (fun h => h q), show hgt (l4 t 22) = l4 t 22 from if_pos q]
        rfl
      · rw [if_neg (fun e => q ((hv_ge bh).mp ((cmp_ge _ _).mp e))), if_pos (.inr rfl), e2]
        unfold f_BmpFiles_takeHead_371
        rw [if_neg (by decide), nI_l c4.2, hv_neg (by omega) bh, decide_eq_true q, show hgt (l4 t 22) = 2 ^ 32 - l4 t 22 from if_neg q]
        rfl
    rcases h01 with q | q
    · rw [if_neg (by rw [q]; decide)]
      exact e1 0 q.symm
    · rw [if_pos q]
      exact e1 1 q.symm
  show (fun m => if l4 t 18 * hgt (l4 t 22) ≤ 16384 then m = some (.inl ((), (nI (bcol t), nI (l2 t 28), b2 (decide (¬ l4 t 22 < 2 ^ 31)), nI (l4 t 30), nI (l4 t 10), nI 54, nI (l4 t 18), nI (hgt (l4 t 22))))) else Th 4 m) (if nI (l4 t 30) = 1 then _ else _)
  rw [h339]
  unfold f_BmpFiles_takeHead_392
  rw [resize_ok c4.2 (hgt_le bh)]
  by_cases q : l4 t 18 * hgt (l4 t 22) ≤ 16384
  · rw [if_pos q, q_tryL]
    exact (if_pos q).mpr rfl
  · rw [if_neg q, q_tryR]
    exact (if_neg q).mpr ⟨_, rfl⟩
