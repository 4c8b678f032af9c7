/-! the pure half: feed, end, again, patch -/
theorem Bt_laid {f : Nat → Int32} {N M a n : Nat} (h : Bt N f) (v : Int32) (hh : M ≤ N ∨ (a ≤ N ∧ M ≤ a + n)) : Bt M (q_laid f a n v) := by
  intro j hj
  unfold q_laid
  by_cases e : a ≤ j ∧ j < a + n
  · rw [if_pos e]; exact q_byby _
  · rw [if_neg e]; exact h j (by omega)
theorem laid_in (f : Nat → Int32) {a n j : Nat} (v : Int32) (h : a ≤ j ∧ j < a + n) : q_laid f a n v j = q_lay n v (j - a) := if_pos h
theorem laid_out (f : Nat → Int32) {a n j : Nat} (v : Int32) (h : ¬ (a ≤ j ∧ j < a + n)) : q_laid f a n v j = f j := if_neg h
theorem feed_ok {K n : Nat} (hK : 21 < K) {f g : Nat → Int32} (hR : ∀ j, j < n → f j = g j) (x1 x2 x3 x4 x5 z : Int32) (hn : n + 20 ≤ 65536) :
    ∃ f' g' : Nat → Int32, f_D_feed K x1 x2 x3 x4 x5 (nI n) f = some (.inl (nI (n + 20), nI (n + 20), f')) ∧ f_M_feed K x1 x2 x3 x4 x5 z (nI n) g = some (nI (n + 20), 0, nI (n + 20), g') ∧ (∀ j, j < n + 20 → f' j = g' j) ∧ (Bt n f → Bt (n + 20) f') := by
  refine ⟨q_laid (q_laid (q_laid (q_laid (q_laid f n 4 x1) (n + 4) 4 x2) (n + 8) 4 x3) (n + 12) 4 x4) (n + 16) 4 x5, fun j => if n ≤ j ∧ j < n + 20 then q_fd x1 x2 x3 x4 x5 (j - n) else g j, ?_, ?_, ?_, ?_⟩
  · unfold f_D_feed
    rw [show (65516 : Int32) = nI 65516 from rfl, show (20 : Int32) = nI 20 from rfl, show (16 : Int32) = nI 16 from rfl, show (12 : Int32) = nI 12 from rfl, show (8 : Int32) = nI 8 from rfl, show (4 : Int32) = nI 4 from rfl]
    rw [if_pos (nI_le (by omega) (by omega)), nI_add, nI_add, nI_add, nI_add, nI_add, lay_ok (by omega) x1 (by omega), q_bind, lay_ok (by omega) x2 (by omega), q_bind, lay_ok (by omega) x3 (by omega), q_bind, lay_ok (by omega) x4 (by omega), q_bind, lay_ok (by omega) x5 (by omega), q_bind]
  · unfold f_M_feed
    rw [show (65536 : Int32) = nI 65536 from rfl, show (20 : Int32) = nI 20 from rfl, nI_add, if_pos (nI_le (by omega) (by omega))]
    have h := feed_L K 0 x1 x2 x3 x4 x5 n hn 20 0 g K (by omega) (by omega)
    rw [Nat.add_zero] at h
    rw [show f_M_feed_L26 K 0 x1 x2 x3 x4 x5 K (nI n) g 0 = _ from h]
    rfl
  · intro j hj
    show _ = if n ≤ j ∧ j < n + 20 then q_fd x1 x2 x3 x4 x5 (j - n) else g j
    by_cases h0 : n ≤ j
    · rw [if_pos ⟨h0, hj⟩]
      unfold q_fd
      by_cases h1 : j < n + 4
      · rw [laid_out _ _ (by omega), laid_out _ _ (by omega), laid_out _ _ (by omega), laid_out _ _ (by omega), laid_in _ _ (by omega), if_pos (by omega), show (j - n) % 4 = j - n by omega]
      · by_cases h2 : j < n + 8
        · rw [laid_out _ _ (by omega), laid_out _ _ (by omega), laid_out _ _ (by omega), laid_in _ _ (by omega), if_neg (by omega), if_pos (by omega), show (j - n) % 4 = j - (n + 4) by omega]
        · by_cases h3 : j < n + 12
          · rw [laid_out _ _ (by omega), laid_out _ _ (by omega), laid_in _ _ (by omega), if_neg (by omega), if_neg (by omega), if_pos (by omega), show (j - n) % 4 = j - (n + 8) by omega]
          · by_cases h4 : j < n + 16
            · rw [laid_out _ _ (by omega), laid_in _ _ (by omega), if_neg (by omega), if_neg (by omega), if_neg (by omega), if_pos (by omega), show (j - n) % 4 = j - (n + 12) by omega]
            · rw [laid_in _ _ (by omega), if_neg (by omega), if_neg (by omega), if_neg (by omega), if_neg (by omega), show (j - n) % 4 = j - (n + 16) by omega]
    · rw [if_neg (by omega), laid_out _ _ (by omega), laid_out _ _ (by omega), laid_out _ _ (by omega), laid_out _ _ (by omega), laid_out _ _ (by omega)]
      exact hR j (by omega)
  · intro hB
    have h1 := Bt_laid (M := n + 4) (a := n) (n := 4) hB x1 (by omega)
    have h2 := Bt_laid (M := n + 8) (a := n + 4) (n := 4) h1 x2 (by omega)
    have h3 := Bt_laid (M := n + 12) (a := n + 8) (n := 4) h2 x3 (by omega)
    have h4 := Bt_laid (M := n + 16) (a := n + 12) (n := 4) h3 x4 (by omega)
    exact Bt_laid (M := n + 20) (a := n + 16) (n := 4) h4 x5 (by omega)
theorem feed_no {K n : Nat} {f g : Nat → Int32} (x1 x2 x3 x4 x5 z : Int32) (hn : n ≤ 65536) (h2 : ¬ n + 20 ≤ 65536) :
    f_D_feed K x1 x2 x3 x4 x5 (nI n) f = some (.inr (4, nI n, f)) ∧ f_M_feed K x1 x2 x3 x4 x5 z (nI n) g = some (0, 1, nI n, g) := by
  constructor
  · unfold f_D_feed
    rw [if_neg (show ¬ nI n ≤ (65516 : Int32) from show ¬ nI n ≤ nI 65516 from nI_ge (a := 65516) (by omega) (by omega))]
  · unfold f_M_feed
    rw [show (65536 : Int32) = nI 65536 from rfl, show (20 : Int32) = nI 20 from rfl, nI_add, if_neg (nI_ge (by omega) (by omega))]
    rfl
/-- end: what it is asked for is any int -/
theorem end_ok {n : Nat} (x z : Int32) (hn : n ≤ 65536) :
    (∃ k : Nat, k ≤ n ∧ x = nI k ∧ f_D_end x (nI n) = some (.inl (nI k, nI k)) ∧ f_M_end x z (nI n) = some (nI k, 0, nI k)) ∨ (f_D_end x (nI n) = some (.inr (1, nI n)) ∧ f_M_end x z (nI n) = some (0, 1, nI n)) := by
  by_cases h0 : x < 0
  · right
    unfold f_D_end f_M_end
    rw [if_pos h0, if_pos h0]
    exact ⟨rfl, rfl⟩
  · obtain ⟨k, hk, rfl⟩ := nI_of h0
    by_cases h1 : k ≤ n
    · left
      refine ⟨k, h1, rfl, ?_, ?_⟩
      · unfold f_D_end
        rw [if_neg h0, if_neg (nI_nlt h1 (by omega))]
        rfl
      · unfold f_M_end
        rw [if_neg h0, if_pos (nI_le h1 (by omega))]
    · right
      unfold f_D_end f_M_end
      rw [if_neg h0, if_neg h0, if_pos (nI_lt (by omega) (by omega)), if_neg (nI_ge (by omega) (by omega))]
      exact ⟨rfl, rfl⟩
theorem again_L (K m : Nat) (z t : Int32) (r0 : Nat → Int32) (hm : m ≤ 65536) : ∀ (r k : Nat) (tape : Nat → Int32) (q : Nat), k + r = m → r < q → f_M_again_L7 K z t (nI m) r0 q tape (nI k) = some (fun j => if k ≤ j ∧ j < m then q_by (r0 j) else tape j) := by
  intro r
  induction r with
  | zero =>
    intro k tape q hk hq
    obtain ⟨q, rfl⟩ : ∃ w, q = w + 1 := ⟨q - 1, by omega⟩
    show f_M_again_7 K _ z t (nI m) r0 tape (nI k) = _
    unfold f_M_again_7
    rw [if_pos (nI_le (by omega) (by omega))]
    refine congrArg some (funext fun j => ?_)
    rw [if_neg (by omega)]
  | succ r ih =>
    intro k tape q hk hq
    obtain ⟨q, rfl⟩ : ∃ w, q = w + 1 := ⟨q - 1, by omega⟩
    show f_M_again_7 K _ z t (nI m) r0 tape (nI k) = _
    unfold f_M_again_7
    rw [if_neg (nI_ge (by omega) (by omega)), if_pos (q_inb (by omega) (by omega)), if_pos (q_inb (by omega) (by omega)), nI_clamp (by omega), nI_1, ih (k + 1) _ q (by omega) (by omega), q_by1]
    refine congrArg some (funext fun j => ?_)
    by_cases h : j = k
    · subst h
      rw [if_neg (by omega), if_pos (by omega), upd_at]
    · by_cases h2 : k + 1 ≤ j ∧ j < m
      · rw [if_pos h2, if_pos (by omega)]
      · rw [if_neg h2, if_neg (by omega), upd_ne _ _ h]
theorem cpok_byte {f : Nat → Int32} {a b n n0 n1 : Nat} (h : Bt (a + n) f) (h0 : a + n ≤ n0) (h1 : b + n ≤ n1) (h2 : n0 < 2 ^ 31) (h3 : n1 < 2 ^ 31) : cpok .byte f n0 n1 (nI a) (nI b) (nI n) := by
  refine ⟨nI_pos (by omega), nI_pos (by omega), nI_pos (by omega), ?_, ?_, ?_⟩
  · rw [nI_clamp (by omega), nI_clamp (by omega)]; exact h0
  · rw [nI_clamp (by omega), nI_clamp (by omega)]; exact h1
  · rw [nI_clamp (by omega), nI_clamp (by omega), List.all_eq_true]
    intro i hi
    exact q_fits (h _ (by have := List.mem_range.mp hi; omega))
theorem again_ok {K m : Nat} (hK : m < K) (hm : m ≤ 65536) {f g r0 r1 : Nat → Int32} (hB : Bt m r0) (hr : ∀ j, j < m → r0 j = r1 j) (t1 t2 z : Int32) :
    ∃ f' g' : Nat → Int32, f_D_again 65536 t1 (nI m) f r0 = some (nI m, nI m, f') ∧ f_M_again K z t2 (nI m) r1 g = some (nI m, 0, nI m, g') ∧ (∀ j, j < m → f' j = g' j) ∧ Bt m f' := by
  have hmin : (if (Int32.ofNat 65536) < nI m then (Int32.ofNat 65536) else nI m) = nI m := if_neg (show ¬ (65536 : Int32) < nI m from show ¬ nI 65536 < nI m from nI_nlt hm (by omega))
  refine ⟨va_cpy r0 f 0 0 m, fun j => if 0 ≤ j ∧ j < m then q_by (r1 j) else g j, ?_, ?_, ?_, ?_⟩
  · unfold f_D_again f_Sink_copyTo
    rw [hmin, if_pos (show cpok .byte r0 65536 65536 0 0 (nI m) from cpok_byte (a := 0) (b := 0) (by rw [Nat.zero_add]; exact hB) (by omega) (by omega) (by omega) (by omega))]
    rw [nI_clamp (by omega)]
    rfl
  · unfold f_M_again
    rw [show (0 : Int32) = nI 0 from rfl, again_L K m (nI 0) t2 r1 hm m 0 g K (by omega) hK]
    rfl
  · intro j hj
    show (if 0 ≤ j ∧ j < 0 + m then r0 (0 + (j - 0)) else f j) = if 0 ≤ j ∧ j < m then q_by (r1 j) else g j
    rw [if_pos (by omega), if_pos (by omega), show 0 + (j - 0) = j by omega, ← hr j hj, hB j hj]
  · intro j hj
    show q_by (if 0 ≤ j ∧ j < 0 + m then r0 (0 + (j - 0)) else f j) = (if 0 ≤ j ∧ j < 0 + m then r0 (0 + (j - 0)) else f j)
    rw [if_pos (by omega), show 0 + (j - 0) = j by omega]
    exact hB j hj
theorem patch_ok {K n : Nat} (hK : 5 < K) (hn : n ≤ 65536) {f g : Nat → Int32} (hR : ∀ j, j < n → f j = g j) (x1 x2 x3 z : Int32) :
    (∃ f' g' : Nat → Int32, f_D_patch K x1 x2 x3 (nI n) f = some (.inl ((), f')) ∧ f_M_patch K x1 x2 x3 z (nI n) g = some ((), 0, g') ∧ (∀ j, j < n → f' j = g' j) ∧ (Bt n f → Bt n f')) ∨
    (f_D_patch K x1 x2 x3 (nI n) f = some (.inr (1, f)) ∧ f_M_patch K x1 x2 x3 z (nI n) g = some ((), 1, g)) := by
  by_cases c1 : x3 < 1
  · right
    unfold f_D_patch f_M_patch
    rw [if_pos c1, if_pos c1]
    exact ⟨rfl, rfl⟩
  · by_cases c2 : 4 < x3
    · right
      unfold f_D_patch f_M_patch
      rw [if_neg c1, if_neg c1, if_pos c2, if_pos c2]
      exact ⟨rfl, rfl⟩
    · have c0 : ¬ x3 < 0 := fun h => c1 (Int32.lt_trans h (by decide))
      obtain ⟨k, hk, rfl⟩ := nI_of c0
      have hk1 : 1 ≤ k := by
        rcases Nat.lt_or_ge k 1 with h | h
        · exact absurd (show nI k < (1 : Int32) from show nI k < nI 1 from nI_lt h (by omega)) c1
        · exact h
      have hk4 : k ≤ 4 := by
        rcases Nat.lt_or_ge 4 k with h | h
        · exact absurd (show (4 : Int32) < nI k from show nI 4 < nI k from nI_lt h hk) c2
        · exact h
      by_cases c3 : x1 < 0
      · right
        unfold f_D_patch f_M_patch
        rw [if_neg c1, if_neg c1, if_neg c2, if_neg c2, if_pos c3]
        unfold f_D_patch_15
        rw [show f_D_requireArgument 1 = some (.inl ((), ())) from rfl, q_tryL, if_pos c3]
        exact ⟨rfl, rfl⟩
      · obtain ⟨a, ha, rfl⟩ := nI_of c3
        by_cases c4 : a + k ≤ n
        · left
          refine ⟨q_laid f a k x2, fun j => if a + 0 ≤ j ∧ j < a + k then q_lay k x2 (j - a) else g j, ?_, ?_, ?_, fun hB => Bt_laid hB _ (Or.inl (Nat.le_refl _))⟩
          · unfold f_D_patch
            rw [if_neg c1, if_neg c2]
            unfold f_D_patch_15
            rw [show f_D_requireArgument 1 = some (.inl ((), ())) from rfl, q_tryL, if_neg c3, pk_sub (by omega), if_neg (nI_nlt (by omega) (by omega))]
            unfold f_D_patch_37
            rw [show f_D_requireArgument 1 = some (.inl ((), ())) from rfl, q_tryL, lay_ok (by omega) x2 (by omega), q_bind]
          · unfold f_M_patch
            rw [if_neg c1, if_neg c2, if_neg c3, pk_sub (by omega), if_pos (nI_le (by omega) (by omega))]
            have h := patch_L K a k x2 0 (nI n) (by omega) k 0 g K (by omega) (by omega)
            rw [show f_M_patch_L40 K 0 (nI n) (nI a) x2 (nI k) K g 0 = _ from h]
            rfl
          · intro j hj
            show (if a ≤ j ∧ j < a + k then q_lay k x2 (j - a) else f j) = if a + 0 ≤ j ∧ j < a + k then q_lay k x2 (j - a) else g j
            by_cases h : a ≤ j ∧ j < a + k
            · rw [if_pos h, if_pos (by omega)]
            · rw [if_neg h, if_neg (by omega)]
              exact hR j hj
        · right
          have hlt : nI n - nI k < nI a := by
            by_cases h5 : k ≤ n
            · rw [pk_sub h5]
              exact nI_lt (by omega) ha
            · exact Int32.lt_of_lt_of_le (pk_sneg (by omega) (by omega)) (nI_pos' ha)
          unfold f_D_patch f_M_patch
          rw [if_neg c1, if_neg c1, if_neg c2, if_neg c2, if_neg c3, if_neg (Int32.not_le.mpr hlt)]
          unfold f_D_patch_15
          rw [show f_D_requireArgument 1 = some (.inl ((), ())) from rfl, q_tryL, if_neg c3, if_pos hlt]
          exact ⟨rfl, rfl⟩
