/-! the pure half: DEFLATE written -/
def dfl (F : Nat → Int32) (n : Nat) : Nat → Nat → List Bool
  | 0, _ => []
  | g + 1, k => if n ≤ k then [] else if (BsF F n k).2 = 0 then lit (F k &&& 255) ++ dfl F n g (k + 1) else cpy (BsF F n k).1 (BsF F n k).2 ++ dfl F n g (k + (BsF F n k).1)
theorem Fp.as {α α' ε ε' : Type} {N L : Nat} {b : Nat → Int32} {Y : List Int32} {R B1 : List Bool} {mk : Int32 → Int32 → Int32 → (Nat → Int32) → α} {Pr : α' → Prop} {m : Option (α ⊕ (Nat × ε))} {f : α → Option (α' ⊕ (Nat × ε'))} {g : Nat × ε → Option (α' ⊕ (Nat × ε'))} (h : As N b Y (R ++ B1) mk m) (hg : ∀ u, ∃ u', g (4, u) = some (.inr (4, u'))) (hL : (Y ++ byt (R ++ B1)).length ≤ L)
    (hf : (Y ++ byt (R ++ B1)).length ≤ N → Fp N L Pr (f (mk (nI (Y ++ byt (R ++ B1)).length) (vb (rst (R ++ B1))) (nI (rst (R ++ B1)).length) (wr b (Y ++ byt (R ++ B1)))))) : Fp N L Pr (dc_try m f g) := by
  constructor
  · intro h1
    have h2 : (Y ++ byt (R ++ B1)).length ≤ N := by omega
    rw [h.1 h2, q_tryL]
    exact (hf h2).1 h1
  · intro h1
    by_cases h2 : (Y ++ byt (R ++ B1)).length ≤ N
    · rw [h.1 h2, q_tryL]
      exact (hf h2).2 h1
    · obtain ⟨u, hu⟩ := h.2 (by omega)
      rw [hu, q_tryR]
      exact hg u
theorem st_app (Y : List Int32) (R B1 B2 : List Bool) : Y ++ byt (R ++ (B1 ++ B2)) = (Y ++ byt (R ++ B1)) ++ byt (rst (R ++ B1) ++ B2) ∧ rst (R ++ (B1 ++ B2)) = rst (rst (R ++ B1) ++ B2) := by
  rw [← List.append_assoc R B1 B2, byt_a (R ++ B1) B2, ret_a (R ++ B1) B2, ← List.append_assoc Y]
  exact ⟨rfl, rfl⟩
theorem rem_L {K n k x : Nat} {F : Nat → Int32} {r : Nat → Int32} (hn : n ≤ 81920) (h3 : 3 ≤ n) (hr : ∀ j, j < n → r j = F j) (hkx : k + x ≤ n) (hK : x < K) {n_p1_bytes : Nat} {p1_filled : Int32} {p1_bitStore : Int32} {p1_bitsHeld : Int32} {a_p1_bytes : Nat → Int32} {t_copyLength : Int32} {t_copyDistance : Int32} {x2 : Int32} {lp pb : Nat → Int32} (hI : LC (hC F) (min k (n - 2)) lp pb) : ∃ lp' pb', LC (hC F) (min (k + x) (n - 2)) lp' pb' ∧ (f_PngWriter_putData_L95 K n_p1_bytes p1_filled p1_bitStore p1_bitsHeld a_p1_bytes (nI n) t_copyLength t_copyDistance r x2 (nI k) (nI x) K lp pb 0) = some (lp', pb') := by
  have hl := loop_inv (c := x) (fun q (s : (Nat → Int32) × (Nat → Int32)) i => (f_PngWriter_putData_L95 K n_p1_bytes p1_filled p1_bitStore p1_bitsHeld a_p1_bytes (nI n) t_copyLength t_copyDistance r x2 (nI k) (nI x) q s.1 s.2 i)) (fun i s => LC (hC F) (min (k + i) (n - 2)) s.1 s.2) (fun q s hI => ?_) (fun q i s hi hI => ?_) x 0 (lp, pb) K (by omega) hK hI
  · obtain ⟨s', h1, h2⟩ := hl
    exact ⟨s'.1, s'.2, h1, h2⟩
  · show (f_PngWriter_putData_95 K n_p1_bytes _ p1_filled p1_bitStore p1_bitsHeld a_p1_bytes (nI n) t_copyLength t_copyDistance s.1 r s.2 x2 (nI k) (nI x) (nI x)) = _
    unfold f_PngWriter_putData_95
    rw [if_pos (nI_le (by omega) (by omega))]
  · obtain ⟨lp', pb', g1, g2⟩ := remember_ok (k := k + i) hn h3 hr (by omega) hI
    refine ⟨(lp', pb'), g2, ?_⟩
    show (f_PngWriter_putData_95 K n_p1_bytes _ p1_filled p1_bitStore p1_bitsHeld a_p1_bytes (nI n) t_copyLength t_copyDistance s.1 r s.2 x2 (nI k) (nI x) (nI i)) = _
    unfold f_PngWriter_putData_95
    rw [if_neg (nI_ge hi (by omega)), nI_add, g1, q_bind, nI_1]
theorem BsF_facts (F : Nat → Int32) (n k : Nat) (h : (BsF F n k).2 ≠ 0) : 3 ≤ (BsF F n k).1 ∧ (BsF F n k).1 ≤ 258 ∧ (BsF F n k).1 ≤ n - k ∧ 1 ≤ (BsF F n k).2 ∧ (BsF F n k).2 ≤ 4096 := by
  obtain ⟨b1, b2, b3, b4, b5⟩ := Bs_inv (cl F n k) k 4096
  have h1 := b5 (Nat.pos_of_ne_zero h)
  have h2 := cl_le F n k (k - (BsF F n k).2)
  have h3 : lim n k ≤ 258 := Nat.min_le_left _ _
  have h4 : lim n k ≤ n - k := Nat.min_le_right _ _
  have h5 : (BsF F n k).1 = cl F n k (k - (BsF F n k).2) := h1.2
  refine ⟨h1.1, by omega, by omega, Nat.pos_of_ne_zero h, b2⟩
theorem deflD {K N n L : Nat} {α ε' : Type} {Pr : α → Prop} (hK : 5000 < K) (hN : N < 2 ^ 31) (hn : n ≤ 81920) (h3 : 3 ≤ n) {F r : Nat → Int32} (hr : ∀ j, j < n → r j = F j) (b : Nat → Int32) (x2 : Int32) (C : Int32 × Int32 × Int32 × (Nat → Int32) × Int32 × Int32 × (Nat → Int32) × (Nat → Int32) → Option (α ⊕ (Nat × ε'))) (H : Nat × (Int32 × Int32 × Int32 × (Nat → Int32) × Int32 × Int32 × (Nat → Int32) × (Nat → Int32)) → Option (α ⊕ (Nat × ε'))) (hH : ∀ u, ∃ u', H (4, u) = some (.inr (4, u'))) : ∀ (g k q : Nat) (Y : List Int32) (R : List Bool) (lp pb : Nat → Int32) (cL cD : Int32), n ≤ k + g → k ≤ n → g < q → LC (hC F) (min k (n - 2)) lp pb → R.length < 8 → Y.length ≤ N → (Y ++ byt (R ++ dfl F n g k)).length ≤ L → (∀ lp' pb' cL' cD', (Y ++ byt (R ++ dfl F n g k)).length ≤ N → Fp N L Pr (C (nI (Y ++ byt (R ++ dfl F n g k)).length, vb (rst (R ++ dfl F n g k)), nI (rst (R ++ dfl F n g k)).length, wr b (Y ++ byt (R ++ dfl F n g k)), cL', cD', lp', pb'))) → Fp N L Pr (dc_bind (f_PngWriter_putData_L40 K N (nI n) r x2 q (nI Y.length) (vb R) (nI R.length) (wr b Y) cL cD lp pb (nI k)) (Sum.elim C H)) := by
  intro g
  induction g with
  | zero =>
    intro k q Y R lp pb cL cD hg hk hq hI hR hY hL hC
    obtain ⟨q, rfl⟩ : ∃ w, q = w + 1 := ⟨q - 1, by omega⟩
    have e : (f_PngWriter_putData_L40 K N (nI n) r x2 (q + 1) (nI Y.length) (vb R) (nI R.length) (wr b Y) cL cD lp pb (nI k)) = some (.inl (nI Y.length, vb R, nI R.length, wr b Y, cL, cD, lp, pb)) := by
      show (f_PngWriter_putData_40 K N _ (nI Y.length) (vb R) (nI R.length) (wr b Y) (nI n) cL cD lp r pb x2 (nI k)) = _
      unfold f_PngWriter_putData_40
      rw [if_pos (nI_le (by omega) (by omega))]
    rw [e, q_bind]
    have h1 := hC lp pb cL cD
    rw [show R ++ dfl F n 0 k = R from List.append_nil R, byt_lt hR, ret_lt hR, List.append_nil] at h1
    exact h1 hY
  | succ g ih =>
    intro k q Y R lp pb cL cD hg hk hq hI hR hY hL hC
    obtain ⟨q, rfl⟩ : ∃ w, q = w + 1 := ⟨q - 1, by omega⟩
    have ed : dfl F n (g + 1) k = if n ≤ k then [] else if (BsF F n k).2 = 0 then lit (F k &&& 255) ++ dfl F n g (k + 1) else cpy (BsF F n k).1 (BsF F n k).2 ++ dfl F n g (k + (BsF F n k).1) := rfl
    rw [ed] at hL hC
    by_cases c : n ≤ k
    · have e : (f_PngWriter_putData_L40 K N (nI n) r x2 (q + 1) (nI Y.length) (vb R) (nI R.length) (wr b Y) cL cD lp pb (nI k)) = some (.inl (nI Y.length, vb R, nI R.length, wr b Y, cL, cD, lp, pb)) := by
        show (f_PngWriter_putData_40 K N _ (nI Y.length) (vb R) (nI R.length) (wr b Y) (nI n) cL cD lp r pb x2 (nI k)) = _
        unfold f_PngWriter_putData_40
        rw [if_pos (nI_le (by omega) (by omega))]
      rw [e, q_bind]
      rw [if_pos c, List.append_nil, byt_lt hR, List.append_nil] at hC
      have h1 := hC lp pb cL cD hY
      rw [ret_lt hR] at h1
      exact h1
    · rw [if_neg c] at hL hC
      show Fp N L Pr (dc_bind (f_PngWriter_putData_40 K N ((f_PngWriter_putData_L40 K N (nI n) r x2) q) (nI Y.length) (vb R) (nI R.length) (wr b Y) (nI n) cL cD lp r pb x2 (nI k)) _)
      unfold f_PngWriter_putData_40
      rw [if_neg (nI_ge (by omega) (by omega)), find_ok (by omega) hn h3 hr (by omega) hI, q_bind]
      by_cases c0 : (BsF F n k).2 = 0
      · rw [if_pos c0] at hL hC
        rw [show cv (BsF F n k) = (0, 0) from if_pos c0]
        show Fp N L Pr (dc_bind (if nI 0 < 3 then _ else _) _)
        rw [if_pos (by decide), if_pos (q_inb (by omega) (by omega)), bind_try, nI_clamp (by omega), hr k (by omega)]
        obtain ⟨s1, s2⟩ := st_app Y R (lit (F k &&& 255)) (dfl F n g (k + 1))
        rw [s1] at hL hC
        rw [s2] at hC
        refine Fp.as (litD_as (by omega) hN _ b hR hY) (fun u => by obtain ⟨u', hu⟩ := hH _; exact ⟨u', hu⟩) (by rw [List.length_append (bs := byt _)] at hL; omega) (fun h1 => ?_)
        unfold f_PngWriter_putData_92
        obtain ⟨lp', pb', g1, g2⟩ := rem_L (K := K) (x := 1) hn h3 hr (by omega) (by omega) hI
        rw [show (f_PngWriter_putData_L95 K N (nI (Y ++ byt (R ++ lit (F k &&& 255))).length) (vb (rst (R ++ lit (F k &&& 255)))) (nI (rst (R ++ lit (F k &&& 255))).length) (wr b (Y ++ byt (R ++ lit (F k &&& 255)))) (nI n) (nI 0) (nI 0) r x2 (nI k) 1 K lp pb 0) = _ from g2, q_bind, nI_1]
        exact ih (k + 1) q _ _ lp' pb' _ _ (by omega) (by omega) (by omega) g1 (ret8 _) h1 hL hC
      · obtain ⟨f1, f2, f3, f4, f5⟩ := BsF_facts F n k c0
        rw [if_neg c0] at hL hC
        rw [show cv (BsF F n k) = BsF F n k from if_neg c0]
        show Fp N L Pr (dc_bind (if nI (BsF F n k).1 < 3 then _ else _) _)
        rw [if_neg (show ¬ nI (BsF F n k).1 < 3 from show ¬ nI (BsF F n k).1 < nI 3 from nI_nlt f1 (by omega)), bind_try]
        obtain ⟨s1, s2⟩ := st_app Y R (cpy (BsF F n k).1 (BsF F n k).2) (dfl F n g (k + (BsF F n k).1))
        rw [s1] at hL hC
        rw [s2] at hC
        refine Fp.as (copyD_as (by omega) hN f1 f2 f4 f5 b hR hY) (fun u => by obtain ⟨u', hu⟩ := hH _; exact ⟨u', hu⟩) (by rw [List.length_append (bs := byt _)] at hL; omega) (fun h1 => ?_)
        unfold f_PngWriter_putData_92
        obtain ⟨lp', pb', g1, g2⟩ := rem_L (K := K) (x := (BsF F n k).1) hn h3 hr (by omega) (by omega) hI
        rw [show (f_PngWriter_putData_L95 K N (nI (Y ++ byt (R ++ cpy (BsF F n k).1 (BsF F n k).2)).length) (vb (rst (R ++ cpy (BsF F n k).1 (BsF F n k).2))) (nI (rst (R ++ cpy (BsF F n k).1 (BsF F n k).2)).length) (wr b (Y ++ byt (R ++ cpy (BsF F n k).1 (BsF F n k).2))) (nI n) (nI (BsF F n k).1) (nI (BsF F n k).2) r x2 (nI k) (nI (BsF F n k).1) K lp pb 0) = _ from g2, q_bind, nI_add]
        exact ih (k + (BsF F n k).1) q _ _ lp' pb' _ _ (by omega) (by omega) (by omega) g1 (ret8 _) h1 hL hC
theorem deflM {K n L : Nat} {α ε' : Type} {Pr : α → Prop} (hK : 90000 < K) (hn : n ≤ 81920) (h3 : 3 ≤ n) {F r : Nat → Int32} (hr : ∀ j, j < n → r j = F j) (b : Nat → Int32) (C : Int32 × Int32 × Int32 × (Nat → Int32) × (Nat → Int32) × (Nat → Int32) → Option (α ⊕ (Nat × ε'))) (H : Nat × (Int32 × Int32 × Int32 × (Nat → Int32) × (Nat → Int32) × (Nat → Int32)) → Option (α ⊕ (Nat × ε'))) (hH : ∀ u, ∃ u', H (4, u) = some (.inr (4, u'))) : ∀ (g k e q : Nat) (Y : List Int32) (R : List Bool) (heads chain : Nat → Int32), n ≤ k + g → k ≤ n → g < q → e ≤ min k (n - 2) → LM (hM F) e heads chain → R.length < 8 → Y.length ≤ 262144 → (Y ++ byt (R ++ dfl F n g k)).length ≤ L → (∀ heads' chain', (Y ++ byt (R ++ dfl F n g k)).length ≤ 262144 → Fp 262144 L Pr (C (nI (Y ++ byt (R ++ dfl F n g k)).length, vb (rst (R ++ dfl F n g k)), nI (rst (R ++ dfl F n g k)).length, heads', wr b (Y ++ byt (R ++ dfl F n g k)), chain'))) → Fp 262144 L Pr (dc_bind (f_M_deflate_L41 K (nI n) r q (nI Y.length) (vb R) (nI R.length) heads (wr b Y) chain (nI k) (nI e)) (Sum.elim C H)) := by
  intro g
  induction g with
  | zero =>
    intro k e q Y R heads chain hg hk hq he hI hR hY hL hC
    obtain ⟨q, rfl⟩ : ∃ w, q = w + 1 := ⟨q - 1, by omega⟩
    have e1 : (f_M_deflate_L41 K (nI n) r (q + 1) (nI Y.length) (vb R) (nI R.length) heads (wr b Y) chain (nI k) (nI e)) = some (.inl (nI Y.length, vb R, nI R.length, heads, wr b Y, chain)) := by
      show (f_M_deflate_41 K _ (nI n) (nI Y.length) (vb R) (nI R.length) heads (wr b Y) r chain (nI k) (nI e)) = _
      unfold f_M_deflate_41
      rw [if_pos (nI_le (by omega) (by omega))]
    rw [e1, q_bind]
    have h1 := hC heads chain
    rw [show R ++ dfl F n 0 k = R from List.append_nil R, byt_lt hR, ret_lt hR, List.append_nil] at h1
    exact h1 hY
  | succ g ih =>
    intro k e q Y R heads chain hg hk hq he hI hR hY hL hC
    obtain ⟨q, rfl⟩ : ∃ w, q = w + 1 := ⟨q - 1, by omega⟩
    have ed : dfl F n (g + 1) k = if n ≤ k then [] else if (BsF F n k).2 = 0 then lit (F k &&& 255) ++ dfl F n g (k + 1) else cpy (BsF F n k).1 (BsF F n k).2 ++ dfl F n g (k + (BsF F n k).1) := rfl
    rw [ed] at hL hC
    by_cases c : n ≤ k
    · have e1 : (f_M_deflate_L41 K (nI n) r (q + 1) (nI Y.length) (vb R) (nI R.length) heads (wr b Y) chain (nI k) (nI e)) = some (.inl (nI Y.length, vb R, nI R.length, heads, wr b Y, chain)) := by
        show (f_M_deflate_41 K _ (nI n) (nI Y.length) (vb R) (nI R.length) heads (wr b Y) r chain (nI k) (nI e)) = _
        unfold f_M_deflate_41
        rw [if_pos (nI_le (by omega) (by omega))]
      rw [e1, q_bind]
      rw [if_pos c, List.append_nil, byt_lt hR, List.append_nil] at hC
      have h1 := hC heads chain hY
      rw [ret_lt hR] at h1
      exact h1
    · rw [if_neg c] at hL hC
      have hmk : min k (n - 2) ≤ k := Nat.min_le_left _ _
      have hmn : min k (n - 2) ≤ n - 2 := Nat.min_le_right _ _
      obtain ⟨heads', chain', g1, g2⟩ := @enter_L K n k F r hn h3 hr (by omega) (nI Y.length) (vb R) (nI R.length) (wr b Y) (min k (n - 2) - e) e K heads chain (by omega) (by omega) hI
      have el : (if nI n - nI k < 258 then nI n - nI k else 258) = nI (lim n k) := by
        rw [pk_sub (by omega)]
        unfold lim
        by_cases q : n - k < 258
        · rw [if_pos (show nI (n - k) < 258 from show nI (n - k) < nI 258 from nI_lt q (by omega)), Nat.min_eq_right (by omega)]
        · rw [if_neg (show ¬ nI (n - k) < 258 from show ¬ nI (n - k) < nI 258 from nI_nlt (by omega) (by omega)), Nat.min_eq_left (by omega)]
          rfl
      have hlim2 : lim n k ≤ 258 := Nat.min_le_left _ _
      have e222 : (f_M_deflate_L41 K (nI n) r (q + 1) (nI Y.length) (vb R) (nI R.length) heads (wr b Y) chain (nI k) (nI e)) = (f_M_deflate_222 K ((f_M_deflate_L41 K (nI n) r) q) (nI n) (nI Y.length) (vb R) (nI R.length) heads' (wr b Y) r chain' (nI k) (nI (min k (n - 2))) (nI (BsF F n k).1) (nI (BsF F n k).2)) := by
        show (f_M_deflate_41 K _ (nI n) (nI Y.length) (vb R) (nI R.length) heads (wr b Y) r chain (nI k) (nI e)) = _
        unfold f_M_deflate_41
        rw [if_neg (nI_ge (by omega) (by omega)), g2, q_bind]
        show (f_M_deflate_95 K ((f_M_deflate_L41 K (nI n) r) q) (nI n) (nI Y.length) (vb R) (nI R.length) heads' (wr b Y) r chain' (nI k) (nI (min k (n - 2)))) = _
        unfold f_M_deflate_95
        rw [el]
        by_cases c2 : lim n k ≤ 2
        · have hB : BsF F n k = (2, 0) := Bs_keep 4096 0 (by omega) (fun x h1 h2 h4 => Nat.le_trans (cl_le F n k _) c2)
          rw [if_pos (show nI (lim n k) ≤ 2 from show nI (lim n k) ≤ nI 2 from nI_le c2 (by omega)), hB]
          unfold f_M_deflate_134
          obtain ⟨K1, hK1⟩ : ∃ z, K = z + 1 := ⟨K - 1, by omega⟩
          have e136 : (f_M_deflate_L136 K (nI n) (nI Y.length) (vb R) (nI R.length) heads' (wr b Y) r chain' (nI k) (nI (min k (n - 2))) (nI (lim n k)) (K1 + 1) 2 0 (-1)) = some (2, 0) := by
            show (f_M_deflate_136 K _ (nI n) (nI Y.length) (vb R) (nI R.length) heads' (wr b Y) r chain' (nI k) (nI (min k (n - 2))) 2 0 (nI (lim n k)) (-1)) = _
            unfold f_M_deflate_136
            rw [if_pos (by decide)]
          rw [← hK1] at e136
          rw [e136, q_bind]
          rfl
        · have hkn : k + 3 ≤ n := by
            have : lim n k ≤ n - k := Nat.min_le_right _ _
            omega
          have hmin : min k (n - 2) = k := Nat.min_eq_left (by omega)
          rw [hmin] at g1 ⊢
          have hh := hM_lt F k
          rw [if_neg (show ¬ nI (lim n k) ≤ 2 from show ¬ nI (lim n k) ≤ nI 2 from nI_ge (by omega) (by omega)), mark_ok hn hr hkn, q_bind, if_pos (q_inb hh (by omega)), nI_clamp (by omega), g1.1 _ hh]
          unfold f_M_deflate_134
          rw [show (f_M_deflate_L136 K (nI n) (nI Y.length) (vb R) (nI R.length) heads' (wr b Y) r chain' (nI k) (nI k) (nI (lim n k)) K 2 0 (pv (hM F) (hM F k) k)) = _ from findM_L (by omega) hn hr (by omega) g1.2 4096 0 K (by omega) (by omega) (by omega) (by omega), q_bind]
      rw [e222]
      unfold f_M_deflate_222
      by_cases c0 : (BsF F n k).2 = 0
      · rw [if_pos c0] at hL hC
        rw [if_pos (show nI (BsF F n k).2 ≤ 0 by rw [c0]; decide), if_pos (q_inb (by omega) (by omega)), bind_try, nI_clamp (by omega), hr k (by omega)]
        obtain ⟨s1, s2⟩ := st_app Y R (lit (F k &&& 255)) (dfl F n g (k + 1))
        rw [s1] at hL hC
        rw [s2] at hC
        refine Fp.as (litM_as (by omega) _ b hR hY) (fun u => by obtain ⟨u', hu⟩ := hH _; exact ⟨u', hu⟩) (by rw [List.length_append (bs := byt _)] at hL; omega) (fun h1 => ?_)
        unfold f_M_deflate_258
        rw [nI_1]
        exact ih (k + 1) (min k (n - 2)) q _ _ heads' chain' (by omega) (by omega) (by omega) (by rw [Nat.le_min]; omega) g1 (ret8 _) h1 hL hC
      · obtain ⟨f1, f2, f3, f4, f5⟩ := BsF_facts F n k c0
        rw [if_neg c0] at hL hC
        rw [if_neg (nI_nle (by omega) (by omega)), bind_try]
        obtain ⟨s1, s2⟩ := st_app Y R (cpy (BsF F n k).1 (BsF F n k).2) (dfl F n g (k + (BsF F n k).1))
        rw [s1] at hL hC
        rw [s2] at hC
        refine Fp.as (copyM_as (by omega) f1 f2 f4 f5 b hR hY) (fun u => by obtain ⟨u', hu⟩ := hH _; exact ⟨u', hu⟩) (by rw [List.length_append (bs := byt _)] at hL; omega) (fun h1 => ?_)
        unfold f_M_deflate_258
        rw [nI_add]
        exact ih (k + (BsF F n k).1) (min k (n - 2)) q _ _ heads' chain' (by omega) (by omega) (by omega) (by rw [Nat.le_min]; omega) g1 (ret8 _) h1 hL hC
