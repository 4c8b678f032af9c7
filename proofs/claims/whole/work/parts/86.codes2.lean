/-! the pure half: codes that are told, all of it -/
def dOK (W N c1 : Nat) : Prop := W = 32768 ∨ N = 0 ∨ (N = 1 ∧ c1 = 1)
theorem serves_D {W N c1 : Nat} (hW : W ≤ 32768) (hN : N ≤ 400) (hc : c1 ≤ 400) {C : Nat → Int32} (h1 : C 1 = nI c1) : (dOK W N c1 → f_Codes_servesDistances (nI N) (nI (32768 - W)) C = some (1, ())) ∧ (¬ dOK W N c1 → f_Codes_servesDistances (nI N) (nI (32768 - W)) C = some (0, ())) := by
  unfold f_Codes_servesDistances f_Codes_servesDistances_32 f_Codes_servesDistances_36 f_Codes_servesDistances_37
  have hC : C (Int32.toNatClampNeg 1) = nI c1 := h1
  rw [hC, if_pos (show inb 1 16 = true from q_inb (i := 1) (by omega) (by omega)), if_pos (show (1 : Int32) = 0 ∨ (1 : Int32) = 1 from Or.inr rfl), if_pos (show (0 : Int32) = 0 ∨ (0 : Int32) = 1 from Or.inl rfl)]
  by_cases a1 : W = 32768
  · rw [if_pos (show nI (32768 - W) = 0 by rw [a1]; rfl)]
    exact ⟨fun _ => rfl, fun q => absurd (Or.inl a1) q⟩
  rw [if_neg (show ¬ nI (32768 - W) = 0 from nI_ne0 (by omega) (by omega))]
  by_cases a2 : N = 0
  · rw [if_pos (show nI N = 0 by rw [a2]; rfl)]
    exact ⟨fun _ => rfl, fun q => absurd (Or.inr (Or.inl a2)) q⟩
  rw [if_neg (show ¬ nI N = 0 from nI_ne0 (by omega) (by omega))]
  by_cases a3 : N = 1
  · rw [if_pos (show nI N = 1 by rw [a3]; rfl)]
    by_cases a4 : c1 = 1
    · rw [if_pos (show nI c1 = 1 by rw [a4]; rfl)]
      exact ⟨fun _ => rfl, fun q => absurd (Or.inr (Or.inr ⟨a3, a4⟩)) q⟩
    · rw [if_neg (show ¬ nI c1 = 1 from fun q => a4 ((nI_eq32 (b := 1) (by omega) (by omega)).mp q))]
      refine ⟨fun q => ?_, fun _ => rfl⟩
      rcases q with q | q | q
      · exact absurd q a1
      · exact absurd q a2
      · exact absurd q.2 a4
  · rw [if_neg (show ¬ nI N = 1 from fun q => a3 ((nI_eq32 (b := 1) (by omega) (by omega)).mp q))]
    refine ⟨fun q => ?_, fun _ => rfl⟩
    rcases q with q | q | q
    · exact absurd q a1
    · exact absurd q a2
    · exact absurd q.1 a3
theorem serves_M {α : Type} {W N c1 : Nat} (hW : W < 2 ^ 31) (hN : N ≤ 400) (hc : c1 ≤ 400) {C : Nat → Int32} (h1 : C 1 = nI c1) (X Y : Option α) : (dOK W N c1 → (if nI 32768 - nI W = 0 then X else if nI N = 0 then X else if nI N = 1 then (if inb 1 16 = true then (if C (Int32.toNatClampNeg 1) = 1 then X else Y) else none) else Y) = X) ∧ (¬ dOK W N c1 → (if nI 32768 - nI W = 0 then X else if nI N = 0 then X else if nI N = 1 then (if inb 1 16 = true then (if C (Int32.toNatClampNeg 1) = 1 then X else Y) else none) else Y) = Y) := by
  have hC : C (Int32.toNatClampNeg 1) = nI c1 := h1
  rw [hC, if_pos (show inb 1 16 = true from q_inb (i := 1) (by omega) (by omega))]
  by_cases a1 : W = 32768
  · rw [if_pos ((left_0 hW).mpr a1)]
    exact ⟨fun _ => rfl, fun q => absurd (Or.inl a1) q⟩
  rw [if_neg (fun q => a1 ((left_0 hW).mp q))]
  by_cases a2 : N = 0
  · rw [if_pos (show nI N = 0 by rw [a2]; rfl)]
    exact ⟨fun _ => rfl, fun q => absurd (Or.inr (Or.inl a2)) q⟩
  rw [if_neg (show ¬ nI N = 0 from nI_ne0 (by omega) (by omega))]
  by_cases a3 : N = 1
  · rw [if_pos (show nI N = 1 by rw [a3]; rfl)]
    by_cases a4 : c1 = 1
    · rw [if_pos (show nI c1 = 1 by rw [a4]; rfl)]
      exact ⟨fun _ => rfl, fun q => absurd (Or.inr (Or.inr ⟨a3, a4⟩)) q⟩
    · rw [if_neg (show ¬ nI c1 = 1 from fun q => a4 ((nI_eq32 (b := 1) (by omega) (by omega)).mp q))]
      refine ⟨fun q => ?_, fun _ => rfl⟩
      rcases q with q | q | q
      · exact absurd q a1
      · exact absurd q a2
      · exact absurd q.2 a4
  · rw [if_neg (show ¬ nI N = 1 from fun q => a3 ((nI_eq32 (b := 1) (by omega) (by omega)).mp q))]
    refine ⟨fun q => ?_, fun _ => rfl⟩
    rcases q with q | q | q
    · exact absurd q a1
    · exact absurd q a2
    · exact absurd q.1 a3
theorem all_D {W : Nat} (hW : W ≤ 32768) : f_Codes_usesAllWords (nI (32768 - W)) = some (if W = 32768 then 1 else 0, ()) := by
  unfold f_Codes_usesAllWords f_Codes_usesAllWords_12
  rw [if_pos (show (1 : Int32) = 0 ∨ (1 : Int32) = 1 from Or.inr rfl), if_pos (show (0 : Int32) = 0 ∨ (0 : Int32) = 1 from Or.inl rfl)]
  by_cases a1 : W = 32768
  · rw [if_pos (show nI (32768 - W) = 0 by rw [a1]; rfl), if_pos a1]
  · rw [if_neg (show ¬ nI (32768 - W) = 0 from nI_ne0 (by omega) (by omega)), if_neg a1]
theorem Lg_D {n : Nat} {A B : Nat → Int32} {L : Nat → Nat} (h : Lg n A B L) {a k : Nat} (hk : a + k ≤ n) : Ln A a k (fun j => L (a + j)) := fun j hj => ⟨(h (a + j) (by omega)).1, (h (a + j) (by omega)).2.2⟩
theorem Lg_M {n : Nat} {A B : Nat → Int32} {L : Nat → Nat} (h : Lg n A B L) {a k : Nat} (hk : a + k ≤ n) : Ln B a k (fun j => L (a + j)) := fun j hj => ⟨(h (a + j) (by omega)).2.1, (h (a + j) (by omega)).2.2⟩
theorem wn_big {L : Nat → Nat} {n : Nat} (hn : n ≤ 400) : wn L n 16 < 2 ^ 31 := by
  have h1 := wn_le L n 16
  have h2 := sn_n L n 16
  omega
/-- complete codes laid, both sides alike: or both find them broken -/
theorem full_lk {K N N' Mx n a : Nat} (hK : 1000 < K) {A B : Nat → Int32} {L : Nat → Nat} (hA : Ln A a n L) (hB : Ln B a n L) (hn : n ≤ 320) (hN : a + n ≤ N) (hN2 : N < 2 ^ 20) (hN' : a + n ≤ N') (hN2' : N' < 2 ^ 20) (hM : n ≤ Mx) (hM2 : Mx < 2 ^ 20) (U W : Int32) (C P Mn : Nat → Int32) (U' : Int32) (C' Mn' : Nat → Int32) {β δ β' δ' : Type} {R' : β → β' → Prop} {F : (Unit × (Int32 × Int32 × (Nat → Int32) × (Nat → Int32) × (Nat → Int32))) → Option (β ⊕ (Nat × δ))} {G : Nat × (Int32 × Int32 × (Nat → Int32) × (Nat → Int32) × (Nat → Int32)) → Option (β ⊕ (Nat × δ))} {G2 : Unit × (Int32 × Int32 × (Nat → Int32) × (Nat → Int32) × (Nat → Int32)) → Nat × Unit → Option (β ⊕ (Nat × δ))} {F' : Bool → Int32 × (Int32 × (Nat → Int32) × (Nat → Int32)) → Option (β' ⊕ (Nat × δ'))} (hG : ∀ u, ∃ u', G (3, u) = some (.inr (3, u'))) (hG2 : ∀ v u, ∃ u', G2 v (3, u) = some (.inr (3, u'))) (hF0 : ∀ v, Th 3 (F' false v)) (hF : ∀ (u w : Int32) (c p mn : Nat → Int32) (l a' : Int32) (c' mn' : Nat → Int32), Cd L n c mn → Cd L n c' mn' → Lk R' (F ((), u, w, c, p, mn)) (F' true (l, a', c', mn'))) : Lk R' (dc_try (f_Codes_lay K N Mx (nI a) (nI n) U W C A P Mn) (fun r => dc_bind (f_Codes_usesAllWords r.2.2.1) (fun r2 => dc_try (f_D_need r2.1) (fun _ => F r) (G2 r))) G) (dc_bind (f_MCodes_make K N' (nI a) (nI n) U' C' B Mn') (fun r => if r.1 = 0 then F' true r else F' false r)) := by
  have hD := lay_okD hK hA (by omega) hN hN2 hM hM2 U W C P Mn
  obtain ⟨c', mn', e, hc'⟩ := make_okM hK hB hn hN' hN2' U' C' Mn'
  rw [e, q_bind]
  dsimp only
  by_cases w1 : wn L n 16 ≤ 32768
  · obtain ⟨v, e2, hc⟩ := hD.1 w1
    rw [e2, q_tryL]
    dsimp only
    rw [all_D w1, q_bind]
    by_cases w2 : wn L n 16 = 32768
    · rw [if_pos w2, need1, q_tryL, if_pos ((left_0 (wn_big (by omega))).mpr w2)]
      exact hF _ _ _ _ _ _ _ _ _ hc hc'
    · rw [if_neg w2, need0, q_tryR, if_neg (fun q => w2 ((left_0 (wn_big (by omega))).mp q))]
      exact Lk.no (hG2 _ _) (hF0 _)
  · obtain ⟨u, hu⟩ := hD.2 w1
    rw [hu, q_tryR, if_neg (fun q => w1 (by have := (left_0 (wn_big (show n ≤ 400 by omega))).mp q; omega))]
    exact Lk.no (hG u) (hF0 _)
theorem codes_ok {K g m Nc Nl Nd b : Nat} (hK : 1000 < K) {T D : Nat → Int32} {dat : Nat → Nat} (ht : Dt g m T dat) (hd : Dt 0 m D dat) (hg : g + m ≤ 65536) (hNc : 19 ≤ Nc) (hNc2 : Nc < 2 ^ 20) (hNl : 286 ≤ Nl) (hNl2 : Nl < 2 ^ 20) (hNd : 30 ≤ Nd) (hNd2 : Nd < 2 ^ 20) {t_lengthCodes_used : Int32} {t_lengthCodes_unusedWords : Int32} {a_t_lengthCodes_places : Nat → Int32} {t_literals_used : Int32} {t_literals_unusedWords : Int32} {a_t_literals_places : Nat → Int32} {t_distances_used : Int32} {t_distances_unusedWords : Int32} {a_t_distances_places : Nat → Int32} {dc1 dc2 dc3 dc4 dc5 dc6 lD0 : Nat → Int32} {a_t_lengths : Nat → Int32} {t_lengthCodes_all : Int32} {a_t_lengthCodes_counts : Nat → Int32} {a_t_lengthCodes_meanings : Nat → Int32} {t_literals_all : Int32} {a_t_literals_counts : Nat → Int32} {a_t_literals_meanings : Nat → Int32} {t_distances_all : Int32} {a_t_distances_counts : Nat → Int32} {a_t_distances_meanings : Nat → Int32} {A S H : Int32} (hq : Bq g m dat b A S H) : Lk (fun x y => ∃ (b' : Nat) (L Ld : Nat → Nat) (l d : Nat), y.2.1 = nI b' ∧ b ≤ b' ∧ Bq g m dat b' x.2.1 x.2.2.1 x.2.2.2.1 ∧ l ≤ 286 ∧ d ≤ 30 ∧ Cd L l (x.2.2.2.2.2.2.2.2.2.2.2.2.1) (x.2.2.2.2.2.2.2.2.2.2.2.2.2.2.1) ∧ Cd L l (y.2.2.2.2.2.2.2.1) (y.2.2.2.2.2.2.2.2.1) ∧ Cd Ld d (x.2.2.2.2.2.2.2.2.2.2.2.2.2.2.2.2.2.1) (x.2.2.2.2.2.2.2.2.2.2.2.2.2.2.2.2.2.2.2) ∧ Cd Ld d (y.2.2.2.2.2.2.2.2.2.2.1) (y.2.2.2.2.2.2.2.2.2.2.2)) (f_Inflater_takeCodes K Nc Nl Nd A (nI (g + m)) S H T lD0 t_lengthCodes_used t_lengthCodes_unusedWords dc1 a_t_lengthCodes_places dc2 t_literals_used t_literals_unusedWords dc3 a_t_literals_places dc4 t_distances_used t_distances_unusedWords dc5 a_t_distances_places dc6) (f_M_toldCodes K (nI m) (nI b) D a_t_lengths t_lengthCodes_all a_t_lengthCodes_counts a_t_lengthCodes_meanings t_literals_all a_t_literals_counts a_t_literals_meanings t_distances_all a_t_distances_counts a_t_distances_meanings) := by
  unfold f_Inflater_takeCodes f_M_toldCodes
  refine Lk.try (bits_lk (K := K) (x := 5) (by omega) ht hd hg (by omega) hq) (fun u => ⟨_, rfl⟩) (fun u => ⟨_, rfl⟩) (fun x y hxy => ?_)
  obtain ⟨A1, S1, H1, rfl, rfl, hq1⟩ := hxy
  refine Lk.try (bits_lk (K := K) (x := 5) (by omega) ht hd hg (by omega) hq1) (fun u => ⟨_, rfl⟩) (fun u => ⟨_, rfl⟩) (fun x y hxy => ?_)
  obtain ⟨A2, S2, H2, rfl, rfl, hq2⟩ := hxy
  refine Lk.try (bits_lk (K := K) (x := 4) (by omega) ht hd hg (by omega) hq2) (fun u => ⟨_, rfl⟩) (fun u => ⟨_, rfl⟩) (fun x y hxy => ?_)
  obtain ⟨A3, S3, H3, rfl, rfl, hq3⟩ := hxy
  have w1 := vN_lt dat b 5
  have w2 := vN_lt dat (b + 5) 5
  have w3 := vN_lt dat (b + 5 + 5) 4
  generalize vN dat b 5 = l0 at w1 ⊢
  generalize vN dat (b + 5) 5 = d0 at w2 ⊢
  generalize vN dat (b + 5 + 5) 4 = c0 at w3 ⊢
  dsimp only
  rw [show nI l0 + 257 = nI (l0 + 257) from nI_add l0 257, show nI d0 + 1 = nI (d0 + 1) from nI_add d0 1, show nI c0 + 4 = nI (c0 + 4) from nI_add c0 4]
  unfold f_Inflater_takeCodes_52 f_Inflater_takeCodes_53 f_M_toldCodes_44 f_M_toldCodes_45
  by_cases c1 : 286 < l0 + 257
  · have z : (286 : Int32) < nI (l0 + 257) := nI_lt (a := 286) c1 (by omega)
    rw [if_pos z, if_pos z, need0, can0, q_tryR, q_tryR]
    exact Lk.no ⟨_, rfl⟩ ⟨_, rfl⟩
  have z : ¬ (286 : Int32) < nI (l0 + 257) := nI_nlt (a := 286) (by omega) (by omega)
  rw [if_neg z, if_neg z]
  by_cases c2 : 30 < d0 + 1
  · have z : (30 : Int32) < nI (d0 + 1) := nI_lt (a := 30) c2 (by omega)
    rw [if_pos z, if_pos z, need0, can0, q_tryR, q_tryR]
    exact Lk.no ⟨_, rfl⟩ ⟨_, rfl⟩
  have z : ¬ (30 : Int32) < nI (d0 + 1) := nI_nlt (a := 30) (by omega) (by omega)
  rw [if_neg z, if_neg z, need1, can1, q_tryL, q_tryL, fill4_L (x := 0) (y := 19) (a := 0) (b := 19) rfl rfl (by omega) (by omega) (by omega) (by omega), q_bind]
  generalize hl : l0 + 257 = l at c1 ⊢
  generalize hdd : d0 + 1 = d at c2 ⊢
  have hl2 := loop_mp (c := 19) (K := K) (f_M_toldCodes_L51 K (nI m) (nI (b + 5 + 5 + 4)) D t_lengthCodes_all a_t_lengthCodes_counts a_t_lengthCodes_meanings t_literals_all a_t_literals_counts a_t_literals_meanings t_distances_all a_t_distances_counts a_t_distances_meanings (nI l) (nI d) (nI (c0 + 4))) (fun k _ => 0) a_t_lengths (fun q s => ?_) (fun q k hk => ?_) (by omega)
  rotate_left
  · show (f_M_toldCodes_51 K _ (nI m) (nI (b + 5 + 5 + 4)) D s t_lengthCodes_all a_t_lengthCodes_counts a_t_lengthCodes_meanings t_literals_all a_t_literals_counts a_t_literals_meanings t_distances_all a_t_distances_counts a_t_distances_meanings (nI l) (nI d) (nI (c0 + 4)) (nI 19)) = _
    unfold f_M_toldCodes_51
    rw [if_pos (show (19 : Int32) ≤ nI 19 by decide)]
  · show (f_M_toldCodes_51 K _ (nI m) (nI (b + 5 + 5 + 4)) D (mp (fun k _ => 0) a_t_lengths k) t_lengthCodes_all a_t_lengthCodes_counts a_t_lengthCodes_meanings t_literals_all a_t_literals_counts a_t_literals_meanings t_distances_all a_t_distances_counts a_t_distances_meanings (nI l) (nI d) (nI (c0 + 4)) (nI k)) = _
    unfold f_M_toldCodes_51
    rw [if_neg (show ¬ (19 : Int32) ≤ nI k from nI_ge (b := 19) hk (by omega)), if_pos (q_inb (by omega) (by omega)), nI_clamp (by omega), nI_1]
  rw [hl2, q_bind]
  have hg0 : Lg 19 (fun j => if 0 ≤ j ∧ j < 19 then (0 : Int32) else lD0 j) (mp (fun k _ => 0) a_t_lengths 19) (fun _ => 0) := fun j hj => ⟨if_pos (by omega), mp_lt _ _ hj, show (0 : Nat) < 16 by omega⟩
  refine Lk.tryL (told_L (K := K) (c := c0 + 4) (by omega) ht hd hg (by omega) (c0 + 4) 0 K K (b + 5 + 5 + 4) A3 S3 H3 _ _ _ (by omega) (by omega) (by omega) hq3 hg0) (fun u => ⟨_, rfl⟩) (fun u => ⟨_, rfl⟩) (fun x y hxy => ?_)
  clear hg0 hl2
  obtain ⟨b4, L4, y1, hb4, hq4, hL4⟩ := hxy
  rw [y1]
  unfold f_Inflater_takeCodes_108
  have hDn := Lg_D (a := 0) (k := 19) hL4 (by omega)
  have hMn := Lg_M (a := 0) (k := 19) hL4 (by omega)
  refine full_lk (a := 0) (n := 19) hK hDn hMn (by omega) (by omega) (by omega) (by omega) (by omega) (by omega) hNc2 _ _ _ _ _ _ _ _ (F' := fun bb r => (f_M_toldCodes_126 K (nI m) (nI b4) D y.2 r.2.1 r.2.2.1 r.2.2.2 t_literals_all a_t_literals_counts a_t_literals_meanings t_distances_all a_t_distances_counts a_t_distances_meanings (nI l) (nI d) (cond bb 1 0))) (fun u => ⟨_, rfl⟩) (fun v u => ⟨_, rfl⟩) (fun v => ?_) (fun u1 wd1 cc1 pp1 mm1 ll1 a1 cM1 mM1 hcD hcM => ?_)
  · show Th 3 (f_M_toldCodes_126 K (nI m) (nI b4) D y.2 v.2.1 v.2.2.1 v.2.2.2 t_literals_all a_t_literals_counts a_t_literals_meanings t_distances_all a_t_distances_counts a_t_distances_meanings (nI l) (nI d) 0)
    unfold f_M_toldCodes_126
    rw [can0, q_tryR]
    exact ⟨_, rfl⟩
  show Lk _ _ (f_M_toldCodes_126 K (nI m) (nI b4) D y.2 a1 cM1 mM1 t_literals_all a_t_literals_counts a_t_literals_meanings t_distances_all a_t_distances_counts a_t_distances_meanings (nI l) (nI d) 1)
  unfold f_M_toldCodes_126 f_Inflater_takeLengths
  dsimp only
  rw [can1, q_tryL, bind_elim, bind_elim, try_try, nI_add]
  refine Lk.try (lens_L (K := K) (l := l) (d := d) hK ht hd hg (by omega) hNc hNc2 hcD hcM (by omega) (l + d) 0 K K b4 x.1 x.2.1 x.2.2.1 _ _ L4 (by omega) (by omega) (by omega) (by omega) hq4 (fun j hj => absurd hj (Nat.not_lt_zero _))) (fun u => ⟨_, rfl⟩) (fun u => ⟨_, rfl⟩) (fun x5 y5 hxy => ?_)
  obtain ⟨b5, L5, y51, hb5, hq5, hL5⟩ := hxy
  rw [q_tryL, y51, if_pos (show inb 256 316 = true from q_inb (i := 256) (by omega) (by omega)), if_pos (show inb 256 640 = true from q_inb (i := 256) (by omega) (by omega))]
  obtain ⟨k1, k2, k3⟩ := hL5 256 (by omega)
  have k1' : x5.2.2.2 (Int32.toNatClampNeg 256) = nI (L5 256) := k1
  have k2' : y5.2 (Int32.toNatClampNeg 256) = nI (L5 256) := k2
  dsimp only
  rw [k1', k2']
  unfold f_Inflater_takeCodes_155 f_M_toldCodes_343
  have h344 : ∀ (tl : Int32) (tc tm : Nat → Int32), Th 3 (f_M_toldCodes_344 K (nI m) (nI b5) D y5.2 a1 cM1 mM1 tl tc tm t_distances_all a_t_distances_counts a_t_distances_meanings (nI l) (nI d) 0) := by
    intro tl tc tm
    unfold f_M_toldCodes_344
    rw [can0, q_tryR]
    exact ⟨_, rfl⟩
  by_cases e256 : L5 256 = 0
  · have z : nI (L5 256) ≤ 0 := nI_le (b := 0) (by omega) (by omega)
    rw [if_pos z, if_pos z, need0, q_tryR]
    exact Lk.no ⟨_, rfl⟩ (h344 _ _ _)
  have z : ¬ nI (L5 256) ≤ 0 := nI_ge (a := 0) (by omega) (by omega)
  rw [if_neg z, if_neg z, need1, q_tryL]
  have hDl := Lg_D (a := 0) (k := l) hL5 (by omega)
  have hMl := Lg_M (a := 0) (k := l) hL5 (by omega)
  refine full_lk (a := 0) (n := l) hK hDl hMl (by omega) (by omega) (by omega) (by omega) (by omega) (by omega) hNl2 _ _ _ _ _ _ _ _ (F' := fun bb r => (f_M_toldCodes_344 K (nI m) (nI b5) D y5.2 a1 cM1 mM1 r.2.1 r.2.2.1 r.2.2.2 t_distances_all a_t_distances_counts a_t_distances_meanings (nI l) (nI d) (cond bb 1 0))) (fun u => ⟨_, rfl⟩) (fun v u => ⟨_, rfl⟩) (fun v => h344 _ _ _) (fun u2 wd2 cc2 pp2 mm2 ll2 a2 cM2 mM2 hcD2 hcM2 => ?_)
  clear h344
  show Lk _ _ (f_M_toldCodes_344 K (nI m) (nI b5) D y5.2 a1 cM1 mM1 a2 cM2 mM2 t_distances_all a_t_distances_counts a_t_distances_meanings (nI l) (nI d) 1)
  unfold f_M_toldCodes_344
  dsimp only
  rw [can1, q_tryL]
  have hDd := Lg_D (a := l) (k := d) hL5 (by omega)
  have hMd := Lg_M (a := l) (k := d) hL5 (by omega)
  have hD := lay_okD (K := K) (N := 316) (Mx := Nd) hK hDd (by omega) (by omega) (by omega) (by omega) hNd2 t_distances_used t_distances_unusedWords dc5 a_t_distances_places dc6
  obtain ⟨c3, mn3, e3, hcM3⟩ := make_okM (K := K) (N := 640) hK hMd (by omega) (by omega) (by omega) t_distances_all a_t_distances_counts a_t_distances_meanings
  have hs3 := sn_n (fun j => L5 (l + j)) d 16
  have hc3 := cn_le (fun j => L5 (l + j)) 1 d
  have hw3 := wn_le (fun j => L5 (l + j)) d 16
  have hS := serves_M (α := _) (wn_big (L := fun j => L5 (l + j)) (show d ≤ 400 by omega)) (show sn (fun j => L5 (l + j)) d 16 ≤ 400 by omega) (show cn (fun j => L5 (l + j)) 1 d ≤ 400 by omega) (hcM3.1 1 (by omega) (by omega)) (f_M_toldCodes_402 K (nI m) (nI b5) D y5.2 a1 cM1 mM1 a2 cM2 mM2 (nI (sn (fun j => L5 (l + j)) d 16)) c3 mn3) (f_M_toldCodes_406 K (nI m) (nI b5) D y5.2 a1 cM1 mM1 a2 cM2 mM2 (nI (sn (fun j => L5 (l + j)) d 16)) c3 mn3)
  rw [e3, q_bind]
  dsimp only
  by_cases w4 : wn (fun j => L5 (l + j)) d 16 ≤ 32768
  · obtain ⟨v, e4, hcD3⟩ := hD.1 w4
    have hS2 := serves_D w4 (show sn (fun j => L5 (l + j)) d 16 ≤ 400 by omega) (show cn (fun j => L5 (l + j)) 1 d ≤ 400 by omega) (hcD3.1 1 (by omega) (by omega))
    rw [e4, q_tryL]
    dsimp only
    by_cases ok : dOK (wn (fun j => L5 (l + j)) d 16) (sn (fun j => L5 (l + j)) d 16) (cn (fun j => L5 (l + j)) 1 d)
    · rw [hS2.1 ok, q_bind, need1, q_tryL, hS.1 ok]
      unfold f_M_toldCodes_402 f_M_toldCodes_407
      rw [can1, q_tryL]
      exact Lk.yes ⟨b5, _, _, l, d, rfl, by omega, hq5, by omega, by omega, hcD2, hcM2, hcD3, hcM3⟩
    · rw [hS2.2 ok, q_bind, need0, q_tryR, hS.2 ok]
      unfold f_M_toldCodes_406 f_M_toldCodes_407
      rw [can0, q_tryR]
      exact Lk.no ⟨_, rfl⟩ ⟨_, rfl⟩
  · obtain ⟨u, hu⟩ := hD.2 w4
    rw [hu, q_tryR, hS.2 (fun q => by
      rcases q with q | q | q
      · exact w4 (by omega)
      · omega
      · omega)]
    unfold f_M_toldCodes_406 f_M_toldCodes_407
    rw [can0, q_tryR]
    exact Lk.no ⟨_, rfl⟩ ⟨_, rfl⟩
