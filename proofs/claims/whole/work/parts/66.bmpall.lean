/-! the pure half: a BMP file read -/
/-- both refuse it alike, or both answer, and R ties the answers -/
def Lr {α ε α' ε' : Type} (R : α → α' → Prop) (m : Option (α ⊕ (Nat × ε))) (m' : Option (α' ⊕ (Nat × ε'))) : Prop := (Th 3 m ∧ Th 3 m') ∨ (Th 4 m ∧ Th 4 m') ∨ ∃ a b, m = some (.inl a) ∧ m' = some (.inl b) ∧ R a b
theorem Lr.of {α ε α' ε' : Type} {R : α → α' → Prop} {m : Option (α ⊕ (Nat × ε))} {m' : Option (α' ⊕ (Nat × ε'))} (h : Lk R m m') : Lr R m m' := by
  rcases h with h | h
  · exact Or.inl h
  · exact Or.inr (Or.inr h)
theorem Lk.ofGq {α ε α' ε' β β' : Type} {φ : Prop} {F : β → α} {P : β → Prop} {F' : β' → α'} {P' : β' → Prop} {m : Option (α ⊕ (Nat × ε))} {m' : Option (α' ⊕ (Nat × ε'))} (h : Gq φ (fun m => ∃ b, m = some (.inl (F b)) ∧ P b) m) (h' : Gq φ (fun m => ∃ b, m = some (.inl (F' b)) ∧ P' b) m') : Lk (fun x y => φ ∧ ∃ b b', x = F b ∧ y = F' b' ∧ P b ∧ P' b') m m' := by
  by_cases c : φ
  · obtain ⟨b, hb, hP⟩ := h.1 c
    obtain ⟨b', hb', hP'⟩ := h'.1 c
    exact Or.inr ⟨_, _, hb, hb', c, b, b', rfl, rfl, hP, hP'⟩
  · exact Or.inl ⟨h.2 c, h'.2 c⟩
theorem lN_32 {a : Nat} (h : a < 2 ^ 31) : (lN a).toInt32 = nI a := by
  apply Int32.toBitVec_inj.mp
  apply BitVec.eq_of_toNat_eq
  show ((BitVec.ofNat 64 a).signExtend 32).toNat = (BitVec.ofNat 32 a).toNat
  rw [BitVec.signExtend_eq_setWidth_of_le _ (by omega), BitVec.toNat_setWidth, BitVec.toNat_ofNat, BitVec.toNat_ofNat]
  omega
theorem Rd_agr {t : Nat → Nat} {palD palM : Nat → Int32} {top : Bool} {st d w h c : Nat} {D M : Nat → Int32} (hw0 : 0 < w) (hpal : Agr c palD palM) (hx : rxs t st d w c h) (hD : Rd t palD top st d w h h D) (hM : Rd t palM top st d w h h M) : Agr (w * h) D M := by
  intro j hj
  have hy : j / w < h := Nat.div_lt_of_lt_mul hj
  have hk : j % w < w := Nat.mod_lt _ hw0
  have ej : j / w * w + j % w = j := Nat.div_add_mod' j w
  generalize j / w = y at hy ej ⊢
  obtain ⟨r, hr, er⟩ : ∃ r, r < h ∧ rwy top h r = y := by
    cases top
    · refine ⟨h - 1 - y, by omega, ?_⟩
      show h - 1 - (h - 1 - y) = y
      omega
    · exact ⟨y, hy, rfl⟩
  have h1 := hD r hr (j % w) hk
  have h2 := hM r hr (j % w) hk
  rw [er, ej] at h1 h2
  rw [h1, h2]
  unfold rvl
  by_cases h8 : d ≤ 8
  · rw [if_pos h8, if_pos h8]
    exact hpal _ (hx r hr h8 _ hk)
  · rw [if_neg h8, if_neg h8]
def PicR (w h : Nat) (D M : Nat → Int32) : Prop := 0 < w ∧ 0 < h ∧ w * h ≤ 16384 ∧ Agr (w * h) D M
theorem bmp_ok {K n : Nat} (hK : 70000 < K) (hn : n ≤ 65536) {T TM : Nat → Int32} {t : Nat → Nat} (ht : Tb n T t) (htM : Tb n TM t) {t_colours : Int32} {t_depth : Int32} {t_isFromTop : Int32} {t_hasRuns : Int32} {t_start : Int32} {t_column : Int32} {t_line : Int32} {p1_width : Int32} {p1_height : Int32} {mw mh md mc : Int32} (palD palM ptsD ptsM : Nat → Int32) : Lr (fun x y => ∃ w h D M, PicR w h D M ∧ x.2.2.2.2.2.2.2.2.2.1 = nI w ∧ x.2.2.2.2.2.2.2.2.2.2.1 = nI h ∧ x.2.2.2.2.2.2.2.2.2.2.2.2 = D ∧ y.2.2.1 = nI w ∧ y.2.2.2.1 = nI h ∧ y.2.2.2.2.2.2.2 = M) (f_BmpFiles_decode K t_colours t_depth t_isFromTop t_hasRuns t_start t_column t_line (nI 0) (nI n) T p1_width p1_height palD ptsD) (f_M_readBmp K (nI n) (nI 0) mw mh md mc TM palM ptsM) := by
  have hD := headD hn ht (t_colours := t_colours) (t_depth := t_depth) (t_isFromTop := t_isFromTop) (t_hasRuns := t_hasRuns) (t_start := t_start) (p1_width := p1_width) (p1_height := p1_height)
  have hM := headM (K := K) (by omega) hn htM (t_width := mw) (t_height := mh) (t_depth := md) (t_colours := mc) (a_t_palette := palM) (a_t_points := ptsM)
  unfold f_BmpFiles_decode
  by_cases hok : bmpOk n t
  rotate_left
  · obtain ⟨u, hu⟩ := hD.2 hok
    rw [hu, q_tryR]
    exact Or.inl ⟨⟨_, rfl⟩, hM.2 hok⟩
  have hD1 := hD.1 hok
  have hM1 := hM.1 hok
  by_cases hbig : l4 t 18 * hgt (l4 t 22) ≤ 16384
  rotate_left
  · have hM2 := Eq.mp (if_neg hbig) hM1
    obtain ⟨u, hu⟩ := Eq.mp (if_neg hbig) hD1
    rw [hu, q_tryR]
    exact Or.inr (Or.inl ⟨⟨_, rfl⟩, hM2⟩)
  have hD2 := Eq.mp (if_pos hbig) hD1
  have hM2 := Eq.mp (if_pos hbig) hM1
  clear hD1 hM1 hD hM
  rw [hD2, hM2, q_tryL]
  clear hD2 hM2
  obtain ⟨h54, -, -, -, -, hw0, hw31, hh0, -, hdok, hruns, hcol⟩ := hok
  have b22 := l4_lt ht.2 22
  have b10 := l4_lt ht.2 10
  have hhp := hgt_pos hh0 b22
  have hc : bcol t ≤ 256 := by
    have := mst_le hdok
    unfold bcol
    by_cases q : l4 t 46 = 0
    · rw [if_pos q]; omega
    · rw [if_neg q]; omega
  have etop : (0 ≤ lg_cmp ((nI (l4 t 22)).toInt64) 0 ↔ decide (¬ l4 t 22 < 2 ^ 31) = false) := by
    rw [cmp_ge, hv_ge b22, decide_eq_false_iff_not, Decidable.not_not]
  generalize decide (¬ l4 t 22 < 2 ^ 31) = top at etop ⊢
  have epalD := palD_L (K := K) (p := 54) hn hc ht (bcol t) 0 K palD (by omega) (by omega) (by omega) (fun j hj => absurd hj (Nat.not_lt_zero _))
  have epalM := palM_L (K := K) (p := 54) hn hc htM (t_width := nI (l4 t 18)) (t_height := nI (hgt (l4 t 22))) (t_depth := nI (l2 t 28)) (a_t_points := ptsM) (x3 := lN (l4 t 10)) (x7 := (nI (l4 t 22)).toInt64) (x9 := lN (l4 t 30)) (bcol t) 0 K palM (by omega) (by omega) (by omega) (fun j hj => absurd hj (Nat.not_lt_zero _))
  have b30 := l4_lt ht.2 30
  generalize hst : l4 t 10 = st at b10 epalM ⊢
  have hhgt : hgt (l4 t 22) ≤ 16384 := Nat.le_trans (Nat.le_mul_of_pos_left _ hw0) hbig
  generalize hgt (l4 t 22) = h at hhp hbig hhgt epalM ⊢
  generalize (nI (l4 t 22)).toInt64 = x7 at etop epalM ⊢
  have hc0 : l4 t 30 ≠ 0 → 0 < bcol t := by
    intro q
    rcases hruns with q1 | ⟨-, q1, -⟩
    · exact absurd q1 q
    · unfold bcol
      rw [q1]
      by_cases q2 : l4 t 46 = 0
      · rw [if_pos q2]; decide
      · rw [if_neg q2]; omega
  have h30 : l4 t 30 = 0 ∨ l4 t 30 = 1 := by
    rcases hruns with q | ⟨q, -, -⟩
    · exact Or.inl q
    · exact Or.inr q
  generalize l4 t 30 = runs at hc0 h30 epalM b30 ⊢
  generalize l2 t 28 = d at hdok epalM ⊢
  generalize bcol t = c at hc hc0 epalD epalM ⊢
  generalize l4 t 18 = w at hw0 hw31 hbig hhgt epalM ⊢
  refine Lr.of ?_
  unfold f_M_readBmp_378 f_BmpFiles_takeColours
  rw [bind_elim, bind_elim, try_try]
  refine Lk.try (Lk.ofGq epalD epalM) (fun u => ⟨_, rfl⟩) (fun u => ⟨_, rfl⟩) (fun x y hxy => ?_)
  obtain ⟨h1, pD, pM, rfl, rfl, hpD, hpM⟩ := hxy
  have hpal : Agr c pD pM := fun j hj => by rw [hpD j hj, hpM j hj]
  clear hpD hpM epalD epalM
  rw [q_tryL]
  dsimp only
  unfold f_Source_place
  rw [q_bind]
  unfold f_M_readBmp_472 f_BmpFiles_decode_28 f_M_readBmp_473
  have k1 : lg_cmp (lN st) (nI (54 + 4 * c)).toInt64 < 0 ↔ st < 54 + 4 * c := by
    rw [cmp_lt, nI_l (n := 54 + 4 * c) (by omega)]
    exact pk_lLT (by omega) (by omega)
  have k2 : 0 < lg_cmp (lN st) (nI n).toInt64 ↔ n < st := by
    rw [cmp_gt, nI_l (n := n) (by omega)]
    exact pk_lLT (by omega) (by omega)
  by_cases c1 : st < 54 + 4 * c
  · rw [if_pos (show nI st < nI (54 + 4 * c) from nI_lt c1 (by omega)), need0, q_tryR]
    refine Lk.no ⟨_, rfl⟩ ?_
    rw [if_pos (k1.mpr c1), can0, q_tryR]
    exact ⟨_, rfl⟩
  by_cases c2 : n < st
  · refine Lk.no ?_ ?_
    · by_cases c3 : st < 2 ^ 31
      · rw [if_neg (show ¬ nI st < nI (54 + 4 * c) from nI_nlt (by omega) c3), need1, q_tryL]
        unfold f_Source_place
        rw [q_bind, pk_sub (by omega)]
        obtain ⟨u, hu⟩ := (skip_ex (p := 54 + 4 * c) (n := n) (k := st - (54 + 4 * c)) h1 hn (by omega)).2 (by omega)
        rw [hu]
        exact ⟨_, rfl⟩
      · rw [if_pos (show nI st < nI (54 + 4 * c) from Int32.lt_of_lt_of_le (nI_neg (by omega) b10) (show nI 0 ≤ nI (54 + 4 * c) from nI_le (by omega) (by omega))), need0, q_tryR]
        exact ⟨_, rfl⟩
    · rw [if_neg (show ¬ lg_cmp (lN st) (nI (54 + 4 * c)).toInt64 < 0 from fun e => c1 (k1.mp e)), if_pos (k2.mpr c2), can0, q_tryR]
      exact ⟨_, rfl⟩
  rw [if_neg (show ¬ nI st < nI (54 + 4 * c) from nI_nlt (by omega) (by omega)), need1, q_tryL]
  unfold f_Source_place
  rw [q_bind, pk_sub (by omega), (skip_ex (p := 54 + 4 * c) (n := n) (k := st - (54 + 4 * c)) h1 hn (by omega)).1 (by omega), q_tryL, if_neg (show ¬ lg_cmp (lN st) (nI (54 + 4 * c)).toInt64 < 0 from fun e => c1 (k1.mp e)), if_neg (show ¬ 0 < lg_cmp (lN st) (nI n).toInt64 from fun e => c2 (k2.mp e)), can1, q_tryL, lN_32 (by omega), show 54 + 4 * c + (st - (54 + 4 * c)) = st by omega]
  dsimp only
  unfold f_BmpFiles_decode_70 f_M_readBmp_539 f_BmpFiles_decode_85 f_M_readBmp_556
  rcases h30 with rfl | rfl
  · rw [if_pos (show nI 0 = 0 from rfl), if_neg (show ¬ lg_cmp (lN 0) 1 = 0 by decide), bind_elim]
    have hD := prwD (K := K) (top := top) (by omega) hn hdok hc hbig hw0 hhp (show st ≤ n by omega) ht pD ptsD
    have hM := rowsM_L (K := K) (top := top) (st := st) (by omega) hn hdok hc hbig hw0 htM x7 etop pM h 0 K ptsM (by omega) (by omega) (by omega) (fun r' hr' => absurd hr' (Nat.not_lt_zero _)) (fun r' hr' => absurd hr' (Nat.not_lt_zero _))
    rw [Nat.zero_mul] at hM
    have hM2 : Gq _ _ (f_M_readBmp_L499 K (nI n) (nI w) (nI h) (nI d) (nI c) TM pM x7 K (nI st) ptsM 0) := hM
    by_cases ok : st + rbt w d * h = n ∧ rxs t st d w c h
    · obtain ⟨D', hD', rD⟩ := hD.1 ok
      obtain ⟨M', hM', rM⟩ := hM2.1 ⟨by omega, ok.2⟩
      unfold f_Source_left
      rw [hD', q_tryL, hM', q_tryL, q_bind, ok.1, pk_sub (show n ≤ n by omega), Nat.sub_self, if_pos (show nI 0 = 0 from rfl), if_pos (show nI n = nI n from rfl), need1, can1, q_tryL, q_tryL]
      exact Lk.yes ⟨w, h, D', M', ⟨hw0, hhp, hbig, Rd_agr hw0 hpal ok.2 rD rM⟩, rfl, rfl, rfl, rfl, rfl, rfl⟩
    · obtain ⟨u, hu⟩ := hD.2 ok
      rw [hu, q_tryR]
      refine Lk.no ⟨_, rfl⟩ ?_
      by_cases ok2 : st + rbt w d * h ≤ n ∧ rxs t st d w c h
      · obtain ⟨M', hM', rM⟩ := hM2.1 ok2
        rw [hM', q_tryL, if_neg (show ¬ nI (st + rbt w d * h) = nI n from fun e => ok ⟨(nI_eq32 (by omega) (by omega)).mp e, ok2.2⟩), can0, q_tryR]
        exact ⟨_, rfl⟩
      · obtain ⟨u, hu⟩ := hM2.2 ok2
        rw [hu, q_tryR]
        exact ⟨_, rfl⟩
  · rw [if_neg (show ¬ nI 1 = 0 by decide), if_pos (show lg_cmp (lN 1) 1 = 0 by decide)]
    refine Lk.try (runs_ok (K := K) (by omega) hn ht htM hpal hc (hc0 (by omega)) hbig hw0 hhp (show st ≤ n by omega) ptsD ptsM t_column t_line) (fun u => ⟨_, rfl⟩) (fun u => ⟨_, rfl⟩) (fun x y hxy => ?_)
    obtain ⟨col', line', p', D', M', rfl, rfl, hp', hA⟩ := hxy
    unfold f_Source_left
    rw [q_bind, pk_sub hp']
    by_cases e : p' = n
    · rw [if_pos (show nI (n - p') = 0 by rw [e, Nat.sub_self]; rfl), if_pos (show nI p' = nI n by rw [e]), need1, can1, q_tryL, q_tryL]
      exact Lk.yes ⟨w, h, D', M', ⟨hw0, hhp, hbig, hA⟩, rfl, rfl, rfl, rfl, rfl, rfl⟩
    · rw [if_neg (show ¬ nI (n - p') = 0 from nI_ne0 (by omega) (by omega)), if_neg (show ¬ nI p' = nI n from fun q => e ((nI_eq32 (by omega) (by omega)).mp q)), need0, can0, q_tryR, q_tryR]
      exact Lk.no ⟨_, rfl⟩ ⟨_, rfl⟩
