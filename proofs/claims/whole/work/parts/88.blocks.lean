/-! the pure half: the blocks of DEFLATE -/
def RU2 (g m due : Nat) (dat : Nat → Nat) {α β : Type} (x : Int32 × (Nat → Int32) × Int32 × Int32 × Int32 × α) (y : Int32 × Int32 × (Nat → Int32) × β) : Prop := ∃ made b, x.1 = nI made ∧ y.2.1 = nI made ∧ y.1 = nI b ∧ made ≤ due ∧ Agr made x.2.1 y.2.2.1 ∧ Bq g m dat b x.2.2.1 x.2.2.2.1 x.2.2.2.2.1
theorem infl_L {K g m due : Nat} (hK : 600000 < K) {T D : Nat → Int32} {dat : Nat → Nat} (ht : Dt g m T dat) (hd : Dt 0 m D dat) (hg : g + m ≤ 65536) (hdue : due ≤ 147456) {t_width : Int32} {t_height : Int32} {t_depth : Int32} {t_kind : Int32} {t_interlace : Int32} : ∀ (r b made cnt qD qM : Nat) (ls : Bool) (A S H : Int32) (out RO len : Nat → Int32) (lu lw : Int32) (lc lp lm : Nat → Int32) (du dw : Int32) (dc dp dm : Nat → Int32) (cu cw : Int32) (cc cp cm : Nat → Int32) (Mlen : Nat → Int32) (Ma1 : Int32) (Mc1 Mm1 : Nat → Int32) (Ma2 : Int32) (Mc2 Mm2 : Nat → Int32) (Ma3 : Int32) (Mc3 Mm3 : Nat → Int32), 8 * m - b ≤ r → r < qD → r < qM → cnt ≤ b → made ≤ due → Agr made out RO → Bq g m dat b A S H → Lk (fun x y => RU2 g m due dat x y ∧ x.2.2.2.2.2.2.2.2.2.2.2.2.2.2.2.2.2.2.2.2.2 = 1) (f_Inflater_unpack_L35 K 288 32 19 (nI due) (nI (g + m)) T qD (nI made) out A S H len lu lw lc lp lm du dw dc dp dm cu cw cc cp cm (b2 ls) (nI cnt)) (f_M_inflate_L109 K t_width t_height t_depth t_kind t_interlace (nI m) (nI due) D qM (nI b) (nI made) RO Mlen Ma1 Mc1 Mm1 Ma2 Mc2 Mm2 Ma3 Mc3 Mm3 (b2 ls)) := by
  intro r
  induction r using Nat.strongRecOn with
  | _ r ih =>
    intro b made cnt qD qM ls A S H out RO len lu lw lc lp lm du dw dc dp dm cu cw cc cp cm Mlen Ma1 Mc1 Mm1 Ma2 Mc2 Mm2 Ma3 Mc3 Mm3 hr hqD hqM hcnt hmd hA hq
    obtain ⟨qD, rfl⟩ : ∃ w, qD = w + 1 := ⟨qD - 1, by omega⟩
    obtain ⟨qM, rfl⟩ : ∃ w, qM = w + 1 := ⟨qM - 1, by omega⟩
    have hb := hq.le
    show Lk _ (f_Inflater_unpack_35 K 288 32 19 _ (nI made) (nI due) out A (nI (g + m)) S H T len lu lw lc lp lm du dw dc dp dm cu cw cc cp cm (b2 ls) (nI cnt)) (f_M_inflate_109 K _ t_width t_height t_depth t_kind t_interlace (nI m) (nI b) (nI made) (nI due) D RO Mlen Ma1 Mc1 Mm1 Ma2 Mc2 Mm2 Ma3 Mc3 Mm3 (b2 ls))
    unfold f_Inflater_unpack_35 f_M_inflate_109
    cases ls
    rotate_left
    · rw [if_neg (show ¬ b2 true = 0 by decide), if_neg (show ¬ b2 true = 0 by decide)]
      exact Lk.yes ⟨⟨made, b, rfl, rfl, rfl, hmd, hA, hq⟩, rfl⟩
    rw [if_pos (show b2 false = 0 from rfl), if_pos (show b2 false = 0 from rfl), if_neg (show ¬ (1000000 : Int32) ≤ nI cnt from nI_ge (b := 1000000) (by omega) (by omega))]
    refine Lk.try (bits_lk (K := K) (x := 1) (by omega) ht hd hg (by omega) hq) (fun u => ⟨_, rfl⟩) (fun u => ⟨_, rfl⟩) (fun x y hxy => ?_)
    obtain ⟨A1, S1, H1, rfl, rfl, hq1⟩ := hxy
    dsimp only
    have hgo : ∀ (b' made' : Nat) (ls : Bool) (A S H : Int32) (out RO len : Nat → Int32) (lu lw : Int32) (lc lp lm : Nat → Int32) (du dw : Int32) (dc dp dm : Nat → Int32) (cu cw : Int32) (cc cp cm : Nat → Int32) (Mlen : Nat → Int32) (Ma1 : Int32) (Mc1 Mm1 : Nat → Int32) (Ma2 : Int32) (Mc2 Mm2 : Nat → Int32) (Ma3 : Int32) (Mc3 Mm3 : Nat → Int32), b < b' → made' ≤ due → Agr made' out RO → Bq g m dat b' A S H → Lk (fun x y => RU2 g m due dat x y ∧ x.2.2.2.2.2.2.2.2.2.2.2.2.2.2.2.2.2.2.2.2.2 = 1) (f_Inflater_unpack_L35 K 288 32 19 (nI due) (nI (g + m)) T qD (nI made') out A S H len lu lw lc lp lm du dw dc dp dm cu cw cc cp cm (b2 ls) (nI cnt + 1)) (f_M_inflate_L109 K t_width t_height t_depth t_kind t_interlace (nI m) (nI due) D qM (nI b') (nI made') RO Mlen Ma1 Mc1 Mm1 Ma2 Mc2 Mm2 Ma3 Mc3 Mm3 (b2 ls)) := by
      intro b' made' ls A S H out RO len lu lw lc lp lm du dw dc dp dm cu cw cc cp cm Mlen Ma1 Mc1 Mm1 Ma2 Mc2 Mm2 Ma3 Mc3 Mm3 k1 k2 k3 k4
      have := k4.le
      rw [nI_1]
      exact ih (8 * m - b') (by omega) b' made' (cnt + 1) qD qM ls A S H out RO len lu lw lc lp lm du dw dc dp dm cu cw cc cp cm Mlen Ma1 Mc1 Mm1 Ma2 Mc2 Mm2 Ma3 Mc3 Mm3 (by omega) (by omega) (by omega) (by omega) k2 k3 k4
    have h62 : ∀ (ls : Bool), Lk (fun x y => RU2 g m due dat x y ∧ x.2.2.2.2.2.2.2.2.2.2.2.2.2.2.2.2.2.2.2.2.2 = 1) (f_Inflater_unpack_62 K 288 32 19 ((f_Inflater_unpack_L35 K 288 32 19 (nI due) (nI (g + m)) T) qD) (nI made) (nI due) out A1 (nI (g + m)) S1 H1 T len lu lw lc lp lm du dw dc dp dm cu cw cc cp cm (nI cnt) (b2 ls)) (f_M_inflate_127 K ((f_M_inflate_L109 K t_width t_height t_depth t_kind t_interlace (nI m) (nI due) D) qM) t_width t_height t_depth t_kind t_interlace (nI m) (nI (b + 1)) (nI made) (nI due) D RO Mlen Ma1 Mc1 Mm1 Ma2 Mc2 Mm2 Ma3 Mc3 Mm3 (b2 ls)) := by
      intro ls
      unfold f_Inflater_unpack_62 f_M_inflate_127
      refine Lk.try (bits_lk (K := K) (x := 2) (by omega) ht hd hg (by omega) hq1) (fun u => ⟨_, rfl⟩) (fun u => ⟨_, rfl⟩) (fun x y hxy => ?_)
      obtain ⟨A2, S2, H2, rfl, rfl, hq2⟩ := hxy
      have hw := vN_lt dat (b + 1) 2
      generalize vN dat (b + 1) 2 = w at hw ⊢
      dsimp only
      unfold f_Inflater_unpack_84 f_M_inflate_147
      by_cases c3 : 2 < w
      · rw [if_pos (show (2 : Int32) < nI w from nI_lt (a := 2) c3 (by omega)), if_pos (show (3 : Int32) ≤ nI w from nI_le (a := 3) (by omega) (by omega)), need0, can0, q_tryR, q_tryR]
        exact Lk.no ⟨_, rfl⟩ ⟨_, rfl⟩
      rw [if_neg (show ¬ (2 : Int32) < nI w from nI_nlt (a := 2) (by omega) (by omega)), if_neg (show ¬ (3 : Int32) ≤ nI w from nI_ge (b := 3) (by omega) (by omega)), need1, can1, q_tryL, q_tryL]
      unfold f_Inflater_unpack_116 f_Inflater_unpack_120 f_M_inflate_250
      by_cases e0 : w = 0
      · subst e0
        rw [if_pos (show nI 0 = 0 from rfl), if_pos (show nI 0 = 0 from rfl)]
        unfold f_Inflater_takeStored f_Source_dropBits
        obtain ⟨a, rfl, e8, ha, hba⟩ := up8 (by omega) hq2
        rw [q_bind, e8, try_try]
        refine Lk.try (lit2_lk (by omega) ht hd hg ha) (fun u => ⟨_, rfl⟩) (fun u => ⟨_, rfl⟩) (fun x y hxy => ?_)
        obtain ⟨n, hn, rfl, rfl, h1⟩ := hxy
        dsimp only
        rw [try_try]
        refine Lk.try (lit2_lk (by omega) ht hd hg h1) (fun u => ⟨_, rfl⟩) (fun u => ⟨_, rfl⟩) (fun x y hxy => ?_)
        obtain ⟨n', -, rfl, rfl, h2⟩ := hxy
        dsimp only
        unfold f_Inflater_takeStored_34 f_M_inflate_201 f_Inflater_takeStored_55
        by_cases e5 : nI n' = 65535 - nI n
        rotate_left
        · rw [if_neg e5, if_neg e5, need0, can0, q_tryR, q_tryR, q_tryR]
          exact Lk.no ⟨_, rfl⟩ ⟨_, rfl⟩
        rw [if_pos e5, if_pos e5, need1, can1, q_tryL, q_tryL, pk_sub hmd]
        by_cases c4 : made + n ≤ due
        · rw [if_neg (nI_nlt (by omega) (by omega)), q_tryL, bind_elim, bind_elim, try_try]
          refine Lk.try (store_L (K := K) (a := a + 2 + 2) (by omega) ht hd hg hdue c4 hn n 0 K K out RO (by omega) (by omega) (by omega) (by omega) hA) (fun u => ⟨_, rfl⟩) (fun u => ⟨_, rfl⟩) (fun x y hxy => ?_)
          obtain ⟨out', RO', rfl, rfl, h3, h4⟩ := hxy
          rw [q_tryL]
          exact hgo (8 * (a + 2 + 2 + n)) (made + n) ls _ _ _ out' RO' _ _ _ _ _ _ _ _ _ _ _ _ _ _ _ _ _ _ _ _ _ _ _ _ _ _ (by omega) c4 h4 (Bq.at dat h3)
        · rw [if_pos (nI_lt (by omega) (by omega)), need0, q_tryR, q_tryR, q_tryL, bind_elim]
          obtain ⟨u, hu⟩ := store_no (K := K) (made := made) (n := n) (by omega) hd (by omega) hdue (by omega) hn (t_width := t_width) (t_height := t_height) (t_depth := t_depth) (t_kind := t_kind) (t_interlace := t_interlace) (a_t_lengths := Mlen) (t_literals_all := Ma1) (a_t_literals_counts := Mc1) (a_t_literals_meanings := Mm1) (t_distances_all := Ma2) (a_t_distances_counts := Mc2) (a_t_distances_meanings := Mm2) (t_lengthCodes_all := Ma3) (a_t_lengthCodes_counts := Mc3) (a_t_lengthCodes_meanings := Mm3) (x3 := b2 ls) n 0 (8 * (a + 2 + 2)) K RO (by omega) (by omega) (by omega) hmd
          have hu2 : (f_M_inflate_L207 K t_width t_height t_depth t_kind t_interlace (nI m) (nI due) D Mlen Ma1 Mc1 Mm1 Ma2 Mc2 Mm2 Ma3 Mc3 Mm3 (b2 ls) (nI n) K (nI (8 * (a + 2 + 2))) (nI made) RO 0) = _ := hu
          rw [hu2, q_tryR]
          exact Lk.no ⟨_, rfl⟩ ⟨_, rfl⟩
      have n0 : ¬ nI w = 0 := nI_ne0 (by omega) (by omega)
      rw [if_neg n0, if_neg n0]
      by_cases e1 : w = 1
      · subst e1
        rw [if_pos (show nI 1 = 1 from rfl), if_pos (show nI 1 = 1 from rfl)]
        obtain ⟨len', u1, w1, C1, P1, M1, u2, w2, C2, P2, M2, eD, hc1, hc2⟩ := fixed_D (K := K) (Nl := 288) (Nd := 32) (by omega) (by omega) (by omega) (by omega) (by omega) (a_t_lengths := len) (t_literals_used := lu) (t_literals_unusedWords := lw) (a_t_literals_counts := lc) (a_t_literals_places := lp) (a_t_literals_meanings := lm) (t_distances_used := du) (t_distances_unusedWords := dw) (a_t_distances_counts := dc) (a_t_distances_places := dp) (a_t_distances_meanings := dm)
        obtain ⟨len2, v1, D1, N1, v2, D2, N2, eM, hd1, hd2⟩ := fixed_M (K := K) (by omega) (a_t_lengths := Mlen) (t_literals_all := Ma1) (a_t_literals_counts := Mc1) (a_t_literals_meanings := Mm1) (t_distances_all := Ma2) (a_t_distances_counts := Mc2) (a_t_distances_meanings := Mm2)
        rw [eD, eM, q_tryL, q_bind]
        dsimp only
        refine Lk.try (coded_ok hK ht hd hg (by omega) (by omega) (by omega) (by omega) (by omega) (by omega) hc1 hd1 hc2 hd2 hdue hmd hA hq2) (fun u => ⟨_, rfl⟩) (fun u => ⟨_, rfl⟩) (fun x y hxy => ?_)
        obtain ⟨made', b', A', S', H', out', RO', f1, f2, f3, f4, f5, f6⟩ := hxy
        rw [f1, f2]
        exact hgo b' made' ls _ _ _ out' RO' _ _ _ _ _ _ _ _ _ _ _ _ _ _ _ _ _ _ _ _ _ _ _ _ _ _ (by omega) f3 f5 f6
      have n1 : ¬ nI w = 1 := fun q => e1 ((nI_eq32 (b := 1) (by omega) (by omega)).mp q)
      rw [if_neg n1, if_neg n1]
      refine Lk.try (codes_ok (by omega) ht hd hg (by omega) (by omega) (by omega) (by omega) (by omega) (by omega) hq2) (fun u => ⟨_, rfl⟩) (fun u => ⟨_, rfl⟩) (fun x y hxy => ?_)
      obtain ⟨b3, L, Ld, l, d, g1, g2, g3, g4, g5, g6, g7, g8', g9⟩ := hxy
      rw [g1]
      refine Lk.try (coded_ok hK ht hd hg (by omega) (by omega) (by omega) (by omega) (by omega) (by omega) g6 g7 g8' g9 hdue hmd hA g3) (fun u => ⟨_, rfl⟩) (fun u => ⟨_, rfl⟩) (fun x y hxy => ?_)
      obtain ⟨made', b', A', S', H', out', RO', f1, f2, f3, f4, f5, f6⟩ := hxy
      rw [f1, f2]
      exact hgo b' made' ls _ _ _ out' RO' _ _ _ _ _ _ _ _ _ _ _ _ _ _ _ _ _ _ _ _ _ _ _ _ _ _ (by omega) f3 f5 f6
    by_cases e1 : nI (vN dat b 1) = 1
    · rw [if_pos e1, if_pos e1]
      exact h62 true
    · rw [if_neg e1, if_neg e1]
      exact h62 false
