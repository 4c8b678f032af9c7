/-! the pure half: a block of codes -/
theorem copy_tail {K g m n Nd made due b c lv len : Nat} (hK : 600000 < K) {T D CD MD CM MM LC LM out RO : Nat → Int32} {dat L : Nat → Nat} (ht : Dt g m T dat) (hd : Dt 0 m D dat) (hg : g + m ≤ 65536) (hn : n ≤ 320) (hN : n ≤ Nd) (hN2 : Nd < 2 ^ 20) (hcD : Cd L n CD MD) (hcM : Cd L n CM MM) {A S H : Int32} (hq : Bq g m dat b A S H) (hmd : made ≤ due) (hdue : due ≤ 147456) (hA : Agr made out RO) (hl : tab_Inflater_LENGTH_BASE (nI c).toNatClampNeg + nI lv = nI len) (h3 : 3 ≤ len) (h258 : len ≤ 258) {β β2 δ : Type} {F : Unit × (Int32 × Int32 × Int32 × Int32 × (Nat → Int32)) → Option (β ⊕ (β2 ⊕ (Nat × δ)))} {G : Nat × (Int32 × Int32 × Int32 × Int32 × (Nat → Int32)) → Option (β ⊕ (β2 ⊕ (Nat × δ)))} {rec : Int32 → Int32 → (Nat → Int32) → Option (((Int32 × Int32 × (Nat → Int32)) ⊕ (Nat × (Int32 × Int32 × (Nat → Int32)))))} {R' : β → (Int32 × Int32 × (Nat → Int32)) → Prop} (hG : ∀ u, ∃ u', G (3, u) = some (.inr (.inr (3, u')))) (hF : ∀ (made' b' : Nat) (A' S' H' : Int32) (out' RO' : Nat → Int32), made < made' → made' ≤ due → b < b' → Agr made' out' RO' → Bq g m dat b' A' S' H' → Lj R' (F ((), nI made', A', S', H', out')) (rec (nI b') (nI made') RO')) : Lj R' (dc_try ((fun r_34 => dc_try (f_Codes_take K Nd r_34.2.1 (nI (g + m)) r_34.2.2.1 r_34.2.2.2 T CD MD) (fun r_47 => (if 30 ≤ r_47.1 then (f_Inflater_takeCopy_64 K Nd (nI made) (nI due) r_47.2.1 (nI (g + m)) r_47.2.2.1 r_47.2.2.2 T CD MD out ((tab_Inflater_LENGTH_BASE ((nI c) : Int32).toNatClampNeg) + r_34.1) r_47.1 0) else (f_Inflater_takeCopy_64 K Nd (nI made) (nI due) r_47.2.1 (nI (g + m)) r_47.2.2.1 r_47.2.2.2 T CD MD out ((tab_Inflater_LENGTH_BASE ((nI c) : Int32).toNatClampNeg) + r_34.1) r_47.1 1))) (fun r_47 => some (.inr (r_47.1, ((nI made), r_47.2.1, r_47.2.2.1, r_47.2.2.2, out))))) (nI lv, A, S, H)) F G) (f_M_block_97 K rec (nI m) (nI b) (nI made) (nI due) D LC LM RO CM MM (nI len)) := by
  dsimp only
  unfold f_M_block_97
  rw [try_try]
  refine Lj.try (take_lk (by omega) ht hd hg hn hN hN2 hcD hcM hq) (fun u => hG _) (fun u => ⟨_, rfl⟩) (fun x y hxy => ?_)
  obtain ⟨v, b', A', S', H', v1, v2, rfl, rfl, hq'⟩ := hxy
  dsimp only
  unfold f_Inflater_takeCopy_64 f_M_block_119
  by_cases c30 : 30 ≤ v
  · rw [if_pos (show (30 : Int32) ≤ nI v from nI_le (a := 30) c30 (by omega)), if_pos (show (30 : Int32) ≤ nI v from nI_le (a := 30) c30 (by omega)), need0, can0, q_tryR, q_tryR, q_tryR]
    exact Or.inl ⟨hG _, ⟨_, rfl⟩⟩
  have n30 : ¬ (30 : Int32) ≤ nI v := nI_ge (b := 30) (by omega) (by omega)
  have td := tab_d v (by omega)
  have dp := dbs_pos v (by omega)
  have hL : (f_M_block_L128 K (nI m) (nI b') (nI made) (nI due) D LC LM RO CM MM (nI len) (nI v) K 1 0) = _ := dist_L (K := K) (c := v) (by omega) v 0 K (by omega) (by omega)
  rw [if_neg n30, if_neg n30, need1, can1, q_tryL, q_tryL, if_pos (q_inb (by omega) (by omega)), if_pos (q_inb (by omega) (by omega)), nI_clamp (by omega), td.1, td.2.1, dbi_eq v (by omega), hL, q_bind, (dbN_ok v (by omega)).1, q_bind, try_try]
  refine Lj.try (bits_lk (K := K) (x := dbN v) (by omega) ht hd hg (by omega) hq') (fun u => hG _) (fun u => ⟨_, rfl⟩) (fun x y hxy => ?_)
  obtain ⟨A2, S2, H2, rfl, rfl, hq2⟩ := hxy
  have hw := vN_lt dat b' (dbN v)
  generalize vN dat b' (dbN v) = w at hw ⊢
  dsimp only
  rw [nI_add, hl]
  generalize hdd : dbs.getD v 0 + w = dd
  have hd1 : 1 ≤ dd := by omega
  have hd2 : dd ≤ 32768 := by omega
  unfold f_Inflater_takeCopy_113 f_Inflater_takeCopy_114 f_M_block_187 f_M_block_188
  rw [if_neg (show ¬ (32768 : Int32) < nI dd from show ¬ nI 32768 < nI dd from nI_nlt (by omega) (by omega))]
  by_cases c1 : made < dd
  · rw [if_pos (nI_lt c1 (by omega)), if_pos (nI_lt c1 (by omega)), need0, can0, q_tryR, q_tryR, q_tryR]
    exact Or.inl ⟨hG _, ⟨_, rfl⟩⟩
  have n1 : ¬ nI made < nI dd := nI_nlt (by omega) (by omega)
  rw [if_neg n1, if_neg n1, pk_sub hmd, can1, q_tryL, bind_elim]
  have hM := copyM_L (K := K) (f := RO) (len := len) hd1 (show dd ≤ made by omega) hmd hdue h258 (t_dataSize := nI m) (t_bitAt := nI (b' + dbN v)) (a_t_data := D) (a_t_literals_counts := LC) (a_t_literals_meanings := LM) (a_t_distances_counts := CM) (a_t_distances_meanings := MM) len 0 K (by omega) (by omega) (by omega)
  have hM2 : Ex _ _ (f_M_block_L194 K (nI m) (nI (b' + dbN v)) (nI due) D LC LM CM MM (nI len) (nI dd) K (nI made) RO 0) := hM
  by_cases c2 : made + len ≤ due
  · have hD : (f_Inflater_takeCopy_L120 K Nd (nI due) A2 (nI (g + m)) S2 H2 T CD MD (nI len) (nI dd) K (nI made) out 0) = _ := copyD_L (K := K) (f := out) hd1 (show dd ≤ made by omega) (show made + len ≤ 147456 by omega) len 0 K (by omega) (by omega)
    rw [if_neg (nI_nlt (by omega) (by omega)), need1, q_tryL, hD, q_bind, q_tryL, hM2.1 c2, q_tryL]
    exact hF (made + len) (b' + dbN v) A2 S2 H2 _ _ (by omega) c2 (by omega) (cpF_agr hA hd1 (by omega) len) hq2
  · obtain ⟨u, hu⟩ := hM2.2 c2
    rw [if_pos (nI_lt (by omega) (by omega)), need0, q_tryR, q_tryR, hu, q_tryR]
    exact Or.inl ⟨hG _, ⟨_, rfl⟩⟩
def RB (g m due : Nat) (dat : Nat → Nat) (b : Nat) (x : Int32 × Int32 × Int32 × Int32 × (Nat → Int32)) (y : Int32 × Int32 × (Nat → Int32)) : Prop := ∃ (made' b' : Nat) (A' S' H' : Int32) (out' RO' : Nat → Int32), x = (nI made', A', S', H', out') ∧ y = (nI b', nI made', RO') ∧ made' ≤ due ∧ b < b' ∧ Agr made' out' RO' ∧ Bq g m dat b' A' S' H'
theorem coded_L {K g m nl nd Nl Nd due : Nat} (hK : 600000 < K) {T D CD MD CM MM LC LM LCD LMD : Nat → Int32} {dat LL Ld : Nat → Nat} (ht : Dt g m T dat) (hd : Dt 0 m D dat) (hg : g + m ≤ 65536) (hnl : nl ≤ 288) (hNl : nl ≤ Nl) (hNl2 : Nl < 2 ^ 20) (hnd : nd ≤ 320) (hNd : nd ≤ Nd) (hNd2 : Nd < 2 ^ 20) (hlD : Cd LL nl LCD LMD) (hlM : Cd LL nl LC LM) (hcD : Cd Ld nd CD MD) (hcM : Cd Ld nd CM MM) (hdue : due ≤ 147456) : ∀ (r b made rounds qD qM : Nat) (A S H : Int32) (out RO : Nat → Int32), 8 * m - b ≤ r → r < qD → r < qM → rounds ≤ made → made ≤ due → Agr made out RO → Bq g m dat b A S H → Lj (RB g m due dat b) (f_Inflater_takeCoded_L2 K Nl Nd (nI due) (nI (g + m)) T LCD LMD CD MD qD (nI made) A S H out (nI rounds)) (f_M_block_L0 K (nI m) (nI due) D LC LM CM MM qM (nI b) (nI made) RO) := by
  intro r
  induction r using Nat.strongRecOn with
  | _ r ih =>
    intro b made rounds qD qM A S H out RO hr hqD hqM hrd hmd hA hq
    obtain ⟨qD, rfl⟩ : ∃ w, qD = w + 1 := ⟨qD - 1, by omega⟩
    obtain ⟨qM, rfl⟩ : ∃ w, qM = w + 1 := ⟨qM - 1, by omega⟩
    show Lj _ (f_Inflater_takeCoded_2 K Nl Nd _ (nI made) (nI due) A (nI (g + m)) S H T LCD LMD out CD MD (nI rounds)) (f_M_block_0 K _ (nI m) (nI b) (nI made) (nI due) D LC LM RO CM MM)
    unfold f_Inflater_takeCoded_2 f_M_block_0
    rw [if_neg (nI_nlt (by omega) (by omega))]
    refine Lj.try (take_lk (by omega) ht hd hg (by omega) hNl hNl2 hlD hlM hq) (fun u => ⟨_, rfl⟩) (fun u => ⟨_, rfl⟩) (fun x y hxy => ?_)
    obtain ⟨v, b1, A1, S1, H1, v1, v2, rfl, rfl, hq1⟩ := hxy
    have hb1 := hq1.le
    dsimp only
    unfold f_Inflater_takeCoded_53 f_Inflater_takeCoded_89
    have hgo : ∀ (made' b' : Nat) (A' S' H' : Int32) (out' RO' : Nat → Int32), made < made' → made' ≤ due → b1 ≤ b' → Agr made' out' RO' → Bq g m dat b' A' S' H' → Lj (RB g m due dat b) (f_Inflater_takeCoded_L2 K Nl Nd (nI due) (nI (g + m)) T LCD LMD CD MD qD (nI made') A' S' H' out' (nI rounds + 1)) (f_M_block_L0 K (nI m) (nI due) D LC LM CM MM qM (nI b') (nI made') RO') := by
      intro made' b' A' S' H' out' RO' k1 k2 k3 k4 k5
      have hb' := k5.le
      rw [nI_1]
      have h := ih (8 * m - b') (by omega) b' made' (rounds + 1) qD qM A' S' H' out' RO' (by omega) (by omega) (by omega) (by omega) k2 k4 k5
      rcases h with h | ⟨x, y, e1, e2, m2, b2, A2, S2, H2, o2, r2, f1, f2, f3, f4, f5⟩
      · exact Or.inl h
      · exact Or.inr ⟨x, y, e1, e2, m2, b2, A2, S2, H2, o2, r2, f1, f2, f3, by omega, f5⟩
    by_cases c256 : v = 256
    · subst c256
      rw [if_pos (show nI 256 = 256 from rfl), if_pos (show (256 : Int32) ≤ nI 256 by decide), if_pos (show nI 256 = 256 from rfl)]
      exact Or.inr ⟨_, _, rfl, rfl, made, b1, A1, S1, H1, out, RO, rfl, rfl, hmd, v2, hA, hq1⟩
    have n256 : ¬ nI v = 256 := fun q => c256 ((nI_eq32 (b := 256) (by omega) (by omega)).mp q)
    rw [if_neg n256, if_neg n256]
    by_cases cl : v < 256
    · have nl256 : ¬ (256 : Int32) ≤ nI v := nI_ge (b := 256) cl (by omega)
      rw [if_neg nl256, if_neg nl256]
      have hgv := giveM_ex hmd hdue (nI v) RO
      by_cases cm : made < due
      · rw [if_neg (nI_ge cm (by omega)), need1, q_tryL, if_pos (q_inb (by omega) (by omega)), nI_clamp (by omega), hgv.1 cm, q_tryL, q_by2, nI_1]
        refine hgo (made + 1) b1 A1 S1 H1 _ _ (by omega) (by omega) (by omega) (fun j hj => ?_) hq1
        show upd _ _ _ j = upd _ _ _ j
        by_cases e : j = made
        · rw [e, upd_at, upd_at]
        · rw [upd_ne _ _ e, upd_ne _ _ e]
          exact hA j (by omega)
      · obtain ⟨u, hu⟩ := hgv.2 cm
        rw [if_pos (nI_le (by omega) (by omega)), need0, q_tryR, hu, q_tryR]
        exact Or.inl ⟨⟨_, rfl⟩, ⟨_, rfl⟩⟩
    have g256 : (256 : Int32) ≤ nI v := nI_le (a := 256) (by omega) (by omega)
    rw [if_pos g256, if_pos g256, show nI v - 257 = nI (v - 257) from pk_sub (b := 257) (by omega)]
    unfold f_Inflater_takeCopy f_Inflater_takeCopy_16
    rw [if_neg (nI_pos (by omega))]
    by_cases c286 : 286 ≤ v
    · unfold f_Inflater_takeCopy_17 f_M_block_45
      rw [if_pos (show (29 : Int32) ≤ nI (v - 257) from nI_le (a := 29) (by omega) (by omega)), if_pos (show (286 : Int32) ≤ nI v from nI_le (a := 286) c286 (by omega)), need0, can0, q_tryR, q_tryR, q_tryR]
      exact Or.inl ⟨⟨_, rfl⟩, ⟨_, rfl⟩⟩
    rw [if_neg (show ¬ (29 : Int32) ≤ nI (v - 257) from nI_ge (b := 29) (by omega) (by omega)), if_neg (show ¬ (286 : Int32) ≤ nI v from nI_ge (b := 286) (by omega) (by omega))]
    unfold f_Inflater_takeCopy_17 f_M_block_45
    obtain ⟨c, rfl⟩ : ∃ c, v = 257 + c := ⟨v - 257, by omega⟩
    have tl := tab_l c (by omega)
    have lp := lbs_le c (by omega)
    have lo := lbN_ok (257 + c) (by omega)
    rw [need1, can1, q_tryL, q_tryL, show 257 + c - 257 = c by omega, if_pos (q_inb (by omega) (by omega)), if_pos (q_inb (by omega) (by omega)), try_try]
    have eB : tab_Inflater_LENGTH_BITS (nI c).toNatClampNeg = nI (lbN (257 + c)) := by
      rw [nI_clamp (by omega), tl.2.1, lbi_eq c (by omega)]
    have eL : tab_Inflater_LENGTH_BASE (nI c).toNatClampNeg = nI (lbs.getD c 0) := by
      rw [nI_clamp (by omega), tl.1]
    rw [eB]
    by_cases c285 : c = 28
    · obtain ⟨z, hz⟩ := len_28 (K := K) (t_dataSize := nI m) (t_bitAt := nI b1) (t_rowBytes := nI made) (t_expected := nI due) (a_t_data := D) (a_t_literals_counts := LC) (a_t_literals_meanings := LM) (a_t_rows := RO) (a_t_distances_counts := CM) (a_t_distances_meanings := MM) 28 0 K 3 (by omega) (by omega)
      have hz2 : (f_M_block_L54 K (nI m) (nI b1) (nI made) (nI due) D LC LM RO CM MM (nI (257 + c)) K 3 257) = some z := by
        rw [c285]
        exact hz
      rw [hz2, q_bind, if_pos (show nI (257 + c) = 285 by rw [c285]; rfl)]
      have e0 : lbN (257 + c) = 0 := by rw [c285]; rfl
      rw [e0]
      obtain ⟨a, held, rfl, rfl, rfl, k1, k2, k3⟩ := hq1
      obtain ⟨w, hw, w1, w2, w3⟩ := (bitsD (K := K) (x := 0) (by omega) ht hg (by omega) k1 k2 k3).1 (by omega)
      rw [hw, q_tryL]
      refine copy_tail (c := c) (lv := vN dat b1 0) (len := 258) hK ht hd hg hnd hNd hNd2 hcD hcM (b := b1) ⟨w.1, w.2, rfl, rfl, rfl, by omega, w2, w3⟩ hmd hdue hA ?_ (by omega) (by omega) (fun u => ⟨_, rfl⟩) (fun made' b' A' S' H' out' RO' f1 f2 f3 f4 f5 => hgo made' b' A' S' H' out' RO' f1 f2 (by omega) f4 f5)
      rw [eL, c285]
      rfl
    · have hz : (f_M_block_L54 K (nI m) (nI b1) (nI made) (nI due) D LC LM RO CM MM (nI (257 + c)) K 3 257) = _ := len_L (K := K) (c := c) (by omega) c 0 K (by omega) (by omega)
      rw [hz, q_bind, if_neg (show ¬ nI (257 + c) = 285 from fun q => c285 (by have := (nI_eq32 (b := 285) (by omega) (by omega)).mp q; omega)), lo.1, q_bind]
      refine Lj.try (bits_lk (K := K) (x := lbN (257 + c)) (by omega) ht hd hg (by omega) hq1) (fun u => ⟨_, rfl⟩) (fun u => ⟨_, rfl⟩) (fun x y hxy => ?_)
      obtain ⟨A2, S2, H2, rfl, rfl, hq2⟩ := hxy
      have hw := vN_lt dat b1 (lbN (257 + c))
      generalize vN dat b1 (lbN (257 + c)) = w at hw ⊢
      rw [nI_add]
      refine copy_tail (c := c) (lv := w) (len := lbs.getD c 0 + w) hK ht hd hg hnd hNd hNd2 hcD hcM hq2 hmd hdue hA ?_ (by omega) (by omega) (fun u => ⟨_, rfl⟩) (fun made' b' A' S' H' out' RO' f1 f2 f3 f4 f5 => hgo made' b' A' S' H' out' RO' f1 f2 (by omega) f4 f5)
      rw [eL, nI_add]
theorem coded_ok {K g m nl nd Nl Nd due b made : Nat} (hK : 600000 < K) {T D CD MD CM MM LC LM LCD LMD out RO : Nat → Int32} {dat LL Ld : Nat → Nat} (ht : Dt g m T dat) (hd : Dt 0 m D dat) (hg : g + m ≤ 65536) (hnl : nl ≤ 288) (hNl : nl ≤ Nl) (hNl2 : Nl < 2 ^ 20) (hnd : nd ≤ 320) (hNd : nd ≤ Nd) (hNd2 : Nd < 2 ^ 20) (hlD : Cd LL nl LCD LMD) (hlM : Cd LL nl LC LM) (hcD : Cd Ld nd CD MD) (hcM : Cd Ld nd CM MM) (hdue : due ≤ 147456) (hmd : made ≤ due) (hA : Agr made out RO) {A S H : Int32} (hq : Bq g m dat b A S H) : Lk (fun x y => RB g m due dat b x.2 y.2) (f_Inflater_takeCoded K Nl Nd (nI made) (nI due) A (nI (g + m)) S H T LCD LMD out CD MD) (f_M_block K (nI m) (nI b) (nI made) (nI due) D LC LM RO CM MM) := by
  have hb := hq.le
  have h := coded_L hK ht hd hg hnl hNl hNl2 hnd hNd hNd2 hlD hlM hcD hcM hdue (8 * m) b made 0 K K A S H out RO (by omega) (by omega) (by omega) (by omega) hmd hA hq
  have h2 : Lj _ (f_Inflater_takeCoded_L2 K Nl Nd (nI due) (nI (g + m)) T LCD LMD CD MD K (nI made) A S H out 0) _ := h
  unfold f_Inflater_takeCoded f_M_block
  rcases h2 with ⟨⟨u, hu⟩, ⟨v, hv⟩⟩ | ⟨x, y, e1, e2, hR⟩
  · rw [hu, hv]
    exact Lk.no ⟨_, rfl⟩ ⟨_, rfl⟩
  · rw [e1, e2]
    exact Lk.yes hR
