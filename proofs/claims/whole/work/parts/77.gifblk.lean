/-! the pure half: a GIF file's blocks -/
def RG (n W H : Nat) (x : Int32 × Int32 × Int32 × Int32 × Int32 × Int32 × (Nat → Int32) × (Nat → Int32) × (Nat → Int32) × Int32 × Int32 × Int32 × Int32 × (Nat → Int32) × (Nat → Int32) × (Nat → Int32) × (Nat → Int32) × Int32 × Int32) (y : Int32 × Int32 × Int32 × Int32 × Int32 × (Nat → Int32) × (Nat → Int32) × (Nat → Int32) × (Nat → Int32) × (Nat → Int32) × (Nat → Int32) × (Nat → Int32) × Int32) : Prop := ∃ p' im', p' ≤ n ∧ im' ≤ 65536 ∧ x.2.2.2.1 = nI p' ∧ y.1 = nI p' ∧ x.2.2.2.2.2.2.2.2.2.2.2.2.2.2.2.2.2.1 = nI im' ∧ x.2.2.2.2.2.2.2.2.2.2.2.2.2.2.2.2.2.2 = 1 ∧ y.2.2.2.2.2.2.2.2.2.2.2.2 = b2 (decide (im' ≠ 0)) ∧ Agr (W * H) x.2.2.2.2.2.2.2.2.1 y.2.2.2.2.2.1
theorem blocks_L {K n W H c : Nat} (hK : 600000 < K) (hn : n ≤ 65536) (hc : c ≤ 256) (hWH : W * H ≤ 16384) (hW0 : 0 < W) (hH0 : 0 < H) {TM palM : Nat → Int32} {t : Nat → Nat} (htM : Tb n TM t) : ∀ (r p im blk qD qM : Nat) (C tr made gf gt pa ps pb ph ds ba rb ex : Int32) (T tabD ptsD RS RL IX OR ptsM da ow bf li dp ro : Nat → Int32), n - p ≤ r → r + 1 < qD → r < qM → p ≤ n → blk < p → im ≤ blk → Tf p n T t → Bt n T → Agr (W * H) ptsD ptsM → (im = 0 → C = nI c ∧ Agr c tabD palM) → Lk (RG n W H) (f_GifReader_decode_L35 K (nI n) (nI W) (nI H) qD C tr made (nI p) gf gt T tabD ptsD pa ps pb ph RS RL IX OR (nI im) 0 (nI blk)) (f_M_readGif_L184 K (nI n) (nI W) (nI H) (nI c) TM palM qM (nI p) ds ba rb ex ptsM da ow bf li dp ro tr (b2 (decide (im ≠ 0)))) := by
  intro r
  induction r using Nat.strongRecOn with
  | _ r ih =>
    intro p im blk qD qM C tr made gf gt pa ps pb ph ds ba rb ex T tabD ptsD RS RL IX OR ptsM da ow bf li dp ro hr hqD hqM hp hblk him ht hB hA hfst
    obtain ⟨qD, rfl⟩ : ∃ w, qD = w + 1 := ⟨qD - 1, by omega⟩
    obtain ⟨qM, rfl⟩ : ∃ w, qM = w + 1 := ⟨qM - 1, by omega⟩
    show Lk _ (f_GifReader_decode_35 K _ C tr made (nI p) (nI n) gf gt T (nI W) (nI H) tabD ptsD pa ps pb ph RS RL IX OR (nI im) 0 (nI blk)) (f_M_readGif_184 K _ (nI n) (nI p) (nI W) (nI H) (nI c) ds ba rb ex TM palM ptsM da ow bf li dp ro tr (b2 (decide (im ≠ 0))))
    unfold f_GifReader_decode_35 f_M_readGif_184
    rw [if_pos (show (0 : Int32) = 0 from rfl)]
    rw [if_neg (show ¬ (65536 : Int32) ≤ nI blk from show ¬ nI 65536 ≤ nI blk from nI_ge (by omega) (by omega))]
    refine Lk.step (next_exF hp hn ht) (nextM_ex hp hn htM) (fun u => ⟨_, rfl⟩) (fun u => ⟨_, rfl⟩) (fun h1 => ?_)
    have hmk := ht.2 p
    generalize t p = mk at hmk ⊢
    have ht1 := ht.mono (show p ≤ p + 1 by omega)
    unfold f_M_readGif_215
    by_cases c44 : mk = 44
    · subst c44
      rw [if_pos (show nI 44 = 44 from rfl), if_neg (show ¬ nI 44 = 59 by decide), if_neg (show ¬ nI 44 = 33 by decide), if_pos (show nI 44 = 44 from rfl)]
      unfold f_M_readGif_220
      rw [can1, q_tryL, if_neg (show ¬ nI 44 = 33 by decide)]
      unfold f_GifReader_decode_73 f_M_readGif_337 f_GifReader_decode_113
      have e1 : b2 (decide (im + 1 ≠ 0)) = 1 := by rw [decide_eq_true (by omega)]; rfl
      by_cases ci : im = 0
      · have e0 : b2 (decide (im ≠ 0)) = 0 := by rw [decide_eq_false (by omega)]; rfl
        rw [if_pos (show nI im = 0 by rw [ci]; rfl), if_pos e0]
        refine Lk.try (image_ok (fst := true) (tr := tr) hK hn (show p + 1 ≤ n by omega) hc hWH hW0 hH0 ht1 hB htM hA (fun _ => hfst ci)) (fun u => ⟨_, rfl⟩) (fun u => ⟨_, rfl⟩) (fun x y hxy => ?_)
        obtain ⟨p', f1, f2, f3, f4, f5, f6, f7, f8⟩ := hxy
        rw [f3, f4, f5, nI_1 im, nI_1 blk, ← e1]
        exact ih (n - p') (by omega) p' (im + 1) (blk + 1) qD qM _ _ _ _ _ _ _ _ _ _ _ _ _ _ _ _ _ _ _ _ _ _ _ _ _ _ _ (by omega) (by omega) (by omega) f2 (by omega) (by omega) f6 f7 f8 (fun q => absurd q (by omega))
      · have e0 : ¬ b2 (decide (im ≠ 0)) = 0 := by rw [decide_eq_true ci]; decide
        rw [if_neg (show ¬ nI im = 0 from nI_ne0 (by omega) (by omega)), if_neg e0]
        refine Lk.try (image_ok (fst := false) (c := c) (tr := tr) hK hn (show p + 1 ≤ n by omega) hc hWH hW0 hH0 ht1 hB htM hA (fun q => Bool.noConfusion q)) (fun u => ⟨_, rfl⟩) (fun u => ⟨_, rfl⟩) (fun x y hxy => ?_)
        obtain ⟨p', f1, f2, f3, f4, f5, f6, f7, f8⟩ := hxy
        rw [f3, f4, f5, nI_1 im, nI_1 blk, ← e1]
        exact ih (n - p') (by omega) p' (im + 1) (blk + 1) qD qM _ _ _ _ _ _ _ _ _ _ _ _ _ _ _ _ _ _ _ _ _ _ _ _ _ _ _ (by omega) (by omega) (by omega) f2 (by omega) (by omega) f6 f7 f8 (fun q => absurd q (by omega))
    rw [if_neg (show ¬ nI mk = 44 from fun q => c44 ((nI_eq32 (b := 44) (by omega) (by omega)).mp q))]
    by_cases c33 : mk = 33
    · subst c33
      rw [if_pos (show nI 33 = 33 from rfl), if_neg (show ¬ nI 33 = 59 by decide), if_pos (show nI 33 = 33 from rfl)]
      unfold f_M_readGif_220
      rw [can1, q_tryL, if_pos (show nI 33 = 33 from rfl)]
      unfold f_GifReader_takeExtension
      rw [try_try]
      refine Lk.step (next_exF (show p + 1 ≤ n by omega) hn ht1) (nextM_ex (show p + 1 ≤ n by omega) hn htM) (fun u => ⟨_, rfl⟩) (fun u => ⟨_, rfl⟩) (fun h2 => ?_)
      have hex := ht.2 (p + 1)
      generalize t (p + 1) = e at hex ⊢
      have ht2 := ht.mono (show p ≤ p + 1 + 1 by omega)
      unfold f_GifReader_decode_113
      by_cases c249 : e = 249
      · subst c249
        rw [if_pos (show nI 249 = 249 from rfl), if_pos (show nI 249 = 249 from rfl), try_try]
        refine Lk.step (next_exF (show p + 1 + 1 ≤ n by omega) hn ht2) (nextM_ex (show p + 1 + 1 ≤ n by omega) hn htM) (fun u => ⟨_, rfl⟩) (fun u => ⟨_, rfl⟩) (fun h3 => ?_)
        have hl4 := ht.2 (p + 1 + 1)
        generalize t (p + 1 + 1) = l at hl4 ⊢
        unfold f_GifReader_takeExtension_34 f_M_readGif_258
        by_cases c4 : l = 4
        rotate_left
        · have n4 : ¬ nI l = 4 := fun q => c4 ((nI_eq32 (b := 4) (by omega) (by omega)).mp q)
          rw [if_neg n4, if_neg n4, need0, can0, q_tryR, q_tryR]
          exact Lk.no ⟨_, rfl⟩ ⟨_, rfl⟩
        subst c4
        rw [if_pos (show nI 4 = 4 from rfl), if_pos (show nI 4 = 4 from rfl), need1, can1, q_tryL, q_tryL, try_try]
        refine Lk.step (next_exF (show p + 1 + 1 + 1 ≤ n by omega) hn (ht.mono (by omega))) (nextM_ex (show p + 1 + 1 + 1 ≤ n by omega) hn htM) (fun u => ⟨_, rfl⟩) (fun u => ⟨_, rfl⟩) (fun h4 => ?_)
        have hfl := ht.2 (p + 1 + 1 + 1)
        generalize t (p + 1 + 1 + 1) = fl at hfl ⊢
        rw [try_try]
        by_cases c5 : p + 1 + 1 + 1 + 1 + 2 ≤ n
        rotate_left
        · obtain ⟨u, hu⟩ := (skip_ex (k := 2) (show p + 1 + 1 + 1 + 1 ≤ n by omega) hn (by omega)).2 c5
          have hu2 : f_Source_skip 2 (nI (p + 1 + 1 + 1 + 1)) (nI n) = _ := hu
          rw [hu2, q_tryR]
          refine Lk.no ⟨_, rfl⟩ ?_
          by_cases c6 : p + 1 + 1 + 1 + 1 < n
          · rw [(nextM_ex (show p + 1 + 1 + 1 + 1 ≤ n by omega) hn htM).1 c6, q_tryL]
            obtain ⟨v, hv⟩ := (nextM_ex (show p + 1 + 1 + 1 + 1 + 1 ≤ n by omega) hn htM).2 (by omega)
            show Th 3 (dc_try (f_M_next (nI n) (nI (p + 1 + 1 + 1 + 1 + 1)) TM) _ _)
            rw [hv, q_tryR]
            exact ⟨_, rfl⟩
          · obtain ⟨v, hv⟩ := (nextM_ex (show p + 1 + 1 + 1 + 1 ≤ n by omega) hn htM).2 c6
            rw [hv, q_tryR]
            exact ⟨_, rfl⟩
        have hs2 : f_Source_skip 2 (nI (p + 1 + 1 + 1 + 1)) (nI n) = _ := (skip_ex (k := 2) (show p + 1 + 1 + 1 + 1 ≤ n by omega) hn (by omega)).1 c5
        rw [hs2, q_tryL, (nextM_ex (show p + 1 + 1 + 1 + 1 ≤ n by omega) hn htM).1 (by omega), q_tryL]
        show Lk _ _ (dc_try (f_M_next (nI n) (nI (p + 1 + 1 + 1 + 1 + 1)) TM) _ _)
        rw [(nextM_ex (show p + 1 + 1 + 1 + 1 + 1 ≤ n by omega) hn htM).1 (by omega), q_tryL, try_try]
        refine Lk.step (next_exF (show p + 1 + 1 + 1 + 1 + 2 ≤ n by omega) hn (ht.mono (by omega))) (nextM_ex (show p + 1 + 1 + 1 + 1 + 1 + 1 ≤ n by omega) hn htM) (fun u => ⟨_, rfl⟩) (fun u => ⟨_, rfl⟩) (fun h6 => ?_)
        have hid := ht.2 (p + 1 + 1 + 1 + 1 + 2)
        rw [show p + 1 + 1 + 1 + 1 + 1 + 1 = p + 1 + 1 + 1 + 1 + 2 by omega]
        generalize t (p + 1 + 1 + 1 + 1 + 2) = idx at hid ⊢
        unfold f_M_readGif_298 f_M_readGif_313 f_GifReader_takeExtension_76 f_GifReader_takeExtension_92
        rw [try_try, odd_ok hfl]
        have hz := ht.2 (p + 1 + 1 + 1 + 1 + 2 + 1)
        by_cases c7 : fl % 2 = 1
        · have n7 : nI (fl % 2) = 1 := by rw [c7]; rfl
          rw [if_pos n7]
          refine Lk.step (next_exF (show p + 1 + 1 + 1 + 1 + 2 + 1 ≤ n by omega) hn (ht.mono (by omega))) (nextM_ex (show p + 1 + 1 + 1 + 1 + 2 + 1 ≤ n by omega) hn htM) (fun u => ⟨_, rfl⟩) (fun u => ⟨_, rfl⟩) (fun h7 => ?_)
          generalize t (p + 1 + 1 + 1 + 1 + 2 + 1) = z at hz ⊢
          by_cases c8 : z = 0
          · subst c8
            rw [if_pos (show nI 0 = 0 from rfl), if_pos (show nI 0 = 0 from rfl), need1, can1, q_tryL, q_tryL, if_pos n7, q_tryL, nI_1 blk]
            exact ih (n - (p + 1 + 1 + 1 + 1 + 2 + 1 + 1)) (by omega) (p + 1 + 1 + 1 + 1 + 2 + 1 + 1) im (blk + 1) qD qM _ _ _ _ _ _ _ _ _ _ _ _ _ _ _ _ _ _ _ _ _ _ _ _ _ _ _ (by omega) (by omega) (by omega) (by omega) (by omega) (by omega) (ht.mono (by omega)) hB hA hfst
          · have n8 : ¬ nI z = 0 := nI_ne0 (by omega) (by omega)
            rw [if_neg n8, if_neg n8, need0, can0, q_tryR, q_tryR]
            exact Lk.no ⟨_, rfl⟩ ⟨_, rfl⟩
        · have n7 : ¬ nI (fl % 2) = 1 := fun q => c7 ((nI_eq32 (b := 1) (by omega) (by omega)).mp q)
          rw [if_neg n7]
          refine Lk.step (next_exF (show p + 1 + 1 + 1 + 1 + 2 + 1 ≤ n by omega) hn (ht.mono (by omega))) (nextM_ex (show p + 1 + 1 + 1 + 1 + 2 + 1 ≤ n by omega) hn htM) (fun u => ⟨_, rfl⟩) (fun u => ⟨_, rfl⟩) (fun h7 => ?_)
          generalize t (p + 1 + 1 + 1 + 1 + 2 + 1) = z at hz ⊢
          by_cases c8 : z = 0
          · subst c8
            rw [if_pos (show nI 0 = 0 from rfl), if_pos (show nI 0 = 0 from rfl), need1, can1, q_tryL, q_tryL, if_neg n7, q_tryL, nI_1 blk]
            exact ih (n - (p + 1 + 1 + 1 + 1 + 2 + 1 + 1)) (by omega) (p + 1 + 1 + 1 + 1 + 2 + 1 + 1) im (blk + 1) qD qM _ _ _ _ _ _ _ _ _ _ _ _ _ _ _ _ _ _ _ _ _ _ _ _ _ _ _ (by omega) (by omega) (by omega) (by omega) (by omega) (by omega) (ht.mono (by omega)) hB hA hfst
          · have n8 : ¬ nI z = 0 := nI_ne0 (by omega) (by omega)
            rw [if_neg n8, if_neg n8, need0, can0, q_tryR, q_tryR]
            exact Lk.no ⟨_, rfl⟩ ⟨_, rfl⟩
      · have n249 : ¬ nI e = 249 := fun q => c249 ((nI_eq32 (b := 249) (by omega) (by omega)).mp q)
        rw [if_neg n249, if_neg n249, try_try]
        refine Lk.try (subs_ok (K := K) (by omega) hn (show p + 1 + 1 ≤ n by omega) htM ht2 hB gf gt ds) (fun u => ⟨_, rfl⟩) (fun u => ⟨_, rfl⟩) (fun x y hxy => ?_)
        obtain ⟨g, p2, mm, T', D', rfl, rfl, q4, a1, a2, a3, a4, a5⟩ := hxy
        rw [q_tryL, nI_1 blk]
        exact ih (n - p2) (by omega) p2 im (blk + 1) qD qM _ _ _ _ _ _ _ _ _ _ _ _ _ _ _ _ _ _ _ _ _ _ _ _ _ _ _ (by omega) (by omega) (by omega) a2 (by omega) (by omega) a3 a4 hA hfst
    rw [if_neg (show ¬ nI mk = 33 from fun q => c33 ((nI_eq32 (b := 33) (by omega) (by omega)).mp q)), if_neg (show ¬ nI mk = 33 from fun q => c33 ((nI_eq32 (b := 33) (by omega) (by omega)).mp q)), if_neg (show ¬ nI mk = 44 from fun q => c44 ((nI_eq32 (b := 44) (by omega) (by omega)).mp q))]
    unfold f_GifReader_decode_108
    by_cases c59 : mk = 59
    · subst c59
      rw [if_pos (show nI 59 = 59 from rfl), if_pos (show nI 59 = 59 from rfl), need1, q_tryL]
      unfold f_GifReader_decode_113
      obtain ⟨qD, rfl⟩ : ∃ w, qD = w + 1 := ⟨qD - 1, by omega⟩
      show Lk _ (f_GifReader_decode_35 K ((f_GifReader_decode_L35 K (nI n) (nI W) (nI H)) qD) C tr made (nI (p + 1)) (nI n) gf gt T (nI W) (nI H) tabD ptsD pa ps pb ph RS RL IX OR (nI im) 1 (nI blk + 1)) _
      unfold f_GifReader_decode_35
      rw [if_neg (show ¬ (1 : Int32) = 0 by decide)]
      exact Lk.yes ⟨p + 1, im, by omega, by omega, rfl, rfl, rfl, rfl, rfl, hA⟩
    · have n59 : ¬ nI mk = 59 := fun q => c59 ((nI_eq32 (b := 59) (by omega) (by omega)).mp q)
      rw [if_neg n59, if_neg n59, need0, q_tryR]
      unfold f_M_readGif_220
      rw [can0, q_tryR]
      exact Lk.no ⟨_, rfl⟩ ⟨_, rfl⟩
