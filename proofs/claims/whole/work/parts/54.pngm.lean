/-! the pure half: the reference's PNG -/
theorem bo3 : bo 3 0 3 = bo 1 0 1 ++ bo 1 0 2 := by decide +kernel
theorem deflateM {K n : Nat} (hK : 100000 < K) (hn : n ≤ 81920) (h3 : 3 ≤ n) {F r : Nat → Int32} (hr : ∀ j, j < n → r j = F j) (b : Nat → Int32) {Y : List Int32} (hY : Y.length ≤ 262144) (bb bc : Int32) (heads chain : Nat → Int32) :
    Fp 262144 (Zf Y (pngB F n)).length (fun a => a.2.1 = nI (Zf Y (pngB F n)).length ∧ a.2.2.2.2.2.1 = wr b (Zf Y (pngB F n))) (f_M_deflate K (nI n) (nI Y.length) bb bc heads (wr b Y) r chain) := by
  have hZ : Zf Y (pngB F n) = Zf Y ([] ++ (bo 3 0 3 ++ (dfl F n n 0 ++ lit 256))) := by
    rw [bo3, List.append_assoc]
    rfl
  rw [hZ]
  have p1 := Zf_le2 Y [] (bo 3 0 3) (dfl F n n 0 ++ lit 256)
  have z1 := Zf_step Y [] (bo 3 0 3) (dfl F n n 0 ++ lit 256)
  generalize hY3 : Y ++ byt ([] ++ bo 3 0 3) = Y3 at p1 z1
  generalize hR3 : rst ([] ++ bo 3 0 3) = R3 at z1
  have r3 : R3.length < 8 := by rw [← hR3]; exact ret8 _
  have p2 := Zf_le2 Y3 R3 (dfl F n n 0) (lit 256)
  have z2 := Zf_step Y3 R3 (dfl F n n 0) (lit 256)
  unfold f_M_deflate
  have hh : f_M_deflate_L2 K (nI n) (nI Y.length) bb bc (wr b Y) r chain K heads 0 = some (mp (fun _ _ => -1) heads 65536) := by
    refine loop_mp (c := 65536) (fun q s x => f_M_deflate_L2 K (nI n) (nI Y.length) bb bc (wr b Y) r chain q s x) (fun _ _ => -1) heads (fun q s => ?_) (fun q k hk => ?_) (by omega)
    · show f_M_deflate_2 K _ (nI n) (nI Y.length) bb bc s (wr b Y) r chain (nI 65536) = _
      unfold f_M_deflate_2
      rw [if_pos (by decide)]
    · show f_M_deflate_2 K _ (nI n) (nI Y.length) bb bc _ (wr b Y) r chain (nI k) = _
      unfold f_M_deflate_2
      rw [if_neg (show ¬ (65536 : Int32) ≤ nI k from show ¬ nI 65536 ≤ nI k from nI_ge hk (by omega)), if_pos (q_inb hk (by omega)), nI_clamp (by omega), nI_1]
  refine Fp.bnd hh ?_
  refine Fp.as (putBitsM_as (n := 3) (R := []) (by omega) b (by decide) (by omega) 3 hY) (fun u => ⟨_, rfl⟩) (by rw [hY3]; exact p1) (fun h5 => ?_)
  rw [hY3] at h5 ⊢
  rw [hR3]
  have z3 : Zf Y ([] ++ (bo 3 0 3 ++ (dfl F n n 0 ++ lit 256))) = Zf (Y3 ++ byt (R3 ++ dfl F n n 0)) (rst (R3 ++ dfl F n n 0) ++ lit 256) := by rw [z1, z2]
  refine deflM (by omega) hn h3 hr b _ _ (fun u => ⟨u, rfl⟩) n 0 0 K Y3 R3 _ chain (by omega) (by omega) (by omega) (Nat.zero_le _) ⟨fun x hx => mp_lt _ _ hx, fun p hp => absurd hp (by omega)⟩ r3 h5 (by rw [z1]; exact p2) (fun heads' chain' h7 => ?_)
  rw [z3]
  generalize hY5 : Y3 ++ byt (R3 ++ dfl F n n 0) = Y5 at h7 ⊢
  have r5 := ret8 (R3 ++ dfl F n n 0)
  generalize hR5 : rst (R3 ++ dfl F n n 0) = R5 at r5 ⊢
  have p4 : (Y5 ++ byt (R5 ++ lit 256)).length ≤ (Zf Y5 (R5 ++ lit 256)).length := by
    unfold Zf
    rw [List.length_append (bs := bytz _)]
    omega
  refine Fp.as (litM_as (by omega) 256 b r5 h7) (fun u => ⟨_, rfl⟩) p4 (fun h8 => ?_)
  refine Fp.seq (flushM_any b (ret8 _) h8) (fun u => ⟨_, rfl⟩) (Nat.le_refl _) (fun h9 => ?_)
  exact Fp.ret h9 ⟨rfl, rfl⟩
theorem sigM {K : Nat} (hK : 20 < K) {t_rowBytes : Int32} {t_bitBuffer : Int32} {t_bitCount : Int32} {a_t_widths : Nat → Int32} {a_t_heights : Nat → Int32} {a_t_rows : Nat → Int32} {a_t_images_3 : Nat → Int32} {a_t_images_2 : Nat → Int32} {a_t_images_1 : Nat → Int32} {a_t_images_0 : Nat → Int32} {a_t_heads : Nat → Int32} {a_t_chain : Nat → Int32} {x1 : Int32} {x2 : Int32} {x3 : Int32} {x4 : Int32} (b : Nat → Int32) {Y : List Int32} (hn : Y.length ≤ 262144) : Ap 262144 b Y pngS Prod.mk (f_M_writePng_L18 K t_rowBytes t_bitBuffer t_bitCount a_t_widths a_t_heights a_t_rows a_t_images_3 a_t_images_2 a_t_images_1 a_t_images_0 a_t_heads a_t_chain x1 x2 x3 x4 K (nI Y.length) (wr b Y) 0) := by
  have ht : ∀ k, k < 8 → tab_M_SIGN k = tab_PngReader_SIGNATURE k := by decide +kernel
  refine Ap.up (c := 8) (f_M_writePng_L18 K t_rowBytes t_bitBuffer t_bitCount a_t_widths a_t_heights a_t_rows a_t_images_3 a_t_images_2 a_t_images_1 a_t_images_0 a_t_heads a_t_chain x1 x2 x3 x4) (fun k => [q_by (tab_PngReader_SIGNATURE k)]) (fun q n b => ?_) (fun q k Y X hk hn ih => ?_) 8 0 K Y (by omega) (by omega) hn
  · show (f_M_writePng_18 K _ t_rowBytes n t_bitBuffer t_bitCount a_t_widths a_t_heights b a_t_rows a_t_images_3 a_t_images_2 a_t_images_1 a_t_images_0 a_t_heads a_t_chain x1 x2 x3 x4 (nI 8)) = _
    unfold f_M_writePng_18
    rw [if_pos (by decide)]
  · show Ap 262144 _ Y _ _ (f_M_writePng_18 K _ t_rowBytes (nI Y.length) t_bitBuffer t_bitCount a_t_widths a_t_heights (wr b Y) a_t_rows a_t_images_3 a_t_images_2 a_t_images_1 a_t_images_0 a_t_heads a_t_chain x1 x2 x3 x4 (nI k))
    unfold f_M_writePng_18
    rw [if_neg (show ¬ (8 : Int32) ≤ nI k from show ¬ nI 8 ≤ nI k from nI_ge hk (by omega)), if_pos (q_inb hk (by omega)), nI_clamp (by omega), ht k hk, nI_1]
    exact Ap.seq (putM_ap _ _ hn) (fun u => ⟨_, rfl⟩) ih
theorem let_I : (∀ k, k < 4 → f_java_lang_String_charAtT 4 (nI k) str_M_146 = some (str_M_146 k, ())) ∧ cat (fun k => [q_by (str_M_146 k)]) 0 4 = Bg 1229472850 := by decide +kernel
theorem let_D : (∀ k, k < 4 → f_java_lang_String_charAtT 4 (nI k) str_M_184 = some (str_M_184 k, ())) ∧ cat (fun k => [q_by (str_M_184 k)]) 0 4 = Bg 1229209940 := by decide +kernel
theorem let_E : (∀ k, k < 4 → f_java_lang_String_charAtT 4 (nI k) str_M_202 = some (str_M_202 k, ())) ∧ cat (fun k => [q_by (str_M_202 k)]) 0 4 = Bg 1229278788 := by decide +kernel
theorem L3_0 : cat (fun k => [Lb 0 k]) 0 3 = Zs 3 := by decide +kernel
theorem bigN {K x : Nat} (hK : 5 ≤ K) (hx : x < 2 ^ 31) (b : Nat → Int32) {Y : List Int32} (hn : Y.length ≤ 262144) : Ap 262144 b Y (Bg (nI x)) mkU (f_M_putBig K (nI x).toInt64 (nI Y.length) (wr b Y)) := by
  have h := bigM_ap hK b (nI x).toInt64 hn
  rw [nI_l hx, lN_i, ← nI_l hx] at h
  exact h
theorem m4 (n : Nat) : nI (n + 4) - 4 = nI n := by
  rw [show nI (n + 4) - 4 = nI (n + 4 - 4) from pk_sub (b := 4) (by omega), Nat.add_sub_cancel]
theorem pngWM {K w h mode sl : Nat} (hK : 300000 < K) (hsl : sl < 4) (hm : mode ≤ 5) (hw0 : 0 < w) (hh0 : 0 < h) (hwh : w * h ≤ 16384) (b P Wm Hm : Nat → Int32) (Q : Nat → Nat → Int32) (hQ : ∀ j, j < w * h → Q sl j = P j) (hW : Wm sl = nI w) (hH : Hm sl = nI h) {t_rowBytes : Int32} {t_bitBuffer : Int32} {t_bitCount : Int32} {a_t_rows : Nat → Int32} {a_t_heads : Nat → Int32} {a_t_chain : Nat → Int32} :
    Fp 262144 (pngL P w h mode).length (fun a => a.2.2.1 = nI (pngL P w h mode).length ∧ a.2.2.2.2.2.1 = wr b (pngL P w h mode)) (f_M_writePng K (nI sl) (nI mode) t_rowBytes 0 t_bitBuffer t_bitCount Wm Hm b a_t_rows (Q 3) (Q 2) (Q 1) (Q 0) a_t_heads a_t_chain) := by
  obtain ⟨hn, h3⟩ := n_le hwh hw0 hh0
  have hwl : w ≤ 16384 := Nat.le_trans (Nat.le_mul_of_pos_right w hh0) hwh
  have hhl : h ≤ 16384 := Nat.le_trans (Nat.le_mul_of_pos_left h hw0) hwh
  unfold f_M_writePng
  rw [if_pos (q_inb hsl (by omega)), if_pos (q_inb hsl (by omega)), nI_clamp (by omega), hW, hH]
  have hS := sigM (K := K) (by omega) b (Y := []) (Nat.zero_le _) (t_rowBytes := t_rowBytes) (t_bitBuffer := t_bitBuffer) (t_bitCount := t_bitCount) (a_t_widths := Wm) (a_t_heights := Hm) (a_t_rows := a_t_rows) (a_t_images_3 := Q 3) (a_t_images_2 := Q 2) (a_t_images_1 := Q 1) (a_t_images_0 := Q 0) (a_t_heads := a_t_heads) (a_t_chain := a_t_chain) (x1 := nI sl) (x2 := nI mode) (x3 := nI w) (x4 := nI h)
  rw [wr_nil] at hS
  have lS : ([] ++ pngS : List Int32).length = 8 := rfl
  have hL : (pngL P w h mode).length = 63 + (Zf [] (pngB (rv P w mode) (h * (4 * w + 1)))).length := by
    unfold pngL
    rw [List.length_append, List.length_append, List.length_append, prt_len, prt_len, prt_len, pngD_len]
    show 8 + (13 + 12 + (_ + 6 + 12 + (0 + 12))) = _
    omega
  have hZe : pngL P w h mode = (([] ++ pngS) ++ prt 1229472850 (pngI (nI w) (nI h))) ++ (prt 1229209940 (pngD (rv P w mode) (h * (4 * w + 1))) ++ prt 1229278788 []) := by
    rw [List.nil_append, List.append_assoc]
    rfl
  refine Fp.seqL hS (fun u => ⟨u, rfl⟩) (by omega) (fun h1 => ?_)
  generalize hYs : ([] ++ pngS : List Int32) = Ys at lS h1 hZe ⊢
  have l1 : (Ys ++ (Bg 0 ++ Bg 1229472850)).length = 16 := by rw [List.length_append, lS]; rfl
  have l2 : (Ys ++ (Bg 0 ++ Bg 1229472850) ++ Bg (nI w)).length = 20 := by rw [List.length_append, l1]; rfl
  have l3 : (Ys ++ (Bg 0 ++ Bg 1229472850) ++ Bg (nI w) ++ Bg (nI h)).length = 24 := by rw [List.length_append, l2]; rfl
  have l4 : (Ys ++ (Bg 0 ++ Bg 1229472850) ++ Bg (nI w) ++ Bg (nI h) ++ [q_by 8]).length = 25 := by rw [List.length_append, l3]; rfl
  have l5 : (Ys ++ (Bg 0 ++ Bg 1229472850) ++ Bg (nI w) ++ Bg (nI h) ++ [q_by 8] ++ [q_by 6]).length = 26 := by rw [List.length_append, l4]; rfl
  have hE : Ys ++ (Bg 0 ++ Bg 1229472850) ++ Bg (nI w) ++ Bg (nI h) ++ [q_by 8] ++ [q_by 6] ++ Zs 3 = Ys ++ (Bg 0 ++ (Bg 1229472850 ++ pngI (nI w) (nI h))) := by
    unfold pngI
    simp only [List.append_assoc]
  have l6 : (Ys ++ (Bg 0 ++ (Bg 1229472850 ++ pngI (nI w) (nI h)))).length = 29 := by rw [← hE, List.length_append, l5]; rfl
  have l7 : (Ys ++ prt 1229472850 (pngI (nI w) (nI h))).length = 33 := by rw [List.length_append, lS, prt_len]; rfl
  refine Fp.seq (openM (by omega) b 1229472850 let_I.1 let_I.2 h1) (fun u => ⟨_, rfl⟩) (by omega) (fun h2 => ?_)
  refine Fp.seq (bigN (by omega) (by omega) b h2) (fun u => ⟨_, rfl⟩) (by omega) (fun h4 => ?_)
  refine Fp.seq (bigN (by omega) (by omega) b h4) (fun u => ⟨_, rfl⟩) (by omega) (fun h5 => ?_)
  refine Fp.seq (putM_ap b 8 h5) (fun u => ⟨_, rfl⟩) (by omega) (fun h6 => ?_)
  refine Fp.seq (putM_ap b 6 h6) (fun u => ⟨_, rfl⟩) (by omega) (fun h7 => ?_)
  have h3z := littleM_ap (K := K) (c := 3) b 0 h7 (by omega) (by omega)
  rw [L3_0] at h3z
  refine Fp.seq h3z (fun u => ⟨_, rfl⟩) (by rw [hE]; omega) (fun h8 => ?_)
  rw [hE] at h8 ⊢
  show Fp _ _ _ (dc_try (f_M_part K (nI (Ys.length + 4) - 4) (nI (Ys.length + 4)) _ _) _ _)
  rw [m4]
  refine Fp.seq (partM (by omega) b Ys (pngI (nI w) (nI h)) 1229472850 h8) (fun u => ⟨_, rfl⟩) (by rw [prt_eq]; omega) (fun h9 => ?_)
  rw [prt_eq] at h9 ⊢
  obtain ⟨r', hr1, hr2⟩ := @rowsPM K w h mode sl (by omega) hsl hm hw0 hwh P a_t_rows Wm Hm Q hQ (nI (Ys ++ prt 1229472850 (pngI (nI w) (nI h))).length) t_bitBuffer t_bitCount (wr b (Ys ++ prt 1229472850 (pngI (nI w) (nI h)))) a_t_heads a_t_chain
  refine Fp.bnd hr2 ?_
  generalize hY1 : Ys ++ prt 1229472850 (pngI (nI w) (nI h)) = Y1 at l7 h9 hZe ⊢
  have k1 : (Y1 ++ (Bg 0 ++ Bg 1229209940)).length = 41 := by rw [List.length_append, l7]; rfl
  have k2 : (Y1 ++ (Bg 0 ++ Bg 1229209940) ++ [q_by 120]).length = 42 := by rw [List.length_append, k1]; rfl
  have k3 : (Y1 ++ (Bg 0 ++ Bg 1229209940) ++ [q_by 120] ++ [q_by 1]).length = 43 := by rw [List.length_append, k2]; rfl
  refine Fp.seq (openM (by omega) b 1229209940 let_D.1 let_D.2 h9) (fun u => ⟨_, rfl⟩) (by omega) (fun g1 => ?_)
  refine Fp.seq (putM_ap b 120 g1) (fun u => ⟨_, rfl⟩) (by omega) (fun g2 => ?_)
  refine Fp.seq (putM_ap b 1 g2) (fun u => ⟨_, rfl⟩) (by omega) (fun g3 => ?_)
  have hE2 : Zf (Y1 ++ (Bg 0 ++ Bg 1229209940) ++ [q_by 120] ++ [q_by 1]) (pngB (rv P w mode) (h * (4 * w + 1))) ++ Bg (nI (adl (rv P w mode) (h * (4 * w + 1)))) = Y1 ++ (Bg 0 ++ (Bg 1229209940 ++ pngD (rv P w mode) (h * (4 * w + 1)))) := by
    rw [Zf_cons]
    unfold pngD
    simp only [List.append_assoc]
  have hZn := Zf_nil (Y1 ++ (Bg 0 ++ Bg 1229209940) ++ [q_by 120] ++ [q_by 1]) (pngB (rv P w mode) (h * (4 * w + 1)))
  refine Fp.try (deflateM (by omega) hn h3 hr1 b g3 t_bitBuffer t_bitCount a_t_heads a_t_chain) (fun u => ⟨_, rfl⟩) (by omega) (fun g4 a ha => ?_)
  obtain ⟨ha1, ha2⟩ := ha
  have ead : adl (rv P w mode) (h * (4 * w + 1)) = adl r' (h * (4 * w + 1)) := adl_eq (fun j hj => (hr1 j hj).symm)
  refine Fp.bnd (adM_ok (N := 200000) (by omega) (by omega) (by omega) r') ?_
  rw [← ead, ha1, ha2]
  have hb2 := bigM_ap (K := K) (by omega) b (lN (adl (rv P w mode) (h * (4 * w + 1)))) g4
  rw [lN_i] at hb2
  refine Fp.seq hb2 (fun u => ⟨_, rfl⟩) (by rw [List.length_append, Bg_len]; omega) (fun g5 => ?_)
  have l9 : (Y1 ++ prt 1229209940 (pngD (rv P w mode) (h * (4 * w + 1)))).length = 51 + (Zf [] (pngB (rv P w mode) (h * (4 * w + 1)))).length := by
    rw [List.length_append, l7, prt_len, pngD_len]
    omega
  rw [hE2] at g5 ⊢
  show Fp _ _ _ (dc_try (f_M_part K (nI (Y1.length + 4) - 4) (nI (Y1.length + 4)) _ _) _ _)
  rw [m4]
  refine Fp.seq (partM (by omega) b Y1 (pngD (rv P w mode) (h * (4 * w + 1))) 1229209940 g5) (fun u => ⟨_, rfl⟩) (by rw [prt_eq]; omega) (fun g6 => ?_)
  rw [prt_eq] at g6 ⊢
  rw [← List.append_assoc] at hZe
  generalize hY2 : Y1 ++ prt 1229209940 (pngD (rv P w mode) (h * (4 * w + 1))) = Y2 at g6 l9 hZe ⊢
  have l10 : (Y2 ++ (Bg 0 ++ Bg 1229278788)).length = Y2.length + 8 := by rw [List.length_append]; rfl
  refine Fp.seq (openM (by omega) b 1229278788 let_E.1 let_E.2 g6) (fun u => ⟨_, rfl⟩) (by omega) (fun g7 => ?_)
  show Fp _ _ _ (dc_try (f_M_part K (nI (Y2.length + 4) - 4) (nI (Y2.length + 4)) _ _) _ _)
  rw [m4]
  have hp := partM (K := K) (by omega) b Y2 [] 1229278788 (by rw [List.append_nil]; exact g7)
  rw [List.append_nil] at hp
  refine Fp.seq hp (fun u => ⟨_, rfl⟩) (by rw [show (Y2 ++ (Bg (nI ([] : List Int32).length) ++ Bg 1229278788)) ++ Bg (crcL (Bg 1229278788)) = Y2 ++ prt 1229278788 [] from pngE_eq Y2, hZe]; exact Nat.le_refl _) (fun g8 => ?_)
  rw [show (Y2 ++ (Bg (nI ([] : List Int32).length) ++ Bg 1229278788)) ++ Bg (crcL (Bg 1229278788)) = Y2 ++ prt 1229278788 [] from pngE_eq Y2, ← hZe] at g8 ⊢
  exact Fp.ret g8 ⟨rfl, rfl⟩
