/-! the pure half: GIF written -/
def gc (p : Int32) : Int32 := if 128 ≤ p &&& 255 then us8 p else -1
theorem us8_ne (p : Int32) : us8 p ≠ -1 := by
  intro h
  have h2 := congrArg (fun x => bt x 31) h
  unfold us8 at h2
  rw [bt_ushr (by omega)] at h2
  unfold bt at h2
  rw [BitVec.getLsbD_of_ge _ _ (by omega)] at h2
  exact absurd h2 (by decide)
theorem m256_ne (p : Int32) : p &&& (-256) ≠ 1 := by
  intro h
  have h2 := congrArg (fun x => bt x 0) h
  rw [bt_and, bt_m256 (by omega), decide_eq_false (by omega), Bool.and_false] at h2
  exact absurd h2 (by decide)
theorem ky1 (p : Int32) : kyM 1 p = if 128 ≤ p &&& 255 then p &&& (-256) else 1 := if_neg (by decide)
theorem col_eq1 (P : Nat → Int32) : ∀ i j, (fun i => gc (P i)) i = (fun i => gc (P i)) j ↔ (fun i => kyM 1 (P i)) i = (fun i => kyM 1 (P i)) j := by
  intro i j
  show gc (P i) = gc (P j) ↔ kyM 1 (P i) = kyM 1 (P j)
  rw [ky1, ky1]
  unfold gc
  by_cases c1 : 128 ≤ P i &&& 255
  · by_cases c2 : 128 ≤ P j &&& 255
    · rw [if_pos c1, if_pos c2, if_pos c1, if_pos c2]
      exact col_eq _ _
    · rw [if_pos c1, if_neg c2, if_pos c1, if_neg c2]
      exact ⟨fun h => absurd h (us8_ne _), fun h => absurd h (m256_ne _)⟩
  · by_cases c2 : 128 ≤ P j &&& 255
    · rw [if_neg c1, if_pos c2, if_neg c1, if_pos c2]
      exact ⟨fun h => absurd h.symm (us8_ne _), fun h => absurd h.symm (m256_ne _)⟩
    · rw [if_neg c1, if_neg c2, if_neg c1, if_neg c2]
      exact ⟨fun _ => rfl, fun _ => rfl⟩
abbrev gS (P : Nat → Int32) (T : Nat) : List Nat := Sp (fun i => gc (P i)) T
/-- bits of the table's size -/
def tb (u : Nat) : Nat := if u ≤ 2 then 1 else if u ≤ 4 then 2 else if u ≤ 8 then 3 else if u ≤ 16 then 4 else if u ≤ 32 then 5 else if u ≤ 64 then 6 else if u ≤ 128 then 7 else 8
theorem tb_ok : ∀ u, u ≤ 256 → 1 ≤ tb u ∧ tb u ≤ 8 ∧ u ≤ 2 ^ tb u ∧ ∀ s, s < 8 → 1 ≤ s → s < tb u → 2 ^ s < u := by decide +kernel
theorem tbD {K : Nat} (hK : 10 < K) {n_p3_bytes : Nat} {n_t_codes_bytes : Nat} {t_m : Int32} {t_nextRow : Int32} {t_bits : Int32} {t_readersNextRow : Int32} {t_isFirstCode : Int32} {t_table_transparentIndex : Int32} {a_t_table_cells : Nat → Int32} {p1_width : Int32} {p1_height : Int32} {a_p1_points : Nat → Int32} {a_t_table_colours : Nat → Int32} {a_t_table_indices : Nat → Int32} {p3_filled : Int32} {a_p3_bytes : Nat → Int32} {a_t_order : Nat → Int32} {a_t_indices : Nat → Int32} {t_codes_filled : Int32} {t_codes_bitStore : Int32} {t_codes_bitsHeld : Int32} {a_t_codes_bytes : Nat → Int32} {a_t_newestLonger : Nat → Int32} {a_t_lastIndex : Nat → Int32} {a_t_olderSibling : Nat → Int32} {x2 : Int32} {u : Nat} (hu : u ≤ 256) : ∀ (d t q : Nat), t + d = tb u → 1 ≤ t → d < q → (f_GifWriter_encode_L67 K n_p3_bytes n_t_codes_bytes t_m t_nextRow t_bits t_readersNextRow t_isFirstCode (nI u) t_table_transparentIndex a_t_table_cells p1_width p1_height a_p1_points a_t_table_colours a_t_table_indices p3_filled a_p3_bytes a_t_order a_t_indices t_codes_filled t_codes_bitStore t_codes_bitsHeld a_t_codes_bytes a_t_newestLonger a_t_lastIndex a_t_olderSibling x2 q (nI t)) = some (nI (tb u)) := by
  obtain ⟨b1, b2, b3, b4⟩ := tb_ok u hu
  intro d
  induction d with
  | zero =>
    intro t q ht h1 hq
    obtain ⟨q, rfl⟩ : ∃ w, q = w + 1 := ⟨q - 1, by omega⟩
    have e : t = tb u := by omega
    show (f_GifWriter_encode_67 K n_p3_bytes n_t_codes_bytes _ t_m t_nextRow t_bits t_readersNextRow t_isFirstCode (nI u) t_table_transparentIndex a_t_table_cells p1_width p1_height a_p1_points a_t_table_colours a_t_table_indices p3_filled a_p3_bytes a_t_order a_t_indices t_codes_filled t_codes_bitStore t_codes_bitsHeld a_t_codes_bytes a_t_newestLonger a_t_lastIndex a_t_olderSibling x2 (nI t)) = _
    have hp : 2 ^ t ≤ 2 ^ 8 := Nat.pow_le_pow_right (by omega) (by omega)
    unfold f_GifWriter_encode_67 f_ColourTable_colours
    by_cases c : 8 ≤ t
    · rw [if_pos (show (8 : Int32) ≤ nI t from show nI 8 ≤ nI t from nI_le c (by omega)), e]
    · rw [if_neg (show ¬ (8 : Int32) ≤ nI t from show ¬ nI 8 ≤ nI t from nI_ge (by omega) (by omega)), q_bind, pow_sh t (by omega), if_pos (nI_le (by rw [e]; exact b3) (by omega)), e]
  | succ d ih =>
    intro t q ht h1 hq
    obtain ⟨q, rfl⟩ : ∃ w, q = w + 1 := ⟨q - 1, by omega⟩
    show (f_GifWriter_encode_67 K n_p3_bytes n_t_codes_bytes _ t_m t_nextRow t_bits t_readersNextRow t_isFirstCode (nI u) t_table_transparentIndex a_t_table_cells p1_width p1_height a_p1_points a_t_table_colours a_t_table_indices p3_filled a_p3_bytes a_t_order a_t_indices t_codes_filled t_codes_bitStore t_codes_bitsHeld a_t_codes_bytes a_t_newestLonger a_t_lastIndex a_t_olderSibling x2 (nI t)) = _
    have hlt := b4 t (by omega) h1 (by omega)
    unfold f_GifWriter_encode_67 f_ColourTable_colours
    rw [if_neg (show ¬ (8 : Int32) ≤ nI t from show ¬ nI 8 ≤ nI t from nI_ge (by omega) (by omega)), q_bind, pow_sh t (by omega), if_neg (nI_ge hlt (by omega)), nI_1]
    exact ih (t + 1) q (by omega) (by omega) (by omega)
theorem tbM {K : Nat} (hK : 10 < K) {t_outSize : Int32} {t_bitBuffer : Int32} {t_bitCount : Int32} {t_codeWidth : Int32} {t_codeNext : Int32} {t_codeFirst : Int32} {a_t_widths : Nat → Int32} {a_t_heights : Nat → Int32} {a_t_images_3 : Nat → Int32} {a_t_keys : Nat → Int32} {a_t_indices : Nat → Int32} {a_t_images_2 : Nat → Int32} {a_t_images_1 : Nat → Int32} {a_t_images_0 : Nat → Int32} {a_t_out : Nat → Int32} {a_t_rows : Nat → Int32} {a_t_kids : Nat → Int32} {a_t_data : Nat → Int32} {x2 : Int32} {x3 : Int32} {x4 : Int32} {u : Nat} (hu : u ≤ 256) : ∀ (d t q : Nat), t + d = tb u → 1 ≤ t → d < q → (f_M_writeGif_L24 K t_outSize t_bitBuffer t_bitCount (nI u) t_codeWidth t_codeNext t_codeFirst a_t_widths a_t_heights a_t_images_3 a_t_keys a_t_indices a_t_images_2 a_t_images_1 a_t_images_0 a_t_out a_t_rows a_t_kids a_t_data x2 x3 x4 q (nI t)) = some (nI (tb u)) := by
  obtain ⟨b1, b2, b3, b4⟩ := tb_ok u hu
  intro d
  induction d with
  | zero =>
    intro t q ht h1 hq
    obtain ⟨q, rfl⟩ : ∃ w, q = w + 1 := ⟨q - 1, by omega⟩
    have e : t = tb u := by omega
    have hp : 2 ^ t ≤ 2 ^ 8 := Nat.pow_le_pow_right (by omega) (by omega)
    show (f_M_writeGif_24 K _ t_outSize t_bitBuffer t_bitCount (nI u) t_codeWidth t_codeNext t_codeFirst a_t_widths a_t_heights a_t_images_3 a_t_keys a_t_indices a_t_images_2 a_t_images_1 a_t_images_0 a_t_out a_t_rows a_t_kids a_t_data x2 x3 x4 (nI t)) = _
    unfold f_M_writeGif_24
    rw [pow_sh t (by omega), if_pos (nI_le (by rw [e]; exact b3) (by omega)), e]
  | succ d ih =>
    intro t q ht h1 hq
    obtain ⟨q, rfl⟩ : ∃ w, q = w + 1 := ⟨q - 1, by omega⟩
    have hlt := b4 t (by omega) h1 (by omega)
    show (f_M_writeGif_24 K _ t_outSize t_bitBuffer t_bitCount (nI u) t_codeWidth t_codeNext t_codeFirst a_t_widths a_t_heights a_t_images_3 a_t_keys a_t_indices a_t_images_2 a_t_images_1 a_t_images_0 a_t_out a_t_rows a_t_kids a_t_data x2 x3 x4 (nI t)) = _
    unfold f_M_writeGif_24
    rw [pow_sh t (by omega), if_neg (nI_ge hlt (by omega)), nI_1]
    exact ih (t + 1) q (by omega) (by omega) (by omega)
/-! the table -/
def gcol (p : Int32) : List Int32 := if 128 ≤ p &&& 255 then [q_by (p >>> (nI 24 &&& 31)), q_by (p >>> (nI 16 &&& 31)), q_by (p >>> (nI 8 &&& 31))] else [q_by 0, q_by 0, q_by 0]
def gtab (cf : Nat → Int32) (u k : Nat) : List Int32 := if k < u then gcol (cf k) else [q_by 0, q_by 0, q_by 0]
theorem gtab_len (cf : Nat → Int32) (u k : Nat) : (gtab cf u k).length = 3 := by
  unfold gtab gcol
  by_cases c : k < u
  · rw [if_pos c]
    by_cases c2 : 128 ≤ cf k &&& 255
    · rw [if_pos c2]; rfl
    · rw [if_neg c2]; rfl
  · rw [if_neg c]; rfl
theorem us8_max (p : Int32) : (if 0 < us8 p then us8 p else 0) = us8 p := by
  by_cases c : 0 < us8 p
  · rw [if_pos c]
  · rw [if_neg c]
    have h1 : ¬ us8 p < 0 := by
      have h2 : us8 p = nI (p.toBitVec.toNat / 2 ^ 8) := nI_tn (pk_ushr _ 8 8 (by decide))
      have h3 := p.toBitVec.isLt
      rw [h2]
      exact nI_pos (by omega)
    exact (Int32.le_antisymm (Int32.not_lt.mp c) (Int32.not_lt.mp h1)).symm
theorem tabD {K N w h u t : Nat} (hK : 300 < K) (hN : N < 2 ^ 31) (hu : u ≤ 256) (ht : t ≤ 8) {cf : Nat → Int32} (b cols : Nat → Int32) (hc : ∀ k, k < u → cols k = gc (cf k)) {Y : List Int32} (hn : Y.length ≤ N) : Ap N b Y (cat (gtab cf u) 0 (2 ^ t)) Prod.mk (f_GifWriter_putHead_L44 K N (nI w) (nI h) (nI u) cols (nI t) K (nI Y.length) (wr b Y) (nI 0)) := by
  have hp : 2 ^ t ≤ 2 ^ 8 := Nat.pow_le_pow_right (by omega) ht
  refine Ap.up (c := 2 ^ t) (f_GifWriter_putHead_L44 K N (nI w) (nI h) (nI u) cols (nI t)) (gtab cf u) (fun q n b => ?_) (fun q k Y X hk hn ih => ?_) (2 ^ t) 0 K Y (by omega) (by omega) hn
  · show (f_GifWriter_putHead_44 K N _ n b (nI w) (nI h) (nI u) cols (nI t) (nI (2 ^ t))) = _
    unfold f_GifWriter_putHead_44
    rw [pow_sh t (by omega), if_pos (nI_le (by omega) (by omega))]
  · show Ap N _ Y _ _ (f_GifWriter_putHead_44 K N _ (nI Y.length) _ (nI w) (nI h) (nI u) cols (nI t) (nI k))
    have e : ∃ v, f_ColourTable_colourOrZero (nI k) (nI u) cols = some (v, ()) ∧ gtab cf u k = [q_by ((if 0 < v then v else 0) >>> (nI 16 &&& 31))] ++ ([q_by ((if 0 < v then v else 0) >>> (nI 8 &&& 31))] ++ [q_by (if 0 < v then v else 0)]) := by
      unfold f_ColourTable_colourOrZero gtab
      by_cases c : k < u
      · refine ⟨gc (cf k), ?_, ?_⟩
        · rw [if_neg (nI_pos (by omega)), if_neg (nI_ge (by omega) (by omega)), if_pos (q_inb (by omega) (by omega)), nI_clamp (by omega), hc k c]
          rfl
        · rw [if_pos c]
          unfold gcol gc
          by_cases c2 : 128 ≤ cf k &&& 255
          · rw [if_pos c2, if_pos c2, us8_max, us8_by _ (by omega), us8_by _ (by omega), ← by_shr0 (us8 (cf k)), us8_by _ (by omega)]
            rfl
          · rw [if_neg c2, if_neg c2]
            decide +kernel
      · refine ⟨0, ?_, ?_⟩
        · rw [if_neg (nI_pos (by omega)), if_pos (nI_le (by omega) (by omega))]
          rfl
        · rw [if_neg c]
          decide +kernel
    obtain ⟨v, e1, e2⟩ := e
    unfold f_GifWriter_putHead_44
    rw [pow_sh t (by omega), if_neg (nI_ge (by omega) (by omega)), e1, q_bind, nI_1]
    rw [e2] at ih ⊢
    rw [List.append_assoc]
    refine Ap.seq (put_ap _ _ hn hN) (fun u => ⟨_, rfl⟩) (fun h1 => ?_)
    rw [List.append_assoc]
    refine Ap.seq (put_ap _ _ h1 hN) (fun u => ⟨_, rfl⟩) (fun h2 => ?_)
    refine Ap.seq (put_ap _ _ h2 hN) (fun u => ⟨_, rfl⟩) (fun h3 => ?_)
    rw [List.append_assoc, List.append_assoc] at h3 ⊢
    exact ih h3
theorem textG_D : (∀ k, k < 6 → f_java_lang_String_charAtT 6 (nI k) str_GifWriter_120 = some (str_GifWriter_120 k, ())) ∧ f_java_lang_String_lengthT 6 str_GifWriter_120 = some (nI 6, ()) := by decide +kernel
abbrev gtx : List Int32 := cat (fun k => [q_by (str_GifWriter_120 k)]) 0 6
def gHead (w h : Int32) (t : Nat) : List Int32 := gtx ++ (L2 w ++ (L2 h ++ ([q_by (128 + 17 * (nI t - 1))] ++ Zs 2)))
theorem headG {K N w h u t : Nat} (hK : 300 < K) (hN : N < 2 ^ 31) (hu : u ≤ 256) (ht : t ≤ 8) {cf : Nat → Int32} (b cols : Nat → Int32) (hc : ∀ k, k < u → cols k = gc (cf k)) {Y : List Int32} (hn : Y.length ≤ N) : Ap N b Y (gHead (nI w) (nI h) t ++ cat (gtab cf u) 0 (2 ^ t)) mkU (f_GifWriter_putHead K N (nI t) (nI Y.length) (wr b Y) (nI w) (nI h) (nI u) cols) := by
  unfold f_GifWriter_putHead gHead
  rw [List.append_assoc, List.append_assoc, List.append_assoc, List.append_assoc]
  refine Ap.seq (text_ap (c := 6) b str_GifWriter_120 textG_D.2 textG_D.1 hn hN (by omega) (by omega)) (fun u => ⟨_, rfl⟩) (fun h1 => ?_)
  refine Ap.seq (little2_ap b _ h1 hN) (fun u => ⟨_, rfl⟩) (fun h2 => ?_)
  refine Ap.seq (little2_ap b _ h2 hN) (fun u => ⟨_, rfl⟩) (fun h3 => ?_)
  refine Ap.seq (put_ap b _ h3 hN) (fun u => ⟨_, rfl⟩) (fun h4 => ?_)
  refine Ap.seq (zeros_ap (c := 2) b h4 hN (by omega) (by omega)) (fun u => ⟨_, rfl⟩) (fun h5 => ?_)
  exact Ap.fin (tabD hK hN hu ht b cols hc h5)
/-! transparency -/
def gExt (tr : Int32) : List Int32 := if 0 ≤ tr then [q_by 33] ++ ([q_by 249] ++ ([q_by 4] ++ ([q_by 1] ++ (Zs 2 ++ ([q_by tr] ++ [q_by 0]))))) else []
theorem extD {K N : Nat} (hK : 300 < K) (hN : N < 2 ^ 31) (tr : Int32) (b : Nat → Int32) {Y : List Int32} (hn : Y.length ≤ N) : Ap N b Y (gExt tr) mkU (f_GifWriter_putTransparency K N tr (nI Y.length) (wr b Y)) := by
  unfold f_GifWriter_putTransparency f_ColourTable_indexOfTransparent gExt
  rw [q_bind]
  by_cases c : 0 ≤ tr
  · rw [if_pos c, if_pos c]
    refine Ap.seq (put_ap b _ hn hN) (fun u => ⟨_, rfl⟩) (fun h1 => ?_)
    refine Ap.seq (put_ap b _ h1 hN) (fun u => ⟨_, rfl⟩) (fun h2 => ?_)
    refine Ap.seq (put_ap b _ h2 hN) (fun u => ⟨_, rfl⟩) (fun h3 => ?_)
    refine Ap.seq (put_ap b _ h3 hN) (fun u => ⟨_, rfl⟩) (fun h4 => ?_)
    refine Ap.seq (zeros_ap (c := 2) b h4 hN (by omega) (by omega)) (fun u => ⟨_, rfl⟩) (fun h5 => ?_)
    refine Ap.seq (put_ap b _ h5 hN) (fun u => ⟨_, rfl⟩) (fun h6 => ?_)
    exact Ap.eq (Ap.seq (X2 := []) (put_ap b _ h6 hN) (fun u => ⟨_, rfl⟩) (fun h7 => Ap.nil (mk := mkU) h7)) (List.append_nil _)
  · rw [if_neg c, if_neg c]
    exact Ap.nil (mk := mkU) hn
def trI (c : Nat → Int32) (S : List Nat) : Int32 := if pos c S (-1) < S.length then nI (pos c S (-1)) else -1
theorem tr_ok {c : Nat → Int32} {n : Nat} {used tr : Int32} {cells colours indices : Nat → Int32} (h : CT c n used tr cells colours indices) : tr = trI c (Sp c n) := by
  obtain ⟨h1, h2, h3, h4, h5, h6, h7⟩ := h
  unfold trI
  by_cases q : pos c (Sp c n) (-1) < (Sp c n).length
  · rw [if_pos q]
    exact h6 _ q (pos_hit c _ _ q)
  · rw [if_neg q]
    refine h7 (fun k hk e => q ?_)
    have := pos_mem e
    omega
/-! the bytes of the codes in pieces -/
def sub1 (c : Nat → Int32) (n t : Nat) : List Int32 := [q_by (nI (min 255 (n - 255 * t)))] ++ cat (fun j => [q_by (c (255 * t + j))]) 0 (min 255 (n - 255 * t))
def subs (C : List Int32) : List Int32 := cat (sub1 (fun j => (C[j]?).getD 0) C.length) 0 ((C.length + 254) / 255)
theorem min255 {n t : Nat} (h : 255 * t ≤ n) (hn : n < 2 ^ 31) : (if nI n - nI (255 * t) < 255 then nI n - nI (255 * t) else 255) = nI (min 255 (n - 255 * t)) := by
  rw [pk_sub h]
  by_cases c : n - 255 * t < 255
  · rw [if_pos (show nI (n - 255 * t) < 255 from show nI (n - 255 * t) < nI 255 from nI_lt c (by omega)), Nat.min_eq_right (by omega)]
  · rw [if_neg (show ¬ nI (n - 255 * t) < 255 from show ¬ nI (n - 255 * t) < nI 255 from nI_nlt (by omega) (by omega)), Nat.min_eq_left (by omega)]
    rfl
theorem by_255 (x : Int32) : q_by (x &&& 255) = q_by x := q_by_ext (fun i hi => by
  rw [bt_and, bt_255 (by omega), decide_eq_true hi, Bool.and_true])
theorem wr_by (b : Nat → Int32) {C : List Int32} {j : Nat} (hj : j < C.length) : q_by (wr b C j) = q_by ((C[j]?).getD 0) := by
  rw [wr_lt b hj, q_byby]
theorem subsD {K N : Nat} (hK : 40000 < K) (hN : N < 2 ^ 31) (b bc : Nat → Int32) {C : List Int32} (hC : C.length ≤ 32768) {Y : List Int32} (hn : Y.length ≤ N) : Ap N b Y (subs C ++ [q_by 0]) mkU (f_GifWriter_putSubs K N 32768 (nI C.length) (nI Y.length) (wr b Y) (wr bc C)) := by
  have hin : ∀ (t : Nat) (Y : List Int32), 255 * t ≤ C.length → Y.length ≤ N → Ap N b Y (cat (fun j => [q_by ((C[255 * t + j]?).getD 0)]) 0 (min 255 (C.length - 255 * t))) Prod.mk (f_GifWriter_putSubs_L35 K N 32768 (nI C.length) (wr bc C) (nI C.length) (nI (255 * t)) (nI (min 255 (C.length - 255 * t))) K (nI Y.length) (wr b Y) (nI 0)) := by
    intro t Y ht hn
    refine Ap.up (c := min 255 (C.length - 255 * t)) (f_GifWriter_putSubs_L35 K N 32768 (nI C.length) (wr bc C) (nI C.length) (nI (255 * t)) (nI (min 255 (C.length - 255 * t)))) (fun j => [q_by ((C[255 * t + j]?).getD 0)]) (fun q n b => ?_) (fun q k Y X hk hn ih => ?_) (min 255 (C.length - 255 * t)) 0 K Y (by omega) (by omega) hn
    · show f_GifWriter_putSubs_35 K N 32768 _ (nI C.length) n b (wr bc C) (nI C.length) (nI (255 * t)) (nI (min 255 (C.length - 255 * t))) (nI (min 255 (C.length - 255 * t))) = _
      unfold f_GifWriter_putSubs_35
      rw [if_pos (nI_le (by omega) (by omega))]
    · show Ap N _ Y _ _ (f_GifWriter_putSubs_35 K N 32768 _ (nI C.length) (nI Y.length) _ (wr bc C) (nI C.length) (nI (255 * t)) (nI (min 255 (C.length - 255 * t))) (nI k))
      have e : f_Sink_byteOrZero 32768 (nI (255 * t + k)) (nI C.length) (wr bc C) = some (wr bc C (255 * t + k) &&& 255, ()) := by
        unfold f_Sink_byteOrZero
        rw [if_neg (nI_pos (by omega)), if_neg (nI_ge (by omega) (by omega)), if_pos (q_inb (by omega) (by omega)), nI_clamp (by omega)]
        rfl
      unfold f_GifWriter_putSubs_35
      rw [if_neg (nI_ge (by omega) (by omega)), nI_add, e, q_bind, nI_1]
      have hp := put_ap b (wr bc C (255 * t + k) &&& 255) hn hN
      rw [by_255, wr_by bc (by omega)] at hp
      exact Ap.seq hp (fun u => ⟨_, rfl⟩) ih
  unfold f_GifWriter_putSubs f_Sink_filled
  rw [q_bind]
  have hL : Ap N b Y (subs C) Prod.mk (f_GifWriter_putSubs_L10 K N 32768 (nI C.length) (wr bc C) (nI C.length) K (nI Y.length) (wr b Y) 0) := by
    refine Ap.up (c := (C.length + 254) / 255) (fun q n b x => f_GifWriter_putSubs_L10 K N 32768 (nI C.length) (wr bc C) (nI C.length) q n b (255 * x)) (sub1 (fun j => (C[j]?).getD 0) C.length) (fun q n b => ?_) (fun q t Y X ht hn ih => ?_) ((C.length + 254) / 255) 0 K Y (by omega) (by omega) hn
    · show f_GifWriter_putSubs_10 K N 32768 _ (nI C.length) n b (wr bc C) (nI C.length) (255 * nI ((C.length + 254) / 255)) = _
      unfold f_GifWriter_putSubs_10
      rw [show (255 : Int32) * nI ((C.length + 254) / 255) = nI (255 * ((C.length + 254) / 255)) from pk_mul 255 _, if_pos (nI_le (by omega) (by omega))]
    · show Ap N _ Y _ _ (f_GifWriter_putSubs_10 K N 32768 _ (nI C.length) (nI Y.length) _ (wr bc C) (nI C.length) (255 * nI t))
      unfold f_GifWriter_putSubs_10
      rw [show (255 : Int32) * nI t = nI (255 * t) from pk_mul 255 _, if_neg (nI_ge (by omega) (by omega)), min255 (by omega) (by omega)]
      unfold sub1 at ih ⊢
      rw [List.append_assoc]
      refine Ap.seq (put_ap b _ hn hN) (fun u => ⟨_, rfl⟩) (fun h1 => ?_)
      refine Ap.seqL (hin t _ (by omega) h1) (fun u => ⟨u, rfl⟩) (fun h2 => ?_)
      rw [List.append_assoc] at h2 ⊢
      have e5 : nI (255 * t) + 255 = 255 * nI (t + 1) := by
        rw [show nI (255 * t) + 255 = nI (255 * t + 255) from nI_add _ 255, show (255 : Int32) * nI (t + 1) = nI (255 * (t + 1)) from pk_mul 255 _, Nat.mul_succ]
      rw [e5]
      exact ih h2
  refine Ap.seqL hL (fun u => ⟨u, rfl⟩) (fun h1 => ?_)
  exact Ap.eq (Ap.seq (X2 := []) (put_ap b _ h1 hN) (fun u => ⟨_, rfl⟩) (fun h2 => Ap.nil (mk := mkU) h2)) (List.append_nil _)
