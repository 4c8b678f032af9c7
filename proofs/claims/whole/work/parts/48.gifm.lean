/-! the pure half: the reference's GIF -/
theorem wr_re (b : Nat → Int32) (Y C : List Int32) : wr (wr b (Y ++ C)) Y = wr b (Y ++ C) := by
  funext j
  by_cases c : j < Y.length
  · rw [wr_lt _ c, wr_lt _ (by rw [List.length_append]; omega), List.getElem?_append_left c]
  · rw [wr_ge _ c]
theorem data491 {K n : Nat} (hK : 70000 < K) (hn : n ≤ 65536) {t_outSize : Int32} {t_bitBuffer : Int32} {t_bitCount : Int32} {t_keyCount : Int32} {t_codeWidth : Int32} {t_codeNext : Int32} {t_codeFirst : Int32} {a_t_widths : Nat → Int32} {a_t_heights : Nat → Int32} {a_t_images_3 : Nat → Int32} {a_t_keys : Nat → Int32} {a_t_indices : Nat → Int32} {a_t_images_2 : Nat → Int32} {a_t_images_1 : Nat → Int32} {a_t_images_0 : Nat → Int32} {a_t_out : Nat → Int32} {a_t_rows : Nat → Int32} {a_t_kids : Nat → Int32} {a : Nat} (ha : a + n ≤ 262144) (d : Nat → Int32) : (f_M_writeGif_L491 K t_outSize t_bitBuffer t_bitCount t_keyCount t_codeWidth t_codeNext t_codeFirst a_t_widths a_t_heights a_t_images_3 a_t_keys a_t_indices a_t_images_2 a_t_images_1 a_t_images_0 a_t_out a_t_rows a_t_kids (nI a) (nI n) K d 0) = some (mp (fun j _ => q_by (a_t_out (a + j))) d n) := by
  refine loop_mp (c := n) (fun q s x => (f_M_writeGif_L491 K t_outSize t_bitBuffer t_bitCount t_keyCount t_codeWidth t_codeNext t_codeFirst a_t_widths a_t_heights a_t_images_3 a_t_keys a_t_indices a_t_images_2 a_t_images_1 a_t_images_0 a_t_out a_t_rows a_t_kids (nI a) (nI n) q s x)) (fun j _ => q_by (a_t_out (a + j))) d (fun q s => ?_) (fun q k hk => ?_) (by omega)
  · show (f_M_writeGif_491 K _ t_outSize t_bitBuffer t_bitCount t_keyCount t_codeWidth t_codeNext t_codeFirst a_t_widths a_t_heights a_t_images_3 a_t_keys a_t_indices a_t_images_2 a_t_images_1 a_t_images_0 a_t_out a_t_rows a_t_kids s (nI a) (nI n) (nI n)) = _
    unfold f_M_writeGif_491
    rw [if_pos (nI_le (by omega) (by omega))]
  · show (f_M_writeGif_491 K _ t_outSize t_bitBuffer t_bitCount t_keyCount t_codeWidth t_codeNext t_codeFirst a_t_widths a_t_heights a_t_images_3 a_t_keys a_t_indices a_t_images_2 a_t_images_1 a_t_images_0 a_t_out a_t_rows a_t_kids _ (nI a) (nI n) (nI k)) = _
    unfold f_M_writeGif_491
    rw [if_neg (nI_ge hk (by omega)), nI_add, if_pos (q_inb (by omega) (by omega)), if_pos (q_inb (by omega) (by omega)), nI_clamp (by omega), nI_clamp (by omega), nI_1, q_by1]
theorem subsM {K : Nat} (hK : 70000 < K) {t_bitBuffer : Int32} {t_bitCount : Int32} {t_keyCount : Int32} {t_codeWidth : Int32} {t_codeNext : Int32} {t_codeFirst : Int32} {a_t_widths : Nat → Int32} {a_t_heights : Nat → Int32} {a_t_images_3 : Nat → Int32} {a_t_keys : Nat → Int32} {a_t_indices : Nat → Int32} {a_t_images_2 : Nat → Int32} {a_t_images_1 : Nat → Int32} {a_t_images_0 : Nat → Int32} {a_t_rows : Nat → Int32} {a_t_kids : Nat → Int32} {a_t_data : Nat → Int32} (b : Nat → Int32) {C : List Int32} (hC : C.length ≤ 32768) (hd : ∀ j, j < C.length → q_by (a_t_data j) = q_by ((C[j]?).getD 0)) {Y : List Int32} (hn : Y.length ≤ 262144) {o : Nat → Int32} (ho : o = wr b Y) : Ap 262144 b Y (subs C) Prod.mk (f_M_writeGif_L530 K t_bitBuffer t_bitCount t_keyCount t_codeWidth t_codeNext t_codeFirst a_t_widths a_t_heights a_t_images_3 a_t_keys a_t_indices a_t_images_2 a_t_images_1 a_t_images_0 a_t_rows a_t_kids a_t_data (nI C.length) K (nI Y.length) o 0) := by
  subst ho
  have hin : ∀ (t : Nat) (Y : List Int32), 255 * t ≤ C.length → Y.length ≤ 262144 → Ap 262144 b Y (cat (fun j => [q_by ((C[255 * t + j]?).getD 0)]) 0 (min 255 (C.length - 255 * t))) Prod.mk (f_M_writeGif_L559 K t_bitBuffer t_bitCount t_keyCount t_codeWidth t_codeNext t_codeFirst a_t_widths a_t_heights a_t_images_3 a_t_keys a_t_indices a_t_images_2 a_t_images_1 a_t_images_0 a_t_rows a_t_kids a_t_data (nI C.length) (nI (255 * t)) (nI (min 255 (C.length - 255 * t))) K (nI Y.length) (wr b Y) (nI 0)) := by
    intro t Y ht hn
    refine Ap.up (c := min 255 (C.length - 255 * t)) (f_M_writeGif_L559 K t_bitBuffer t_bitCount t_keyCount t_codeWidth t_codeNext t_codeFirst a_t_widths a_t_heights a_t_images_3 a_t_keys a_t_indices a_t_images_2 a_t_images_1 a_t_images_0 a_t_rows a_t_kids a_t_data (nI C.length) (nI (255 * t)) (nI (min 255 (C.length - 255 * t)))) (fun j => [q_by ((C[255 * t + j]?).getD 0)]) (fun q n b => ?_) (fun q k Y X hk hn ih => ?_) (min 255 (C.length - 255 * t)) 0 K Y (by omega) (by omega) hn
    · show (f_M_writeGif_559 K _ n t_bitBuffer t_bitCount t_keyCount t_codeWidth t_codeNext t_codeFirst a_t_widths a_t_heights a_t_images_3 a_t_keys a_t_indices a_t_images_2 a_t_images_1 a_t_images_0 b a_t_rows a_t_kids a_t_data (nI C.length) (nI (255 * t)) (nI (min 255 (C.length - 255 * t))) (nI (min 255 (C.length - 255 * t)))) = _
      unfold f_M_writeGif_559
      rw [if_pos (nI_le (by omega) (by omega))]
    · show Ap 262144 _ Y _ _ (f_M_writeGif_559 K _ (nI Y.length) t_bitBuffer t_bitCount t_keyCount t_codeWidth t_codeNext t_codeFirst a_t_widths a_t_heights a_t_images_3 a_t_keys a_t_indices a_t_images_2 a_t_images_1 a_t_images_0 (wr b Y) a_t_rows a_t_kids a_t_data (nI C.length) (nI (255 * t)) (nI (min 255 (C.length - 255 * t))) (nI k))
      unfold f_M_writeGif_559
      rw [if_neg (nI_ge (by omega) (by omega)), nI_add, if_pos (q_inb (by omega) (by omega)), nI_clamp (by omega), nI_1]
      have hp := putM_ap b (a_t_data (255 * t + k)) hn
      rw [hd _ (by omega)] at hp
      exact Ap.seq hp (fun u => ⟨_, rfl⟩) ih
  refine Ap.up (c := (C.length + 254) / 255) (fun q n b x => (f_M_writeGif_L530 K t_bitBuffer t_bitCount t_keyCount t_codeWidth t_codeNext t_codeFirst a_t_widths a_t_heights a_t_images_3 a_t_keys a_t_indices a_t_images_2 a_t_images_1 a_t_images_0 a_t_rows a_t_kids a_t_data (nI C.length) q n b (255 * x))) (sub1 (fun j => (C[j]?).getD 0) C.length) (fun q n b => ?_) (fun q t Y X ht hn ih => ?_) ((C.length + 254) / 255) 0 K Y (by omega) (by omega) hn
  · show (f_M_writeGif_530 K _ n t_bitBuffer t_bitCount t_keyCount t_codeWidth t_codeNext t_codeFirst a_t_widths a_t_heights a_t_images_3 a_t_keys a_t_indices a_t_images_2 a_t_images_1 a_t_images_0 b a_t_rows a_t_kids a_t_data (nI C.length) (255 * nI ((C.length + 254) / 255))) = _
    unfold f_M_writeGif_530
    rw [show (255 : Int32) * nI ((C.length + 254) / 255) = nI (255 * ((C.length + 254) / 255)) from pk_mul 255 _, if_pos (nI_le (by omega) (by omega))]
  · show Ap 262144 _ Y _ _ (f_M_writeGif_530 K _ (nI Y.length) t_bitBuffer t_bitCount t_keyCount t_codeWidth t_codeNext t_codeFirst a_t_widths a_t_heights a_t_images_3 a_t_keys a_t_indices a_t_images_2 a_t_images_1 a_t_images_0 (wr b Y) a_t_rows a_t_kids a_t_data (nI C.length) (255 * nI t))
    unfold f_M_writeGif_530
    rw [show (255 : Int32) * nI t = nI (255 * t) from pk_mul 255 _, if_neg (nI_ge (by omega) (by omega)), min255 (by omega) (by omega)]
    unfold sub1 at ih ⊢
    rw [List.append_assoc]
    refine Ap.seq (putM_ap b _ hn) (fun u => ⟨_, rfl⟩) (fun h1 => ?_)
    refine Ap.seqL (hin t _ (by omega) h1) (fun u => ⟨u, rfl⟩) (fun h2 => ?_)
    rw [List.append_assoc] at h2 ⊢
    have e5 : nI (255 * t) + 255 = 255 * nI (t + 1) := by
      rw [show nI (255 * t) + 255 = nI (255 * t + 255) from nI_add _ 255, show (255 : Int32) * nI (t + 1) = nI (255 * (t + 1)) from pk_mul 255 _, Nat.mul_succ]
    rw [e5]
    exact ih h2
theorem by_lt {v : Nat} (h : v < 256) : q_by (nI v) &&& 255 = nI v := by
  have h2 : ∀ v, v < 256 → q_by (nI v) &&& 255 = nI v := by decide +kernel
  exact h2 v h
theorem Zf_cons (Y : List Int32) (S : List Bool) : Zf Y S = Y ++ Zf [] S := by
  unfold Zf
  rw [List.append_assoc, List.nil_append]
theorem gif294 {K w h t : Nat} (il : Bool) (hK : 1048577 < K) (hw0 : 0 < w) (hwh : w * h ≤ 16384) (h0 : 0 < w * h) (ht : t ≤ 8) (b : Nat → Int32) {t_bitBuffer : Int32} {t_bitCount : Int32} {t_keyCount : Int32} {t_codeWidth : Int32} {t_codeNext : Int32} {t_codeFirst : Int32} {a_t_widths : Nat → Int32} {a_t_heights : Nat → Int32} {a_t_images_3 : Nat → Int32} {a_t_keys : Nat → Int32} {a_t_indices : Nat → Int32} {a_t_images_2 : Nat → Int32} {a_t_images_1 : Nat → Int32} {a_t_images_0 : Nat → Int32} {a_t_rows : Nat → Int32} {a_t_kids : Nat → Int32} {a_t_data : Nat → Int32} (ix : Nat → Nat) (hix : ∀ i, i < w * h → a_t_indices (plc w h il i) = nI (ix i)) (hlt : ∀ i, i < w * h → ix i < 2 ^ max 2 t) (y1 : Int32) {Y : List Int32} (hY : Y.length ≤ 1000) :
    Fp 262144 (Y ++ ([q_by y1] ++ ([q_by (nI (max 2 t))] ++ (subs (Zf [] (lzA (max 2 t) ix (w * h))) ++ ([q_by 0] ++ [q_by 59]))))).length (fun a => a.2.1 = nI (Y ++ ([q_by y1] ++ ([q_by (nI (max 2 t))] ++ (subs (Zf [] (lzA (max 2 t) ix (w * h))) ++ ([q_by 0] ++ [q_by 59]))))).length ∧ ∃ b', a.2.2.2.2.2.2.2.2.2.2.1 = wr b' (Y ++ ([q_by y1] ++ ([q_by (nI (max 2 t))] ++ (subs (Zf [] (lzA (max 2 t) ix (w * h))) ++ ([q_by 0] ++ [q_by 59])))))) (f_M_writeGif_294 K (nI Y.length) t_bitBuffer t_bitCount t_keyCount t_codeWidth t_codeNext t_codeFirst a_t_widths a_t_heights a_t_images_3 a_t_keys a_t_indices a_t_images_2 a_t_images_1 a_t_images_0 (wr b Y) a_t_rows a_t_kids a_t_data (cond il 1 0) (nI w) (nI h) (nI t) y1) := by
  have hm : max 2 t ≤ 8 := Nat.max_le.mpr ⟨by omega, ht⟩
  have hpm := m_pow hm
  have hCl : (Zf [] (lzA (max 2 t) ix (w * h))).length ≤ 32768 := by
    have h1 := Zf_len [] (lzA (max 2 t) ix (w * h))
    have h2 := lzA_len hm hwh ix
    have h3 : ([] : List Int32).length = 0 := rfl
    omega
  have hw : w ≤ 16384 := by
    rcases Nat.eq_zero_or_pos h with e | e
    · rw [e, Nat.mul_zero] at h0; exact absurd h0 (Nat.lt_irrefl _)
    · exact Nat.le_trans (Nat.le_mul_of_pos_right w e) hwh
  unfold f_M_writeGif_294
  rw [max2' ht]
  refine Fp.sq (putM_ap b y1 (by omega)) (fun u => ⟨_, rfl⟩) (fun h1 => ?_)
  refine Fp.sq (putM_ap b _ h1) (fun u => ⟨_, rfl⟩) (fun h2 => ?_)
  obtain ⟨r', hr1, hr2⟩ := @rowsOk K w h il (by omega) hw0 hwh (nI ((Y ++ [q_by y1]) ++ [q_by (nI (max 2 t))]).length) t_bitBuffer t_bitCount t_keyCount t_codeWidth t_codeNext t_codeFirst a_t_widths a_t_heights a_t_images_3 a_t_keys a_t_indices a_t_images_2 a_t_images_1 a_t_images_0 (wr b ((Y ++ [q_by y1]) ++ [q_by (nI (max 2 t))])) a_t_kids a_t_data (nI (max 2 t)) a_t_rows
  refine Fp.bnd hr2 ?_
  have hrows : ∀ i, i < w * h → r' i &&& 255 = nI (ix i) := by
    intro i hi
    have := hlt i hi
    rw [hr1 i hi, hix i hi, by_lt (by omega)]
  have hYl : ((Y ++ [q_by y1]) ++ [q_by (nI (max 2 t))]).length ≤ 2000 := by
    rw [List.length_append, List.length_append, List.length_singleton, List.length_singleton]
    omega
  obtain ⟨a, ha1, ha2, ha3⟩ := packM (K := K) hK hm h0 hwh hrows hlt b hYl t_bitBuffer t_bitCount t_codeWidth t_codeNext t_codeFirst a_t_kids
  refine Fp.go ha1 ?_
  rw [ha2, ha3, Zf_cons ((Y ++ [q_by y1]) ++ [q_by (nI (max 2 t))])]
  generalize hC : Zf [] (lzA (max 2 t) ix (w * h)) = C at hCl ⊢
  have e11 : nI (((Y ++ [q_by y1]) ++ [q_by (nI (max 2 t))]) ++ C).length - nI ((Y ++ [q_by y1]) ++ [q_by (nI (max 2 t))]).length = nI C.length := by
    rw [List.length_append (bs := C), pk_sub (by omega), Nat.add_sub_cancel_left]
  show Fp _ _ _ (dc_bind (f_M_writeGif_L491 _ _ _ _ _ _ _ _ _ _ _ _ _ _ _ _ _ _ _ _ (nI (((Y ++ [q_by y1]) ++ [q_by (nI (max 2 t))]) ++ C).length - nI ((Y ++ [q_by y1]) ++ [q_by (nI (max 2 t))]).length) _ _ _) _)
  rw [e11]
  refine Fp.bnd (data491 (by omega) (by omega) (by omega) a_t_data) ?_
  have hd : ∀ j, j < C.length → q_by (mp (fun j _ => q_by (wr b (((Y ++ [q_by y1]) ++ [q_by (nI (max 2 t))]) ++ C) (((Y ++ [q_by y1]) ++ [q_by (nI (max 2 t))]).length + j))) a_t_data C.length j) = q_by ((C[j]?).getD 0) := by
    intro j hj
    rw [mp_lt _ _ hj, q_byby, wr_by b (by rw [List.length_append (bs := C)]; omega), List.getElem?_append_right (by omega), Nat.add_sub_cancel_left]
  refine Fp.sqL (subsM (K := K) (by omega) (wr b (((Y ++ [q_by y1]) ++ [q_by (nI (max 2 t))]) ++ C)) hCl hd (Y := (Y ++ [q_by y1]) ++ [q_by (nI (max 2 t))]) (by omega) (wr_re b _ C).symm) (fun u => ⟨u, rfl⟩) (fun h3 => ?_)
  refine Fp.sq (putM_ap _ 0 h3) (fun u => ⟨_, rfl⟩) (fun h4 => ?_)
  refine Fp.seq (putM_ap _ 59 h4) (fun u => ⟨_, rfl⟩) (Nat.le_refl _) (fun h5 => ?_)
  refine Fp.ret h5 ⟨?_, ⟨wr b (((Y ++ [q_by y1]) ++ [q_by (nI (max 2 t))]) ++ C), ?_⟩⟩
  · show nI (((((Y ++ [q_by y1]) ++ [q_by (nI (max 2 t))]) ++ subs C) ++ [q_by 0]) ++ [q_by 59]).length = _
    simp only [List.append_assoc]
  · show wr _ (((((Y ++ [q_by y1]) ++ [q_by (nI (max 2 t))]) ++ subs C) ++ [q_by 0]) ++ [q_by 59]) = _
    simp only [List.append_assoc]
theorem gif257 {K w h t : Nat} (il : Bool) (hK : 1048577 < K) (hw0 : 0 < w) (hwh : w * h ≤ 16384) (h0 : 0 < w * h) (ht : t ≤ 8) (b : Nat → Int32) {t_bitBuffer : Int32} {t_bitCount : Int32} {t_keyCount : Int32} {t_codeWidth : Int32} {t_codeNext : Int32} {t_codeFirst : Int32} {a_t_widths : Nat → Int32} {a_t_heights : Nat → Int32} {a_t_images_3 : Nat → Int32} {a_t_keys : Nat → Int32} {a_t_indices : Nat → Int32} {a_t_images_2 : Nat → Int32} {a_t_images_1 : Nat → Int32} {a_t_images_0 : Nat → Int32} {a_t_rows : Nat → Int32} {a_t_kids : Nat → Int32} {a_t_data : Nat → Int32} (ix : Nat → Nat) (hix : ∀ i, i < w * h → a_t_indices (plc w h il i) = nI (ix i)) (hlt : ∀ i, i < w * h → ix i < 2 ^ max 2 t) {Y : List Int32} (hY : Y.length ≤ 900) :
    Fp 262144 (Y ++ ([q_by 44] ++ (L4 0 ++ (L2 (nI w) ++ (L2 (nI h) ++ ([q_by (cond il 64 0)] ++ ([q_by (nI (max 2 t))] ++ (subs (Zf [] (lzA (max 2 t) ix (w * h))) ++ ([q_by 0] ++ [q_by 59]))))))))).length (fun a => a.2.1 = nI (Y ++ ([q_by 44] ++ (L4 0 ++ (L2 (nI w) ++ (L2 (nI h) ++ ([q_by (cond il 64 0)] ++ ([q_by (nI (max 2 t))] ++ (subs (Zf [] (lzA (max 2 t) ix (w * h))) ++ ([q_by 0] ++ [q_by 59]))))))))).length ∧ ∃ b', a.2.2.2.2.2.2.2.2.2.2.1 = wr b' (Y ++ ([q_by 44] ++ (L4 0 ++ (L2 (nI w) ++ (L2 (nI h) ++ ([q_by (cond il 64 0)] ++ ([q_by (nI (max 2 t))] ++ (subs (Zf [] (lzA (max 2 t) ix (w * h))) ++ ([q_by 0] ++ [q_by 59])))))))))) (f_M_writeGif_257 K (nI Y.length) t_bitBuffer t_bitCount t_keyCount t_codeWidth t_codeNext t_codeFirst a_t_widths a_t_heights a_t_images_3 a_t_keys a_t_indices a_t_images_2 a_t_images_1 a_t_images_0 (wr b Y) a_t_rows a_t_kids a_t_data (cond il 1 0) (nI w) (nI h) (nI t)) := by
  have hl : ((((Y ++ [q_by 44]) ++ L4 0) ++ L2 (nI w)) ++ L2 (nI h)).length ≤ 1000 := by
    rw [List.length_append, List.length_append, List.length_append, List.length_append]
    show Y.length + 1 + 4 + 2 + 2 ≤ 1000
    omega
  unfold f_M_writeGif_257
  refine Fp.sq (putM_ap b 44 (by omega)) (fun u => ⟨_, rfl⟩) (fun h1 => ?_)
  refine Fp.sq (L4M (by omega) b 0 h1) (fun u => ⟨_, rfl⟩) (fun h2 => ?_)
  refine Fp.sq (L2M (by omega) b _ h2) (fun u => ⟨_, rfl⟩) (fun h3 => ?_)
  refine Fp.sq (L2M (by omega) b _ h3) (fun u => ⟨_, rfl⟩) (fun h4 => ?_)
  have e294 : ∀ (n : Int32) (o : Nat → Int32), (if cond il (1 : Int32) 0 = 1 then (f_M_writeGif_294 K n t_bitBuffer t_bitCount t_keyCount t_codeWidth t_codeNext t_codeFirst a_t_widths a_t_heights a_t_images_3 a_t_keys a_t_indices a_t_images_2 a_t_images_1 a_t_images_0 o a_t_rows a_t_kids a_t_data (cond il 1 0) (nI w) (nI h) (nI t) 64) else (f_M_writeGif_294 K n t_bitBuffer t_bitCount t_keyCount t_codeWidth t_codeNext t_codeFirst a_t_widths a_t_heights a_t_images_3 a_t_keys a_t_indices a_t_images_2 a_t_images_1 a_t_images_0 o a_t_rows a_t_kids a_t_data (cond il 1 0) (nI w) (nI h) (nI t) 0)) = (f_M_writeGif_294 K n t_bitBuffer t_bitCount t_keyCount t_codeWidth t_codeNext t_codeFirst a_t_widths a_t_heights a_t_images_3 a_t_keys a_t_indices a_t_images_2 a_t_images_1 a_t_images_0 o a_t_rows a_t_kids a_t_data (cond il 1 0) (nI w) (nI h) (nI t) (cond il 64 0)) := by
    intro n o
    cases il
    · exact if_neg (by decide)
    · exact if_pos rfl
  refine (e294 _ _).symm ▸ ?_
  have hg := gif294 (K := K) il hK hw0 hwh h0 ht b ix hix hlt (cond il 64 0) (Y := (((Y ++ [q_by 44]) ++ L4 0) ++ L2 (nI w)) ++ L2 (nI h)) hl (t_bitBuffer := t_bitBuffer) (t_bitCount := t_bitCount) (t_keyCount := t_keyCount) (t_codeWidth := t_codeWidth) (t_codeNext := t_codeNext) (t_codeFirst := t_codeFirst) (a_t_widths := a_t_widths) (a_t_heights := a_t_heights) (a_t_images_3 := a_t_images_3) (a_t_images_2 := a_t_images_2) (a_t_images_1 := a_t_images_1) (a_t_images_0 := a_t_images_0) (a_t_keys := a_t_keys) (a_t_rows := a_t_rows) (a_t_kids := a_t_kids) (a_t_data := a_t_data)
  simp only [List.append_assoc] at hg ⊢
  exact hg
/-! the table -/
theorem pos_congr2 {c r : Nat → Int32} {x y : Int32} (h : ∀ j, c j = x ↔ r j = y) : ∀ L : List Nat, pos c L x = pos r L y := by
  intro L
  induction L with
  | nil => rfl
  | cons j L ih =>
    show (if c j = x then 0 else pos c L x + 1) = if r j = y then 0 else pos r L y + 1
    by_cases h1 : c j = x
    · rw [if_pos h1, if_pos ((h j).mp h1)]
    · rw [if_neg h1, if_neg (fun e => h1 ((h j).mpr e)), ih]
theorem tr_eq (P : Nat → Int32) (S : List Nat) : pos (fun i => gc (P i)) S (-1) = pos (fun i => kyM 1 (P i)) S 1 := by
  refine pos_congr2 (fun j => ?_) S
  show gc (P j) = -1 ↔ kyM 1 (P j) = 1
  rw [ky1]
  unfold gc
  by_cases c : 128 ≤ P j &&& 255
  · rw [if_pos c, if_pos c]
    exact ⟨fun h => absurd h (us8_ne _), fun h => absurd h (m256_ne _)⟩
  · rw [if_neg c, if_neg c]
    exact ⟨fun _ => rfl, fun _ => rfl⟩
def hx (p u k : Nat) : Int32 := if p < u ∧ p < k then nI p else -1
theorem tabM {K t n : Nat} (hK : 300 < K) (ht : t ≤ 8) (P : Nat → Int32) (b : Nat → Int32) {t_bitBuffer : Int32} {t_bitCount : Int32} {t_codeWidth : Int32} {t_codeNext : Int32} {t_codeFirst : Int32} {a_t_widths : Nat → Int32} {a_t_heights : Nat → Int32} {a_t_images_3 : Nat → Int32} {a_t_keys : Nat → Int32} {a_t_indices : Nat → Int32} {a_t_images_2 : Nat → Int32} {a_t_images_1 : Nat → Int32} {a_t_images_0 : Nat → Int32} {a_t_rows : Nat → Int32} {a_t_kids : Nat → Int32} {a_t_data : Nat → Int32} {x2 : Int32} {x3 : Int32} {x4 : Int32} (hu : (Sp (fun i => kyM 1 (P i)) n).length ≤ 256) (hkeys : ∀ k, k < (Sp (fun i => kyM 1 (P i)) n).length → a_t_keys k = kyM 1 (P (lk (Sp (fun i => kyM 1 (P i)) n) k))) : ∀ (r k q : Nat) (Y : List Int32), k + r = 2 ^ t → r < q → Y.length ≤ 262144 → Ap 262144 b Y (cat (gtab (fun k => P (lk (Sp (fun i => kyM 1 (P i)) n) k)) (Sp (fun i => kyM 1 (P i)) n).length) k r) (fun n' o => (n', o, hx (pos (fun i => kyM 1 (P i)) (Sp (fun i => kyM 1 (P i)) n) 1) (Sp (fun i => kyM 1 (P i)) n).length (2 ^ t))) (f_M_writeGif_L113 K t_bitBuffer t_bitCount (nI (Sp (fun i => kyM 1 (P i)) n).length) t_codeWidth t_codeNext t_codeFirst a_t_widths a_t_heights a_t_images_3 a_t_keys a_t_indices a_t_images_2 a_t_images_1 a_t_images_0 a_t_rows a_t_kids a_t_data x2 x3 x4 (nI t) q (nI Y.length) (wr b Y) (hx (pos (fun i => kyM 1 (P i)) (Sp (fun i => kyM 1 (P i)) n) 1) (Sp (fun i => kyM 1 (P i)) n).length k) (nI k)) := by
  have hp : 2 ^ t ≤ 2 ^ 8 := Nat.pow_le_pow_right (by omega) ht
  intro r
  induction r with
  | zero =>
    intro k q Y hk hq hY
    obtain ⟨q, rfl⟩ : ∃ w, q = w + 1 := ⟨q - 1, by omega⟩
    have e : k = 2 ^ t := by omega
    subst e
    show Ap _ _ _ _ _ (f_M_writeGif_113 K _ (nI Y.length) t_bitBuffer t_bitCount (nI (Sp (fun i => kyM 1 (P i)) n).length) t_codeWidth t_codeNext t_codeFirst a_t_widths a_t_heights a_t_images_3 a_t_keys a_t_indices a_t_images_2 a_t_images_1 a_t_images_0 (wr b Y) a_t_rows a_t_kids a_t_data x2 x3 x4 (nI t) (hx (pos (fun i => kyM 1 (P i)) (Sp (fun i => kyM 1 (P i)) n) 1) (Sp (fun i => kyM 1 (P i)) n).length (2 ^ t)) (nI (2 ^ t)))
    unfold f_M_writeGif_113
    rw [pow_sh t (by omega), if_pos (nI_le (by omega) (by omega))]
    exact Ap.nil (mk := fun n' o => (n', o, hx (pos (fun i => kyM 1 (P i)) (Sp (fun i => kyM 1 (P i)) n) 1) (Sp (fun i => kyM 1 (P i)) n).length (2 ^ t))) hY
  | succ r ih =>
    intro k q Y hk hq hY
    obtain ⟨q, rfl⟩ : ∃ w, q = w + 1 := ⟨q - 1, by omega⟩
    have h179 : ∀ (x9 : Int32), gtab (fun k => P (lk (Sp (fun i => kyM 1 (P i)) n) k)) (Sp (fun i => kyM 1 (P i)) n).length k = [q_by (x9 >>> ((24 : Int32) &&& 31))] ++ ([q_by (x9 >>> ((16 : Int32) &&& 31))] ++ [q_by (x9 >>> ((8 : Int32) &&& 31))]) → Ap 262144 b Y (cat (gtab (fun k => P (lk (Sp (fun i => kyM 1 (P i)) n) k)) (Sp (fun i => kyM 1 (P i)) n).length) k (r + 1)) (fun n' o => (n', o, hx (pos (fun i => kyM 1 (P i)) (Sp (fun i => kyM 1 (P i)) n) 1) (Sp (fun i => kyM 1 (P i)) n).length (2 ^ t))) (f_M_writeGif_179 K ((f_M_writeGif_L113 K t_bitBuffer t_bitCount (nI (Sp (fun i => kyM 1 (P i)) n).length) t_codeWidth t_codeNext t_codeFirst a_t_widths a_t_heights a_t_images_3 a_t_keys a_t_indices a_t_images_2 a_t_images_1 a_t_images_0 a_t_rows a_t_kids a_t_data x2 x3 x4 (nI t)) q) (nI Y.length) t_bitBuffer t_bitCount (nI (Sp (fun i => kyM 1 (P i)) n).length) t_codeWidth t_codeNext t_codeFirst a_t_widths a_t_heights a_t_images_3 a_t_keys a_t_indices a_t_images_2 a_t_images_1 a_t_images_0 (wr b Y) a_t_rows a_t_kids a_t_data x2 x3 x4 (nI t) (hx (pos (fun i => kyM 1 (P i)) (Sp (fun i => kyM 1 (P i)) n) 1) (Sp (fun i => kyM 1 (P i)) n).length (k + 1)) (nI k) x9) := by
      intro x9 he
      rw [cat_s, he, List.append_assoc]
      unfold f_M_writeGif_179
      refine Ap.seq (putM_ap _ _ hY) (fun u => ⟨_, rfl⟩) (fun h1 => ?_)
      rw [List.append_assoc]
      refine Ap.seq (putM_ap _ _ h1) (fun u => ⟨_, rfl⟩) (fun h2 => ?_)
      refine Ap.seq (putM_ap _ _ h2) (fun u => ⟨_, rfl⟩) (fun h3 => ?_)
      rw [nI_1]
      exact ih (k + 1) q _ (by omega) (by omega) h3
    have hz : ([q_by 0, q_by 0, q_by 0] : List Int32) = [q_by ((0 : Int32) >>> ((24 : Int32) &&& 31))] ++ ([q_by ((0 : Int32) >>> ((16 : Int32) &&& 31))] ++ [q_by ((0 : Int32) >>> ((8 : Int32) &&& 31))]) := by decide +kernel
    show Ap _ _ _ _ _ (f_M_writeGif_113 K _ (nI Y.length) t_bitBuffer t_bitCount (nI (Sp (fun i => kyM 1 (P i)) n).length) t_codeWidth t_codeNext t_codeFirst a_t_widths a_t_heights a_t_images_3 a_t_keys a_t_indices a_t_images_2 a_t_images_1 a_t_images_0 (wr b Y) a_t_rows a_t_kids a_t_data x2 x3 x4 (nI t) (hx (pos (fun i => kyM 1 (P i)) (Sp (fun i => kyM 1 (P i)) n) 1) (Sp (fun i => kyM 1 (P i)) n).length k) (nI k))
    unfold f_M_writeGif_113
    rw [pow_sh t (by omega), if_neg (nI_ge (by omega) (by omega))]
    by_cases c : k < (Sp (fun i => kyM 1 (P i)) n).length
    · rw [if_neg (nI_ge (by omega) (by omega)), if_pos (q_inb (by omega) (by omega)), nI_clamp (by omega), hkeys k c]
      by_cases c1 : kyM 1 (P (lk (Sp (fun i => kyM 1 (P i)) n) k)) = 1
      · have hpk : pos (fun i => kyM 1 (P i)) (Sp (fun i => kyM 1 (P i)) n) 1 = k := by
          have := Sp_inj (fun i => kyM 1 (P i)) n k c
          rw [c1] at this
          exact this
        rw [if_pos c1]
        unfold f_M_writeGif_152 f_M_writeGif_153
        rw [if_neg (nI_ge (by omega) (by omega)), if_pos (q_inb (by omega) (by omega)), nI_clamp (by omega), hkeys k c, if_pos c1]
        have h1 := h179 0 (by
          unfold gtab gcol
          rw [if_pos c]
          rw [ky1] at c1
          by_cases c2 : 128 ≤ P (lk (Sp (fun i => kyM 1 (P i)) n) k) &&& 255
          · rw [if_pos c2] at c1
            exact absurd c1 (m256_ne _)
          · rw [if_neg c2]
            exact hz)
        rw [show hx (pos (fun i => kyM 1 (P i)) (Sp (fun i => kyM 1 (P i)) n) 1) (Sp (fun i => kyM 1 (P i)) n).length (k + 1) = nI k by unfold hx; rw [hpk, if_pos ⟨c, by omega⟩]] at h1
        exact h1
      · have hpk : pos (fun i => kyM 1 (P i)) (Sp (fun i => kyM 1 (P i)) n) 1 ≠ k := fun e => by
          have h2 := pos_hit (fun i => kyM 1 (P i)) 1 (Sp (fun i => kyM 1 (P i)) n) (by omega)
          rw [e] at h2
          exact c1 h2
        rw [if_neg c1, if_pos (q_inb (by omega) (by omega))]
        unfold f_M_writeGif_153
        rw [if_neg (nI_ge (by omega) (by omega)), if_pos (q_inb (by omega) (by omega)), nI_clamp (by omega), hkeys k c, if_neg c1]
        have h1 := h179 (kyM 1 (P (lk (Sp (fun i => kyM 1 (P i)) n) k))) (by
          unfold gtab gcol
          rw [if_pos c]
          rw [ky1] at c1 ⊢
          by_cases c2 : 128 ≤ P (lk (Sp (fun i => kyM 1 (P i)) n) k) &&& 255
          · rw [if_pos c2, if_pos c2]
            rw [show (24 : Int32) = nI 24 from rfl, show (16 : Int32) = nI 16 from rfl, show (8 : Int32) = nI 8 from rfl, by_m256 _ (by omega) (by omega), by_m256 _ (by omega) (by omega), by_m256 _ (by omega) (by omega)]
            rfl
          · rw [if_neg c2] at c1
            exact absurd rfl c1)
        rw [show hx (pos (fun i => kyM 1 (P i)) (Sp (fun i => kyM 1 (P i)) n) 1) (Sp (fun i => kyM 1 (P i)) n).length (k + 1) = hx (pos (fun i => kyM 1 (P i)) (Sp (fun i => kyM 1 (P i)) n) 1) (Sp (fun i => kyM 1 (P i)) n).length k by
          unfold hx
          by_cases c3 : pos (fun i => kyM 1 (P i)) (Sp (fun i => kyM 1 (P i)) n) 1 < (Sp (fun i => kyM 1 (P i)) n).length ∧ pos (fun i => kyM 1 (P i)) (Sp (fun i => kyM 1 (P i)) n) 1 < k
          · rw [if_pos c3, if_pos ⟨c3.1, by omega⟩]
          · rw [if_neg c3, if_neg (fun q => c3 ⟨q.1, by omega⟩)]] at h1
        exact h1
    · rw [if_pos (nI_le (by omega) (by omega))]
      unfold f_M_writeGif_152 f_M_writeGif_153
      rw [if_pos (nI_le (by omega) (by omega))]
      have h1 := h179 0 (by
        unfold gtab
        rw [if_neg c]
        exact hz)
      rw [show hx (pos (fun i => kyM 1 (P i)) (Sp (fun i => kyM 1 (P i)) n) 1) (Sp (fun i => kyM 1 (P i)) n).length (k + 1) = hx (pos (fun i => kyM 1 (P i)) (Sp (fun i => kyM 1 (P i)) n) 1) (Sp (fun i => kyM 1 (P i)) n).length k by
        unfold hx
        by_cases c3 : pos (fun i => kyM 1 (P i)) (Sp (fun i => kyM 1 (P i)) n) 1 < (Sp (fun i => kyM 1 (P i)) n).length ∧ pos (fun i => kyM 1 (P i)) (Sp (fun i => kyM 1 (P i)) n) 1 < k
        · rw [if_pos c3, if_pos ⟨c3.1, by omega⟩]
        · rw [if_neg c3, if_neg (fun q => c3 ⟨q.1, by omega⟩)]] at h1
      exact h1
theorem textM {K : Nat} (hK : 10 < K) {t_bitBuffer : Int32} {t_bitCount : Int32} {t_keyCount : Int32} {t_codeWidth : Int32} {t_codeNext : Int32} {t_codeFirst : Int32} {a_t_widths : Nat → Int32} {a_t_heights : Nat → Int32} {a_t_images_3 : Nat → Int32} {a_t_keys : Nat → Int32} {a_t_indices : Nat → Int32} {a_t_images_2 : Nat → Int32} {a_t_images_1 : Nat → Int32} {a_t_images_0 : Nat → Int32} {a_t_rows : Nat → Int32} {a_t_kids : Nat → Int32} {a_t_data : Nat → Int32} {x2 : Int32} {x3 : Int32} {x4 : Int32} {x5 : Int32} (b : Nat → Int32) {Y : List Int32} (hn : Y.length ≤ 262144) : Ap 262144 b Y gtx Prod.mk (f_M_writeGif_L49 K t_bitBuffer t_bitCount t_keyCount t_codeWidth t_codeNext t_codeFirst a_t_widths a_t_heights a_t_images_3 a_t_keys a_t_indices a_t_images_2 a_t_images_1 a_t_images_0 a_t_rows a_t_kids a_t_data x2 x3 x4 x5 K (nI Y.length) (wr b Y) 0) := by
  have ht : ∀ k, k < 6 → f_java_lang_String_charAtT 6 (nI k) str_M_435 = some (str_GifWriter_120 k, ()) := by decide +kernel
  refine Ap.up (c := 6) (f_M_writeGif_L49 K t_bitBuffer t_bitCount t_keyCount t_codeWidth t_codeNext t_codeFirst a_t_widths a_t_heights a_t_images_3 a_t_keys a_t_indices a_t_images_2 a_t_images_1 a_t_images_0 a_t_rows a_t_kids a_t_data x2 x3 x4 x5) (fun k => [q_by (str_GifWriter_120 k)]) (fun q n b => ?_) (fun q k Y X hk hn ih => ?_) 6 0 K Y (by omega) (by omega) hn
  · show (f_M_writeGif_49 K _ n t_bitBuffer t_bitCount t_keyCount t_codeWidth t_codeNext t_codeFirst a_t_widths a_t_heights a_t_images_3 a_t_keys a_t_indices a_t_images_2 a_t_images_1 a_t_images_0 b a_t_rows a_t_kids a_t_data x2 x3 x4 x5 (nI 6)) = _
    unfold f_M_writeGif_49
    rw [if_pos (by decide)]
  · show Ap 262144 _ Y _ _ (f_M_writeGif_49 K _ (nI Y.length) t_bitBuffer t_bitCount t_keyCount t_codeWidth t_codeNext t_codeFirst a_t_widths a_t_heights a_t_images_3 a_t_keys a_t_indices a_t_images_2 a_t_images_1 a_t_images_0 (wr b Y) a_t_rows a_t_kids a_t_data x2 x3 x4 x5 (nI k))
    unfold f_M_writeGif_49
    rw [if_neg (show ¬ (6 : Int32) ≤ nI k from show ¬ nI 6 ≤ nI k from nI_ge hk (by omega)), ht k hk, q_bind, nI_1]
    exact Ap.seq (putM_ap _ _ hn) (fun u => ⟨_, rfl⟩) ih
theorem gHead_eq (w h : Int32) (t : Nat) (R : List Int32) : gHead w h t ++ R = gtx ++ (L2 w ++ (L2 h ++ ([q_by (128 + 17 * (nI t - 1))] ++ (L2 0 ++ R)))) := by
  unfold gHead
  rw [L2_0]
  simp only [List.append_assoc]
theorem Fp.mono {α ε : Type} {N L : Nat} {Pr Pr' : α → Prop} {r : Option (α ⊕ (Nat × ε))} (h : Fp N L Pr' r) (hp : ∀ a, Pr' a → Pr a) : Fp N L Pr r := ⟨fun hl => by
  obtain ⟨a, h1, h2⟩ := h.1 hl
  exact ⟨a, h1, hp a h2⟩, h.2⟩
theorem gifM {K w h sl : Nat} (il : Bool) (hK : 1048577 < K) (hsl : sl < 4) (hw0 : 0 < w) (hh0 : 0 < h) (hwh : w * h ≤ 16384) (b P Wm Hm : Nat → Int32) (Q : Nat → Nat → Int32) (hQ : ∀ j, j < w * h → Q sl j = P j) (hW : Wm sl = nI w) (hH : Hm sl = nI h) {t_bitBuffer : Int32} {t_bitCount : Int32} {t_keyCount : Int32} {t_codeWidth : Int32} {t_codeNext : Int32} {t_codeFirst : Int32} {a_t_keys : Nat → Int32} {a_t_indices : Nat → Int32} {a_t_rows : Nat → Int32} {a_t_kids : Nat → Int32} {a_t_data : Nat → Int32} :
    Fc (256 < (gS P (w * h)).length) 262144 (gifL P w h il).length (fun a => a.2.1 = nI (gifL P w h il).length ∧ ∃ b', a.2.2.2.2.2.2.2.2.2.2.1 = wr b' (gifL P w h il)) (f_M_writeGif K (nI sl) (cond il 1 0) 0 t_bitBuffer t_bitCount t_keyCount t_codeWidth t_codeNext t_codeFirst Wm Hm (Q 3) a_t_keys a_t_indices (Q 2) (Q 1) (Q 0) b a_t_rows a_t_kids a_t_data) := by
  have hS : gS P (w * h) = Sp (fun i => kyM 1 (P i)) (w * h) := Sp_congr (col_eq1 P) (w * h)
  have h0 : 0 < w * h := Nat.mul_pos hw0 hh0
  have hpos : ∀ i, pos (fun i => kyM 1 (P i)) (Sp (fun i => kyM 1 (P i)) (w * h)) (kyM 1 (P i)) = pos (fun i => gc (P i)) (gS P (w * h)) (gc (P i)) := by
    intro i
    rw [← hS]
    exact (pos_congr (col_eq1 P) i _).symm
  have hcoll := collect_ok (K := K) (by omega) hsl rfl hwh P Wm Hm Q hQ hW hH 1 t_keyCount a_t_keys a_t_indices
  unfold f_M_writeGif
  rw [if_pos (q_inb hsl (by omega)), if_pos (q_inb hsl (by omega))]
  rcases hcoll with ⟨s, ⟨hL, hu, hkeys, hix⟩, h2⟩ | ⟨hB, u, h2⟩
  · have hLg : (gS P (w * h)).length ≤ 256 := by rw [hS]; exact hL
    obtain ⟨t1, t2, t3, t4⟩ := tb_ok _ hL
    refine Fc.okp (by omega) ?_
    rw [h2, q_tryL]
    show Fp _ _ _ (dc_bind (f_M_writeGif_L24 K 0 t_bitBuffer t_bitCount s.1 t_codeWidth t_codeNext t_codeFirst Wm Hm (Q 3) s.2.1 s.2.2 (Q 2) (Q 1) (Q 0) b a_t_rows a_t_kids a_t_data (cond il 1 0) (Wm (nI sl).toNatClampNeg) (Hm (nI sl).toNatClampNeg) K 1) _)
    rw [nI_clamp (by omega), hW, hH, hu]
    refine Fp.bnd (tbM (by omega) hL (tb (Sp (fun i => kyM 1 (P i)) (w * h)).length - 1) 1 K (by omega) (by omega) (by omega)) ?_
    have hT := textM (K := K) (by omega) b (Y := []) (Nat.zero_le _) (t_bitBuffer := t_bitBuffer) (t_bitCount := t_bitCount) (t_keyCount := nI (Sp (fun i => kyM 1 (P i)) (w * h)).length) (t_codeWidth := t_codeWidth) (t_codeNext := t_codeNext) (t_codeFirst := t_codeFirst) (a_t_widths := Wm) (a_t_heights := Hm) (a_t_images_3 := Q 3) (a_t_images_2 := Q 2) (a_t_images_1 := Q 1) (a_t_images_0 := Q 0) (a_t_keys := s.2.1) (a_t_indices := s.2.2) (a_t_rows := a_t_rows) (a_t_kids := a_t_kids) (a_t_data := a_t_data) (x2 := cond il 1 0) (x3 := nI w) (x4 := nI h) (x5 := nI (tb (Sp (fun i => kyM 1 (P i)) (w * h)).length))
    rw [wr_nil] at hT
    have eL : gifL P w h il = [] ++ (gtx ++ (L2 (nI w) ++ (L2 (nI h) ++ ([q_by (128 + 17 * (nI (tb (Sp (fun i => kyM 1 (P i)) (w * h)).length) - 1))] ++ (L2 0 ++ (cat (gtab (fun k => P (lk (Sp (fun i => kyM 1 (P i)) (w * h)) k)) (Sp (fun i => kyM 1 (P i)) (w * h)).length) 0 (2 ^ tb (Sp (fun i => kyM 1 (P i)) (w * h)).length) ++ (gExt (trI (fun i => gc (P i)) (gS P (w * h))) ++ ([q_by 44] ++ (L4 0 ++ (L2 (nI w) ++ (L2 (nI h) ++ ([q_by (cond il 64 0)] ++ ([q_by (nI (max 2 (tb (Sp (fun i => kyM 1 (P i)) (w * h)).length)))] ++ (subs (Zf [] (lzA (max 2 (tb (Sp (fun i => kyM 1 (P i)) (w * h)).length)) (gIx P w h il) (w * h))) ++ ([q_by 0] ++ [q_by 59]))))))))))))))) := by
      rw [List.nil_append, ← gHead_eq, L4_0, ← hS]
      unfold gifL gifH gC
      simp only [List.append_assoc]
    have hPr : ∀ Z, Z = gifL P w h il → ∀ a : Unit × (Int32 × Int32 × Int32 × Int32 × Int32 × Int32 × Int32 × (Nat → Int32) × (Nat → Int32) × (Nat → Int32) × (Nat → Int32) × (Nat → Int32) × (Nat → Int32)), (a.2.1 = nI Z.length ∧ ∃ b', a.2.2.2.2.2.2.2.2.2.2.1 = wr b' Z) → (a.2.1 = nI (gifL P w h il).length ∧ ∃ b', a.2.2.2.2.2.2.2.2.2.2.1 = wr b' (gifL P w h il)) := by
      intro Z hZ a ha
      rw [← hZ]
      exact ha
    refine Fp.len (congrArg List.length eL) ?_
    refine Fp.sqL hT (fun u => ⟨u, rfl⟩) (fun h1 => ?_)
    refine Fp.sq (L2M (by omega) b _ h1) (fun u => ⟨_, rfl⟩) (fun h3 => ?_)
    refine Fp.sq (L2M (by omega) b _ h3) (fun u => ⟨_, rfl⟩) (fun h4 => ?_)
    refine Fp.sq (putM_ap b _ h4) (fun u => ⟨_, rfl⟩) (fun h5 => ?_)
    refine Fp.sq (L2M (by omega) b 0 h5) (fun u => ⟨_, rfl⟩) (fun h6 => ?_)
    have hTab := tabM (K := K) (t := tb (Sp (fun i => kyM 1 (P i)) (w * h)).length) (n := w * h) (by omega) t2 P b hL hkeys (2 ^ tb (Sp (fun i => kyM 1 (P i)) (w * h)).length) 0 K _ (by omega) (by have : 2 ^ tb (Sp (fun i => kyM 1 (P i)) (w * h)).length ≤ 2 ^ 8 := Nat.pow_le_pow_right (by omega) t2; omega) h6 (t_bitBuffer := t_bitBuffer) (t_bitCount := t_bitCount) (t_codeWidth := t_codeWidth) (t_codeNext := t_codeNext) (t_codeFirst := t_codeFirst) (a_t_widths := Wm) (a_t_heights := Hm) (a_t_images_3 := Q 3) (a_t_images_2 := Q 2) (a_t_images_1 := Q 1) (a_t_images_0 := Q 0) (a_t_indices := s.2.2) (a_t_rows := a_t_rows) (a_t_kids := a_t_kids) (a_t_data := a_t_data) (x2 := cond il 1 0) (x3 := nI w) (x4 := nI h)
    rw [show hx (pos (fun i => kyM 1 (P i)) (Sp (fun i => kyM 1 (P i)) (w * h)) 1) (Sp (fun i => kyM 1 (P i)) (w * h)).length 0 = -1 from if_neg (fun q => Nat.not_lt_zero _ q.2)] at hTab
    refine Fp.sqL hTab (fun u => ⟨u, rfl⟩) (fun h7 => ?_)
    have htr : hx (pos (fun i => kyM 1 (P i)) (Sp (fun i => kyM 1 (P i)) (w * h)) 1) (Sp (fun i => kyM 1 (P i)) (w * h)).length (2 ^ tb (Sp (fun i => kyM 1 (P i)) (w * h)).length) = trI (fun i => gc (P i)) (gS P (w * h)) := by
      unfold hx trI
      rw [tr_eq, ← hS]
      have t3' : (gS P (w * h)).length ≤ 2 ^ tb (gS P (w * h)).length := (tb_ok _ hLg).2.2.1
      by_cases c : pos (fun i => kyM 1 (P i)) (gS P (w * h)) 1 < (gS P (w * h)).length
      · rw [if_pos ⟨c, by omega⟩, if_pos c]
      · rw [if_neg (fun q => c q.1), if_neg c]
    rw [htr]
    have hix2 : ∀ i, i < w * h → s.2.2 (plc w h il i) = nI (gIx P w h il i) := fun i hi => (hix _ (plc_lt hi)).trans (congrArg nI (hpos _))
    have hlt2 : ∀ i, i < w * h → gIx P w h il i < 2 ^ max 2 (tb (Sp (fun i => kyM 1 (P i)) (w * h)).length) := fun i hi => by rw [← hS]; exact gIx_lt hLg hi
    have hlen : (((((([] ++ gtx) ++ L2 (nI w)) ++ L2 (nI h)) ++ [q_by (128 + 17 * (nI (tb (Sp (fun i => kyM 1 (P i)) (w * h)).length) - 1))]) ++ L2 0) ++ cat (gtab (fun k => P (lk (Sp (fun i => kyM 1 (P i)) (w * h)) k)) (Sp (fun i => kyM 1 (P i)) (w * h)).length) 0 (2 ^ tb (Sp (fun i => kyM 1 (P i)) (w * h)).length)).length ≤ 800 := by
      have : 2 ^ tb (Sp (fun i => kyM 1 (P i)) (w * h)).length ≤ 2 ^ 8 := Nat.pow_le_pow_right (by omega) t2
      rw [List.length_append, cat_len (m := 3) (fun k => gtab_len _ _ k)]
      show 13 + _ ≤ 800
      omega
    show Fp _ _ _ (if trI (fun i => gc (P i)) (gS P (w * h)) < 0 then _ else _)
    generalize hY7 : ((((([] ++ gtx) ++ L2 (nI w)) ++ L2 (nI h)) ++ [q_by (128 + 17 * (nI (tb (Sp (fun i => kyM 1 (P i)) (w * h)).length) - 1))]) ++ L2 0) ++ cat (gtab (fun k => P (lk (Sp (fun i => kyM 1 (P i)) (w * h)) k)) (Sp (fun i => kyM 1 (P i)) (w * h)).length) 0 (2 ^ tb (Sp (fun i => kyM 1 (P i)) (w * h)).length) = Y7 at h7 hlen ⊢
    by_cases c : pos (fun i => gc (P i)) (gS P (w * h)) (-1) < (gS P (w * h)).length
    · have e1 : trI (fun i => gc (P i)) (gS P (w * h)) = nI (pos (fun i => gc (P i)) (gS P (w * h)) (-1)) := if_pos c
      have e2 : gExt (trI (fun i => gc (P i)) (gS P (w * h))) = [q_by 33] ++ ([q_by 249] ++ ([q_by 4] ++ ([q_by 1] ++ (L2 0 ++ ([q_by (trI (fun i => gc (P i)) (gS P (w * h)))] ++ [q_by 0]))))) := by
        unfold gExt
        rw [if_pos (by rw [e1]; exact nI_pos' (by omega)), L2_0]
      rw [if_neg (by rw [e1]; exact nI_pos (by omega)), e2]
      simp only [List.append_assoc]
      refine Fp.sq (putM_ap b _ h7) (fun u => ⟨_, rfl⟩) (fun g1 => ?_)
      refine Fp.sq (putM_ap b _ g1) (fun u => ⟨_, rfl⟩) (fun g2 => ?_)
      refine Fp.sq (putM_ap b _ g2) (fun u => ⟨_, rfl⟩) (fun g3 => ?_)
      refine Fp.sq (putM_ap b _ g3) (fun u => ⟨_, rfl⟩) (fun g4 => ?_)
      refine Fp.sq (L2M (by omega) b 0 g4) (fun u => ⟨_, rfl⟩) (fun g5 => ?_)
      refine Fp.sq (putM_ap b _ g5) (fun u => ⟨_, rfl⟩) (fun g6 => ?_)
      refine Fp.sq (putM_ap b _ g6) (fun u => ⟨_, rfl⟩) (fun g7 => ?_)
      refine Fp.mono (gif257 il hK hw0 hwh h0 t2 b (gIx P w h il) hix2 hlt2 (by
        simp only [List.length_append]
        show Y7.length + 1 + 1 + 1 + 1 + 2 + 1 + 1 ≤ 900
        omega)) (hPr _ ?_)
      rw [eL, e2, ← hY7]
      simp only [List.append_assoc]
    · have e1 : trI (fun i => gc (P i)) (gS P (w * h)) = -1 := if_neg c
      have e2 : gExt (trI (fun i => gc (P i)) (gS P (w * h))) = [] := by
        unfold gExt
        rw [e1, if_neg (by decide)]
      rw [if_pos (by rw [e1]; decide), e2, List.nil_append]
      refine Fp.mono (gif257 il hK hw0 hwh h0 t2 b (gIx P w h il) hix2 hlt2 (by omega)) (hPr _ ?_)
      rw [eL, e2, List.nil_append ([q_by 44] ++ _), ← hY7]
      simp only [List.append_assoc]
  · refine Fc.th (by rw [hS]; exact hB) ?_
    rw [h2, q_tryR]
    exact ⟨_, rfl⟩
