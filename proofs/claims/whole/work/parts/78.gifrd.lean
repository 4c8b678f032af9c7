/-! the pure half: a GIF file read -/
theorem Lr.try {α ε α' ε' β δ β' δ' : Type} {R : α → α' → Prop} {R' : β → β' → Prop} {m : Option (α ⊕ (Nat × ε))} {m' : Option (α' ⊕ (Nat × ε'))} {f : α → Option (β ⊕ (Nat × δ))} {g : Nat × ε → Option (β ⊕ (Nat × δ))} {f' : α' → Option (β' ⊕ (Nat × δ'))} {g' : Nat × ε' → Option (β' ⊕ (Nat × δ'))} (h : Lk R m m') (hg : ∀ u, ∃ u', g (3, u) = some (.inr (3, u'))) (hg' : ∀ u, ∃ u', g' (3, u) = some (.inr (3, u'))) (hf : ∀ a b, R a b → Lr R' (f a) (f' b)) : Lr R' (dc_try m f g) (dc_try m' f' g') := by
  rcases h with ⟨⟨u, hu⟩, ⟨v, hv⟩⟩ | ⟨a, b, ha, hb, hR⟩
  · rw [hu, hv, q_tryR, q_tryR]
    exact Or.inl ⟨hg u, hg' v⟩
  · rw [ha, hb, q_tryL, q_tryL]
    exact hf a b hR
theorem Lr.step {α ε α' ε' β δ β' δ' : Type} {φ : Prop} {a : α} {b : α'} {R' : β → β' → Prop} {m : Option (α ⊕ (Nat × ε))} {m' : Option (α' ⊕ (Nat × ε'))} {f : α → Option (β ⊕ (Nat × δ))} {g : Nat × ε → Option (β ⊕ (Nat × δ))} {f' : α' → Option (β' ⊕ (Nat × δ'))} {g' : Nat × ε' → Option (β' ⊕ (Nat × δ'))} (h : Ex φ a m) (h' : Ex φ b m') (hg : ∀ u, ∃ u', g (3, u) = some (.inr (3, u'))) (hg' : ∀ u, ∃ u', g' (3, u) = some (.inr (3, u'))) (hf : φ → Lr R' (f a) (f' b)) : Lr R' (dc_try m f g) (dc_try m' f' g') :=
  Lr.try (Lk.both h h') hg hg' (fun x y hxy => by rw [hxy.1, hxy.2.1]; exact hf hxy.2.2)
theorem Lr.no {α ε α' ε' : Type} {R : α → α' → Prop} {m : Option (α ⊕ (Nat × ε))} {m' : Option (α' ⊕ (Nat × ε'))} (h : Th 3 m) (h' : Th 3 m') : Lr R m m' := Or.inl ⟨h, h'⟩
def g8 (n : Nat) (t : Nat → Nat) : Prop := 4 ≤ n ∧ t 0 = 71 ∧ t 1 = 73 ∧ t 2 = 70 ∧ t 3 = 56
theorem eq_lit {a b : Nat} (ha : a < 256) (hb : b < 256) (h : ¬ a = b) : ¬ nI a = nI b := fun q => h ((nI_eq32 (by omega) (by omega)).mp q)
theorem g8M_L {K n : Nat} (hn : n ≤ 65536) {TM : Nat → Int32} {t : Nat → Nat} (htM : Tb n TM t) {t_width : Int32} {t_height : Int32} {t_colours : Int32} {t_dataSize : Int32} {t_bitAt : Int32} {t_rowBytes : Int32} {t_expected : Int32} {a_t_palette : Nat → Int32} {a_t_points : Nat → Int32} {a_t_data : Nat → Int32} {a_t_own : Nat → Int32} {a_t_before : Nat → Int32} {a_t_lastIndex : Nat → Int32} {a_t_deep : Nat → Int32} {a_t_rows : Nat → Int32} : ∀ (r k q : Nat), k + r = 4 → r < q → k ≤ n → (∀ j, j < k → nI (t j) = str_M_324 j) → Gq (4 ≤ n ∧ ∀ j, j < 4 → nI (t j) = str_M_324 j) (fun m => m = some (.inl (nI 4))) (f_M_readGif_L6 K (nI n) t_width t_height t_colours t_dataSize t_bitAt t_rowBytes t_expected TM a_t_palette a_t_points a_t_data a_t_own a_t_before a_t_lastIndex a_t_deep a_t_rows q (nI k) (nI k)) := by
  intro r
  induction r with
  | zero =>
    intro k q hk hq hp hI
    obtain ⟨q, rfl⟩ : ∃ w, q = w + 1 := ⟨q - 1, by omega⟩
    have e : k = 4 := by omega
    subst e
    refine Gq.yes ⟨hp, hI⟩ ?_
    show (f_M_readGif_6 K _ (nI n) (nI 4) t_width t_height t_colours t_dataSize t_bitAt t_rowBytes t_expected TM a_t_palette a_t_points a_t_data a_t_own a_t_before a_t_lastIndex a_t_deep a_t_rows (nI 4)) = _
    unfold f_M_readGif_6
    rw [if_pos (show (4 : Int32) ≤ nI 4 by decide)]
  | succ r ih =>
    intro k q hk hq hp hI
    obtain ⟨q, rfl⟩ : ∃ w, q = w + 1 := ⟨q - 1, by omega⟩
    show Gq _ _ (f_M_readGif_6 K _ (nI n) (nI k) t_width t_height t_colours t_dataSize t_bitAt t_rowBytes t_expected TM a_t_palette a_t_points a_t_data a_t_own a_t_before a_t_lastIndex a_t_deep a_t_rows (nI k))
    unfold f_M_readGif_6 f_M_readGif_29
    rw [if_neg (show ¬ (4 : Int32) ≤ nI k from show ¬ nI 4 ≤ nI k from nI_ge (by omega) (by omega))]
    refine Gq.try (nextM_ex hp hn htM) (fun u => ⟨_, rfl⟩) (fun h => by have := h.1; omega) (fun h1 => ?_)
    have hch : f_java_lang_String_charAtT 4 (nI k) str_M_324 = some (str_M_324 k, ()) := by
      rcases (show k = 0 ∨ k = 1 ∨ k = 2 ∨ k = 3 by omega) with rfl | rfl | rfl | rfl <;> rfl
    rw [hch, q_bind]
    by_cases c : nI (t k) = str_M_324 k
    · rw [if_pos c, can1, q_tryL, nI_1]
      exact ih (k + 1) q (by omega) (by omega) (by omega) (fun j hj => by
        by_cases e : j = k
        · rw [e]; exact c
        · exact hI j (by omega))
    · rw [if_neg c, can0, q_tryR]
      exact Gq.no (fun h => c (h.2 k (by omega))) ⟨_, rfl⟩
theorem g8_iff {n : Nat} {t : Nat → Nat} (hb : ∀ j, t j < 256) : g8 n t ↔ (4 ≤ n ∧ ∀ j, j < 4 → nI (t j) = str_M_324 j) := by
  have b0 := hb 0
  have b1 := hb 1
  have b2 := hb 2
  have b3 := hb 3
  constructor
  · rintro ⟨h0, h1, h2, h3, h4⟩
    refine ⟨h0, fun j hj => ?_⟩
    rcases (show j = 0 ∨ j = 1 ∨ j = 2 ∨ j = 3 by omega) with rfl | rfl | rfl | rfl
    · rw [h1]; rfl
    · rw [h2]; rfl
    · rw [h3]; rfl
    · rw [h4]; rfl
  · rintro ⟨h0, h⟩
    refine ⟨h0, ?_, ?_, ?_, ?_⟩
    · exact (nI_eq32 (b := 71) (by omega) (by omega)).mp (h 0 (by omega))
    · exact (nI_eq32 (b := 73) (by omega) (by omega)).mp (h 1 (by omega))
    · exact (nI_eq32 (b := 70) (by omega) (by omega)).mp (h 2 (by omega))
    · exact (nI_eq32 (b := 56) (by omega) (by omega)).mp (h 3 (by omega))
theorem g8D {K n : Nat} (hn : n ≤ 65536) {T : Nat → Int32} {t : Nat → Nat} (ht : Tb n T t) {t_colours : Int32} {p1_width : Int32} {p1_height : Int32} {a_t_table : Nat → Int32} : Gq (g8 n t) (fun m => m = (f_GifReader_takeHead_53 K t_colours (nI 4) (nI n) T p1_width p1_height a_t_table 1)) (f_GifReader_takeHead K t_colours (nI 0) (nI n) T p1_width p1_height a_t_table) := by
  have hno : ∀ A : Int32, Th 3 (f_GifReader_takeHead_52 K t_colours A (nI n) T p1_width p1_height a_t_table) := by
    intro A
    unfold f_GifReader_takeHead_52 f_GifReader_takeHead_53
    rw [need0, q_tryR]
    exact ⟨_, rfl⟩
  unfold f_GifReader_takeHead
  refine Gq.try (next_ex (by omega) hn ht) (fun u => ⟨_, rfl⟩) (fun h => by have := h.1; omega) (fun h1 => ?_)
  by_cases c0 : t 0 = 71
  rotate_left
  · rw [if_neg (show ¬ nI (t 0) = 71 from eq_lit (b := 71) (ht.2 0) (by omega) c0)]
    exact Gq.no (fun h => c0 h.2.1) (hno _)
  rw [if_pos (show nI (t 0) = 71 by rw [c0]; rfl)]
  refine Gq.try (next_ex (show 0 + 1 ≤ n by omega) hn ht) (fun u => ⟨_, rfl⟩) (fun h => by have := h.1; omega) (fun h2 => ?_)
  by_cases c1 : t 1 = 73
  rotate_left
  · rw [if_neg (show ¬ nI (t (0 + 1)) = 73 from eq_lit (b := 73) (ht.2 _) (by omega) c1)]
    exact Gq.no (fun h => c1 h.2.2.1) (hno _)
  rw [if_pos (show nI (t (0 + 1)) = 73 by rw [show t (0 + 1) = 73 from c1]; rfl)]
  refine Gq.try (next_ex (show 0 + 1 + 1 ≤ n by omega) hn ht) (fun u => ⟨_, rfl⟩) (fun h => by have := h.1; omega) (fun h3 => ?_)
  by_cases c2 : t 2 = 70
  rotate_left
  · rw [if_neg (show ¬ nI (t (0 + 1 + 1)) = 70 from eq_lit (b := 70) (ht.2 _) (by omega) c2)]
    exact Gq.no (fun h => c2 h.2.2.2.1) (hno _)
  rw [if_pos (show nI (t (0 + 1 + 1)) = 70 by rw [show t (0 + 1 + 1) = 70 from c2]; rfl)]
  refine Gq.try (next_ex (show 0 + 1 + 1 + 1 ≤ n by omega) hn ht) (fun u => ⟨_, rfl⟩) (fun h => by have := h.1; omega) (fun h4 => ?_)
  by_cases c3 : t 3 = 56
  rotate_left
  · rw [if_neg (show ¬ nI (t (0 + 1 + 1 + 1)) = 56 from eq_lit (b := 56) (ht.2 _) (by omega) c3)]
    exact Gq.no (fun h => c3 h.2.2.2.2) (hno _)
  rw [if_pos (show nI (t (0 + 1 + 1 + 1)) = 56 by rw [show t (0 + 1 + 1 + 1) = 56 from c3]; rfl)]
  exact Gq.yes ⟨by omega, c0, c1, c2, c3⟩ rfl
theorem zeroM_L {K W H : Nat} (hWH : W * H ≤ 16384) {t_taped : Int32} {t_at : Int32} {t_colours : Int32} {t_dataSize : Int32} {t_bitAt : Int32} {t_rowBytes : Int32} {t_expected : Int32} {a_t_tape : Nat → Int32} {a_t_palette : Nat → Int32} {a_t_data : Nat → Int32} {a_t_own : Nat → Int32} {a_t_before : Nat → Int32} {a_t_lastIndex : Nat → Int32} {a_t_deep : Nat → Int32} {a_t_rows : Nat → Int32} : ∀ (r k q : Nat) (pts : Nat → Int32), k + r = W * H → r < q → (f_M_readGif_L150 K t_taped t_at (nI W) (nI H) t_colours t_dataSize t_bitAt t_rowBytes t_expected a_t_tape a_t_palette a_t_data a_t_own a_t_before a_t_lastIndex a_t_deep a_t_rows q (lyv pts 0 k 0) (nI k)) = some (lyv pts 0 (W * H) 0) := by
  intro r
  induction r with
  | zero =>
    intro k q pts hk hq
    obtain ⟨q, rfl⟩ : ∃ w, q = w + 1 := ⟨q - 1, by omega⟩
    have e : k = W * H := by omega
    show (f_M_readGif_150 K _ t_taped t_at (nI W) (nI H) t_colours t_dataSize t_bitAt t_rowBytes t_expected a_t_tape a_t_palette (lyv pts 0 k 0) a_t_data a_t_own a_t_before a_t_lastIndex a_t_deep a_t_rows (nI k)) = _
    unfold f_M_readGif_150
    rw [pk_mul, ← e, if_pos (nI_le (by omega) (by omega))]
  | succ r ih =>
    intro k q pts hk hq
    obtain ⟨q, rfl⟩ : ∃ w, q = w + 1 := ⟨q - 1, by omega⟩
    show (f_M_readGif_150 K _ t_taped t_at (nI W) (nI H) t_colours t_dataSize t_bitAt t_rowBytes t_expected a_t_tape a_t_palette (lyv pts 0 k 0) a_t_data a_t_own a_t_before a_t_lastIndex a_t_deep a_t_rows (nI k)) = _
    unfold f_M_readGif_150
    have hl := lyv_s pts 0 k 0
    rw [Nat.zero_add] at hl
    rw [pk_mul, if_neg (nI_ge (by omega) (by omega)), if_pos (q_inb (by omega) (by omega)), nI_clamp (by omega), nI_1, hl]
    exact ih (k + 1) q pts (by omega) (by omega)
theorem gif_tail {K n w h p c : Nat} (hK : 600000 < K) (hn : n ≤ 65536) (hw0 : 0 < w) (hh0 : 0 < h) (hbig : w * h ≤ 16384) (hp0 : 0 < p) (hp : p ≤ n) (hc : c ≤ 256) {T TM tab pal ptsD ptsM : Nat → Int32} {t : Nat → Nat} (ht : Tf p n T t) (hB : Bt n T) (htM : Tb n TM t) (hA : Agr c tab pal) {t_made : Int32} {t_in_gatheredFrom : Int32} {t_in_gatheredTo : Int32} {t_packed_at : Int32} {t_packed_stop : Int32} {t_packed_bitStore : Int32} {t_packed_bitsHeld : Int32} {a_t_rowStarts : Nat → Int32} {a_t_rowLengths : Nat → Int32} {a_t_indices : Nat → Int32} {a_t_order : Nat → Int32} {t_colours t_dataSize t_bitAt t_rowBytes t_expected : Int32} {a_t_data a_t_own a_t_before a_t_lastIndex a_t_deep a_t_rows : Nat → Int32} : Lr (fun x y => ∃ w h D M, PicR w h D M ∧ x.2.2.2.2.2.2.2.2.1 = nI w ∧ x.2.2.2.2.2.2.2.2.2.1 = nI h ∧ x.2.2.2.2.2.2.2.2.2.2.2.1 = D ∧ y.2.2.1 = nI w ∧ y.2.2.2.1 = nI h ∧ y.2.2.2.2.2.2.2.2.2.2.1 = M) ((fun r_12 => dc_bind (f_Picture_total r_12.2.2.2.1 r_12.2.2.2.2.1) (fun r_21 => dc_bind (f_Arrays_fill4 K 16384 0 r_21.1 0 ptsD) (fun r_25 => dc_bind (f_GifReader_decode_L35 K (nI n) r_12.2.2.2.1 r_12.2.2.2.2.1 K r_12.2.1 (-1) t_made r_12.2.2.1 t_in_gatheredFrom t_in_gatheredTo T r_12.2.2.2.2.2 r_25.2 t_packed_at t_packed_stop t_packed_bitStore t_packed_bitsHeld a_t_rowStarts a_t_rowLengths a_t_indices a_t_order 0 0 0) (Sum.elim (fun v_119 => f_GifReader_decode_119 K v_119.1 v_119.2.1 v_119.2.2.1 v_119.2.2.2.1 (nI n) v_119.2.2.2.2.1 v_119.2.2.2.2.2.1 v_119.2.2.2.2.2.2.1 r_12.2.2.2.1 r_12.2.2.2.2.1 v_119.2.2.2.2.2.2.2.1 v_119.2.2.2.2.2.2.2.2.1 v_119.2.2.2.2.2.2.2.2.2.1 v_119.2.2.2.2.2.2.2.2.2.2.1 v_119.2.2.2.2.2.2.2.2.2.2.2.1 v_119.2.2.2.2.2.2.2.2.2.2.2.2.1 v_119.2.2.2.2.2.2.2.2.2.2.2.2.2.1 v_119.2.2.2.2.2.2.2.2.2.2.2.2.2.2.1 v_119.2.2.2.2.2.2.2.2.2.2.2.2.2.2.2.1 v_119.2.2.2.2.2.2.2.2.2.2.2.2.2.2.2.2.1 v_119.2.2.2.2.2.2.2.2.2.2.2.2.2.2.2.2.2.1 v_119.2.2.2.2.2.2.2.2.2.2.2.2.2.2.2.2.2.2) (fun u => some (.inr u)))))) ((), nI c, nI p, nI w, nI h, tab)) (f_M_readGif_144 K (nI n) (nI p) (nI w) (nI h) t_colours t_dataSize t_bitAt t_rowBytes t_expected TM pal ptsM a_t_data a_t_own a_t_before a_t_lastIndex a_t_deep a_t_rows (nI c)) := by
  dsimp only
  unfold f_Picture_total f_M_readGif_144
  rw [q_bind, pk_mul]
  have e1 : f_Arrays_fill4 K 16384 0 (nI (w * h)) 0 ptsD = _ := fill4_ok (K := K) (N := 16384) (a := 0) (b := w * h) (by omega) hbig (by omega) (by omega) 0 ptsD
  have z := zeroM_L (K := K) hbig (t_taped := nI n) (t_at := nI p) (t_colours := nI c) (t_dataSize := t_dataSize) (t_bitAt := t_bitAt) (t_rowBytes := t_rowBytes) (t_expected := t_expected) (a_t_tape := TM) (a_t_palette := pal) (a_t_data := a_t_data) (a_t_own := a_t_own) (a_t_before := a_t_before) (a_t_lastIndex := a_t_lastIndex) (a_t_deep := a_t_deep) (a_t_rows := a_t_rows) (w * h) 0 K ptsM (by omega) (by omega)
  rw [lyv_0] at z
  have z2 : (f_M_readGif_L150 K (nI n) (nI p) (nI w) (nI h) (nI c) t_dataSize t_bitAt t_rowBytes t_expected TM pal a_t_data a_t_own a_t_before a_t_lastIndex a_t_deep a_t_rows K ptsM 0) = _ := z
  rw [e1, q_bind, z2, q_bind]
  clear e1 z z2
  refine Lr.of (Lk.tryL (blocks_L hK hn hc hbig hw0 hh0 htM (palM := pal) n p 0 0 K K (nI c) (-1) _ _ _ _ _ _ _ _ _ _ _ T tab _ _ _ _ _ _ _ _ _ _ _ _ (by omega) (by omega) (by omega) hp hp0 (by omega) ht hB ?_ (fun _ => ⟨rfl, hA⟩)) (fun u => ⟨_, rfl⟩) (fun u => ⟨_, rfl⟩) (fun x y hxy => ?_))
  · intro j hj
    show (if 0 ≤ j ∧ j < w * h then (0 : Int32) else _) = lyv _ 0 (w * h) 0 j
    unfold lyv
    rw [if_pos (by omega), if_pos (by omega)]
  · obtain ⟨p', im, q1, q2, q3, q4, q5, q6, q7, q8⟩ := hxy
    unfold f_GifReader_decode_119
    rw [q6, if_neg (show ¬ (1 : Int32) = 0 by decide), q5, q7]
    unfold f_GifReader_decode_141 f_GifReader_decode_142 f_M_readGif_372 f_M_readGif_373
    by_cases c0 : im = 0
    · rw [if_pos (show nI im ≤ 0 from nI_le (b := 0) (by omega) (by omega)), need0, q_tryR, if_pos (show b2 (decide (im ≠ 0)) = 0 by rw [decide_eq_false (by omega)]; rfl), can0, q_tryR]
      exact Lk.no ⟨_, rfl⟩ ⟨_, rfl⟩
    rw [if_neg (show ¬ nI im ≤ 0 from nI_ge (a := 0) (by omega) (by omega)), if_neg (show ¬ b2 (decide (im ≠ 0)) = 0 by rw [decide_eq_true c0]; decide)]
    unfold f_Source_left
    rw [q_bind, q3, q4, pk_sub q1]
    by_cases e : p' = n
    · rw [if_pos (show nI (n - p') = 0 by rw [e, Nat.sub_self]; rfl), if_pos (show nI p' = nI n by rw [e]), need1, can1, q_tryL, q_tryL]
      exact Lk.yes ⟨w, h, _, _, ⟨hw0, hh0, hbig, q8⟩, rfl, rfl, rfl, rfl, rfl, rfl⟩
    · rw [if_neg (show ¬ nI (n - p') = 0 from nI_ne0 (by omega) (by omega)), if_neg (show ¬ nI p' = nI n from fun q => e ((nI_eq32 (by omega) (by omega)).mp q)), need0, can0, q_tryR, q_tryR]
      exact Lk.no ⟨_, rfl⟩ ⟨_, rfl⟩
theorem gif_ok {K n : Nat} (hK : 600000 < K) (hn : n ≤ 65536) {T TM : Nat → Int32} {t : Nat → Nat} (ht : Tb n T t) (hB : Bt n T) (htM : Tb n TM t) {t_transparent : Int32} {t_made : Int32} {t_in_gatheredFrom : Int32} {t_in_gatheredTo : Int32} {t_packed_at : Int32} {t_packed_stop : Int32} {t_packed_bitStore : Int32} {t_packed_bitsHeld : Int32} {a_t_rowStarts : Nat → Int32} {a_t_rowLengths : Nat → Int32} {a_t_indices : Nat → Int32} {a_t_order : Nat → Int32} {C0 t_width t_height t_colours t_dataSize t_bitAt t_rowBytes t_expected p1_width p1_height : Int32} {a_t_data a_t_own a_t_before a_t_lastIndex a_t_deep a_t_rows : Nat → Int32} (tabD palM ptsD ptsM : Nat → Int32) : Lr (fun x y => ∃ w h D M, PicR w h D M ∧ x.2.2.2.2.2.2.2.2.1 = nI w ∧ x.2.2.2.2.2.2.2.2.2.1 = nI h ∧ x.2.2.2.2.2.2.2.2.2.2.2.1 = D ∧ y.2.2.1 = nI w ∧ y.2.2.2.1 = nI h ∧ y.2.2.2.2.2.2.2.2.2.2.1 = M) (f_GifReader_decode K C0 t_transparent t_made (nI 0) (nI n) t_in_gatheredFrom t_in_gatheredTo T p1_width p1_height tabD ptsD t_packed_at t_packed_stop t_packed_bitStore t_packed_bitsHeld a_t_rowStarts a_t_rowLengths a_t_indices a_t_order) (f_M_readGif K (nI n) (nI 0) t_width t_height t_colours t_dataSize t_bitAt t_rowBytes t_expected TM palM ptsM a_t_data a_t_own a_t_before a_t_lastIndex a_t_deep a_t_rows) := by
  unfold f_GifReader_decode f_M_readGif
  by_cases h8 : g8 n t
  rotate_left
  · obtain ⟨u, hu⟩ := (g8D (K := K) hn ht (t_colours := 0) (p1_width := p1_width) (p1_height := p1_height) (a_t_table := tabD)).2 h8
    rw [hu, q_tryR]
    refine Lr.no ⟨_, rfl⟩ ?_
    obtain ⟨v, hv⟩ := (g8M_L (K := K) hn htM (t_width := t_width) (t_height := t_height) (t_colours := t_colours) (t_dataSize := t_dataSize) (t_bitAt := t_bitAt) (t_rowBytes := t_rowBytes) (t_expected := t_expected) (a_t_palette := palM) (a_t_points := ptsM) (a_t_data := a_t_data) (a_t_own := a_t_own) (a_t_before := a_t_before) (a_t_lastIndex := a_t_lastIndex) (a_t_deep := a_t_deep) (a_t_rows := a_t_rows) 4 0 K (by omega) (by omega) (by omega) (fun j hj => absurd hj (Nat.not_lt_zero _))).2 (fun q => h8 ((g8_iff ht.2).mpr q))
    have hv2 : (f_M_readGif_L6 K (nI n) t_width t_height t_colours t_dataSize t_bitAt t_rowBytes t_expected TM palM ptsM a_t_data a_t_own a_t_before a_t_lastIndex a_t_deep a_t_rows K (nI 0) 0) = _ := hv
    rw [hv2]
    exact ⟨_, rfl⟩
  have hD := (g8D (K := K) hn ht (t_colours := 0) (p1_width := p1_width) (p1_height := p1_height) (a_t_table := tabD)).1 h8
  have hM := (g8M_L (K := K) hn htM (t_width := t_width) (t_height := t_height) (t_colours := t_colours) (t_dataSize := t_dataSize) (t_bitAt := t_bitAt) (t_rowBytes := t_rowBytes) (t_expected := t_expected) (a_t_palette := palM) (a_t_points := ptsM) (a_t_data := a_t_data) (a_t_own := a_t_own) (a_t_before := a_t_before) (a_t_lastIndex := a_t_lastIndex) (a_t_deep := a_t_deep) (a_t_rows := a_t_rows) 4 0 K (by omega) (by omega) (by omega) (fun j hj => absurd hj (Nat.not_lt_zero _))).1 ((g8_iff ht.2).mp h8)
  have hM2 : (f_M_readGif_L6 K (nI n) t_width t_height t_colours t_dataSize t_bitAt t_rowBytes t_expected TM palM ptsM a_t_data a_t_own a_t_before a_t_lastIndex a_t_deep a_t_rows K (nI 0) 0) = _ := hM
  rw [hD, hM2, bind_elim, q_tryL]
  clear hD hM hM2
  have h4 := h8.1
  unfold f_GifReader_takeHead_53
  rw [need1, q_tryL, try_try]
  refine Lr.step (next_ex h4 hn ht) (nextM_ex h4 hn htM) (fun u => ⟨_, rfl⟩) (fun u => ⟨_, rfl⟩) (fun h5 => ?_)
  have hy := ht.2 4
  generalize t 4 = yr at hy ⊢
  unfold f_GifReader_takeHead_92 f_M_readGif_69
  have h70 : ∀ A : Int32, Th 3 (f_M_readGif_70 K (nI n) A t_width t_height t_colours t_dataSize t_bitAt t_rowBytes t_expected TM palM ptsM a_t_data a_t_own a_t_before a_t_lastIndex a_t_deep a_t_rows 0) := by
    intro A
    unfold f_M_readGif_70
    rw [can0, q_tryR]
    exact ⟨_, rfl⟩
  have h93 : ∀ A : Int32, Th 3 (f_GifReader_takeHead_93 K 0 A (nI n) T p1_width p1_height tabD 0) := by
    intro A
    unfold f_GifReader_takeHead_93
    rw [need0, q_tryR]
    exact ⟨_, rfl⟩
  by_cases cy : yr = 55 ∨ yr = 57
  rotate_left
  · have n1 : ¬ nI yr = 55 := eq_lit (b := 55) hy (by omega) (by omega)
    have n2 : ¬ nI yr = 57 := eq_lit (b := 57) hy (by omega) (by omega)
    rw [if_neg n1, if_neg n2, if_neg n1, if_neg n2]
    obtain ⟨u, hu⟩ := h93 (nI (4 + 1))
    refine Lr.no ?_ (h70 _)
    show Th 3 (dc_try (f_GifReader_takeHead_93 K 0 (nI (4 + 1)) (nI n) T p1_width p1_height tabD 0) _ _)
    rw [hu]
    exact ⟨_, rfl⟩
  have eD : ∀ (β : Type) (A B : β), (if nI yr = 55 then A else if nI yr = 57 then A else B) = A := by
    intro β A B
    rcases cy with rfl | rfl
    · rw [if_pos (show nI 55 = 55 from rfl)]
    · rw [if_neg (show ¬ nI 57 = 55 by decide), if_pos (show nI 57 = 57 from rfl)]
  rw [eD, eD]
  unfold f_GifReader_takeHead_76 f_M_readGif_56
  rw [try_try]
  refine Lr.step (next_ex (show 4 + 1 ≤ n by omega) hn ht) (nextM_ex (show 4 + 1 ≤ n by omega) hn htM) (fun u => ⟨_, rfl⟩) (fun u => ⟨_, rfl⟩) (fun h6 => ?_)
  have ha := ht.2 (4 + 1)
  generalize t (4 + 1) = av at ha ⊢
  unfold f_GifReader_takeHead_92 f_M_readGif_69
  by_cases ca : av = 97
  rotate_left
  · have n1 : ¬ nI av = 97 := eq_lit (b := 97) ha (by omega) ca
    rw [if_neg n1, if_neg n1]
    obtain ⟨u, hu⟩ := h93 (nI (4 + 1 + 1))
    refine Lr.no ?_ (h70 _)
    show Th 3 (dc_try (f_GifReader_takeHead_93 K 0 (nI (4 + 1 + 1)) (nI n) T p1_width p1_height tabD 0) _ _)
    rw [hu]
    exact ⟨_, rfl⟩
  subst ca
  rw [if_pos (show nI 97 = 97 from rfl), if_pos (show nI 97 = 97 from rfl)]
  clear h70 h93 eD
  unfold f_GifReader_takeHead_93 f_M_readGif_70
  rw [need1, q_tryL, can1, q_tryL, try_try]
  refine Lr.step (little2_ex (show 6 ≤ n by omega) hn ht) (l2M_ex (K := K) (by omega) hn (show 6 ≤ n by omega) htM) (fun u => ⟨_, rfl⟩) (fun u => ⟨_, rfl⟩) (fun h7 => ?_)
  have hwl := l2_lt ht.2 6
  generalize l2 t 6 = w at hwl ⊢
  unfold f_M_readGif_91 f_GifReader_takeHead_126 f_GifReader_takeHead_127
  rw [try_try]
  by_cases w0 : w = 0
  · refine Lr.no ?_ ?_
    · by_cases h9 : 6 + 2 + 2 ≤ n
      · rw [(little2_ex (show 6 + 2 ≤ n by omega) hn ht).1 h9, q_tryL, if_pos (show nI w ≤ 0 from nI_le (b := 0) (by omega) (by omega)), need0, q_tryR]
        exact ⟨_, rfl⟩
      · obtain ⟨u, hu⟩ := (little2_ex (show 6 + 2 ≤ n by omega) hn ht).2 h9
        rw [hu]
        exact ⟨_, rfl⟩
    · rw [if_pos (show lg_cmp (lN w) 0 ≤ 0 by rw [w0]; decide), can0, q_tryR]
      exact ⟨_, rfl⟩
  rw [if_neg (show ¬ lg_cmp (lN w) 0 ≤ 0 from fun e => by have := (pk_lLE (b := 0) (by omega) (by omega)).mp (show lN w ≤ lN 0 from (cmp_le _ _).mp e); omega), can1, q_tryL]
  refine Lr.step (little2_ex (show 6 + 2 ≤ n by omega) hn ht) (l2M_ex (K := K) (by omega) hn (show 6 + 2 ≤ n by omega) htM) (fun u => ⟨_, rfl⟩) (fun u => ⟨_, rfl⟩) (fun h9 => ?_)
  have hhl := l2_lt ht.2 (6 + 2)
  generalize l2 t (6 + 2) = h at hhl ⊢
  dsimp only
  rw [if_neg (show ¬ nI w ≤ 0 from nI_ge (a := 0) (by omega) (by omega))]
  by_cases h0 : h = 0
  · subst h0
    rw [if_pos (show nI 0 ≤ 0 by decide), need0, q_tryR]
    refine Lr.no ⟨_, rfl⟩ ?_
    unfold f_M_sized f_M_sized_17 f_M_sized_18
    rw [if_neg (show ¬ lg_cmp (lN w) 0 ≤ 0 from fun e => by have := (pk_lLE (b := 0) (by omega) (by omega)).mp (show lN w ≤ lN 0 from (cmp_le _ _).mp e); omega), if_pos (show lg_cmp (lN 0) 0 ≤ 0 by decide), can0, q_tryR]
    exact ⟨_, rfl⟩
  rw [if_neg (show ¬ nI h ≤ 0 from nI_ge (a := 0) (by omega) (by omega)), need1, q_tryL, nI_l (n := w) (by omega), nI_l (n := h) (by omega), resize_ok (by omega) (by omega), sized_ok (by omega) (by omega) (by omega) (by omega)]
  by_cases hbig : w * h ≤ 16384
  rotate_left
  · rw [if_neg hbig, if_neg hbig]
    exact Or.inr (Or.inl ⟨⟨_, rfl⟩, ⟨_, rfl⟩⟩)
  rw [if_pos hbig, if_pos hbig, q_tryL, q_tryL, try_try]
  refine Lr.step (next_ex (show 6 + 2 + 2 ≤ n by omega) hn ht) (nextM_ex (show 6 + 2 + 2 ≤ n by omega) hn htM) (fun u => ⟨_, rfl⟩) (fun u => ⟨_, rfl⟩) (fun h10 => ?_)
  have hf := ht.2 (6 + 2 + 2)
  generalize t (6 + 2 + 2) = f at hf ⊢
  rw [try_try]
  by_cases c13 : 6 + 2 + 2 + 1 + 2 ≤ n
  rotate_left
  · obtain ⟨u, hu⟩ := (skip_ex (k := 2) (show 6 + 2 + 2 + 1 ≤ n by omega) hn (by omega)).2 c13
    have hu2 : f_Source_skip 2 (nI (6 + 2 + 2 + 1)) (nI n) = _ := hu
    rw [hu2, q_tryR]
    refine Lr.no ⟨_, rfl⟩ ?_
    by_cases c6 : 6 + 2 + 2 + 1 < n
    · rw [(nextM_ex (show 6 + 2 + 2 + 1 ≤ n by omega) hn htM).1 c6, q_tryL]
      obtain ⟨v, hv⟩ := (nextM_ex (show 6 + 2 + 2 + 1 + 1 ≤ n by omega) hn htM).2 (by omega)
      show Th 3 (dc_try (f_M_next (nI n) (nI (6 + 2 + 2 + 1 + 1)) TM) _ _)
      rw [hv, q_tryR]
      exact ⟨_, rfl⟩
    · obtain ⟨v, hv⟩ := (nextM_ex (show 6 + 2 + 2 + 1 ≤ n by omega) hn htM).2 c6
      rw [hv, q_tryR]
      exact ⟨_, rfl⟩
  have hs2 : f_Source_skip 2 (nI (6 + 2 + 2 + 1)) (nI n) = _ := (skip_ex (k := 2) (show 6 + 2 + 2 + 1 ≤ n by omega) hn (by omega)).1 c13
  rw [hs2, q_tryL, (nextM_ex (show 6 + 2 + 2 + 1 ≤ n by omega) hn htM).1 (by omega), q_tryL]
  show Lr _ _ (dc_try (f_M_next (nI n) (nI (6 + 2 + 2 + 1 + 1)) TM) _ _)
  rw [(nextM_ex (show 6 + 2 + 2 + 1 + 1 ≤ n by omega) hn htM).1 (by omega), q_tryL, try_try]
  by_cases hf8 : f < 128
  · unfold f_GifReader_takeTable
    rw [if_pos ((has_tab f hf).mpr hf8), q_tryL, q_tryL, if_pos ((lt_128 hf).mpr hf8)]
    exact gif_tail (c := 0) (p := 6 + 2 + 2 + 1 + 2) hK hn (by omega) (by omega) hbig (by omega) c13 (by omega) (Tf.of ht _) hB htM (fun j hj => absurd hj (Nat.not_lt_zero _))
  · rw [if_neg (fun q => hf8 ((lt_128 hf).mp q))]
    refine Lr.try (Lk.ofGq (gtabD (K := K) (by omega) hn c13 hf hf8 (Tf.of ht _) 0 tabD) (gtabM (K := K) (by omega) hn c13 hf htM palM)) (fun u => ⟨_, rfl⟩) (fun u => ⟨_, rfl⟩) (fun x y hxy => ?_)
    obtain ⟨q1, tD, tM, rfl, rfl, k1, k2⟩ := hxy
    rw [q_tryL]
    exact gif_tail (c := tcn f) (p := 6 + 2 + 2 + 1 + 2 + 3 * tcn f) hK hn (by omega) (by omega) hbig (by omega) q1 (tcn_le f) (Tf.of ht _) hB htM (fun j hj => (k1 j hj).trans (k2 j hj).symm)
