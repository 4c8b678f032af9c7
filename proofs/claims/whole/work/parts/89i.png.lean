/-! the pure half: a PNG file read -/
def sg (n : Nat) (t : Nat → Nat) : Prop := 8 ≤ n ∧ ∀ j, j < 8 → nI (t j) = tab_M_SIGN j
theorem sig_D {K n : Nat} (hn : n ≤ 65536) {T : Nat → Int32} {t : Nat → Nat} (ht : Tb n T t) {dC dD dK : Int32} {palD rowD : Nat → Int32} {t_hasTransparency : Int32} {t_isInterlaced : Int32} {t_stage : Int32} {t_partLength : Int32} {t_partCrc : Int32} {t_in_gatheredFrom : Int32} {t_in_gatheredTo : Int32} {p1_width : Int32} {p1_height : Int32} {a_t_key : Nat → Int32} {t_packed_at : Int32} {t_packed_stop : Int32} {t_packed_bitStore : Int32} {t_packed_bitsHeld : Int32} {t_inflater_made : Int32} {t_inflater_due : Int32} {a_t_inflater_lengths : Nat → Int32} {t_inflater_literals_used : Int32} {t_inflater_literals_unusedWords : Int32} {a_t_inflater_literals_counts : Nat → Int32} {a_t_inflater_literals_places : Nat → Int32} {a_t_inflater_literals_meanings : Nat → Int32} {t_inflater_distances_used : Int32} {t_inflater_distances_unusedWords : Int32} {a_t_inflater_distances_counts : Nat → Int32} {a_t_inflater_distances_places : Nat → Int32} {a_t_inflater_distances_meanings : Nat → Int32} {t_inflater_lengthCodes_used : Int32} {t_inflater_lengthCodes_unusedWords : Int32} {a_t_inflater_lengthCodes_counts : Nat → Int32} {a_t_inflater_lengthCodes_places : Nat → Int32} {a_t_inflater_lengthCodes_meanings : Nat → Int32} {a_p1_points : Nat → Int32} : ∀ (r k q : Nat), k + r = 8 → r < q → k ≤ n → (∀ j, j < k → nI (t j) = tab_M_SIGN j) → Ex (sg n t) (nI 8) (f_PngReader_decode_L17 K 288 32 19 dC t_hasTransparency dD dK t_isInterlaced t_stage t_partLength t_partCrc (nI n) t_in_gatheredFrom t_in_gatheredTo T p1_width p1_height palD a_t_key t_packed_at t_packed_stop t_packed_bitStore t_packed_bitsHeld t_inflater_made t_inflater_due rowD a_t_inflater_lengths t_inflater_literals_used t_inflater_literals_unusedWords a_t_inflater_literals_counts a_t_inflater_literals_places a_t_inflater_literals_meanings t_inflater_distances_used t_inflater_distances_unusedWords a_t_inflater_distances_counts a_t_inflater_distances_places a_t_inflater_distances_meanings t_inflater_lengthCodes_used t_inflater_lengthCodes_unusedWords a_t_inflater_lengthCodes_counts a_t_inflater_lengthCodes_places a_t_inflater_lengthCodes_meanings a_p1_points q (nI k) (nI k)) := by
  intro r
  induction r with
  | zero =>
    intro k q hk hq hp hI
    obtain ⟨q, rfl⟩ : ∃ w, q = w + 1 := ⟨q - 1, by omega⟩
    have e : k = 8 := by omega
    subst e
    refine Ex.gq (Gq.yes ⟨hp, hI⟩ ?_)
    show (f_PngReader_decode_17 K 288 32 19 _ dC t_hasTransparency dD dK t_isInterlaced t_stage t_partLength t_partCrc (nI 8) (nI n) t_in_gatheredFrom t_in_gatheredTo T p1_width p1_height palD a_t_key t_packed_at t_packed_stop t_packed_bitStore t_packed_bitsHeld t_inflater_made t_inflater_due rowD a_t_inflater_lengths t_inflater_literals_used t_inflater_literals_unusedWords a_t_inflater_literals_counts a_t_inflater_literals_places a_t_inflater_literals_meanings t_inflater_distances_used t_inflater_distances_unusedWords a_t_inflater_distances_counts a_t_inflater_distances_places a_t_inflater_distances_meanings t_inflater_lengthCodes_used t_inflater_lengthCodes_unusedWords a_t_inflater_lengthCodes_counts a_t_inflater_lengthCodes_places a_t_inflater_lengthCodes_meanings a_p1_points (nI 8)) = _
    unfold f_PngReader_decode_17
    rw [if_pos (show (8 : Int32) ≤ nI 8 by decide)]
  | succ r ih =>
    intro k q hk hq hp hI
    obtain ⟨q, rfl⟩ : ∃ w, q = w + 1 := ⟨q - 1, by omega⟩
    show Ex _ _ (f_PngReader_decode_17 K 288 32 19 _ dC t_hasTransparency dD dK t_isInterlaced t_stage t_partLength t_partCrc (nI k) (nI n) t_in_gatheredFrom t_in_gatheredTo T p1_width p1_height palD a_t_key t_packed_at t_packed_stop t_packed_bitStore t_packed_bitsHeld t_inflater_made t_inflater_due rowD a_t_inflater_lengths t_inflater_literals_used t_inflater_literals_unusedWords a_t_inflater_literals_counts a_t_inflater_literals_places a_t_inflater_literals_meanings t_inflater_distances_used t_inflater_distances_unusedWords a_t_inflater_distances_counts a_t_inflater_distances_places a_t_inflater_distances_meanings t_inflater_lengthCodes_used t_inflater_lengthCodes_unusedWords a_t_inflater_lengthCodes_counts a_t_inflater_lengthCodes_places a_t_inflater_lengthCodes_meanings a_p1_points (nI k))
    unfold f_PngReader_decode_17 f_PngReader_decode_45
    rw [if_neg (show ¬ (8 : Int32) ≤ nI k from nI_ge (b := 8) (by omega) (by omega))]
    refine Ex.gq (Gq.try (next_ex hp hn ht) (fun u => ⟨_, rfl⟩) (fun h => by have := h.1; omega) (fun h1 => ?_))
    rw [if_pos (q_inb (by omega) (by omega)), nI_clamp (by omega)]
    by_cases c : nI (t k) = tab_M_SIGN k
    · rw [if_pos (show nI (t k) = tab_PngReader_SIGNATURE k from c), need1, q_tryL, nI_1]
      exact ih (k + 1) q (by omega) (by omega) (by omega) (fun j hj => by
        by_cases e : j = k
        · rw [e]; exact c
        · exact hI j (by omega))
    · rw [if_neg (show ¬ nI (t k) = tab_PngReader_SIGNATURE k from c), need0, q_tryR]
      exact Gq.no (fun h => c (h.2 k (by omega))) ⟨_, rfl⟩
theorem sig_M {K n : Nat} (hn : n ≤ 65536) {TM : Nat → Int32} {t : Nat → Nat} (ht : Tb n TM t) {t_width : Int32} {t_height : Int32} {t_depth : Int32} {t_kind : Int32} {t_interlace : Int32} : ∀ (r k q : Nat), k + r = 8 → r < q → k ≤ n → (∀ j, j < k → nI (t j) = tab_M_SIGN j) → Ex (sg n t) (nI 8) (f_M_header_L2 K (nI n) t_width t_height t_depth t_kind t_interlace TM q (nI k) (nI k)) := by
  intro r
  induction r with
  | zero =>
    intro k q hk hq hp hI
    obtain ⟨q, rfl⟩ : ∃ w, q = w + 1 := ⟨q - 1, by omega⟩
    have e : k = 8 := by omega
    subst e
    refine Ex.gq (Gq.yes ⟨hp, hI⟩ ?_)
    show (f_M_header_2 K _ (nI n) (nI 8) t_width t_height t_depth t_kind t_interlace TM (nI 8)) = _
    unfold f_M_header_2
    rw [if_pos (show (8 : Int32) ≤ nI 8 by decide)]
  | succ r ih =>
    intro k q hk hq hp hI
    obtain ⟨q, rfl⟩ : ∃ w, q = w + 1 := ⟨q - 1, by omega⟩
    show Ex _ _ (f_M_header_2 K _ (nI n) (nI k) t_width t_height t_depth t_kind t_interlace TM (nI k))
    unfold f_M_header_2 f_M_header_26
    rw [if_neg (show ¬ (8 : Int32) ≤ nI k from nI_ge (b := 8) (by omega) (by omega))]
    refine Ex.gq (Gq.try (nextM_ex hp hn ht) (fun u => ⟨_, rfl⟩) (fun h => by have := h.1; omega) (fun h1 => ?_))
    rw [if_pos (q_inb (by omega) (by omega)), nI_clamp (by omega)]
    by_cases c : nI (t k) = tab_M_SIGN k
    · rw [if_pos c, can1, q_tryL, nI_1]
      exact ih (k + 1) q (by omega) (by omega) (by omega) (fun j hj => by
        by_cases e : j = k
        · rw [e]; exact c
        · exact hI j (by omega))
    · rw [if_neg c, can0, q_tryR]
      exact Gq.no (fun h => c (h.2 k (by omega))) ⟨_, rfl⟩
theorem kd_ok {k d : Nat} (h : kd k d) : dpO d ∧ (k = 0 ∨ k = 2 ∨ k = 3 ∨ k = 4 ∨ k = 6) ∧ (k = 3 → d ≤ 8) := by
  unfold kd at h
  unfold dpO
  omega
theorem png_ok {K n : Nat} (hK : 600000 < K) (hn : n ≤ 65536) {T TM : Nat → Int32} {t : Nat → Nat} (ht : Tb n T t) (hB : Bt n T) (htM : Tb n TM t) (hBM : Bt n TM) {dC dD dK : Int32} {palD rowD : Nat → Int32} {t_hasTransparency : Int32} {t_isInterlaced : Int32} {t_stage : Int32} {t_partLength : Int32} {t_partCrc : Int32} {t_in_gatheredFrom : Int32} {t_in_gatheredTo : Int32} {p1_width : Int32} {p1_height : Int32} {a_t_key : Nat → Int32} {t_packed_at : Int32} {t_packed_stop : Int32} {t_packed_bitStore : Int32} {t_packed_bitsHeld : Int32} {t_inflater_made : Int32} {t_inflater_due : Int32} {a_t_inflater_lengths : Nat → Int32} {t_inflater_literals_used : Int32} {t_inflater_literals_unusedWords : Int32} {a_t_inflater_literals_counts : Nat → Int32} {a_t_inflater_literals_places : Nat → Int32} {a_t_inflater_literals_meanings : Nat → Int32} {t_inflater_distances_used : Int32} {t_inflater_distances_unusedWords : Int32} {a_t_inflater_distances_counts : Nat → Int32} {a_t_inflater_distances_places : Nat → Int32} {a_t_inflater_distances_meanings : Nat → Int32} {t_inflater_lengthCodes_used : Int32} {t_inflater_lengthCodes_unusedWords : Int32} {a_t_inflater_lengthCodes_counts : Nat → Int32} {a_t_inflater_lengthCodes_places : Nat → Int32} {a_t_inflater_lengthCodes_meanings : Nat → Int32} {a_p1_points : Nat → Int32} {t_width : Int32} {t_height : Int32} {t_depth : Int32} {t_kind : Int32} {t_interlace : Int32} {t_colours : Int32} {t_clear : Int32} {t_dataSize : Int32} {t_bitAt : Int32} {t_rowBytes : Int32} {t_expected : Int32} {a_t_palette : Nat → Int32} {a_t_data : Nat → Int32} {a_t_rows : Nat → Int32} {a_t_lengths : Nat → Int32} {t_literals_all : Int32} {a_t_literals_counts : Nat → Int32} {a_t_literals_meanings : Nat → Int32} {t_distances_all : Int32} {a_t_distances_counts : Nat → Int32} {a_t_distances_meanings : Nat → Int32} {t_lengthCodes_all : Int32} {a_t_lengthCodes_counts : Nat → Int32} {a_t_lengthCodes_meanings : Nat → Int32} {a_t_clearKey : Nat → Int32} {a_t_points : Nat → Int32} : Lr (fun x y => ∃ w h D M, PicR w h D M ∧ x.2.2.2.2.2.2.2.2.2.2.2.2.2.1 = nI w ∧ x.2.2.2.2.2.2.2.2.2.2.2.2.2.2.1 = nI h ∧ x.2.2.2.2.2.2.2.2.2.2.2.2.2.2.2.2.2.2.2.2.2.2.2.2.2.2.2.2.2.2.2.2.2.2.2.2.2.2.2.2 = D ∧ y.2.2.1 = nI w ∧ y.2.2.2.1 = nI h ∧ y.2.2.2.2.2.2.2.2.2.2.2.2.2.2.2.2.2.2.2.2.2.2.2.2.2.2.2 = M) (f_PngReader_decode K 288 32 19 dC t_hasTransparency dD dK t_isInterlaced t_stage t_partLength t_partCrc (nI 0) (nI n) t_in_gatheredFrom t_in_gatheredTo T p1_width p1_height palD a_t_key t_packed_at t_packed_stop t_packed_bitStore t_packed_bitsHeld t_inflater_made t_inflater_due rowD a_t_inflater_lengths t_inflater_literals_used t_inflater_literals_unusedWords a_t_inflater_literals_counts a_t_inflater_literals_places a_t_inflater_literals_meanings t_inflater_distances_used t_inflater_distances_unusedWords a_t_inflater_distances_counts a_t_inflater_distances_places a_t_inflater_distances_meanings t_inflater_lengthCodes_used t_inflater_lengthCodes_unusedWords a_t_inflater_lengthCodes_counts a_t_inflater_lengthCodes_places a_t_inflater_lengthCodes_meanings a_p1_points) (f_M_readPng K (nI n) (nI 0) t_width t_height t_depth t_kind t_interlace t_colours t_clear t_dataSize t_bitAt t_rowBytes t_expected TM a_t_palette a_t_data a_t_rows a_t_lengths t_literals_all a_t_literals_counts a_t_literals_meanings t_distances_all a_t_distances_counts a_t_distances_meanings t_lengthCodes_all a_t_lengthCodes_counts a_t_lengthCodes_meanings a_t_clearKey a_t_points) := by
  unfold f_PngReader_decode f_M_readPng f_M_header
  have hsD := sig_D (K := K) hn ht (dC := 0) (dD := dD) (dK := dK) (palD := palD) (rowD := rowD) (t_hasTransparency := 0) (t_isInterlaced := t_isInterlaced) (t_stage := 0) (t_partLength := t_partLength) (t_partCrc := t_partCrc) (t_in_gatheredFrom := t_in_gatheredFrom) (t_in_gatheredTo := t_in_gatheredTo) (p1_width := p1_width) (p1_height := p1_height) (a_t_key := a_t_key) (t_packed_at := t_packed_at) (t_packed_stop := t_packed_stop) (t_packed_bitStore := t_packed_bitStore) (t_packed_bitsHeld := t_packed_bitsHeld) (t_inflater_made := t_inflater_made) (t_inflater_due := t_inflater_due) (a_t_inflater_lengths := a_t_inflater_lengths) (t_inflater_literals_used := t_inflater_literals_used) (t_inflater_literals_unusedWords := t_inflater_literals_unusedWords) (a_t_inflater_literals_counts := a_t_inflater_literals_counts) (a_t_inflater_literals_places := a_t_inflater_literals_places) (a_t_inflater_literals_meanings := a_t_inflater_literals_meanings) (t_inflater_distances_used := t_inflater_distances_used) (t_inflater_distances_unusedWords := t_inflater_distances_unusedWords) (a_t_inflater_distances_counts := a_t_inflater_distances_counts) (a_t_inflater_distances_places := a_t_inflater_distances_places) (a_t_inflater_distances_meanings := a_t_inflater_distances_meanings) (t_inflater_lengthCodes_used := t_inflater_lengthCodes_used) (t_inflater_lengthCodes_unusedWords := t_inflater_lengthCodes_unusedWords) (a_t_inflater_lengthCodes_counts := a_t_inflater_lengthCodes_counts) (a_t_inflater_lengthCodes_places := a_t_inflater_lengthCodes_places) (a_t_inflater_lengthCodes_meanings := a_t_inflater_lengthCodes_meanings) (a_p1_points := a_p1_points) 8 0 K (by omega) (by omega) (by omega) (fun j hj => absurd hj (Nat.not_lt_zero _))
  have hsM := sig_M (K := K) hn htM (t_width := t_width) (t_height := t_height) (t_depth := t_depth) (t_kind := t_kind) (t_interlace := t_interlace) 8 0 K (by omega) (by omega) (by omega) (fun j hj => absurd hj (Nat.not_lt_zero _))
  have hsD2 : Ex _ _ (f_PngReader_decode_L17 K 288 32 19 0 0 dD dK t_isInterlaced 0 t_partLength t_partCrc (nI n) t_in_gatheredFrom t_in_gatheredTo T p1_width p1_height palD a_t_key t_packed_at t_packed_stop t_packed_bitStore t_packed_bitsHeld t_inflater_made t_inflater_due rowD a_t_inflater_lengths t_inflater_literals_used t_inflater_literals_unusedWords a_t_inflater_literals_counts a_t_inflater_literals_places a_t_inflater_literals_meanings t_inflater_distances_used t_inflater_distances_unusedWords a_t_inflater_distances_counts a_t_inflater_distances_places a_t_inflater_distances_meanings t_inflater_lengthCodes_used t_inflater_lengthCodes_unusedWords a_t_inflater_lengthCodes_counts a_t_inflater_lengthCodes_places a_t_inflater_lengthCodes_meanings a_p1_points K (nI 0) 0) := hsD
  have hsM2 : Ex _ _ (f_M_header_L2 K (nI n) t_width t_height t_depth t_kind t_interlace TM K (nI 0) 0) := hsM
  clear hsD hsM
  rw [bind_elim, bind_elim]
  by_cases hsg : sg n t
  rotate_left
  · obtain ⟨u, hu⟩ := hsD2.2 hsg
    obtain ⟨v, hv⟩ := hsM2.2 hsg
    rw [hu, hv, q_tryR, q_tryR]
    exact Lr.no ⟨_, rfl⟩ ⟨_, rfl⟩
  rw [hsD2.1 hsg, hsM2.1 hsg, q_tryL, q_tryL]
  clear hsD2 hsM2
  have hhD := head_D (K := K) hK hn hsg.1 ht htM (t_depth := dD) (t_kind := dK) (t_isInterlaced := t_isInterlaced) (t_partLength := t_partLength) (t_partCrc := t_partCrc) (p1_width := p1_width) (p1_height := p1_height)
  have hhM := head_M (K := K) hK hn hsg.1 htM (t_width := t_width) (t_height := t_height) (t_depth := t_depth) (t_kind := t_kind) (t_interlace := t_interlace)
  by_cases hok : hOK n t TM
  rotate_left
  · obtain ⟨u, hu⟩ := hhD.2 hok
    obtain ⟨v, hv⟩ := hhM.2 hok
    rw [hu, q_tryR]
    refine Lr.no ⟨_, rfl⟩ ?_
    refine Eq.mpr (congrArg (fun z => Th 3 (dc_try z _ _)) hv) ?_
    exact ⟨_, rfl⟩
  have hhD1 := hhD.1 hok
  have hhM1 := hhM.1 hok
  clear hhD hhM
  by_cases hbig : bg4 t 16 * bg4 t 20 ≤ 16384
  rotate_left
  · obtain ⟨u, hu⟩ := Eq.mp (if_neg hbig) hhD1
    obtain ⟨v, hv⟩ := Eq.mp (if_neg hbig) hhM1
    rw [hu, q_tryR]
    refine Or.inr (Or.inl ⟨⟨_, rfl⟩, ?_⟩)
    refine Eq.mpr (congrArg (fun z => Th 4 (dc_try z _ _)) hv) ?_
    exact ⟨_, rfl⟩
  obtain ⟨pl, pc, hu⟩ := Eq.mp (if_pos hbig) hhD1
  have hv := Eq.mp (if_pos hbig) hhM1
  rw [hu, q_tryL]
  refine Eq.mpr (congrArg (fun z => Lr _ _ (dc_try z _ _)) hv) ?_
  rw [q_tryL]
  clear hu hv hhD1 hhM1
  obtain ⟨h33, -, -, hw0, hw31, hh0, hh31, hkd, -, -, hil, -⟩ := hok
  obtain ⟨hdp, hkl, hk3⟩ := kd_ok hkd
  generalize bg4 t 16 = W at hw0 hw31 hbig ⊢
  generalize bg4 t 20 = H at hh0 hh31 hbig ⊢
  generalize t 24 = dep at hdp hk3 hkd ⊢
  generalize t 25 = kind at hkl hk3 hkd ⊢
  generalize t 28 = il at hil ⊢
  have hdep : dep ≤ 16 := by unfold dpO at hdp; omega
  dsimp only
  refine Lr.of ?_
  unfold f_PngReader_takeParts
  rw [bind_elim, bind_elim, try_try]
  have hP := parts_L (K := K) (n := n) (dep := dep) (kind := kind) hK hn hdep hkl htM hBM (t_width := nI W) (t_height := nI H) (t_interlace := nI il) (t_bitAt := t_bitAt) (t_rowBytes := t_rowBytes) (t_expected := t_expected) (a_t_rows := a_t_rows) (a_t_lengths := a_t_lengths) (t_literals_all := t_literals_all) (a_t_literals_counts := a_t_literals_counts) (a_t_literals_meanings := a_t_literals_meanings) (t_distances_all := t_distances_all) (a_t_distances_counts := a_t_distances_counts) (a_t_distances_meanings := a_t_distances_meanings) (t_lengthCodes_all := t_lengthCodes_all) (a_t_lengthCodes_counts := a_t_lengthCodes_counts) (a_t_lengthCodes_meanings := a_t_lengthCodes_meanings) (a_t_points := a_t_points) n 33 0 0 0 0 0 K K false t_in_gatheredFrom t_in_gatheredTo pl pc T a_t_data palD a_t_palette a_t_key a_t_clearKey (by omega) (by omega) (by omega) (by omega) ⟨h33, by omega, by omega, by omega, Tf.of ht _, hB, fun h => absurd rfl h, fun _ => rfl, fun j hj => absurd hj (Nat.not_lt_zero _), fun j hj => absurd hj (Nat.not_lt_zero _)⟩
  refine Lk.try hP (fun u => ⟨_, rfl⟩) (fun u => ⟨_, rfl⟩) (fun x y hxy => ?_)
  obtain ⟨p, c, g, m, tr, r1, r2, r3, r4, r5, r6, r7, r8, r9, r10, r11, r12, r13, r14, r15, r16⟩ := hxy
  unfold f_PngReader_takeParts_88 f_PngReader_takeParts_106 f_PngReader_takeParts_107 f_Source_left
  rw [r6, if_neg (show ¬ (1 : Int32) = 0 by decide), q_bind, r1, r2, r3, r4, r5, r7, r8, r9, r10, pk_sub r11]
  unfold f_M_readPng_474
  by_cases e : p = n
  rotate_left
  · rw [if_neg (show ¬ nI (n - p) = 0 from nI_ne0 (by omega) (by omega)), if_neg (show ¬ nI p = nI n from fun q => e ((nI_eq32 (by omega) (by omega)).mp q)), need0, can0, q_tryR, q_tryR, q_tryR]
    exact Lk.no ⟨_, rfl⟩ ⟨_, rfl⟩
  subst e
  have hbl := bits_le (kind := kind) hdp
  rw [if_pos (show nI (p - p) = 0 by rw [Nat.sub_self]; rfl), if_pos (rfl : nI p = nI p), need1, can1, q_tryL, q_tryL, q_tryL]
  dsimp only
  rw [open_ok (by omega), q_bind, due_D (by omega) hil hw0 hh0 hbig hdp hkl, q_bind]
  dsimp only
  have hdue := dueB_le (il := il) hw0 hh0 hbig hbl.2
  refine Lk.try (zlib_ok (K := K) (g := g) (m := m) (due := dueB W H (spp kind * dep) il) (dat := tv (y.2.2.2.2.2.1)) hK ⟨r14, tv_lt _⟩ ⟨fun i hi => by rw [Nat.zero_add], tv_lt _⟩ (by omega) hdue (due_M (by omega) hil hw0 hh0 hbig hdp hkl)) (fun u => ⟨_, rfl⟩) (fun u => ⟨_, rfl⟩) (fun x2 y2 hxy2 => ?_)
  refine Lk.try (passes_ok hK hil hdp hkl hk3 r12 hw0 hh0 hbig r15 r16 hxy2) (fun u => ⟨_, rfl⟩) (fun u => ⟨_, rfl⟩) (fun x3 y3 hxy3 => ?_)
  exact Lk.yes ⟨W, H, _, _, ⟨hw0, hh0, hbig, hxy3⟩, rfl, rfl, rfl, rfl, rfl, rfl⟩
