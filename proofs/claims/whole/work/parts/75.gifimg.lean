/-! the pure half: a GIF file's image laid -/
def rwF (pts : Nat → Int32) (base : Nat) (val : Nat → Int32) : Nat → Nat → Int32
  | 0 => pts
  | k + 1 => upd (rwF pts base val k) (base + k) (val k)
def vl (tab : Nat → Int32) (tr : Int32) (i : Nat) : Int32 := if nI i = tr then tab i &&& (-256) else tab i
def gps (W left top : Nat) (y : Nat) : Nat := (top + y) * W + left
def imF (pts : Nat → Int32) (tab : Nat → Int32) (tr : Int32) (W left top w h : Nat) (il : Bool) (IX : Nat → Int32) : Nat → Nat → Int32
  | 0 => pts
  | i + 1 => rwF (imF pts tab tr W left top w h il IX i) (gps W left top (lk (ordL h il) i)) (fun k => vl tab tr (oj IX (i * w + k))) w
def rok (w c : Nat) (IX : Nat → Int32) (i : Nat) : Prop := ∀ k, k < w → oj IX (i * w + k) < c
theorem gps_in {W H left top w h y k : Nat} (hl : left + w ≤ W) (ht : top + h ≤ H) (hW : W * H ≤ 16384) (hy : y < h) (hk : k < w) : gps W left top y + k < 16384 := by
  have := row_in (w := W) (show top + y < H by omega)
  unfold gps
  omega
theorem layD_L {K w c from_ to : Nat} {tr : Int32} {IX tab pts : Nat → Int32} (hc : c ≤ 256) (hf : from_ + w ≤ 16384) (ht : to + w ≤ 16384) (hix : ∀ k, k < w → oj IX (from_ + k) < 256) : ∀ (r k q : Nat), k + r = w → r < q → (∀ j, j < k → oj IX (from_ + j) < c) → Gq (∀ k, k < w → oj IX (from_ + k) < c) (fun m => m = some (.inl (rwF pts to (fun k => vl tab tr (oj IX (from_ + k))) w))) (f_GifReader_layRow_L3 K 16384 (nI c) tr IX tab (nI to) (nI from_) (nI w) q (rwF pts to (fun k => vl tab tr (oj IX (from_ + k))) k) (nI k)) := by
  intro r
  induction r with
  | zero =>
    intro k q hk hq hI
    obtain ⟨q, rfl⟩ : ∃ w, q = w + 1 := ⟨q - 1, by omega⟩
    have e : k = w := by omega
    subst e
    refine Gq.yes hI ?_
    show (f_GifReader_layRow_3 K 16384 _ (nI c) tr IX tab (rwF pts to (fun k => vl tab tr (oj IX (from_ + k))) k) (nI to) (nI from_) (nI k) (nI k)) = _
    unfold f_GifReader_layRow_3
    rw [if_pos (nI_le (by omega) (by omega))]
  | succ r ih =>
    intro k q hk hq hI
    obtain ⟨q, rfl⟩ : ∃ w, q = w + 1 := ⟨q - 1, by omega⟩
    have hb := hix k (by omega)
    show Gq _ _ (f_GifReader_layRow_3 K 16384 _ (nI c) tr IX tab (rwF pts to (fun k => vl tab tr (oj IX (from_ + k))) k) (nI to) (nI from_) (nI w) (nI k))
    unfold f_GifReader_layRow_3 f_GifReader_layRow_35 f_GifReader_layRow_73
    rw [if_neg (nI_ge (by omega) (by omega)), nI_add, if_pos (q_inb (by omega) (by omega)), nI_clamp (by omega), oj_ok IX (from_ + k)]
    by_cases q1 : oj IX (from_ + k) < c
    · have hr := ih (k + 1) q (by omega) (by omega) (fun j hj => by
        by_cases e : j = k
        · rw [e]; exact q1
        · exact hI j (by omega))
      rw [if_neg (nI_ge q1 (by omega)), need1, q_tryL, nI_add, if_pos (q_inb hb (by omega)), if_pos (q_inb (by omega) (by omega)), nI_clamp (by omega), nI_clamp (by omega), nI_1]
      by_cases q2 : nI (oj IX (from_ + k)) = tr
      · rw [if_pos q2]
        have ev : vl tab tr (oj IX (from_ + k)) = tab (oj IX (from_ + k)) &&& (-256) := if_pos q2
        rw [← ev]
        exact hr
      · rw [if_neg q2, if_pos (q_inb hb (by omega)), if_pos (q_inb (by omega) (by omega))]
        have ev : vl tab tr (oj IX (from_ + k)) = tab (oj IX (from_ + k)) := if_neg q2
        rw [← ev]
        exact hr
    · rw [if_pos (nI_le (by omega) (by omega)), need0, q_tryR]
      exact Gq.no (fun h => q1 (h k (by omega))) ⟨_, rfl⟩
theorem rowsDg_L {K W H left top w h c : Nat} {il : Bool} {tr : Int32} {IX tab pts f : Nat → Int32} (hK : 16384 < K) (hc : c ≤ 256) (hl : left + w ≤ W) (ht : top + h ≤ H) (hW : W * H ≤ 16384) (hw0 : 0 < w) (hwh : w * h ≤ 16384) (hix : ∀ j, j < w * h → oj IX j < 256) {t_made : Int32} {t_in_at : Int32} {t_in_stop : Int32} {t_in_gatheredFrom : Int32} {t_in_gatheredTo : Int32} {a_t_in_bytes : Nat → Int32} {p1_height : Int32} {t_packed_at : Int32} {t_packed_stop : Int32} {t_packed_bitStore : Int32} {t_packed_bitsHeld : Int32} {a_t_rowStarts : Nat → Int32} {a_t_rowLengths : Nat → Int32} : ∀ (r i q : Nat), i + r = h → r < q → (∀ j, j < i → rok w c IX j) → Gq (∀ j, j < h → rok w c IX j) (fun m => m = some (.inl (imF pts tab tr W left top w h il IX h))) (f_GifReader_takeImage_L199 K (nI c) tr t_made t_in_at t_in_stop t_in_gatheredFrom t_in_gatheredTo a_t_in_bytes (nI W) p1_height tab t_packed_at t_packed_stop t_packed_bitStore t_packed_bitsHeld a_t_rowStarts a_t_rowLengths IX (wl f (ordL h il)) (nI left) (nI top) (nI w) (nI h) q (imF pts tab tr W left top w h il IX i) (nI i)) := by
  have hh : h ≤ 16384 := Nat.le_trans (Nat.le_mul_of_pos_left h hw0) hwh
  intro r
  induction r with
  | zero =>
    intro i q hi hq hI
    obtain ⟨q, rfl⟩ : ∃ w, q = w + 1 := ⟨q - 1, by omega⟩
    have e : i = h := by omega
    subst e
    refine Gq.yes hI ?_
    show (f_GifReader_takeImage_199 K _ (nI c) tr t_made t_in_at t_in_stop t_in_gatheredFrom t_in_gatheredTo a_t_in_bytes (nI W) p1_height tab t_packed_at t_packed_stop t_packed_bitStore t_packed_bitsHeld a_t_rowStarts a_t_rowLengths IX (wl f (ordL i il)) (imF pts tab tr W left top w i il IX i) (nI left) (nI top) (nI w) (nI i) (nI i)) = _
    unfold f_GifReader_takeImage_199
    rw [if_pos (nI_le (by omega) (by omega))]
  | succ r ih =>
    intro i q hi hq hI
    obtain ⟨q, rfl⟩ : ∃ w, q = w + 1 := ⟨q - 1, by omega⟩
    have hin := row_in (w := w) (show i < h by omega)
    have hw : w ≤ 16384 := Nat.le_trans (Nat.le_mul_of_pos_right w (by omega)) hwh
    have hlk := ordL_lt (il := il) (show i < h by omega)
    have hpos := gps_in hl ht hW hlk (show w - 1 < w by omega)
    have hL := layD_L (K := K) (w := w) (c := c) (from_ := i * w) (to := gps W left top (lk (ordL h il) i)) (tr := tr) (IX := IX) (tab := tab) (pts := imF pts tab tr W left top w h il IX i) hc (by omega) (by omega) (fun k hk => hix _ (by omega)) w 0 K (by omega) (by omega) (fun j hj => absurd hj (Nat.not_lt_zero _))
    show Gq _ _ (f_GifReader_takeImage_199 K _ (nI c) tr t_made t_in_at t_in_stop t_in_gatheredFrom t_in_gatheredTo a_t_in_bytes (nI W) p1_height tab t_packed_at t_packed_stop t_packed_bitStore t_packed_bitsHeld a_t_rowStarts a_t_rowLengths IX (wl f (ordL h il)) (imF pts tab tr W left top w h il IX i) (nI left) (nI top) (nI w) (nI h) (nI i))
    unfold f_GifReader_takeImage_199
    rw [if_neg (nI_ge (by omega) (by omega)), if_pos (q_inb (by omega) (by omega)), nI_clamp (by omega), wl_at f (by rw [ordL_len]; omega), nI_add, pk_mul, pk_mul, nI_add, nI_1]
    have hE : Ex (rok w c IX i) ((), imF pts tab tr W left top w h il IX (i + 1)) (f_GifReader_layRow K 16384 (nI ((top + lk (ordL h il) i) * W + left)) (nI (i * w)) (nI w) (nI c) tr IX tab (imF pts tab tr W left top w h il IX i)) := by
      unfold f_GifReader_layRow
      exact Ex.gq (Gq.tryL (Ex.gq hL) (fun u => ⟨_, rfl⟩) id (fun h => Gq.yes h rfl))
    refine Gq.try hE (fun u => ⟨_, rfl⟩) (fun h => h i (by omega)) (fun hri => ?_)
    exact ih (i + 1) q (by omega) (by omega) (fun j hj => by
      by_cases e : j = i
      · rw [e]; exact hri
      · exact hI j (by omega))
theorem odr_f {h j : Nat} (hj : j < h) : lk (ordL h false) (0 + j) = 0 + 1 * j := by
  rw [Nat.zero_add]
  exact st_lk 1 h 0 j hj
theorem odr_0 {h j : Nat} (hj : j < cn8 h) : lk (ordL h true) (0 + j) = 0 + 8 * j := by
  rw [Nat.zero_add]
  show lk (((st 0 8 (cn8 h) ++ st 4 8 (cn4 h)) ++ st 2 4 (cn2 h)) ++ st 1 2 (cn1 h)) j = _
  rw [lk_l _ (by rw [List.length_append, List.length_append, st_len]; omega), lk_l _ (by rw [List.length_append, st_len]; omega), lk_l _ (by rw [st_len]; omega), st_lk 8 _ _ _ hj]
theorem odr_1 {h j : Nat} (hj : j < cn4 h) : lk (ordL h true) (cn8 h + j) = 4 + 8 * j := by
  show lk (((st 0 8 (cn8 h) ++ st 4 8 (cn4 h)) ++ st 2 4 (cn2 h)) ++ st 1 2 (cn1 h)) (cn8 h + j) = _
  rw [lk_l _ (by rw [List.length_append, List.length_append, st_len, st_len]; omega), lk_l _ (by rw [List.length_append, st_len, st_len]; omega)]
  have h2 := lk_r (L := st 0 8 (cn8 h)) (st 4 8 (cn4 h)) j
  rw [st_len] at h2
  rw [h2, st_lk 8 _ _ _ hj]
theorem odr_2 {h j : Nat} (hj : j < cn2 h) : lk (ordL h true) (cn8 h + cn4 h + j) = 2 + 4 * j := by
  show lk (((st 0 8 (cn8 h) ++ st 4 8 (cn4 h)) ++ st 2 4 (cn2 h)) ++ st 1 2 (cn1 h)) (cn8 h + cn4 h + j) = _
  rw [lk_l _ (by rw [List.length_append, List.length_append, st_len, st_len, st_len]; omega)]
  have h2 := lk_r (L := st 0 8 (cn8 h) ++ st 4 8 (cn4 h)) (st 2 4 (cn2 h)) j
  rw [List.length_append, st_len, st_len] at h2
  rw [h2, st_lk 4 _ _ _ hj]
theorem odr_3 {h j : Nat} (hj : j < cn1 h) : lk (ordL h true) (cn8 h + cn4 h + cn2 h + j) = 1 + 2 * j := by
  show lk (((st 0 8 (cn8 h) ++ st 4 8 (cn4 h)) ++ st 2 4 (cn2 h)) ++ st 1 2 (cn1 h)) (cn8 h + cn4 h + cn2 h + j) = _
  have h2 := lk_r (L := (st 0 8 (cn8 h) ++ st 4 8 (cn4 h)) ++ st 2 4 (cn2 h)) (st 1 2 (cn1 h)) j
  rw [List.length_append, List.length_append, st_len, st_len, st_len] at h2
  rw [h2, st_lk 2 _ _ _ hj]
theorem cn_sum (h : Nat) : cn8 h + cn4 h + cn2 h + cn1 h = h := by
  unfold cn8 cn4 cn2 cn1
  omega
theorem layMo_L {K W H left top w h y c i : Nat} {tr : Int32} {IX RO tab pts : Nat → Int32} (hc : c ≤ 256) (hl : left + w ≤ W) (ht : top + h ≤ H) (hW : W * H ≤ 16384) (hy : y < h) (hi : i * w + w ≤ w * h) (hwh : w * h ≤ 16384) (hP : Px (w * h) IX RO) {t_taped : Int32} {t_at : Int32} {t_height : Int32} {t_colours : Int32} {t_dataSize : Int32} {t_bitAt : Int32} {t_rowBytes : Int32} {t_expected : Int32} {a_t_tape : Nat → Int32} {a_t_data : Nat → Int32} {a_t_before : Nat → Int32} {a_t_lastIndex : Nat → Int32} {a_t_deep : Nat → Int32} {a_t_palette : Nat → Int32} {x6 : Int32} {x12 : Int32} {x13 : Int32} {x15 : Int32} : ∀ (r k q : Nat), k + r = w → r < q → (∀ j, j < k → oj IX (i * w + j) < c) → Gq (rok w c IX i) (fun m => m = some (.inl (rwF pts (gps W left top y) (fun k => vl tab tr (oj IX (i * w + k))) w, nI (i * w + w)))) (f_M_image_L349 K t_taped t_at (nI W) t_height t_colours t_dataSize t_bitAt t_rowBytes t_expected a_t_tape tab a_t_data a_t_before a_t_lastIndex a_t_deep RO a_t_palette tr (nI left) (nI top) (nI w) x6 (nI c) x12 x13 x15 (nI y) q (rwF pts (gps W left top y) (fun k => vl tab tr (oj IX (i * w + k))) k) (nI (i * w + k)) (nI k)) := by
  intro r
  induction r with
  | zero =>
    intro k q hk hq hI
    obtain ⟨q, rfl⟩ : ∃ w, q = w + 1 := ⟨q - 1, by omega⟩
    have e : k = w := by omega
    subst e
    refine Gq.yes hI ?_
    show (f_M_image_349 K _ t_taped t_at (nI W) t_height t_colours t_dataSize t_bitAt t_rowBytes t_expected a_t_tape tab a_t_data a_t_before a_t_lastIndex a_t_deep RO (rwF pts (gps W left top y) (fun j => vl tab tr (oj IX (i * k + j))) k) a_t_palette tr (nI left) (nI top) (nI k) x6 (nI c) (nI (i * k + k)) x12 x13 x15 (nI y) (nI k)) = _
    unfold f_M_image_349
    rw [if_pos (nI_le (by omega) (by omega))]
  | succ r ih =>
    intro k q hk hq hI
    obtain ⟨q, rfl⟩ : ∃ w, q = w + 1 := ⟨q - 1, by omega⟩
    have hb := hP (i * w + k) (by omega)
    have hpos := gps_in hl ht hW hy (show k < w by omega)
    have epos : (nI top + nI y) * nI W + nI left + nI k = nI (gps W left top y + k) := by
      rw [nI_add, pk_mul, nI_add, nI_add]
      rfl
    show Gq _ _ (f_M_image_349 K _ t_taped t_at (nI W) t_height t_colours t_dataSize t_bitAt t_rowBytes t_expected a_t_tape tab a_t_data a_t_before a_t_lastIndex a_t_deep RO (rwF pts (gps W left top y) (fun k => vl tab tr (oj IX (i * w + k))) k) a_t_palette tr (nI left) (nI top) (nI w) x6 (nI c) (nI (i * w + k)) x12 x13 x15 (nI y) (nI k))
    unfold f_M_image_349 f_M_image_382 f_M_image_427
    rw [if_neg (nI_ge (by omega) (by omega)), if_pos (q_inb (by omega) (by omega)), nI_clamp (by omega), hb.2, by_lt hb.1]
    by_cases q1 : oj IX (i * w + k) < c
    · have hr := ih (k + 1) q (by omega) (by omega) (fun j hj => by
        by_cases e : j = k
        · rw [e]; exact q1
        · exact hI j (by omega))
      rw [if_neg (nI_ge q1 (by omega)), can1, q_tryL, epos, if_pos (q_inb hb.1 (by omega)), if_pos (q_inb hpos (by omega)), nI_clamp (by omega), nI_clamp (by omega), nI_1, nI_1]
      by_cases q2 : nI (oj IX (i * w + k)) = tr
      · rw [if_pos q2]
        have ev : vl tab tr (oj IX (i * w + k)) = tab (oj IX (i * w + k)) &&& (-256) := if_pos q2
        rw [← ev]
        exact hr
      · rw [if_neg q2, if_pos (q_inb hb.1 (by omega)), if_pos (q_inb hpos (by omega))]
        have ev : vl tab tr (oj IX (i * w + k)) = tab (oj IX (i * w + k)) := if_neg q2
        rw [← ev]
        exact hr
    · rw [if_pos (nI_le (by omega) (by omega)), can0, q_tryR]
      exact Gq.no (fun h => q1 (h k (by omega))) ⟨_, rfl⟩
theorem passMo_L {K W H left top w h c s : Nat} {il : Bool} {tr : Int32} {IX RO tab pts : Nat → Int32} (hK : 16384 < K) (hs : 0 < s) (hs8 : s ≤ 8) (hc : c ≤ 256) (hl : left + w ≤ W) (ht : top + h ≤ H) (hW : W * H ≤ 16384) (hw0 : 0 < w) (hwh : w * h ≤ 16384) (hP : Px (w * h) IX RO) {t_taped : Int32} {t_at : Int32} {t_height : Int32} {t_colours : Int32} {t_dataSize : Int32} {t_bitAt : Int32} {t_rowBytes : Int32} {t_expected : Int32} {a_t_tape : Nat → Int32} {a_t_data : Nat → Int32} {a_t_before : Nat → Int32} {a_t_lastIndex : Nat → Int32} {a_t_deep : Nat → Int32} {a_t_palette : Nat → Int32} {x12 : Int32} {x13 : Int32} : ∀ (n i a q : Nat), i + n ≤ h → n < q → (∀ j, j < n → lk (ordL h il) (i + j) = a + s * j) → (∀ j, j < n → a + s * j < h) → h ≤ a + s * n → a + s * n < h + 8 → (∀ j, j < i → rok w c IX j) → Gq (∀ j, j < i + n → rok w c IX j) (fun m => m = some (.inl (imF pts tab tr W left top w h il IX (i + n), nI ((i + n) * w)))) (f_M_image_L339 K t_taped t_at (nI W) t_height t_colours t_dataSize t_bitAt t_rowBytes t_expected a_t_tape tab a_t_data a_t_before a_t_lastIndex a_t_deep RO a_t_palette tr (nI left) (nI top) (nI w) (nI h) (nI c) x12 x13 (nI s) q (imF pts tab tr W left top w h il IX i) (nI (i * w)) (nI a)) := by
  have hh : h ≤ 16384 := Nat.le_trans (Nat.le_mul_of_pos_left h hw0) hwh
  intro n
  induction n with
  | zero =>
    intro i a q hi hq h1 h2 h3 h4 h5
    obtain ⟨q, rfl⟩ : ∃ w, q = w + 1 := ⟨q - 1, by omega⟩
    refine Gq.yes h5 ?_
    show (f_M_image_339 K _ t_taped t_at (nI W) t_height t_colours t_dataSize t_bitAt t_rowBytes t_expected a_t_tape tab a_t_data a_t_before a_t_lastIndex a_t_deep RO (imF pts tab tr W left top w h il IX i) a_t_palette tr (nI left) (nI top) (nI w) (nI h) (nI c) (nI (i * w)) x12 x13 (nI s) (nI a)) = _
    unfold f_M_image_339
    rw [if_pos (nI_le (by omega) (by omega))]
    rfl
  | succ n ih =>
    intro i a q hi hq h1 h2 h3 h4 h5
    obtain ⟨q, rfl⟩ : ∃ w, q = w + 1 := ⟨q - 1, by omega⟩
    have ha : a < h := by have := h2 0 (by omega); omega
    have hin := row_in (w := w) (show i < h by omega)
    have e0 : lk (ordL h il) i = a := by have := h1 0 (by omega); rw [Nat.mul_zero] at this; exact this
    have hL := layMo_L (K := K) (y := a) (i := i) (c := c) (tr := tr) (tab := tab) (pts := imF pts tab tr W left top w h il IX i) hc hl ht hW ha hin hwh hP (t_taped := t_taped) (t_at := t_at) (t_height := t_height) (t_colours := t_colours) (t_dataSize := t_dataSize) (t_bitAt := t_bitAt) (t_rowBytes := t_rowBytes) (t_expected := t_expected) (a_t_tape := a_t_tape) (a_t_palette := a_t_palette) (a_t_data := a_t_data) (a_t_before := a_t_before) (a_t_lastIndex := a_t_lastIndex) (a_t_deep := a_t_deep) (x6 := nI h) (x12 := x12) (x13 := x13) (x15 := nI s) w 0 K (by omega) (by omega) (fun j hj => absurd hj (Nat.not_lt_zero _))
    have es : s * (n + 1) = s * n + s := Nat.mul_succ s n
    have hr := ih (i + 1) (a + s) q (by omega) (by omega) (fun j hj => by have := h1 (j + 1) (by omega); rw [Nat.mul_succ] at this; rw [show i + 1 + j = i + (j + 1) by omega, this]; omega) (fun j hj => by have := h2 (j + 1) (by omega); rw [Nat.mul_succ] at this; omega) (by omega) (by omega)
    rw [show i + 1 + n = i + (n + 1) by omega, Nat.succ_mul] at hr
    show Gq _ _ (f_M_image_339 K _ t_taped t_at (nI W) t_height t_colours t_dataSize t_bitAt t_rowBytes t_expected a_t_tape tab a_t_data a_t_before a_t_lastIndex a_t_deep RO (imF pts tab tr W left top w h il IX i) a_t_palette tr (nI left) (nI top) (nI w) (nI h) (nI c) (nI (i * w)) x12 x13 (nI s) (nI a))
    unfold f_M_image_339
    rw [if_neg (nI_ge ha (by omega)), nI_add]
    refine Gq.tryL (Ex.gq hL) (fun u => ⟨_, rfl⟩) (fun h => h i (by omega)) (fun hri => ?_)
    have hr2 := hr (fun j hj => by
      by_cases e : j = i
      · rw [e]; exact hri
      · exact h5 j (by omega))
    have ei : imF pts tab tr W left top w h il IX (i + 1) = rwF (imF pts tab tr W left top w h il IX i) (gps W left top a) (fun k => vl tab tr (oj IX (i * w + k))) w := by
      show rwF _ (gps W left top (lk (ordL h il) i)) _ w = _
      rw [e0]
    rw [ei] at hr2
    exact hr2
theorem allMo {K q W H left top w h c : Nat} {il : Bool} {tr : Int32} {IX RO tab pts : Nat → Int32} (hK : 16390 < K) (hc : c ≤ 256) (hl : left + w ≤ W) (ht : top + h ≤ H) (hW : W * H ≤ 16384) (hw0 : 0 < w) (hwh : w * h ≤ 16384) (hP : Px (w * h) IX RO) {t_taped : Int32} {t_at : Int32} {t_height : Int32} {t_colours : Int32} {t_dataSize : Int32} {t_bitAt : Int32} {t_rowBytes : Int32} {t_expected : Int32} {a_t_tape : Nat → Int32} {a_t_data : Nat → Int32} {a_t_before : Nat → Int32} {a_t_lastIndex : Nat → Int32} {a_t_deep : Nat → Int32} {a_t_palette : Nat → Int32} : Gq (∀ j, j < h → rok w c IX j) (fun m => m = some (.inl (imF pts tab tr W left top w h il IX h))) (f_M_image_L250 K t_taped t_at (nI W) t_height t_colours t_dataSize t_bitAt t_rowBytes t_expected a_t_tape tab a_t_data a_t_before a_t_lastIndex a_t_deep RO a_t_palette tr (nI left) (nI top) (nI w) (nI h) (nI c) (b2 il) (q + 5) pts 0 0) := by
  have hh : h ≤ 16384 := Nat.le_trans (Nat.le_mul_of_pos_left h hw0) hwh
  have hpass := fun (x13 : Int32) (s : Nat) (hs : 0 < s) (hs8 : s ≤ 8) => passMo_L (K := K) (c := c) (s := s) (il := il) (tr := tr) (tab := tab) (pts := pts) (by omega) hs hs8 hc hl ht hW hw0 hwh hP (t_taped := t_taped) (t_at := t_at) (t_height := t_height) (t_colours := t_colours) (t_dataSize := t_dataSize) (t_bitAt := t_bitAt) (t_rowBytes := t_rowBytes) (t_expected := t_expected) (a_t_tape := a_t_tape) (a_t_palette := a_t_palette) (a_t_data := a_t_data) (a_t_before := a_t_before) (a_t_lastIndex := a_t_lastIndex) (a_t_deep := a_t_deep) (x12 := b2 il) (x13 := x13)
  have hs := cn_sum h
  cases il
  · show Gq _ _ (f_M_image_250 K ((f_M_image_L250 K t_taped t_at (nI W) t_height t_colours t_dataSize t_bitAt t_rowBytes t_expected a_t_tape tab a_t_data a_t_before a_t_lastIndex a_t_deep RO a_t_palette tr (nI left) (nI top) (nI w) (nI h) (nI c) (b2 false)) (q + 4)) t_taped t_at (nI W) t_height t_colours t_dataSize t_bitAt t_rowBytes t_expected a_t_tape tab a_t_data a_t_before a_t_lastIndex a_t_deep RO pts a_t_palette tr (nI left) (nI top) (nI w) (nI h) (nI c) 0 (b2 false) 0)
    unfold f_M_image_250 f_M_image_262 f_M_image_275 f_M_image_300 f_M_image_333
    have d0 : b2 false = 0 := rfl
    rw [if_pos d0, if_neg (show ¬ (1 : Int32) ≤ 0 by decide), if_pos d0, if_pos d0]
    have hp0 := hpass 0 1 (by omega) (by omega) h 0 0 K (by omega) (by omega) (fun j hj => odr_f hj) (fun j hj => by omega) (by omega) (by omega) (fun j hj => absurd hj (Nat.not_lt_zero _))
    rw [Nat.zero_mul] at hp0
    refine Gq.tryL (Ex.gq hp0) (fun u => ⟨_, rfl⟩) (fun k j hj => k j (by omega)) (fun k1 => ?_)
    show Gq _ _ (f_M_image_250 K ((f_M_image_L250 K t_taped t_at (nI W) t_height t_colours t_dataSize t_bitAt t_rowBytes t_expected a_t_tape tab a_t_data a_t_before a_t_lastIndex a_t_deep RO a_t_palette tr (nI left) (nI top) (nI w) (nI h) (nI c) (b2 false)) (q + 3)) t_taped t_at (nI W) t_height t_colours t_dataSize t_bitAt t_rowBytes t_expected a_t_tape tab a_t_data a_t_before a_t_lastIndex a_t_deep RO (imF pts tab tr W left top w h false IX (0 + h)) a_t_palette tr (nI left) (nI top) (nI w) (nI h) (nI c) (nI ((0 + h) * w)) (b2 false) (0 + 1))
    unfold f_M_image_250 f_M_image_262
    rw [if_pos d0, if_pos (show (1 : Int32) ≤ 0 + 1 by decide), Nat.zero_add]
    exact Gq.yes (fun j hj => k1 j (by omega)) rfl
  · have d0 : ¬ b2 true = 0 := by decide
    have e8 : cn8 h = (h + 7) / 8 := rfl
    have e4 : cn4 h = (h + 3) / 8 := rfl
    have e2 : cn2 h = (h + 1) / 4 := rfl
    have e1 : cn1 h = h / 2 := rfl
    show Gq _ _ (f_M_image_250 K ((f_M_image_L250 K t_taped t_at (nI W) t_height t_colours t_dataSize t_bitAt t_rowBytes t_expected a_t_tape tab a_t_data a_t_before a_t_lastIndex a_t_deep RO a_t_palette tr (nI left) (nI top) (nI w) (nI h) (nI c) (b2 true)) (q + 4)) t_taped t_at (nI W) t_height t_colours t_dataSize t_bitAt t_rowBytes t_expected a_t_tape tab a_t_data a_t_before a_t_lastIndex a_t_deep RO pts a_t_palette tr (nI left) (nI top) (nI w) (nI h) (nI c) 0 (b2 true) 0)
    unfold f_M_image_250 f_M_image_262 f_M_image_275 f_M_image_300 f_M_image_333
    rw [if_neg d0, if_neg (show ¬ (4 : Int32) ≤ 0 by decide), if_neg d0, if_pos (show (0 : Int32) = 0 from rfl), if_neg d0, if_neg (show ¬ (2 : Int32) ≤ 0 by decide)]
    have hp0 := hpass 0 8 (by omega) (by omega) (cn8 h) 0 0 K (by omega) (by omega) (fun j hj => odr_0 hj) (fun j hj => by omega) (by omega) (by omega) (fun j hj => absurd hj (Nat.not_lt_zero _))
    rw [Nat.zero_mul] at hp0
    refine Gq.tryL (Ex.gq hp0) (fun u => ⟨_, rfl⟩) (fun k j hj => k j (by omega)) (fun k1 => ?_)
    rw [Nat.zero_add] at k1 ⊢
    show Gq _ _ (f_M_image_250 K ((f_M_image_L250 K t_taped t_at (nI W) t_height t_colours t_dataSize t_bitAt t_rowBytes t_expected a_t_tape tab a_t_data a_t_before a_t_lastIndex a_t_deep RO a_t_palette tr (nI left) (nI top) (nI w) (nI h) (nI c) (b2 true)) (q + 3)) t_taped t_at (nI W) t_height t_colours t_dataSize t_bitAt t_rowBytes t_expected a_t_tape tab a_t_data a_t_before a_t_lastIndex a_t_deep RO (imF pts tab tr W left top w h true IX (cn8 h)) a_t_palette tr (nI left) (nI top) (nI w) (nI h) (nI c) (nI (cn8 h * w)) (b2 true) 1)
    unfold f_M_image_250 f_M_image_262 f_M_image_275 f_M_image_300 f_M_image_333
    rw [if_neg d0, if_neg (show ¬ (4 : Int32) ≤ 1 by decide), if_neg d0, if_neg (show ¬ (1 : Int32) = 0 by decide), if_pos (show (1 : Int32) = 1 from rfl), if_neg d0, if_neg (show ¬ (2 : Int32) ≤ 1 by decide)]
    refine Gq.tryL (Ex.gq (hpass 1 8 (by omega) (by omega) (cn4 h) (cn8 h) 4 K (by omega) (by omega) (fun j hj => odr_1 hj) (fun j hj => by omega) (by omega) (by omega) k1)) (fun u => ⟨_, rfl⟩) (fun k j hj => k j (by omega)) (fun k2 => ?_)
    show Gq _ _ (f_M_image_250 K ((f_M_image_L250 K t_taped t_at (nI W) t_height t_colours t_dataSize t_bitAt t_rowBytes t_expected a_t_tape tab a_t_data a_t_before a_t_lastIndex a_t_deep RO a_t_palette tr (nI left) (nI top) (nI w) (nI h) (nI c) (b2 true)) (q + 2)) t_taped t_at (nI W) t_height t_colours t_dataSize t_bitAt t_rowBytes t_expected a_t_tape tab a_t_data a_t_before a_t_lastIndex a_t_deep RO (imF pts tab tr W left top w h true IX (cn8 h + cn4 h)) a_t_palette tr (nI left) (nI top) (nI w) (nI h) (nI c) (nI ((cn8 h + cn4 h) * w)) (b2 true) 2)
    unfold f_M_image_250 f_M_image_262 f_M_image_275 f_M_image_300 f_M_image_333
    rw [if_neg d0, if_neg (show ¬ (4 : Int32) ≤ 2 by decide), if_neg d0, if_neg (show ¬ (2 : Int32) = 0 by decide), if_neg (show ¬ (2 : Int32) = 1 by decide), if_pos (show (2 : Int32) = 2 from rfl), if_neg d0, if_pos (show (2 : Int32) ≤ 2 by decide), if_pos (show (2 : Int32) = 2 from rfl)]
    refine Gq.tryL (Ex.gq (hpass 2 4 (by omega) (by omega) (cn2 h) (cn8 h + cn4 h) 2 K (by omega) (by omega) (fun j hj => odr_2 hj) (fun j hj => by omega) (by omega) (by omega) k2)) (fun u => ⟨_, rfl⟩) (fun k j hj => k j (by omega)) (fun k3 => ?_)
    show Gq _ _ (f_M_image_250 K ((f_M_image_L250 K t_taped t_at (nI W) t_height t_colours t_dataSize t_bitAt t_rowBytes t_expected a_t_tape tab a_t_data a_t_before a_t_lastIndex a_t_deep RO a_t_palette tr (nI left) (nI top) (nI w) (nI h) (nI c) (b2 true)) (q + 1)) t_taped t_at (nI W) t_height t_colours t_dataSize t_bitAt t_rowBytes t_expected a_t_tape tab a_t_data a_t_before a_t_lastIndex a_t_deep RO (imF pts tab tr W left top w h true IX (cn8 h + cn4 h + cn2 h)) a_t_palette tr (nI left) (nI top) (nI w) (nI h) (nI c) (nI ((cn8 h + cn4 h + cn2 h) * w)) (b2 true) 3)
    unfold f_M_image_250 f_M_image_262 f_M_image_275 f_M_image_300 f_M_image_333
    rw [if_neg d0, if_neg (show ¬ (4 : Int32) ≤ 3 by decide), if_neg d0, if_neg (show ¬ (3 : Int32) = 0 by decide), if_neg (show ¬ (3 : Int32) = 1 by decide), if_neg (show ¬ (3 : Int32) = 2 by decide), if_neg d0, if_pos (show (2 : Int32) ≤ 3 by decide), if_neg (show ¬ (3 : Int32) = 2 by decide)]
    refine Gq.tryL (Ex.gq (hpass 3 2 (by omega) (by omega) (cn1 h) (cn8 h + cn4 h + cn2 h) 1 K (by omega) (by omega) (fun j hj => odr_3 hj) (fun j hj => by omega) (by omega) (by omega) k3)) (fun u => ⟨_, rfl⟩) (fun k j hj => k j (by omega)) (fun k4 => ?_)
    show Gq _ _ (f_M_image_250 K ((f_M_image_L250 K t_taped t_at (nI W) t_height t_colours t_dataSize t_bitAt t_rowBytes t_expected a_t_tape tab a_t_data a_t_before a_t_lastIndex a_t_deep RO a_t_palette tr (nI left) (nI top) (nI w) (nI h) (nI c) (b2 true)) q) t_taped t_at (nI W) t_height t_colours t_dataSize t_bitAt t_rowBytes t_expected a_t_tape tab a_t_data a_t_before a_t_lastIndex a_t_deep RO (imF pts tab tr W left top w h true IX (cn8 h + cn4 h + cn2 h + cn1 h)) a_t_palette tr (nI left) (nI top) (nI w) (nI h) (nI c) (nI ((cn8 h + cn4 h + cn2 h + cn1 h) * w)) (b2 true) 4)
    unfold f_M_image_250 f_M_image_262
    rw [if_neg d0, if_pos (show (4 : Int32) ≤ 4 by decide), hs]
    rw [hs] at k4
    exact Gq.yes k4 rfl
theorem layMp_L {K W H left top w h y c i : Nat} {tr : Int32} {IX RO tab pts : Nat → Int32} (hc : c ≤ 256) (hl : left + w ≤ W) (ht : top + h ≤ H) (hW : W * H ≤ 16384) (hy : y < h) (hi : i * w + w ≤ w * h) (hwh : w * h ≤ 16384) (hP : Px (w * h) IX RO) {t_taped : Int32} {t_at : Int32} {t_height : Int32} {t_colours : Int32} {t_dataSize : Int32} {t_bitAt : Int32} {t_rowBytes : Int32} {t_expected : Int32} {a_t_tape : Nat → Int32} {a_t_own : Nat → Int32} {a_t_data : Nat → Int32} {a_t_before : Nat → Int32} {a_t_lastIndex : Nat → Int32} {a_t_deep : Nat → Int32} {x6 : Int32} {x12 : Int32} {x13 : Int32} {x15 : Int32} : ∀ (r k q : Nat), k + r = w → r < q → (∀ j, j < k → oj IX (i * w + j) < c) → Gq (rok w c IX i) (fun m => m = some (.inl (rwF pts (gps W left top y) (fun k => vl tab tr (oj IX (i * w + k))) w, nI (i * w + w)))) (f_M_image_L100349 K t_taped t_at (nI W) t_height t_colours t_dataSize t_bitAt t_rowBytes t_expected a_t_tape a_t_own a_t_data a_t_before a_t_lastIndex a_t_deep RO tab tr (nI left) (nI top) (nI w) x6 (nI c) x12 x13 x15 (nI y) q (rwF pts (gps W left top y) (fun k => vl tab tr (oj IX (i * w + k))) k) (nI (i * w + k)) (nI k)) := by
  intro r
  induction r with
  | zero =>
    intro k q hk hq hI
    obtain ⟨q, rfl⟩ : ∃ w, q = w + 1 := ⟨q - 1, by omega⟩
    have e : k = w := by omega
    subst e
    refine Gq.yes hI ?_
    show (f_M_image_100349 K _ t_taped t_at (nI W) t_height t_colours t_dataSize t_bitAt t_rowBytes t_expected a_t_tape a_t_own a_t_data a_t_before a_t_lastIndex a_t_deep RO (rwF pts (gps W left top y) (fun j => vl tab tr (oj IX (i * k + j))) k) tab tr (nI left) (nI top) (nI k) x6 (nI c) (nI (i * k + k)) x12 x13 x15 (nI y) (nI k)) = _
    unfold f_M_image_100349
    rw [if_pos (nI_le (by omega) (by omega))]
  | succ r ih =>
    intro k q hk hq hI
    obtain ⟨q, rfl⟩ : ∃ w, q = w + 1 := ⟨q - 1, by omega⟩
    have hb := hP (i * w + k) (by omega)
    have hpos := gps_in hl ht hW hy (show k < w by omega)
    have epos : (nI top + nI y) * nI W + nI left + nI k = nI (gps W left top y + k) := by
      rw [nI_add, pk_mul, nI_add, nI_add]
      rfl
    show Gq _ _ (f_M_image_100349 K _ t_taped t_at (nI W) t_height t_colours t_dataSize t_bitAt t_rowBytes t_expected a_t_tape a_t_own a_t_data a_t_before a_t_lastIndex a_t_deep RO (rwF pts (gps W left top y) (fun k => vl tab tr (oj IX (i * w + k))) k) tab tr (nI left) (nI top) (nI w) x6 (nI c) (nI (i * w + k)) x12 x13 x15 (nI y) (nI k))
    unfold f_M_image_100349 f_M_image_100382 f_M_image_100427
    rw [if_neg (nI_ge (by omega) (by omega)), if_pos (q_inb (by omega) (by omega)), nI_clamp (by omega), hb.2, by_lt hb.1]
    by_cases q1 : oj IX (i * w + k) < c
    · have hr := ih (k + 1) q (by omega) (by omega) (fun j hj => by
        by_cases e : j = k
        · rw [e]; exact q1
        · exact hI j (by omega))
      rw [if_neg (nI_ge q1 (by omega)), can1, q_tryL, epos, if_pos (q_inb hb.1 (by omega)), if_pos (q_inb hpos (by omega)), nI_clamp (by omega), nI_clamp (by omega), nI_1, nI_1]
      by_cases q2 : nI (oj IX (i * w + k)) = tr
      · rw [if_pos q2]
        have ev : vl tab tr (oj IX (i * w + k)) = tab (oj IX (i * w + k)) &&& (-256) := if_pos q2
        rw [← ev]
        exact hr
      · rw [if_neg q2, if_pos (q_inb hb.1 (by omega)), if_pos (q_inb hpos (by omega))]
        have ev : vl tab tr (oj IX (i * w + k)) = tab (oj IX (i * w + k)) := if_neg q2
        rw [← ev]
        exact hr
    · rw [if_pos (nI_le (by omega) (by omega)), can0, q_tryR]
      exact Gq.no (fun h => q1 (h k (by omega))) ⟨_, rfl⟩
theorem passMp_L {K W H left top w h c s : Nat} {il : Bool} {tr : Int32} {IX RO tab pts : Nat → Int32} (hK : 16384 < K) (hs : 0 < s) (hs8 : s ≤ 8) (hc : c ≤ 256) (hl : left + w ≤ W) (ht : top + h ≤ H) (hW : W * H ≤ 16384) (hw0 : 0 < w) (hwh : w * h ≤ 16384) (hP : Px (w * h) IX RO) {t_taped : Int32} {t_at : Int32} {t_height : Int32} {t_colours : Int32} {t_dataSize : Int32} {t_bitAt : Int32} {t_rowBytes : Int32} {t_expected : Int32} {a_t_tape : Nat → Int32} {a_t_own : Nat → Int32} {a_t_data : Nat → Int32} {a_t_before : Nat → Int32} {a_t_lastIndex : Nat → Int32} {a_t_deep : Nat → Int32} {x12 : Int32} {x13 : Int32} : ∀ (n i a q : Nat), i + n ≤ h → n < q → (∀ j, j < n → lk (ordL h il) (i + j) = a + s * j) → (∀ j, j < n → a + s * j < h) → h ≤ a + s * n → a + s * n < h + 8 → (∀ j, j < i → rok w c IX j) → Gq (∀ j, j < i + n → rok w c IX j) (fun m => m = some (.inl (imF pts tab tr W left top w h il IX (i + n), nI ((i + n) * w)))) (f_M_image_L100339 K t_taped t_at (nI W) t_height t_colours t_dataSize t_bitAt t_rowBytes t_expected a_t_tape a_t_own a_t_data a_t_before a_t_lastIndex a_t_deep RO tab tr (nI left) (nI top) (nI w) (nI h) (nI c) x12 x13 (nI s) q (imF pts tab tr W left top w h il IX i) (nI (i * w)) (nI a)) := by
  have hh : h ≤ 16384 := Nat.le_trans (Nat.le_mul_of_pos_left h hw0) hwh
  intro n
  induction n with
  | zero =>
    intro i a q hi hq h1 h2 h3 h4 h5
    obtain ⟨q, rfl⟩ : ∃ w, q = w + 1 := ⟨q - 1, by omega⟩
    refine Gq.yes h5 ?_
    show (f_M_image_100339 K _ t_taped t_at (nI W) t_height t_colours t_dataSize t_bitAt t_rowBytes t_expected a_t_tape a_t_own a_t_data a_t_before a_t_lastIndex a_t_deep RO (imF pts tab tr W left top w h il IX i) tab tr (nI left) (nI top) (nI w) (nI h) (nI c) (nI (i * w)) x12 x13 (nI s) (nI a)) = _
    unfold f_M_image_100339
    rw [if_pos (nI_le (by omega) (by omega))]
    rfl
  | succ n ih =>
    intro i a q hi hq h1 h2 h3 h4 h5
    obtain ⟨q, rfl⟩ : ∃ w, q = w + 1 := ⟨q - 1, by omega⟩
    have ha : a < h := by have := h2 0 (by omega); omega
    have hin := row_in (w := w) (show i < h by omega)
    have e0 : lk (ordL h il) i = a := by have := h1 0 (by omega); rw [Nat.mul_zero] at this; exact this
    have hL := layMp_L (K := K) (y := a) (i := i) (c := c) (tr := tr) (tab := tab) (pts := imF pts tab tr W left top w h il IX i) hc hl ht hW ha hin hwh hP (t_taped := t_taped) (t_at := t_at) (t_height := t_height) (t_colours := t_colours) (t_dataSize := t_dataSize) (t_bitAt := t_bitAt) (t_rowBytes := t_rowBytes) (t_expected := t_expected) (a_t_tape := a_t_tape) (a_t_own := a_t_own) (a_t_data := a_t_data) (a_t_before := a_t_before) (a_t_lastIndex := a_t_lastIndex) (a_t_deep := a_t_deep) (x6 := nI h) (x12 := x12) (x13 := x13) (x15 := nI s) w 0 K (by omega) (by omega) (fun j hj => absurd hj (Nat.not_lt_zero _))
    have es : s * (n + 1) = s * n + s := Nat.mul_succ s n
    have hr := ih (i + 1) (a + s) q (by omega) (by omega) (fun j hj => by have := h1 (j + 1) (by omega); rw [Nat.mul_succ] at this; rw [show i + 1 + j = i + (j + 1) by omega, this]; omega) (fun j hj => by have := h2 (j + 1) (by omega); rw [Nat.mul_succ] at this; omega) (by omega) (by omega)
    rw [show i + 1 + n = i + (n + 1) by omega, Nat.succ_mul] at hr
    show Gq _ _ (f_M_image_100339 K _ t_taped t_at (nI W) t_height t_colours t_dataSize t_bitAt t_rowBytes t_expected a_t_tape a_t_own a_t_data a_t_before a_t_lastIndex a_t_deep RO (imF pts tab tr W left top w h il IX i) tab tr (nI left) (nI top) (nI w) (nI h) (nI c) (nI (i * w)) x12 x13 (nI s) (nI a))
    unfold f_M_image_100339
    rw [if_neg (nI_ge ha (by omega)), nI_add]
    refine Gq.tryL (Ex.gq hL) (fun u => ⟨_, rfl⟩) (fun h => h i (by omega)) (fun hri => ?_)
    have hr2 := hr (fun j hj => by
      by_cases e : j = i
      · rw [e]; exact hri
      · exact h5 j (by omega))
    have ei : imF pts tab tr W left top w h il IX (i + 1) = rwF (imF pts tab tr W left top w h il IX i) (gps W left top a) (fun k => vl tab tr (oj IX (i * w + k))) w := by
      show rwF _ (gps W left top (lk (ordL h il) i)) _ w = _
      rw [e0]
    rw [ei] at hr2
    exact hr2
theorem allMp {K q W H left top w h c : Nat} {il : Bool} {tr : Int32} {IX RO tab pts : Nat → Int32} (hK : 16390 < K) (hc : c ≤ 256) (hl : left + w ≤ W) (ht : top + h ≤ H) (hW : W * H ≤ 16384) (hw0 : 0 < w) (hwh : w * h ≤ 16384) (hP : Px (w * h) IX RO) {t_taped : Int32} {t_at : Int32} {t_height : Int32} {t_colours : Int32} {t_dataSize : Int32} {t_bitAt : Int32} {t_rowBytes : Int32} {t_expected : Int32} {a_t_tape : Nat → Int32} {a_t_own : Nat → Int32} {a_t_data : Nat → Int32} {a_t_before : Nat → Int32} {a_t_lastIndex : Nat → Int32} {a_t_deep : Nat → Int32} : Gq (∀ j, j < h → rok w c IX j) (fun m => m = some (.inl (imF pts tab tr W left top w h il IX h))) (f_M_image_L100250 K t_taped t_at (nI W) t_height t_colours t_dataSize t_bitAt t_rowBytes t_expected a_t_tape a_t_own a_t_data a_t_before a_t_lastIndex a_t_deep RO tab tr (nI left) (nI top) (nI w) (nI h) (nI c) (b2 il) (q + 5) pts 0 0) := by
  have hh : h ≤ 16384 := Nat.le_trans (Nat.le_mul_of_pos_left h hw0) hwh
  have hpass := fun (x13 : Int32) (s : Nat) (hs : 0 < s) (hs8 : s ≤ 8) => passMp_L (K := K) (c := c) (s := s) (il := il) (tr := tr) (tab := tab) (pts := pts) (by omega) hs hs8 hc hl ht hW hw0 hwh hP (t_taped := t_taped) (t_at := t_at) (t_height := t_height) (t_colours := t_colours) (t_dataSize := t_dataSize) (t_bitAt := t_bitAt) (t_rowBytes := t_rowBytes) (t_expected := t_expected) (a_t_tape := a_t_tape) (a_t_own := a_t_own) (a_t_data := a_t_data) (a_t_before := a_t_before) (a_t_lastIndex := a_t_lastIndex) (a_t_deep := a_t_deep) (x12 := b2 il) (x13 := x13)
  have hs := cn_sum h
  cases il
  · show Gq _ _ (f_M_image_100250 K ((f_M_image_L100250 K t_taped t_at (nI W) t_height t_colours t_dataSize t_bitAt t_rowBytes t_expected a_t_tape a_t_own a_t_data a_t_before a_t_lastIndex a_t_deep RO tab tr (nI left) (nI top) (nI w) (nI h) (nI c) (b2 false)) (q + 4)) t_taped t_at (nI W) t_height t_colours t_dataSize t_bitAt t_rowBytes t_expected a_t_tape a_t_own a_t_data a_t_before a_t_lastIndex a_t_deep RO pts tab tr (nI left) (nI top) (nI w) (nI h) (nI c) 0 (b2 false) 0)
    unfold f_M_image_100250 f_M_image_100262 f_M_image_100275 f_M_image_100300 f_M_image_100333
    have d0 : b2 false = 0 := rfl
    rw [if_pos d0, if_neg (show ¬ (1 : Int32) ≤ 0 by decide), if_pos d0, if_pos d0]
    have hp0 := hpass 0 1 (by omega) (by omega) h 0 0 K (by omega) (by omega) (fun j hj => odr_f hj) (fun j hj => by omega) (by omega) (by omega) (fun j hj => absurd hj (Nat.not_lt_zero _))
    rw [Nat.zero_mul] at hp0
    refine Gq.tryL (Ex.gq hp0) (fun u => ⟨_, rfl⟩) (fun k j hj => k j (by omega)) (fun k1 => ?_)
    show Gq _ _ (f_M_image_100250 K ((f_M_image_L100250 K t_taped t_at (nI W) t_height t_colours t_dataSize t_bitAt t_rowBytes t_expected a_t_tape a_t_own a_t_data a_t_before a_t_lastIndex a_t_deep RO tab tr (nI left) (nI top) (nI w) (nI h) (nI c) (b2 false)) (q + 3)) t_taped t_at (nI W) t_height t_colours t_dataSize t_bitAt t_rowBytes t_expected a_t_tape a_t_own a_t_data a_t_before a_t_lastIndex a_t_deep RO (imF pts tab tr W left top w h false IX (0 + h)) tab tr (nI left) (nI top) (nI w) (nI h) (nI c) (nI ((0 + h) * w)) (b2 false) (0 + 1))
    unfold f_M_image_100250 f_M_image_100262
    rw [if_pos d0, if_pos (show (1 : Int32) ≤ 0 + 1 by decide), Nat.zero_add]
    exact Gq.yes (fun j hj => k1 j (by omega)) rfl
  · have d0 : ¬ b2 true = 0 := by decide
    have e8 : cn8 h = (h + 7) / 8 := rfl
    have e4 : cn4 h = (h + 3) / 8 := rfl
    have e2 : cn2 h = (h + 1) / 4 := rfl
    have e1 : cn1 h = h / 2 := rfl
    show Gq _ _ (f_M_image_100250 K ((f_M_image_L100250 K t_taped t_at (nI W) t_height t_colours t_dataSize t_bitAt t_rowBytes t_expected a_t_tape a_t_own a_t_data a_t_before a_t_lastIndex a_t_deep RO tab tr (nI left) (nI top) (nI w) (nI h) (nI c) (b2 true)) (q + 4)) t_taped t_at (nI W) t_height t_colours t_dataSize t_bitAt t_rowBytes t_expected a_t_tape a_t_own a_t_data a_t_before a_t_lastIndex a_t_deep RO pts tab tr (nI left) (nI top) (nI w) (nI h) (nI c) 0 (b2 true) 0)
    unfold f_M_image_100250 f_M_image_100262 f_M_image_100275 f_M_image_100300 f_M_image_100333
    rw [if_neg d0, if_neg (show ¬ (4 : Int32) ≤ 0 by decide), if_neg d0, if_pos (show (0 : Int32) = 0 from rfl), if_neg d0, if_neg (show ¬ (2 : Int32) ≤ 0 by decide)]
    have hp0 := hpass 0 8 (by omega) (by omega) (cn8 h) 0 0 K (by omega) (by omega) (fun j hj => odr_0 hj) (fun j hj => by omega) (by omega) (by omega) (fun j hj => absurd hj (Nat.not_lt_zero _))
    rw [Nat.zero_mul] at hp0
    refine Gq.tryL (Ex.gq hp0) (fun u => ⟨_, rfl⟩) (fun k j hj => k j (by omega)) (fun k1 => ?_)
    rw [Nat.zero_add] at k1 ⊢
    show Gq _ _ (f_M_image_100250 K ((f_M_image_L100250 K t_taped t_at (nI W) t_height t_colours t_dataSize t_bitAt t_rowBytes t_expected a_t_tape a_t_own a_t_data a_t_before a_t_lastIndex a_t_deep RO tab tr (nI left) (nI top) (nI w) (nI h) (nI c) (b2 true)) (q + 3)) t_taped t_at (nI W) t_height t_colours t_dataSize t_bitAt t_rowBytes t_expected a_t_tape a_t_own a_t_data a_t_before a_t_lastIndex a_t_deep RO (imF pts tab tr W left top w h true IX (cn8 h)) tab tr (nI left) (nI top) (nI w) (nI h) (nI c) (nI (cn8 h * w)) (b2 true) 1)
    unfold f_M_image_100250 f_M_image_100262 f_M_image_100275 f_M_image_100300 f_M_image_100333
    rw [if_neg d0, if_neg (show ¬ (4 : Int32) ≤ 1 by decide), if_neg d0, if_neg (show ¬ (1 : Int32) = 0 by decide), if_pos (show (1 : Int32) = 1 from rfl), if_neg d0, if_neg (show ¬ (2 : Int32) ≤ 1 by decide)]
    refine Gq.tryL (Ex.gq (hpass 1 8 (by omega) (by omega) (cn4 h) (cn8 h) 4 K (by omega) (by omega) (fun j hj => odr_1 hj) (fun j hj => by omega) (by omega) (by omega) k1)) (fun u => ⟨_, rfl⟩) (fun k j hj => k j (by omega)) (fun k2 => ?_)
    show Gq _ _ (f_M_image_100250 K ((f_M_image_L100250 K t_taped t_at (nI W) t_height t_colours t_dataSize t_bitAt t_rowBytes t_expected a_t_tape a_t_own a_t_data a_t_before a_t_lastIndex a_t_deep RO tab tr (nI left) (nI top) (nI w) (nI h) (nI c) (b2 true)) (q + 2)) t_taped t_at (nI W) t_height t_colours t_dataSize t_bitAt t_rowBytes t_expected a_t_tape a_t_own a_t_data a_t_before a_t_lastIndex a_t_deep RO (imF pts tab tr W left top w h true IX (cn8 h + cn4 h)) tab tr (nI left) (nI top) (nI w) (nI h) (nI c) (nI ((cn8 h + cn4 h) * w)) (b2 true) 2)
    unfold f_M_image_100250 f_M_image_100262 f_M_image_100275 f_M_image_100300 f_M_image_100333
    rw [if_neg d0, if_neg (show ¬ (4 : Int32) ≤ 2 by decide), if_neg d0, if_neg (show ¬ (2 : Int32) = 0 by decide), if_neg (show ¬ (2 : Int32) = 1 by decide), if_pos (show (2 : Int32) = 2 from rfl), if_neg d0, if_pos (show (2 : Int32) ≤ 2 by decide), if_pos (show (2 : Int32) = 2 from rfl)]
    refine Gq.tryL (Ex.gq (hpass 2 4 (by omega) (by omega) (cn2 h) (cn8 h + cn4 h) 2 K (by omega) (by omega) (fun j hj => odr_2 hj) (fun j hj => by omega) (by omega) (by omega) k2)) (fun u => ⟨_, rfl⟩) (fun k j hj => k j (by omega)) (fun k3 => ?_)
    show Gq _ _ (f_M_image_100250 K ((f_M_image_L100250 K t_taped t_at (nI W) t_height t_colours t_dataSize t_bitAt t_rowBytes t_expected a_t_tape a_t_own a_t_data a_t_before a_t_lastIndex a_t_deep RO tab tr (nI left) (nI top) (nI w) (nI h) (nI c) (b2 true)) (q + 1)) t_taped t_at (nI W) t_height t_colours t_dataSize t_bitAt t_rowBytes t_expected a_t_tape a_t_own a_t_data a_t_before a_t_lastIndex a_t_deep RO (imF pts tab tr W left top w h true IX (cn8 h + cn4 h + cn2 h)) tab tr (nI left) (nI top) (nI w) (nI h) (nI c) (nI ((cn8 h + cn4 h + cn2 h) * w)) (b2 true) 3)
    unfold f_M_image_100250 f_M_image_100262 f_M_image_100275 f_M_image_100300 f_M_image_100333
    rw [if_neg d0, if_neg (show ¬ (4 : Int32) ≤ 3 by decide), if_neg d0, if_neg (show ¬ (3 : Int32) = 0 by decide), if_neg (show ¬ (3 : Int32) = 1 by decide), if_neg (show ¬ (3 : Int32) = 2 by decide), if_neg d0, if_pos (show (2 : Int32) ≤ 3 by decide), if_neg (show ¬ (3 : Int32) = 2 by decide)]
    refine Gq.tryL (Ex.gq (hpass 3 2 (by omega) (by omega) (cn1 h) (cn8 h + cn4 h + cn2 h) 1 K (by omega) (by omega) (fun j hj => odr_3 hj) (fun j hj => by omega) (by omega) (by omega) k3)) (fun u => ⟨_, rfl⟩) (fun k j hj => k j (by omega)) (fun k4 => ?_)
    show Gq _ _ (f_M_image_100250 K ((f_M_image_L100250 K t_taped t_at (nI W) t_height t_colours t_dataSize t_bitAt t_rowBytes t_expected a_t_tape a_t_own a_t_data a_t_before a_t_lastIndex a_t_deep RO tab tr (nI left) (nI top) (nI w) (nI h) (nI c) (b2 true)) q) t_taped t_at (nI W) t_height t_colours t_dataSize t_bitAt t_rowBytes t_expected a_t_tape a_t_own a_t_data a_t_before a_t_lastIndex a_t_deep RO (imF pts tab tr W left top w h true IX (cn8 h + cn4 h + cn2 h + cn1 h)) tab tr (nI left) (nI top) (nI w) (nI h) (nI c) (nI ((cn8 h + cn4 h + cn2 h + cn1 h) * w)) (b2 true) 4)
    unfold f_M_image_100250 f_M_image_100262
    rw [if_neg d0, if_pos (show (4 : Int32) ≤ 4 by decide), hs]
    rw [hs] at k4
    exact Gq.yes k4 rfl
