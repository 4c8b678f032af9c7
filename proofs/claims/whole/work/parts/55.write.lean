/-! the pure half: write -/
abbrev DWS := Int32 × Int32 × Int32 × (Nat → Int32) × Int32 × Int32 × Int32 × (Nat → Int32) × (Nat → Int32) × (Nat → Int32) × Int32 × Int32 × Int32 × Int32 × Int32 × Int32 × Int32 × (Nat → Int32) × (Nat → Int32) × (Nat → Int32) × (Nat → Int32) × (Nat → Int32) × Int32 × Int32 × Int32 × (Nat → Int32) × (Nat → Int32) × (Nat → Int32) × (Nat → Int32) × Int32 × Int32 × Int32 × (Nat → Int32) × Nat × Nat × Nat × Nat
abbrev MWS := Int32 × Int32 × Int32 × Int32 × Int32 × Int32 × Int32 × Int32 × Int32 × Int32 × (Nat → Int32) × (Nat → Int32) × (Nat → Int32) × (Nat → Int32) × (Nat → Int32) × (Nat → Int32) × (Nat → Int32) × (Nat → Int32) × (Nat → Int32)
theorem Fc.cases {α ε β : Type} {B : Prop} {N L : Nat} {Pr : α → Prop} {m : Option (α ⊕ (Nat × ε))} (h : Fc B N L Pr m) (f : α → Option β) (g : Nat × ε → Option β) : (B ∧ ∃ u, dc_try m f g = g (3, u)) ∨ (¬ B ∧ L ≤ N ∧ ∃ a, Pr a ∧ dc_try m f g = f a) ∨ (¬ B ∧ N < L ∧ ∃ u, dc_try m f g = g (4, u)) := by
  by_cases hB : B
  · obtain ⟨u, hu⟩ := h.1 hB
    exact .inl ⟨hB, u, by rw [hu, q_tryR]⟩
  · by_cases hL : L ≤ N
    · obtain ⟨a, ha, hp⟩ := (h.2 hB).1 hL
      exact .inr (.inl ⟨hB, hL, a, hp, by rw [ha, q_tryL]⟩)
    · obtain ⟨u, hu⟩ := (h.2 hB).2 (by omega)
      exact .inr (.inr ⟨hB, by omega, u, by rw [hu, q_tryR]⟩)
theorem Fi.fp {α ε : Type} {N L : Nat} {a : α} {r : Option (α ⊕ (Nat × ε))} (h : Fi N L a r) : Fp N L (fun x => x = a) r := ⟨fun hl => ⟨a, h.1 hl, rfl⟩, h.2⟩
/-- too many colours -/
def wB (P : Nat → Int32) (w h fm md : Nat) : Prop := if fm = 0 then False else if fm = 1 then 256 < (gS P (w * h)).length else if md = 0 then False else 256 < (Sp (fun i => us8 (P i)) (w * h)).length
/-- what is written -/
def wZ (P : Nat → Int32) (w h fm md : Nat) : List Int32 := if fm = 0 then pngL P w h md else if fm = 1 then gifL P w h (decide (md = 1)) else if md = 0 then lenMend (bmpPlain P w h) else lenMend (bmpRuns P w h)
def wOk (z : List Int32) (b : Nat → Int32) (S : DWS) : Prop := S.2.2.2.2.2.2.2.2.2.2.2.2.2.2.2.2.2.2.2.2.2.2.2.2.2.2.2.2.2.1 = nI z.length ∧ S.2.2.2.2.2.2.2.2.2.2.2.2.2.2.2.2.2.2.2.2.2.2.2.2.2.2.2.2.2.2.2.2.1 = wr b z
def wNo (f : Int32) (r : Nat → Int32) (S : DWS) : Prop := S.2.2.2.2.2.2.2.2.2.2.2.2.2.2.2.2.2.2.2.2.2.2.2.2.2.2.2.2.2.1 = f ∧ S.2.2.2.2.2.2.2.2.2.2.2.2.2.2.2.2.2.2.2.2.2.2.2.2.2.2.2.2.2.2.2.2.1 = r
def mNo (k : Int32) (f : Int32) (r : Nat → Int32) (S : MWS) : Prop := S.1 = k ∧ S.2.1 = f ∧ S.2.2.2.2.2.2.2.2.2.2.2.2.2.2.1 = r
def mOk (z : List Int32) (S : MWS) : Prop := S.1 = 0 ∧ S.2.1 = nI z.length ∧ ∀ j, j < z.length → S.2.2.2.2.2.2.2.2.2.2.2.2.2.2.1 j = q_by ((z[j]?).getD 0)
/-- a call's outcome -/
def wD (B : Prop) (z : List Int32) (b : Nat → Int32) (f : Int32) (rs : Nat → Int32) (r : Option ((Int32 × DWS) ⊕ (Nat × DWS))) : Prop := (B ∧ ∃ S, r = some (.inr (3, S)) ∧ wNo f rs S) ∨ (¬ B ∧ z.length ≤ 65536 ∧ ∃ S, r = some (.inl (nI z.length, S)) ∧ wOk z b S) ∨ (¬ B ∧ 65536 < z.length ∧ ∃ S, r = some (.inr (4, S)) ∧ wNo f rs S)
theorem lm_len (Z : List Int32) : (lenMend Z).length = Z.length := st4_len _ _ _
theorem wD_gif0 {K w h : Nat} (il : Bool) (hK : 300000 < K) (hw0 : 0 < w) (hwh : w * h ≤ 16384) (b W Hh : Nat → Int32) (P : Nat → Nat → Int32) (hw : W 0 = nI w) (hh : Hh 0 = nI h) {t_draft_bitStore : Int32} {t_draft_bitsHeld : Int32} {t_pngWriter_total : Int32} {t_pngWriter_copyLength : Int32} {t_pngWriter_copyDistance : Int32} {a_t_pngReader_rows : Nat → Int32} {a_t_pngWriter_lastPlaces : Nat → Int32} {a_t_pngWriter_placesBefore : Nat → Int32} {t_gifWriter_m : Int32} {t_gifWriter_nextRow : Int32} {t_gifWriter_bits : Int32} {t_gifWriter_readersNextRow : Int32} {t_gifWriter_isFirstCode : Int32} {t_gifWriter_table_used : Int32} {t_gifWriter_table_transparentIndex : Int32} {a_t_gifWriter_table_cells : Nat → Int32} {a_t_gifWriter_table_colours : Nat → Int32} {a_t_gifWriter_table_indices : Nat → Int32} {a_t_gifWriter_order : Nat → Int32} {a_t_gifWriter_indices : Nat → Int32} {t_gifWriter_codes_filled : Int32} {t_gifWriter_codes_bitStore : Int32} {t_gifWriter_codes_bitsHeld : Int32} {a_t_gifWriter_codes_bytes : Nat → Int32} {a_t_gifWriter_newestLonger : Nat → Int32} {a_t_gifWriter_lastIndex : Nat → Int32} {a_t_gifWriter_olderSibling : Nat → Int32} {t_result_filled : Int32} {t_result_bitStore : Int32} {t_result_bitsHeld : Int32} {a_t_result_bytes : Nat → Int32} {h_t_result : Nat} {h_t_result_bytes : Nat} {h_t_draft : Nat} {h_t_draft_bytes : Nat} : wD (256 < (gS (P 0) (w * h)).length) (gifL (P 0) w h il) b t_result_filled a_t_result_bytes (f_D_write_300102 K 32768 (W 3) (Hh 3) (W 2) (Hh 2) (W 1) (Hh 1) (W 0) (Hh 0) 0 t_draft_bitStore t_draft_bitsHeld b t_pngWriter_total t_pngWriter_copyLength t_pngWriter_copyDistance a_t_pngReader_rows (P 3) a_t_pngWriter_lastPlaces a_t_pngWriter_placesBefore t_gifWriter_m t_gifWriter_nextRow t_gifWriter_bits t_gifWriter_readersNextRow t_gifWriter_isFirstCode t_gifWriter_table_used t_gifWriter_table_transparentIndex a_t_gifWriter_table_cells a_t_gifWriter_table_colours a_t_gifWriter_table_indices a_t_gifWriter_order a_t_gifWriter_indices t_gifWriter_codes_filled t_gifWriter_codes_bitStore t_gifWriter_codes_bitsHeld a_t_gifWriter_codes_bytes a_t_gifWriter_newestLonger a_t_gifWriter_lastIndex a_t_gifWriter_olderSibling (P 2) (P 1) (P 0) t_result_filled t_result_bitStore t_result_bitsHeld a_t_result_bytes h_t_result h_t_result_bytes h_t_draft h_t_draft_bytes (cond il 1 0)) := by
  unfold f_D_write_300102 f_D_write_109 f_D_write_145 f_Sink_filled
  rw [hw, hh]
  rcases Fc.cases (gifD (K := K) il (by omega) hw0 hwh b (P 0)) _ _ with ⟨hB, u, hu⟩ | ⟨hB, hL, a, ⟨ha1, ha2⟩, hu⟩ | ⟨hB, hL, u, hu⟩
  · rw [hu]
    exact .inl ⟨hB, _, rfl, rfl, rfl⟩
  · rw [hu]
    refine .inr (.inl ⟨hB, hL, _, by rw [ha1, q_bind], ?_, ?_⟩)
    · rfl
    · exact ha2
  · rw [hu]
    exact .inr (.inr ⟨hB, hL, _, rfl, rfl, rfl⟩)
theorem wD_gif1 {K w h : Nat} (il : Bool) (hK : 300000 < K) (hw0 : 0 < w) (hwh : w * h ≤ 16384) (b W Hh : Nat → Int32) (P : Nat → Nat → Int32) (hw : W 1 = nI w) (hh : Hh 1 = nI h) {t_draft_bitStore : Int32} {t_draft_bitsHeld : Int32} {t_pngWriter_total : Int32} {t_pngWriter_copyLength : Int32} {t_pngWriter_copyDistance : Int32} {a_t_pngReader_rows : Nat → Int32} {a_t_pngWriter_lastPlaces : Nat → Int32} {a_t_pngWriter_placesBefore : Nat → Int32} {t_gifWriter_m : Int32} {t_gifWriter_nextRow : Int32} {t_gifWriter_bits : Int32} {t_gifWriter_readersNextRow : Int32} {t_gifWriter_isFirstCode : Int32} {t_gifWriter_table_used : Int32} {t_gifWriter_table_transparentIndex : Int32} {a_t_gifWriter_table_cells : Nat → Int32} {a_t_gifWriter_table_colours : Nat → Int32} {a_t_gifWriter_table_indices : Nat → Int32} {a_t_gifWriter_order : Nat → Int32} {a_t_gifWriter_indices : Nat → Int32} {t_gifWriter_codes_filled : Int32} {t_gifWriter_codes_bitStore : Int32} {t_gifWriter_codes_bitsHeld : Int32} {a_t_gifWriter_codes_bytes : Nat → Int32} {a_t_gifWriter_newestLonger : Nat → Int32} {a_t_gifWriter_lastIndex : Nat → Int32} {a_t_gifWriter_olderSibling : Nat → Int32} {t_result_filled : Int32} {t_result_bitStore : Int32} {t_result_bitsHeld : Int32} {a_t_result_bytes : Nat → Int32} {h_t_result : Nat} {h_t_result_bytes : Nat} {h_t_draft : Nat} {h_t_draft_bytes : Nat} : wD (256 < (gS (P 1) (w * h)).length) (gifL (P 1) w h il) b t_result_filled a_t_result_bytes (f_D_write_200102 K 32768 (W 3) (Hh 3) (W 2) (Hh 2) (W 1) (Hh 1) (W 0) (Hh 0) 0 t_draft_bitStore t_draft_bitsHeld b t_pngWriter_total t_pngWriter_copyLength t_pngWriter_copyDistance a_t_pngReader_rows (P 3) a_t_pngWriter_lastPlaces a_t_pngWriter_placesBefore t_gifWriter_m t_gifWriter_nextRow t_gifWriter_bits t_gifWriter_readersNextRow t_gifWriter_isFirstCode t_gifWriter_table_used t_gifWriter_table_transparentIndex a_t_gifWriter_table_cells a_t_gifWriter_table_colours a_t_gifWriter_table_indices a_t_gifWriter_order a_t_gifWriter_indices t_gifWriter_codes_filled t_gifWriter_codes_bitStore t_gifWriter_codes_bitsHeld a_t_gifWriter_codes_bytes a_t_gifWriter_newestLonger a_t_gifWriter_lastIndex a_t_gifWriter_olderSibling (P 2) (P 1) (P 0) t_result_filled t_result_bitStore t_result_bitsHeld a_t_result_bytes h_t_result h_t_result_bytes h_t_draft h_t_draft_bytes (cond il 1 0)) := by
  unfold f_D_write_200102 f_D_write_109 f_D_write_145 f_Sink_filled
  rw [hw, hh]
  rcases Fc.cases (gifD (K := K) il (by omega) hw0 hwh b (P 1)) _ _ with ⟨hB, u, hu⟩ | ⟨hB, hL, a, ⟨ha1, ha2⟩, hu⟩ | ⟨hB, hL, u, hu⟩
  · rw [hu]
    exact .inl ⟨hB, _, rfl, rfl, rfl⟩
  · rw [hu]
    refine .inr (.inl ⟨hB, hL, _, by rw [ha1, q_bind], ?_, ?_⟩)
    · rfl
    · exact ha2
  · rw [hu]
    exact .inr (.inr ⟨hB, hL, _, rfl, rfl, rfl⟩)
theorem wD_gif2 {K w h : Nat} (il : Bool) (hK : 300000 < K) (hw0 : 0 < w) (hwh : w * h ≤ 16384) (b W Hh : Nat → Int32) (P : Nat → Nat → Int32) (hw : W 2 = nI w) (hh : Hh 2 = nI h) {t_draft_bitStore : Int32} {t_draft_bitsHeld : Int32} {t_pngWriter_total : Int32} {t_pngWriter_copyLength : Int32} {t_pngWriter_copyDistance : Int32} {a_t_pngReader_rows : Nat → Int32} {a_t_pngWriter_lastPlaces : Nat → Int32} {a_t_pngWriter_placesBefore : Nat → Int32} {t_gifWriter_m : Int32} {t_gifWriter_nextRow : Int32} {t_gifWriter_bits : Int32} {t_gifWriter_readersNextRow : Int32} {t_gifWriter_isFirstCode : Int32} {t_gifWriter_table_used : Int32} {t_gifWriter_table_transparentIndex : Int32} {a_t_gifWriter_table_cells : Nat → Int32} {a_t_gifWriter_table_colours : Nat → Int32} {a_t_gifWriter_table_indices : Nat → Int32} {a_t_gifWriter_order : Nat → Int32} {a_t_gifWriter_indices : Nat → Int32} {t_gifWriter_codes_filled : Int32} {t_gifWriter_codes_bitStore : Int32} {t_gifWriter_codes_bitsHeld : Int32} {a_t_gifWriter_codes_bytes : Nat → Int32} {a_t_gifWriter_newestLonger : Nat → Int32} {a_t_gifWriter_lastIndex : Nat → Int32} {a_t_gifWriter_olderSibling : Nat → Int32} {t_result_filled : Int32} {t_result_bitStore : Int32} {t_result_bitsHeld : Int32} {a_t_result_bytes : Nat → Int32} {h_t_result : Nat} {h_t_result_bytes : Nat} {h_t_draft : Nat} {h_t_draft_bytes : Nat} : wD (256 < (gS (P 2) (w * h)).length) (gifL (P 2) w h il) b t_result_filled a_t_result_bytes (f_D_write_100102 K 32768 (W 3) (Hh 3) (W 2) (Hh 2) (W 1) (Hh 1) (W 0) (Hh 0) 0 t_draft_bitStore t_draft_bitsHeld b t_pngWriter_total t_pngWriter_copyLength t_pngWriter_copyDistance a_t_pngReader_rows (P 3) a_t_pngWriter_lastPlaces a_t_pngWriter_placesBefore t_gifWriter_m t_gifWriter_nextRow t_gifWriter_bits t_gifWriter_readersNextRow t_gifWriter_isFirstCode t_gifWriter_table_used t_gifWriter_table_transparentIndex a_t_gifWriter_table_cells a_t_gifWriter_table_colours a_t_gifWriter_table_indices a_t_gifWriter_order a_t_gifWriter_indices t_gifWriter_codes_filled t_gifWriter_codes_bitStore t_gifWriter_codes_bitsHeld a_t_gifWriter_codes_bytes a_t_gifWriter_newestLonger a_t_gifWriter_lastIndex a_t_gifWriter_olderSibling (P 2) (P 1) (P 0) t_result_filled t_result_bitStore t_result_bitsHeld a_t_result_bytes h_t_result h_t_result_bytes h_t_draft h_t_draft_bytes (cond il 1 0)) := by
  unfold f_D_write_100102 f_D_write_109 f_D_write_145 f_Sink_filled
  rw [hw, hh]
  rcases Fc.cases (gifD (K := K) il (by omega) hw0 hwh b (P 2)) _ _ with ⟨hB, u, hu⟩ | ⟨hB, hL, a, ⟨ha1, ha2⟩, hu⟩ | ⟨hB, hL, u, hu⟩
  · rw [hu]
    exact .inl ⟨hB, _, rfl, rfl, rfl⟩
  · rw [hu]
    refine .inr (.inl ⟨hB, hL, _, by rw [ha1, q_bind], ?_, ?_⟩)
    · rfl
    · exact ha2
  · rw [hu]
    exact .inr (.inr ⟨hB, hL, _, rfl, rfl, rfl⟩)
theorem wD_gif3 {K w h : Nat} (il : Bool) (hK : 300000 < K) (hw0 : 0 < w) (hwh : w * h ≤ 16384) (b W Hh : Nat → Int32) (P : Nat → Nat → Int32) (hw : W 3 = nI w) (hh : Hh 3 = nI h) {t_draft_bitStore : Int32} {t_draft_bitsHeld : Int32} {t_pngWriter_total : Int32} {t_pngWriter_copyLength : Int32} {t_pngWriter_copyDistance : Int32} {a_t_pngReader_rows : Nat → Int32} {a_t_pngWriter_lastPlaces : Nat → Int32} {a_t_pngWriter_placesBefore : Nat → Int32} {t_gifWriter_m : Int32} {t_gifWriter_nextRow : Int32} {t_gifWriter_bits : Int32} {t_gifWriter_readersNextRow : Int32} {t_gifWriter_isFirstCode : Int32} {t_gifWriter_table_used : Int32} {t_gifWriter_table_transparentIndex : Int32} {a_t_gifWriter_table_cells : Nat → Int32} {a_t_gifWriter_table_colours : Nat → Int32} {a_t_gifWriter_table_indices : Nat → Int32} {a_t_gifWriter_order : Nat → Int32} {a_t_gifWriter_indices : Nat → Int32} {t_gifWriter_codes_filled : Int32} {t_gifWriter_codes_bitStore : Int32} {t_gifWriter_codes_bitsHeld : Int32} {a_t_gifWriter_codes_bytes : Nat → Int32} {a_t_gifWriter_newestLonger : Nat → Int32} {a_t_gifWriter_lastIndex : Nat → Int32} {a_t_gifWriter_olderSibling : Nat → Int32} {t_result_filled : Int32} {t_result_bitStore : Int32} {t_result_bitsHeld : Int32} {a_t_result_bytes : Nat → Int32} {h_t_result : Nat} {h_t_result_bytes : Nat} {h_t_draft : Nat} {h_t_draft_bytes : Nat} : wD (256 < (gS (P 3) (w * h)).length) (gifL (P 3) w h il) b t_result_filled a_t_result_bytes (f_D_write_102 K 32768 (W 3) (Hh 3) (W 2) (Hh 2) (W 1) (Hh 1) (W 0) (Hh 0) 0 t_draft_bitStore t_draft_bitsHeld b t_pngWriter_total t_pngWriter_copyLength t_pngWriter_copyDistance a_t_pngReader_rows (P 3) a_t_pngWriter_lastPlaces a_t_pngWriter_placesBefore t_gifWriter_m t_gifWriter_nextRow t_gifWriter_bits t_gifWriter_readersNextRow t_gifWriter_isFirstCode t_gifWriter_table_used t_gifWriter_table_transparentIndex a_t_gifWriter_table_cells a_t_gifWriter_table_colours a_t_gifWriter_table_indices a_t_gifWriter_order a_t_gifWriter_indices t_gifWriter_codes_filled t_gifWriter_codes_bitStore t_gifWriter_codes_bitsHeld a_t_gifWriter_codes_bytes a_t_gifWriter_newestLonger a_t_gifWriter_lastIndex a_t_gifWriter_olderSibling (P 2) (P 1) (P 0) t_result_filled t_result_bitStore t_result_bitsHeld a_t_result_bytes h_t_result h_t_result_bytes h_t_draft h_t_draft_bytes (cond il 1 0)) := by
  unfold f_D_write_102 f_D_write_109 f_D_write_145 f_Sink_filled
  rw [hw, hh]
  rcases Fc.cases (gifD (K := K) il (by omega) hw0 hwh b (P 3)) _ _ with ⟨hB, u, hu⟩ | ⟨hB, hL, a, ⟨ha1, ha2⟩, hu⟩ | ⟨hB, hL, u, hu⟩
  · rw [hu]
    exact .inl ⟨hB, _, rfl, rfl, rfl⟩
  · rw [hu]
    refine .inr (.inl ⟨hB, hL, _, by rw [ha1, q_bind], ?_, ?_⟩)
    · rfl
    · exact ha2
  · rw [hu]
    exact .inr (.inr ⟨hB, hL, _, rfl, rfl, rfl⟩)
theorem wD43_0 {K w h fm md : Nat} (hK : 300000 < K) (hw0 : 0 < w) (hh0 : 0 < h) (hwh : w * h ≤ 16384) (hf : fm ≤ 2) (hm : md ≤ if fm = 0 then 5 else 1) (b W Hh : Nat → Int32) (P : Nat → Nat → Int32) (hw : W 0 = nI w) (hh : Hh 0 = nI h) {t_draft_filled : Int32} {t_draft_bitStore : Int32} {t_draft_bitsHeld : Int32} {t_pngWriter_total : Int32} {t_pngWriter_copyLength : Int32} {t_pngWriter_copyDistance : Int32} {a_t_pngReader_rows : Nat → Int32} {a_t_pngWriter_lastPlaces : Nat → Int32} {a_t_pngWriter_placesBefore : Nat → Int32} {t_gifWriter_m : Int32} {t_gifWriter_nextRow : Int32} {t_gifWriter_bits : Int32} {t_gifWriter_readersNextRow : Int32} {t_gifWriter_isFirstCode : Int32} {t_gifWriter_table_used : Int32} {t_gifWriter_table_transparentIndex : Int32} {a_t_gifWriter_table_cells : Nat → Int32} {a_t_gifWriter_table_colours : Nat → Int32} {a_t_gifWriter_table_indices : Nat → Int32} {a_t_gifWriter_order : Nat → Int32} {a_t_gifWriter_indices : Nat → Int32} {t_gifWriter_codes_filled : Int32} {t_gifWriter_codes_bitStore : Int32} {t_gifWriter_codes_bitsHeld : Int32} {a_t_gifWriter_codes_bytes : Nat → Int32} {a_t_gifWriter_newestLonger : Nat → Int32} {a_t_gifWriter_lastIndex : Nat → Int32} {a_t_gifWriter_olderSibling : Nat → Int32} {t_result_filled : Int32} {t_result_bitStore : Int32} {t_result_bitsHeld : Int32} {a_t_result_bytes : Nat → Int32} {h_t_result : Nat} {h_t_result_bytes : Nat} {h_t_draft : Nat} {h_t_draft_bytes : Nat} : wD (wB (P 0) w h fm md) (wZ (P 0) w h fm md) b t_result_filled a_t_result_bytes (f_D_write_43 K 32768 (W 3) (Hh 3) (W 2) (Hh 2) (W 1) (Hh 1) (W 0) (Hh 0) t_draft_filled t_draft_bitStore t_draft_bitsHeld b t_pngWriter_total t_pngWriter_copyLength t_pngWriter_copyDistance a_t_pngReader_rows (P 3) a_t_pngWriter_lastPlaces a_t_pngWriter_placesBefore t_gifWriter_m t_gifWriter_nextRow t_gifWriter_bits t_gifWriter_readersNextRow t_gifWriter_isFirstCode t_gifWriter_table_used t_gifWriter_table_transparentIndex a_t_gifWriter_table_cells a_t_gifWriter_table_colours a_t_gifWriter_table_indices a_t_gifWriter_order a_t_gifWriter_indices t_gifWriter_codes_filled t_gifWriter_codes_bitStore t_gifWriter_codes_bitsHeld a_t_gifWriter_codes_bytes a_t_gifWriter_newestLonger a_t_gifWriter_lastIndex a_t_gifWriter_olderSibling (P 2) (P 1) (P 0) t_result_filled t_result_bitStore t_result_bitsHeld a_t_result_bytes h_t_result h_t_result_bytes h_t_draft h_t_draft_bytes (nI 0) (nI fm) (nI md) 1) := by
  have hwl : w ≤ 16384 := Nat.le_trans (Nat.le_mul_of_pos_right w hh0) hwh
  have hhl : h ≤ 16384 := Nat.le_trans (Nat.le_mul_of_pos_left h hw0) hwh
  unfold f_D_write_43 f_D_requireArgument f_Sink_restart
  rw [if_neg (show ¬ (1 : Int32) = 0 by decide), q_tryL, held_ok (k := 0) (by omega) W (by omega) hw, if_neg (by omega), q_tryL]
  dsimp only
  rw [if_pos (show (0 : Nat) = 0 from rfl), q_bind]
  by_cases c0 : fm = 0
  · subst c0
    rw [if_pos (show nI 0 = 0 from rfl), hw, hh]
    rw [if_pos rfl] at hm
    have eB : wB (P 0) w h 0 md = False := if_pos rfl
    have eZ : wZ (P 0) w h 0 md = pngL (P 0) w h md := if_pos rfl
    rw [eB, eZ]
    rcases Fc.cases (Fc.okp (B := False) id (pngW (K := K) hK hm hw0 hh0 hwh b (P 0))) _ _ with ⟨hB, u, hu⟩ | ⟨hB, hL, a, ⟨ha1, ha2⟩, hu⟩ | ⟨hB, hL, u, hu⟩
    · exact absurd hB id
    · rw [hu]
      unfold f_D_write_78 f_D_write_145 f_Sink_filled
      refine .inr (.inl ⟨hB, hL, _, by rw [ha1, q_bind], ?_, ?_⟩)
      · rfl
      · exact ha2
    · rw [hu]
      exact .inr (.inr ⟨hB, hL, _, rfl, rfl, rfl⟩)
  · rw [if_neg (show ¬ nI fm = 0 from nI_ne0 (by omega) (by omega))]
    rw [if_neg c0] at hm
    by_cases c1 : fm = 1
    · subst c1
      rw [if_pos (show nI 1 = 1 from rfl)]
      have eB : wB (P 0) w h 1 md = (256 < (gS (P 0) (w * h)).length) := (if_neg (by decide)).trans (if_pos rfl)
      have eZ : wZ (P 0) w h 1 md = gifL (P 0) w h (decide (md = 1)) := (if_neg (by decide)).trans (if_pos rfl)
      rw [eB, eZ]
      by_cases cm : md = 1
      · rw [if_pos (show nI md = 1 by rw [cm]; rfl), decide_eq_true cm]
        exact wD_gif0 true hK hw0 hwh b W Hh P hw hh
      · rw [if_neg (show ¬ nI md = 1 from fun e => cm ((nI_eq (b := 1) (by omega) (by omega)).mp e)), decide_eq_false cm]
        exact wD_gif0 false hK hw0 hwh b W Hh P hw hh
    · rw [if_neg (show ¬ nI fm = 1 from fun e => c1 ((nI_eq (b := 1) (by omega) (by omega)).mp e)), hw, hh]
      by_cases cm : md = 0
      · subst cm
        rw [if_pos (show nI 0 = 0 from rfl)]
        have eB : wB (P 0) w h fm 0 = False := (if_neg c0).trans ((if_neg c1).trans (if_pos rfl))
        have eZ : wZ (P 0) w h fm 0 = lenMend (bmpPlain (P 0) w h) := (if_neg c0).trans ((if_neg c1).trans (if_pos rfl))
        rw [eB, eZ]
        rcases Fc.cases (Fc.okp (B := False) id (Fi.fp (plainD (K := K) (by omega) hwh hwl hhl b (P 0)))) _ _ with ⟨hB, u, hu⟩ | ⟨hB, hL, a, ha, hu⟩ | ⟨hB, hL, u, hu⟩
        · exact absurd hB id
        · rw [hu, ha]
          unfold f_D_write_129 f_D_write_145 f_Sink_filled
          refine .inr (.inl ⟨hB, by rw [lm_len]; exact hL, _, by rw [q_bind, lm_len], ?_, rfl⟩)
          rw [lm_len]
        · rw [hu]
          exact .inr (.inr ⟨hB, by rw [lm_len]; exact hL, _, rfl, rfl, rfl⟩)
      · rw [if_neg (show ¬ nI md = 0 from nI_ne0 (by omega) (by omega))]
        have eB : wB (P 0) w h fm md = (256 < (Sp (fun i => us8 (P 0 i)) (w * h)).length) := (if_neg c0).trans ((if_neg c1).trans (if_neg cm))
        have eZ : wZ (P 0) w h fm md = lenMend (bmpRuns (P 0) w h) := (if_neg c0).trans ((if_neg c1).trans (if_neg cm))
        rw [eB, eZ]
        rcases Fc.cases (runsD (K := K) (by omega) hw0 hwh hwl hhl b (P 0) t_gifWriter_table_used t_gifWriter_table_transparentIndex a_t_gifWriter_table_cells a_t_gifWriter_table_colours a_t_gifWriter_table_indices) _ _ with ⟨hB, u, hu⟩ | ⟨hB, hL, a, ⟨s, ha⟩, hu⟩ | ⟨hB, hL, u, hu⟩
        · rw [hu]
          exact .inl ⟨hB, _, rfl, rfl, rfl⟩
        · rw [hu, ha]
          unfold f_D_write_145 f_Sink_filled
          refine .inr (.inl ⟨hB, by rw [lm_len]; exact hL, _, by rw [q_bind, lm_len], ?_, rfl⟩)
          rw [lm_len]
        · rw [hu]
          exact .inr (.inr ⟨hB, by rw [lm_len]; exact hL, _, rfl, rfl, rfl⟩)
theorem wD43_1 {K w h fm md : Nat} (hK : 300000 < K) (hw0 : 0 < w) (hh0 : 0 < h) (hwh : w * h ≤ 16384) (hf : fm ≤ 2) (hm : md ≤ if fm = 0 then 5 else 1) (b W Hh : Nat → Int32) (P : Nat → Nat → Int32) (hw : W 1 = nI w) (hh : Hh 1 = nI h) {t_draft_filled : Int32} {t_draft_bitStore : Int32} {t_draft_bitsHeld : Int32} {t_pngWriter_total : Int32} {t_pngWriter_copyLength : Int32} {t_pngWriter_copyDistance : Int32} {a_t_pngReader_rows : Nat → Int32} {a_t_pngWriter_lastPlaces : Nat → Int32} {a_t_pngWriter_placesBefore : Nat → Int32} {t_gifWriter_m : Int32} {t_gifWriter_nextRow : Int32} {t_gifWriter_bits : Int32} {t_gifWriter_readersNextRow : Int32} {t_gifWriter_isFirstCode : Int32} {t_gifWriter_table_used : Int32} {t_gifWriter_table_transparentIndex : Int32} {a_t_gifWriter_table_cells : Nat → Int32} {a_t_gifWriter_table_colours : Nat → Int32} {a_t_gifWriter_table_indices : Nat → Int32} {a_t_gifWriter_order : Nat → Int32} {a_t_gifWriter_indices : Nat → Int32} {t_gifWriter_codes_filled : Int32} {t_gifWriter_codes_bitStore : Int32} {t_gifWriter_codes_bitsHeld : Int32} {a_t_gifWriter_codes_bytes : Nat → Int32} {a_t_gifWriter_newestLonger : Nat → Int32} {a_t_gifWriter_lastIndex : Nat → Int32} {a_t_gifWriter_olderSibling : Nat → Int32} {t_result_filled : Int32} {t_result_bitStore : Int32} {t_result_bitsHeld : Int32} {a_t_result_bytes : Nat → Int32} {h_t_result : Nat} {h_t_result_bytes : Nat} {h_t_draft : Nat} {h_t_draft_bytes : Nat} : wD (wB (P 1) w h fm md) (wZ (P 1) w h fm md) b t_result_filled a_t_result_bytes (f_D_write_43 K 32768 (W 3) (Hh 3) (W 2) (Hh 2) (W 1) (Hh 1) (W 0) (Hh 0) t_draft_filled t_draft_bitStore t_draft_bitsHeld b t_pngWriter_total t_pngWriter_copyLength t_pngWriter_copyDistance a_t_pngReader_rows (P 3) a_t_pngWriter_lastPlaces a_t_pngWriter_placesBefore t_gifWriter_m t_gifWriter_nextRow t_gifWriter_bits t_gifWriter_readersNextRow t_gifWriter_isFirstCode t_gifWriter_table_used t_gifWriter_table_transparentIndex a_t_gifWriter_table_cells a_t_gifWriter_table_colours a_t_gifWriter_table_indices a_t_gifWriter_order a_t_gifWriter_indices t_gifWriter_codes_filled t_gifWriter_codes_bitStore t_gifWriter_codes_bitsHeld a_t_gifWriter_codes_bytes a_t_gifWriter_newestLonger a_t_gifWriter_lastIndex a_t_gifWriter_olderSibling (P 2) (P 1) (P 0) t_result_filled t_result_bitStore t_result_bitsHeld a_t_result_bytes h_t_result h_t_result_bytes h_t_draft h_t_draft_bytes (nI 1) (nI fm) (nI md) 1) := by
  have hwl : w ≤ 16384 := Nat.le_trans (Nat.le_mul_of_pos_right w hh0) hwh
  have hhl : h ≤ 16384 := Nat.le_trans (Nat.le_mul_of_pos_left h hw0) hwh
  unfold f_D_write_43 f_D_requireArgument f_Sink_restart
  rw [if_neg (show ¬ (1 : Int32) = 0 by decide), q_tryL, held_ok (k := 1) (by omega) W (by omega) hw, if_neg (by omega), q_tryL]
  dsimp only
  rw [if_neg (show ¬ (1 : Nat) = 0 by decide), if_pos (show (1 : Nat) = 1 from rfl), q_bind]
  by_cases c0 : fm = 0
  · subst c0
    rw [if_pos (show nI 0 = 0 from rfl), hw, hh]
    rw [if_pos rfl] at hm
    have eB : wB (P 1) w h 0 md = False := if_pos rfl
    have eZ : wZ (P 1) w h 0 md = pngL (P 1) w h md := if_pos rfl
    rw [eB, eZ]
    rcases Fc.cases (Fc.okp (B := False) id (pngW (K := K) hK hm hw0 hh0 hwh b (P 1))) _ _ with ⟨hB, u, hu⟩ | ⟨hB, hL, a, ⟨ha1, ha2⟩, hu⟩ | ⟨hB, hL, u, hu⟩
    · exact absurd hB id
    · rw [hu]
      unfold f_D_write_78 f_D_write_145 f_Sink_filled
      refine .inr (.inl ⟨hB, hL, _, by rw [ha1, q_bind], ?_, ?_⟩)
      · rfl
      · exact ha2
    · rw [hu]
      exact .inr (.inr ⟨hB, hL, _, rfl, rfl, rfl⟩)
  · rw [if_neg (show ¬ nI fm = 0 from nI_ne0 (by omega) (by omega))]
    rw [if_neg c0] at hm
    by_cases c1 : fm = 1
    · subst c1
      rw [if_pos (show nI 1 = 1 from rfl)]
      have eB : wB (P 1) w h 1 md = (256 < (gS (P 1) (w * h)).length) := (if_neg (by decide)).trans (if_pos rfl)
      have eZ : wZ (P 1) w h 1 md = gifL (P 1) w h (decide (md = 1)) := (if_neg (by decide)).trans (if_pos rfl)
      rw [eB, eZ]
      by_cases cm : md = 1
      · rw [if_pos (show nI md = 1 by rw [cm]; rfl), decide_eq_true cm]
        exact wD_gif1 true hK hw0 hwh b W Hh P hw hh
      · rw [if_neg (show ¬ nI md = 1 from fun e => cm ((nI_eq (b := 1) (by omega) (by omega)).mp e)), decide_eq_false cm]
        exact wD_gif1 false hK hw0 hwh b W Hh P hw hh
    · rw [if_neg (show ¬ nI fm = 1 from fun e => c1 ((nI_eq (b := 1) (by omega) (by omega)).mp e)), hw, hh]
      by_cases cm : md = 0
      · subst cm
        rw [if_pos (show nI 0 = 0 from rfl)]
        have eB : wB (P 1) w h fm 0 = False := (if_neg c0).trans ((if_neg c1).trans (if_pos rfl))
        have eZ : wZ (P 1) w h fm 0 = lenMend (bmpPlain (P 1) w h) := (if_neg c0).trans ((if_neg c1).trans (if_pos rfl))
        rw [eB, eZ]
        rcases Fc.cases (Fc.okp (B := False) id (Fi.fp (plainD (K := K) (by omega) hwh hwl hhl b (P 1)))) _ _ with ⟨hB, u, hu⟩ | ⟨hB, hL, a, ha, hu⟩ | ⟨hB, hL, u, hu⟩
        · exact absurd hB id
        · rw [hu, ha]
          unfold f_D_write_129 f_D_write_145 f_Sink_filled
          refine .inr (.inl ⟨hB, by rw [lm_len]; exact hL, _, by rw [q_bind, lm_len], ?_, rfl⟩)
          rw [lm_len]
        · rw [hu]
          exact .inr (.inr ⟨hB, by rw [lm_len]; exact hL, _, rfl, rfl, rfl⟩)
      · rw [if_neg (show ¬ nI md = 0 from nI_ne0 (by omega) (by omega))]
        have eB : wB (P 1) w h fm md = (256 < (Sp (fun i => us8 (P 1 i)) (w * h)).length) := (if_neg c0).trans ((if_neg c1).trans (if_neg cm))
        have eZ : wZ (P 1) w h fm md = lenMend (bmpRuns (P 1) w h) := (if_neg c0).trans ((if_neg c1).trans (if_neg cm))
        rw [eB, eZ]
        rcases Fc.cases (runsD (K := K) (by omega) hw0 hwh hwl hhl b (P 1) t_gifWriter_table_used t_gifWriter_table_transparentIndex a_t_gifWriter_table_cells a_t_gifWriter_table_colours a_t_gifWriter_table_indices) _ _ with ⟨hB, u, hu⟩ | ⟨hB, hL, a, ⟨s, ha⟩, hu⟩ | ⟨hB, hL, u, hu⟩
        · rw [hu]
          exact .inl ⟨hB, _, rfl, rfl, rfl⟩
        · rw [hu, ha]
          unfold f_D_write_145 f_Sink_filled
          refine .inr (.inl ⟨hB, by rw [lm_len]; exact hL, _, by rw [q_bind, lm_len], ?_, rfl⟩)
          rw [lm_len]
        · rw [hu]
          exact .inr (.inr ⟨hB, by rw [lm_len]; exact hL, _, rfl, rfl, rfl⟩)
theorem wD43_2 {K w h fm md : Nat} (hK : 300000 < K) (hw0 : 0 < w) (hh0 : 0 < h) (hwh : w * h ≤ 16384) (hf : fm ≤ 2) (hm : md ≤ if fm = 0 then 5 else 1) (b W Hh : Nat → Int32) (P : Nat → Nat → Int32) (hw : W 2 = nI w) (hh : Hh 2 = nI h) {t_draft_filled : Int32} {t_draft_bitStore : Int32} {t_draft_bitsHeld : Int32} {t_pngWriter_total : Int32} {t_pngWriter_copyLength : Int32} {t_pngWriter_copyDistance : Int32} {a_t_pngReader_rows : Nat → Int32} {a_t_pngWriter_lastPlaces : Nat → Int32} {a_t_pngWriter_placesBefore : Nat → Int32} {t_gifWriter_m : Int32} {t_gifWriter_nextRow : Int32} {t_gifWriter_bits : Int32} {t_gifWriter_readersNextRow : Int32} {t_gifWriter_isFirstCode : Int32} {t_gifWriter_table_used : Int32} {t_gifWriter_table_transparentIndex : Int32} {a_t_gifWriter_table_cells : Nat → Int32} {a_t_gifWriter_table_colours : Nat → Int32} {a_t_gifWriter_table_indices : Nat → Int32} {a_t_gifWriter_order : Nat → Int32} {a_t_gifWriter_indices : Nat → Int32} {t_gifWriter_codes_filled : Int32} {t_gifWriter_codes_bitStore : Int32} {t_gifWriter_codes_bitsHeld : Int32} {a_t_gifWriter_codes_bytes : Nat → Int32} {a_t_gifWriter_newestLonger : Nat → Int32} {a_t_gifWriter_lastIndex : Nat → Int32} {a_t_gifWriter_olderSibling : Nat → Int32} {t_result_filled : Int32} {t_result_bitStore : Int32} {t_result_bitsHeld : Int32} {a_t_result_bytes : Nat → Int32} {h_t_result : Nat} {h_t_result_bytes : Nat} {h_t_draft : Nat} {h_t_draft_bytes : Nat} : wD (wB (P 2) w h fm md) (wZ (P 2) w h fm md) b t_result_filled a_t_result_bytes (f_D_write_43 K 32768 (W 3) (Hh 3) (W 2) (Hh 2) (W 1) (Hh 1) (W 0) (Hh 0) t_draft_filled t_draft_bitStore t_draft_bitsHeld b t_pngWriter_total t_pngWriter_copyLength t_pngWriter_copyDistance a_t_pngReader_rows (P 3) a_t_pngWriter_lastPlaces a_t_pngWriter_placesBefore t_gifWriter_m t_gifWriter_nextRow t_gifWriter_bits t_gifWriter_readersNextRow t_gifWriter_isFirstCode t_gifWriter_table_used t_gifWriter_table_transparentIndex a_t_gifWriter_table_cells a_t_gifWriter_table_colours a_t_gifWriter_table_indices a_t_gifWriter_order a_t_gifWriter_indices t_gifWriter_codes_filled t_gifWriter_codes_bitStore t_gifWriter_codes_bitsHeld a_t_gifWriter_codes_bytes a_t_gifWriter_newestLonger a_t_gifWriter_lastIndex a_t_gifWriter_olderSibling (P 2) (P 1) (P 0) t_result_filled t_result_bitStore t_result_bitsHeld a_t_result_bytes h_t_result h_t_result_bytes h_t_draft h_t_draft_bytes (nI 2) (nI fm) (nI md) 1) := by
  have hwl : w ≤ 16384 := Nat.le_trans (Nat.le_mul_of_pos_right w hh0) hwh
  have hhl : h ≤ 16384 := Nat.le_trans (Nat.le_mul_of_pos_left h hw0) hwh
  unfold f_D_write_43 f_D_requireArgument f_Sink_restart
  rw [if_neg (show ¬ (1 : Int32) = 0 by decide), q_tryL, held_ok (k := 2) (by omega) W (by omega) hw, if_neg (by omega), q_tryL]
  dsimp only
  rw [if_neg (show ¬ (2 : Nat) = 0 by decide), if_neg (show ¬ (2 : Nat) = 1 by decide), if_pos (show (2 : Nat) = 2 from rfl), q_bind]
  by_cases c0 : fm = 0
  · subst c0
    rw [if_pos (show nI 0 = 0 from rfl), hw, hh]
    rw [if_pos rfl] at hm
    have eB : wB (P 2) w h 0 md = False := if_pos rfl
    have eZ : wZ (P 2) w h 0 md = pngL (P 2) w h md := if_pos rfl
    rw [eB, eZ]
    rcases Fc.cases (Fc.okp (B := False) id (pngW (K := K) hK hm hw0 hh0 hwh b (P 2))) _ _ with ⟨hB, u, hu⟩ | ⟨hB, hL, a, ⟨ha1, ha2⟩, hu⟩ | ⟨hB, hL, u, hu⟩
    · exact absurd hB id
    · rw [hu]
      unfold f_D_write_78 f_D_write_145 f_Sink_filled
      refine .inr (.inl ⟨hB, hL, _, by rw [ha1, q_bind], ?_, ?_⟩)
      · rfl
      · exact ha2
    · rw [hu]
      exact .inr (.inr ⟨hB, hL, _, rfl, rfl, rfl⟩)
  · rw [if_neg (show ¬ nI fm = 0 from nI_ne0 (by omega) (by omega))]
    rw [if_neg c0] at hm
    by_cases c1 : fm = 1
    · subst c1
      rw [if_pos (show nI 1 = 1 from rfl)]
      have eB : wB (P 2) w h 1 md = (256 < (gS (P 2) (w * h)).length) := (if_neg (by decide)).trans (if_pos rfl)
      have eZ : wZ (P 2) w h 1 md = gifL (P 2) w h (decide (md = 1)) := (if_neg (by decide)).trans (if_pos rfl)
      rw [eB, eZ]
      by_cases cm : md = 1
      · rw [if_pos (show nI md = 1 by rw [cm]; rfl), decide_eq_true cm]
        exact wD_gif2 true hK hw0 hwh b W Hh P hw hh
      · rw [if_neg (show ¬ nI md = 1 from fun e => cm ((nI_eq (b := 1) (by omega) (by omega)).mp e)), decide_eq_false cm]
        exact wD_gif2 false hK hw0 hwh b W Hh P hw hh
    · rw [if_neg (show ¬ nI fm = 1 from fun e => c1 ((nI_eq (b := 1) (by omega) (by omega)).mp e)), hw, hh]
      by_cases cm : md = 0
      · subst cm
        rw [if_pos (show nI 0 = 0 from rfl)]
        have eB : wB (P 2) w h fm 0 = False := (if_neg c0).trans ((if_neg c1).trans (if_pos rfl))
        have eZ : wZ (P 2) w h fm 0 = lenMend (bmpPlain (P 2) w h) := (if_neg c0).trans ((if_neg c1).trans (if_pos rfl))
        rw [eB, eZ]
        rcases Fc.cases (Fc.okp (B := False) id (Fi.fp (plainD (K := K) (by omega) hwh hwl hhl b (P 2)))) _ _ with ⟨hB, u, hu⟩ | ⟨hB, hL, a, ha, hu⟩ | ⟨hB, hL, u, hu⟩
        · exact absurd hB id
        · rw [hu, ha]
          unfold f_D_write_129 f_D_write_145 f_Sink_filled
          refine .inr (.inl ⟨hB, by rw [lm_len]; exact hL, _, by rw [q_bind, lm_len], ?_, rfl⟩)
          rw [lm_len]
        · rw [hu]
          exact .inr (.inr ⟨hB, by rw [lm_len]; exact hL, _, rfl, rfl, rfl⟩)
      · rw [if_neg (show ¬ nI md = 0 from nI_ne0 (by omega) (by omega))]
        have eB : wB (P 2) w h fm md = (256 < (Sp (fun i => us8 (P 2 i)) (w * h)).length) := (if_neg c0).trans ((if_neg c1).trans (if_neg cm))
        have eZ : wZ (P 2) w h fm md = lenMend (bmpRuns (P 2) w h) := (if_neg c0).trans ((if_neg c1).trans (if_neg cm))
        rw [eB, eZ]
        rcases Fc.cases (runsD (K := K) (by omega) hw0 hwh hwl hhl b (P 2) t_gifWriter_table_used t_gifWriter_table_transparentIndex a_t_gifWriter_table_cells a_t_gifWriter_table_colours a_t_gifWriter_table_indices) _ _ with ⟨hB, u, hu⟩ | ⟨hB, hL, a, ⟨s, ha⟩, hu⟩ | ⟨hB, hL, u, hu⟩
        · rw [hu]
          exact .inl ⟨hB, _, rfl, rfl, rfl⟩
        · rw [hu, ha]
          unfold f_D_write_145 f_Sink_filled
          refine .inr (.inl ⟨hB, by rw [lm_len]; exact hL, _, by rw [q_bind, lm_len], ?_, rfl⟩)
          rw [lm_len]
        · rw [hu]
          exact .inr (.inr ⟨hB, by rw [lm_len]; exact hL, _, rfl, rfl, rfl⟩)
theorem wD43_3 {K w h fm md : Nat} (hK : 300000 < K) (hw0 : 0 < w) (hh0 : 0 < h) (hwh : w * h ≤ 16384) (hf : fm ≤ 2) (hm : md ≤ if fm = 0 then 5 else 1) (b W Hh : Nat → Int32) (P : Nat → Nat → Int32) (hw : W 3 = nI w) (hh : Hh 3 = nI h) {t_draft_filled : Int32} {t_draft_bitStore : Int32} {t_draft_bitsHeld : Int32} {t_pngWriter_total : Int32} {t_pngWriter_copyLength : Int32} {t_pngWriter_copyDistance : Int32} {a_t_pngReader_rows : Nat → Int32} {a_t_pngWriter_lastPlaces : Nat → Int32} {a_t_pngWriter_placesBefore : Nat → Int32} {t_gifWriter_m : Int32} {t_gifWriter_nextRow : Int32} {t_gifWriter_bits : Int32} {t_gifWriter_readersNextRow : Int32} {t_gifWriter_isFirstCode : Int32} {t_gifWriter_table_used : Int32} {t_gifWriter_table_transparentIndex : Int32} {a_t_gifWriter_table_cells : Nat → Int32} {a_t_gifWriter_table_colours : Nat → Int32} {a_t_gifWriter_table_indices : Nat → Int32} {a_t_gifWriter_order : Nat → Int32} {a_t_gifWriter_indices : Nat → Int32} {t_gifWriter_codes_filled : Int32} {t_gifWriter_codes_bitStore : Int32} {t_gifWriter_codes_bitsHeld : Int32} {a_t_gifWriter_codes_bytes : Nat → Int32} {a_t_gifWriter_newestLonger : Nat → Int32} {a_t_gifWriter_lastIndex : Nat → Int32} {a_t_gifWriter_olderSibling : Nat → Int32} {t_result_filled : Int32} {t_result_bitStore : Int32} {t_result_bitsHeld : Int32} {a_t_result_bytes : Nat → Int32} {h_t_result : Nat} {h_t_result_bytes : Nat} {h_t_draft : Nat} {h_t_draft_bytes : Nat} : wD (wB (P 3) w h fm md) (wZ (P 3) w h fm md) b t_result_filled a_t_result_bytes (f_D_write_43 K 32768 (W 3) (Hh 3) (W 2) (Hh 2) (W 1) (Hh 1) (W 0) (Hh 0) t_draft_filled t_draft_bitStore t_draft_bitsHeld b t_pngWriter_total t_pngWriter_copyLength t_pngWriter_copyDistance a_t_pngReader_rows (P 3) a_t_pngWriter_lastPlaces a_t_pngWriter_placesBefore t_gifWriter_m t_gifWriter_nextRow t_gifWriter_bits t_gifWriter_readersNextRow t_gifWriter_isFirstCode t_gifWriter_table_used t_gifWriter_table_transparentIndex a_t_gifWriter_table_cells a_t_gifWriter_table_colours a_t_gifWriter_table_indices a_t_gifWriter_order a_t_gifWriter_indices t_gifWriter_codes_filled t_gifWriter_codes_bitStore t_gifWriter_codes_bitsHeld a_t_gifWriter_codes_bytes a_t_gifWriter_newestLonger a_t_gifWriter_lastIndex a_t_gifWriter_olderSibling (P 2) (P 1) (P 0) t_result_filled t_result_bitStore t_result_bitsHeld a_t_result_bytes h_t_result h_t_result_bytes h_t_draft h_t_draft_bytes (nI 3) (nI fm) (nI md) 1) := by
  have hwl : w ≤ 16384 := Nat.le_trans (Nat.le_mul_of_pos_right w hh0) hwh
  have hhl : h ≤ 16384 := Nat.le_trans (Nat.le_mul_of_pos_left h hw0) hwh
  unfold f_D_write_43 f_D_requireArgument f_Sink_restart
  rw [if_neg (show ¬ (1 : Int32) = 0 by decide), q_tryL, held_ok (k := 3) (by omega) W (by omega) hw, if_neg (by omega), q_tryL]
  dsimp only
  rw [if_neg (show ¬ (3 : Nat) = 0 by decide), if_neg (show ¬ (3 : Nat) = 1 by decide), if_neg (show ¬ (3 : Nat) = 2 by decide), if_pos (show (3 : Nat) = 3 from rfl), q_bind]
  by_cases c0 : fm = 0
  · subst c0
    rw [if_pos (show nI 0 = 0 from rfl), hw, hh]
    rw [if_pos rfl] at hm
    have eB : wB (P 3) w h 0 md = False := if_pos rfl
    have eZ : wZ (P 3) w h 0 md = pngL (P 3) w h md := if_pos rfl
    rw [eB, eZ]
    rcases Fc.cases (Fc.okp (B := False) id (pngW (K := K) hK hm hw0 hh0 hwh b (P 3))) _ _ with ⟨hB, u, hu⟩ | ⟨hB, hL, a, ⟨ha1, ha2⟩, hu⟩ | ⟨hB, hL, u, hu⟩
    · exact absurd hB id
    · rw [hu]
      unfold f_D_write_78 f_D_write_145 f_Sink_filled
      refine .inr (.inl ⟨hB, hL, _, by rw [ha1, q_bind], ?_, ?_⟩)
      · rfl
      · exact ha2
    · rw [hu]
      exact .inr (.inr ⟨hB, hL, _, rfl, rfl, rfl⟩)
  · rw [if_neg (show ¬ nI fm = 0 from nI_ne0 (by omega) (by omega))]
    rw [if_neg c0] at hm
    by_cases c1 : fm = 1
    · subst c1
      rw [if_pos (show nI 1 = 1 from rfl)]
      have eB : wB (P 3) w h 1 md = (256 < (gS (P 3) (w * h)).length) := (if_neg (by decide)).trans (if_pos rfl)
      have eZ : wZ (P 3) w h 1 md = gifL (P 3) w h (decide (md = 1)) := (if_neg (by decide)).trans (if_pos rfl)
      rw [eB, eZ]
      by_cases cm : md = 1
      · rw [if_pos (show nI md = 1 by rw [cm]; rfl), decide_eq_true cm]
        exact wD_gif3 true hK hw0 hwh b W Hh P hw hh
      · rw [if_neg (show ¬ nI md = 1 from fun e => cm ((nI_eq (b := 1) (by omega) (by omega)).mp e)), decide_eq_false cm]
        exact wD_gif3 false hK hw0 hwh b W Hh P hw hh
    · rw [if_neg (show ¬ nI fm = 1 from fun e => c1 ((nI_eq (b := 1) (by omega) (by omega)).mp e)), hw, hh]
      by_cases cm : md = 0
      · subst cm
        rw [if_pos (show nI 0 = 0 from rfl)]
        have eB : wB (P 3) w h fm 0 = False := (if_neg c0).trans ((if_neg c1).trans (if_pos rfl))
        have eZ : wZ (P 3) w h fm 0 = lenMend (bmpPlain (P 3) w h) := (if_neg c0).trans ((if_neg c1).trans (if_pos rfl))
        rw [eB, eZ]
        rcases Fc.cases (Fc.okp (B := False) id (Fi.fp (plainD (K := K) (by omega) hwh hwl hhl b (P 3)))) _ _ with ⟨hB, u, hu⟩ | ⟨hB, hL, a, ha, hu⟩ | ⟨hB, hL, u, hu⟩
        · exact absurd hB id
        · rw [hu, ha]
          unfold f_D_write_129 f_D_write_145 f_Sink_filled
          refine .inr (.inl ⟨hB, by rw [lm_len]; exact hL, _, by rw [q_bind, lm_len], ?_, rfl⟩)
          rw [lm_len]
        · rw [hu]
          exact .inr (.inr ⟨hB, by rw [lm_len]; exact hL, _, rfl, rfl, rfl⟩)
      · rw [if_neg (show ¬ nI md = 0 from nI_ne0 (by omega) (by omega))]
        have eB : wB (P 3) w h fm md = (256 < (Sp (fun i => us8 (P 3 i)) (w * h)).length) := (if_neg c0).trans ((if_neg c1).trans (if_neg cm))
        have eZ : wZ (P 3) w h fm md = lenMend (bmpRuns (P 3) w h) := (if_neg c0).trans ((if_neg c1).trans (if_neg cm))
        rw [eB, eZ]
        rcases Fc.cases (runsD (K := K) (by omega) hw0 hwh hwl hhl b (P 3) t_gifWriter_table_used t_gifWriter_table_transparentIndex a_t_gifWriter_table_cells a_t_gifWriter_table_colours a_t_gifWriter_table_indices) _ _ with ⟨hB, u, hu⟩ | ⟨hB, hL, a, ⟨s, ha⟩, hu⟩ | ⟨hB, hL, u, hu⟩
        · rw [hu]
          exact .inl ⟨hB, _, rfl, rfl, rfl⟩
        · rw [hu, ha]
          unfold f_D_write_145 f_Sink_filled
          refine .inr (.inl ⟨hB, by rw [lm_len]; exact hL, _, by rw [q_bind, lm_len], ?_, rfl⟩)
          rw [lm_len]
        · rw [hu]
          exact .inr (.inr ⟨hB, by rw [lm_len]; exact hL, _, rfl, rfl, rfl⟩)
/-! the reference -/
def wM (B : Prop) (z : List Int32) (f : Int32) (rs : Nat → Int32) (r : Option (Int32 × MWS)) : Prop := (B ∧ ∃ S, r = some (0, S) ∧ mNo 3 f rs S) ∨ (¬ B ∧ z.length ≤ 65536 ∧ ∃ S, r = some (nI z.length, S) ∧ mOk z S) ∨ (¬ B ∧ 65536 < z.length ∧ ∃ S, r = some (0, S) ∧ mNo 4 f rs S)
theorem w99 {K : Nat} (hK : 70000 < K) {B : Prop} (hB : ¬ B) (b : Nat → Int32) (z : List Int32) (hz : z.length ≤ 262144) {t_size : Int32} {t_rowBytes : Int32} {t_bitBuffer : Int32} {t_bitCount : Int32} {t_keyCount : Int32} {t_codeWidth : Int32} {t_codeNext : Int32} {t_codeFirst : Int32} {a_t_widths : Nat → Int32} {a_t_heights : Nat → Int32} {a_t_rows : Nat → Int32} {a_t_images_3 : Nat → Int32} {a_t_images_2 : Nat → Int32} {a_t_images_1 : Nat → Int32} {a_t_images_0 : Nat → Int32} {a_t_heads : Nat → Int32} {a_t_chain : Nat → Int32} {a_t_result : Nat → Int32} {a_t_keys : Nat → Int32} {a_t_indices : Nat → Int32} {a_t_kids : Nat → Int32} {a_t_data : Nat → Int32} {o : Int32} {ob : Nat → Int32} (ho : o = nI z.length) (hob : ob = wr b z) : wM B z t_size a_t_result (f_M_write_99 K 0 t_size t_rowBytes o t_bitBuffer t_bitCount t_keyCount t_codeWidth t_codeNext t_codeFirst a_t_widths a_t_heights ob a_t_rows a_t_images_3 a_t_images_2 a_t_images_1 a_t_images_0 a_t_heads a_t_chain a_t_result a_t_keys a_t_indices a_t_kids a_t_data) := by
  subst ho hob
  unfold f_M_write_99
  by_cases c : z.length ≤ 65536
  · have hl : (f_M_write_L144 K 0 (nI z.length) t_rowBytes (nI z.length) t_bitBuffer t_bitCount t_keyCount t_codeWidth t_codeNext t_codeFirst a_t_widths a_t_heights (wr b z) a_t_rows a_t_images_3 a_t_images_2 a_t_images_1 a_t_images_0 a_t_heads a_t_chain a_t_keys a_t_indices a_t_kids a_t_data K a_t_result 0) = some (mp (fun j _ => q_by (wr b z j)) a_t_result z.length) := by
      refine loop_mp (c := z.length) (fun q s x => (f_M_write_L144 K 0 (nI z.length) t_rowBytes (nI z.length) t_bitBuffer t_bitCount t_keyCount t_codeWidth t_codeNext t_codeFirst a_t_widths a_t_heights (wr b z) a_t_rows a_t_images_3 a_t_images_2 a_t_images_1 a_t_images_0 a_t_heads a_t_chain a_t_keys a_t_indices a_t_kids a_t_data q s x)) (fun j _ => q_by (wr b z j)) a_t_result (fun q s => ?_) (fun q k hk => ?_) (by omega)
      · show (f_M_write_144 K _ 0 (nI z.length) t_rowBytes (nI z.length) t_bitBuffer t_bitCount t_keyCount t_codeWidth t_codeNext t_codeFirst a_t_widths a_t_heights (wr b z) a_t_rows a_t_images_3 a_t_images_2 a_t_images_1 a_t_images_0 a_t_heads a_t_chain s a_t_keys a_t_indices a_t_kids a_t_data (nI z.length)) = _
        unfold f_M_write_144
        rw [if_pos (nI_le (by omega) (by omega))]
      · show (f_M_write_144 K _ 0 (nI z.length) t_rowBytes (nI z.length) t_bitBuffer t_bitCount t_keyCount t_codeWidth t_codeNext t_codeFirst a_t_widths a_t_heights (wr b z) a_t_rows a_t_images_3 a_t_images_2 a_t_images_1 a_t_images_0 a_t_heads a_t_chain _ a_t_keys a_t_indices a_t_kids a_t_data (nI k)) = _
        unfold f_M_write_144
        rw [if_neg (nI_ge hk (by omega)), if_pos (q_inb (by omega) (by omega)), if_pos (q_inb (by omega) (by omega)), nI_clamp (by omega), nI_1, q_by1]
    rw [if_pos (show nI z.length ≤ 65536 from show nI z.length ≤ nI 65536 from nI_le c (by omega)), hl, q_bind]
    refine .inr (.inl ⟨hB, c, _, rfl, rfl, rfl, fun j hj => ?_⟩)
    show mp (fun j _ => q_by (wr b z j)) a_t_result z.length j = _
    rw [mp_lt _ _ hj, wr_by b hj]
  · rw [if_neg (show ¬ nI z.length ≤ 65536 from show ¬ nI z.length ≤ nI 65536 from nI_ge (by omega) (by omega))]
    exact .inr (.inr ⟨hB, by omega, _, rfl, rfl, rfl, rfl⟩)
theorem wM37 {K w h fm md sl : Nat} (hK : 2000000 < K) (hsl : sl < 4) (hw0 : 0 < w) (hh0 : 0 < h) (hwh : w * h ≤ 16384) (hf : fm ≤ 2) (hm : md ≤ if fm = 0 then 5 else 1) (b P Wm Hm : Nat → Int32) (Q : Nat → Nat → Int32) (hQ : ∀ j, j < w * h → Q sl j = P j) (hW : Wm sl = nI w) (hH : Hm sl = nI h) {y1 : Int32} (hy : y1 = if fm = 0 then 5 else 1) {t_size : Int32} {t_rowBytes : Int32} {t_outSize : Int32} {t_bitBuffer : Int32} {t_bitCount : Int32} {t_keyCount : Int32} {t_codeWidth : Int32} {t_codeNext : Int32} {t_codeFirst : Int32} {a_t_rows : Nat → Int32} {a_t_heads : Nat → Int32} {a_t_chain : Nat → Int32} {a_t_result : Nat → Int32} {a_t_keys : Nat → Int32} {a_t_indices : Nat → Int32} {a_t_kids : Nat → Int32} {a_t_data : Nat → Int32} : wM (wB P w h fm md) (wZ P w h fm md) t_size a_t_result (f_M_write_37 K 0 t_size t_rowBytes t_outSize t_bitBuffer t_bitCount t_keyCount t_codeWidth t_codeNext t_codeFirst Wm Hm b a_t_rows (Q 3) (Q 2) (Q 1) (Q 0) a_t_heads a_t_chain a_t_result a_t_keys a_t_indices a_t_kids a_t_data (nI sl) (nI fm) (nI md) (nI md) y1) := by
  have hwl : w ≤ 16384 := Nat.le_trans (Nat.le_mul_of_pos_right w hh0) hwh
  have hhl : h ≤ 16384 := Nat.le_trans (Nat.le_mul_of_pos_left h hw0) hwh
  have hle : nI md ≤ y1 := by
    rw [hy]
    by_cases c : fm = 0
    · rw [if_pos c] at hm ⊢
      exact show nI md ≤ nI 5 from nI_le hm (by omega)
    · rw [if_neg c] at hm ⊢
      exact show nI md ≤ nI 1 from nI_le hm (by omega)
  unfold f_M_write_37
  rw [if_pos hle, if_pos (q_inb hsl (by omega)), nI_clamp (by omega), hW, if_neg (show ¬ nI w = 0 from nI_ne0 hw0 (by omega))]
  by_cases c0 : fm = 0
  · subst c0
    rw [if_pos (show nI 0 = 0 from rfl)]
    rw [if_pos rfl] at hm
    have eB : wB P w h 0 md = False := if_pos rfl
    have eZ : wZ P w h 0 md = pngL P w h md := if_pos rfl
    rw [eB, eZ]
    rcases Fc.cases (Fc.okp (B := False) id (pngWM (K := K) (by omega) hsl hm hw0 hh0 hwh b P Wm Hm Q hQ hW hH)) _ _ with ⟨hB, u, hu⟩ | ⟨hB, hL, a, ⟨ha1, ha2⟩, hu⟩ | ⟨hB, hL, u, hu⟩
    · exact absurd hB id
    · rw [hu]
      exact w99 (by omega) id b _ hL ha1 ha2
    · rw [hu]
      exact .inr (.inr ⟨hB, by omega, _, rfl, rfl, rfl, rfl⟩)
  · rw [if_neg (show ¬ nI fm = 0 from nI_ne0 (by omega) (by omega))]
    rw [if_neg c0] at hm
    by_cases c1 : fm = 1
    · subst c1
      rw [if_pos (show nI 1 = 1 from rfl)]
      have eB : wB P w h 1 md = (256 < (gS P (w * h)).length) := (if_neg (by decide)).trans (if_pos rfl)
      have eZ : wZ P w h 1 md = gifL P w h (decide (md = 1)) := (if_neg (by decide)).trans (if_pos rfl)
      have em : nI md = cond (decide (md = 1)) 1 0 := by
        by_cases cm : md = 1
        · rw [decide_eq_true cm, cm]; rfl
        · rw [decide_eq_false cm, show md = 0 by omega]; rfl
      rw [eB, eZ, em]
      rcases Fc.cases (gifM (K := K) (decide (md = 1)) (by omega) hsl hw0 hh0 hwh b P Wm Hm Q hQ hW hH) _ _ with ⟨hB, u, hu⟩ | ⟨hB, hL, a, ⟨ha1, b', ha2⟩, hu⟩ | ⟨hB, hL, u, hu⟩
      · rw [hu]
        exact .inl ⟨hB, _, rfl, rfl, rfl, rfl⟩
      · rw [hu]
        exact w99 (by omega) hB b' _ hL ha1 ha2
      · rw [hu]
        exact .inr (.inr ⟨hB, by omega, _, rfl, rfl, rfl, rfl⟩)
    · rw [if_neg (show ¬ nI fm = 1 from fun e => c1 ((nI_eq (b := 1) (by omega) (by omega)).mp e))]
      by_cases cm : md = 0
      · subst cm
        have eB : wB P w h fm 0 = False := (if_neg c0).trans ((if_neg c1).trans (if_pos rfl))
        have eZ : wZ P w h fm 0 = lenMend (bmpPlain P w h) := (if_neg c0).trans ((if_neg c1).trans (if_pos rfl))
        have hp := plainM (K := K) (by omega) hsl hw0 hwh hwl hhl b P Wm Hm Q hQ hW hH t_keyCount a_t_keys a_t_indices
        have hl : (bmpPlain P w h).length ≤ 262144 := by
          have h1 := catd_le (plRow_len P w) h
          have h2 := wh_mul hwh hw0
          have h3 : (bmpH 54 (nI w) (nI h) 24 0 0).length = 54 := rfl
          rw [bmpPlain_eq, List.length_append]
          omega
        rw [eB, eZ]
        rw [show f_M_writeBmp K (nI sl) (nI 0) 0 t_keyCount Wm Hm (Q 3) a_t_keys a_t_indices (Q 2) (Q 1) (Q 0) b = _ from hp, q_tryL]
        exact w99 (by omega) id b _ (by rw [lm_len]; exact hl) (by rw [lm_len]) rfl
      · have eB : wB P w h fm md = (256 < (Sp (fun i => us8 (P i)) (w * h)).length) := (if_neg c0).trans ((if_neg c1).trans (if_neg cm))
        have eZ : wZ P w h fm md = lenMend (bmpRuns P w h) := (if_neg c0).trans ((if_neg c1).trans (if_neg cm))
        rw [eB, eZ, show nI md = 1 by rw [show md = 1 by omega]; rfl]
        rcases Fc.cases (runsM (K := K) (by omega) hsl hw0 hh0 hwh hwl hhl b P Wm Hm Q hQ hW hH t_keyCount a_t_keys a_t_indices) _ _ with ⟨hB, u, hu⟩ | ⟨hB, hL, a, ⟨kc, ky, ix, ha⟩, hu⟩ | ⟨hB, hL, u, hu⟩
        · rw [hu]
          exact .inl ⟨hB, _, rfl, rfl, rfl, rfl⟩
        · rw [hu, ha]
          exact w99 (by omega) hB b _ (by rw [lm_len]; exact hL) (by rw [lm_len]) rfl
        · rw [hu]
          exact .inr (.inr ⟨hB, by rw [lm_len]; omega, _, rfl, rfl, rfl, rfl⟩)
theorem wD43 {K w h fm md k : Nat} (hk : k < 4) (hK : 300000 < K) (hw0 : 0 < w) (hh0 : 0 < h) (hwh : w * h ≤ 16384) (hf : fm ≤ 2) (hm : md ≤ if fm = 0 then 5 else 1) (b W Hh : Nat → Int32) (P : Nat → Nat → Int32) (hw : W k = nI w) (hh : Hh k = nI h) {t_draft_filled : Int32} {t_draft_bitStore : Int32} {t_draft_bitsHeld : Int32} {t_pngWriter_total : Int32} {t_pngWriter_copyLength : Int32} {t_pngWriter_copyDistance : Int32} {a_t_pngReader_rows : Nat → Int32} {a_t_pngWriter_lastPlaces : Nat → Int32} {a_t_pngWriter_placesBefore : Nat → Int32} {t_gifWriter_m : Int32} {t_gifWriter_nextRow : Int32} {t_gifWriter_bits : Int32} {t_gifWriter_readersNextRow : Int32} {t_gifWriter_isFirstCode : Int32} {t_gifWriter_table_used : Int32} {t_gifWriter_table_transparentIndex : Int32} {a_t_gifWriter_table_cells : Nat → Int32} {a_t_gifWriter_table_colours : Nat → Int32} {a_t_gifWriter_table_indices : Nat → Int32} {a_t_gifWriter_order : Nat → Int32} {a_t_gifWriter_indices : Nat → Int32} {t_gifWriter_codes_filled : Int32} {t_gifWriter_codes_bitStore : Int32} {t_gifWriter_codes_bitsHeld : Int32} {a_t_gifWriter_codes_bytes : Nat → Int32} {a_t_gifWriter_newestLonger : Nat → Int32} {a_t_gifWriter_lastIndex : Nat → Int32} {a_t_gifWriter_olderSibling : Nat → Int32} {t_result_filled : Int32} {t_result_bitStore : Int32} {t_result_bitsHeld : Int32} {a_t_result_bytes : Nat → Int32} {h_t_result : Nat} {h_t_result_bytes : Nat} {h_t_draft : Nat} {h_t_draft_bytes : Nat} : wD (wB (P k) w h fm md) (wZ (P k) w h fm md) b t_result_filled a_t_result_bytes (f_D_write_43 K 32768 (W 3) (Hh 3) (W 2) (Hh 2) (W 1) (Hh 1) (W 0) (Hh 0) t_draft_filled t_draft_bitStore t_draft_bitsHeld b t_pngWriter_total t_pngWriter_copyLength t_pngWriter_copyDistance a_t_pngReader_rows (P 3) a_t_pngWriter_lastPlaces a_t_pngWriter_placesBefore t_gifWriter_m t_gifWriter_nextRow t_gifWriter_bits t_gifWriter_readersNextRow t_gifWriter_isFirstCode t_gifWriter_table_used t_gifWriter_table_transparentIndex a_t_gifWriter_table_cells a_t_gifWriter_table_colours a_t_gifWriter_table_indices a_t_gifWriter_order a_t_gifWriter_indices t_gifWriter_codes_filled t_gifWriter_codes_bitStore t_gifWriter_codes_bitsHeld a_t_gifWriter_codes_bytes a_t_gifWriter_newestLonger a_t_gifWriter_lastIndex a_t_gifWriter_olderSibling (P 2) (P 1) (P 0) t_result_filled t_result_bitStore t_result_bitsHeld a_t_result_bytes h_t_result h_t_result_bytes h_t_draft h_t_draft_bytes (nI k) (nI fm) (nI md) 1) := by
  have h4 : k = 0 ∨ k = 1 ∨ k = 2 ∨ k = 3 := by omega
  rcases h4 with rfl | rfl | rfl | rfl
  · exact wD43_0 hK hw0 hh0 hwh hf hm b W Hh P hw hh
  · exact wD43_1 hK hw0 hh0 hwh hf hm b W Hh P hw hh
  · exact wD43_2 hK hw0 hh0 hwh hf hm b W Hh P hw hh
  · exact wD43_3 hK hw0 hh0 hwh hf hm b W Hh P hw hh
theorem D18_no {K : Nat} {n_t_gifWriter_codes_bytes : Nat} {t_slots_3_width : Int32} {t_slots_3_height : Int32} {t_slots_2_width : Int32} {t_slots_2_height : Int32} {t_slots_1_width : Int32} {t_slots_1_height : Int32} {t_slots_0_width : Int32} {t_slots_0_height : Int32} {t_draft_filled : Int32} {t_draft_bitStore : Int32} {t_draft_bitsHeld : Int32} {a_t_draft_bytes : Nat → Int32} {t_pngWriter_total : Int32} {t_pngWriter_copyLength : Int32} {t_pngWriter_copyDistance : Int32} {a_t_pngReader_rows : Nat → Int32} {a_t_slots_3_points : Nat → Int32} {a_t_pngWriter_lastPlaces : Nat → Int32} {a_t_pngWriter_placesBefore : Nat → Int32} {t_gifWriter_m : Int32} {t_gifWriter_nextRow : Int32} {t_gifWriter_bits : Int32} {t_gifWriter_readersNextRow : Int32} {t_gifWriter_isFirstCode : Int32} {t_gifWriter_table_used : Int32} {t_gifWriter_table_transparentIndex : Int32} {a_t_gifWriter_table_cells : Nat → Int32} {a_t_gifWriter_table_colours : Nat → Int32} {a_t_gifWriter_table_indices : Nat → Int32} {a_t_gifWriter_order : Nat → Int32} {a_t_gifWriter_indices : Nat → Int32} {t_gifWriter_codes_filled : Int32} {t_gifWriter_codes_bitStore : Int32} {t_gifWriter_codes_bitsHeld : Int32} {a_t_gifWriter_codes_bytes : Nat → Int32} {a_t_gifWriter_newestLonger : Nat → Int32} {a_t_gifWriter_lastIndex : Nat → Int32} {a_t_gifWriter_olderSibling : Nat → Int32} {a_t_slots_2_points : Nat → Int32} {a_t_slots_1_points : Nat → Int32} {a_t_slots_0_points : Nat → Int32} {t_result_filled : Int32} {t_result_bitStore : Int32} {t_result_bitsHeld : Int32} {a_t_result_bytes : Nat → Int32} {h_t_result : Nat} {h_t_result_bytes : Nat} {h_t_draft : Nat} {h_t_draft_bytes : Nat} {x1 : Int32} {x2 : Int32} {x3 : Int32} : ∃ S, (f_D_write_18 K n_t_gifWriter_codes_bytes t_slots_3_width t_slots_3_height t_slots_2_width t_slots_2_height t_slots_1_width t_slots_1_height t_slots_0_width t_slots_0_height t_draft_filled t_draft_bitStore t_draft_bitsHeld a_t_draft_bytes t_pngWriter_total t_pngWriter_copyLength t_pngWriter_copyDistance a_t_pngReader_rows a_t_slots_3_points a_t_pngWriter_lastPlaces a_t_pngWriter_placesBefore t_gifWriter_m t_gifWriter_nextRow t_gifWriter_bits t_gifWriter_readersNextRow t_gifWriter_isFirstCode t_gifWriter_table_used t_gifWriter_table_transparentIndex a_t_gifWriter_table_cells a_t_gifWriter_table_colours a_t_gifWriter_table_indices a_t_gifWriter_order a_t_gifWriter_indices t_gifWriter_codes_filled t_gifWriter_codes_bitStore t_gifWriter_codes_bitsHeld a_t_gifWriter_codes_bytes a_t_gifWriter_newestLonger a_t_gifWriter_lastIndex a_t_gifWriter_olderSibling a_t_slots_2_points a_t_slots_1_points a_t_slots_0_points t_result_filled t_result_bitStore t_result_bitsHeld a_t_result_bytes h_t_result h_t_result_bytes h_t_draft h_t_draft_bytes x1 x2 x3 0) = some (.inr (1, S)) ∧ wNo t_result_filled a_t_result_bytes S := by
  unfold f_D_write_18 f_D_requireArgument
  rw [if_pos rfl, q_tryR]
  exact ⟨_, rfl, rfl, rfl⟩
theorem D43_no {K : Nat} {n_t_gifWriter_codes_bytes : Nat} {t_slots_3_width : Int32} {t_slots_3_height : Int32} {t_slots_2_width : Int32} {t_slots_2_height : Int32} {t_slots_1_width : Int32} {t_slots_1_height : Int32} {t_slots_0_width : Int32} {t_slots_0_height : Int32} {t_draft_filled : Int32} {t_draft_bitStore : Int32} {t_draft_bitsHeld : Int32} {a_t_draft_bytes : Nat → Int32} {t_pngWriter_total : Int32} {t_pngWriter_copyLength : Int32} {t_pngWriter_copyDistance : Int32} {a_t_pngReader_rows : Nat → Int32} {a_t_slots_3_points : Nat → Int32} {a_t_pngWriter_lastPlaces : Nat → Int32} {a_t_pngWriter_placesBefore : Nat → Int32} {t_gifWriter_m : Int32} {t_gifWriter_nextRow : Int32} {t_gifWriter_bits : Int32} {t_gifWriter_readersNextRow : Int32} {t_gifWriter_isFirstCode : Int32} {t_gifWriter_table_used : Int32} {t_gifWriter_table_transparentIndex : Int32} {a_t_gifWriter_table_cells : Nat → Int32} {a_t_gifWriter_table_colours : Nat → Int32} {a_t_gifWriter_table_indices : Nat → Int32} {a_t_gifWriter_order : Nat → Int32} {a_t_gifWriter_indices : Nat → Int32} {t_gifWriter_codes_filled : Int32} {t_gifWriter_codes_bitStore : Int32} {t_gifWriter_codes_bitsHeld : Int32} {a_t_gifWriter_codes_bytes : Nat → Int32} {a_t_gifWriter_newestLonger : Nat → Int32} {a_t_gifWriter_lastIndex : Nat → Int32} {a_t_gifWriter_olderSibling : Nat → Int32} {a_t_slots_2_points : Nat → Int32} {a_t_slots_1_points : Nat → Int32} {a_t_slots_0_points : Nat → Int32} {t_result_filled : Int32} {t_result_bitStore : Int32} {t_result_bitsHeld : Int32} {a_t_result_bytes : Nat → Int32} {h_t_result : Nat} {h_t_result_bytes : Nat} {h_t_draft : Nat} {h_t_draft_bytes : Nat} {x1 : Int32} {x2 : Int32} {x3 : Int32} : ∃ S, (f_D_write_43 K n_t_gifWriter_codes_bytes t_slots_3_width t_slots_3_height t_slots_2_width t_slots_2_height t_slots_1_width t_slots_1_height t_slots_0_width t_slots_0_height t_draft_filled t_draft_bitStore t_draft_bitsHeld a_t_draft_bytes t_pngWriter_total t_pngWriter_copyLength t_pngWriter_copyDistance a_t_pngReader_rows a_t_slots_3_points a_t_pngWriter_lastPlaces a_t_pngWriter_placesBefore t_gifWriter_m t_gifWriter_nextRow t_gifWriter_bits t_gifWriter_readersNextRow t_gifWriter_isFirstCode t_gifWriter_table_used t_gifWriter_table_transparentIndex a_t_gifWriter_table_cells a_t_gifWriter_table_colours a_t_gifWriter_table_indices a_t_gifWriter_order a_t_gifWriter_indices t_gifWriter_codes_filled t_gifWriter_codes_bitStore t_gifWriter_codes_bitsHeld a_t_gifWriter_codes_bytes a_t_gifWriter_newestLonger a_t_gifWriter_lastIndex a_t_gifWriter_olderSibling a_t_slots_2_points a_t_slots_1_points a_t_slots_0_points t_result_filled t_result_bitStore t_result_bitsHeld a_t_result_bytes h_t_result h_t_result_bytes h_t_draft h_t_draft_bytes x1 x2 x3 0) = some (.inr (1, S)) ∧ wNo t_result_filled a_t_result_bytes S := by
  unfold f_D_write_43 f_D_requireArgument
  rw [if_pos rfl, q_tryR]
  exact ⟨_, rfl, rfl, rfl⟩
theorem D43_0 {k : Nat} (hk : k < 4) (W Hh : Nat → Int32) (P : Nat → Nat → Int32) (b : Nat → Int32) (hw : W k = nI 0) {K : Nat} {t_draft_filled : Int32} {t_draft_bitStore : Int32} {t_draft_bitsHeld : Int32} {t_pngWriter_total : Int32} {t_pngWriter_copyLength : Int32} {t_pngWriter_copyDistance : Int32} {a_t_pngReader_rows : Nat → Int32} {a_t_pngWriter_lastPlaces : Nat → Int32} {a_t_pngWriter_placesBefore : Nat → Int32} {t_gifWriter_m : Int32} {t_gifWriter_nextRow : Int32} {t_gifWriter_bits : Int32} {t_gifWriter_readersNextRow : Int32} {t_gifWriter_isFirstCode : Int32} {t_gifWriter_table_used : Int32} {t_gifWriter_table_transparentIndex : Int32} {a_t_gifWriter_table_cells : Nat → Int32} {a_t_gifWriter_table_colours : Nat → Int32} {a_t_gifWriter_table_indices : Nat → Int32} {a_t_gifWriter_order : Nat → Int32} {a_t_gifWriter_indices : Nat → Int32} {t_gifWriter_codes_filled : Int32} {t_gifWriter_codes_bitStore : Int32} {t_gifWriter_codes_bitsHeld : Int32} {a_t_gifWriter_codes_bytes : Nat → Int32} {a_t_gifWriter_newestLonger : Nat → Int32} {a_t_gifWriter_lastIndex : Nat → Int32} {a_t_gifWriter_olderSibling : Nat → Int32} {t_result_filled : Int32} {t_result_bitStore : Int32} {t_result_bitsHeld : Int32} {a_t_result_bytes : Nat → Int32} {h_t_result : Nat} {h_t_result_bytes : Nat} {h_t_draft : Nat} {h_t_draft_bytes : Nat} {x2 : Int32} {x3 : Int32} : ∃ S, (f_D_write_43 K 32768 (W 3) (Hh 3) (W 2) (Hh 2) (W 1) (Hh 1) (W 0) (Hh 0) t_draft_filled t_draft_bitStore t_draft_bitsHeld b t_pngWriter_total t_pngWriter_copyLength t_pngWriter_copyDistance a_t_pngReader_rows (P 3) a_t_pngWriter_lastPlaces a_t_pngWriter_placesBefore t_gifWriter_m t_gifWriter_nextRow t_gifWriter_bits t_gifWriter_readersNextRow t_gifWriter_isFirstCode t_gifWriter_table_used t_gifWriter_table_transparentIndex a_t_gifWriter_table_cells a_t_gifWriter_table_colours a_t_gifWriter_table_indices a_t_gifWriter_order a_t_gifWriter_indices t_gifWriter_codes_filled t_gifWriter_codes_bitStore t_gifWriter_codes_bitsHeld a_t_gifWriter_codes_bytes a_t_gifWriter_newestLonger a_t_gifWriter_lastIndex a_t_gifWriter_olderSibling (P 2) (P 1) (P 0) t_result_filled t_result_bitStore t_result_bitsHeld a_t_result_bytes h_t_result h_t_result_bytes h_t_draft h_t_draft_bytes (nI k) x2 x3 1) = some (.inr (2, S)) ∧ wNo t_result_filled a_t_result_bytes S := by
  unfold f_D_write_43 f_D_requireArgument
  rw [if_neg (show ¬ (1 : Int32) = 0 by decide), q_tryL, held_ok hk W (w := 0) (by omega) hw, if_pos rfl, q_tryR]
  exact ⟨_, rfl, rfl, rfl⟩
theorem M40 {K : Nat} {t_size : Int32} {t_rowBytes : Int32} {t_outSize : Int32} {t_bitBuffer : Int32} {t_bitCount : Int32} {t_keyCount : Int32} {t_codeWidth : Int32} {t_codeNext : Int32} {t_codeFirst : Int32} {a_t_widths : Nat → Int32} {a_t_heights : Nat → Int32} {a_t_out : Nat → Int32} {a_t_rows : Nat → Int32} {a_t_images_3 : Nat → Int32} {a_t_images_2 : Nat → Int32} {a_t_images_1 : Nat → Int32} {a_t_images_0 : Nat → Int32} {a_t_heads : Nat → Int32} {a_t_chain : Nat → Int32} {a_t_result : Nat → Int32} {a_t_keys : Nat → Int32} {a_t_indices : Nat → Int32} {a_t_kids : Nat → Int32} {a_t_data : Nat → Int32} : ∃ S, (f_M_write_40 K 0 t_size t_rowBytes t_outSize t_bitBuffer t_bitCount t_keyCount t_codeWidth t_codeNext t_codeFirst a_t_widths a_t_heights a_t_out a_t_rows a_t_images_3 a_t_images_2 a_t_images_1 a_t_images_0 a_t_heads a_t_chain a_t_result a_t_keys a_t_indices a_t_kids a_t_data) = some (0, S) ∧ mNo 1 t_size a_t_result S := by
  unfold f_M_write_40 f_M_fail
  rw [q_bind]
  exact ⟨_, rfl, rfl, rfl, rfl⟩
/-- write, of both -/
theorem write_ok {K : Nat} (hK : 2000000 < K) (x1 x2 x3 : Int32) {W Hh Wm Hm : Nat → Int32} {P Q : Nat → Nat → Int32} (hR : SlR W Hh Wm Hm P Q) (b o : Nat → Int32) {t_draft_filled : Int32} {t_draft_bitStore : Int32} {t_draft_bitsHeld : Int32} {t_pngWriter_total : Int32} {t_pngWriter_copyLength : Int32} {t_pngWriter_copyDistance : Int32} {a_t_pngReader_rows : Nat → Int32} {a_t_pngWriter_lastPlaces : Nat → Int32} {a_t_pngWriter_placesBefore : Nat → Int32} {t_gifWriter_m : Int32} {t_gifWriter_nextRow : Int32} {t_gifWriter_bits : Int32} {t_gifWriter_readersNextRow : Int32} {t_gifWriter_isFirstCode : Int32} {t_gifWriter_table_used : Int32} {t_gifWriter_table_transparentIndex : Int32} {a_t_gifWriter_table_cells : Nat → Int32} {a_t_gifWriter_table_colours : Nat → Int32} {a_t_gifWriter_table_indices : Nat → Int32} {a_t_gifWriter_order : Nat → Int32} {a_t_gifWriter_indices : Nat → Int32} {t_gifWriter_codes_filled : Int32} {t_gifWriter_codes_bitStore : Int32} {t_gifWriter_codes_bitsHeld : Int32} {a_t_gifWriter_codes_bytes : Nat → Int32} {a_t_gifWriter_newestLonger : Nat → Int32} {a_t_gifWriter_lastIndex : Nat → Int32} {a_t_gifWriter_olderSibling : Nat → Int32} {t_result_filled : Int32} {t_result_bitStore : Int32} {t_result_bitsHeld : Int32} {a_t_result_bytes : Nat → Int32} {h_t_result : Nat} {h_t_result_bytes : Nat} {h_t_draft : Nat} {h_t_draft_bytes : Nat} {t_failed : Int32} {t_size : Int32} {t_rowBytes : Int32} {t_outSize : Int32} {t_bitBuffer : Int32} {t_bitCount : Int32} {t_keyCount : Int32} {t_codeWidth : Int32} {t_codeNext : Int32} {t_codeFirst : Int32} {a_t_rows : Nat → Int32} {a_t_heads : Nat → Int32} {a_t_chain : Nat → Int32} {a_t_result : Nat → Int32} {a_t_keys : Nat → Int32} {a_t_indices : Nat → Int32} {a_t_kids : Nat → Int32} {a_t_data : Nat → Int32} :
    (∃ z S S', z.length ≤ 65536 ∧ (f_D_write K 32768 x1 x2 x3 (W 3) (Hh 3) (W 2) (Hh 2) (W 1) (Hh 1) (W 0) (Hh 0) t_draft_filled t_draft_bitStore t_draft_bitsHeld b t_pngWriter_total t_pngWriter_copyLength t_pngWriter_copyDistance a_t_pngReader_rows (P 3) a_t_pngWriter_lastPlaces a_t_pngWriter_placesBefore t_gifWriter_m t_gifWriter_nextRow t_gifWriter_bits t_gifWriter_readersNextRow t_gifWriter_isFirstCode t_gifWriter_table_used t_gifWriter_table_transparentIndex a_t_gifWriter_table_cells a_t_gifWriter_table_colours a_t_gifWriter_table_indices a_t_gifWriter_order a_t_gifWriter_indices t_gifWriter_codes_filled t_gifWriter_codes_bitStore t_gifWriter_codes_bitsHeld a_t_gifWriter_codes_bytes a_t_gifWriter_newestLonger a_t_gifWriter_lastIndex a_t_gifWriter_olderSibling (P 2) (P 1) (P 0) t_result_filled t_result_bitStore t_result_bitsHeld a_t_result_bytes h_t_result h_t_result_bytes h_t_draft h_t_draft_bytes) = some (.inl (nI z.length, S)) ∧ wOk z b S ∧ (f_M_write K x1 x2 x3 t_failed t_size t_rowBytes t_outSize t_bitBuffer t_bitCount t_keyCount t_codeWidth t_codeNext t_codeFirst Wm Hm o a_t_rows (Q 3) (Q 2) (Q 1) (Q 0) a_t_heads a_t_chain a_t_result a_t_keys a_t_indices a_t_kids a_t_data) = some (nI z.length, S') ∧ mOk z S') ∨ (∃ (k : Nat) (S : DWS) (S' : MWS), 1 ≤ k ∧ k ≤ 4 ∧ (f_D_write K 32768 x1 x2 x3 (W 3) (Hh 3) (W 2) (Hh 2) (W 1) (Hh 1) (W 0) (Hh 0) t_draft_filled t_draft_bitStore t_draft_bitsHeld b t_pngWriter_total t_pngWriter_copyLength t_pngWriter_copyDistance a_t_pngReader_rows (P 3) a_t_pngWriter_lastPlaces a_t_pngWriter_placesBefore t_gifWriter_m t_gifWriter_nextRow t_gifWriter_bits t_gifWriter_readersNextRow t_gifWriter_isFirstCode t_gifWriter_table_used t_gifWriter_table_transparentIndex a_t_gifWriter_table_cells a_t_gifWriter_table_colours a_t_gifWriter_table_indices a_t_gifWriter_order a_t_gifWriter_indices t_gifWriter_codes_filled t_gifWriter_codes_bitStore t_gifWriter_codes_bitsHeld a_t_gifWriter_codes_bytes a_t_gifWriter_newestLonger a_t_gifWriter_lastIndex a_t_gifWriter_olderSibling (P 2) (P 1) (P 0) t_result_filled t_result_bitStore t_result_bitsHeld a_t_result_bytes h_t_result h_t_result_bytes h_t_draft h_t_draft_bytes) = some (.inr (k, S)) ∧ wNo t_result_filled a_t_result_bytes S ∧ (f_M_write K x1 x2 x3 t_failed t_size t_rowBytes t_outSize t_bitBuffer t_bitCount t_keyCount t_codeWidth t_codeNext t_codeFirst Wm Hm o a_t_rows (Q 3) (Q 2) (Q 1) (Q 0) a_t_heads a_t_chain a_t_result a_t_keys a_t_indices a_t_kids a_t_data) = some (0, S') ∧ mNo (nI k) t_size a_t_result S') := by
  have hbad : (∃ S, (f_D_write K 32768 x1 x2 x3 (W 3) (Hh 3) (W 2) (Hh 2) (W 1) (Hh 1) (W 0) (Hh 0) t_draft_filled t_draft_bitStore t_draft_bitsHeld b t_pngWriter_total t_pngWriter_copyLength t_pngWriter_copyDistance a_t_pngReader_rows (P 3) a_t_pngWriter_lastPlaces a_t_pngWriter_placesBefore t_gifWriter_m t_gifWriter_nextRow t_gifWriter_bits t_gifWriter_readersNextRow t_gifWriter_isFirstCode t_gifWriter_table_used t_gifWriter_table_transparentIndex a_t_gifWriter_table_cells a_t_gifWriter_table_colours a_t_gifWriter_table_indices a_t_gifWriter_order a_t_gifWriter_indices t_gifWriter_codes_filled t_gifWriter_codes_bitStore t_gifWriter_codes_bitsHeld a_t_gifWriter_codes_bytes a_t_gifWriter_newestLonger a_t_gifWriter_lastIndex a_t_gifWriter_olderSibling (P 2) (P 1) (P 0) t_result_filled t_result_bitStore t_result_bitsHeld a_t_result_bytes h_t_result h_t_result_bytes h_t_draft h_t_draft_bytes) = some (.inr (1, S)) ∧ wNo t_result_filled a_t_result_bytes S) → (f_M_write K x1 x2 x3 t_failed t_size t_rowBytes t_outSize t_bitBuffer t_bitCount t_keyCount t_codeWidth t_codeNext t_codeFirst Wm Hm o a_t_rows (Q 3) (Q 2) (Q 1) (Q 0) a_t_heads a_t_chain a_t_result a_t_keys a_t_indices a_t_kids a_t_data) = (f_M_write_40 K 0 t_size t_rowBytes t_outSize t_bitBuffer t_bitCount t_keyCount t_codeWidth t_codeNext t_codeFirst Wm Hm o a_t_rows (Q 3) (Q 2) (Q 1) (Q 0) a_t_heads a_t_chain a_t_result a_t_keys a_t_indices a_t_kids a_t_data) → (∃ (k : Nat) (S : DWS) (S' : MWS), 1 ≤ k ∧ k ≤ 4 ∧ (f_D_write K 32768 x1 x2 x3 (W 3) (Hh 3) (W 2) (Hh 2) (W 1) (Hh 1) (W 0) (Hh 0) t_draft_filled t_draft_bitStore t_draft_bitsHeld b t_pngWriter_total t_pngWriter_copyLength t_pngWriter_copyDistance a_t_pngReader_rows (P 3) a_t_pngWriter_lastPlaces a_t_pngWriter_placesBefore t_gifWriter_m t_gifWriter_nextRow t_gifWriter_bits t_gifWriter_readersNextRow t_gifWriter_isFirstCode t_gifWriter_table_used t_gifWriter_table_transparentIndex a_t_gifWriter_table_cells a_t_gifWriter_table_colours a_t_gifWriter_table_indices a_t_gifWriter_order a_t_gifWriter_indices t_gifWriter_codes_filled t_gifWriter_codes_bitStore t_gifWriter_codes_bitsHeld a_t_gifWriter_codes_bytes a_t_gifWriter_newestLonger a_t_gifWriter_lastIndex a_t_gifWriter_olderSibling (P 2) (P 1) (P 0) t_result_filled t_result_bitStore t_result_bitsHeld a_t_result_bytes h_t_result h_t_result_bytes h_t_draft h_t_draft_bytes) = some (.inr (k, S)) ∧ wNo t_result_filled a_t_result_bytes S ∧ (f_M_write K x1 x2 x3 t_failed t_size t_rowBytes t_outSize t_bitBuffer t_bitCount t_keyCount t_codeWidth t_codeNext t_codeFirst Wm Hm o a_t_rows (Q 3) (Q 2) (Q 1) (Q 0) a_t_heads a_t_chain a_t_result a_t_keys a_t_indices a_t_kids a_t_data) = some (0, S') ∧ mNo (nI k) t_size a_t_result S') := by
    intro ⟨S, h1, h2⟩ h3
    obtain ⟨S', h4, h5⟩ := @M40 K t_size t_rowBytes t_outSize t_bitBuffer t_bitCount t_keyCount t_codeWidth t_codeNext t_codeFirst Wm Hm o a_t_rows (Q 3) (Q 2) (Q 1) (Q 0) a_t_heads a_t_chain a_t_result a_t_keys a_t_indices a_t_kids a_t_data
    exact ⟨1, S, S', by omega, by omega, h1, h2, h3.trans h4, h5⟩
  rcases slot_cases x1 with hx | ⟨k, hk, rfl⟩
  · refine .inr (hbad ?_ ?_)
    · unfold f_D_write
      rw [slot_no hx, q_tryR]
      exact ⟨_, rfl, rfl, rfl⟩
    · unfold f_M_write
      by_cases h0 : x1 < 0
      · rw [if_pos h0]
      · rw [if_neg h0, if_pos (show (3 : Int32) < x1 from Int32.lt_of_lt_of_le (show (3 : Int32) < nI 4 by decide) (hx.resolve_left h0))]
  · obtain ⟨w, h, a1, a2, a3, a4, a5, a6, a7, a8, a9⟩ := hR k hk
    have d0 : (f_D_write K 32768 (nI k) x2 x3 (W 3) (Hh 3) (W 2) (Hh 2) (W 1) (Hh 1) (W 0) (Hh 0) t_draft_filled t_draft_bitStore t_draft_bitsHeld b t_pngWriter_total t_pngWriter_copyLength t_pngWriter_copyDistance a_t_pngReader_rows (P 3) a_t_pngWriter_lastPlaces a_t_pngWriter_placesBefore t_gifWriter_m t_gifWriter_nextRow t_gifWriter_bits t_gifWriter_readersNextRow t_gifWriter_isFirstCode t_gifWriter_table_used t_gifWriter_table_transparentIndex a_t_gifWriter_table_cells a_t_gifWriter_table_colours a_t_gifWriter_table_indices a_t_gifWriter_order a_t_gifWriter_indices t_gifWriter_codes_filled t_gifWriter_codes_bitStore t_gifWriter_codes_bitsHeld a_t_gifWriter_codes_bytes a_t_gifWriter_newestLonger a_t_gifWriter_lastIndex a_t_gifWriter_olderSibling (P 2) (P 1) (P 0) t_result_filled t_result_bitStore t_result_bitsHeld a_t_result_bytes h_t_result h_t_result_bytes h_t_draft h_t_draft_bytes) = (if x2 < 0 then (f_D_write_17 K 32768 (W 3) (Hh 3) (W 2) (Hh 2) (W 1) (Hh 1) (W 0) (Hh 0) t_draft_filled t_draft_bitStore t_draft_bitsHeld b t_pngWriter_total t_pngWriter_copyLength t_pngWriter_copyDistance a_t_pngReader_rows (P 3) a_t_pngWriter_lastPlaces a_t_pngWriter_placesBefore t_gifWriter_m t_gifWriter_nextRow t_gifWriter_bits t_gifWriter_readersNextRow t_gifWriter_isFirstCode t_gifWriter_table_used t_gifWriter_table_transparentIndex a_t_gifWriter_table_cells a_t_gifWriter_table_colours a_t_gifWriter_table_indices a_t_gifWriter_order a_t_gifWriter_indices t_gifWriter_codes_filled t_gifWriter_codes_bitStore t_gifWriter_codes_bitsHeld a_t_gifWriter_codes_bytes a_t_gifWriter_newestLonger a_t_gifWriter_lastIndex a_t_gifWriter_olderSibling (P 2) (P 1) (P 0) t_result_filled t_result_bitStore t_result_bitsHeld a_t_result_bytes h_t_result h_t_result_bytes h_t_draft h_t_draft_bytes (nI k) x2 x3) else if 2 < x2 then (f_D_write_17 K 32768 (W 3) (Hh 3) (W 2) (Hh 2) (W 1) (Hh 1) (W 0) (Hh 0) t_draft_filled t_draft_bitStore t_draft_bitsHeld b t_pngWriter_total t_pngWriter_copyLength t_pngWriter_copyDistance a_t_pngReader_rows (P 3) a_t_pngWriter_lastPlaces a_t_pngWriter_placesBefore t_gifWriter_m t_gifWriter_nextRow t_gifWriter_bits t_gifWriter_readersNextRow t_gifWriter_isFirstCode t_gifWriter_table_used t_gifWriter_table_transparentIndex a_t_gifWriter_table_cells a_t_gifWriter_table_colours a_t_gifWriter_table_indices a_t_gifWriter_order a_t_gifWriter_indices t_gifWriter_codes_filled t_gifWriter_codes_bitStore t_gifWriter_codes_bitsHeld a_t_gifWriter_codes_bytes a_t_gifWriter_newestLonger a_t_gifWriter_lastIndex a_t_gifWriter_olderSibling (P 2) (P 1) (P 0) t_result_filled t_result_bitStore t_result_bitsHeld a_t_result_bytes h_t_result h_t_result_bytes h_t_draft h_t_draft_bytes (nI k) x2 x3) else (f_D_write_18 K 32768 (W 3) (Hh 3) (W 2) (Hh 2) (W 1) (Hh 1) (W 0) (Hh 0) t_draft_filled t_draft_bitStore t_draft_bitsHeld b t_pngWriter_total t_pngWriter_copyLength t_pngWriter_copyDistance a_t_pngReader_rows (P 3) a_t_pngWriter_lastPlaces a_t_pngWriter_placesBefore t_gifWriter_m t_gifWriter_nextRow t_gifWriter_bits t_gifWriter_readersNextRow t_gifWriter_isFirstCode t_gifWriter_table_used t_gifWriter_table_transparentIndex a_t_gifWriter_table_cells a_t_gifWriter_table_colours a_t_gifWriter_table_indices a_t_gifWriter_order a_t_gifWriter_indices t_gifWriter_codes_filled t_gifWriter_codes_bitStore t_gifWriter_codes_bitsHeld a_t_gifWriter_codes_bytes a_t_gifWriter_newestLonger a_t_gifWriter_lastIndex a_t_gifWriter_olderSibling (P 2) (P 1) (P 0) t_result_filled t_result_bitStore t_result_bitsHeld a_t_result_bytes h_t_result h_t_result_bytes h_t_draft h_t_draft_bytes (nI k) x2 x3 1)) := by
      unfold f_D_write
      rw [slot_ok hk, q_tryL]
    have m0 : (f_M_write K (nI k) x2 x3 t_failed t_size t_rowBytes t_outSize t_bitBuffer t_bitCount t_keyCount t_codeWidth t_codeNext t_codeFirst Wm Hm o a_t_rows (Q 3) (Q 2) (Q 1) (Q 0) a_t_heads a_t_chain a_t_result a_t_keys a_t_indices a_t_kids a_t_data) = (if x2 < 0 then (f_M_write_40 K 0 t_size t_rowBytes t_outSize t_bitBuffer t_bitCount t_keyCount t_codeWidth t_codeNext t_codeFirst Wm Hm o a_t_rows (Q 3) (Q 2) (Q 1) (Q 0) a_t_heads a_t_chain a_t_result a_t_keys a_t_indices a_t_kids a_t_data) else if 2 < x2 then (f_M_write_40 K 0 t_size t_rowBytes t_outSize t_bitBuffer t_bitCount t_keyCount t_codeWidth t_codeNext t_codeFirst Wm Hm o a_t_rows (Q 3) (Q 2) (Q 1) (Q 0) a_t_heads a_t_chain a_t_result a_t_keys a_t_indices a_t_kids a_t_data) else if x3 < 0 then (f_M_write_40 K 0 t_size t_rowBytes t_outSize t_bitBuffer t_bitCount t_keyCount t_codeWidth t_codeNext t_codeFirst Wm Hm o a_t_rows (Q 3) (Q 2) (Q 1) (Q 0) a_t_heads a_t_chain a_t_result a_t_keys a_t_indices a_t_kids a_t_data) else if x2 = 0 then (f_M_write_37 K 0 t_size t_rowBytes t_outSize t_bitBuffer t_bitCount t_keyCount t_codeWidth t_codeNext t_codeFirst Wm Hm o a_t_rows (Q 3) (Q 2) (Q 1) (Q 0) a_t_heads a_t_chain a_t_result a_t_keys a_t_indices a_t_kids a_t_data (nI k) x2 x3 x3 5) else (f_M_write_37 K 0 t_size t_rowBytes t_outSize t_bitBuffer t_bitCount t_keyCount t_codeWidth t_codeNext t_codeFirst Wm Hm o a_t_rows (Q 3) (Q 2) (Q 1) (Q 0) a_t_heads a_t_chain a_t_result a_t_keys a_t_indices a_t_kids a_t_data (nI k) x2 x3 x3 1)) := by
      unfold f_M_write
      rw [if_neg (nI_pos (by omega)), if_neg (show ¬ (3 : Int32) < nI k from show ¬ nI 3 < nI k from nI_nlt (by omega) (by omega))]
    have d17 : ∃ S, (f_D_write_17 K 32768 (W 3) (Hh 3) (W 2) (Hh 2) (W 1) (Hh 1) (W 0) (Hh 0) t_draft_filled t_draft_bitStore t_draft_bitsHeld b t_pngWriter_total t_pngWriter_copyLength t_pngWriter_copyDistance a_t_pngReader_rows (P 3) a_t_pngWriter_lastPlaces a_t_pngWriter_placesBefore t_gifWriter_m t_gifWriter_nextRow t_gifWriter_bits t_gifWriter_readersNextRow t_gifWriter_isFirstCode t_gifWriter_table_used t_gifWriter_table_transparentIndex a_t_gifWriter_table_cells a_t_gifWriter_table_colours a_t_gifWriter_table_indices a_t_gifWriter_order a_t_gifWriter_indices t_gifWriter_codes_filled t_gifWriter_codes_bitStore t_gifWriter_codes_bitsHeld a_t_gifWriter_codes_bytes a_t_gifWriter_newestLonger a_t_gifWriter_lastIndex a_t_gifWriter_olderSibling (P 2) (P 1) (P 0) t_result_filled t_result_bitStore t_result_bitsHeld a_t_result_bytes h_t_result h_t_result_bytes h_t_draft h_t_draft_bytes (nI k) x2 x3) = some (.inr (1, S)) ∧ wNo t_result_filled a_t_result_bytes S := D18_no
    by_cases c1 : x2 < 0
    · rw [if_pos c1] at d0 m0
      exact .inr (hbad (by rw [d0]; exact d17) m0)
    · rw [if_neg c1] at d0 m0
      by_cases c2 : 2 < x2
      · rw [if_pos c2] at d0 m0
        exact .inr (hbad (by rw [d0]; exact d17) m0)
      · rw [if_neg c2] at d0 m0
        obtain ⟨fm, hfm, rfl⟩ : ∃ fm : Nat, fm < 3 ∧ x2 = nI fm := by
          rcases pk_ix x2 (n := 3) (by omega) with q | q | q
          · exact absurd q c1
          · exact absurd (show (2 : Int32) < x2 from Int32.lt_of_lt_of_le (show (2 : Int32) < nI 3 by decide) q) c2
          · exact q
        have d18 : (f_D_write_18 K 32768 (W 3) (Hh 3) (W 2) (Hh 2) (W 1) (Hh 1) (W 0) (Hh 0) t_draft_filled t_draft_bitStore t_draft_bitsHeld b t_pngWriter_total t_pngWriter_copyLength t_pngWriter_copyDistance a_t_pngReader_rows (P 3) a_t_pngWriter_lastPlaces a_t_pngWriter_placesBefore t_gifWriter_m t_gifWriter_nextRow t_gifWriter_bits t_gifWriter_readersNextRow t_gifWriter_isFirstCode t_gifWriter_table_used t_gifWriter_table_transparentIndex a_t_gifWriter_table_cells a_t_gifWriter_table_colours a_t_gifWriter_table_indices a_t_gifWriter_order a_t_gifWriter_indices t_gifWriter_codes_filled t_gifWriter_codes_bitStore t_gifWriter_codes_bitsHeld a_t_gifWriter_codes_bytes a_t_gifWriter_newestLonger a_t_gifWriter_lastIndex a_t_gifWriter_olderSibling (P 2) (P 1) (P 0) t_result_filled t_result_bitStore t_result_bitsHeld a_t_result_bytes h_t_result h_t_result_bytes h_t_draft h_t_draft_bytes (nI k) (nI fm) x3 1) = (if x3 < 0 then (f_D_write_42 K 32768 (W 3) (Hh 3) (W 2) (Hh 2) (W 1) (Hh 1) (W 0) (Hh 0) t_draft_filled t_draft_bitStore t_draft_bitsHeld b t_pngWriter_total t_pngWriter_copyLength t_pngWriter_copyDistance a_t_pngReader_rows (P 3) a_t_pngWriter_lastPlaces a_t_pngWriter_placesBefore t_gifWriter_m t_gifWriter_nextRow t_gifWriter_bits t_gifWriter_readersNextRow t_gifWriter_isFirstCode t_gifWriter_table_used t_gifWriter_table_transparentIndex a_t_gifWriter_table_cells a_t_gifWriter_table_colours a_t_gifWriter_table_indices a_t_gifWriter_order a_t_gifWriter_indices t_gifWriter_codes_filled t_gifWriter_codes_bitStore t_gifWriter_codes_bitsHeld a_t_gifWriter_codes_bytes a_t_gifWriter_newestLonger a_t_gifWriter_lastIndex a_t_gifWriter_olderSibling (P 2) (P 1) (P 0) t_result_filled t_result_bitStore t_result_bitsHeld a_t_result_bytes h_t_result h_t_result_bytes h_t_draft h_t_draft_bytes (nI k) (nI fm) x3) else if nI fm = 0 then (f_D_write_35 K 32768 (W 3) (Hh 3) (W 2) (Hh 2) (W 1) (Hh 1) (W 0) (Hh 0) t_draft_filled t_draft_bitStore t_draft_bitsHeld b t_pngWriter_total t_pngWriter_copyLength t_pngWriter_copyDistance a_t_pngReader_rows (P 3) a_t_pngWriter_lastPlaces a_t_pngWriter_placesBefore t_gifWriter_m t_gifWriter_nextRow t_gifWriter_bits t_gifWriter_readersNextRow t_gifWriter_isFirstCode t_gifWriter_table_used t_gifWriter_table_transparentIndex a_t_gifWriter_table_cells a_t_gifWriter_table_colours a_t_gifWriter_table_indices a_t_gifWriter_order a_t_gifWriter_indices t_gifWriter_codes_filled t_gifWriter_codes_bitStore t_gifWriter_codes_bitsHeld a_t_gifWriter_codes_bytes a_t_gifWriter_newestLonger a_t_gifWriter_lastIndex a_t_gifWriter_olderSibling (P 2) (P 1) (P 0) t_result_filled t_result_bitStore t_result_bitsHeld a_t_result_bytes h_t_result h_t_result_bytes h_t_draft h_t_draft_bytes (nI k) (nI fm) x3 x3 5) else (f_D_write_35 K 32768 (W 3) (Hh 3) (W 2) (Hh 2) (W 1) (Hh 1) (W 0) (Hh 0) t_draft_filled t_draft_bitStore t_draft_bitsHeld b t_pngWriter_total t_pngWriter_copyLength t_pngWriter_copyDistance a_t_pngReader_rows (P 3) a_t_pngWriter_lastPlaces a_t_pngWriter_placesBefore t_gifWriter_m t_gifWriter_nextRow t_gifWriter_bits t_gifWriter_readersNextRow t_gifWriter_isFirstCode t_gifWriter_table_used t_gifWriter_table_transparentIndex a_t_gifWriter_table_cells a_t_gifWriter_table_colours a_t_gifWriter_table_indices a_t_gifWriter_order a_t_gifWriter_indices t_gifWriter_codes_filled t_gifWriter_codes_bitStore t_gifWriter_codes_bitsHeld a_t_gifWriter_codes_bytes a_t_gifWriter_newestLonger a_t_gifWriter_lastIndex a_t_gifWriter_olderSibling (P 2) (P 1) (P 0) t_result_filled t_result_bitStore t_result_bitsHeld a_t_result_bytes h_t_result h_t_result_bytes h_t_draft h_t_draft_bytes (nI k) (nI fm) x3 x3 1)) := by
          unfold f_D_write_18 f_D_requireArgument
          rw [if_neg (show ¬ (1 : Int32) = 0 by decide), q_tryL]
        have d42 : ∃ S, (f_D_write_42 K 32768 (W 3) (Hh 3) (W 2) (Hh 2) (W 1) (Hh 1) (W 0) (Hh 0) t_draft_filled t_draft_bitStore t_draft_bitsHeld b t_pngWriter_total t_pngWriter_copyLength t_pngWriter_copyDistance a_t_pngReader_rows (P 3) a_t_pngWriter_lastPlaces a_t_pngWriter_placesBefore t_gifWriter_m t_gifWriter_nextRow t_gifWriter_bits t_gifWriter_readersNextRow t_gifWriter_isFirstCode t_gifWriter_table_used t_gifWriter_table_transparentIndex a_t_gifWriter_table_cells a_t_gifWriter_table_colours a_t_gifWriter_table_indices a_t_gifWriter_order a_t_gifWriter_indices t_gifWriter_codes_filled t_gifWriter_codes_bitStore t_gifWriter_codes_bitsHeld a_t_gifWriter_codes_bytes a_t_gifWriter_newestLonger a_t_gifWriter_lastIndex a_t_gifWriter_olderSibling (P 2) (P 1) (P 0) t_result_filled t_result_bitStore t_result_bitsHeld a_t_result_bytes h_t_result h_t_result_bytes h_t_draft h_t_draft_bytes (nI k) (nI fm) x3) = some (.inr (1, S)) ∧ wNo t_result_filled a_t_result_bytes S := D43_no
        rw [d18] at d0
        by_cases c3 : x3 < 0
        · rw [if_pos c3] at d0 m0
          exact .inr (hbad (by rw [d0]; exact d42) m0)
        · rw [if_neg c3] at d0 m0
          have d35 : (f_D_write K 32768 (nI k) (nI fm) x3 (W 3) (Hh 3) (W 2) (Hh 2) (W 1) (Hh 1) (W 0) (Hh 0) t_draft_filled t_draft_bitStore t_draft_bitsHeld b t_pngWriter_total t_pngWriter_copyLength t_pngWriter_copyDistance a_t_pngReader_rows (P 3) a_t_pngWriter_lastPlaces a_t_pngWriter_placesBefore t_gifWriter_m t_gifWriter_nextRow t_gifWriter_bits t_gifWriter_readersNextRow t_gifWriter_isFirstCode t_gifWriter_table_used t_gifWriter_table_transparentIndex a_t_gifWriter_table_cells a_t_gifWriter_table_colours a_t_gifWriter_table_indices a_t_gifWriter_order a_t_gifWriter_indices t_gifWriter_codes_filled t_gifWriter_codes_bitStore t_gifWriter_codes_bitsHeld a_t_gifWriter_codes_bytes a_t_gifWriter_newestLonger a_t_gifWriter_lastIndex a_t_gifWriter_olderSibling (P 2) (P 1) (P 0) t_result_filled t_result_bitStore t_result_bitsHeld a_t_result_bytes h_t_result h_t_result_bytes h_t_draft h_t_draft_bytes) = (if (if fm = 0 then (5 : Int32) else 1) < x3 then (f_D_write_42 K 32768 (W 3) (Hh 3) (W 2) (Hh 2) (W 1) (Hh 1) (W 0) (Hh 0) t_draft_filled t_draft_bitStore t_draft_bitsHeld b t_pngWriter_total t_pngWriter_copyLength t_pngWriter_copyDistance a_t_pngReader_rows (P 3) a_t_pngWriter_lastPlaces a_t_pngWriter_placesBefore t_gifWriter_m t_gifWriter_nextRow t_gifWriter_bits t_gifWriter_readersNextRow t_gifWriter_isFirstCode t_gifWriter_table_used t_gifWriter_table_transparentIndex a_t_gifWriter_table_cells a_t_gifWriter_table_colours a_t_gifWriter_table_indices a_t_gifWriter_order a_t_gifWriter_indices t_gifWriter_codes_filled t_gifWriter_codes_bitStore t_gifWriter_codes_bitsHeld a_t_gifWriter_codes_bytes a_t_gifWriter_newestLonger a_t_gifWriter_lastIndex a_t_gifWriter_olderSibling (P 2) (P 1) (P 0) t_result_filled t_result_bitStore t_result_bitsHeld a_t_result_bytes h_t_result h_t_result_bytes h_t_draft h_t_draft_bytes (nI k) (nI fm) x3) else (f_D_write_43 K 32768 (W 3) (Hh 3) (W 2) (Hh 2) (W 1) (Hh 1) (W 0) (Hh 0) t_draft_filled t_draft_bitStore t_draft_bitsHeld b t_pngWriter_total t_pngWriter_copyLength t_pngWriter_copyDistance a_t_pngReader_rows (P 3) a_t_pngWriter_lastPlaces a_t_pngWriter_placesBefore t_gifWriter_m t_gifWriter_nextRow t_gifWriter_bits t_gifWriter_readersNextRow t_gifWriter_isFirstCode t_gifWriter_table_used t_gifWriter_table_transparentIndex a_t_gifWriter_table_cells a_t_gifWriter_table_colours a_t_gifWriter_table_indices a_t_gifWriter_order a_t_gifWriter_indices t_gifWriter_codes_filled t_gifWriter_codes_bitStore t_gifWriter_codes_bitsHeld a_t_gifWriter_codes_bytes a_t_gifWriter_newestLonger a_t_gifWriter_lastIndex a_t_gifWriter_olderSibling (P 2) (P 1) (P 0) t_result_filled t_result_bitStore t_result_bitsHeld a_t_result_bytes h_t_result h_t_result_bytes h_t_draft h_t_draft_bytes (nI k) (nI fm) x3 1)) := by
            rw [d0]
            unfold f_D_write_35
            by_cases c : fm = 0
            · rw [if_pos (show nI fm = 0 by rw [c]; rfl), if_pos c]
            · rw [if_neg (show ¬ nI fm = 0 from nI_ne0 (by omega) (by omega)), if_neg c]
          have m35 : (f_M_write K (nI k) (nI fm) x3 t_failed t_size t_rowBytes t_outSize t_bitBuffer t_bitCount t_keyCount t_codeWidth t_codeNext t_codeFirst Wm Hm o a_t_rows (Q 3) (Q 2) (Q 1) (Q 0) a_t_heads a_t_chain a_t_result a_t_keys a_t_indices a_t_kids a_t_data) = (f_M_write_37 K 0 t_size t_rowBytes t_outSize t_bitBuffer t_bitCount t_keyCount t_codeWidth t_codeNext t_codeFirst Wm Hm o a_t_rows (Q 3) (Q 2) (Q 1) (Q 0) a_t_heads a_t_chain a_t_result a_t_keys a_t_indices a_t_kids a_t_data (nI k) (nI fm) x3 x3 (if fm = 0 then 5 else 1)) := by
            rw [m0]
            by_cases c : fm = 0
            · rw [if_pos (show nI fm = 0 by rw [c]; rfl), if_pos c]
            · rw [if_neg (show ¬ nI fm = 0 from nI_ne0 (by omega) (by omega)), if_neg c]
          by_cases c4 : (if fm = 0 then (5 : Int32) else 1) < x3
          · rw [if_pos c4] at d35
            refine .inr (hbad (by rw [d35]; exact d42) ?_)
            rw [m35]
            unfold f_M_write_37
            rw [if_neg (Int32.not_le.mpr c4)]
          · rw [if_neg c4] at d35
            obtain ⟨md, hmd, rfl⟩ : ∃ md : Nat, md ≤ (if fm = 0 then 5 else 1) ∧ x3 = nI md := by
              by_cases c : fm = 0
              · rw [if_pos c] at c4 ⊢
                exact nI_of2 (M := 5) rfl c3 (Int32.not_lt.mp c4)
              · rw [if_neg c] at c4 ⊢
                exact nI_of2 (M := 1) rfl c3 (Int32.not_lt.mp c4)
            by_cases cw : w = 0
            · subst cw
              obtain ⟨S, s1, s2⟩ := @D43_0 k hk W Hh P b a5 K t_draft_filled t_draft_bitStore t_draft_bitsHeld t_pngWriter_total t_pngWriter_copyLength t_pngWriter_copyDistance a_t_pngReader_rows a_t_pngWriter_lastPlaces a_t_pngWriter_placesBefore t_gifWriter_m t_gifWriter_nextRow t_gifWriter_bits t_gifWriter_readersNextRow t_gifWriter_isFirstCode t_gifWriter_table_used t_gifWriter_table_transparentIndex a_t_gifWriter_table_cells a_t_gifWriter_table_colours a_t_gifWriter_table_indices a_t_gifWriter_order a_t_gifWriter_indices t_gifWriter_codes_filled t_gifWriter_codes_bitStore t_gifWriter_codes_bitsHeld a_t_gifWriter_codes_bytes a_t_gifWriter_newestLonger a_t_gifWriter_lastIndex a_t_gifWriter_olderSibling t_result_filled t_result_bitStore t_result_bitsHeld a_t_result_bytes h_t_result h_t_result_bytes h_t_draft h_t_draft_bytes (nI fm) (nI md)
              refine .inr ⟨2, S, ?_⟩
              have hm2 : ∃ S', (f_M_write K (nI k) (nI fm) (nI md) t_failed t_size t_rowBytes t_outSize t_bitBuffer t_bitCount t_keyCount t_codeWidth t_codeNext t_codeFirst Wm Hm o a_t_rows (Q 3) (Q 2) (Q 1) (Q 0) a_t_heads a_t_chain a_t_result a_t_keys a_t_indices a_t_kids a_t_data) = some (0, S') ∧ mNo 2 t_size a_t_result S' := by
                rw [m35]
                unfold f_M_write_37
                rw [if_pos (Int32.not_lt.mp c4), if_pos (q_inb hk (by omega)), nI_clamp (by omega), a7, if_pos (show nI 0 = 0 from rfl)]
                exact ⟨_, rfl, rfl, rfl, rfl⟩
              obtain ⟨S', s3, s4⟩ := hm2
              exact ⟨S', by omega, by omega, d35.trans s1, s2, s3, s4⟩
            · have hh0 : 0 < h := a4.resolve_left cw
              have hD := wD43 (K := K) hk (by omega) (by omega) hh0 a3 (by omega) hmd b W Hh P a5 a6 (t_draft_filled := t_draft_filled) (t_draft_bitStore := t_draft_bitStore) (t_draft_bitsHeld := t_draft_bitsHeld) (t_pngWriter_total := t_pngWriter_total) (t_pngWriter_copyLength := t_pngWriter_copyLength) (t_pngWriter_copyDistance := t_pngWriter_copyDistance) (a_t_pngReader_rows := a_t_pngReader_rows) (a_t_pngWriter_lastPlaces := a_t_pngWriter_lastPlaces) (a_t_pngWriter_placesBefore := a_t_pngWriter_placesBefore) (t_gifWriter_m := t_gifWriter_m) (t_gifWriter_nextRow := t_gifWriter_nextRow) (t_gifWriter_bits := t_gifWriter_bits) (t_gifWriter_readersNextRow := t_gifWriter_readersNextRow) (t_gifWriter_isFirstCode := t_gifWriter_isFirstCode) (t_gifWriter_table_used := t_gifWriter_table_used) (t_gifWriter_table_transparentIndex := t_gifWriter_table_transparentIndex) (a_t_gifWriter_table_cells := a_t_gifWriter_table_cells) (a_t_gifWriter_table_colours := a_t_gifWriter_table_colours) (a_t_gifWriter_table_indices := a_t_gifWriter_table_indices) (a_t_gifWriter_order := a_t_gifWriter_order) (a_t_gifWriter_indices := a_t_gifWriter_indices) (t_gifWriter_codes_filled := t_gifWriter_codes_filled) (t_gifWriter_codes_bitStore := t_gifWriter_codes_bitStore) (t_gifWriter_codes_bitsHeld := t_gifWriter_codes_bitsHeld) (a_t_gifWriter_codes_bytes := a_t_gifWriter_codes_bytes) (a_t_gifWriter_newestLonger := a_t_gifWriter_newestLonger) (a_t_gifWriter_lastIndex := a_t_gifWriter_lastIndex) (a_t_gifWriter_olderSibling := a_t_gifWriter_olderSibling) (t_result_filled := t_result_filled) (t_result_bitStore := t_result_bitStore) (t_result_bitsHeld := t_result_bitsHeld) (a_t_result_bytes := a_t_result_bytes) (h_t_result := h_t_result) (h_t_result_bytes := h_t_result_bytes) (h_t_draft := h_t_draft) (h_t_draft_bytes := h_t_draft_bytes)
              have hM := wM37 (K := K) hK hk (by omega) hh0 a3 (by omega) hmd o (P k) Wm Hm Q a9 a7 a8 (y1 := if fm = 0 then 5 else 1) rfl (t_size := t_size) (t_rowBytes := t_rowBytes) (t_outSize := t_outSize) (t_bitBuffer := t_bitBuffer) (t_bitCount := t_bitCount) (t_keyCount := t_keyCount) (t_codeWidth := t_codeWidth) (t_codeNext := t_codeNext) (t_codeFirst := t_codeFirst) (a_t_rows := a_t_rows) (a_t_heads := a_t_heads) (a_t_chain := a_t_chain) (a_t_result := a_t_result) (a_t_keys := a_t_keys) (a_t_indices := a_t_indices) (a_t_kids := a_t_kids) (a_t_data := a_t_data)
              rw [← d35] at hD
              rw [← m35] at hM
              rcases hD with ⟨hB, S, s1, s2⟩ | ⟨hB, hz, S, s1, s2⟩ | ⟨hB, hz, S, s1, s2⟩
              · rcases hM with ⟨hB', S', t1, t2⟩ | ⟨hB', _⟩ | ⟨hB', _⟩
                · exact .inr ⟨3, S, S', by omega, by omega, s1, s2, t1, t2⟩
                · exact absurd hB hB'
                · exact absurd hB hB'
              · rcases hM with ⟨hB', _⟩ | ⟨hB', hz', S', t1, t2⟩ | ⟨hB', hz', _⟩
                · exact absurd hB' hB
                · exact .inl ⟨_, S, S', hz, s1, s2, t1, t2⟩
                · exact absurd hz (by omega)
              · rcases hM with ⟨hB', _⟩ | ⟨hB', hz', _⟩ | ⟨hB', hz', S', t1, t2⟩
                · exact absurd hB' hB
                · exact absurd hz (by omega)
                · exact .inr ⟨4, S, S', by omega, by omega, s1, s2, t1, t2⟩
