/-! the pure half: read -/
abbrev DRS := Int32 × Int32 × Int32 × Int32 × Int32 × Int32 × Int32 × (Nat → Int32) × Int32 × Int32 × Int32 × Int32 × Int32 × Int32 × Int32 × Int32 × Int32 × Int32 × (Nat → Int32) × (Nat → Int32) × Int32 × Int32 × Int32 × Int32 × Int32 × Int32 × (Nat → Int32) × (Nat → Int32) × Int32 × Int32 × (Nat → Int32) × (Nat → Int32) × (Nat → Int32) × Int32 × Int32 × (Nat → Int32) × (Nat → Int32) × (Nat → Int32) × Int32 × Int32 × (Nat → Int32) × (Nat → Int32) × (Nat → Int32) × (Nat → Int32) × Int32 × Int32 × Int32 × (Nat → Int32) × (Nat → Int32) × (Nat → Int32) × (Nat → Int32) × (Nat → Int32) × Int32 × Int32 × Int32 × Int32 × Int32 × Int32 × Int32 × (Nat → Int32) × Int32 × Int32 × (Nat → Int32) × Int32 × Int32 × (Nat → Int32) × Int32 × Int32 × (Nat → Int32) × Int32 × Int32 × (Nat → Int32) × Nat × Nat × Nat × Nat × Nat × Nat × Nat × Nat × Nat × Nat
abbrev MRS := Int32 × Int32 × Int32 × Int32 × Int32 × Int32 × Int32 × Int32 × Int32 × Int32 × Int32 × Int32 × Int32 × Int32 × (Nat → Int32) × (Nat → Int32) × (Nat → Int32) × (Nat → Int32) × (Nat → Int32) × (Nat → Int32) × (Nat → Int32) × (Nat → Int32) × (Nat → Int32) × (Nat → Int32) × (Nat → Int32) × Int32 × (Nat → Int32) × (Nat → Int32) × Int32 × (Nat → Int32) × (Nat → Int32) × Int32 × (Nat → Int32) × (Nat → Int32) × (Nat → Int32) × (Nat → Int32) × (Nat → Int32) × (Nat → Int32) × (Nat → Int32)
def rD (S : DRS) (W Hh : Nat → Int32) (P : Nat → Nat → Int32) : Prop := S.2.2.2.2.2.2.2.2.2.2.2.2.2.2.2.2.2.2.2.2.2.2.2.2.2.2.2.2.2.2.2.2.2.2.2.2.2.2.2.2.2.2.2.2.2.2.2.2.2.2.2.2.2.2.2.2.2.2.2.2.1 = W 0 ∧ S.2.2.2.2.2.2.2.2.2.2.2.2.2.2.2.2.2.2.2.2.2.2.2.2.2.2.2.2.2.2.2.2.2.2.2.2.2.2.2.2.2.2.2.2.2.2.2.2.2.2.2.2.2.2.2.2.2.2.2.2.2.1 = Hh 0 ∧ S.2.2.2.2.2.2.2.2.2.2.2.2.2.2.2.2.2.2.2.2.2.2.2.2.2.2.2.2.2.2.2.2.2.2.2.2.2.2.2.2.2.2.2.2.2.2.2.2.2.2.2.2.2.2.2.2.2.2.2.2.2.2.1 = P 0 ∧ S.2.2.2.2.2.2.2.2.2.2.2.2.2.2.2.2.2.2.2.2.2.2.2.2.2.2.2.2.2.2.2.2.2.2.2.2.2.2.2.2.2.2.2.2.2.2.2.2.2.2.2.2.2.2.2.2.2.2.2.2.2.2.2.1 = W 1 ∧ S.2.2.2.2.2.2.2.2.2.2.2.2.2.2.2.2.2.2.2.2.2.2.2.2.2.2.2.2.2.2.2.2.2.2.2.2.2.2.2.2.2.2.2.2.2.2.2.2.2.2.2.2.2.2.2.2.2.2.2.2.2.2.2.2.1 = Hh 1 ∧ S.2.2.2.2.2.2.2.2.2.2.2.2.2.2.2.2.2.2.2.2.2.2.2.2.2.2.2.2.2.2.2.2.2.2.2.2.2.2.2.2.2.2.2.2.2.2.2.2.2.2.2.2.2.2.2.2.2.2.2.2.2.2.2.2.2.1 = P 1 ∧ S.2.2.2.2.2.2.2.2.2.2.2.2.2.2.2.2.2.2.2.2.2.2.2.2.2.2.2.2.2.2.2.2.2.2.2.2.2.2.2.2.2.2.2.2.2.2.2.2.2.2.2.2.2.2.2.2.2.2.2.2.2.2.2.2.2.2.1 = W 2 ∧ S.2.2.2.2.2.2.2.2.2.2.2.2.2.2.2.2.2.2.2.2.2.2.2.2.2.2.2.2.2.2.2.2.2.2.2.2.2.2.2.2.2.2.2.2.2.2.2.2.2.2.2.2.2.2.2.2.2.2.2.2.2.2.2.2.2.2.2.1 = Hh 2 ∧ S.2.2.2.2.2.2.2.2.2.2.2.2.2.2.2.2.2.2.2.2.2.2.2.2.2.2.2.2.2.2.2.2.2.2.2.2.2.2.2.2.2.2.2.2.2.2.2.2.2.2.2.2.2.2.2.2.2.2.2.2.2.2.2.2.2.2.2.2.1 = P 2 ∧ S.2.2.2.2.2.2.2.2.2.2.2.2.2.2.2.2.2.2.2.2.2.2.2.2.2.2.2.2.2.2.2.2.2.2.2.2.2.2.2.2.2.2.2.2.2.2.2.2.2.2.2.2.2.2.2.2.2.2.2.2.2.2.2.2.2.2.2.2.2.1 = W 3 ∧ S.2.2.2.2.2.2.2.2.2.2.2.2.2.2.2.2.2.2.2.2.2.2.2.2.2.2.2.2.2.2.2.2.2.2.2.2.2.2.2.2.2.2.2.2.2.2.2.2.2.2.2.2.2.2.2.2.2.2.2.2.2.2.2.2.2.2.2.2.2.2.1 = Hh 3 ∧ S.2.2.2.2.2.2.2.2.2.2.2.2.2.2.2.2.2.2.2.2.2.2.2.2.2.2.2.2.2.2.2.2.2.2.2.2.2.2.2.2.2.2.2.2.2.2.2.2.2.2.2.2.2.2.2.2.2.2.2.2.2.2.2.2.2.2.2.2.2.2.2.1 = P 3
def rM (S : MRS) (Wm Hm : Nat → Int32) (Q : Nat → Nat → Int32) : Prop := S.2.2.2.2.2.2.2.2.2.2.2.2.2.2.1 = Wm ∧ S.2.2.2.2.2.2.2.2.2.2.2.2.2.2.2.1 = Hm ∧ S.2.2.2.2.2.2.2.2.2.2.2.2.2.2.2.2.2.1 = Q 3 ∧ S.2.2.2.2.2.2.2.2.2.2.2.2.2.2.2.2.2.2.1 = Q 2 ∧ S.2.2.2.2.2.2.2.2.2.2.2.2.2.2.2.2.2.2.2.1 = Q 1 ∧ S.2.2.2.2.2.2.2.2.2.2.2.2.2.2.2.2.2.2.2.2.1 = Q 0
/-- the outcomes of read, side by side -/
def rdR (n : Nat) (T W Hh Wm Hm : Nat → Int32) (P Q : Nat → Nat → Int32) (r : Option ((Int32 × DRS) ⊕ (Nat × DRS))) (r' : Option (Int32 × MRS)) : Prop := (∃ (v : Int32) (S : DRS) (S' : MRS) (W' H' Wm' Hm' : Nat → Int32) (P' Q' : Nat → Nat → Int32), r = some (.inl (v, S)) ∧ r' = some (v, S') ∧ S.1 = 0 ∧ S'.1 = 0 ∧ S'.2.1 = 0 ∧ rD S W' H' P' ∧ rM S' Wm' Hm' Q' ∧ SlR W' H' Wm' Hm' P' Q') ∨ (∃ (k : Nat) (S : DRS) (S' : MRS), (k = 3 ∨ k = 4) ∧ r = some (.inr (k, S)) ∧ r' = some (0, S') ∧ S'.1 = nI (k - 1) ∧ S.1 = 0 ∧ S'.2.1 = 0 ∧ rD S W Hh P ∧ rM S' Wm Hm Q) ∨ (∃ (S : DRS) (S' : MRS), r = some (.inr (1, S)) ∧ r' = some (0, S') ∧ S'.1 = 1 ∧ S.1 = nI n ∧ S.2.2.2.2.2.2.2.1 = T ∧ S'.2.1 = nI n ∧ rD S W Hh P ∧ rM S' Wm Hm Q)
theorem rd_fin {n : Nat} {T W Hh Wm Hm : Nat → Int32} {P Q : Nat → Nat → Int32} {α ε α' ε' : Type} {R : α → α' → Prop} {m : Option (α ⊕ (Nat × ε))} {m' : Option (α' ⊕ (Nat × ε'))} {F : α → Option ((Int32 × DRS) ⊕ (Nat × DRS))} {G : Nat × ε → Option ((Int32 × DRS) ⊕ (Nat × DRS))} {F' : α' → Option (Int32 × MRS)} {G' : Nat × ε' → Option (Int32 × MRS)} (h : Lr R m m') (h3 : ∀ u v, rdR n T W Hh Wm Hm P Q (G (3, u)) (G' (3, v))) (h4 : ∀ u v, rdR n T W Hh Wm Hm P Q (G (4, u)) (G' (4, v))) (hok : ∀ x y, R x y → rdR n T W Hh Wm Hm P Q (F x) (F' y)) : rdR n T W Hh Wm Hm P Q (dc_try m F G) (dc_try m' F' G') := by
  rcases h with ⟨⟨u, hu⟩, ⟨v, hv⟩⟩ | ⟨⟨u, hu⟩, ⟨v, hv⟩⟩ | ⟨x, y, hx, hy, hR⟩
  · rw [hu, hv, q_tryR, q_tryR]
    exact h3 u v
  · rw [hu, hv, q_tryR, q_tryR]
    exact h4 u v
  · rw [hx, hy, q_tryL, q_tryL]
    exact hok x y hR
theorem copM {K w h k : Nat} (hK : 16384 < K) (hk : k < 4) (hwh : w * h ≤ 16384) (Q : Nat → Nat → Int32) (Mp : Nat → Int32) {Wm Hm : Nat → Int32} {t_failed : Int32} {t_taped : Int32} {t_at : Int32} {t_depth : Int32} {t_kind : Int32} {t_interlace : Int32} {t_colours : Int32} {t_clear : Int32} {t_dataSize : Int32} {t_bitAt : Int32} {t_rowBytes : Int32} {t_expected : Int32} {a_t_tape : Nat → Int32} {a_t_palette : Nat → Int32} {a_t_data : Nat → Int32} {a_t_rows : Nat → Int32} {a_t_lengths : Nat → Int32} {t_literals_all : Int32} {a_t_literals_counts : Nat → Int32} {a_t_literals_meanings : Nat → Int32} {t_distances_all : Int32} {a_t_distances_counts : Nat → Int32} {a_t_distances_meanings : Nat → Int32} {t_lengthCodes_all : Int32} {a_t_lengthCodes_counts : Nat → Int32} {a_t_lengthCodes_meanings : Nat → Int32} {a_t_clearKey : Nat → Int32} {a_t_own : Nat → Int32} {a_t_before : Nat → Int32} {a_t_lastIndex : Nat → Int32} {a_t_deep : Nat → Int32} {x2 : Int32} : (f_M_read_L177 K t_failed t_taped t_at (nI w) (nI h) t_depth t_kind t_interlace t_colours t_clear t_dataSize t_bitAt t_rowBytes t_expected Wm Hm Mp a_t_tape a_t_palette a_t_data a_t_rows a_t_lengths t_literals_all a_t_literals_counts a_t_literals_meanings t_distances_all a_t_distances_counts a_t_distances_meanings t_lengthCodes_all a_t_lengthCodes_counts a_t_lengthCodes_meanings a_t_clearKey a_t_own a_t_before a_t_lastIndex a_t_deep (nI k) x2 K (Q 3) (Q 2) (Q 1) (Q 0) 0) = some (t4 (up4 Q k (mp (fun j _ => Mp j) (Q k) (w * h)))) := by
  refine loop_m4 (c := w * h) (k := k) (fun q s x => (f_M_read_L177 K t_failed t_taped t_at (nI w) (nI h) t_depth t_kind t_interlace t_colours t_clear t_dataSize t_bitAt t_rowBytes t_expected Wm Hm Mp a_t_tape a_t_palette a_t_data a_t_rows a_t_lengths t_literals_all a_t_literals_counts a_t_literals_meanings t_distances_all a_t_distances_counts a_t_distances_meanings t_lengthCodes_all a_t_lengthCodes_counts a_t_lengthCodes_meanings a_t_clearKey a_t_own a_t_before a_t_lastIndex a_t_deep (nI k) x2 q s.1 s.2.1 s.2.2.1 s.2.2.2 x)) (fun j _ => Mp j) Q (fun q s => ?_) (fun q j hj => ?_) (by omega)
  · show (f_M_read_177 K _ t_failed t_taped t_at (nI w) (nI h) t_depth t_kind t_interlace t_colours t_clear t_dataSize t_bitAt t_rowBytes t_expected Wm Hm Mp s.1 s.2.1 s.2.2.1 s.2.2.2 a_t_tape a_t_palette a_t_data a_t_rows a_t_lengths t_literals_all a_t_literals_counts a_t_literals_meanings t_distances_all a_t_distances_counts a_t_distances_meanings t_lengthCodes_all a_t_lengthCodes_counts a_t_lengthCodes_meanings a_t_clearKey a_t_own a_t_before a_t_lastIndex a_t_deep (nI k) x2 (nI (w * h))) = _
    unfold f_M_read_177
    rw [pk_mul, if_pos (nI_le (by omega) (by omega))]
  · generalize hs : up4 Q k (mp (fun j _ => Mp j) (Q k) j) = s
    have hs2 : up4 Q k (upd (mp (fun j _ => Mp j) (Q k) j) j (Mp j)) = up4 s k (upd (s k) j (Mp j)) := by
      funext i
      by_cases c : i = k
      · subst c; rw [up4_at, up4_at, ← hs, up4_at]
      · rw [up4_ne _ _ c, up4_ne _ _ c, ← hs, up4_ne _ _ c]
    show _ = (f_M_read_L177 K t_failed t_taped t_at (nI w) (nI h) t_depth t_kind t_interlace t_colours t_clear t_dataSize t_bitAt t_rowBytes t_expected Wm Hm Mp a_t_tape a_t_palette a_t_data a_t_rows a_t_lengths t_literals_all a_t_literals_counts a_t_literals_meanings t_distances_all a_t_distances_counts a_t_distances_meanings t_lengthCodes_all a_t_lengthCodes_counts a_t_lengthCodes_meanings a_t_clearKey a_t_own a_t_before a_t_lastIndex a_t_deep (nI k) x2 q (up4 Q k (upd (mp (fun j _ => Mp j) (Q k) j) j (Mp j)) 3) (up4 Q k (upd (mp (fun j _ => Mp j) (Q k) j) j (Mp j)) 2) (up4 Q k (upd (mp (fun j _ => Mp j) (Q k) j) j (Mp j)) 1) (up4 Q k (upd (mp (fun j _ => Mp j) (Q k) j) j (Mp j)) 0) (nI (j + 1)))
    rw [hs2]
    show (f_M_read_177 K _ t_failed t_taped t_at (nI w) (nI h) t_depth t_kind t_interlace t_colours t_clear t_dataSize t_bitAt t_rowBytes t_expected Wm Hm Mp (s 3) (s 2) (s 1) (s 0) a_t_tape a_t_palette a_t_data a_t_rows a_t_lengths t_literals_all a_t_literals_counts a_t_literals_meanings t_distances_all a_t_distances_counts a_t_distances_meanings t_lengthCodes_all a_t_lengthCodes_counts a_t_lengthCodes_meanings a_t_clearKey a_t_own a_t_before a_t_lastIndex a_t_deep (nI k) x2 (nI j)) = _
    unfold f_M_read_177 f_M_read_204
    rw [pk_mul, if_neg (nI_ge (by omega) (by omega))]
    match k, hk with
    | 0, _ =>
      rw [if_pos n00, if_pos (q_inb (by omega) (by omega)), if_pos (q_inb (by omega) (by omega)), nI_clamp (by omega), nI_1]
      rfl
    | 1, _ =>
      rw [if_neg n10, if_pos n11, if_pos (q_inb (by omega) (by omega)), if_pos (q_inb (by omega) (by omega)), nI_clamp (by omega), nI_1]
      rfl
    | 2, _ =>
      rw [if_neg n20, if_neg n21, if_pos n22, if_pos (q_inb (by omega) (by omega)), if_pos (q_inb (by omega) (by omega)), nI_clamp (by omega), nI_1]
      rfl
    | 3, _ =>
      rw [if_neg n30, if_neg n31, if_neg n32, if_pos n33, if_pos (q_inb (by omega) (by omega)), if_pos (q_inb (by omega) (by omega)), nI_clamp (by omega), nI_1]
      rfl
    | k + 4, h => exact absurd h (by omega)
def upN (f : Nat → Int32) (k : Nat) (x : Int32) : Nat → Int32 := upd f k x
theorem SlR_new {W Hh Wm Hm : Nat → Int32} {P Q : Nat → Nat → Int32} (hR : SlR W Hh Wm Hm P Q) {k w h : Nat} {Dp Mp : Nat → Int32} (hP : PicR w h Dp Mp) : SlR (upd W k (nI w)) (upd Hh k (nI h)) (upd Wm k (nI w)) (upd Hm k (nI h)) (up4 P k Dp) (up4 Q k (mp (fun j _ => Mp j) (Q k) (w * h))) := by
  obtain ⟨hw0, hh0, hwh, hA⟩ := hP
  intro j hj
  by_cases e : j = k
  · subst e
    refine ⟨w, h, Nat.le_trans (Nat.le_mul_of_pos_right w hh0) hwh, Nat.le_trans (Nat.le_mul_of_pos_left h hw0) hwh, hwh, Or.inr hh0, upd_at _ _ _, upd_at _ _ _, upd_at _ _ _, upd_at _ _ _, fun i hi => ?_⟩
    rw [up4_at, up4_at, mp_lt _ _ hi]
    exact (hA i hi).symm
  · obtain ⟨w', h', a1, a2, a3, a4, a5, a6, a7, a8, a9⟩ := hR j hj
    refine ⟨w', h', a1, a2, a3, a4, by rw [upd_ne _ _ e]; exact a5, by rw [upd_ne _ _ e]; exact a6, by rw [upd_ne _ _ e]; exact a7, by rw [upd_ne _ _ e]; exact a8, fun i hi => ?_⟩
    rw [up4_ne _ _ e, up4_ne _ _ e]
    exact a9 i hi
theorem rd_ok {K n k w h : Nat} (hK : 16384 < K) (hk : k < 4) {T W Hh Wm Hm Dp Mp : Nat → Int32} {P Q : Nat → Nat → Int32} (hR : SlR W Hh Wm Hm P Q) (hP : PicR w h Dp Mp) {sw sh mw mh v : Int32} {sp mq : Nat → Int32} (e1 : sw = nI w) (e2 : sh = nI h) (e3 : sp = Dp) (e4 : mw = nI w) (e5 : mh = nI h) (e6 : mq = Mp) {dtape : Nat → Int32} {t_source_at : Int32} {t_source_stop : Int32} {t_source_bitStore : Int32} {t_source_bitsHeld : Int32} {t_source_gatheredFrom : Int32} {t_source_gatheredTo : Int32} {t_pngReader_colours : Int32} {t_pngReader_hasTransparency : Int32} {t_pngReader_depth : Int32} {t_pngReader_kind : Int32} {t_pngReader_isInterlaced : Int32} {t_pngReader_stage : Int32} {t_pngReader_partLength : Int32} {t_pngReader_partCrc : Int32} {a_t_pngReader_palette : Nat → Int32} {a_t_pngReader_key : Nat → Int32} {t_pngReader_packed_at : Int32} {t_pngReader_packed_stop : Int32} {t_pngReader_packed_bitStore : Int32} {t_pngReader_packed_bitsHeld : Int32} {t_pngReader_inflater_made : Int32} {t_pngReader_inflater_due : Int32} {a_t_pngReader_rows : Nat → Int32} {a_t_pngReader_inflater_lengths : Nat → Int32} {t_pngReader_inflater_literals_used : Int32} {t_pngReader_inflater_literals_unusedWords : Int32} {a_t_pngReader_inflater_literals_counts : Nat → Int32} {a_t_pngReader_inflater_literals_places : Nat → Int32} {a_t_pngReader_inflater_literals_meanings : Nat → Int32} {t_pngReader_inflater_distances_used : Int32} {t_pngReader_inflater_distances_unusedWords : Int32} {a_t_pngReader_inflater_distances_counts : Nat → Int32} {a_t_pngReader_inflater_distances_places : Nat → Int32} {a_t_pngReader_inflater_distances_meanings : Nat → Int32} {t_pngReader_inflater_lengthCodes_used : Int32} {t_pngReader_inflater_lengthCodes_unusedWords : Int32} {a_t_pngReader_inflater_lengthCodes_counts : Nat → Int32} {a_t_pngReader_inflater_lengthCodes_places : Nat → Int32} {a_t_pngReader_inflater_lengthCodes_meanings : Nat → Int32} {t_gifReader_colours : Int32} {t_gifReader_transparent : Int32} {t_gifReader_made : Int32} {a_t_gifReader_table : Nat → Int32} {a_t_gifReader_rowStarts : Nat → Int32} {a_t_gifReader_rowLengths : Nat → Int32} {a_t_gifReader_indices : Nat → Int32} {a_t_gifReader_order : Nat → Int32} {t_bmpFiles_colours : Int32} {t_bmpFiles_depth : Int32} {t_bmpFiles_isFromTop : Int32} {t_bmpFiles_hasRuns : Int32} {t_bmpFiles_start : Int32} {t_bmpFiles_column : Int32} {t_bmpFiles_line : Int32} {a_t_bmpFiles_palette : Nat → Int32} {h_t_slots_0 : Nat} {h_t_slots_0_points : Nat} {h_t_slots_1 : Nat} {h_t_slots_1_points : Nat} {h_t_slots_2 : Nat} {h_t_slots_2_points : Nat} {h_t_slots_3 : Nat} {h_t_slots_3_points : Nat} {h_t_spare : Nat} {h_t_spare_points : Nat} {t_taped : Int32} {t_at : Int32} {t_depth : Int32} {t_kind : Int32} {t_interlace : Int32} {t_colours : Int32} {t_clear : Int32} {t_dataSize : Int32} {t_bitAt : Int32} {t_rowBytes : Int32} {t_expected : Int32} {a_t_tape : Nat → Int32} {a_t_palette : Nat → Int32} {a_t_data : Nat → Int32} {a_t_rows : Nat → Int32} {a_t_lengths : Nat → Int32} {t_literals_all : Int32} {a_t_literals_counts : Nat → Int32} {a_t_literals_meanings : Nat → Int32} {t_distances_all : Int32} {a_t_distances_counts : Nat → Int32} {a_t_distances_meanings : Nat → Int32} {t_lengthCodes_all : Int32} {a_t_lengthCodes_counts : Nat → Int32} {a_t_lengthCodes_meanings : Nat → Int32} {a_t_clearKey : Nat → Int32} {a_t_own : Nat → Int32} {a_t_before : Nat → Int32} {a_t_lastIndex : Nat → Int32} {a_t_deep : Nat → Int32} : rdR n T W Hh Wm Hm P Q (f_D_read_80 K 288 32 19 0 t_source_at t_source_stop t_source_bitStore t_source_bitsHeld t_source_gatheredFrom t_source_gatheredTo dtape t_pngReader_colours t_pngReader_hasTransparency t_pngReader_depth t_pngReader_kind t_pngReader_isInterlaced t_pngReader_stage t_pngReader_partLength t_pngReader_partCrc sw sh a_t_pngReader_palette a_t_pngReader_key t_pngReader_packed_at t_pngReader_packed_stop t_pngReader_packed_bitStore t_pngReader_packed_bitsHeld t_pngReader_inflater_made t_pngReader_inflater_due a_t_pngReader_rows a_t_pngReader_inflater_lengths t_pngReader_inflater_literals_used t_pngReader_inflater_literals_unusedWords a_t_pngReader_inflater_literals_counts a_t_pngReader_inflater_literals_places a_t_pngReader_inflater_literals_meanings t_pngReader_inflater_distances_used t_pngReader_inflater_distances_unusedWords a_t_pngReader_inflater_distances_counts a_t_pngReader_inflater_distances_places a_t_pngReader_inflater_distances_meanings t_pngReader_inflater_lengthCodes_used t_pngReader_inflater_lengthCodes_unusedWords a_t_pngReader_inflater_lengthCodes_counts a_t_pngReader_inflater_lengthCodes_places a_t_pngReader_inflater_lengthCodes_meanings sp t_gifReader_colours t_gifReader_transparent t_gifReader_made a_t_gifReader_table a_t_gifReader_rowStarts a_t_gifReader_rowLengths a_t_gifReader_indices a_t_gifReader_order t_bmpFiles_colours t_bmpFiles_depth t_bmpFiles_isFromTop t_bmpFiles_hasRuns t_bmpFiles_start t_bmpFiles_column t_bmpFiles_line a_t_bmpFiles_palette (W 0) (Hh 0) (P 0) (W 1) (Hh 1) (P 1) (W 2) (Hh 2) (P 2) (W 3) (Hh 3) (P 3) h_t_slots_0 h_t_slots_0_points h_t_slots_1 h_t_slots_1_points h_t_slots_2 h_t_slots_2_points h_t_slots_3 h_t_slots_3_points h_t_spare h_t_spare_points (nI k) v) (f_M_read_141 K 0 t_taped t_at mw mh t_depth t_kind t_interlace t_colours t_clear t_dataSize t_bitAt t_rowBytes t_expected Wm Hm mq (Q 3) (Q 2) (Q 1) (Q 0) a_t_tape a_t_palette a_t_data a_t_rows a_t_lengths t_literals_all a_t_literals_counts a_t_literals_meanings t_distances_all a_t_distances_counts a_t_distances_meanings t_lengthCodes_all a_t_lengthCodes_counts a_t_lengthCodes_meanings a_t_clearKey a_t_own a_t_before a_t_lastIndex a_t_deep (nI k) v) := by
  subst e1 e2 e3 e4 e5 e6
  have hwh := hP.2.2.1
  unfold f_M_read_141
  rw [if_pos (show (0 : Int32) = 0 from rfl), if_pos (q_inb hk (by omega)), if_pos (q_inb hk (by omega)), nI_clamp (by omega), copM hK hk hwh, q_bind]
  have hS := SlR_new hR (k := k) hP
  unfold f_D_read_80
  match k, hk with
  | 0, _ =>
    rw [if_pos n00]
    exact Or.inl ⟨v, _, _, upd W 0 (nI w), upd Hh 0 (nI h), upd Wm 0 (nI w), upd Hm 0 (nI h), up4 P 0 sp, up4 Q 0 (mp (fun j _ => mq j) (Q 0) (w * h)), rfl, rfl, rfl, rfl, rfl, ⟨((upd_at _ _ _).symm), ((upd_at _ _ _).symm), ((up4_at _ _ _).symm), ((upd_ne _ _ (by decide)).symm), ((upd_ne _ _ (by decide)).symm), ((up4_ne _ _ (by decide)).symm), ((upd_ne _ _ (by decide)).symm), ((upd_ne _ _ (by decide)).symm), ((up4_ne _ _ (by decide)).symm), ((upd_ne _ _ (by decide)).symm), ((upd_ne _ _ (by decide)).symm), ((up4_ne _ _ (by decide)).symm)⟩, ⟨rfl, rfl, rfl, rfl, rfl, rfl⟩, hS⟩
  | 1, _ =>
    rw [if_neg n10, if_pos n11]
    exact Or.inl ⟨v, _, _, upd W 1 (nI w), upd Hh 1 (nI h), upd Wm 1 (nI w), upd Hm 1 (nI h), up4 P 1 sp, up4 Q 1 (mp (fun j _ => mq j) (Q 1) (w * h)), rfl, rfl, rfl, rfl, rfl, ⟨((upd_ne _ _ (by decide)).symm), ((upd_ne _ _ (by decide)).symm), ((up4_ne _ _ (by decide)).symm), ((upd_at _ _ _).symm), ((upd_at _ _ _).symm), ((up4_at _ _ _).symm), ((upd_ne _ _ (by decide)).symm), ((upd_ne _ _ (by decide)).symm), ((up4_ne _ _ (by decide)).symm), ((upd_ne _ _ (by decide)).symm), ((upd_ne _ _ (by decide)).symm), ((up4_ne _ _ (by decide)).symm)⟩, ⟨rfl, rfl, rfl, rfl, rfl, rfl⟩, hS⟩
  | 2, _ =>
    rw [if_neg n20, if_neg n21, if_pos n22]
    exact Or.inl ⟨v, _, _, upd W 2 (nI w), upd Hh 2 (nI h), upd Wm 2 (nI w), upd Hm 2 (nI h), up4 P 2 sp, up4 Q 2 (mp (fun j _ => mq j) (Q 2) (w * h)), rfl, rfl, rfl, rfl, rfl, ⟨((upd_ne _ _ (by decide)).symm), ((upd_ne _ _ (by decide)).symm), ((up4_ne _ _ (by decide)).symm), ((upd_ne _ _ (by decide)).symm), ((upd_ne _ _ (by decide)).symm), ((up4_ne _ _ (by decide)).symm), ((upd_at _ _ _).symm), ((upd_at _ _ _).symm), ((up4_at _ _ _).symm), ((upd_ne _ _ (by decide)).symm), ((upd_ne _ _ (by decide)).symm), ((up4_ne _ _ (by decide)).symm)⟩, ⟨rfl, rfl, rfl, rfl, rfl, rfl⟩, hS⟩
  | 3, _ =>
    rw [if_neg n30, if_neg n31, if_neg n32, if_pos n33]
    exact Or.inl ⟨v, _, _, upd W 3 (nI w), upd Hh 3 (nI h), upd Wm 3 (nI w), upd Hm 3 (nI h), up4 P 3 sp, up4 Q 3 (mp (fun j _ => mq j) (Q 3) (w * h)), rfl, rfl, rfl, rfl, rfl, ⟨((upd_ne _ _ (by decide)).symm), ((upd_ne _ _ (by decide)).symm), ((up4_ne _ _ (by decide)).symm), ((upd_ne _ _ (by decide)).symm), ((upd_ne _ _ (by decide)).symm), ((up4_ne _ _ (by decide)).symm), ((upd_ne _ _ (by decide)).symm), ((upd_ne _ _ (by decide)).symm), ((up4_ne _ _ (by decide)).symm), ((upd_at _ _ _).symm), ((upd_at _ _ _).symm), ((up4_at _ _ _).symm)⟩, ⟨rfl, rfl, rfl, rfl, rfl, rfl⟩, hS⟩
  | k + 4, h => exact absurd h (by omega)
theorem by_137 {x : Int32} (h : q_by x = x) : x = -119 ↔ x.toBitVec.toNat % 256 = 137 := by
  constructor
  · intro e
    rw [e]
    decide
  · intro e
    have e2 : q_by x = q_by (nI 137) := q_by_ext (fun i hi => by
      rw [bt_nI _ _ (by omega), ← e, show (256 : Nat) = 2 ^ 8 from rfl, Nat.testBit_mod_two_pow, decide_eq_true hi, Bool.true_and]
      rfl)
    rw [← h, e2]
    decide
theorem read_ok {K n : Nat} (hK : 2000000 < K) (hn : n ≤ 65536) (x1 : Int32) {W Hh Wm Hm T TM : Nat → Int32} {P Q : Nat → Nat → Int32} (hR : SlR W Hh Wm Hm P Q) (hT : ∀ j, j < n → T j = TM j) (hB : Bt n T) {t_source_at : Int32} {t_source_stop : Int32} {t_source_bitStore : Int32} {t_source_bitsHeld : Int32} {t_source_gatheredFrom : Int32} {t_source_gatheredTo : Int32} {t_pngReader_colours : Int32} {t_pngReader_hasTransparency : Int32} {t_pngReader_depth : Int32} {t_pngReader_kind : Int32} {t_pngReader_isInterlaced : Int32} {t_pngReader_stage : Int32} {t_pngReader_partLength : Int32} {t_pngReader_partCrc : Int32} {t_spare_width : Int32} {t_spare_height : Int32} {a_t_pngReader_palette : Nat → Int32} {a_t_pngReader_key : Nat → Int32} {t_pngReader_packed_at : Int32} {t_pngReader_packed_stop : Int32} {t_pngReader_packed_bitStore : Int32} {t_pngReader_packed_bitsHeld : Int32} {t_pngReader_inflater_made : Int32} {t_pngReader_inflater_due : Int32} {a_t_pngReader_rows : Nat → Int32} {a_t_pngReader_inflater_lengths : Nat → Int32} {t_pngReader_inflater_literals_used : Int32} {t_pngReader_inflater_literals_unusedWords : Int32} {a_t_pngReader_inflater_literals_counts : Nat → Int32} {a_t_pngReader_inflater_literals_places : Nat → Int32} {a_t_pngReader_inflater_literals_meanings : Nat → Int32} {t_pngReader_inflater_distances_used : Int32} {t_pngReader_inflater_distances_unusedWords : Int32} {a_t_pngReader_inflater_distances_counts : Nat → Int32} {a_t_pngReader_inflater_distances_places : Nat → Int32} {a_t_pngReader_inflater_distances_meanings : Nat → Int32} {t_pngReader_inflater_lengthCodes_used : Int32} {t_pngReader_inflater_lengthCodes_unusedWords : Int32} {a_t_pngReader_inflater_lengthCodes_counts : Nat → Int32} {a_t_pngReader_inflater_lengthCodes_places : Nat → Int32} {a_t_pngReader_inflater_lengthCodes_meanings : Nat → Int32} {a_t_spare_points : Nat → Int32} {t_gifReader_colours : Int32} {t_gifReader_transparent : Int32} {t_gifReader_made : Int32} {a_t_gifReader_table : Nat → Int32} {a_t_gifReader_rowStarts : Nat → Int32} {a_t_gifReader_rowLengths : Nat → Int32} {a_t_gifReader_indices : Nat → Int32} {a_t_gifReader_order : Nat → Int32} {t_bmpFiles_colours : Int32} {t_bmpFiles_depth : Int32} {t_bmpFiles_isFromTop : Int32} {t_bmpFiles_hasRuns : Int32} {t_bmpFiles_start : Int32} {t_bmpFiles_column : Int32} {t_bmpFiles_line : Int32} {a_t_bmpFiles_palette : Nat → Int32} {h_t_slots_0 : Nat} {h_t_slots_0_points : Nat} {h_t_slots_1 : Nat} {h_t_slots_1_points : Nat} {h_t_slots_2 : Nat} {h_t_slots_2_points : Nat} {h_t_slots_3 : Nat} {h_t_slots_3_points : Nat} {h_t_spare : Nat} {h_t_spare_points : Nat} {t_failed : Int32} {t_at : Int32} {t_width : Int32} {t_height : Int32} {t_depth : Int32} {t_kind : Int32} {t_interlace : Int32} {t_colours : Int32} {t_clear : Int32} {t_dataSize : Int32} {t_bitAt : Int32} {t_rowBytes : Int32} {t_expected : Int32} {a_t_points : Nat → Int32} {a_t_palette : Nat → Int32} {a_t_data : Nat → Int32} {a_t_rows : Nat → Int32} {a_t_lengths : Nat → Int32} {t_literals_all : Int32} {a_t_literals_counts : Nat → Int32} {a_t_literals_meanings : Nat → Int32} {t_distances_all : Int32} {a_t_distances_counts : Nat → Int32} {a_t_distances_meanings : Nat → Int32} {t_lengthCodes_all : Int32} {a_t_lengthCodes_counts : Nat → Int32} {a_t_lengthCodes_meanings : Nat → Int32} {a_t_clearKey : Nat → Int32} {a_t_own : Nat → Int32} {a_t_before : Nat → Int32} {a_t_lastIndex : Nat → Int32} {a_t_deep : Nat → Int32} : rdR n T W Hh Wm Hm P Q (f_D_read K 288 32 19 x1 (nI n) t_source_at t_source_stop t_source_bitStore t_source_bitsHeld t_source_gatheredFrom t_source_gatheredTo T t_pngReader_colours t_pngReader_hasTransparency t_pngReader_depth t_pngReader_kind t_pngReader_isInterlaced t_pngReader_stage t_pngReader_partLength t_pngReader_partCrc t_spare_width t_spare_height a_t_pngReader_palette a_t_pngReader_key t_pngReader_packed_at t_pngReader_packed_stop t_pngReader_packed_bitStore t_pngReader_packed_bitsHeld t_pngReader_inflater_made t_pngReader_inflater_due a_t_pngReader_rows a_t_pngReader_inflater_lengths t_pngReader_inflater_literals_used t_pngReader_inflater_literals_unusedWords a_t_pngReader_inflater_literals_counts a_t_pngReader_inflater_literals_places a_t_pngReader_inflater_literals_meanings t_pngReader_inflater_distances_used t_pngReader_inflater_distances_unusedWords a_t_pngReader_inflater_distances_counts a_t_pngReader_inflater_distances_places a_t_pngReader_inflater_distances_meanings t_pngReader_inflater_lengthCodes_used t_pngReader_inflater_lengthCodes_unusedWords a_t_pngReader_inflater_lengthCodes_counts a_t_pngReader_inflater_lengthCodes_places a_t_pngReader_inflater_lengthCodes_meanings a_t_spare_points t_gifReader_colours t_gifReader_transparent t_gifReader_made a_t_gifReader_table a_t_gifReader_rowStarts a_t_gifReader_rowLengths a_t_gifReader_indices a_t_gifReader_order t_bmpFiles_colours t_bmpFiles_depth t_bmpFiles_isFromTop t_bmpFiles_hasRuns t_bmpFiles_start t_bmpFiles_column t_bmpFiles_line a_t_bmpFiles_palette (W 0) (Hh 0) (P 0) (W 1) (Hh 1) (P 1) (W 2) (Hh 2) (P 2) (W 3) (Hh 3) (P 3) h_t_slots_0 h_t_slots_0_points h_t_slots_1 h_t_slots_1_points h_t_slots_2 h_t_slots_2_points h_t_slots_3 h_t_slots_3_points h_t_spare h_t_spare_points) (f_M_read K x1 t_failed (nI n) t_at t_width t_height t_depth t_kind t_interlace t_colours t_clear t_dataSize t_bitAt t_rowBytes t_expected Wm Hm a_t_points (Q 3) (Q 2) (Q 1) (Q 0) TM a_t_palette a_t_data a_t_rows a_t_lengths t_literals_all a_t_literals_counts a_t_literals_meanings t_distances_all a_t_distances_counts a_t_distances_meanings t_lengthCodes_all a_t_lengthCodes_counts a_t_lengthCodes_meanings a_t_clearKey a_t_own a_t_before a_t_lastIndex a_t_deep) := by
  unfold f_D_read f_M_read
  rcases slot_cases x1 with hx | ⟨k, hk, rfl⟩
  · rw [slot_no hx, q_tryR]
    unfold f_M_read_14 f_M_fail
    by_cases h0 : x1 < 0
    · rw [if_pos h0, q_bind]
      exact Or.inr (Or.inr ⟨_, _, rfl, rfl, rfl, rfl, rfl, rfl, ⟨rfl, rfl, rfl, rfl, rfl, rfl, rfl, rfl, rfl, rfl, rfl, rfl⟩, ⟨rfl, rfl, rfl, rfl, rfl, rfl⟩⟩)
    · rw [if_neg h0, if_neg (show ¬ x1 ≤ 3 from fun z => by
        have h4 : nI 4 ≤ x1 := hx.resolve_left h0
        have := Int32.le_trans h4 z
        exact absurd this (by decide)), q_bind]
      exact Or.inr (Or.inr ⟨_, _, rfl, rfl, rfl, rfl, rfl, rfl, ⟨rfl, rfl, rfl, rfl, rfl, rfl, rfl, rfl, rfl, rfl, rfl, rfl⟩, ⟨rfl, rfl, rfl, rfl, rfl, rfl⟩⟩)
  have hBM : Bt n TM := fun j hj => by rw [← hT j hj]; exact hB j hj
  have ht : Tb n T (tv T) := ⟨fun _ _ => rfl, tv_lt T⟩
  have htM : Tb n TM (tv T) := ⟨fun j hj => (tv_eq (hT j hj)).symm, tv_lt T⟩
  unfold f_Source_open f_Source_dropBits
  rw [slot_ok hk, q_tryL, q_bind, q_bind, if_neg (nI_pos (show k < 2 ^ 31 by omega)), if_pos (show nI k ≤ 3 from nI_le (b := 3) (by omega) (by omega))]
  dsimp only
  rw [if_neg (show ¬ (0 : Int32) < 0 by decide), if_neg (show ¬ (65536 : Int32) < nI n from nI_nlt (a := 65536) (by omega) (by omega))]
  unfold f_Source_first f_Source_first_28
  have i0 : inb 0 65536 = true := q_inb (i := 0) (by omega) (by omega)
  have hbM : ∀ (r : Option ((Int32 × DRS) ⊕ (Nat × DRS))) (S : DRS), r = some (.inr (3, S)) → S.1 = 0 → rD S W Hh P → rdR n T W Hh Wm Hm P Q r (f_M_read_82 K 0 (nI n) 0 t_width t_height t_depth t_kind t_interlace t_colours t_clear t_dataSize t_bitAt t_rowBytes t_expected Wm Hm a_t_points (Q 3) (Q 2) (Q 1) (Q 0) TM a_t_palette a_t_data a_t_rows a_t_lengths t_literals_all a_t_literals_counts a_t_literals_meanings t_distances_all a_t_distances_counts a_t_distances_meanings t_lengthCodes_all a_t_lengthCodes_counts a_t_lengthCodes_meanings a_t_clearKey a_t_own a_t_before a_t_lastIndex a_t_deep (nI k) ((-1))) := by
    intro r S hr h1 h2
    unfold f_M_read_82 f_M_read_93 f_M_read_141
    rw [if_pos (show (-1 : Int32) < 0 by decide), can0, q_tryR, if_pos (show (3 : Nat) = 3 from rfl), if_neg (show ¬ (2 : Int32) = 0 by decide), hr]
    exact Or.inr (Or.inl ⟨3, S, _, Or.inl rfl, rfl, rfl, rfl, h1, rfl, h2, ⟨rfl, rfl, rfl, rfl, rfl, rfl⟩⟩)
  by_cases n0 : n = 0
  · rw [if_pos (show nI n ≤ 0 from nI_le (b := 0) (by omega) (by omega)), q_bind, if_pos (show nI n = 0 by rw [n0]; rfl), show f_D_formatOf (-1) = some (.inr (3, ())) from rfl, q_tryR]
    exact hbM _ _ rfl rfl ⟨rfl, rfl, rfl, rfl, rfl, rfl, rfl, rfl, rfl, rfl, rfl, rfl⟩
  have hb0 : q_by (TM 0) = TM 0 := hBM 0 (by omega)
  have ev : (TM 0).toBitVec.toNat % 256 = tv T 0 := (tv_eq (hT 0 (by omega))).symm
  have c1 : TM (Int32.toNatClampNeg 0) = -119 ↔ tv T 0 = 137 := by
    rw [← ev]
    exact by_137 hb0
  have c2 : TM (Int32.toNatClampNeg 0) = 71 ↔ tv T 0 = 71 := by
    rw [← ev]
    exact by_eq hb0 (c := 71) (by omega)
  have c3 : TM (Int32.toNatClampNeg 0) = 66 ↔ tv T 0 = 66 := by
    rw [← ev]
    exact by_eq hb0 (c := 66) (by omega)
  have eT : T (Int32.toNatClampNeg 0) &&& 255 = nI (tv T 0) := tv_ok T 0
  have hv := tv_lt T 0
  rw [if_neg (show ¬ nI n ≤ 0 from nI_ge (a := 0) (by omega) (by omega)), if_pos i0, q_bind, if_neg (show ¬ nI n = 0 from nI_ne0 (by omega) (by omega)), if_pos i0, if_pos i0, if_pos i0, eT]
  dsimp only
  by_cases f1 : tv T 0 = 137
  · rw [if_pos (c1.mpr f1), f1, show f_D_formatOf (nI 137) = some (.inl (0, ())) from rfl, q_tryL, if_pos (show (0 : Int32) = 0 from rfl)]
    unfold f_M_read_82 f_M_read_93 f_M_read_123
    rw [if_neg (show ¬ (0 : Int32) < 0 by decide), can1, q_tryL, if_pos (show (0 : Int32) = 0 from rfl)]
    refine rd_fin (png_ok (K := K) (by omega) hn ht hB htM hBM) (fun u v => by
      unfold f_M_read_141
      rw [if_pos (show (3 : Nat) = 3 from rfl), if_neg (show ¬ (2 : Int32) = 0 by decide)]
      exact Or.inr (Or.inl ⟨3, _, _, Or.inl rfl, rfl, rfl, rfl, rfl, rfl, ⟨rfl, rfl, rfl, rfl, rfl, rfl, rfl, rfl, rfl, rfl, rfl, rfl⟩, ⟨rfl, rfl, rfl, rfl, rfl, rfl⟩⟩)) (fun u v => by
      unfold f_M_read_141
      rw [if_neg (show ¬ (4 : Nat) = 3 by decide), if_pos (show (4 : Nat) = 4 from rfl), if_neg (show ¬ (3 : Int32) = 0 by decide)]
      exact Or.inr (Or.inl ⟨4, _, _, Or.inr rfl, rfl, rfl, rfl, rfl, rfl, ⟨rfl, rfl, rfl, rfl, rfl, rfl, rfl, rfl, rfl, rfl, rfl, rfl⟩, ⟨rfl, rfl, rfl, rfl, rfl, rfl⟩⟩)) (fun x y hxy => ?_)
    obtain ⟨w, h, Dp, Mp, hP, e1, e2, e3, e4, e5, e6⟩ := hxy
    exact rd_ok (by omega) hk hR hP e1 e2 e3 e4 e5 e6
  rw [if_neg (fun z => f1 (c1.mp z))]
  by_cases f2 : tv T 0 = 71
  · rw [if_pos (c2.mpr f2), f2, show f_D_formatOf (nI 71) = some (.inl (1, ())) from rfl, q_tryL, if_neg (show ¬ (1 : Int32) = 0 by decide), if_pos (show (1 : Int32) = 1 from rfl)]
    unfold f_M_read_82 f_M_read_93 f_M_read_123
    rw [if_neg (show ¬ (1 : Int32) < 0 by decide), can1, q_tryL, if_neg (show ¬ (1 : Int32) = 0 by decide), if_pos (show (1 : Int32) = 1 from rfl)]
    refine rd_fin (gif_ok (K := K) (by omega) hn ht hB htM _ _ _ _) (fun u v => by
      unfold f_M_read_141
      rw [if_pos (show (3 : Nat) = 3 from rfl), if_neg (show ¬ (2 : Int32) = 0 by decide)]
      exact Or.inr (Or.inl ⟨3, _, _, Or.inl rfl, rfl, rfl, rfl, rfl, rfl, ⟨rfl, rfl, rfl, rfl, rfl, rfl, rfl, rfl, rfl, rfl, rfl, rfl⟩, ⟨rfl, rfl, rfl, rfl, rfl, rfl⟩⟩)) (fun u v => by
      unfold f_M_read_141
      rw [if_neg (show ¬ (4 : Nat) = 3 by decide), if_pos (show (4 : Nat) = 4 from rfl), if_neg (show ¬ (3 : Int32) = 0 by decide)]
      exact Or.inr (Or.inl ⟨4, _, _, Or.inr rfl, rfl, rfl, rfl, rfl, rfl, ⟨rfl, rfl, rfl, rfl, rfl, rfl, rfl, rfl, rfl, rfl, rfl, rfl⟩, ⟨rfl, rfl, rfl, rfl, rfl, rfl⟩⟩)) (fun x y hxy => ?_)
    obtain ⟨w, h, Dp, Mp, hP, e1, e2, e3, e4, e5, e6⟩ := hxy
    exact rd_ok (by omega) hk hR hP e1 e2 e3 e4 e5 e6
  rw [if_neg (fun z => f2 (c2.mp z))]
  by_cases f3 : tv T 0 = 66
  · rw [if_pos (c3.mpr f3), f3, show f_D_formatOf (nI 66) = some (.inl (2, ())) from rfl, q_tryL, if_neg (show ¬ (2 : Int32) = 0 by decide), if_neg (show ¬ (2 : Int32) = 1 by decide)]
    unfold f_M_read_82 f_M_read_93 f_M_read_123
    rw [if_neg (show ¬ (2 : Int32) < 0 by decide), can1, q_tryL, if_neg (show ¬ (2 : Int32) = 0 by decide), if_neg (show ¬ (2 : Int32) = 1 by decide)]
    refine rd_fin (bmp_ok (K := K) (by omega) hn ht htM _ _ _ _) (fun u v => by
      unfold f_M_read_141
      rw [if_pos (show (3 : Nat) = 3 from rfl), if_neg (show ¬ (2 : Int32) = 0 by decide)]
      exact Or.inr (Or.inl ⟨3, _, _, Or.inl rfl, rfl, rfl, rfl, rfl, rfl, ⟨rfl, rfl, rfl, rfl, rfl, rfl, rfl, rfl, rfl, rfl, rfl, rfl⟩, ⟨rfl, rfl, rfl, rfl, rfl, rfl⟩⟩)) (fun u v => by
      unfold f_M_read_141
      rw [if_neg (show ¬ (4 : Nat) = 3 by decide), if_pos (show (4 : Nat) = 4 from rfl), if_neg (show ¬ (3 : Int32) = 0 by decide)]
      exact Or.inr (Or.inl ⟨4, _, _, Or.inr rfl, rfl, rfl, rfl, rfl, rfl, ⟨rfl, rfl, rfl, rfl, rfl, rfl, rfl, rfl, rfl, rfl, rfl, rfl⟩, ⟨rfl, rfl, rfl, rfl, rfl, rfl⟩⟩)) (fun x y hxy => ?_)
    obtain ⟨w, h, Dp, Mp, hP, e1, e2, e3, e4, e5, e6⟩ := hxy
    exact rd_ok (by omega) hk hR hP e1 e2 e3 e4 e5 e6
  rw [if_neg (fun z => f3 (c3.mp z))]
  have hfo : f_D_formatOf (nI (tv T 0)) = some (.inr (3, ())) := by
    unfold f_D_formatOf f_D_formatOf_24
    rw [if_neg (show ¬ nI (tv T 0) = 137 from eq_lit (b := 137) hv (by omega) f1), if_neg (show ¬ nI (tv T 0) = 71 from eq_lit (b := 71) hv (by omega) f2), if_neg (show ¬ nI (tv T 0) = 66 from eq_lit (b := 66) hv (by omega) f3), need0, q_tryR]
  rw [hfo, q_tryR]
  exact hbM _ _ rfl rfl ⟨rfl, rfl, rfl, rfl, rfl, rfl, rfl, rfl, rfl, rfl, rfl, rfl⟩
