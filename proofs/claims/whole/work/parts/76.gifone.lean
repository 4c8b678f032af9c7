/-! the pure half: a GIF file's image read -/
theorem rwF_agr {N base w : Nat} {p p' : Nat → Int32} {v v' : Nat → Int32} (h : Agr N p p') (hv : ∀ k, k < w → v k = v' k) : ∀ k, k ≤ w → Agr N (rwF p base v k) (rwF p' base v' k) := by
  intro k
  induction k with
  | zero => intro _; exact h
  | succ k ih =>
    intro hk
    exact Agr_u (ih (by omega)) (hv k (by omega))
theorem imF_agr {N c W left top w h : Nat} {il : Bool} {tr : Int32} {tab tab' p p' IX : Nat → Int32} (h0 : Agr N p p') (ht : Agr c tab tab') (hr : ∀ j, j < h → rok w c IX j) : ∀ i, i ≤ h → Agr N (imF p tab tr W left top w h il IX i) (imF p' tab' tr W left top w h il IX i) := by
  intro i
  induction i with
  | zero => intro _; exact h0
  | succ i ih =>
    intro hi
    refine rwF_agr (ih (by omega)) (fun k hk => ?_) w (Nat.le_refl _)
    have := ht _ (hr i (by omega) k hk)
    unfold vl
    rw [this]
def ilf (f : Nat) : Bool := decide (f / 64 % 2 = 1)
theorem il_D : ∀ f, f < 256 → ((nI f &&& 64) = 0 ↔ ilf f = false) := by decide +kernel
theorem il_M : ∀ f, f < 256 → (((nI f >>> ((6 : Int32) &&& 31)) &&& 1) = 1 ↔ ilf f = true) := by decide +kernel
theorem open_ok {g m : Nat} (h : g + m ≤ 65536) (a b c d : Int32) : f_Source_openGathered (nI g) (nI (g + m)) a b c d = some ((), nI g, nI (g + m), 0, 0) := by
  unfold f_Source_openGathered f_Source_open f_Source_dropBits
  rw [if_neg (nI_pos (by omega)), if_neg (show ¬ (65536 : Int32) < nI (g + m) from show ¬ nI 65536 < nI (g + m) from nI_nlt (by omega) (by omega))]
  rfl
def RI (p n W H : Nat) (t : Nat → Nat) (x : Unit × (Int32 × Int32 × Int32 × Int32 × Int32 × Int32 × (Nat → Int32) × (Nat → Int32) × Int32 × Int32 × Int32 × Int32 × (Nat → Int32) × (Nat → Int32) × (Nat → Int32) × (Nat → Int32) × (Nat → Int32))) (y : Unit × (Int32 × Int32 × Int32 × Int32 × Int32 × (Nat → Int32) × (Nat → Int32) × (Nat → Int32) × (Nat → Int32) × (Nat → Int32) × (Nat → Int32) × (Nat → Int32))) : Prop := ∃ p', p < p' ∧ p' ≤ n ∧ x.2.2.1 = -1 ∧ x.2.2.2.2.1 = nI p' ∧ y.2.1 = nI p' ∧ Tf p' n x.2.2.2.2.2.2.2.1 t ∧ Bt n x.2.2.2.2.2.2.2.1 ∧ Agr (W * H) x.2.2.2.2.2.2.2.2.2.2.2.2.2.2.2.2.2 y.2.2.2.2.2.2.2.2.2.2.2.2
theorem first_img {K n W H p0 g mm p m f c left top w h : Nat} (hK : 600000 < K) (hn : n ≤ 65536) (hm2 : 2 ≤ m) (hm8 : m ≤ 8) (hf : f < 256) (hc : c ≤ 256) (hw0 : 0 < w) (hh0 : 0 < h) (hl : left + w ≤ W) (htp : top + h ≤ H) (hWH : W * H ≤ 16384) (hpp : p0 < p) {T TM Dm tabD tabM ptsD ptsM : Nat → Int32} {t : Nat → Nat} (hG : Gs g mm p n T Dm t) (hA : Agr (W * H) ptsD ptsM) (htab : Agr c tabD tabM) {tr : Int32} {t_made : Int32} {t_packed_at : Int32} {t_packed_stop : Int32} {t_packed_bitStore : Int32} {t_packed_bitsHeld : Int32} {a_t_rowStarts : Nat → Int32} {a_t_rowLengths : Nat → Int32} {a_t_indices : Nat → Int32} {a_t_order : Nat → Int32} {t_colours t_bitAt t_rowBytes t_expected : Int32} {a_t_own a_t_before a_t_lastIndex a_t_deep a_t_rows a_t_palette : Nat → Int32} (hTM : (if f < 128 then a_t_palette else a_t_own) = tabM) : Lk (RI p0 n W H t) (f_GifReader_takeImage_149 K (nI c) tr t_made (nI p) (nI n) (nI g) (nI (g + mm)) T (nI W) (nI H) tabD t_packed_at t_packed_stop t_packed_bitStore t_packed_bitsHeld a_t_rowStarts a_t_rowLengths a_t_indices a_t_order ptsD (nI left) (nI top) (nI w) (nI h) (nI f) (nI m) 1) (f_M_image_162 K (nI n) (nI p) (nI W) (nI H) t_colours (nI mm) t_bitAt t_rowBytes t_expected TM a_t_own Dm a_t_before a_t_lastIndex a_t_deep a_t_rows ptsM a_t_palette tr (nI left) (nI top) (nI w) (nI h) (nI f) (nI c) (nI m) 1) := by
  obtain ⟨qK, rfl⟩ : ∃ q, K = q + 5 := ⟨K - 5, by omega⟩
  obtain ⟨a1, a2, a3, a4, a5⟩ := hG
  have hwh : w * h ≤ 16384 := Nat.le_trans (Nat.mul_le_mul (show w ≤ W by omega) (show h ≤ H by omega)) hWH
  have hh : h ≤ 16384 := Nat.le_trans (Nat.le_mul_of_pos_left h hw0) hwh
  unfold f_GifReader_takeImage_149 f_M_image_162
  rw [need1, can1, q_tryL, q_tryL, open_ok (by omega), q_bind, pk_mul]
  have hU := unpack_ok (K := qK + 5) (g := g) (mm := mm) (m := m) (total := w * h) (T := T) (D := Dm) (dat := tv Dm) hK ⟨a5, tv_lt Dm⟩ ⟨fun i hi => by rw [Nat.zero_add], tv_lt Dm⟩ (by omega) hm2 hm8 hwh a_t_rowStarts a_t_rowLengths a_t_indices a_t_before a_t_lastIndex a_t_deep a_t_rows t_made t_bitAt
  rcases hU with ⟨⟨u, hu⟩, hM⟩ | ⟨x, y, hx, hy, e1, e2⟩
  · refine Lk.no ?_ ?_
    · show Th 3 (dc_try ((f_GifReader_unpack ((qK + 5)) (nI m) (nI (w * h)) t_made (nI g) (nI (g + mm)) 0 0 T a_t_rowStarts a_t_rowLengths a_t_indices)) _ _)
      rw [hu]
      exact ⟨_, rfl⟩
    · rcases hM with ⟨v, hv⟩ | ⟨y, hy, ne⟩
      · rw [hv]
        exact ⟨_, rfl⟩
      · rw [hy, q_tryL, if_neg ne]
        unfold f_M_image_202
        rw [can0, q_tryR]
        exact ⟨_, rfl⟩
  · rw [hy, q_tryL, if_pos e1]
    show Lk _ (dc_try (f_GifReader_unpack (qK + 5) (nI m) (nI (w * h)) t_made (nI g) (nI (g + mm)) 0 0 T a_t_rowStarts a_t_rowLengths a_t_indices) _ _) _
    rw [hx, q_tryL]
    unfold f_M_image_202
    rw [can1, q_tryL]
    have hix : ∀ j, j < w * h → oj x.2.2.2.2.2.2.2 j < 256 := fun j hj => (e2 j hj).1
    have hfin : ∀ (il : Bool) (A : Int32) (TA : Nat → Int32), (∀ j, j < h → rok w c x.2.2.2.2.2.2.2 j) → Agr c tabD TA → Agr (W * H) (imF ptsD tabD tr W left top w h il x.2.2.2.2.2.2.2 h) (imF ptsM TA tr W left top w h il x.2.2.2.2.2.2.2 h) := fun il A TA hr hT => imF_agr hA hT hr h (Nat.le_refl _)
    by_cases hf8 : f < 128
    · rw [if_pos ((lt_128 hf).mpr hf8)]
      rw [if_pos hf8] at hTM
      subst hTM
      cases hil : ilf f
      · rw [if_pos ((il_D f hf).mpr hil), if_neg (fun q => by rw [(il_M f hf).mp q] at hil; exact Bool.noConfusion hil)]
        unfold f_GifReader_takeImage_193 f_M_image_100245 f_GifReader_takeImage_244 f_M_image_453
        rw [show f_GifReader_layRowOrder (qK + 5) 16384 (nI h) 0 a_t_order = _ from order_ok (K := qK + 5) (by omega) hh false a_t_order, q_bind]
        refine Lk.tryL (Lk.both (Ex.gq (rowsDg_L (il := false) (by omega) hc hl htp hWH hw0 hwh hix h 0 (qK + 5) (by omega) (by omega) (fun j hj => absurd hj (Nat.not_lt_zero _)))) (Ex.gq (allMp (il := false) (by omega) hc hl htp hWH hw0 hwh e2))) (fun u => ⟨_, rfl⟩) (fun u => ⟨_, rfl⟩) (fun a b hab => ?_)
        obtain ⟨rfl, rfl, hr⟩ := hab
        exact Lk.yes ⟨p, hpp, a2, rfl, rfl, rfl, a3, a4, hfin false 0 _ hr htab⟩
      · rw [if_neg (fun q => by rw [(il_D f hf).mp q] at hil; exact Bool.noConfusion hil), if_pos ((il_M f hf).mpr hil)]
        unfold f_GifReader_takeImage_193 f_M_image_100245 f_GifReader_takeImage_244 f_M_image_453
        rw [show f_GifReader_layRowOrder (qK + 5) 16384 (nI h) 1 a_t_order = _ from order_ok (K := qK + 5) (by omega) hh true a_t_order, q_bind]
        refine Lk.tryL (Lk.both (Ex.gq (rowsDg_L (il := true) (by omega) hc hl htp hWH hw0 hwh hix h 0 (qK + 5) (by omega) (by omega) (fun j hj => absurd hj (Nat.not_lt_zero _)))) (Ex.gq (allMp (il := true) (by omega) hc hl htp hWH hw0 hwh e2))) (fun u => ⟨_, rfl⟩) (fun u => ⟨_, rfl⟩) (fun a b hab => ?_)
        obtain ⟨rfl, rfl, hr⟩ := hab
        exact Lk.yes ⟨p, hpp, a2, rfl, rfl, rfl, a3, a4, hfin true 0 _ hr htab⟩
    · rw [if_neg (fun q => hf8 ((lt_128 hf).mp q))]
      rw [if_neg hf8] at hTM
      subst hTM
      cases hil : ilf f
      · rw [if_pos ((il_D f hf).mpr hil), if_neg (fun q => by rw [(il_M f hf).mp q] at hil; exact Bool.noConfusion hil)]
        unfold f_GifReader_takeImage_193 f_M_image_245 f_GifReader_takeImage_244 f_M_image_453
        rw [show f_GifReader_layRowOrder (qK + 5) 16384 (nI h) 0 a_t_order = _ from order_ok (K := qK + 5) (by omega) hh false a_t_order, q_bind]
        refine Lk.tryL (Lk.both (Ex.gq (rowsDg_L (il := false) (by omega) hc hl htp hWH hw0 hwh hix h 0 (qK + 5) (by omega) (by omega) (fun j hj => absurd hj (Nat.not_lt_zero _)))) (Ex.gq (allMo (il := false) (by omega) hc hl htp hWH hw0 hwh e2))) (fun u => ⟨_, rfl⟩) (fun u => ⟨_, rfl⟩) (fun a b hab => ?_)
        obtain ⟨rfl, rfl, hr⟩ := hab
        exact Lk.yes ⟨p, hpp, a2, rfl, rfl, rfl, a3, a4, hfin false 0 _ hr htab⟩
      · rw [if_neg (fun q => by rw [(il_D f hf).mp q] at hil; exact Bool.noConfusion hil), if_pos ((il_M f hf).mpr hil)]
        unfold f_GifReader_takeImage_193 f_M_image_245 f_GifReader_takeImage_244 f_M_image_453
        rw [show f_GifReader_layRowOrder (qK + 5) 16384 (nI h) 1 a_t_order = _ from order_ok (K := qK + 5) (by omega) hh true a_t_order, q_bind]
        refine Lk.tryL (Lk.both (Ex.gq (rowsDg_L (il := true) (by omega) hc hl htp hWH hw0 hwh hix h 0 (qK + 5) (by omega) (by omega) (fun j hj => absurd hj (Nat.not_lt_zero _)))) (Ex.gq (allMo (il := true) (by omega) hc hl htp hWH hw0 hwh e2))) (fun u => ⟨_, rfl⟩) (fun u => ⟨_, rfl⟩) (fun a b hab => ?_)
        obtain ⟨rfl, rfl, hr⟩ := hab
        exact Lk.yes ⟨p, hpp, a2, rfl, rfl, rfl, a3, a4, hfin true 0 _ hr htab⟩
theorem image_ok {K n W H p c : Nat} {fst : Bool} (hK : 600000 < K) (hn : n ≤ 65536) (hp : p ≤ n) (hc : c ≤ 256) (hWH : W * H ≤ 16384) (hW0 : 0 < W) (hH0 : 0 < H) {T TM Dm tabD palM ptsD ptsM : Nat → Int32} {t : Nat → Nat} (ht : Tf p n T t) (hB : Bt n T) (htM : Tb n TM t) (hA : Agr (W * H) ptsD ptsM) {C tr : Int32} (hfst : fst = true → C = nI c ∧ Agr c tabD palM) {t_made : Int32} {t_in_gatheredFrom : Int32} {t_in_gatheredTo : Int32} {t_packed_at : Int32} {t_packed_stop : Int32} {t_packed_bitStore : Int32} {t_packed_bitsHeld : Int32} {a_t_rowStarts : Nat → Int32} {a_t_rowLengths : Nat → Int32} {a_t_indices : Nat → Int32} {a_t_order : Nat → Int32} {t_dataSize t_bitAt t_rowBytes t_expected : Int32} {a_t_own a_t_before a_t_lastIndex a_t_deep a_t_rows : Nat → Int32} : Lk (RI p n W H t) (f_GifReader_takeImage K (b2 fst) C tr t_made (nI p) (nI n) t_in_gatheredFrom t_in_gatheredTo T (nI W) (nI H) tabD t_packed_at t_packed_stop t_packed_bitStore t_packed_bitsHeld a_t_rowStarts a_t_rowLengths a_t_indices a_t_order ptsD) (f_M_image K (b2 fst) tr (nI n) (nI p) (nI W) (nI H) (nI c) t_dataSize t_bitAt t_rowBytes t_expected TM a_t_own Dm a_t_before a_t_lastIndex a_t_deep a_t_rows ptsM palM) := by
  have hWl : W ≤ 16384 := Nat.le_trans (Nat.le_mul_of_pos_right W hH0) hWH
  have hHl : H ≤ 16384 := Nat.le_trans (Nat.le_mul_of_pos_left H hW0) hWH
  unfold f_GifReader_takeImage f_M_image
  refine Lk.step (little2_exF hp hn ht) (l2M_ex (by omega) hn hp htM) (fun u => ⟨_, rfl⟩) (fun u => ⟨_, rfl⟩) (fun h1 => ?_)
  refine Lk.step (little2_exF h1 hn (ht.mono (by omega))) (l2M_ex (by omega) hn h1 htM) (fun u => ⟨_, rfl⟩) (fun u => ⟨_, rfl⟩) (fun h2 => ?_)
  refine Lk.step (little2_exF h2 hn (ht.mono (by omega))) (l2M_ex (by omega) hn h2 htM) (fun u => ⟨_, rfl⟩) (fun u => ⟨_, rfl⟩) (fun h3 => ?_)
  refine Lk.step (little2_exF h3 hn (ht.mono (by omega))) (l2M_ex (by omega) hn h3 htM) (fun u => ⟨_, rfl⟩) (fun u => ⟨_, rfl⟩) (fun h4 => ?_)
  have b1 := l2_lt ht.2 p
  have b2' := l2_lt ht.2 (p + 2)
  have b3 := l2_lt ht.2 (p + 2 + 2)
  have b4 := l2_lt ht.2 (p + 2 + 2 + 2)
  generalize l2 t p = left at b1 ⊢
  generalize l2 t (p + 2) = top at b2' ⊢
  generalize l2 t (p + 2 + 2) = w at b3 ⊢
  generalize l2 t (p + 2 + 2 + 2) = h at b4 ⊢
  dsimp only
  rw [lN_32 (show left < 2 ^ 31 by omega), lN_32 (show top < 2 ^ 31 by omega), lN_32 (show w < 2 ^ 31 by omega), lN_32 (show h < 2 ^ 31 by omega)]
  unfold f_GifReader_takeImage_49 f_GifReader_takeImage_50 f_M_image_69
  have hno : ∀ (A : Int32), Th 3 (f_M_image_70 K (nI n) A (nI W) (nI H) (nI c) t_dataSize t_bitAt t_rowBytes t_expected TM a_t_own Dm a_t_before a_t_lastIndex a_t_deep a_t_rows ptsM palM (b2 fst) tr (nI left) (nI top) (nI w) (nI h) 0) := by
    intro A
    unfold f_M_image_70
    rw [can0, q_tryR]
    exact ⟨_, rfl⟩
  by_cases c1 : w = 0
  · rw [if_pos (show nI w ≤ 0 from nI_le (b := 0) (by omega) (by omega)), if_pos (show nI w ≤ 0 from nI_le (b := 0) (by omega) (by omega)), need0, q_tryR]
    exact Lk.no ⟨_, rfl⟩ (hno _)
  have n1 : ¬ nI w ≤ 0 := nI_ge (a := 0) (by omega) (by omega)
  rw [if_neg n1, if_neg n1]
  by_cases c2 : h = 0
  · rw [if_pos (show nI h ≤ 0 from nI_le (b := 0) (by omega) (by omega)), if_pos (show nI h ≤ 0 from nI_le (b := 0) (by omega) (by omega)), need0, q_tryR]
    exact Lk.no ⟨_, rfl⟩ (hno _)
  have n2 : ¬ nI h ≤ 0 := nI_ge (a := 0) (by omega) (by omega)
  rw [if_neg n2, if_neg n2, need1, q_tryL, nI_add, nI_add]
  unfold f_GifReader_takeImage_80 f_GifReader_takeImage_81
  by_cases c3 : W < left + w
  · rw [if_pos (nI_lt c3 (by omega)), if_pos (nI_lt c3 (by omega)), need0, q_tryR]
    exact Lk.no ⟨_, rfl⟩ (hno _)
  have n3 : ¬ nI W < nI (left + w) := nI_nlt (by omega) (by omega)
  rw [if_neg n3, if_neg n3]
  by_cases c4 : H < top + h
  · rw [if_pos (nI_lt c4 (by omega)), if_pos (nI_lt c4 (by omega)), need0, q_tryR]
    exact Lk.no ⟨_, rfl⟩ (hno _)
  have n4 : ¬ nI H < nI (top + h) := nI_nlt (by omega) (by omega)
  rw [if_neg n4, if_neg n4, need1, q_tryL]
  clear hno
  unfold f_M_image_70
  rw [can1, q_tryL]
  refine Lk.step (next_exF h4 hn (ht.mono (by omega))) (nextM_ex h4 hn htM) (fun u => ⟨_, rfl⟩) (fun u => ⟨_, rfl⟩) (fun h5 => ?_)
  have hf := ht.2 (p + 2 + 2 + 2 + 2)
  generalize t (p + 2 + 2 + 2 + 2) = f at hf ⊢
  have hrest : ∀ (p' c' : Nat) (C' Y : Int32) (tab' own' : Nat → Int32), p < p' → p' ≤ n → c' ≤ 256 → (fst = true → Y = nI c' ∧ C' = nI c' ∧ Agr c' tab' (if f < 128 then palM else own')) → Lk (RI p n W H t) (dc_try (f_Source_next (nI p') (nI n) T) (fun r_103 => (if r_103.1 < 2 then (f_GifReader_takeImage_125 K C' tr t_made r_103.2 (nI n) t_in_gatheredFrom t_in_gatheredTo T (nI W) (nI H) tab' t_packed_at t_packed_stop t_packed_bitStore t_packed_bitsHeld a_t_rowStarts a_t_rowLengths a_t_indices a_t_order ptsD (b2 fst) (nI left) (nI top) (nI w) (nI h) (nI f) r_103.1) else (if 8 < r_103.1 then (f_GifReader_takeImage_125 K C' tr t_made r_103.2 (nI n) t_in_gatheredFrom t_in_gatheredTo T (nI W) (nI H) tab' t_packed_at t_packed_stop t_packed_bitStore t_packed_bitsHeld a_t_rowStarts a_t_rowLengths a_t_indices a_t_order ptsD (b2 fst) (nI left) (nI top) (nI w) (nI h) (nI f) r_103.1) else (f_GifReader_takeImage_126 K C' tr t_made r_103.2 (nI n) t_in_gatheredFrom t_in_gatheredTo T (nI W) (nI H) tab' t_packed_at t_packed_stop t_packed_bitStore t_packed_bitsHeld a_t_rowStarts a_t_rowLengths a_t_indices a_t_order ptsD (b2 fst) (nI left) (nI top) (nI w) (nI h) (nI f) r_103.1 1)))) (fun r_103 => some (.inr (r_103.1, (C', tr, t_made, r_103.2, t_in_gatheredFrom, t_in_gatheredTo, T, tab', t_packed_at, t_packed_stop, t_packed_bitStore, t_packed_bitsHeld, a_t_rowStarts, a_t_rowLengths, a_t_indices, a_t_order, ptsD))))) (f_M_image_112 K (nI n) (nI p') (nI W) (nI H) (nI c) t_dataSize t_bitAt t_rowBytes t_expected TM own' Dm a_t_before a_t_lastIndex a_t_deep a_t_rows ptsM palM (b2 fst) tr (nI left) (nI top) (nI w) (nI h) (nI f) Y) := by
    intro p' c' C' Y tab' own' q1 q2 q3 hfs
    have ht' := ht.mono (show p ≤ p' by omega)
    unfold f_M_image_112
    refine Lk.step (next_exF q2 hn ht') (nextM_ex q2 hn htM) (fun u => ⟨_, rfl⟩) (fun u => ⟨_, rfl⟩) (fun h6 => ?_)
    have hm := ht.2 p'
    generalize t p' = m at hm ⊢
    unfold f_GifReader_takeImage_125 f_GifReader_takeImage_126 f_M_image_138 f_M_image_139
    by_cases c5 : m < 2
    · rw [if_pos (show nI m < 2 from nI_lt (b := 2) c5 (by omega)), if_pos (show nI m < 2 from nI_lt (b := 2) c5 (by omega)), need0, can0, q_tryR, q_tryR]
      exact Lk.no ⟨_, rfl⟩ ⟨_, rfl⟩
    have n5 : ¬ nI m < 2 := nI_nlt (b := 2) (by omega) (by omega)
    rw [if_neg n5, if_neg n5]
    by_cases c6 : 8 < m
    · rw [if_pos (show 8 < nI m from nI_lt (a := 8) c6 (by omega)), if_pos (show 8 < nI m from nI_lt (a := 8) c6 (by omega)), need0, can0, q_tryR, q_tryR]
      exact Lk.no ⟨_, rfl⟩ ⟨_, rfl⟩
    have n6 : ¬ 8 < nI m := nI_nlt (a := 8) (by omega) (by omega)
    rw [if_neg n6, if_neg n6, need1, can1, q_tryL, q_tryL]
    refine Lk.try (subs_ok (K := K) (by omega) hn (show p' + 1 ≤ n by omega) htM (ht'.mono (by omega)) hB t_in_gatheredFrom t_in_gatheredTo t_dataSize) (fun u => ⟨_, rfl⟩) (fun u => ⟨_, rfl⟩) (fun x y hxy => ?_)
    obtain ⟨g, p2, mm, T', D', rfl, rfl, q4, hG⟩ := hxy
    dsimp only
    obtain ⟨a1, a2, a3, a4, a5⟩ := id hG
    cases fst
    · rw [if_pos (show b2 false = 0 from rfl), if_pos (show b2 false = 0 from rfl)]
      unfold f_GifReader_takeImage_244
      exact Lk.yes ⟨p2, by omega, a2, rfl, rfl, rfl, a3, a4, hA⟩
    · obtain ⟨e1, e2, e3⟩ := hfs rfl
      subst e1 e2
      rw [if_neg (show ¬ b2 true = 0 by decide), if_neg (show ¬ b2 true = 0 by decide)]
      by_cases c7 : c' = 0
      · subst c7
        rw [if_pos (show nI 0 ≤ 0 by decide), if_pos (show nI 0 ≤ 0 by decide)]
        unfold f_GifReader_takeImage_149 f_M_image_162
        rw [need0, can0, q_tryR, q_tryR]
        exact Lk.no ⟨_, rfl⟩ ⟨_, rfl⟩
      have n7 : ¬ nI c' ≤ 0 := nI_ge (a := 0) (by omega) (by omega)
      rw [if_neg n7, if_neg n7]
      exact first_img hK hn (by omega) (by omega) hf q3 (by omega) (by omega) (by omega) (by omega) hWH (by omega) hG hA e3 rfl
  by_cases hf8 : f < 128
  · unfold f_GifReader_takeTable
    rw [if_pos ((has_tab f hf).mpr hf8), q_tryL, if_pos ((lt_128 hf).mpr hf8)]
    cases fst
    · rw [if_pos (show b2 false = 0 from rfl)]
      exact hrest (p + 2 + 2 + 2 + 2 + 1) 0 C 1 tabD a_t_own (by omega) (by omega) (by omega) (fun q => Bool.noConfusion q)
    · rw [if_neg (show ¬ b2 true = 0 by decide)]
      obtain ⟨e1, e2⟩ := hfst rfl
      exact hrest (p + 2 + 2 + 2 + 2 + 1) c C (nI c) tabD a_t_own (by omega) (by omega) hc (fun _ => ⟨rfl, e1, by rw [if_pos hf8]; exact e2⟩)
  · rw [if_neg (fun q => hf8 ((lt_128 hf).mp q))]
    refine Lk.try (Lk.ofGq (gtabD (K := K) (by omega) hn (show p + 2 + 2 + 2 + 2 + 1 ≤ n by omega) hf hf8 (ht.mono (by omega)) C tabD) (gtabM (K := K) (by omega) hn (show p + 2 + 2 + 2 + 2 + 1 ≤ n by omega) hf htM a_t_own)) (fun u => ⟨_, rfl⟩) (fun u => ⟨_, rfl⟩) (fun x y hxy => ?_)
    obtain ⟨q1, tD, tM, rfl, rfl, k1, k2⟩ := hxy
    exact hrest (p + 2 + 2 + 2 + 2 + 1 + 3 * tcn f) (tcn f) (nI (tcn f)) (nI (tcn f)) tD tM (by omega) q1 (tcn_le f) (fun _ => ⟨rfl, rfl, by rw [if_neg hf8]; intro j hj; rw [k1 j hj, k2 j hj]⟩)
