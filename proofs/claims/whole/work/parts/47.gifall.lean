/-! the pure half: all of a GIF -/
def Fp {α ε : Type} (N L : Nat) (Pr : α → Prop) (r : Option (α ⊕ (Nat × ε))) : Prop := (L ≤ N → ∃ a, r = some (.inl a) ∧ Pr a) ∧ (N < L → ∃ u, r = some (.inr (4, u)))
theorem Fp.ret {α ε : Type} {N L : Nat} {Pr : α → Prop} {a : α} (h : L ≤ N) (hp : Pr a) : Fp (ε := ε) N L Pr (some (.inl a)) := ⟨fun _ => ⟨a, rfl, hp⟩, fun h2 => absurd h2 (by omega)⟩
theorem Fp.len {α ε : Type} {N L L' : Nat} {Pr : α → Prop} {r : Option (α ⊕ (Nat × ε))} (e : L = L') (h : Fp N L' Pr r) : Fp N L Pr r := e ▸ h
theorem Fp.bnd {α β ε : Type} {N L : Nat} {Pr : α → Prop} {m : Option β} {c : β} {f : β → Option (α ⊕ (Nat × ε))} (h : m = some c) (hf : Fp N L Pr (f c)) : Fp N L Pr (dc_bind m f) := by
  rw [h, q_bind]
  exact hf
theorem Fp.go {α β ε ε' : Type} {N L : Nat} {Pr : α → Prop} {m : Option (β ⊕ (Nat × ε'))} {c : β} {f : β → Option (α ⊕ (Nat × ε))} {g : Nat × ε' → Option (α ⊕ (Nat × ε))} (h : m = some (.inl c)) (hf : Fp N L Pr (f c)) : Fp N L Pr (dc_try m f g) := by
  rw [h, q_tryL]
  exact hf
theorem Fp.seq {α α' ε ε' : Type} {N L : Nat} {b : Nat → Int32} {Y X1 : List Int32} {mk : Int32 → (Nat → Int32) → α} {Pr : α' → Prop} {m : Option (α ⊕ (Nat × ε))} {f : α → Option (α' ⊕ (Nat × ε'))} {g : Nat × ε → Option (α' ⊕ (Nat × ε'))} (h : Ap N b Y X1 mk m) (hg : ∀ u, ∃ u', g (4, u) = some (.inr (4, u'))) (hL : (Y ++ X1).length ≤ L)
    (hf : (Y ++ X1).length ≤ N → Fp N L Pr (f (mk (nI (Y ++ X1).length) (wr b (Y ++ X1))))) : Fp N L Pr (dc_try m f g) := by
  constructor
  · intro h1
    have h2 : (Y ++ X1).length ≤ N := by omega
    rw [h.1 h2, q_tryL]
    exact (hf h2).1 h1
  · intro h1
    by_cases h2 : (Y ++ X1).length ≤ N
    · rw [h.1 h2, q_tryL]
      exact (hf h2).2 h1
    · obtain ⟨u, hu⟩ := h.2 (by omega)
      rw [hu, q_tryR]
      exact hg u
theorem Fp.seqL {α α' ε ε' : Type} {N L : Nat} {b : Nat → Int32} {Y X1 : List Int32} {mk : Int32 → (Nat → Int32) → α} {Pr : α' → Prop} {m : Option (α ⊕ (Nat × ε))} {f : α → Option (α' ⊕ (Nat × ε'))} {g : Nat × ε → Option (α' ⊕ (Nat × ε'))} (h : Ap N b Y X1 mk m) (hg : ∀ u, ∃ u', g (4, u) = some (.inr (4, u'))) (hL : (Y ++ X1).length ≤ L)
    (hf : (Y ++ X1).length ≤ N → Fp N L Pr (f (mk (nI (Y ++ X1).length) (wr b (Y ++ X1))))) : Fp N L Pr (dc_bind m (Sum.elim f g)) := by
  rw [bind_elim]
  exact Fp.seq h hg hL hf
theorem Fp.sq {α α' ε ε' : Type} {N : Nat} {b : Nat → Int32} {Y X1 R : List Int32} {mk : Int32 → (Nat → Int32) → α} {Pr : α' → Prop} {m : Option (α ⊕ (Nat × ε))} {f : α → Option (α' ⊕ (Nat × ε'))} {g : Nat × ε → Option (α' ⊕ (Nat × ε'))} (h : Ap N b Y X1 mk m) (hg : ∀ u, ∃ u', g (4, u) = some (.inr (4, u')))
    (hf : (Y ++ X1).length ≤ N → Fp N ((Y ++ X1) ++ R).length Pr (f (mk (nI (Y ++ X1).length) (wr b (Y ++ X1))))) : Fp N (Y ++ (X1 ++ R)).length Pr (dc_try m f g) := by
  rw [← List.append_assoc]
  exact Fp.seq h hg (by rw [List.length_append (bs := R)]; omega) hf
theorem Fp.sqL {α α' ε ε' : Type} {N : Nat} {b : Nat → Int32} {Y X1 R : List Int32} {mk : Int32 → (Nat → Int32) → α} {Pr : α' → Prop} {m : Option (α ⊕ (Nat × ε))} {f : α → Option (α' ⊕ (Nat × ε'))} {g : Nat × ε → Option (α' ⊕ (Nat × ε'))} (h : Ap N b Y X1 mk m) (hg : ∀ u, ∃ u', g (4, u) = some (.inr (4, u')))
    (hf : (Y ++ X1).length ≤ N → Fp N ((Y ++ X1) ++ R).length Pr (f (mk (nI (Y ++ X1).length) (wr b (Y ++ X1))))) : Fp N (Y ++ (X1 ++ R)).length Pr (dc_bind m (Sum.elim f g)) := by
  rw [bind_elim]
  exact Fp.sq h hg hf
theorem Fc.okp {α ε : Type} {B : Prop} {N L : Nat} {Pr : α → Prop} {r : Option (α ⊕ (Nat × ε))} (hB : ¬ B) (h : Fp N L Pr r) : Fc B N L Pr r := ⟨fun h => absurd h hB, fun _ => h⟩
def gifH (P : Nat → Int32) (w h : Nat) (il : Bool) : List Int32 := (gHead (nI w) (nI h) (tb (gS P (w * h)).length) ++ cat (gtab (fun k => P (lk (gS P (w * h)) k)) (gS P (w * h)).length) 0 (2 ^ tb (gS P (w * h)).length)) ++ (gExt (trI (fun i => gc (P i)) (gS P (w * h))) ++ ([q_by 44] ++ (Zs 4 ++ (L2 (nI w) ++ (L2 (nI h) ++ ([q_by (cond il 64 0)] ++ [q_by (nI (max 2 (tb (gS P (w * h)).length)))]))))))
def gIx (P : Nat → Int32) (w h : Nat) (il : Bool) (j : Nat) : Nat := pos (fun i => gc (P i)) (gS P (w * h)) (gc (P (plc w h il j)))
def gC (P : Nat → Int32) (w h : Nat) (il : Bool) : List Int32 := Zf [] (lzA (max 2 (tb (gS P (w * h)).length)) (gIx P w h il) (w * h))
def gifL (P : Nat → Int32) (w h : Nat) (il : Bool) : List Int32 := gifH P w h il ++ ((subs (gC P w h il) ++ [q_by 0]) ++ [q_by 59])
theorem max2 {t : Nat} (ht : t ≤ 8) : (if nI t < 2 then 2 else nI t) = nI (max 2 t) := by
  by_cases c : t < 2
  · rw [if_pos (show nI t < 2 from show nI t < nI 2 from nI_lt c (by omega)), Nat.max_eq_left (by omega)]
    rfl
  · rw [if_neg (show ¬ nI t < 2 from show ¬ nI t < nI 2 from nI_nlt (by omega) (by omega)), Nat.max_eq_right (by omega)]
theorem max2' {t : Nat} (ht : t ≤ 8) : (if 2 < nI t then nI t else 2) = nI (max 2 t) := by
  by_cases c : 2 < t
  · rw [if_pos (show 2 < nI t from show nI 2 < nI t from nI_lt c (by omega)), Nat.max_eq_right (by omega)]
  · rw [if_neg (show ¬ 2 < nI t from show ¬ nI 2 < nI t from nI_nlt (by omega) (by omega)), Nat.max_eq_left (by omega)]
    rfl
theorem gIx_lt {P : Nat → Int32} {w h : Nat} {il : Bool} (hu : (gS P (w * h)).length ≤ 256) {j : Nat} (hj : j < w * h) : gIx P w h il j < 2 ^ max 2 (tb (gS P (w * h)).length) := by
  have h1 := Sp_hit (fun i => gc (P i)) (w * h) _ (plc_lt (il := il) hj)
  have h2 := (tb_ok _ hu).2.2.1
  have h3 : 2 ^ tb (gS P (w * h)).length ≤ 2 ^ max 2 (tb (gS P (w * h)).length) := Nat.pow_le_pow_right (by omega) (Nat.le_max_right _ _)
  exact Nat.lt_of_lt_of_le h1 (Nat.le_trans h2 h3)
theorem gC_len {P : Nat → Int32} {w h : Nat} (il : Bool) (hwh : w * h ≤ 16384) (hu : (gS P (w * h)).length ≤ 256) : (gC P w h il).length ≤ 32768 := by
  have hm : max 2 (tb (gS P (w * h)).length) ≤ 8 := Nat.max_le.mpr ⟨by omega, (tb_ok _ hu).2.1⟩
  have h1 := Zf_len [] (lzA (max 2 (tb (gS P (w * h)).length)) (gIx P w h il) (w * h))
  have h2 := lzA_len hm hwh (gIx P w h il)
  have h3 : ([] : List Int32).length = 0 := rfl
  unfold gC
  omega
theorem gif_eq (P : Nat → Int32) (w h : Nat) (il : Bool) : gifL P w h il = [] ++ ((gHead (nI w) (nI h) (tb (gS P (w * h)).length) ++ cat (gtab (fun k => P (lk (gS P (w * h)) k)) (gS P (w * h)).length) 0 (2 ^ tb (gS P (w * h)).length)) ++ (gExt (trI (fun i => gc (P i)) (gS P (w * h))) ++ ([q_by 44] ++ (Zs 4 ++ (L2 (nI w) ++ (L2 (nI h) ++ ([q_by (cond il 64 0)] ++ ([q_by (nI (max 2 (tb (gS P (w * h)).length)))] ++ ((subs (gC P w h il) ++ [q_by 0]) ++ [q_by 59]))))))))) := by
  unfold gifL gifH
  rw [List.nil_append]
  simp only [List.append_assoc]
theorem gifD {K w h : Nat} (il : Bool) (hK : 40000 < K) (hw0 : 0 < w) (hwh : w * h ≤ 16384) (b P : Nat → Int32) {t_m : Int32} {t_nextRow : Int32} {t_bits : Int32} {t_readersNextRow : Int32} {t_isFirstCode : Int32} {t_table_used : Int32} {t_table_transparentIndex : Int32} {a_t_table_cells : Nat → Int32} {a_t_table_colours : Nat → Int32} {a_t_table_indices : Nat → Int32} {a_t_order : Nat → Int32} {a_t_indices : Nat → Int32} {t_codes_filled : Int32} {t_codes_bitStore : Int32} {t_codes_bitsHeld : Int32} {a_t_codes_bytes : Nat → Int32} {a_t_newestLonger : Nat → Int32} {a_t_lastIndex : Nat → Int32} {a_t_olderSibling : Nat → Int32} :
    Fc (256 < (gS P (w * h)).length) 65536 (gifL P w h il).length (fun a => a.2.2.2.2.2.2.2.2.2.2.2.1 = nI (gifL P w h il).length ∧ a.2.2.2.2.2.2.2.2.2.2.2.2.1 = wr b (gifL P w h il)) (f_GifWriter_encode K 65536 32768 (cond il 1 0) t_m t_nextRow t_bits t_readersNextRow t_isFirstCode t_table_used t_table_transparentIndex a_t_table_cells (nI w) (nI h) P a_t_table_colours a_t_table_indices 0 b a_t_order a_t_indices t_codes_filled t_codes_bitStore t_codes_bitsHeld a_t_codes_bytes a_t_newestLonger a_t_lastIndex a_t_olderSibling) := by
  obtain ⟨cells0, hc0, hr⟩ := restart_ok (K := K) (by omega) t_table_used t_table_transparentIndex a_t_table_cells
  have hl := lay_loop (K := K) (T := w * h) (by omega) hwh (c := fun i => gc (P i)) (fun q (s : CTs) x => (f_GifWriter_encode_L10 K 65536 32768 t_m t_nextRow t_bits t_readersNextRow t_isFirstCode (nI w) (nI h) P 0 b a_t_order a_t_indices t_codes_filled t_codes_bitStore t_codes_bitsHeld a_t_codes_bytes a_t_newestLonger a_t_lastIndex a_t_olderSibling (cond il 1 0) q s.1 s.2.1 s.2.2.1 s.2.2.2.1 s.2.2.2.2 x)) (fun q s => ?_) (fun q k s hk => ?_) (s := (0, -1, cells0, a_t_table_colours, a_t_table_indices)) (CT_0 _ _ _ hc0)
  · unfold f_GifWriter_encode
    rw [hr, q_bind]
    rcases hl with ⟨s, hI, h2⟩ | ⟨hB, u, h2⟩
    · have htr := tr_ok hI
      obtain ⟨hL0, hu, hC, hcol, hix, ht1, ht2⟩ := hI
      have hL : (gS P (w * h)).length ≤ 256 := hL0
      obtain ⟨b1, b2, b3, b4⟩ := tb_ok (gS P (w * h)).length hL
      have hm : max 2 (tb (gS P (w * h)).length) ≤ 8 := Nat.max_le.mpr ⟨by omega, b2⟩
      have hCl := gC_len (P := P) il hwh hL
      refine Fc.okp (by omega) ?_
      rw [show (f_GifWriter_encode_L10 K 65536 32768 t_m t_nextRow t_bits t_readersNextRow t_isFirstCode (nI w) (nI h) P 0 b a_t_order a_t_indices t_codes_filled t_codes_bitStore t_codes_bitsHeld a_t_codes_bytes a_t_newestLonger a_t_lastIndex a_t_olderSibling (cond il 1 0) K 0 (-1) cells0 a_t_table_colours a_t_table_indices 0) = _ from h2, q_bind, Sum.elim_inl]
      rw [hu, htr]
      refine Fp.bnd (tbD (by omega) hL (tb (gS P (w * h)).length - 1) 1 K (by omega) (by omega) (by omega)) ?_
      unfold f_GifWriter_encode_94
      have hA := headG (K := K) (N := 65536) (w := w) (h := h) (Y := []) (by omega) (by omega) hL b2 (cf := fun k => P (lk (gS P (w * h)) k)) b s.2.2.2.1 hcol (Nat.zero_le _)
      rw [wr_nil] at hA
      refine Fp.len (congrArg List.length (gif_eq P w h il)) ?_
      refine Fp.sq hA (fun u => ⟨_, rfl⟩) (fun h1 => ?_)
      refine Fp.sq (extD (by omega) (by omega) _ b h1) (fun u => ⟨_, rfl⟩) (fun h2 => ?_)
      refine Fp.sq (put_ap b _ h2 (by omega)) (fun u => ⟨_, rfl⟩) (fun h3 => ?_)
      refine Fp.sq (zeros_ap (c := 4) b h3 (by omega) (by omega) (by omega)) (fun u => ⟨_, rfl⟩) (fun h4 => ?_)
      refine Fp.sq (little2_ap b _ h4 (by omega)) (fun u => ⟨_, rfl⟩) (fun h5 => ?_)
      refine Fp.sq (little2_ap b _ h5 (by omega)) (fun u => ⟨_, rfl⟩) (fun h6 => ?_)
      have e145 : ∀ (n : Int32) (o : Nat → Int32), (if cond il (1 : Int32) 0 = 0 then (f_GifWriter_encode_145 K 65536 32768 t_m t_nextRow t_bits t_readersNextRow t_isFirstCode (nI (gS P (w * h)).length) (trI (fun i => gc (P i)) (gS P (w * h))) s.2.2.1 (nI w) (nI h) P s.2.2.2.1 s.2.2.2.2 n o a_t_order a_t_indices t_codes_filled t_codes_bitStore t_codes_bitsHeld a_t_codes_bytes a_t_newestLonger a_t_lastIndex a_t_olderSibling (cond il 1 0) (nI (tb (gS P (w * h)).length)) 0) else (f_GifWriter_encode_145 K 65536 32768 t_m t_nextRow t_bits t_readersNextRow t_isFirstCode (nI (gS P (w * h)).length) (trI (fun i => gc (P i)) (gS P (w * h))) s.2.2.1 (nI w) (nI h) P s.2.2.2.1 s.2.2.2.2 n o a_t_order a_t_indices t_codes_filled t_codes_bitStore t_codes_bitsHeld a_t_codes_bytes a_t_newestLonger a_t_lastIndex a_t_olderSibling (cond il 1 0) (nI (tb (gS P (w * h)).length)) 64)) = (f_GifWriter_encode_145 K 65536 32768 t_m t_nextRow t_bits t_readersNextRow t_isFirstCode (nI (gS P (w * h)).length) (trI (fun i => gc (P i)) (gS P (w * h))) s.2.2.1 (nI w) (nI h) P s.2.2.2.1 s.2.2.2.2 n o a_t_order a_t_indices t_codes_filled t_codes_bitStore t_codes_bitsHeld a_t_codes_bytes a_t_newestLonger a_t_lastIndex a_t_olderSibling (cond il 1 0) (nI (tb (gS P (w * h)).length)) (cond il 64 0)) := by
        intro n o
        cases il
        · exact if_pos rfl
        · exact if_neg (by decide)
      refine (e145 _ _).symm ▸ ?_
      unfold f_GifWriter_encode_145
      rw [max2 b2]
      refine Fp.sq (put_ap b _ h6 (by omega)) (fun u => ⟨_, rfl⟩) (fun h7 => ?_)
      refine Fp.sq (put_ap b _ h7 (by omega)) (fun u => ⟨_, rfl⟩) (fun h8 => ?_)
      obtain ⟨s', o', hs1, hs2⟩ := layIx (K := K) (by omega) hw0 hwh il s.2.2.2.2 a_t_indices a_t_order
      refine Fp.bnd hs2 ?_
      unfold f_Picture_total
      rw [pk_mul]
      refine Fp.bnd rfl ?_
      obtain ⟨a, ha1, ha2, ha3⟩ := packD (K := K) (by omega) hm hwh (ix := gIx P w h il) (ixs := s') (fun i hi => (hs1 i hi).trans (hix _ (plc_lt hi))) (fun i hi => gIx_lt hL hi) a_t_codes_bytes t_nextRow t_bits t_readersNextRow t_isFirstCode t_codes_filled t_codes_bitStore t_codes_bitsHeld a_t_newestLonger a_t_lastIndex a_t_olderSibling
      refine Fp.go ha1 ?_
      rw [ha2, ha3]
      refine Fp.sq (subsD (C := gC P w h il) (by omega) (by omega) b a_t_codes_bytes hCl h8) (fun u => ⟨_, rfl⟩) (fun h9 => ?_)
      refine Fp.seq (put_ap b _ h9 (by omega)) (fun u => ⟨_, rfl⟩) (Nat.le_refl _) (fun h10 => ?_)
      have eZ := gif_eq P w h il
      rw [← List.append_assoc [], ← List.append_assoc ([] ++ _), ← List.append_assoc (([] ++ _) ++ _), ← List.append_assoc ((([] ++ _) ++ _) ++ _), ← List.append_assoc (((([] ++ _) ++ _) ++ _) ++ _), ← List.append_assoc ((((([] ++ _) ++ _) ++ _) ++ _) ++ _), ← List.append_assoc (((((([] ++ _) ++ _) ++ _) ++ _) ++ _) ++ _), ← List.append_assoc ((((((([] ++ _) ++ _) ++ _) ++ _) ++ _) ++ _) ++ _), ← List.append_assoc (((((((([] ++ _) ++ _) ++ _) ++ _) ++ _) ++ _) ++ _) ++ _)] at eZ
      rw [← eZ] at h10 ⊢
      exact Fp.ret h10 ⟨rfl, rfl⟩
    · refine Fc.th hB ⟨u, ?_⟩
      rw [show (f_GifWriter_encode_L10 K 65536 32768 t_m t_nextRow t_bits t_readersNextRow t_isFirstCode (nI w) (nI h) P 0 b a_t_order a_t_indices t_codes_filled t_codes_bitStore t_codes_bitsHeld a_t_codes_bytes a_t_newestLonger a_t_lastIndex a_t_olderSibling (cond il 1 0) K 0 (-1) cells0 a_t_table_colours a_t_table_indices 0) = _ from h2]
      rfl
  · show (f_GifWriter_encode_10 K 65536 32768 _ t_m t_nextRow t_bits t_readersNextRow t_isFirstCode s.1 s.2.1 s.2.2.1 (nI w) (nI h) P s.2.2.2.1 s.2.2.2.2 0 b a_t_order a_t_indices t_codes_filled t_codes_bitStore t_codes_bitsHeld a_t_codes_bytes a_t_newestLonger a_t_lastIndex a_t_olderSibling (cond il 1 0) (nI (w * h))) = _
    unfold f_GifWriter_encode_10 f_Picture_total
    rw [pk_mul, q_bind, if_pos (nI_le (by omega) (by omega))]
  · have e : (f_GifWriter_encode_L10 K 65536 32768 t_m t_nextRow t_bits t_readersNextRow t_isFirstCode (nI w) (nI h) P 0 b a_t_order a_t_indices t_codes_filled t_codes_bitStore t_codes_bitsHeld a_t_codes_bytes a_t_newestLonger a_t_lastIndex a_t_olderSibling (cond il 1 0) (q + 1) s.1 s.2.1 s.2.2.1 s.2.2.2.1 s.2.2.2.2 (nI k)) = (f_GifWriter_encode_55 K 65536 32768 ((f_GifWriter_encode_L10 K 65536 32768 t_m t_nextRow t_bits t_readersNextRow t_isFirstCode (nI w) (nI h) P 0 b a_t_order a_t_indices t_codes_filled t_codes_bitStore t_codes_bitsHeld a_t_codes_bytes a_t_newestLonger a_t_lastIndex a_t_olderSibling (cond il 1 0)) q) t_m t_nextRow t_bits t_readersNextRow t_isFirstCode s.1 s.2.1 s.2.2.1 (nI w) (nI h) P s.2.2.2.1 s.2.2.2.2 0 b a_t_order a_t_indices t_codes_filled t_codes_bitStore t_codes_bitsHeld a_t_codes_bytes a_t_newestLonger a_t_lastIndex a_t_olderSibling (cond il 1 0) (nI k) (nI k) (gc (P k))) := by
      show (f_GifWriter_encode_10 K 65536 32768 _ t_m t_nextRow t_bits t_readersNextRow t_isFirstCode s.1 s.2.1 s.2.2.1 (nI w) (nI h) P s.2.2.2.1 s.2.2.2.2 0 b a_t_order a_t_indices t_codes_filled t_codes_bitStore t_codes_bitsHeld a_t_codes_bytes a_t_newestLonger a_t_lastIndex a_t_olderSibling (cond il 1 0) (nI k)) = _
      unfold f_GifWriter_encode_10 f_Picture_total
      rw [pk_mul, q_bind, if_neg (nI_ge hk (by omega)), if_pos (q_inb (by omega) (by omega)), nI_clamp (by omega)]
      unfold gc
      by_cases c : 128 ≤ P k &&& 255
      · rw [if_pos c, if_pos c]
        rfl
      · rw [if_neg c, if_neg c]
    unfold f_GifWriter_encode_55 at e
    rw [nI_1] at e
    constructor
    · intro a ha
      have ha2 : f_ColourTable_lay K (nI k) (gc (P k)) s.1 s.2.1 s.2.2.1 s.2.2.2.1 s.2.2.2.2 = some (.inl a) := ha
      rw [ha2, q_tryL] at e
      exact e
    · intro u hu
      have hu2 : f_ColourTable_lay K (nI k) (gc (P k)) s.1 s.2.1 s.2.2.1 s.2.2.2.1 s.2.2.2.2 = some (.inr (3, u)) := hu
      rw [hu2, q_tryR] at e
      exact ⟨_, e⟩
/-! the reference -/
theorem rows414 {K w h i y : Nat} (il : Bool) (hwh : w * h ≤ 16384) (hi : i < h) (hy : lk (ordL h il) i = y) (hyh : y < h) {t_outSize : Int32} {t_bitBuffer : Int32} {t_bitCount : Int32} {t_keyCount : Int32} {t_codeWidth : Int32} {t_codeNext : Int32} {t_codeFirst : Int32} {a_t_widths : Nat → Int32} {a_t_heights : Nat → Int32} {a_t_images_3 : Nat → Int32} {a_t_keys : Nat → Int32} {a_t_indices : Nat → Int32} {a_t_images_2 : Nat → Int32} {a_t_images_1 : Nat → Int32} {a_t_images_0 : Nat → Int32} {a_t_out : Nat → Int32} {a_t_kids : Nat → Int32} {a_t_data : Nat → Int32} {x2 : Int32} {x4 : Int32} {x8 : Int32} {x10 : Int32} {x12 : Int32} : ∀ (r x q : Nat) (s : Nat → Int32), x + r = w → r < q → (∀ j, j < i * w + x → s j = q_by (a_t_indices (plc w h il j))) → ∃ s', (∀ j, j < i * w + w → s' j = q_by (a_t_indices (plc w h il j))) ∧ (f_M_writeGif_L414 K t_outSize t_bitBuffer t_bitCount t_keyCount t_codeWidth t_codeNext t_codeFirst a_t_widths a_t_heights a_t_images_3 a_t_keys a_t_indices a_t_images_2 a_t_images_1 a_t_images_0 a_t_out a_t_kids a_t_data x2 (nI w) x4 x8 x10 x12 (nI y) q s (nI (i * w + x)) (nI x)) = some (s', nI (i * w + w)) := by
  have hrow := row_in (w := w) hi
  have hrow2 := row_in (w := w) hyh
  intro r
  induction r with
  | zero =>
    intro x q s hx hq hs
    obtain ⟨q, rfl⟩ : ∃ w, q = w + 1 := ⟨q - 1, by omega⟩
    have e : x = w := by omega
    subst e
    refine ⟨s, hs, ?_⟩
    show (f_M_writeGif_414 K _ t_outSize t_bitBuffer t_bitCount t_keyCount t_codeWidth t_codeNext t_codeFirst a_t_widths a_t_heights a_t_images_3 a_t_keys a_t_indices a_t_images_2 a_t_images_1 a_t_images_0 a_t_out s a_t_kids a_t_data x2 (nI x) x4 x8 (nI (i * x + x)) x10 x12 (nI y) (nI x)) = _
    unfold f_M_writeGif_414
    rw [if_pos (nI_le (Nat.le_refl _) (by omega))]
  | succ r ih =>
    intro x q s hx hq hs
    obtain ⟨q, rfl⟩ : ∃ w, q = w + 1 := ⟨q - 1, by omega⟩
    obtain ⟨s', h1, h2⟩ := ih (x + 1) q (upd s (i * w + x) (q_by (a_t_indices (y * w + x)))) (by omega) (by omega) (fun j hj => by
      by_cases e : j = i * w + x
      · rw [e, upd_at, plc_at (by omega), hy]
      · rw [upd_ne _ _ e]
        exact hs j (by omega))
    refine ⟨s', h1, ?_⟩
    show (f_M_writeGif_414 K _ t_outSize t_bitBuffer t_bitCount t_keyCount t_codeWidth t_codeNext t_codeFirst a_t_widths a_t_heights a_t_images_3 a_t_keys a_t_indices a_t_images_2 a_t_images_1 a_t_images_0 a_t_out s a_t_kids a_t_data x2 (nI w) x4 x8 (nI (i * w + x)) x10 x12 (nI y) (nI x)) = _
    unfold f_M_writeGif_414
    rw [if_neg (nI_ge (by omega) (by omega)), pk_mul, nI_add, if_pos (q_inb (by omega) (by omega)), if_pos (q_inb (by omega) (by omega)), nI_clamp (by omega), nI_clamp (by omega), q_by2, nI_1, nI_1]
    exact h2
theorem rows404 {K w h s : Nat} (il : Bool) (hK : 16385 < K) (hw0 : 0 < w) (hwh : w * h ≤ 16384) (hs : s = 8 ∨ s = 4 ∨ s = 2 ∨ s = 1) {t_outSize : Int32} {t_bitBuffer : Int32} {t_bitCount : Int32} {t_keyCount : Int32} {t_codeWidth : Int32} {t_codeNext : Int32} {t_codeFirst : Int32} {a_t_widths : Nat → Int32} {a_t_heights : Nat → Int32} {a_t_images_3 : Nat → Int32} {a_t_keys : Nat → Int32} {a_t_indices : Nat → Int32} {a_t_images_2 : Nat → Int32} {a_t_images_1 : Nat → Int32} {a_t_images_0 : Nat → Int32} {a_t_out : Nat → Int32} {a_t_kids : Nat → Int32} {a_t_data : Nat → Int32} {x2 : Int32} {x8 : Int32} {x10 : Int32} : ∀ (c a i q : Nat) (r : Nat → Int32), c = (h + (s - 1) - a) / s → a < h + s → (∀ t, t < c → lk (ordL h il) (i + t) = a + s * t) → i + c ≤ h → c < q → (∀ j, j < i * w → r j = q_by (a_t_indices (plc w h il j))) → ∃ r', (∀ j, j < (i + c) * w → r' j = q_by (a_t_indices (plc w h il j))) ∧ (f_M_writeGif_L404 K t_outSize t_bitBuffer t_bitCount t_keyCount t_codeWidth t_codeNext t_codeFirst a_t_widths a_t_heights a_t_images_3 a_t_keys a_t_indices a_t_images_2 a_t_images_1 a_t_images_0 a_t_out a_t_kids a_t_data x2 (nI w) (nI h) x8 x10 (nI s) q r (nI (i * w)) (nI a)) = some (r', nI ((i + c) * w)) := by
  have hh : h ≤ 16384 := Nat.le_trans (Nat.le_mul_of_pos_left h hw0) hwh
  intro c
  induction c with
  | zero =>
    intro a i q r hc ha ho hi hq hr
    obtain ⟨q, rfl⟩ : ∃ w, q = w + 1 := ⟨q - 1, by omega⟩
    have hle : h ≤ a := by rcases hs with rfl | rfl | rfl | rfl <;> omega
    refine ⟨r, hr, ?_⟩
    show (f_M_writeGif_404 K _ t_outSize t_bitBuffer t_bitCount t_keyCount t_codeWidth t_codeNext t_codeFirst a_t_widths a_t_heights a_t_images_3 a_t_keys a_t_indices a_t_images_2 a_t_images_1 a_t_images_0 a_t_out r a_t_kids a_t_data x2 (nI w) (nI h) x8 (nI (i * w)) x10 (nI s) (nI a)) = _
    unfold f_M_writeGif_404
    rw [if_pos (nI_le hle (by rcases hs with rfl | rfl | rfl | rfl <;> omega))]
    rfl
  | succ c ih =>
    intro a i q r hc ha ho hi hq hr
    obtain ⟨q, rfl⟩ : ∃ w, q = w + 1 := ⟨q - 1, by omega⟩
    have hlt : a < h := by rcases hs with rfl | rfl | rfl | rfl <;> omega
    have hc2 : c = (h + (s - 1) - (a + s)) / s := by rcases hs with rfl | rfl | rfl | rfl <;> omega
    have hwl : w ≤ 16384 := Nat.le_trans (Nat.le_mul_of_pos_right w (show 0 < h by omega)) hwh
    obtain ⟨r1, g1, g2⟩ := @rows414 K w h i a il hwh (by omega) (by have := ho 0 (by omega); rw [Nat.add_zero, Nat.mul_zero, Nat.add_zero] at this; exact this) hlt t_outSize t_bitBuffer t_bitCount t_keyCount t_codeWidth t_codeNext t_codeFirst a_t_widths a_t_heights a_t_images_3 a_t_keys a_t_indices a_t_images_2 a_t_images_1 a_t_images_0 a_t_out a_t_kids a_t_data x2 (nI h) x8 x10 (nI s) w 0 K r (by omega) (by omega) (fun j hj => hr j (by omega))
    obtain ⟨r2, k1, k2⟩ := ih (a + s) (i + 1) q r1 hc2 (by omega) (fun t ht => by
      have := ho (t + 1) (by omega)
      rw [show i + 1 + t = i + (t + 1) by omega, this, Nat.mul_succ]
      omega) (by omega) (by omega) (fun j hj => g1 j (by rw [Nat.succ_mul] at hj; exact hj))
    refine ⟨r2, fun j hj => k1 j (by rw [show i + 1 + c = i + (c + 1) by omega]; exact hj), ?_⟩
    show (f_M_writeGif_404 K _ t_outSize t_bitBuffer t_bitCount t_keyCount t_codeWidth t_codeNext t_codeFirst a_t_widths a_t_heights a_t_images_3 a_t_keys a_t_indices a_t_images_2 a_t_images_1 a_t_images_0 a_t_out r a_t_kids a_t_data x2 (nI w) (nI h) x8 (nI (i * w)) x10 (nI s) (nI a)) = _
    unfold f_M_writeGif_404
    rw [if_neg (nI_ge hlt (by omega)), show (f_M_writeGif_L414 K t_outSize t_bitBuffer t_bitCount t_keyCount t_codeWidth t_codeNext t_codeFirst a_t_widths a_t_heights a_t_images_3 a_t_keys a_t_indices a_t_images_2 a_t_images_1 a_t_images_0 a_t_out a_t_kids a_t_data x2 (nI w) (nI h) x8 x10 (nI s) (nI a) K r (nI (i * w)) 0) = _ from g2, q_bind, nI_add]
    rw [Nat.succ_mul, show i + 1 + c = i + (c + 1) by omega] at k2
    exact k2
theorem ord_8 {h t : Nat} (ht : t < cn8 h) : lk (ordL h true) t = 8 * t := by
  show lk (((st 0 8 (cn8 h) ++ st 4 8 (cn4 h)) ++ st 2 4 (cn2 h)) ++ st 1 2 (cn1 h)) t = _
  rw [List.append_assoc, List.append_assoc, lk_l _ (by rw [st_len]; exact ht), st_lk _ _ _ _ ht, Nat.zero_add]
theorem ord_4 {h t : Nat} (ht : t < cn4 h) : lk (ordL h true) (cn8 h + t) = 4 + 8 * t := by
  show lk (((st 0 8 (cn8 h) ++ st 4 8 (cn4 h)) ++ st 2 4 (cn2 h)) ++ st 1 2 (cn1 h)) _ = _
  rw [List.append_assoc, List.append_assoc, show cn8 h + t = (st 0 8 (cn8 h)).length + t by rw [st_len], lk_r, lk_l _ (by rw [st_len]; exact ht), st_lk _ _ _ _ ht]
theorem ord_2 {h t : Nat} (ht : t < cn2 h) : lk (ordL h true) (cn8 h + cn4 h + t) = 2 + 4 * t := by
  show lk (((st 0 8 (cn8 h) ++ st 4 8 (cn4 h)) ++ st 2 4 (cn2 h)) ++ st 1 2 (cn1 h)) _ = _
  rw [List.append_assoc, show cn8 h + cn4 h + t = (st 0 8 (cn8 h) ++ st 4 8 (cn4 h)).length + t by rw [List.length_append, st_len, st_len], lk_r, lk_l _ (by rw [st_len]; exact ht), st_lk _ _ _ _ ht]
theorem ord_1 {h t : Nat} (ht : t < cn1 h) : lk (ordL h true) (cn8 h + cn4 h + cn2 h + t) = 1 + 2 * t := by
  show lk (((st 0 8 (cn8 h) ++ st 4 8 (cn4 h)) ++ st 2 4 (cn2 h)) ++ st 1 2 (cn1 h)) _ = _
  rw [show cn8 h + cn4 h + cn2 h + t = ((st 0 8 (cn8 h) ++ st 4 8 (cn4 h)) ++ st 2 4 (cn2 h)).length + t by rw [List.length_append, List.length_append, st_len, st_len, st_len], lk_r, st_lk _ _ _ _ ht]
theorem rowsOk {K w h : Nat} (il : Bool) (hK : 16385 < K) (hw0 : 0 < w) (hwh : w * h ≤ 16384) {t_outSize : Int32} {t_bitBuffer : Int32} {t_bitCount : Int32} {t_keyCount : Int32} {t_codeWidth : Int32} {t_codeNext : Int32} {t_codeFirst : Int32} {a_t_widths : Nat → Int32} {a_t_heights : Nat → Int32} {a_t_images_3 : Nat → Int32} {a_t_keys : Nat → Int32} {a_t_indices : Nat → Int32} {a_t_images_2 : Nat → Int32} {a_t_images_1 : Nat → Int32} {a_t_images_0 : Nat → Int32} {a_t_out : Nat → Int32} {a_t_kids : Nat → Int32} {a_t_data : Nat → Int32} {x8 : Int32} (r : Nat → Int32) : ∃ r', (∀ j, j < w * h → r' j = q_by (a_t_indices (plc w h il j))) ∧ (f_M_writeGif_L317 K t_outSize t_bitBuffer t_bitCount t_keyCount t_codeWidth t_codeNext t_codeFirst a_t_widths a_t_heights a_t_images_3 a_t_keys a_t_indices a_t_images_2 a_t_images_1 a_t_images_0 a_t_out a_t_kids a_t_data (cond il 1 0) (nI w) (nI h) x8 K r 0 0) = some (r', nI (w * h)) := by
  have hh : h ≤ 16384 := Nat.le_trans (Nat.le_mul_of_pos_left h hw0) hwh
  obtain ⟨q, hq⟩ : ∃ q, K = q + 5 := ⟨K - 5, by omega⟩
  have e8 : cn8 h = (h + 7) / 8 := rfl
  have e4 : cn4 h = (h + 3) / 8 := rfl
  have e2 : cn2 h = (h + 1) / 4 := rfl
  have e1 : cn1 h = h / 2 := rfl
  cases il
  · obtain ⟨r1, g1, g2⟩ := @rows404 K w h 1 false hK hw0 hwh (.inr (.inr (.inr rfl))) t_outSize t_bitBuffer t_bitCount t_keyCount t_codeWidth t_codeNext t_codeFirst a_t_widths a_t_heights a_t_images_3 a_t_keys a_t_indices a_t_images_2 a_t_images_1 a_t_images_0 a_t_out a_t_kids a_t_data 0 x8 0 h 0 0 K r (by omega) (by omega) (fun t ht => by rw [Nat.zero_add]; exact st_lk 1 h 0 t ht) (by omega) (by omega) (fun j hj => absurd hj (by omega))
    rw [Nat.zero_add, Nat.mul_comm h w] at g1 g2
    rw [Nat.zero_mul] at g2
    refine ⟨r1, g1, ?_⟩
    have hL : (f_M_writeGif_L317 K t_outSize t_bitBuffer t_bitCount t_keyCount t_codeWidth t_codeNext t_codeFirst a_t_widths a_t_heights a_t_images_3 a_t_keys a_t_indices a_t_images_2 a_t_images_1 a_t_images_0 a_t_out a_t_kids a_t_data 0 (nI w) (nI h) x8 (q + 5) r 0 0) = some (r1, nI (w * h)) := by
      show (f_M_writeGif_317 K ((f_M_writeGif_L317 K t_outSize t_bitBuffer t_bitCount t_keyCount t_codeWidth t_codeNext t_codeFirst a_t_widths a_t_heights a_t_images_3 a_t_keys a_t_indices a_t_images_2 a_t_images_1 a_t_images_0 a_t_out a_t_kids a_t_data 0 (nI w) (nI h) x8) (q + 4)) t_outSize t_bitBuffer t_bitCount t_keyCount t_codeWidth t_codeNext t_codeFirst a_t_widths a_t_heights a_t_images_3 a_t_keys a_t_indices a_t_images_2 a_t_images_1 a_t_images_0 a_t_out r a_t_kids a_t_data 0 (nI w) (nI h) x8 0 0) = _
      unfold f_M_writeGif_317
      rw [if_neg (by decide)]
      unfold f_M_writeGif_329
      rw [if_neg (by decide), if_pos rfl]
      unfold f_M_writeGif_341 f_M_writeGif_366
      rw [if_pos rfl]
      unfold f_M_writeGif_398
      rw [show (f_M_writeGif_L404 K t_outSize t_bitBuffer t_bitCount t_keyCount t_codeWidth t_codeNext t_codeFirst a_t_widths a_t_heights a_t_images_3 a_t_keys a_t_indices a_t_images_2 a_t_images_1 a_t_images_0 a_t_out a_t_kids a_t_data 0 (nI w) (nI h) x8 0 1 K r 0 0) = _ from g2, q_bind]
      show (f_M_writeGif_317 K ((f_M_writeGif_L317 K t_outSize t_bitBuffer t_bitCount t_keyCount t_codeWidth t_codeNext t_codeFirst a_t_widths a_t_heights a_t_images_3 a_t_keys a_t_indices a_t_images_2 a_t_images_1 a_t_images_0 a_t_out a_t_kids a_t_data 0 (nI w) (nI h) x8) (q + 3)) t_outSize t_bitBuffer t_bitCount t_keyCount t_codeWidth t_codeNext t_codeFirst a_t_widths a_t_heights a_t_images_3 a_t_keys a_t_indices a_t_images_2 a_t_images_1 a_t_images_0 a_t_out r1 a_t_kids a_t_data 0 (nI w) (nI h) x8 (nI (w * h)) (0 + 1)) = _
      unfold f_M_writeGif_317
      rw [if_neg (by decide)]
      unfold f_M_writeGif_329
      rw [if_pos (by decide)]
    rw [← hq] at hL
    exact hL
  · obtain ⟨r1, g1, g2⟩ := @rows404 K w h 8 true hK hw0 hwh (.inl rfl) t_outSize t_bitBuffer t_bitCount t_keyCount t_codeWidth t_codeNext t_codeFirst a_t_widths a_t_heights a_t_images_3 a_t_keys a_t_indices a_t_images_2 a_t_images_1 a_t_images_0 a_t_out a_t_kids a_t_data 1 x8 0 (cn8 h) 0 0 K r (by omega) (by omega) (fun t ht => by rw [Nat.zero_add, ord_8 ht, Nat.zero_add]) (by omega) (by omega) (fun j hj => absurd hj (by omega))
    obtain ⟨r2, g3, g4⟩ := @rows404 K w h 8 true hK hw0 hwh (.inl rfl) t_outSize t_bitBuffer t_bitCount t_keyCount t_codeWidth t_codeNext t_codeFirst a_t_widths a_t_heights a_t_images_3 a_t_keys a_t_indices a_t_images_2 a_t_images_1 a_t_images_0 a_t_out a_t_kids a_t_data 1 x8 1 (cn4 h) 4 (cn8 h) K r1 (by omega) (by omega) (fun t ht => ord_4 ht) (by omega) (by omega) (fun j hj => g1 j (by rw [Nat.zero_add]; exact hj))
    obtain ⟨r3, g5, g6⟩ := @rows404 K w h 4 true hK hw0 hwh (.inr (.inl rfl)) t_outSize t_bitBuffer t_bitCount t_keyCount t_codeWidth t_codeNext t_codeFirst a_t_widths a_t_heights a_t_images_3 a_t_keys a_t_indices a_t_images_2 a_t_images_1 a_t_images_0 a_t_out a_t_kids a_t_data 1 x8 2 (cn2 h) 2 (cn8 h + cn4 h) K r2 (by omega) (by omega) (fun t ht => ord_2 ht) (by omega) (by omega) g3
    obtain ⟨r4, g7, g8⟩ := @rows404 K w h 2 true hK hw0 hwh (.inr (.inr (.inl rfl))) t_outSize t_bitBuffer t_bitCount t_keyCount t_codeWidth t_codeNext t_codeFirst a_t_widths a_t_heights a_t_images_3 a_t_keys a_t_indices a_t_images_2 a_t_images_1 a_t_images_0 a_t_out a_t_kids a_t_data 1 x8 3 (cn1 h) 1 (cn8 h + cn4 h + cn2 h) K r3 (by omega) (by omega) (fun t ht => ord_1 ht) (by omega) (by omega) g5
    rw [Nat.zero_mul, Nat.zero_add] at g2
    rw [show cn8 h + cn4 h + cn2 h + cn1 h = h by omega, Nat.mul_comm h w] at g7 g8
    refine ⟨r4, g7, ?_⟩
    have hL : (f_M_writeGif_L317 K t_outSize t_bitBuffer t_bitCount t_keyCount t_codeWidth t_codeNext t_codeFirst a_t_widths a_t_heights a_t_images_3 a_t_keys a_t_indices a_t_images_2 a_t_images_1 a_t_images_0 a_t_out a_t_kids a_t_data 1 (nI w) (nI h) x8 (q + 5) r 0 0) = some (r4, nI (w * h)) := by
      show (f_M_writeGif_317 K ((f_M_writeGif_L317 K t_outSize t_bitBuffer t_bitCount t_keyCount t_codeWidth t_codeNext t_codeFirst a_t_widths a_t_heights a_t_images_3 a_t_keys a_t_indices a_t_images_2 a_t_images_1 a_t_images_0 a_t_out a_t_kids a_t_data 1 (nI w) (nI h) x8) (q + 4)) t_outSize t_bitBuffer t_bitCount t_keyCount t_codeWidth t_codeNext t_codeFirst a_t_widths a_t_heights a_t_images_3 a_t_keys a_t_indices a_t_images_2 a_t_images_1 a_t_images_0 a_t_out r a_t_kids a_t_data 1 (nI w) (nI h) x8 0 0) = _
      unfold f_M_writeGif_317
      rw [if_pos rfl]
      unfold f_M_writeGif_329
      rw [if_neg (by decide), if_neg (by decide), if_pos rfl]
      unfold f_M_writeGif_341 f_M_writeGif_366
      rw [if_neg (by decide), if_neg (by decide)]
      unfold f_M_writeGif_398
      rw [show (f_M_writeGif_L404 K t_outSize t_bitBuffer t_bitCount t_keyCount t_codeWidth t_codeNext t_codeFirst a_t_widths a_t_heights a_t_images_3 a_t_keys a_t_indices a_t_images_2 a_t_images_1 a_t_images_0 a_t_out a_t_kids a_t_data 1 (nI w) (nI h) x8 0 8 K r 0 0) = _ from g2, q_bind]
      show (f_M_writeGif_317 K ((f_M_writeGif_L317 K t_outSize t_bitBuffer t_bitCount t_keyCount t_codeWidth t_codeNext t_codeFirst a_t_widths a_t_heights a_t_images_3 a_t_keys a_t_indices a_t_images_2 a_t_images_1 a_t_images_0 a_t_out a_t_kids a_t_data 1 (nI w) (nI h) x8) (q + 3)) t_outSize t_bitBuffer t_bitCount t_keyCount t_codeWidth t_codeNext t_codeFirst a_t_widths a_t_heights a_t_images_3 a_t_keys a_t_indices a_t_images_2 a_t_images_1 a_t_images_0 a_t_out r1 a_t_kids a_t_data 1 (nI w) (nI h) x8 (nI (cn8 h * w)) 1) = _
      unfold f_M_writeGif_317
      rw [if_pos rfl]
      unfold f_M_writeGif_329
      rw [if_neg (by decide), if_neg (by decide), if_neg (by decide), if_pos rfl]
      unfold f_M_writeGif_366
      rw [if_neg (by decide), if_neg (by decide)]
      unfold f_M_writeGif_398
      rw [show (f_M_writeGif_L404 K t_outSize t_bitBuffer t_bitCount t_keyCount t_codeWidth t_codeNext t_codeFirst a_t_widths a_t_heights a_t_images_3 a_t_keys a_t_indices a_t_images_2 a_t_images_1 a_t_images_0 a_t_out a_t_kids a_t_data 1 (nI w) (nI h) x8 1 8 K r1 (nI (cn8 h * w)) 4) = _ from g4, q_bind]
      show (f_M_writeGif_317 K ((f_M_writeGif_L317 K t_outSize t_bitBuffer t_bitCount t_keyCount t_codeWidth t_codeNext t_codeFirst a_t_widths a_t_heights a_t_images_3 a_t_keys a_t_indices a_t_images_2 a_t_images_1 a_t_images_0 a_t_out a_t_kids a_t_data 1 (nI w) (nI h) x8) (q + 2)) t_outSize t_bitBuffer t_bitCount t_keyCount t_codeWidth t_codeNext t_codeFirst a_t_widths a_t_heights a_t_images_3 a_t_keys a_t_indices a_t_images_2 a_t_images_1 a_t_images_0 a_t_out r2 a_t_kids a_t_data 1 (nI w) (nI h) x8 (nI ((cn8 h + cn4 h) * w)) 2) = _
      unfold f_M_writeGif_317
      rw [if_pos rfl]
      unfold f_M_writeGif_329
      rw [if_neg (by decide), if_neg (by decide), if_neg (by decide), if_neg (by decide), if_pos rfl]
      unfold f_M_writeGif_366
      rw [if_neg (by decide), if_pos (by decide), if_pos rfl]
      unfold f_M_writeGif_398
      rw [show (f_M_writeGif_L404 K t_outSize t_bitBuffer t_bitCount t_keyCount t_codeWidth t_codeNext t_codeFirst a_t_widths a_t_heights a_t_images_3 a_t_keys a_t_indices a_t_images_2 a_t_images_1 a_t_images_0 a_t_out a_t_kids a_t_data 1 (nI w) (nI h) x8 2 4 K r2 (nI ((cn8 h + cn4 h) * w)) 2) = _ from g6, q_bind]
      show (f_M_writeGif_317 K ((f_M_writeGif_L317 K t_outSize t_bitBuffer t_bitCount t_keyCount t_codeWidth t_codeNext t_codeFirst a_t_widths a_t_heights a_t_images_3 a_t_keys a_t_indices a_t_images_2 a_t_images_1 a_t_images_0 a_t_out a_t_kids a_t_data 1 (nI w) (nI h) x8) (q + 1)) t_outSize t_bitBuffer t_bitCount t_keyCount t_codeWidth t_codeNext t_codeFirst a_t_widths a_t_heights a_t_images_3 a_t_keys a_t_indices a_t_images_2 a_t_images_1 a_t_images_0 a_t_out r3 a_t_kids a_t_data 1 (nI w) (nI h) x8 (nI ((cn8 h + cn4 h + cn2 h) * w)) 3) = _
      unfold f_M_writeGif_317
      rw [if_pos rfl]
      unfold f_M_writeGif_329
      rw [if_neg (by decide), if_neg (by decide), if_neg (by decide), if_neg (by decide), if_neg (by decide)]
      unfold f_M_writeGif_366
      rw [if_neg (by decide), if_pos (by decide), if_neg (by decide)]
      unfold f_M_writeGif_398
      rw [show (f_M_writeGif_L404 K t_outSize t_bitBuffer t_bitCount t_keyCount t_codeWidth t_codeNext t_codeFirst a_t_widths a_t_heights a_t_images_3 a_t_keys a_t_indices a_t_images_2 a_t_images_1 a_t_images_0 a_t_out a_t_kids a_t_data 1 (nI w) (nI h) x8 3 2 K r3 (nI ((cn8 h + cn4 h + cn2 h) * w)) 1) = _ from g8, q_bind]
      show (f_M_writeGif_317 K ((f_M_writeGif_L317 K t_outSize t_bitBuffer t_bitCount t_keyCount t_codeWidth t_codeNext t_codeFirst a_t_widths a_t_heights a_t_images_3 a_t_keys a_t_indices a_t_images_2 a_t_images_1 a_t_images_0 a_t_out a_t_kids a_t_data 1 (nI w) (nI h) x8) q) t_outSize t_bitBuffer t_bitCount t_keyCount t_codeWidth t_codeNext t_codeFirst a_t_widths a_t_heights a_t_images_3 a_t_keys a_t_indices a_t_images_2 a_t_images_1 a_t_images_0 a_t_out r4 a_t_kids a_t_data 1 (nI w) (nI h) x8 (nI (w * h)) 4) = _
      unfold f_M_writeGif_317
      rw [if_pos rfl]
      unfold f_M_writeGif_329
      rw [if_pos (by decide)]
    rw [← hq] at hL
    exact hL
