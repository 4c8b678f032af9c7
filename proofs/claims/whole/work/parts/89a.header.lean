/-! the pure half: a PNG file's header -/
def crcV (b : Nat → Int32) (i t : Nat) : Nat := (crcF b i t).toNat
theorem crcV_lt (b : Nat → Int32) (i t : Nat) : crcV b i t < 2 ^ 32 := (crcF b i t).isLt
theorem crcV_tv {b b' : Nat → Int32} {i t : Nat} (h : ∀ j, i ≤ j → j < t → tv b j = tv b' j) : crcV b i t = crcV b' i t := by
  by_cases c : i ≤ t
  · unfold crcV crcF
    rw [cr_f_tv (g := b') (t - i) i _ (fun j g1 g2 => h j g1 (by omega))]
  · unfold crcV crcF
    rw [show t - i = 0 by omega]
    rfl
theorem crcV_D {K N i t : Nat} (hN : N < 2 ^ 31) (hit : i ≤ t) (ht : t ≤ N) (hK : N < K) (b : Nat → Int32) : f_D_crcOf K N (nI i) (nI t) b = some (nI (crcV b i t), ()) := by
  obtain ⟨c, h1, h2⟩ := crcD_ok (K := K) hN hit ht hK b
  rw [h1]
  refine congrArg (fun z => some (z, ())) (nI_tn ?_)
  rw [h2]
  rfl
theorem crcV_M {K N i t : Nat} (hN : N < 2 ^ 31) (hit : i ≤ t) (ht : t ≤ N) (hK : N + 9 < K) (b : Nat → Int32) : f_M_crc K N (nI i) (nI t) b = some (lN (crcV b i t), ()) := by
  obtain ⟨x, h3, h4⟩ := crcM_ok (K := K) hN hit ht hK b
  rw [h3, Rx_lN h4]
  rfl
theorem sub_lt {a b c : Nat} (ha : a < 2 ^ 30) (hb : b < 2 ^ 30) (hc : c < 2 ^ 31) : nI a - nI b < nI c ↔ a < c + b := by
  rw [Int32.lt_iff_toInt_lt, pk_sub_toInt ha hb, nI_toInt hc]
  omega
theorem open_gq {K n p : Nat} (hK : 600000 < K) (hn : n ≤ 65536) (hp : p ≤ n) {T : Nat → Int32} {t : Nat → Nat} (ht : Tf p n T t) (pl pc : Int32) : Gq (p + 12 + bg4 t p ≤ n) (fun m => m = some (.inl (nI (bg4 t (p + 4)), (nI (bg4 t p), nI (crcV T (p + 4) (p + 8 + bg4 t p)), nI (p + 8))))) (f_PngReader_openPart K pl pc (nI p) (nI n) T) := by
  unfold f_PngReader_openPart f_PngReader_openPart_39 f_PngReader_openPart_40
  refine Gq.try (big4_ex hp hn ht) (fun u => ⟨_, rfl⟩) (fun h => by omega) (fun h1 => ?_)
  dsimp only
  have hb := bg4_lt ht.2 p
  by_cases c1 : bg4 t p < 2 ^ 31
  rotate_left
  · rw [if_pos (nI_neg (by omega) hb), need0, q_tryR]
    exact Gq.no (fun h => by omega) ⟨_, rfl⟩
  rw [if_neg (nI_pos c1)]
  unfold f_Source_left
  rw [q_bind, pk_sub h1]
  dsimp only
  by_cases c2 : p + 12 + bg4 t p ≤ n
  rotate_left
  · rw [if_pos (show nI (n - (p + 4)) - 8 < nI (bg4 t p) from (sub_lt (b := 8) (by omega) (by omega) c1).mpr (by omega)), need0, q_tryR]
    exact Gq.no (fun h => by omega) ⟨_, rfl⟩
  rw [if_neg (show ¬ nI (n - (p + 4)) - 8 < nI (bg4 t p) from fun q => by have := (sub_lt (b := 8) (by omega) (by omega) c1).mp q; omega), need1, q_tryL]
  unfold f_Source_crcAhead f_Source_crcAhead_17 f_Source_left
  rw [show nI (bg4 t p) + 4 = nI (bg4 t p + 4) from nI_add _ 4, if_neg (nI_pos (by omega)), q_bind, pk_sub h1, if_neg (nI_nlt (by omega) (by omega)), need1, q_tryL, nI_add, crcV_D (by omega) (by omega) (by omega) (by omega), q_bind, q_tryL, (big4_ex h1 hn (ht.mono (by omega))).1 (by omega), q_tryL, show p + 4 + (bg4 t p + 4) = p + 8 + bg4 t p by omega]
  exact Gq.yes c2 rfl
theorem close_gq {n p c : Nat} (hn : n ≤ 65536) (hp : p ≤ n) (hc : c < 2 ^ 32) {T : Nat → Int32} {t : Nat → Nat} (ht : Tf p n T t) : Ex (p + 4 ≤ n ∧ bg4 t p = c) ((), nI (p + 4)) (f_PngReader_closePart (nI c) (nI p) (nI n) T) := by
  unfold f_PngReader_closePart f_PngReader_closePart_19
  refine Ex.gq (Gq.try (big4_ex hp hn ht) (fun u => ⟨_, rfl⟩) (fun h => h.1) (fun h1 => ?_))
  dsimp only
  by_cases c1 : bg4 t p = c
  · rw [if_pos (show nI (bg4 t p) = nI c by rw [c1]), need1, q_tryL]
    exact Gq.yes ⟨h1, c1⟩ rfl
  · rw [if_neg (show ¬ nI (bg4 t p) = nI c from fun q => c1 ((nI_eq32 (bg4_lt ht.2 p) hc).mp q)), need0, q_tryR]
    exact Gq.no (fun q => c1 q.2) ⟨_, rfl⟩
/-- kind and depth -/
def kd (k d : Nat) : Prop := (k = 0 ∧ (d = 1 ∨ d = 2 ∨ d = 4 ∨ d = 8 ∨ d = 16)) ∨ (k = 3 ∧ (d = 1 ∨ d = 2 ∨ d = 4 ∨ d = 8)) ∨ ((k = 2 ∨ k = 4 ∨ k = 6) ∧ (d = 8 ∨ d = 16))
theorem nIc {a b : Nat} (ha : a < 256) (hb : b < 256) : (nI a = nI b) = (a = b) := propext (nI_eq32 (by omega) (by omega))
theorem kd_M {α : Type} {k d : Nat} (hk : k < 256) (hd : d < 256) (X Y : α) : (kd k d → (if nI k = 0 then (if nI d = 1 then X else if nI d = 2 then X else if nI d = 4 then X else if nI d = 8 then X else if nI d = 16 then X else Y) else if nI k = 3 then (if nI d = 1 then X else if nI d = 2 then X else if nI d = 4 then X else if nI d = 8 then X else Y) else if nI k = 2 then (if nI d = 8 then X else if nI d = 16 then X else Y) else if nI k = 4 then (if nI d = 8 then X else if nI d = 16 then X else Y) else if nI k = 6 then (if nI d = 8 then X else if nI d = 16 then X else Y) else Y) = X) ∧ (¬ kd k d → (if nI k = 0 then (if nI d = 1 then X else if nI d = 2 then X else if nI d = 4 then X else if nI d = 8 then X else if nI d = 16 then X else Y) else if nI k = 3 then (if nI d = 1 then X else if nI d = 2 then X else if nI d = 4 then X else if nI d = 8 then X else Y) else if nI k = 2 then (if nI d = 8 then X else if nI d = 16 then X else Y) else if nI k = 4 then (if nI d = 8 then X else if nI d = 16 then X else Y) else if nI k = 6 then (if nI d = 8 then X else if nI d = 16 then X else Y) else Y) = Y) := by
  have e0 : (nI k = 0) = (k = 0) := nIc (b := 0) hk (by omega)
  have e2 : (nI k = 2) = (k = 2) := nIc (b := 2) hk (by omega)
  have e3 : (nI k = 3) = (k = 3) := nIc (b := 3) hk (by omega)
  have e4 : (nI k = 4) = (k = 4) := nIc (b := 4) hk (by omega)
  have e6 : (nI k = 6) = (k = 6) := nIc (b := 6) hk (by omega)
  have f1 : (nI d = 1) = (d = 1) := nIc (b := 1) hd (by omega)
  have f2 : (nI d = 2) = (d = 2) := nIc (b := 2) hd (by omega)
  have f4 : (nI d = 4) = (d = 4) := nIc (b := 4) hd (by omega)
  have f8 : (nI d = 8) = (d = 8) := nIc (b := 8) hd (by omega)
  have f16 : (nI d = 16) = (d = 16) := nIc (b := 16) hd (by omega)
  simp only [e0, e2, e3, e4, e6, f1, f2, f4, f8, f16]
  clear e0 e2 e3 e4 e6 f1 f2 f4 f8 f16
  unfold kd
  have hk2 : k = 0 ∨ k = 2 ∨ k = 3 ∨ k = 4 ∨ k = 6 ∨ (¬ k = 0 ∧ ¬ k = 2 ∧ ¬ k = 3 ∧ ¬ k = 4 ∧ ¬ k = 6) := by omega
  have hd2 : d = 1 ∨ d = 2 ∨ d = 4 ∨ d = 8 ∨ d = 16 ∨ (¬ d = 1 ∧ ¬ d = 2 ∧ ¬ d = 4 ∧ ¬ d = 8 ∧ ¬ d = 16) := by omega
  rcases hk2 with rfl | rfl | rfl | rfl | rfl | ⟨k0, k2, k3, k4, k6⟩ <;> rcases hd2 with rfl | rfl | rfl | rfl | rfl | ⟨d1, d2, d4, d8, d16⟩ <;> simp [*]
theorem kd_D {k d : Nat} (hk : k < 256) (hd : d < 256) : (kd k d → f_PngReader_kindHasDepth (nI d) (nI k) = some (1, ())) ∧ (¬ kd k d → f_PngReader_kindHasDepth (nI d) (nI k) = some (0, ())) := by
  unfold f_PngReader_kindHasDepth f_PngReader_kindHasDepth_24 f_PngReader_kindHasDepth_29 f_PngReader_kindHasDepth_98 f_PngReader_kindHasDepth_103 f_PngReader_kindHasDepth_117 f_PngReader_kindHasDepth_122 f_PngReader_kindHasDepth_141 f_PngReader_kindHasDepth_146
  have e0 : (nI k = 0) = (k = 0) := nIc (b := 0) hk (by omega)
  have e1 : (nI k = 1) = (k = 1) := nIc (b := 1) hk (by omega)
  have e2 : (nI k = 2) = (k = 2) := nIc (b := 2) hk (by omega)
  have e3 : (nI k = 3) = (k = 3) := nIc (b := 3) hk (by omega)
  have e4 : (nI k = 4) = (k = 4) := nIc (b := 4) hk (by omega)
  have e5 : (nI k = 5) = (k = 5) := nIc (b := 5) hk (by omega)
  have e6 : (nI k = 6) = (k = 6) := nIc (b := 6) hk (by omega)
  have f1 : (nI d = 1) = (d = 1) := nIc (b := 1) hd (by omega)
  have f2 : (nI d = 2) = (d = 2) := nIc (b := 2) hd (by omega)
  have f4 : (nI d = 4) = (d = 4) := nIc (b := 4) hd (by omega)
  have f8 : (nI d = 8) = (d = 8) := nIc (b := 8) hd (by omega)
  have f16 : (nI d = 16) = (d = 16) := nIc (b := 16) hd (by omega)
  simp only [e0, e1, e2, e3, e4, e5, e6, f1, f2, f4, f8, f16]
  clear e0 e1 e2 e3 e4 e5 e6 f1 f2 f4 f8 f16
  unfold kd
  have hk2 : k = 0 ∨ k = 1 ∨ k = 2 ∨ k = 3 ∨ k = 4 ∨ k = 5 ∨ k = 6 ∨ (¬ k = 0 ∧ ¬ k = 1 ∧ ¬ k = 2 ∧ ¬ k = 3 ∧ ¬ k = 4 ∧ ¬ k = 5 ∧ ¬ k = 6) := by omega
  have hd2 : d = 1 ∨ d = 2 ∨ d = 4 ∨ d = 8 ∨ d = 16 ∨ (¬ d = 1 ∧ ¬ d = 2 ∧ ¬ d = 4 ∧ ¬ d = 8 ∧ ¬ d = 16) := by omega
  rcases hk2 with rfl | rfl | rfl | rfl | rfl | rfl | rfl | ⟨k0, k1, k2, k3, k4, k5, k6⟩ <;> rcases hd2 with rfl | rfl | rfl | rfl | rfl | ⟨d1, d2, d4, d8, d16⟩ <;> simp [*]
/-- four letters -/
def nm (t : Nat → Nat) (p a b c d : Nat) : Prop := t p = a ∧ t (p + 1) = b ∧ t (p + 2) = c ∧ t (p + 3) = d
theorem nm_iff {t : Nat → Nat} (hb : ∀ j, t j < 256) (p : Nat) {a b c d : Nat} (ha : a < 256) (hbb : b < 256) (hc : c < 256) (hd : d < 256) : bg4 t p = (a * 256 + b) * 65536 + (c * 256 + d) ↔ nm t p a b c d := by
  have h0 := hb p
  have h1 := hb (p + 1)
  have h2 := hb (p + 2)
  have h3 := hb (p + 3)
  unfold bg4 bg2 nm
  rw [show p + 2 + 1 = p + 3 by omega]
  omega
def hOK (n : Nat) (t : Nat → Nat) (TM : Nat → Int32) : Prop := 33 ≤ n ∧ bg4 t 8 = 13 ∧ nm t 12 73 72 68 82 ∧ 0 < bg4 t 16 ∧ bg4 t 16 < 2 ^ 31 ∧ 0 < bg4 t 20 ∧ bg4 t 20 < 2 ^ 31 ∧ kd (t 25) (t 24) ∧ t 26 = 0 ∧ t 27 = 0 ∧ t 28 ≤ 1 ∧ crcV TM 12 29 = bg4 t 29
theorem nI_le0 {a : Nat} (ha : a < 2 ^ 32) : nI a ≤ 0 ↔ a = 0 ∨ 2 ^ 31 ≤ a := by
  by_cases c : a < 2 ^ 31
  · rw [show (0 : Int32) = nI 0 from rfl, nI_leI c (by omega)]
    omega
  · exact ⟨fun _ => Or.inr (by omega), fun _ => Int32.le_of_lt (nI_neg (by omega) ha)⟩
theorem head_D {K n : Nat} (hK : 600000 < K) (hn : n ≤ 65536) (h8 : 8 ≤ n) {T TM : Nat → Int32} {t : Nat → Nat} (ht : Tb n T t) (htM : Tb n TM t) {t_depth : Int32} {t_kind : Int32} {t_isInterlaced : Int32} {t_partLength : Int32} {t_partCrc : Int32} {p1_width : Int32} {p1_height : Int32} : Gq (hOK n t TM) (fun m => if bg4 t 16 * bg4 t 20 ≤ 16384 then ∃ pl pc, m = some (.inl ((), (nI (t 24), nI (t 25), nI (t 28), pl, pc, nI 33, nI (bg4 t 16), nI (bg4 t 20)))) else Th 4 m) (f_PngReader_takeHeader K t_depth t_kind t_isInterlaced t_partLength t_partCrc (nI 8) (nI n) T p1_width p1_height) := by
  unfold f_PngReader_takeHeader
  have h22 : ∀ pl pc A, Th 3 (f_PngReader_takeHeader_22 K t_depth t_kind t_isInterlaced pl pc A (nI n) T p1_width p1_height) := by
    intro pl pc A
    unfold f_PngReader_takeHeader_22 f_PngReader_takeHeader_23
    rw [need0, q_tryR]
    exact ⟨_, rfl⟩
  have hO := open_gq hK hn h8 (Tf.of ht 8) t_partLength t_partCrc
  have hT : ∀ p, Tf p n T t := fun p => Tf.of ht p
  by_cases c0 : 8 + 12 + bg4 t 8 ≤ n
  rotate_left
  · obtain ⟨u, hu⟩ := hO.2 c0
    rw [hu, q_tryR]
    exact Gq.no (fun q => c0 (by have := q.1; have := q.2.1; omega)) ⟨_, rfl⟩
  rw [hO.1 c0, q_tryL]
  clear hO
  dsimp only
  by_cases c1 : nm t 12 73 72 68 82
  rotate_left
  · have := nm_iff ht.2 12 (a := 73) (b := 72) (c := 68) (d := 82) (by omega) (by omega) (by omega) (by omega)
    rw [if_neg (show ¬ nI (bg4 t (8 + 4)) = 1229472850 from fun q => c1 (this.mp ((nI_eq32 (bg4_lt ht.2 _) (b := 1229472850) (by omega)).mp q)))]
    exact Gq.no (fun q => c1 q.2.2.1) (h22 _ _ _)
  have e1 := (nm_iff ht.2 12 (a := 73) (b := 72) (c := 68) (d := 82) (by omega) (by omega) (by omega) (by omega)).mpr c1
  rw [if_pos (show nI (bg4 t (8 + 4)) = 1229472850 by rw [show bg4 t (8 + 4) = _ from e1]; rfl)]
  by_cases c2 : bg4 t 8 = 13
  rotate_left
  · rw [if_neg (show ¬ nI (bg4 t 8) = 13 from fun q => c2 ((nI_eq32 (bg4_lt ht.2 _) (b := 13) (by omega)).mp q))]
    exact Gq.no (fun q => c2 q.2.1) (h22 _ _ _)
  rw [c2] at c0
  rw [if_pos (show nI (bg4 t 8) = 13 by rw [c2]; rfl), c2]
  clear h22 e1
  unfold f_PngReader_takeHeader_23
  rw [need1, q_tryL, (big4_ex (show 16 ≤ n by omega) hn (hT _)).1 (by omega), q_tryL]
  dsimp only
  rw [(big4_ex (show 20 ≤ n by omega) hn (hT _)).1 (by omega), q_tryL]
  dsimp only
  rw [(next_exF (show 24 ≤ n by omega) hn (hT _)).1 (by omega), q_tryL]
  dsimp only
  rw [(next_exF (show 25 ≤ n by omega) hn (hT _)).1 (by omega), q_tryL]
  dsimp only
  have h76 : Th 3 (f_PngReader_takeHeader_76 K (nI (t 24)) (nI (t 25)) t_isInterlaced (nI 13) (nI (crcV T (8 + 4) (8 + 8 + 13))) (nI (25 + 1)) (nI n) T p1_width p1_height (nI (bg4 t 16)) (nI (bg4 t 20))) := by
    unfold f_PngReader_takeHeader_76 f_PngReader_takeHeader_77
    rw [need0, q_tryR]
    exact ⟨_, rfl⟩
  have bw := bg4_lt ht.2 16
  have bh := bg4_lt ht.2 20
  by_cases c3 : bg4 t 16 = 0 ∨ 2 ^ 31 ≤ bg4 t 16
  · rw [if_pos ((nI_le0 bw).mpr c3)]
    exact Gq.no (fun q => by have := q.2.2.2.1; have := q.2.2.2.2.1; omega) h76
  rw [if_neg (fun q => c3 ((nI_le0 bw).mp q))]
  by_cases c4 : bg4 t 20 = 0 ∨ 2 ^ 31 ≤ bg4 t 20
  · rw [if_pos ((nI_le0 bh).mpr c4)]
    exact Gq.no (fun q => by have := q.2.2.2.2.2.1; have := q.2.2.2.2.2.2.1; omega) h76
  rw [if_neg (fun q => c4 ((nI_le0 bh).mp q))]
  clear h76
  unfold f_PngReader_takeHeader_77
  have hk := kd_D (ht.2 25) (ht.2 24)
  by_cases c5 : kd (t 25) (t 24)
  rotate_left
  · rw [need1, q_tryL, hk.2 c5, q_bind, need0, q_tryR]
    exact Gq.no (fun q => c5 q.2.2.2.2.2.2.2.1) ⟨_, rfl⟩
  rw [need1, q_tryL, hk.1 c5, q_bind, need1, q_tryL, (big2_exN (show 26 ≤ n by omega) hn (hT _)).1 (by omega), q_tryL]
  dsimp only
  unfold f_PngReader_takeHeader_102
  have b26 := ht.2 26
  have b27 := ht.2 27
  by_cases c6 : t 26 = 0 ∧ t 27 = 0
  rotate_left
  · rw [if_neg (show ¬ nI (bg2 t 26) = 0 from nI_ne0 (by rw [show bg2 t 26 = t 26 * 256 + t 27 from rfl]; omega) (by rw [show bg2 t 26 = t 26 * 256 + t 27 from rfl]; omega)), need0, q_tryR]
    exact Gq.no (fun q => c6 ⟨q.2.2.2.2.2.2.2.2.1, q.2.2.2.2.2.2.2.2.2.1⟩) ⟨_, rfl⟩
  rw [if_pos (show nI (bg2 t 26) = 0 by rw [show bg2 t 26 = t 26 * 256 + t 27 from rfl, c6.1, c6.2]; rfl), need1, q_tryL, (next_exF (show 28 ≤ n by omega) hn (hT _)).1 (by omega), q_tryL]
  dsimp only
  unfold f_PngReader_takeHeader_125
  have b28 := ht.2 28
  by_cases c7 : t 28 ≤ 1
  rotate_left
  · rw [if_pos (show (1 : Int32) < nI (t 28) from nI_lt (a := 1) (by omega) (by omega)), need0, q_tryR]
    exact Gq.no (fun q => c7 q.2.2.2.2.2.2.2.2.2.2.1) ⟨_, rfl⟩
  rw [if_neg (show ¬ (1 : Int32) < nI (t 28) from nI_nlt (a := 1) (by omega) (by omega)), need1, q_tryL]
  have h140 : Gq (hOK n t TM) (fun m => if bg4 t 16 * bg4 t 20 ≤ 16384 then ∃ pl pc, m = some (.inl ((), (nI (t 24), nI (t 25), nI (t 28), pl, pc, nI 33, nI (bg4 t 16), nI (bg4 t 20)))) else Th 4 m) (f_PngReader_takeHeader_140 K (nI (t 24)) (nI (t 25)) t_isInterlaced (nI 13) (nI (crcV T (8 + 4) (8 + 8 + 13))) (nI (28 + 1)) (nI n) T p1_width p1_height (nI (bg4 t 16)) (nI (bg4 t 20)) (nI (t 28))) := by
    unfold f_PngReader_takeHeader_140
    rw [if_pos (show nI (t 28) = 0 ∨ nI (t 28) = 1 from by
      rcases (show t 28 = 0 ∨ t 28 = 1 by omega) with e | e
      · rw [e]; exact Or.inl rfl
      · rw [e]; exact Or.inr rfl)]
    have hcl := close_gq (c := crcV T (8 + 4) (8 + 8 + 13)) hn (show 29 ≤ n by omega) (crcV_lt _ _ _) (hT 29)
    have ecr : crcV T (8 + 4) (8 + 8 + 13) = crcV TM 12 29 := crcV_tv (fun j _ h2 => by rw [ht.1 j (by omega), htM.1 j (by omega)])
    by_cases c8 : 29 + 4 ≤ n ∧ bg4 t 29 = crcV T (8 + 4) (8 + 8 + 13)
    rotate_left
    · obtain ⟨u, hu⟩ := hcl.2 c8
      rw [hu, q_tryR]
      exact Gq.no (fun q => c8 ⟨q.1, by rw [ecr]; exact q.2.2.2.2.2.2.2.2.2.2.2.symm⟩) ⟨_, rfl⟩
    rw [hcl.1 c8, q_tryL, nI_l (by omega), nI_l (by omega), resize_ok (by omega) (by omega)]
    refine Gq.yes ⟨by omega, c2, c1, by omega, by omega, by omega, by omega, c5, c6.1, c6.2, c7, by rw [← ecr]; exact c8.2.symm⟩ ?_
    by_cases c9 : bg4 t 16 * bg4 t 20 ≤ 16384
    · rw [if_pos c9, if_pos c9, q_tryL]
      exact ⟨_, _, rfl⟩
    · rw [if_neg c9, if_neg c9, q_tryR]
      exact ⟨_, rfl⟩
  by_cases c10 : t 28 = 1
  · rw [if_pos (show nI (t 28) = 1 by rw [c10]; rfl)]
    have e : nI (t 28) = 1 := by rw [c10]; rfl
    rw [e] at h140
    rw [e]
    exact h140
  · rw [if_neg (show ¬ nI (t 28) = 1 from fun q => c10 ((nI_eq32 (b := 1) (by omega) (by omega)).mp q))]
    have e : nI (t 28) = 0 := by rw [show t 28 = 0 by omega]; rfl
    rw [e] at h140
    rw [e]
    exact h140
theorem lett_M {K n : Nat} (hn : n ≤ 65536) {TM : Nat → Int32} {t : Nat → Nat} (htM : Tb n TM t) {x1 : Int32} {t_width : Int32} {t_height : Int32} {t_depth : Int32} {t_kind : Int32} {t_interlace : Int32} : ∀ (r k q : Nat), k + r = 4 → r < q → 12 + k ≤ n → (∀ j, j < k → nI (t (12 + j)) = str_M_146 j) → Gq (16 ≤ n ∧ ∀ j, j < 4 → nI (t (12 + j)) = str_M_146 j) (fun m => m = some (.inl (nI 16))) (f_M_header_L63 K (nI n) t_width t_height t_depth t_kind t_interlace TM x1 q (nI (12 + k)) (nI k)) := by
  intro r
  induction r with
  | zero =>
    intro k q hk hq hp hI
    obtain ⟨q, rfl⟩ : ∃ w, q = w + 1 := ⟨q - 1, by omega⟩
    have e : k = 4 := by omega
    subst e
    refine Gq.yes ⟨hp, hI⟩ ?_
    show (f_M_header_63 K _ (nI n) (nI 16) t_width t_height t_depth t_kind t_interlace TM x1 (nI 4)) = _
    unfold f_M_header_63
    rw [if_pos (show (4 : Int32) ≤ nI 4 by decide)]
  | succ r ih =>
    intro k q hk hq hp hI
    obtain ⟨q, rfl⟩ : ∃ w, q = w + 1 := ⟨q - 1, by omega⟩
    show Gq _ _ (f_M_header_63 K _ (nI n) (nI (12 + k)) t_width t_height t_depth t_kind t_interlace TM x1 (nI k))
    unfold f_M_header_63 f_M_header_87
    rw [if_neg (show ¬ (4 : Int32) ≤ nI k from nI_ge (b := 4) (by omega) (by omega))]
    refine Gq.try (nextM_ex hp hn htM) (fun u => ⟨_, rfl⟩) (fun h => by have := h.1; omega) (fun h1 => ?_)
    have hch : f_java_lang_String_charAtT 4 (nI k) str_M_146 = some (str_M_146 k, ()) := by
      rcases (show k = 0 ∨ k = 1 ∨ k = 2 ∨ k = 3 by omega) with rfl | rfl | rfl | rfl <;> rfl
    rw [hch, q_bind]
    by_cases c : nI (t (12 + k)) = str_M_146 k
    · rw [if_pos c, can1, q_tryL, nI_1, Nat.add_assoc]
      exact ih (k + 1) q (by omega) (by omega) (by omega) (fun j hj => by
        by_cases e : j = k
        · rw [e]; exact c
        · exact hI j (by omega))
    · rw [if_neg c, can0, q_tryR]
      exact Gq.no (fun h => c (h.2 k (by omega))) ⟨_, rfl⟩
theorem lett_iff {t : Nat → Nat} (hb : ∀ j, t j < 256) : (∀ j, j < 4 → nI (t (12 + j)) = str_M_146 j) ↔ nm t 12 73 72 68 82 := by
  have b0 := hb 12
  have b1 := hb 13
  have b2 := hb 14
  have b3 := hb 15
  constructor
  · intro h
    refine ⟨?_, ?_, ?_, ?_⟩
    · exact (nI_eq32 (b := 73) (by omega) (by omega)).mp (h 0 (by omega))
    · exact (nI_eq32 (a := t 13) (b := 72) (by omega) (by omega)).mp (h 1 (by omega))
    · exact (nI_eq32 (a := t 14) (b := 68) (by omega) (by omega)).mp (h 2 (by omega))
    · exact (nI_eq32 (a := t 15) (b := 82) (by omega) (by omega)).mp (h 3 (by omega))
  · rintro ⟨h0, h1, h2, h3⟩ j hj
    rcases (show j = 0 ∨ j = 1 ∨ j = 2 ∨ j = 3 by omega) with rfl | rfl | rfl | rfl
    · rw [h0]; rfl
    · rw [h1]; rfl
    · rw [h2]; rfl
    · rw [h3]; rfl
theorem l_le0 {a : Nat} (ha : a < 2 ^ 32) : lg_cmp (lN a) 0 ≤ 0 ↔ a = 0 := by
  rw [cmp_le, show (0 : Int64) = lN 0 from rfl, pk_lLE (by omega) (by omega)]
  omega
theorem l_ge31 {a : Nat} (ha : a < 2 ^ 32) : 0 ≤ lg_cmp (lN a) 2147483648 ↔ 2 ^ 31 ≤ a := by
  rw [cmp_ge, show (2147483648 : Int64) = lN (2 ^ 31) from rfl, pk_lLE (by omega) (by omega)]
theorem head_M {K n : Nat} (hK : 600000 < K) (hn : n ≤ 65536) (h8 : 8 ≤ n) {TM : Nat → Int32} {t : Nat → Nat} (htM : Tb n TM t) {t_width : Int32} {t_height : Int32} {t_depth : Int32} {t_kind : Int32} {t_interlace : Int32} : Gq (hOK n t TM) (fun m => if bg4 t 16 * bg4 t 20 ≤ 16384 then m = some (.inl ((), (nI 33, nI (bg4 t 16), nI (bg4 t 20), nI (t 24), nI (t 25), nI (t 28)))) else Th 4 m) ((fun v_35 => dc_try (f_M_big K 4 (nI n) v_35 TM) (fun r_38 => (if (lg_cmp r_38.1 13) = 0 then (f_M_header_53 K (nI n) r_38.2 t_width t_height t_depth t_kind t_interlace TM 1) else (f_M_header_53 K (nI n) r_38.2 t_width t_height t_depth t_kind t_interlace TM 0))) (fun r_38 => some (.inr (r_38.1, (r_38.2, t_width, t_height, t_depth, t_kind, t_interlace))))) (nI 8)) := by
  dsimp only
  have hno : ∀ (A d k i : Int32) (x1 : Int32) (x2 x4 : Int64), Th 3 (f_M_header_345 K (nI n) A t_width t_height d k i TM x1 x2 x4 0) := by
    intro A d k i x1 x2 x4
    unfold f_M_header_345
    rw [can0, q_tryR]
    exact ⟨_, rfl⟩
  refine Gq.try (bigT_ex (by omega) hn h8 htM) (fun u => ⟨_, rfl⟩) (fun h => by have := h.1; omega) (fun h1 => ?_)
  dsimp only
  unfold f_M_header_53
  have b8 := bg4_lt htM.2 8
  by_cases c2 : bg4 t 8 = 13
  rotate_left
  · rw [if_neg (show ¬ lg_cmp (lN (bg4 t 8)) 13 = 0 from fun q => c2 ((l_eq (b := 13) (by omega) (by omega)).mp q)), can0, q_tryR]
    exact Gq.no (fun q => c2 q.2.1) ⟨_, rfl⟩
  rw [if_pos (show lg_cmp (lN (bg4 t 8)) 13 = 0 from (l_eq (b := 13) (by omega) (by omega)).mpr c2), can1, q_tryL, bind_elim]
  have hL := lett_M (K := K) hn htM (x1 := nI (8 + 4)) (t_width := t_width) (t_height := t_height) (t_depth := t_depth) (t_kind := t_kind) (t_interlace := t_interlace) 4 0 K (by omega) (by omega) (by omega) (fun j hj => absurd hj (Nat.not_lt_zero _))
  by_cases c1 : 16 ≤ n ∧ nm t 12 73 72 68 82
  rotate_left
  · obtain ⟨u, hu⟩ := hL.2 (fun q => c1 ⟨q.1, (lett_iff htM.2).mp q.2⟩)
    have hu2 : (f_M_header_L63 K (nI n) t_width t_height t_depth t_kind t_interlace TM (nI (8 + 4)) K (nI (8 + 4)) 0) = _ := hu
    rw [hu2, q_tryR]
    exact Gq.no (fun q => c1 ⟨by have := q.1; omega, q.2.2.1⟩) ⟨_, rfl⟩
  have hL1 := hL.1 ⟨c1.1, (lett_iff htM.2).mpr c1.2⟩
  have hL2 : (f_M_header_L63 K (nI n) t_width t_height t_depth t_kind t_interlace TM (nI (8 + 4)) K (nI (8 + 4)) 0) = _ := hL1
  rw [hL2, q_tryL]
  refine Gq.try (bigT_ex (by omega) hn c1.1 htM) (fun u => ⟨_, rfl⟩) (fun h => by have := h.1; omega) (fun h2 => ?_)
  dsimp only
  refine Gq.try (bigT_ex (by omega) hn h2 htM) (fun u => ⟨_, rfl⟩) (fun h => by have := h.1; omega) (fun h3 => ?_)
  dsimp only
  have bw := bg4_lt htM.2 16
  have bh := bg4_lt htM.2 20
  have h144 : Th 3 (f_M_header_144 K (nI n) (nI (16 + 4 + 4)) t_width t_height t_depth t_kind t_interlace TM (nI (8 + 4)) (lN (bg4 t 16)) (lN (bg4 t 20))) := by
    unfold f_M_header_144 f_M_header_145
    rw [can0, q_tryR]
    exact ⟨_, rfl⟩
  by_cases c3 : bg4 t 16 = 0
  · rw [if_pos ((l_le0 bw).mpr c3)]
    exact Gq.no (fun q => by have := q.2.2.2.1; omega) h144
  rw [if_neg (fun q => c3 ((l_le0 bw).mp q))]
  by_cases c4 : bg4 t 20 = 0
  · rw [if_pos (show lg_cmp (lN (bg4 t (16 + 4))) 0 ≤ 0 from (l_le0 bh).mpr c4)]
    exact Gq.no (fun q => by have := q.2.2.2.2.2.1; omega) h144
  rw [if_neg (show ¬ lg_cmp (lN (bg4 t (16 + 4))) 0 ≤ 0 from fun q => c4 ((l_le0 bh).mp q))]
  by_cases c3' : 2 ^ 31 ≤ bg4 t 16
  · rw [if_pos ((l_ge31 bw).mpr c3')]
    exact Gq.no (fun q => by have := q.2.2.2.2.1; omega) h144
  rw [if_neg (fun q => c3' ((l_ge31 bw).mp q))]
  by_cases c4' : 2 ^ 31 ≤ bg4 t 20
  · rw [if_pos (show 0 ≤ lg_cmp (lN (bg4 t (16 + 4))) 2147483648 from (l_ge31 bh).mpr c4')]
    exact Gq.no (fun q => by have := q.2.2.2.2.2.2.1; omega) h144
  rw [if_neg (show ¬ 0 ≤ lg_cmp (lN (bg4 t (16 + 4))) 2147483648 from fun q => c4' ((l_ge31 bh).mp q))]
  clear h144
  unfold f_M_header_145
  rw [can1, q_tryL]
  refine Gq.try (nextM_ex h3 hn htM) (fun u => ⟨_, rfl⟩) (fun h => by have := h.1; omega) (fun h4 => ?_)
  dsimp only
  refine Gq.try (nextM_ex (show 25 ≤ n by omega) hn htM) (fun u => ⟨_, rfl⟩) (fun h => by have := h.1; omega) (fun h5 => ?_)
  dsimp only
  unfold f_M_header_213 f_M_header_262 f_M_header_295 f_M_header_313 f_M_header_317
  have hkd := kd_M (htM.2 25) (htM.2 24) (f_M_header_318 K (nI n) (nI (25 + 1)) t_width t_height (nI (t 24)) (nI (t 25)) t_interlace TM (nI (8 + 4)) (lN (bg4 t 16)) (lN (bg4 t 20)) 1) (f_M_header_318 K (nI n) (nI (25 + 1)) t_width t_height (nI (t 24)) (nI (t 25)) t_interlace TM (nI (8 + 4)) (lN (bg4 t 16)) (lN (bg4 t 20)) 0)
  by_cases c5 : kd (t 25) (t 24)
  rotate_left
  · have e := hkd.2 c5
    refine Gq.no (fun q => c5 q.2.2.2.2.2.2.2.1) ?_
    refine Eq.mpr (congrArg (fun z => Th 3 z) e) ?_
    unfold f_M_header_318 f_M_header_344
    rw [if_pos (show (0 : Int32) = 0 from rfl)]
    exact hno _ _ _ _ _ _ _
  refine Eq.mpr (congrArg (fun z => Gq _ _ z) (hkd.1 c5)) ?_
  clear hkd
  unfold f_M_header_318 f_M_header_344
  rw [if_neg (show ¬ (1 : Int32) = 0 by decide)]
  refine Gq.try (nextM_ex (show 26 ≤ n by omega) hn htM) (fun u => ⟨_, rfl⟩) (fun h => by have := h.1; omega) (fun h6 => ?_)
  dsimp only
  have b26 := htM.2 26
  have b27 := htM.2 27
  have b28 := htM.2 28
  by_cases c6 : t 26 = 0
  rotate_left
  · rw [if_neg (show ¬ nI (t (25 + 1)) = 0 from nI_ne0 (show 0 < t 26 by omega) (show t 26 < 2 ^ 31 by omega))]
    exact Gq.no (fun q => c6 q.2.2.2.2.2.2.2.2.1) (hno _ _ _ _ _ _ _)
  rw [if_pos (show nI (t (25 + 1)) = 0 by rw [show t (25 + 1) = 0 from c6]; rfl)]
  refine Gq.try (nextM_ex (show 27 ≤ n by omega) hn htM) (fun u => ⟨_, rfl⟩) (fun h => by have := h.1; omega) (fun h7 => ?_)
  dsimp only
  by_cases c6' : t 27 = 0
  rotate_left
  · rw [if_neg (show ¬ nI (t (25 + 1 + 1)) = 0 from nI_ne0 (show 0 < t 27 by omega) (show t 27 < 2 ^ 31 by omega))]
    exact Gq.no (fun q => c6' q.2.2.2.2.2.2.2.2.2.1) (hno _ _ _ _ _ _ _)
  rw [if_pos (show nI (t (25 + 1 + 1)) = 0 by rw [show t (25 + 1 + 1) = 0 from c6']; rfl)]
  clear hno
  unfold f_M_header_345
  rw [can1, q_tryL]
  refine Gq.try (nextM_ex (show 28 ≤ n by omega) hn htM) (fun u => ⟨_, rfl⟩) (fun h => by have := h.1; omega) (fun h9 => ?_)
  dsimp only
  unfold f_M_header_370
  by_cases c7 : t 28 ≤ 1
  rotate_left
  · rw [if_pos (show (2 : Int32) ≤ nI (t 28) from nI_le (a := 2) (by omega) (by omega)), can0, q_tryR]
    exact Gq.no (fun q => c7 q.2.2.2.2.2.2.2.2.2.2.1) ⟨_, rfl⟩
  rw [if_neg (show ¬ (2 : Int32) ≤ nI (t 28) from nI_ge (b := 2) (by omega) (by omega)), can1, q_tryL, crcV_M (i := 8 + 4) (t := 28 + 1) (by omega) (by omega) (by omega) (by omega), q_bind]
  refine Gq.try (bigT_ex (by omega) hn (show 29 ≤ n by omega) htM) (fun u => ⟨_, rfl⟩) (fun h => by have := h.1; omega) (fun h10 => ?_)
  dsimp only
  unfold f_M_header_400
  have b29 := bg4_lt htM.2 29
  have bc := crcV_lt TM 12 29
  by_cases c8 : crcV TM 12 29 = bg4 t 29
  rotate_left
  · rw [if_neg (show ¬ lg_cmp (lN (crcV TM (8 + 4) (28 + 1))) (lN (bg4 t 29)) = 0 from fun q => c8 ((l_eq (a := crcV TM 12 29) (by omega) (by omega)).mp q)), can0, q_tryR]
    exact Gq.no (fun q => c8 q.2.2.2.2.2.2.2.2.2.2.2) ⟨_, rfl⟩
  rw [if_pos (show lg_cmp (lN (crcV TM (8 + 4) (28 + 1))) (lN (bg4 t 29)) = 0 from (l_eq (a := crcV TM 12 29) (by omega) (by omega)).mpr c8), can1, q_tryL, sized_ok (by omega) (by omega) (by omega) (by omega)]
  refine Gq.yes ⟨h10, c2, c1.2, by omega, by omega, by omega, by omega, c5, c6, c6', c7, c8⟩ ?_
  by_cases c9 : bg4 t 16 * bg4 t 20 ≤ 16384
  · rw [if_pos c9, if_pos c9, q_tryL]
  · rw [if_neg c9, if_neg c9, q_tryR]
    exact ⟨_, rfl⟩
