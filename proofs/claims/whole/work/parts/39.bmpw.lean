/-! the pure half: BMP written, plain -/
def us8 (p : Int32) : Int32 := (p.toUInt32 >>> ((nI 8).toUInt32 &&& Int32.toUInt32 31)).toInt32
def col3 (p : Int32) : List Int32 := [q_by (p >>> (nI 8 &&& 31)), q_by (p >>> (nI 16 &&& 31)), q_by (p >>> (nI 24 &&& 31))]
theorem us8_by (p : Int32) {n : Nat} (hn : n ≤ 16) : q_by (us8 p >>> (nI n &&& 31)) = q_by (p >>> (nI (8 + n) &&& 31)) := q_by_ext (fun i hi => by
  unfold us8
  rw [bt_sshr (by omega) _ (by omega), if_pos (by omega), bt_ushr (by omega), bt_sshr (by omega) _ (by omega), if_pos (by omega), Nat.add_assoc])
theorem colour_ap {N : Nat} (b : Nat → Int32) {Y : List Int32} (x : Int32) (hn : Y.length ≤ N) (hN : N < 2 ^ 31) : Ap N b Y [q_by (x >>> (nI 0 &&& 31)), q_by (x >>> (nI 8 &&& 31)), q_by (x >>> (nI 16 &&& 31))] mkU (f_BmpFiles_putColour N x (nI Y.length) (wr b Y)) := by
  unfold f_BmpFiles_putColour
  rw [by_shr0]
  exact Ap.seq (X1 := [_]) (X2 := [_, _]) (put_ap _ _ hn hN) (fun u => ⟨_, rfl⟩) (fun h1 => Ap.seq (X1 := [_]) (X2 := [_]) (put_ap _ _ h1 hN) (fun u => ⟨_, rfl⟩) (fun h2 => Ap.seq (X1 := [_]) (X2 := []) (put_ap _ _ h2 hN) (fun u => ⟨_, rfl⟩) (fun h3 => Ap.nil (mk := mkU) h3)))
theorem col_ap {N : Nat} (b : Nat → Int32) {Y : List Int32} (p : Int32) (hn : Y.length ≤ N) (hN : N < 2 ^ 31) : Ap N b Y (col3 p) mkU (f_BmpFiles_putColour N (us8 p) (nI Y.length) (wr b Y)) := by
  have h := colour_ap b (us8 p) hn hN
  rw [us8_by p (by omega), us8_by p (by omega), us8_by p (by omega)] at h
  exact h
abbrev L4 (x : Int32) : List Int32 := [Lb x 0, Lb x 1, Lb x 2, Lb x 3]
abbrev L2 (x : Int32) : List Int32 := [Lb x 0, Lb x 1]
abbrev Zs (c : Nat) : List Int32 := cat (fun _ => [0]) 0 c
def bmpHead (fr w h d pk : Int32) : List Int32 := [q_by 66, q_by 77] ++ (Zs 8 ++ (L4 fr ++ (L4 40 ++ (L4 w ++ (L4 h ++ (L2 1 ++ (L2 d ++ L4 pk)))))))
theorem text_BM : (∀ k, k < 2 → f_java_lang_String_charAtT 2 (nI k) str_BmpFiles_185 = some (str_BmpFiles_185 k, ())) ∧ f_java_lang_String_lengthT 2 str_BmpFiles_185 = some (nI 2, ()) := by decide +kernel
theorem head_ap {K N : Nat} (hK : 100 < K) (b : Nat → Int32) {Y : List Int32} (fr d w h : Int32) (hn : Y.length ≤ N) (hN : N < 2 ^ 31) : Ap N b Y (bmpHead fr w h d (if d = 8 then 1 else 0)) mkU (f_BmpFiles_putHead K N fr d (nI Y.length) (wr b Y) w h) := by
  unfold f_BmpFiles_putHead bmpHead
  refine Ap.seq (X1 := [_, _]) (text_ap (c := 2) b str_BmpFiles_185 text_BM.2 text_BM.1 hn hN (by omega) (by omega)) (fun u => ⟨_, rfl⟩) (fun h1 => ?_)
  refine Ap.seq (zeros_ap (c := 8) b h1 hN (by omega) (by omega)) (fun u => ⟨_, rfl⟩) (fun h2 => ?_)
  refine Ap.seq (little4_ap b fr h2 hN) (fun u => ⟨_, rfl⟩) (fun h3 => ?_)
  refine Ap.seq (little4_ap b 40 h3 hN) (fun u => ⟨_, rfl⟩) (fun h4 => ?_)
  refine Ap.seq (little4_ap b w h4 hN) (fun u => ⟨_, rfl⟩) (fun h5 => ?_)
  refine Ap.seq (little4_ap b h h5 hN) (fun u => ⟨_, rfl⟩) (fun h6 => ?_)
  refine Ap.seq (little2_ap b 1 h6 hN) (fun u => ⟨_, rfl⟩) (fun h7 => ?_)
  refine Ap.seq (little2_ap b d h7 hN) (fun u => ⟨_, rfl⟩) (fun h8 => ?_)
  by_cases c : d = 8
  · rw [if_pos c, if_pos c]
    unfold f_BmpFiles_putHead_61
    exact Ap.eq (Ap.seq (little4_ap b 1 h8 hN) (fun u => ⟨_, rfl⟩) (fun h9 => Ap.nil (mk := mkU) h9)) (List.append_nil _)
  · rw [if_neg c, if_neg c]
    unfold f_BmpFiles_putHead_61
    exact Ap.eq (Ap.seq (little4_ap b 0 h8 hN) (fun u => ⟨_, rfl⟩) (fun h9 => Ap.nil (mk := mkU) h9)) (List.append_nil _)
def pad4 (m : Nat) : Nat := (4 - m % 4) % 4
def plRow (P : Nat → Int32) (w y : Nat) : List Int32 := cat (fun x => col3 (P (y * w + x))) 0 w ++ Zs (pad4 (3 * w))
def bmpPlain (P : Nat → Int32) (w h : Nat) : List Int32 := bmpHead 54 (nI w) (nI h) 24 0 ++ (Zs 20 ++ catd (plRow P w) h)
theorem in_wh {w h y x : Nat} (hwh : w * h ≤ 16384) (hy : y < h) (hx : x < w) : y * w + x < 16384 := Nat.lt_of_lt_of_le (pt_in hx hy) hwh
theorem pad_ok {w : Nat} (hw : w ≤ 16384) : (((4 : Int32) - ((3 * nI w) - (3 * nI w) / 4 * 4)) - ((4 : Int32) - ((3 * nI w) - (3 * nI w) / 4 * 4)) / 4 * 4) = nI (pad4 (3 * w)) := by
  have e1 : (3 : Int32) * nI w = nI (3 * w) := pk_mul 3 w
  have e2 : nI (3 * w) - nI (3 * w) / 4 * 4 = nI (3 * w % 4) := pk_rem (d := 4) (by omega) (by omega) (by omega)
  have e3 : (4 : Int32) - nI (3 * w % 4) = nI (4 - 3 * w % 4) := pk_sub (a := 4) (by omega)
  have e4 : nI (4 - 3 * w % 4) - nI (4 - 3 * w % 4) / 4 * 4 = nI ((4 - 3 * w % 4) % 4) := pk_rem (d := 4) (by omega) (by omega) (by omega)
  rw [e1, e2, e3, e4]
  rfl
theorem plRowD {K N w h y : Nat} (hK : 16384 < K) (hwh : w * h ≤ 16384) (hw : w ≤ 16384) (hy : y < h) (b P : Nat → Int32) (x3 : Int32) {Y : List Int32} (hn : Y.length ≤ N) (hN : N < 2 ^ 31) : Ap N b Y (cat (fun x => col3 (P (y * w + x))) 0 w) Prod.mk (f_BmpFiles_encodePlain_L44 K N (nI w) (nI h) P x3 (nI y) K (nI Y.length) (wr b Y) (nI 0)) := by
  refine Ap.up (c := w) (f_BmpFiles_encodePlain_L44 K N (nI w) (nI h) P x3 (nI y)) (fun x => col3 (P (y * w + x))) (fun q n b => ?_) (fun q k Y X hk hn ih => ?_) w 0 K Y (by omega) (by omega) hn
  · show (f_BmpFiles_encodePlain_44 K N _ (nI w) (nI h) n b P x3 (nI y) (nI w)) = _
    unfold f_BmpFiles_encodePlain_44
    rw [if_pos (nI_le (by omega) (by omega))]
  · show Ap N _ Y _ _ (f_BmpFiles_encodePlain_44 K N _ (nI w) (nI h) (nI Y.length) _ P x3 (nI y) (nI k))
    have hin := in_wh hwh hy hk
    unfold f_BmpFiles_encodePlain_44
    rw [if_neg (nI_ge (by omega) (by omega)), pk_mul, nI_add, if_pos (q_inb hin (by omega)), nI_clamp (by omega), nI_1]
    exact Ap.seq (col_ap _ _ hn hN) (fun u => ⟨_, rfl⟩) ih
theorem plainD_rows {K N w h : Nat} (hK : 16384 < K) (hwh : w * h ≤ 16384) (hw : w ≤ 16384) (hh : h ≤ 16384) (b P : Nat → Int32) {Y : List Int32} (hn : Y.length ≤ N) (hN : N < 2 ^ 31) : Ap N b Y (catd (plRow P w) h) Prod.mk (f_BmpFiles_encodePlain_L36 K N (nI w) (nI h) P (nI (pad4 (3 * w))) K (nI Y.length) (wr b Y) (nI h + (-1))) := by
  have hp : pad4 (3 * w) < 4 := Nat.mod_lt _ (by omega)
  refine Ap.dn (c := h) (f_BmpFiles_encodePlain_L36 K N (nI w) (nI h) P (nI (pad4 (3 * w)))) (plRow P w) (fun q n b => ?_) (fun q y Y X hy hn ih => ?_) h K Y (by omega) (by omega) hn
  · show (f_BmpFiles_encodePlain_36 K N _ (nI w) (nI h) n b P (nI (pad4 (3 * w))) (-1)) = _
    unfold f_BmpFiles_encodePlain_36
    rw [if_pos (by decide)]
  · show Ap N _ Y _ _ (f_BmpFiles_encodePlain_36 K N _ (nI w) (nI h) (nI Y.length) _ P (nI (pad4 (3 * w))) (nI y))
    unfold f_BmpFiles_encodePlain_36
    rw [if_neg (nI_pos (by omega))]
    unfold plRow at ih ⊢
    rw [List.append_assoc]
    refine Ap.seqL (plRowD hK hwh hw hy b P _ hn hN) (fun u => ⟨u, rfl⟩) (fun h1 => ?_)
    refine Ap.seq (zeros_ap (c := pad4 (3 * w)) b h1 hN (by omega) (by omega)) (fun u => ⟨_, rfl⟩) (fun h2 => ?_)
    rw [List.append_assoc] at h2 ⊢
    exact ih h2
/-- bytes of the length, from the second on -/
abbrev lenMend (Z : List Int32) : List Int32 := st4 Z 2 (fun k => nI Z.length >>> (nI (8 * k) &&& 31))
theorem bmpHead_len (fr w h d pk : Int32) : (bmpHead fr w h d pk).length = 34 := rfl
/-- what is written, its length set in the head -/
theorem plainD {K w h : Nat} (hK : 16384 < K) (hwh : w * h ≤ 16384) (hw : w ≤ 16384) (hh : h ≤ 16384) (b P : Nat → Int32) :
    Fi 65536 (bmpPlain P w h).length ((), nI (bmpPlain P w h).length, wr b (lenMend (bmpPlain P w h))) (f_BmpFiles_encodePlain K 65536 (nI w) (nI h) 0 b P) := by
  have h6 : 6 ≤ (bmpPlain P w h).length := by
    unfold bmpPlain
    rw [List.length_append, bmpHead_len]
    omega
  have hA := head_ap (K := K) (N := 65536) (by omega) b (Y := []) 54 24 (nI w) (nI h) (by simp) (by omega)
  rw [wr_nil] at hA
  have eL : [] ++ bmpHead 54 (nI w) (nI h) 24 (if (24 : Int32) = 8 then 1 else 0) ++ Zs 20 ++ catd (plRow P w) h = bmpPlain P w h := by
    rw [List.nil_append, List.append_assoc]
    rfl
  have l3 : ([] ++ bmpHead 54 (nI w) (nI h) 24 (if (24 : Int32) = 8 then 1 else 0) ++ Zs 20).length ≤ (bmpPlain P w h).length := by rw [← eL, List.length_append (bs := catd _ _)]; omega
  have l2 : ([] ++ bmpHead 54 (nI w) (nI h) 24 (if (24 : Int32) = 8 then 1 else 0)).length ≤ ([] ++ bmpHead 54 (nI w) (nI h) 24 (if (24 : Int32) = 8 then 1 else 0) ++ Zs 20).length := by rw [List.length_append (bs := Zs 20)]; omega
  unfold f_BmpFiles_encodePlain
  rw [pad_ok hw, Int32.sub_eq_add_neg (nI h) 1]
  refine Fi.seq hA (fun u => ⟨_, rfl⟩) (by omega) (fun h1 => ?_)
  refine Fi.seq (zeros_ap (c := 20) b h1 (by omega) (by omega) (by omega)) (fun u => ⟨_, rfl⟩) l3 (fun h2 => ?_)
  refine Fi.seqL (plainD_rows hK hwh hw hh b P h2 (by omega)) (fun u => ⟨u, rfl⟩) (by rw [eL]; omega) (fun h3 => ?_)
  rw [eL] at h3 ⊢
  refine Fi.bnd (c := (nI (bmpPlain P w h).length, ())) rfl ?_
  refine Fi.bnd (mendL_ok (a := 2) (by omega) b (by omega) h3 (by omega) _) ?_
  exact Fi.ret h3
/-! the reference -/
theorem bmpM_mend {K : Nat} (hK : 5 ≤ K) {t_keyCount : Int32} {a_t_widths : Nat → Int32} {a_t_heights : Nat → Int32} {a_t_images_3 : Nat → Int32} {a_t_keys : Nat → Int32} {a_t_indices : Nat → Int32} {a_t_images_2 : Nat → Int32} {a_t_images_1 : Nat → Int32} {a_t_images_0 : Nat → Int32} (b : Nat → Int32) {Y : List Int32} (h6 : 6 ≤ Y.length) (hY : Y.length ≤ 262144) : (f_M_writeBmp_478 K (nI Y.length) t_keyCount a_t_widths a_t_heights a_t_images_3 a_t_keys a_t_indices a_t_images_2 a_t_images_1 a_t_images_0 (wr b Y)) = some (.inl ((), nI Y.length, t_keyCount, a_t_keys, a_t_indices, wr b (lenMend Y))) := by
  have hs : ∀ (q k : Nat) (Z : List Int32), k < 4 → Z.length = Y.length → (f_M_writeBmp_L481 K (nI Y.length) t_keyCount a_t_widths a_t_heights a_t_images_3 a_t_keys a_t_indices a_t_images_2 a_t_images_1 a_t_images_0 (q + 1) (wr b Z) (nI k)) = (f_M_writeBmp_L481 K (nI Y.length) t_keyCount a_t_widths a_t_heights a_t_images_3 a_t_keys a_t_indices a_t_images_2 a_t_images_1 a_t_images_0 q (wr b (Z.set (2 + k) (q_by (nI Y.length >>> (nI (8 * k) &&& 31))))) (nI (k + 1))) := by
    intro q k Z hk hZ
    show (f_M_writeBmp_481 K _ (nI Y.length) t_keyCount a_t_widths a_t_heights a_t_images_3 a_t_keys a_t_indices a_t_images_2 a_t_images_1 a_t_images_0 (wr b Z) (nI k)) = _
    unfold f_M_writeBmp_481
    rw [if_neg (show ¬ (4 : Int32) ≤ nI k from show ¬ nI 4 ≤ nI k from nI_ge (by omega) (by omega)), show (2 : Int32) + nI k = nI (2 + k) from nI_add 2 k, if_pos (q_inb (by omega) (by omega)), nI_clamp (by omega), show (8 : Int32) * nI k = nI (8 * k) from pk_mul 8 k, q_by2, wr_upd b (by omega), nI_1]
  unfold f_M_writeBmp_478
  obtain ⟨q, e⟩ : ∃ q, K = q + 5 := ⟨K - 5, by omega⟩
  have h : (f_M_writeBmp_L481 K (nI Y.length) t_keyCount a_t_widths a_t_heights a_t_images_3 a_t_keys a_t_indices a_t_images_2 a_t_images_1 a_t_images_0 (q + 5) (wr b Y) (nI 0)) = some (wr b (lenMend Y)) := by
    rw [hs (q + 4) 0 Y (by omega) rfl, hs (q + 3) 1 _ (by omega) (by rw [List.length_set]), hs (q + 2) 2 _ (by omega) (by rw [List.length_set, List.length_set]), hs (q + 1) 3 _ (by omega) (by rw [List.length_set, List.length_set, List.length_set])]
    rfl
  rw [← e] at h
  rw [show (f_M_writeBmp_L481 K (nI Y.length) t_keyCount a_t_widths a_t_heights a_t_images_3 a_t_keys a_t_indices a_t_images_2 a_t_images_1 a_t_images_0 K (wr b Y) 0) = _ from h]
  rfl
theorem col_or (p : Int32) {k : Nat} (hk : k < 3) : Lb ((((p >>> ((8 : Int32) &&& 31)) &&& 255) ||| (((p >>> ((16 : Int32) &&& 31)) &&& 255) <<< ((8 : Int32) &&& 31))) ||| (((p >>> ((24 : Int32) &&& 31)) &&& 255) <<< ((16 : Int32) &&& 31))) k = q_by (p >>> (nI (8 + 8 * k) &&& 31)) := by
  unfold Lb
  refine q_by_ext (fun i hi => ?_)
  rw [show (8 : Int32) = nI 8 from rfl, show (16 : Int32) = nI 16 from rfl, show (24 : Int32) = nI 24 from rfl]
  rw [bt_sshr (by omega) _ (by omega), if_pos (by omega), bt_or, bt_or, bt_shl (by omega) _ (by omega), bt_shl (by omega) _ (by omega), bt_and, bt_and, bt_and, bt_255 (by omega), bt_255 (by omega), bt_255 (by omega), bt_sshr (by omega) _ (by omega), bt_sshr (by omega) _ (by omega), bt_sshr (by omega) _ (by omega), bt_sshr (by omega) _ (by omega)]
  have hk2 : k = 0 ∨ k = 1 ∨ k = 2 := by omega
  rcases hk2 with rfl | rfl | rfl
  · have d1 : decide (8 * 0 + i < 8) = true := decide_eq_true (by omega)
    have d2 : decide (8 ≤ 8 * 0 + i) = false := decide_eq_false (by omega)
    have d3 : decide (16 ≤ 8 * 0 + i) = false := decide_eq_false (by omega)
    rw [d1, d2, d3, if_pos (show 8 + (8 * 0 + i) < 32 by omega), if_pos (show 8 + 8 * 0 + i < 32 by omega), show 8 + (8 * 0 + i) = 8 + 8 * 0 + i by omega]
    simp
  · have d1 : decide (8 * 1 + i < 8) = false := decide_eq_false (by omega)
    have d2 : decide (8 ≤ 8 * 1 + i) = true := decide_eq_true (by omega)
    have d3 : decide (16 ≤ 8 * 1 + i) = false := decide_eq_false (by omega)
    have d4 : decide (8 * 1 + i - 8 < 8) = true := decide_eq_true (by omega)
    rw [d1, d2, d3, d4, if_pos (show 16 + (8 * 1 + i - 8) < 32 by omega), if_pos (show 8 + 8 * 1 + i < 32 by omega), show 16 + (8 * 1 + i - 8) = 8 + 8 * 1 + i by omega]
    simp
  · have d1 : decide (8 * 2 + i < 8) = false := decide_eq_false (by omega)
    have d3 : decide (16 ≤ 8 * 2 + i) = true := decide_eq_true (by omega)
    have d4 : decide (8 * 2 + i - 8 < 8) = false := decide_eq_false (by omega)
    have d5 : decide (8 * 2 + i - 16 < 8) = true := decide_eq_true (by omega)
    rw [d1, d3, d4, d5, if_pos (show 24 + (8 * 2 + i - 16) < 32 by omega), if_pos (show 8 + 8 * 2 + i < 32 by omega), show 24 + (8 * 2 + i - 16) = 8 + 8 * 2 + i by omega]
    simp
theorem colM_ap {K : Nat} (hK : 4 < K) (b : Nat → Int32) {Y : List Int32} (p : Int32) (hn : Y.length ≤ 262144) : Ap 262144 b Y (col3 p) mkU (f_M_putLittle K ((((p >>> ((8 : Int32) &&& 31)) &&& 255) ||| (((p >>> ((16 : Int32) &&& 31)) &&& 255) <<< ((8 : Int32) &&& 31))) ||| (((p >>> ((24 : Int32) &&& 31)) &&& 255) <<< ((16 : Int32) &&& 31))) 3 (nI Y.length) (wr b Y)) := by
  refine Ap.eq (littleM_ap (c := 3) b _ hn (by omega) (by omega)) ?_
  show [Lb _ 0, Lb _ 1, Lb _ 2] = _
  rw [col_or p (by omega), col_or p (by omega), col_or p (by omega)]
  rfl
theorem Zs_sh (l : List Int32) : ∀ (r k j : Nat), cat (fun _ => l) k r = cat (fun _ => l) j r := by
  intro r
  induction r with
  | zero => intro k j; rfl
  | succ r ih => intro k j; rw [cat_s, cat_s, ih (k + 1) (j + 1)]
theorem Zs_s (j : Nat) : Zs (j + 1) = [0] ++ Zs j := by
  show cat _ 0 (j + 1) = _
  rw [cat_s, Zs_sh [0] j (0 + 1) 0]
theorem Fi.sq {α α' ε ε' : Type} {N : Nat} {b : Nat → Int32} {Y X1 R : List Int32} {mk : Int32 → (Nat → Int32) → α} {a : α'} {m : Option (α ⊕ (Nat × ε))} {f : α → Option (α' ⊕ (Nat × ε'))} {g : Nat × ε → Option (α' ⊕ (Nat × ε'))} (h : Ap N b Y X1 mk m) (hg : ∀ u, ∃ u', g (4, u) = some (.inr (4, u')))
    (hf : (Y ++ X1).length ≤ N → Fi N ((Y ++ X1) ++ R).length a (f (mk (nI (Y ++ X1).length) (wr b (Y ++ X1))))) : Fi N (Y ++ (X1 ++ R)).length a (dc_try m f g) := by
  rw [← List.append_assoc]
  exact Fi.seq h hg (by rw [List.length_append (bs := R)]; omega) hf
theorem Fi.sqL {α α' ε ε' : Type} {N : Nat} {b : Nat → Int32} {Y X1 R : List Int32} {mk : Int32 → (Nat → Int32) → α} {a : α'} {m : Option (α ⊕ (Nat × ε))} {f : α → Option (α' ⊕ (Nat × ε'))} {g : Nat × ε → Option (α' ⊕ (Nat × ε'))} (h : Ap N b Y X1 mk m) (hg : ∀ u, ∃ u', g (4, u) = some (.inr (4, u')))
    (hf : (Y ++ X1).length ≤ N → Fi N ((Y ++ X1) ++ R).length a (f (mk (nI (Y ++ X1).length) (wr b (Y ++ X1))))) : Fi N (Y ++ (X1 ++ R)).length a (dc_bind m (Sum.elim f g)) := by
  rw [bind_elim]
  exact Fi.sq h hg hf
theorem plRowM {K w h y sl : Nat} (hK : 16384 < K) (hsl : sl < 4) (hwh : w * h ≤ 16384) (hw : w ≤ 16384) (hy : y < h) (b P Wm Hm : Nat → Int32) (Q : Nat → Nat → Int32) (hQ : ∀ j, j < w * h → Q sl j = P j) (t_keyCount x6 : Int32) (a_t_keys a_t_indices : Nat → Int32) {Y : List Int32} (hn : Y.length ≤ 262144) : Ap 262144 b Y (cat (fun x => col3 (P (y * w + x))) 0 w) Prod.mk (f_M_writeBmp_L267 K t_keyCount Wm Hm (Q 3) a_t_keys a_t_indices (Q 2) (Q 1) (Q 0) (nI sl) 0 (nI w) (nI y) x6 K (nI Y.length) (wr b Y) (nI 0)) := by
  refine Ap.up (c := w) (f_M_writeBmp_L267 K t_keyCount Wm Hm (Q 3) a_t_keys a_t_indices (Q 2) (Q 1) (Q 0) (nI sl) 0 (nI w) (nI y) x6) (fun x => col3 (P (y * w + x))) (fun q n b => ?_) (fun q k Y X hk hn ih => ?_) w 0 K Y (by omega) (by omega) hn
  · show (f_M_writeBmp_267 K _ n t_keyCount Wm Hm (Q 3) a_t_keys a_t_indices (Q 2) (Q 1) (Q 0) b (nI sl) 0 (nI w) (nI y) x6 (nI w)) = _
    unfold f_M_writeBmp_267
    rw [if_pos (nI_le (by omega) (by omega))]
  · have hin := in_wh hwh hy hk
    have e : (f_M_writeBmp_L267 K t_keyCount Wm Hm (Q 3) a_t_keys a_t_indices (Q 2) (Q 1) (Q 0) (nI sl) 0 (nI w) (nI y) x6 (q + 1) (nI Y.length) (wr b Y) (nI k)) = (f_M_writeBmp_287 K ((f_M_writeBmp_L267 K t_keyCount Wm Hm (Q 3) a_t_keys a_t_indices (Q 2) (Q 1) (Q 0) (nI sl) 0 (nI w) (nI y) x6) q) (nI Y.length) t_keyCount Wm Hm (Q 3) a_t_keys a_t_indices (Q 2) (Q 1) (Q 0) (wr b Y) (nI sl) 0 (nI w) (nI y) x6 (nI k) (P (y * w + k))) := by
      show (f_M_writeBmp_267 K _ (nI Y.length) t_keyCount Wm Hm (Q 3) a_t_keys a_t_indices (Q 2) (Q 1) (Q 0) (wr b Y) (nI sl) 0 (nI w) (nI y) x6 (nI k)) = _
      unfold f_M_writeBmp_267
      rw [if_neg (nI_ge (by omega) (by omega)), pk_mul, nI_add]
      refine (q_sel4 (fun i => if inb (nI (y * w + k)) 16384 = true then (f_M_writeBmp_287 K ((f_M_writeBmp_L267 K t_keyCount Wm Hm (Q 3) a_t_keys a_t_indices (Q 2) (Q 1) (Q 0) (nI sl) 0 (nI w) (nI y) x6) q) (nI Y.length) t_keyCount Wm Hm (Q 3) a_t_keys a_t_indices (Q 2) (Q 1) (Q 0) (wr b Y) (nI sl) 0 (nI w) (nI y) x6 (nI k) (Q i (nI (y * w + k)).toNatClampNeg)) else none) hsl).trans ?_
      show (if _ then _ else none) = _
      rw [if_pos (q_inb hin (by omega)), nI_clamp (by omega), hQ _ (pt_in hk hy)]
    rw [e]
    unfold f_M_writeBmp_287
    rw [nI_1]
    exact Ap.seq (colM_ap (by omega) b (P (y * w + k)) hn) (fun u => ⟨_, rfl⟩) ih
theorem padM {K B : Nat} {t_keyCount : Int32} {a_t_widths : Nat → Int32} {a_t_heights : Nat → Int32} {a_t_images_3 : Nat → Int32} {a_t_keys : Nat → Int32} {a_t_indices : Nat → Int32} {a_t_images_2 : Nat → Int32} {a_t_images_1 : Nat → Int32} {a_t_images_0 : Nat → Int32} {x1 : Int32} {x2 : Int32} {x3 : Int32} {x5 : Int32} (b : Nat → Int32) : ∀ (j q : Nat) (Y : List Int32), pad4 (Y.length - B) = j → B ≤ Y.length → j < q → Y.length ≤ 262144 → Ap 262144 b Y (Zs j) Prod.mk (f_M_writeBmp_L335 K t_keyCount a_t_widths a_t_heights a_t_images_3 a_t_keys a_t_indices a_t_images_2 a_t_images_1 a_t_images_0 x1 x2 x3 x5 (nI B) q (nI Y.length) (wr b Y)) := by
  intro j
  induction j with
  | zero =>
    intro q Y hp hB hq hn
    obtain ⟨q, rfl⟩ : ∃ w, q = w + 1 := ⟨q - 1, by omega⟩
    have h0 : (Y.length - B) % 4 = 0 := by unfold pad4 at hp; omega
    show Ap _ _ _ _ _ (f_M_writeBmp_335 K _ (nI Y.length) t_keyCount a_t_widths a_t_heights a_t_images_3 a_t_keys a_t_indices a_t_images_2 a_t_images_1 a_t_images_0 (wr b Y) x1 x2 x3 x5 (nI B))
    unfold f_M_writeBmp_335
    rw [pk_sub hB, show nI (Y.length - B) - nI (Y.length - B) / 4 * 4 = nI ((Y.length - B) % 4) from pk_rem (d := 4) (by omega) (by omega) (by omega), h0, if_pos (show nI 0 = 0 from rfl)]
    exact Ap.nil (mk := Prod.mk) hn
  | succ j ih =>
    intro q Y hp hB hq hn
    obtain ⟨q, rfl⟩ : ∃ w, q = w + 1 := ⟨q - 1, by omega⟩
    have h0 : (Y.length - B) % 4 = 3 - j := by unfold pad4 at hp; omega
    have hj : j < 3 := by unfold pad4 at hp; omega
    show Ap _ _ _ _ _ (f_M_writeBmp_335 K _ (nI Y.length) t_keyCount a_t_widths a_t_heights a_t_images_3 a_t_keys a_t_indices a_t_images_2 a_t_images_1 a_t_images_0 (wr b Y) x1 x2 x3 x5 (nI B))
    unfold f_M_writeBmp_335
    rw [pk_sub hB, show nI (Y.length - B) - nI (Y.length - B) / 4 * 4 = nI ((Y.length - B) % 4) from pk_rem (d := 4) (by omega) (by omega) (by omega), if_neg (nI_ne0 (by omega) (by omega)), Zs_s]
    refine Ap.seq (putM_ap b 0 hn) (fun u => ⟨_, rfl⟩) (fun h1 => ?_)
    have hl : (Y ++ [q_by 0]).length = Y.length + 1 := by rw [List.length_append]; rfl
    exact ih q (Y ++ [q_by 0]) (by rw [hl]; unfold pad4 at hp ⊢; omega) (by omega) (by omega) h1
theorem plainM_rows {K w h sl : Nat} (hK : 16384 < K) (hsl : sl < 4) (hwh : w * h ≤ 16384) (hw : w ≤ 16384) (hh : h ≤ 16384) (b P Wm Hm : Nat → Int32) (Q : Nat → Nat → Int32) (hQ : ∀ j, j < w * h → Q sl j = P j) (t_keyCount : Int32) (a_t_keys a_t_indices : Nat → Int32) {Y : List Int32} (hn : Y.length ≤ 262144) : Ap 262144 b Y (catd (plRow P w) h) Prod.mk (f_M_writeBmp_L249 K t_keyCount Wm Hm (Q 3) a_t_keys a_t_indices (Q 2) (Q 1) (Q 0) (nI sl) 0 (nI w) K (nI Y.length) (wr b Y) (nI h + (-1))) := by
  have hp : pad4 (3 * w) < 4 := Nat.mod_lt _ (by omega)
  refine Ap.dn (c := h) (f_M_writeBmp_L249 K t_keyCount Wm Hm (Q 3) a_t_keys a_t_indices (Q 2) (Q 1) (Q 0) (nI sl) 0 (nI w)) (plRow P w) (fun q n b => ?_) (fun q y Y X hy hn ih => ?_) h K Y (by omega) (by omega) hn
  · show (f_M_writeBmp_249 K _ n t_keyCount Wm Hm (Q 3) a_t_keys a_t_indices (Q 2) (Q 1) (Q 0) b (nI sl) 0 (nI w) (-1)) = _
    unfold f_M_writeBmp_249
    rw [if_pos (by decide)]
  · show Ap 262144 _ Y _ _ (f_M_writeBmp_249 K _ (nI Y.length) t_keyCount Wm Hm (Q 3) a_t_keys a_t_indices (Q 2) (Q 1) (Q 0) _ (nI sl) 0 (nI w) (nI y))
    unfold f_M_writeBmp_249
    rw [if_neg (nI_pos (by omega)), if_pos rfl]
    unfold plRow at ih ⊢
    rw [List.append_assoc]
    refine Ap.seqL (plRowM hK hsl hwh hw hy b P Wm Hm Q hQ t_keyCount _ a_t_keys a_t_indices hn) (fun u => ⟨u, rfl⟩) (fun h1 => ?_)
    have hl : (Y ++ cat (fun x => col3 (P (y * w + x))) 0 w).length = Y.length + w * 3 := by rw [List.length_append, cat_len (m := 3) (fun _ => rfl)]
    refine Ap.seqL (padM (B := Y.length) b (pad4 (3 * w)) K _ (by rw [hl]; unfold pad4; omega) (by omega) (by omega) h1) (fun u => ⟨u, rfl⟩) (fun h2 => ?_)
    unfold f_M_writeBmp_457
    rw [List.append_assoc] at h2 ⊢
    exact ih h2
theorem L4_cat (x : Int32) : cat (fun k => [Lb x k]) 0 4 = L4 x := rfl
theorem L2_cat (x : Int32) : cat (fun k => [Lb x k]) 0 2 = L2 x := rfl
theorem L4_0 : L4 0 = Zs 4 := by decide +kernel
theorem L2_0 : L2 0 = Zs 2 := by decide +kernel
theorem L4M {K : Nat} (hK : 5 < K) (b : Nat → Int32) {Y : List Int32} (x : Int32) (hn : Y.length ≤ 262144) : Ap 262144 b Y (L4 x) mkU (f_M_putLittle K x 4 (nI Y.length) (wr b Y)) := littleM_ap (c := 4) b x hn (by omega) (by omega)
theorem L2M {K : Nat} (hK : 5 < K) (b : Nat → Int32) {Y : List Int32} (x : Int32) (hn : Y.length ≤ 262144) : Ap 262144 b Y (L2 x) mkU (f_M_putLittle K x 2 (nI Y.length) (wr b Y)) := littleM_ap (c := 2) b x hn (by omega) (by omega)
def bmpH (fr w h d pk us : Int32) : List Int32 := bmpHead fr w h d pk ++ (Zs 12 ++ (L4 us ++ Zs 4))
theorem bmpH_eq (fr w h d pk us : Int32) (R : List Int32) : bmpH fr w h d pk us ++ R = [q_by 66] ++ ([q_by 77] ++ (L4 0 ++ (L4 0 ++ (L4 fr ++ (L4 40 ++ (L4 w ++ (L4 h ++ (L2 1 ++ (L2 d ++ (L4 pk ++ (Zs 12 ++ (L4 us ++ (L4 0 ++ R))))))))))))) := by
  rw [L4_0]
  rfl
theorem zeros12M {K : Nat} (hK : 12 < K) {t_keyCount : Int32} {a_t_widths : Nat → Int32} {a_t_heights : Nat → Int32} {a_t_images_3 : Nat → Int32} {a_t_keys : Nat → Int32} {a_t_indices : Nat → Int32} {a_t_images_2 : Nat → Int32} {a_t_images_1 : Nat → Int32} {a_t_images_0 : Nat → Int32} {x1 : Int32} {x2 : Int32} {x3 : Int32} {x4 : Int32} (b : Nat → Int32) {Y : List Int32} (hn : Y.length ≤ 262144) : Ap 262144 b Y (Zs 12) Prod.mk (f_M_writeBmp_L124 K t_keyCount a_t_widths a_t_heights a_t_images_3 a_t_keys a_t_indices a_t_images_2 a_t_images_1 a_t_images_0 x1 x2 x3 x4 K (nI Y.length) (wr b Y) 0) := by
  refine Ap.up (c := 12) (f_M_writeBmp_L124 K t_keyCount a_t_widths a_t_heights a_t_images_3 a_t_keys a_t_indices a_t_images_2 a_t_images_1 a_t_images_0 x1 x2 x3 x4) (fun _ => [0]) (fun q n b => ?_) (fun q k Y X hk hn ih => ?_) 12 0 K Y (by omega) (by omega) hn
  · show (f_M_writeBmp_124 K _ n t_keyCount a_t_widths a_t_heights a_t_images_3 a_t_keys a_t_indices a_t_images_2 a_t_images_1 a_t_images_0 b x1 x2 x3 x4 (nI 12)) = _
    unfold f_M_writeBmp_124
    rw [if_pos (by decide)]
  · show Ap 262144 _ Y _ _ (f_M_writeBmp_124 K _ (nI Y.length) t_keyCount a_t_widths a_t_heights a_t_images_3 a_t_keys a_t_indices a_t_images_2 a_t_images_1 a_t_images_0 _ x1 x2 x3 x4 (nI k))
    unfold f_M_writeBmp_124
    rw [if_neg (show ¬ (12 : Int32) ≤ nI k from show ¬ nI 12 ≤ nI k from nI_ge (by omega) (by omega)), nI_1]
    exact Ap.seq (putM_ap b 0 hn) (fun u => ⟨_, rfl⟩) ih
theorem bmpM_head {K sl : Nat} (hK : 100 < K) (b Wm Hm : Nat → Int32) (Q : Nat → Nat → Int32) (x2 x3 x4 t_keyCount fr d us : Int32) (a_t_keys a_t_indices : Nat → Int32) (hc : (x2 = 0 ∧ fr = 54 ∧ d = 24 ∧ us = 0) ∨ (¬ x2 = 0 ∧ fr = 54 + 4 * t_keyCount ∧ d = 8 ∧ us = t_keyCount)) {R : List Int32} {a : Unit × (Int32 × Int32 × (Nat → Int32) × (Nat → Int32) × (Nat → Int32))}
    (hf : ∀ H : List Int32, H = bmpH fr x3 x4 d x2 us → H.length ≤ 262144 → Fi 262144 (H ++ R).length a (dc_bind (f_M_writeBmp_L168 K t_keyCount Wm Hm (Q 3) a_t_keys a_t_indices (Q 2) (Q 1) (Q 0) (nI sl) x2 x3 x4 K (nI H.length) (wr b H) 0) (Sum.elim (fun v_243 => (f_M_writeBmp_243 K v_243.1 t_keyCount Wm Hm (Q 3) a_t_keys a_t_indices (Q 2) (Q 1) (Q 0) v_243.2 (nI sl) x2 x3 x4)) (fun u => some (.inr u))))) : Fi 262144 (bmpH fr x3 x4 d x2 us ++ R).length a (f_M_writeBmp_26 K 0 t_keyCount Wm Hm (Q 3) a_t_keys a_t_indices (Q 2) (Q 1) (Q 0) b (nI sl) x2 x3 x4) := by
  have h0 := putM_ap b (Y := []) 66 (by simp)
  rw [wr_nil] at h0
  rw [show bmpH fr x3 x4 d x2 us ++ R = [] ++ (bmpH fr x3 x4 d x2 us ++ R) from rfl, bmpH_eq]
  unfold f_M_writeBmp_26
  refine Fi.sq h0 (fun u => ⟨_, rfl⟩) (fun h1 => ?_)
  refine Fi.sq (putM_ap b 77 h1) (fun u => ⟨_, rfl⟩) (fun h2 => ?_)
  refine Fi.sq (L4M (by omega) b 0 h2) (fun u => ⟨_, rfl⟩) (fun h3 => ?_)
  refine Fi.sq (L4M (by omega) b 0 h3) (fun u => ⟨_, rfl⟩) (fun h4 => ?_)
  have e1 : ∀ (n : Int32) (o : Nat → Int32), (if x2 = 0 then (f_M_writeBmp_69 K n t_keyCount Wm Hm (Q 3) a_t_keys a_t_indices (Q 2) (Q 1) (Q 0) o (nI sl) x2 x3 x4 54) else (f_M_writeBmp_69 K n t_keyCount Wm Hm (Q 3) a_t_keys a_t_indices (Q 2) (Q 1) (Q 0) o (nI sl) x2 x3 x4 (54 + 4 * t_keyCount))) = (f_M_writeBmp_69 K n t_keyCount Wm Hm (Q 3) a_t_keys a_t_indices (Q 2) (Q 1) (Q 0) o (nI sl) x2 x3 x4 fr) := by
    intro n o
    rcases hc with ⟨c1, c2, c3, c4⟩ | ⟨c1, c2, c3, c4⟩
    · rw [if_pos c1, c2]
    · rw [if_neg c1, c2]
  rw [e1]
  unfold f_M_writeBmp_69
  refine Fi.sq (L4M (by omega) b fr h4) (fun u => ⟨_, rfl⟩) (fun h5 => ?_)
  refine Fi.sq (L4M (by omega) b 40 h5) (fun u => ⟨_, rfl⟩) (fun h6 => ?_)
  refine Fi.sq (L4M (by omega) b x3 h6) (fun u => ⟨_, rfl⟩) (fun h7 => ?_)
  refine Fi.sq (L4M (by omega) b x4 h7) (fun u => ⟨_, rfl⟩) (fun h8 => ?_)
  refine Fi.sq (L2M (by omega) b 1 h8) (fun u => ⟨_, rfl⟩) (fun h9 => ?_)
  have e2 : ∀ (n : Int32) (o : Nat → Int32), (if x2 = 0 then (f_M_writeBmp_111 K n t_keyCount Wm Hm (Q 3) a_t_keys a_t_indices (Q 2) (Q 1) (Q 0) o (nI sl) x2 x3 x4 24) else (f_M_writeBmp_111 K n t_keyCount Wm Hm (Q 3) a_t_keys a_t_indices (Q 2) (Q 1) (Q 0) o (nI sl) x2 x3 x4 8)) = (f_M_writeBmp_111 K n t_keyCount Wm Hm (Q 3) a_t_keys a_t_indices (Q 2) (Q 1) (Q 0) o (nI sl) x2 x3 x4 d) := by
    intro n o
    rcases hc with ⟨c1, c2, c3, c4⟩ | ⟨c1, c2, c3, c4⟩
    · rw [if_pos c1, c3]
    · rw [if_neg c1, c3]
  rw [e2]
  unfold f_M_writeBmp_111
  refine Fi.sq (L2M (by omega) b d h9) (fun u => ⟨_, rfl⟩) (fun h10 => ?_)
  refine Fi.sq (L4M (by omega) b x2 h10) (fun u => ⟨_, rfl⟩) (fun h11 => ?_)
  refine Fi.sqL (zeros12M (by omega) b h11) (fun u => ⟨u, rfl⟩) (fun h12 => ?_)
  have e3 : ∀ (n : Int32) (o : Nat → Int32), (if x2 = 0 then (f_M_writeBmp_155 K n t_keyCount Wm Hm (Q 3) a_t_keys a_t_indices (Q 2) (Q 1) (Q 0) o (nI sl) x2 x3 x4 0) else (f_M_writeBmp_155 K n t_keyCount Wm Hm (Q 3) a_t_keys a_t_indices (Q 2) (Q 1) (Q 0) o (nI sl) x2 x3 x4 t_keyCount)) = (f_M_writeBmp_155 K n t_keyCount Wm Hm (Q 3) a_t_keys a_t_indices (Q 2) (Q 1) (Q 0) o (nI sl) x2 x3 x4 us) := by
    intro n o
    rcases hc with ⟨c1, c2, c3, c4⟩ | ⟨c1, c2, c3, c4⟩
    · rw [if_pos c1, c4]
    · rw [if_neg c1, c4]
  rw [e3]
  unfold f_M_writeBmp_155
  refine Fi.sq (L4M (by omega) b us h12) (fun u => ⟨_, rfl⟩) (fun h13 => ?_)
  refine Fi.sq (L4M (by omega) b 0 h13) (fun u => ⟨_, rfl⟩) (fun h14 => ?_)
  refine hf _ ?_ h14
  rw [← List.append_nil (bmpH fr x3 x4 d x2 us), bmpH_eq]
  simp only [List.append_assoc, List.nil_append, List.append_nil]
theorem wh_mul {w h : Nat} (hwh : w * h ≤ 16384) (hw : 0 < w) : h * (w * 3 + 3) ≤ 98304 := by
  have h1 : h ≤ w * h := Nat.le_mul_of_pos_left h hw
  rw [Nat.mul_add, Nat.mul_left_comm, ← Nat.mul_assoc]
  omega
theorem plRow_len (P : Nat → Int32) (w y : Nat) : (plRow P w y).length ≤ w * 3 + 3 := by
  unfold plRow
  rw [List.length_append, cat_len (m := 3) (fun _ => rfl), cat_len (m := 1) (fun _ => rfl)]
  have : pad4 (3 * w) < 4 := Nat.mod_lt _ (by omega)
  omega
theorem bmpPlain_eq (P : Nat → Int32) (w h : Nat) : bmpPlain P w h = bmpH 54 (nI w) (nI h) 24 0 0 ++ catd (plRow P w) h := by
  unfold bmpPlain bmpH
  rw [List.append_assoc, List.append_assoc, List.append_assoc, L4_0]
  rfl
theorem plainM {K w h sl : Nat} (hK : 16384 < K) (hsl : sl < 4) (hw0 : 0 < w) (hwh : w * h ≤ 16384) (hw : w ≤ 16384) (hh : h ≤ 16384) (b P Wm Hm : Nat → Int32) (Q : Nat → Nat → Int32) (hQ : ∀ j, j < w * h → Q sl j = P j) (hW : Wm sl = nI w) (hH : Hm sl = nI h) (t_keyCount : Int32) (a_t_keys a_t_indices : Nat → Int32) :
    (f_M_writeBmp K (nI sl) 0 0 t_keyCount Wm Hm (Q 3) a_t_keys a_t_indices (Q 2) (Q 1) (Q 0) b) = some (.inl ((), nI (bmpPlain P w h).length, t_keyCount, a_t_keys, a_t_indices, wr b (lenMend (bmpPlain P w h)))) := by
  have hl : (bmpPlain P w h).length ≤ 262144 := by
    have h1 := catd_le (plRow_len P w) h
    have h2 := wh_mul hwh hw0
    have h3 : (bmpH 54 (nI w) (nI h) 24 0 0).length = 54 := rfl
    rw [bmpPlain_eq, List.length_append]
    omega
  have h6 : 6 ≤ (bmpPlain P w h).length := by
    rw [bmpPlain_eq, List.length_append, show (bmpH 54 (nI w) (nI h) 24 0 0).length = 54 from rfl]
    omega
  unfold f_M_writeBmp
  rw [if_pos (q_inb hsl (by omega)), if_pos (q_inb hsl (by omega)), if_neg (by decide), nI_clamp (by omega), hW, hH]
  have hF := bmpM_head (K := K) (sl := sl) (by omega) b Wm Hm Q 0 (nI w) (nI h) t_keyCount 54 24 0 a_t_keys a_t_indices (.inl ⟨rfl, rfl, rfl, rfl⟩) (R := catd (plRow P w) h) (a := ((), nI (bmpPlain P w h).length, t_keyCount, a_t_keys, a_t_indices, wr b (lenMend (bmpPlain P w h)))) ?_
  · rw [← bmpPlain_eq] at hF
    exact hF.1 hl
  · intro H hH2 hn
    obtain ⟨K2, hK2⟩ : ∃ q, K = q + 1 := ⟨K - 1, by omega⟩
    have e0 : (f_M_writeBmp_L168 K t_keyCount Wm Hm (Q 3) a_t_keys a_t_indices (Q 2) (Q 1) (Q 0) (nI sl) 0 (nI w) (nI h) K (nI H.length) (wr b H) 0) = some (.inl (nI H.length, wr b H)) := by
      have : (f_M_writeBmp_L168 K t_keyCount Wm Hm (Q 3) a_t_keys a_t_indices (Q 2) (Q 1) (Q 0) (nI sl) 0 (nI w) (nI h) (K2 + 1) (nI H.length) (wr b H) 0) = some (.inl (nI H.length, wr b H)) := by
        show (f_M_writeBmp_168 K _ (nI H.length) t_keyCount Wm Hm (Q 3) a_t_keys a_t_indices (Q 2) (Q 1) (Q 0) (wr b H) (nI sl) 0 (nI w) (nI h) 0) = _
        unfold f_M_writeBmp_168
        by_cases c : t_keyCount ≤ 0
        · rw [if_pos c]
        · rw [if_neg c, if_neg (by decide)]
      rw [← hK2] at this
      exact this
    rw [e0, q_bind]
    show Fi _ _ _ (f_M_writeBmp_243 K (nI H.length) t_keyCount Wm Hm (Q 3) a_t_keys a_t_indices (Q 2) (Q 1) (Q 0) (wr b H) (nI sl) 0 (nI w) (nI h))
    unfold f_M_writeBmp_243
    rw [Int32.sub_eq_add_neg (nI h) 1]
    have hZ : H ++ catd (plRow P w) h = bmpPlain P w h := by rw [hH2, bmpPlain_eq]
    refine Fi.seqL (plainM_rows hK hsl hwh hw hh b P Wm Hm Q hQ t_keyCount a_t_keys a_t_indices hn) (fun u => ⟨u, rfl⟩) (Nat.le_refl _) (fun h3 => ?_)
    rw [hZ] at h3 ⊢
    show Fi _ _ _ (if (0 : Int32) = 1 then _ else _)
    rw [if_neg (by decide), bmpM_mend (by omega) b h6 h3]
    exact Fi.ret h3
