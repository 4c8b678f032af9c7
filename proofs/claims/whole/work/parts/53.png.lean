/-! the pure half: PNG written -/
theorem bestM {K w h y at0 sl : Nat} (hK : 70000 < K) (hsl : sl < 4) (hw0 : 0 < w) (hwh : w * h ≤ 16384) (hy : y < h) (hat : at0 = y * (4 * w + 1)) (P r0 Wm Hm : Nat → Int32) (Q : Nat → Nat → Int32) (hQ : ∀ j, j < w * h → Q sl j = P j) {t_outSize : Int32} {t_bitBuffer : Int32} {t_bitCount : Int32} {a_t_out : Nat → Int32} {a_t_heads : Nat → Int32} {a_t_chain : Nat → Int32} {x2 : Int32} {x4 : Int32} (x7 : Int32) : ∃ r', (∀ j, j < at0 → r' j = r0 j) ∧ (f_M_writePng_L119 K (nI at0) t_outSize t_bitBuffer t_bitCount Wm Hm a_t_out (Q 3) (Q 2) (Q 1) (Q 0) a_t_heads a_t_chain (nI sl) x2 (nI w) x4 (nI y) K r0 x7 (-1) 0) = some (r', nI (bstF P w y 4).1) := by
  have hrow := row_in (w := w) hy
  have hw : w ≤ 16384 := by omega
  have hstep : ∀ (q f : Nat) (r : Nat → Int32) (x7 x8 : Int32), f < 5 → ∃ r', (∀ j, j < at0 → r' j = r j) ∧ (f_M_writePng_L119 K (nI at0) t_outSize t_bitBuffer t_bitCount Wm Hm a_t_out (Q 3) (Q 2) (Q 1) (Q 0) a_t_heads a_t_chain (nI sl) x2 (nI w) x4 (nI y) (q + 1) r x7 x8 (nI f)) = (f_M_writePng_144 K ((f_M_writePng_L119 K (nI at0) t_outSize t_bitBuffer t_bitCount Wm Hm a_t_out (Q 3) (Q 2) (Q 1) (Q 0) a_t_heads a_t_chain (nI sl) x2 (nI w) x4 (nI y)) q) (nI at0) t_outSize t_bitBuffer t_bitCount Wm Hm a_t_out r' (Q 3) (Q 2) (Q 1) (Q 0) a_t_heads a_t_chain (nI sl) x2 (nI w) x4 (nI y) x7 x8 (nI f) (fsum P w y (nI f) (4 * w))) := by
    intro q f r x7 x8 hf
    obtain ⟨r', k1, k2⟩ := filtM (f := f) hK hw0 hwh hy hat P (Q sl) r hQ
    refine ⟨r', k1.1, ?_⟩
    show (f_M_writePng_119 K _ (nI at0) t_outSize t_bitBuffer t_bitCount Wm Hm a_t_out r (Q 3) (Q 2) (Q 1) (Q 0) a_t_heads a_t_chain (nI sl) x2 (nI w) x4 (nI y) x7 x8 (nI f)) = _
    unfold f_M_writePng_119
    rw [if_neg (show ¬ (5 : Int32) ≤ nI f from show ¬ nI 5 ≤ nI f from nI_ge hf (by omega))]
    refine (q_sel4 (fun i => dc_bind (f_M_filtered K 16384 (nI w) (nI y) (nI f) (nI at0) r (Q i)) (fun z => (f_M_writePng_144 K ((f_M_writePng_L119 K (nI at0) t_outSize t_bitBuffer t_bitCount Wm Hm a_t_out (Q 3) (Q 2) (Q 1) (Q 0) a_t_heads a_t_chain (nI sl) x2 (nI w) x4 (nI y)) q) (nI at0) t_outSize t_bitBuffer t_bitCount Wm Hm a_t_out z.2 (Q 3) (Q 2) (Q 1) (Q 0) a_t_heads a_t_chain (nI sl) x2 (nI w) x4 (nI y) x7 x8 (nI f) z.1))) hsl).trans ?_
    show dc_bind (f_M_filtered K 16384 (nI w) (nI y) (nI f) (nI at0) r (Q sl)) _ = _
    rw [k2, q_bind]
  have hL : ∀ (n k q : Nat) (r : Nat → Int32), k + n = 4 → n < q → (∀ j, j < at0 → r j = r0 j) → ∃ r', (∀ j, j < at0 → r' j = r0 j) ∧ (f_M_writePng_L119 K (nI at0) t_outSize t_bitBuffer t_bitCount Wm Hm a_t_out (Q 3) (Q 2) (Q 1) (Q 0) a_t_heads a_t_chain (nI sl) x2 (nI w) x4 (nI y) q r (nI (bstF P w y k).1) ((bstF P w y k).2) (nI (k + 1))) = some (r', nI (bstF P w y 4).1) := by
    intro n
    induction n with
    | zero =>
      intro k q r hk hq hr
      obtain ⟨q, rfl⟩ : ∃ w, q = w + 1 := ⟨q - 1, by omega⟩
      have e : k = 4 := by omega
      subst e
      refine ⟨r, hr, ?_⟩
      show (f_M_writePng_119 K _ (nI at0) t_outSize t_bitBuffer t_bitCount Wm Hm a_t_out r (Q 3) (Q 2) (Q 1) (Q 0) a_t_heads a_t_chain (nI sl) x2 (nI w) x4 (nI y) (nI (bstF P w y 4).1) ((bstF P w y 4).2) (nI 5)) = _
      unfold f_M_writePng_119
      rw [if_pos (by decide)]
    | succ n ih =>
      intro k q r hk hq hr
      obtain ⟨q, rfl⟩ : ∃ w, q = w + 1 := ⟨q - 1, by omega⟩
      obtain ⟨r2, k1, k2⟩ := hstep q (k + 1) r (nI (bstF P w y k).1) (bstF P w y k).2 (by omega)
      obtain ⟨r', m1, m2⟩ := ih (k + 1) q r2 (by omega) (by omega) (fun j hj => (k1 j hj).trans (hr j hj))
      refine ⟨r', m1, k2.trans ?_⟩
      have eb : bstF P w y (k + 1) = if (bstF P w y k).2 ≤ fsum P w y (nI (k + 1)) (4 * w) then bstF P w y k else (k + 1, fsum P w y (nI (k + 1)) (4 * w)) := rfl
      unfold f_M_writePng_144 f_M_writePng_161 f_M_writePng_169
      rw [if_neg (bst_pos hw P y k), nI_1, ← m2, eb]
      by_cases c : (bstF P w y k).2 ≤ fsum P w y (nI (k + 1)) (4 * w)
      · rw [if_pos c, if_neg (Int32.not_lt.mpr c)]
      · rw [if_neg c, if_pos (Int32.not_le.mp c)]
  obtain ⟨q, hq⟩ : ∃ q, K = q + 1 := ⟨K - 1, by omega⟩
  obtain ⟨r2, k1, k2⟩ := hstep q 0 r0 x7 (-1) (by omega)
  obtain ⟨r', m1, m2⟩ := hL 4 0 q r2 (by omega) (by omega) k1
  refine ⟨r', m1, ?_⟩
  have h : (f_M_writePng_L119 K (nI at0) t_outSize t_bitBuffer t_bitCount Wm Hm a_t_out (Q 3) (Q 2) (Q 1) (Q 0) a_t_heads a_t_chain (nI sl) x2 (nI w) x4 (nI y) (q + 1) r0 x7 (-1) (nI 0)) = some (r', nI (bstF P w y 4).1) := by
    refine k2.trans ?_
    unfold f_M_writePng_144 f_M_writePng_161 f_M_writePng_169
    rw [if_pos (by decide), nI_1]
    exact m2
  rw [← hq] at h
  exact h
theorem rowsPM {K w h mode sl : Nat} (hK : 70000 < K) (hsl : sl < 4) (hm : mode ≤ 5) (hw0 : 0 < w) (hwh : w * h ≤ 16384) (P r0 Wm Hm : Nat → Int32) (Q : Nat → Nat → Int32) (hQ : ∀ j, j < w * h → Q sl j = P j) {t_outSize : Int32} {t_bitBuffer : Int32} {t_bitCount : Int32} {a_t_out : Nat → Int32} {a_t_heads : Nat → Int32} {a_t_chain : Nat → Int32} : ∃ r', (∀ j, j < h * (4 * w + 1) → r' j = rv P w mode j) ∧ (f_M_writePng_L98 K t_outSize t_bitBuffer t_bitCount Wm Hm a_t_out (Q 3) (Q 2) (Q 1) (Q 0) a_t_heads a_t_chain (nI sl) (nI mode) (nI w) (nI h) K 0 r0 0) = some (nI (h * (4 * w + 1)), r') := by
  have hh : h ≤ 16384 := Nat.le_trans (Nat.le_mul_of_pos_left h hw0) hwh
  have hl := loop_inv (c := h) (fun q (s : Int32 × (Nat → Int32)) y => (f_M_writePng_L98 K t_outSize t_bitBuffer t_bitCount Wm Hm a_t_out (Q 3) (Q 2) (Q 1) (Q 0) a_t_heads a_t_chain (nI sl) (nI mode) (nI w) (nI h) q s.1 s.2 y)) (fun y s => s.1 = nI (y * (4 * w + 1)) ∧ ∀ j, j < y * (4 * w + 1) → s.2 j = rv P w mode j) (fun q s hI => ?_) (fun q y s hy hI => ?_) h 0 (0, r0) K (by omega) (by omega) ⟨by rw [Nat.zero_mul]; rfl, fun j hj => absurd hj (by omega)⟩
  · obtain ⟨s', ⟨h1, h2⟩, h3⟩ := hl
    refine ⟨s'.2, h2, ?_⟩
    rw [← h1]
    exact h3
  · show (f_M_writePng_98 K _ s.1 t_outSize t_bitBuffer t_bitCount Wm Hm a_t_out s.2 (Q 3) (Q 2) (Q 1) (Q 0) a_t_heads a_t_chain (nI sl) (nI mode) (nI w) (nI h) (nI h)) = _
    unfold f_M_writePng_98
    rw [if_pos (nI_le (by omega) (by omega))]
  · obtain ⟨h1, h2⟩ := hI
    have h175 : ∀ r1 : Nat → Int32, (∀ j, j < y * (4 * w + 1) → r1 j = rv P w mode j) → ∃ s' : Int32 × (Nat → Int32), (s'.1 = nI ((y + 1) * (4 * w + 1)) ∧ ∀ j, j < (y + 1) * (4 * w + 1) → s'.2 j = rv P w mode j) ∧ (f_M_writePng_175 K ((f_M_writePng_L98 K t_outSize t_bitBuffer t_bitCount Wm Hm a_t_out (Q 3) (Q 2) (Q 1) (Q 0) a_t_heads a_t_chain (nI sl) (nI mode) (nI w) (nI h)) q) (nI (y * (4 * w + 1))) t_outSize t_bitBuffer t_bitCount Wm Hm a_t_out r1 (Q 3) (Q 2) (Q 1) (Q 0) a_t_heads a_t_chain (nI sl) (nI mode) (nI w) (nI h) (nI y) (nI (rf P w y mode))) = (f_M_writePng_L98 K t_outSize t_bitBuffer t_bitCount Wm Hm a_t_out (Q 3) (Q 2) (Q 1) (Q 0) a_t_heads a_t_chain (nI sl) (nI mode) (nI w) (nI h) q s'.1 s'.2 (nI (y + 1))) := by
      intro r1 hr1
      obtain ⟨r2, k1, k2⟩ := filtM (f := rf P w y mode) hK hw0 hwh hy rfl P (Q sl) r1 hQ
      refine ⟨(nI ((y + 1) * (4 * w + 1)), r2), ⟨rfl, rv_row hr1 k1⟩, ?_⟩
      unfold f_M_writePng_175
      refine (q_sel4 (fun i => dc_bind (f_M_filtered K 16384 (nI w) (nI y) (nI (rf P w y mode)) (nI (y * (4 * w + 1))) r1 (Q i)) (fun z => (f_M_writePng_194 K ((f_M_writePng_L98 K t_outSize t_bitBuffer t_bitCount Wm Hm a_t_out (Q 3) (Q 2) (Q 1) (Q 0) a_t_heads a_t_chain (nI sl) (nI mode) (nI w) (nI h)) q) (nI (y * (4 * w + 1))) t_outSize t_bitBuffer t_bitCount Wm Hm a_t_out z.2 (Q 3) (Q 2) (Q 1) (Q 0) a_t_heads a_t_chain (nI sl) (nI mode) (nI w) (nI h) (nI y) z.1))) hsl).trans ?_
      show dc_bind (f_M_filtered K 16384 (nI w) (nI y) (nI (rf P w y mode)) (nI (y * (4 * w + 1))) r1 (Q sl)) _ = _
      rw [k2, q_bind]
      unfold f_M_writePng_194
      rw [show (4 : Int32) * nI w = nI (4 * w) from pk_mul 4 w, show (1 : Int32) + nI (4 * w) = nI (1 + 4 * w) from nI_add 1 _, nI_add, nI_1, Nat.add_comm 1 (4 * w), show (y + 1) * (4 * w + 1) = y * (4 * w + 1) + (4 * w + 1) from Nat.succ_mul _ _]
    have hE : (f_M_writePng_L98 K t_outSize t_bitBuffer t_bitCount Wm Hm a_t_out (Q 3) (Q 2) (Q 1) (Q 0) a_t_heads a_t_chain (nI sl) (nI mode) (nI w) (nI h) (q + 1) s.1 s.2 (nI y)) = (f_M_writePng_98 K ((f_M_writePng_L98 K t_outSize t_bitBuffer t_bitCount Wm Hm a_t_out (Q 3) (Q 2) (Q 1) (Q 0) a_t_heads a_t_chain (nI sl) (nI mode) (nI w) (nI h)) q) s.1 t_outSize t_bitBuffer t_bitCount Wm Hm a_t_out s.2 (Q 3) (Q 2) (Q 1) (Q 0) a_t_heads a_t_chain (nI sl) (nI mode) (nI w) (nI h) (nI y)) := rfl
    unfold f_M_writePng_98 at hE
    rw [if_neg (nI_ge hy (by omega)), h1] at hE
    by_cases c : mode = 5
    · obtain ⟨r1, g1, g2⟩ := @bestM K w h y (y * (4 * w + 1)) sl hK hsl hw0 hwh hy rfl P s.2 Wm Hm Q hQ t_outSize t_bitBuffer t_bitCount a_t_out a_t_heads a_t_chain (nI mode) (nI h) (nI mode)
      obtain ⟨s', m1, m2⟩ := h175 r1 (fun j hj => (g1 j hj).trans (h2 j hj))
      refine ⟨s', m1, ?_⟩
      rw [if_pos (show nI mode = 5 by rw [c]; rfl), g2, q_bind] at hE
      rw [show rf P w y mode = (bstF P w y 4).1 from if_pos c] at m2
      rw [h1]
      exact hE.trans m2
    · obtain ⟨s', m1, m2⟩ := h175 s.2 h2
      refine ⟨s', m1, ?_⟩
      rw [if_neg (show ¬ nI mode = 5 from fun e => c ((nI_eq (b := 5) (by omega) (by omega)).mp e))] at hE
      rw [show rf P w y mode = mode from if_neg c] at m2
      rw [h1]
      exact hE.trans m2
/-! the file -/
def pngB (F : Nat → Int32) (n : Nat) : List Bool := bo 1 0 1 ++ (bo 1 0 2 ++ (dfl F n n 0 ++ lit 256))
def pngD (F : Nat → Int32) (n : Nat) : List Int32 := [q_by 120] ++ ([q_by 1] ++ (Zf [] (pngB F n) ++ Bg (nI (adl F n))))
def pngI (w h : Int32) : List Int32 := Bg w ++ (Bg h ++ ([q_by 8] ++ ([q_by 6] ++ Zs 3)))
abbrev pngS : List Int32 := cat (fun k => [q_by (tab_PngReader_SIGNATURE k)]) 0 8
def pngL (P : Nat → Int32) (w h mode : Nat) : List Int32 := pngS ++ (prt 1229472850 (pngI (nI w) (nI h)) ++ (prt 1229209940 (pngD (rv P w mode) (h * (4 * w + 1))) ++ prt 1229278788 []))
theorem prt_len (lt : Int32) (body : List Int32) : (prt lt body).length = body.length + 12 := by
  unfold prt
  rw [List.length_append, List.length_append, List.length_append, Bg_len, Bg_len, Bg_len]
  omega
theorem prt_eq (Y : List Int32) (lt : Int32) (body : List Int32) : (Y ++ (Bg (nI body.length) ++ (Bg lt ++ body))) ++ Bg (crcL (Bg lt ++ body)) = Y ++ prt lt body := by
  unfold prt
  simp only [List.append_assoc]
theorem headP {K N : Nat} (hN : N < 2 ^ 31) (hK : N + 100 < K) (b : Nat → Int32) {Y : List Int32} (w h : Int32) (hn : Y.length ≤ N) : Ap N b Y (prt 1229472850 (pngI w h)) mkU (f_PngWriter_putHeader K N (nI Y.length) (wr b Y) w h) := by
  have hL : (Y ++ prt 1229472850 (pngI w h)).length = Y.length + 25 := by
    rw [List.length_append, prt_len]
    rfl
  have hE : Y ++ (Bg 0 ++ Bg 1229472850) ++ Bg w ++ Bg h ++ [q_by 8] ++ [q_by 6] ++ Zs 3 = Y ++ (Bg 0 ++ (Bg 1229472850 ++ pngI w h)) := by
    unfold pngI
    simp only [List.append_assoc]
  have hl1 : (Y ++ (Bg 0 ++ Bg 1229472850)).length = Y.length + 8 := by rw [List.length_append]; rfl
  have hl2 : (Y ++ (Bg 0 ++ Bg 1229472850) ++ Bg w).length = Y.length + 12 := by rw [List.length_append, hl1]; rfl
  have hl3 : (Y ++ (Bg 0 ++ Bg 1229472850) ++ Bg w ++ Bg h).length = Y.length + 16 := by rw [List.length_append, hl2]; rfl
  have hl4 : (Y ++ (Bg 0 ++ Bg 1229472850) ++ Bg w ++ Bg h ++ [q_by 8]).length = Y.length + 17 := by rw [List.length_append, hl3]; rfl
  have hl5 : (Y ++ (Bg 0 ++ Bg 1229472850) ++ Bg w ++ Bg h ++ [q_by 8] ++ [q_by 6]).length = Y.length + 18 := by rw [List.length_append, hl4]; rfl
  have hl6 : (Y ++ (Bg 0 ++ Bg 1229472850) ++ Bg w ++ Bg h ++ [q_by 8] ++ [q_by 6] ++ Zs 3).length = Y.length + 21 := by rw [List.length_append, hl5]; rfl
  unfold f_PngWriter_putHeader
  refine Fi.seq (openD hN b 1229472850 hn) (fun u => ⟨_, rfl⟩) (by omega) (fun h1 => ?_)
  refine Fi.seq (big4_ap b w h1 hN) (fun u => ⟨_, rfl⟩) (by omega) (fun h2 => ?_)
  refine Fi.seq (big4_ap b h h2 hN) (fun u => ⟨_, rfl⟩) (by omega) (fun h3 => ?_)
  refine Fi.seq (put_ap b 8 h3 hN) (fun u => ⟨_, rfl⟩) (by omega) (fun h4 => ?_)
  refine Fi.seq (put_ap b 6 h4 hN) (fun u => ⟨_, rfl⟩) (by omega) (fun h5 => ?_)
  refine Fi.seq (zeros_ap (c := 3) b h5 hN (by omega) (by omega)) (fun u => ⟨_, rfl⟩) (Nat.le_trans (Nat.le_of_eq hl6) (by omega)) (fun h6 => ?_)
  rw [hE] at h6 ⊢
  refine Fi.seq (closeD hN (by omega) b Y (pngI w h) 1229472850 h6) (fun u => ⟨_, rfl⟩) (by rw [prt_eq]; omega) (fun h7 => ?_)
  rw [prt_eq] at h7 ⊢
  exact Fi.ret h7
theorem Zf_nil (Y : List Int32) (S : List Bool) : (Zf Y S).length = Y.length + (Zf [] S).length := by
  rw [Zf_cons, List.length_append]
theorem pngD_len (F : Nat → Int32) (n : Nat) : (pngD F n).length = (Zf [] (pngB F n)).length + 6 := by
  unfold pngD
  rw [List.length_append, List.length_append, List.length_append, Bg_len]
  show 1 + (1 + (_ + 4)) = _
  omega
theorem dataD {K N n : Nat} (hN : N < 2 ^ 31) (hK : N + 150000 < K) (hn : n ≤ 81920) (h3 : 3 ≤ n) {F r : Nat → Int32} (hr : ∀ j, j < n → r j = F j) (b : Nat → Int32) {Y : List Int32} (hY : Y.length ≤ N) (cL cD : Int32) (lp pb : Nat → Int32) :
    Fp N (Y ++ prt 1229209940 (pngD F n)).length (fun a => a.2.1 = nI (Y ++ prt 1229209940 (pngD F n)).length ∧ a.2.2.2.2.1 = wr b (Y ++ prt 1229209940 (pngD F n))) (f_PngWriter_putData K N (nI Y.length) 0 0 (wr b Y) (nI n) cL cD lp r pb) := by
  have hL : (Y ++ prt 1229209940 (pngD F n)).length = Y.length + 18 + (Zf [] (pngB F n)).length := by
    rw [List.length_append, prt_len, pngD_len]
    omega
  have hl1 : (Y ++ (Bg 0 ++ Bg 1229209940)).length = Y.length + 8 := by rw [List.length_append]; rfl
  have hl2 : (Y ++ (Bg 0 ++ Bg 1229209940) ++ [q_by 120]).length = Y.length + 9 := by rw [List.length_append, hl1]; rfl
  have hl3 : (Y ++ (Bg 0 ++ Bg 1229209940) ++ [q_by 120] ++ [q_by 1]).length = Y.length + 10 := by rw [List.length_append, hl2]; rfl
  have hZn := Zf_nil (Y ++ (Bg 0 ++ Bg 1229209940) ++ [q_by 120] ++ [q_by 1]) (pngB F n)
  generalize hY2 : Y ++ (Bg 0 ++ Bg 1229209940) ++ [q_by 120] ++ [q_by 1] = Y2 at hl3 hZn
  have hZ : Zf Y2 (pngB F n) = Zf Y2 ([] ++ (bo 1 0 1 ++ (bo 1 0 2 ++ (dfl F n n 0 ++ lit 256)))) := rfl
  have p1 := Zf_le2 Y2 [] (bo 1 0 1) (bo 1 0 2 ++ (dfl F n n 0 ++ lit 256))
  have z1 := Zf_step Y2 [] (bo 1 0 1) (bo 1 0 2 ++ (dfl F n n 0 ++ lit 256))
  generalize hY3 : Y2 ++ byt ([] ++ bo 1 0 1) = Y3 at p1 z1
  generalize hR3 : rst ([] ++ bo 1 0 1) = R3 at z1
  have p2 := Zf_le2 Y3 R3 (bo 1 0 2) (dfl F n n 0 ++ lit 256)
  have z2 := Zf_step Y3 R3 (bo 1 0 2) (dfl F n n 0 ++ lit 256)
  generalize hY4 : Y3 ++ byt (R3 ++ bo 1 0 2) = Y4 at p2 z2
  generalize hR4 : rst (R3 ++ bo 1 0 2) = R4 at z2
  have p3 := Zf_le2 Y4 R4 (dfl F n n 0) (lit 256)
  have z3 := Zf_step Y4 R4 (dfl F n n 0) (lit 256)
  have r3 : R3.length < 8 := by rw [← hR3]; exact ret8 _
  have r4 : R4.length < 8 := by rw [← hR4]; exact ret8 _
  have q1 : (Zf Y2 (pngB F n)).length + 8 = (Y ++ prt 1229209940 (pngD F n)).length := by omega
  have q2 : Zf Y2 (pngB F n) = Zf (Y4 ++ byt (R4 ++ dfl F n n 0)) (rst (R4 ++ dfl F n n 0) ++ lit 256) := by rw [hZ, z1, z2, z3]
  unfold f_PngWriter_putData
  refine Fp.seq (openD hN b 1229209940 hY) (fun u => ⟨_, rfl⟩) (by omega) (fun h1 => ?_)
  refine Fp.seq (put_ap b 120 h1 hN) (fun u => ⟨_, rfl⟩) (by omega) (fun h2 => ?_)
  refine Fp.seq (put_ap b 1 h2 hN) (fun u => ⟨_, rfl⟩) (by rw [hY2]; omega) (fun h4 => ?_)
  rw [hY2] at h4 ⊢
  refine Fp.as (putBits_as (n := 1) (R := []) (by omega) hN b (by decide) (by omega) 1 h4) (fun u => ⟨_, rfl⟩) (by rw [hY3]; rw [hZ] at q1; omega) (fun h5 => ?_)
  rw [hY3] at h5 ⊢
  rw [hR3]
  refine Fp.as (putBits_as (n := 2) (by omega) hN b r3 (by omega) 1 h5) (fun u => ⟨_, rfl⟩) (by rw [hY4]; rw [hZ, z1] at q1; omega) (fun h6 => ?_)
  rw [hY4] at h6 ⊢
  rw [hR4]
  refine Fp.bnd (fill2_ok (by omega) (by omega) (-1) lp) ?_
  refine deflD (by omega) hN hn h3 hr b (nI Y.length) _ _ (fun u => ⟨u, rfl⟩) n 0 K Y4 R4 _ pb cL cD (by omega) (by omega) (by omega) ⟨fun x hx => ?_, fun p hp => absurd hp (by omega)⟩ r4 h6 (by rw [hZ, z1, z2] at q1; omega) (fun lp' pb' cL' cD' h7 => ?_)
  · show (if x < 4096 then (-1 : Int32) else lp x) = _
    rw [if_pos hx]
    have : min 0 (n - 2) = 0 := Nat.min_eq_left (by omega)
    rw [this]
    rfl
  generalize hY5 : Y4 ++ byt (R4 ++ dfl F n n 0) = Y5 at h7 q2 ⊢
  have r5 := ret8 (R4 ++ dfl F n n 0)
  generalize hR5 : rst (R4 ++ dfl F n n 0) = R5 at r5 q2 ⊢
  have p4 : (Y5 ++ byt (R5 ++ lit 256)).length ≤ (Zf Y5 (R5 ++ lit 256)).length := by
    unfold Zf
    rw [List.length_append (bs := bytz _)]
    omega
  rw [q2] at q1
  refine Fp.as (litD_as (by omega) hN 256 b r5 h7) (fun u => ⟨_, rfl⟩) (by omega) (fun h8 => ?_)
  refine Fp.seq (close_ap hN b (ret8 _) h8) (fun u => ⟨_, rfl⟩) (show (Zf Y5 (R5 ++ lit 256)).length ≤ _ by omega) (fun h9 => ?_)
  have hZ5 : (Y5 ++ byt (R5 ++ lit 256)) ++ bytz (rst (R5 ++ lit 256)) = Zf Y2 (pngB F n) := q2.symm
  rw [hZ5] at h9 ⊢
  have ead : adl F n = adl r n := adl_eq (fun j hj => (hr j hj).symm)
  refine Fp.bnd (adD_ok (by omega) (by omega) (by omega) r) ?_
  rw [← ead]
  rw [← q2] at q1
  refine Fp.seq (big4_ap b _ h9 hN) (fun u => ⟨_, rfl⟩) (by rw [List.length_append, Bg_len]; omega) (fun h10 => ?_)
  have hE : Zf Y2 (pngB F n) ++ Bg (nI (adl F n)) = Y ++ (Bg 0 ++ (Bg 1229209940 ++ pngD F n)) := by
    rw [Zf_cons, ← hY2]
    unfold pngD
    simp only [List.append_assoc]
  rw [hE] at h10 ⊢
  refine Fp.seq (closeD hN (by omega) b Y (pngD F n) 1229209940 h10) (fun u => ⟨_, rfl⟩) (by rw [prt_eq]; omega) (fun h11 => ?_)
  rw [prt_eq] at h11 ⊢
  exact Fp.ret h11 ⟨rfl, rfl⟩
theorem sigD {K N : Nat} (hN : N < 2 ^ 31) (hK : 20 < K) {p3_bitStore : Int32} {p3_bitsHeld : Int32} {p1_width : Int32} {p1_height : Int32} {t_total : Int32} {t_copyLength : Int32} {t_copyDistance : Int32} {a_t_rows : Nat → Int32} {a_p1_points : Nat → Int32} {a_t_lastPlaces : Nat → Int32} {a_t_placesBefore : Nat → Int32} {x2 : Int32} (b : Nat → Int32) {Y : List Int32} (hn : Y.length ≤ N) : Ap N b Y pngS Prod.mk (f_PngWriter_encode_L3 K N p3_bitStore p3_bitsHeld p1_width p1_height t_total t_copyLength t_copyDistance a_t_rows a_p1_points a_t_lastPlaces a_t_placesBefore x2 K (nI Y.length) (wr b Y) 0) := by
  refine Ap.up (c := 8) (f_PngWriter_encode_L3 K N p3_bitStore p3_bitsHeld p1_width p1_height t_total t_copyLength t_copyDistance a_t_rows a_p1_points a_t_lastPlaces a_t_placesBefore x2) (fun k => [q_by (tab_PngReader_SIGNATURE k)]) (fun q n b => ?_) (fun q k Y X hk hn ih => ?_) 8 0 K Y (by omega) (by omega) hn
  · show (f_PngWriter_encode_3 K N _ n p3_bitStore p3_bitsHeld b p1_width p1_height t_total t_copyLength t_copyDistance a_t_rows a_p1_points a_t_lastPlaces a_t_placesBefore x2 (nI 8)) = _
    unfold f_PngWriter_encode_3
    rw [if_pos (by decide)]
  · show Ap N _ Y _ _ (f_PngWriter_encode_3 K N _ (nI Y.length) p3_bitStore p3_bitsHeld (wr b Y) p1_width p1_height t_total t_copyLength t_copyDistance a_t_rows a_p1_points a_t_lastPlaces a_t_placesBefore x2 (nI k))
    unfold f_PngWriter_encode_3
    rw [if_neg (show ¬ (8 : Int32) ≤ nI k from show ¬ nI 8 ≤ nI k from nI_ge hk (by omega)), if_pos (q_inb hk (by omega)), nI_clamp (by omega), nI_1]
    exact Ap.seq (put_ap _ _ hn hN) (fun u => ⟨_, rfl⟩) ih
theorem endD {K N : Nat} (hN : N < 2 ^ 31) (hK : N + 100 < K) (b : Nat → Int32) (Y : List Int32) (hn : (Y ++ (Bg 0 ++ Bg 1229278788)).length ≤ N) : Ap N b (Y ++ (Bg (nI 0) ++ Bg 1229278788)) (Bg (crcL (Bg 1229278788))) mkU (f_PngWriter_closePart K N (nI Y.length) (nI (Y ++ (Bg 0 ++ Bg 1229278788)).length) (wr b (Y ++ (Bg 0 ++ Bg 1229278788)))) := by
  have h := closeD (K := K) hN (by omega) b Y [] 1229278788 (by rw [List.append_nil]; exact hn)
  rw [List.append_nil] at h
  exact h
theorem pngE_eq (Y : List Int32) : (Y ++ (Bg (nI 0) ++ Bg 1229278788)) ++ Bg (crcL (Bg 1229278788)) = Y ++ prt 1229278788 [] := by
  unfold prt
  rw [List.append_nil, List.nil_append]
  simp only [List.append_assoc]
  rfl
theorem n_le {w h : Nat} (hwh : w * h ≤ 16384) (hw0 : 0 < w) (hh0 : 0 < h) : h * (4 * w + 1) ≤ 81920 ∧ 3 ≤ h * (4 * w + 1) := by
  have h2 : h * (4 * w + 1) = 4 * (w * h) + h := by
    rw [Nat.mul_add, Nat.mul_left_comm, Nat.mul_comm h w, Nat.mul_one]
  have h3 : h ≤ w * h := Nat.le_mul_of_pos_left h hw0
  have h4 : 0 < w * h := Nat.mul_pos hw0 hh0
  omega
theorem Fp.try {α α' ε ε' : Type} {N L L' : Nat} {Pr : α → Prop} {Pr' : α' → Prop} {m : Option (α ⊕ (Nat × ε))} {f : α → Option (α' ⊕ (Nat × ε'))} {g : Nat × ε → Option (α' ⊕ (Nat × ε'))} (h : Fp N L Pr m) (hg : ∀ u, ∃ u', g (4, u) = some (.inr (4, u'))) (hL : L ≤ L') (hf : L ≤ N → ∀ a, Pr a → Fp N L' Pr' (f a)) : Fp N L' Pr' (dc_try m f g) := by
  constructor
  · intro h1
    have h2 : L ≤ N := by omega
    obtain ⟨a, ha, hp⟩ := h.1 h2
    rw [ha, q_tryL]
    exact (hf h2 a hp).1 h1
  · intro h1
    by_cases h2 : L ≤ N
    · obtain ⟨a, ha, hp⟩ := h.1 h2
      rw [ha, q_tryL]
      exact (hf h2 a hp).2 h1
    · obtain ⟨u, hu⟩ := h.2 (by omega)
      rw [hu, q_tryR]
      exact hg u
theorem pngW {K w h mode : Nat} (hK : 300000 < K) (hm : mode ≤ 5) (hw0 : 0 < w) (hh0 : 0 < h) (hwh : w * h ≤ 16384) (b P : Nat → Int32) {t_total : Int32} {t_copyLength : Int32} {t_copyDistance : Int32} {a_t_rows : Nat → Int32} {a_t_lastPlaces : Nat → Int32} {a_t_placesBefore : Nat → Int32} :
    Fp 65536 (pngL P w h mode).length (fun a => a.2.1 = nI (pngL P w h mode).length ∧ a.2.2.2.2.1 = wr b (pngL P w h mode)) (f_PngWriter_encode K 65536 (nI mode) 0 0 0 b (nI w) (nI h) t_total t_copyLength t_copyDistance a_t_rows P a_t_lastPlaces a_t_placesBefore) := by
  obtain ⟨hn, h3⟩ := n_le hwh hw0 hh0
  unfold f_PngWriter_encode
  have hS := sigD (K := K) (N := 65536) (by omega) (by omega) b (Y := []) (Nat.zero_le _) (p3_bitStore := 0) (p3_bitsHeld := 0) (p1_width := nI w) (p1_height := nI h) (t_total := t_total) (t_copyLength := t_copyLength) (t_copyDistance := t_copyDistance) (a_t_rows := a_t_rows) (a_p1_points := P) (a_t_lastPlaces := a_t_lastPlaces) (a_t_placesBefore := a_t_placesBefore) (x2 := nI mode)
  rw [wr_nil] at hS
  have eL : (pngL P w h mode).length = ([] ++ (pngS ++ (prt 1229472850 (pngI (nI w) (nI h)) ++ (prt 1229209940 (pngD (rv P w mode) (h * (4 * w + 1))) ++ prt 1229278788 [])))).length := rfl
  refine Fp.len eL ?_
  refine Fp.sqL hS (fun u => ⟨u, rfl⟩) (fun h1 => ?_)
  refine Fp.sq (headP (by omega) (by omega) b _ _ h1) (fun u => ⟨_, rfl⟩) (fun h2 => ?_)
  obtain ⟨r', hr1, hr2⟩ := rowsP (K := K) (mode := mode) (by omega) hm hw0 hwh P a_t_rows t_total
  refine Fp.bnd hr2 ?_
  have hD := dataD (K := K) (N := 65536) (by omega) (by omega) hn h3 hr1 b h2 t_copyLength t_copyDistance a_t_lastPlaces a_t_placesBefore
  generalize hY1 : [] ++ pngS ++ prt 1229472850 (pngI (nI w) (nI h)) = Y1 at h2 hD ⊢
  have hlE : (Y1 ++ (prt 1229209940 (pngD (rv P w mode) (h * (4 * w + 1))) ++ prt 1229278788 [])).length = (Y1 ++ prt 1229209940 (pngD (rv P w mode) (h * (4 * w + 1)))).length + 12 := by
    rw [← List.append_assoc, List.length_append (bs := prt 1229278788 []), prt_len]
    rfl
  refine Fp.try hD (fun u => ⟨_, rfl⟩) (by omega) (fun h4 a ha => ?_)
  obtain ⟨ha1, ha2⟩ := ha
  rw [ha1, ha2]
  rw [← List.append_assoc] at hlE
  have eZ : (Y1 ++ prt 1229209940 (pngD (rv P w mode) (h * (4 * w + 1)))) ++ prt 1229278788 [] = pngL P w h mode := by
    rw [← hY1, List.nil_append, List.append_assoc, List.append_assoc]
    rfl
  rw [← List.append_assoc]
  generalize hY2 : Y1 ++ prt 1229209940 (pngD (rv P w mode) (h * (4 * w + 1))) = Y2 at h4 hlE eZ ⊢
  have l8 : (Y2 ++ (Bg 0 ++ Bg 1229278788)).length = Y2.length + 8 := by rw [List.length_append]; rfl
  refine Fp.seq (openD (by omega) b 1229278788 h4) (fun u => ⟨_, rfl⟩) (by omega) (fun h5 => ?_)
  refine Fp.seq (endD (by omega) (by omega) b Y2 h5) (fun u => ⟨_, rfl⟩) (by rw [pngE_eq]; exact Nat.le_refl _) (fun h6 => ?_)
  rw [pngE_eq, eZ] at h6 ⊢
  exact Fp.ret h6 ⟨rfl, rfl⟩
