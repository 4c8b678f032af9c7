/-! the pure half: a PNG's passes and rows -/
def gX (i : Nat) : Nat := [0, 4, 0, 2, 0, 1, 0, 0].getD i 0
def gY (i : Nat) : Nat := [0, 0, 4, 0, 2, 0, 1, 0].getD i 0
def hX (i : Nat) : Nat := [3, 3, 2, 2, 1, 1, 0, 0].getD i 0
def hY (i : Nat) : Nat := [3, 3, 3, 2, 2, 1, 1, 0].getD i 0
theorem tab_p : ∀ i, i < 8 → tab_PngReader_PASS_X i = nI (gX i) ∧ tab_PngReader_PASS_X_SHIFT i = nI (hX i) ∧ tab_PngReader_PASS_Y i = nI (gY i) ∧ tab_PngReader_PASS_Y_SHIFT i = nI (hY i) ∧ gX i < 2 ^ hX i ∧ gY i < 2 ^ hY i ∧ hX i ≤ 3 ∧ hY i ≤ 3 := by decide +kernel
theorem tab_q : ∀ i, i < 7 → tab_M_FROM_X i = nI (gX i) ∧ tab_M_STEP_X i = nI (2 ^ hX i) ∧ tab_M_FROM_Y i = nI (gY i) ∧ tab_M_STEP_Y i = nI (2 ^ hY i) := by decide +kernel
/-- so many of W from g on, each 2 ^ h-th -/
def pz (W g h : Nat) : Nat := (W + 2 ^ h - (g + 1)) / 2 ^ h
theorem nI_rot (W g k : Nat) (h : g + 1 ≤ W + k) : ((nI W - nI g) + nI k) - 1 = nI (W + k - (g + 1)) := by
  have e : (nI W - nI g) + nI k = nI (W + k) - nI g := by
    rw [Int32.sub_eq_add_neg, Int32.add_assoc, Int32.add_comm (-nI g), ← Int32.add_assoc, ← Int32.sub_eq_add_neg, nI_add]
  rw [e, show (nI (W + k) - nI g) - 1 = nI (W + k) - nI (g + 1) from nI_subsub (W + k) g 1, pk_sub h]
theorem p2_3 {h : Nat} (hh : h ≤ 3) : 1 ≤ 2 ^ h ∧ 2 ^ h ≤ 8 := by
  rcases (show h = 0 ∨ h = 1 ∨ h = 2 ∨ h = 3 by omega) with rfl | rfl | rfl | rfl <;> decide
theorem pw_D {i W : Nat} (hi : i < 8) (hW : W ≤ 16384) (hW0 : 0 < W) : f_PngReader_passWidth (nI i) (nI W) = some (nI (pz W (gX i) (hX i)), ()) := by
  obtain ⟨t1, t2, t3, t4, t5, t6, t7, t8⟩ := tab_p i hi
  have hp := p2_3 t7
  unfold f_PngReader_passWidth pz
  rw [if_pos (q_inb (by omega) (by omega)), if_pos (q_inb (by omega) (by omega)), nI_clamp (by omega), t1, t2, one_sh2 _ (by omega), nI_rot _ _ _ (by omega), pk_shrN (by omega) (nI (hX i) &&& 31) (hX i) (sh_amt _ (by omega))]
theorem ph_D {i W : Nat} (hi : i < 8) (hW : W ≤ 16384) (hW0 : 0 < W) : f_PngReader_passHeight (nI i) (nI W) = some (nI (pz W (gY i) (hY i)), ()) := by
  obtain ⟨t1, t2, t3, t4, t5, t6, t7, t8⟩ := tab_p i hi
  have hp := p2_3 t8
  unfold f_PngReader_passHeight pz
  rw [if_pos (q_inb (by omega) (by omega)), if_pos (q_inb (by omega) (by omega)), nI_clamp (by omega), t3, t4, one_sh2 _ (by omega), nI_rot _ _ _ (by omega), pk_shrN (by omega) (nI (hY i) &&& 31) (hY i) (sh_amt _ (by omega))]
/-- the pass as the class numbers it -/
def dp (il i : Nat) : Nat := if il = 0 then 7 else i
theorem pz_0 (W : Nat) : pz W 0 0 = W := by
  unfold pz
  rw [show (2 : Nat) ^ 0 = 1 from rfl, Nat.div_one]
  omega
theorem pw_M {il i W : Nat} (hil : il = 0 ∨ (il = 1 ∧ i < 7)) (hW : W ≤ 16384) (hW0 : 0 < W) : f_M_passWidth (nI i) (nI W) (nI il) = some (nI (pz W (gX (dp il i)) (hX (dp il i))), ()) := by
  unfold f_M_passWidth f_M_passWidth_38
  rcases hil with rfl | ⟨rfl, hi⟩
  · rw [if_pos (show nI 0 = 0 from rfl), show gX (dp 0 i) = 0 from rfl, show hX (dp 0 i) = 0 from rfl, pz_0]
  · obtain ⟨t1, t2, t3, t4⟩ := tab_q i hi
    obtain ⟨-, -, -, -, t5, t6, t7, t8⟩ := tab_p i (by omega)
    have hp := p2_3 t7
    rw [if_neg (show ¬ nI 1 = 0 by decide), show dp 1 i = i from rfl, if_pos (q_inb (by omega) (by omega)), if_pos (q_inb (by omega) (by omega)), if_pos (q_inb (by omega) (by omega)), nI_clamp (by omega), t1, t2, if_neg (nI_ne0 (by omega) (by omega)), nI_rot _ _ _ (by omega), pk_div (by omega) (by omega) (by omega)]
    rfl
theorem ph_M {il i W : Nat} (hil : il = 0 ∨ (il = 1 ∧ i < 7)) (hW : W ≤ 16384) (hW0 : 0 < W) : f_M_passHeight (nI i) (nI W) (nI il) = some (nI (pz W (gY (dp il i)) (hY (dp il i))), ()) := by
  unfold f_M_passHeight f_M_passHeight_38
  rcases hil with rfl | ⟨rfl, hi⟩
  · rw [if_pos (show nI 0 = 0 from rfl), show gY (dp 0 i) = 0 from rfl, show hY (dp 0 i) = 0 from rfl, pz_0]
  · obtain ⟨t1, t2, t3, t4⟩ := tab_q i hi
    obtain ⟨-, -, -, -, t5, t6, t7, t8⟩ := tab_p i (by omega)
    have hp := p2_3 t8
    rw [if_neg (show ¬ nI 1 = 0 by decide), show dp 1 i = i from rfl, if_pos (q_inb (by omega) (by omega)), if_pos (q_inb (by omega) (by omega)), if_pos (q_inb (by omega) (by omega)), nI_clamp (by omega), t3, t4, if_neg (nI_ne0 (by omega) (by omega)), nI_rot _ _ _ (by omega), pk_div (by omega) (by omega) (by omega)]
    rfl
/-- a row's bytes -/
def rb (w bits : Nat) : Nat := (w * bits + 7) / 8
theorem spp_le (kind : Nat) : 1 ≤ spp kind ∧ spp kind ≤ 4 := by
  unfold spp
  by_cases h6 : kind = 6
  · rw [if_pos h6]; omega
  · rw [if_neg h6]
    by_cases h2 : kind = 2
    · rw [if_pos h2]; omega
    · rw [if_neg h2]
      by_cases h4 : kind = 4
      · rw [if_pos h4]; omega
      · rw [if_neg h4]; omega
theorem bits_le {kind dep : Nat} (hd : dpO dep) : 1 ≤ spp kind * dep ∧ spp kind * dep ≤ 64 := by
  have h1 := spp_le kind
  have h2 : 1 ≤ dep ∧ dep ≤ 16 := by unfold dpO at hd; omega
  exact ⟨Nat.mul_le_mul h1.1 h2.1, Nat.mul_le_mul h1.2 h2.2⟩
theorem rb_D {w kind dep : Nat} (hw : w ≤ 16384) (hd : dpO dep) (hk : kind = 0 ∨ kind = 2 ∨ kind = 3 ∨ kind = 4 ∨ kind = 6) : f_PngReader_rowBytes (nI w) (nI dep) (nI kind) = some (nI (rb w (spp kind * dep)), ()) := by
  unfold f_PngReader_rowBytes rb
  have hb := bits_le (kind := kind) hd
  have hm : w * (spp kind * dep) ≤ 16384 * 64 := Nat.mul_le_mul hw hb.2
  rw [bap_D hk, q_bind]
  dsimp only
  rw [pk_mul, show nI (w * (spp kind * dep)) + 7 = nI (w * (spp kind * dep) + 7) from nI_add _ 7, show nI (w * (spp kind * dep) + 7) / 8 = nI ((w * (spp kind * dep) + 7) / 8) from pk_div (d := 8) (by omega) (by omega) (by omega)]
theorem rb_M {w kind dep : Nat} (hw : w ≤ 16384) (hd : dpO dep) (hk : kind = 0 ∨ kind = 2 ∨ kind = 3 ∨ kind = 4 ∨ kind = 6) : f_M_rowSize (nI w) (nI dep) (nI kind) = some (nI (rb w (spp kind * dep) + 1), ()) := by
  unfold f_M_rowSize rb
  have hb := bits_le (kind := kind) hd
  have hm : w * (spp kind * dep) ≤ 16384 * 64 := Nat.mul_le_mul hw hb.2
  rw [samp_M hk, q_bind]
  dsimp only
  rw [pk_mul, pk_mul, Nat.mul_assoc, show nI (w * (spp kind * dep)) + 7 = nI (w * (spp kind * dep) + 7) from nI_add _ 7, show nI (w * (spp kind * dep) + 7) / 8 = nI ((w * (spp kind * dep) + 7) / 8) from pk_div (d := 8) (by omega) (by omega) (by omega), show (1 : Int32) + nI ((w * (spp kind * dep) + 7) / 8) = nI (1 + (w * (spp kind * dep) + 7) / 8) from nI_add 1 _, Nat.add_comm 1]
/-- a pass's bytes -/
def pby (W H bits i : Nat) : Nat := if pz W (gX i) (hX i) = 0 then 0 else pz H (gY i) (hY i) * (1 + rb (pz W (gX i) (hX i)) bits)
theorem pz_le {W g h : Nat} (hW : W ≤ 16384) (hh : h ≤ 3) : pz W g h ≤ W := by
  have hp := p2_3 hh
  unfold pz
  have h1 : W + 2 ^ h - (g + 1) ≤ W + 2 ^ h - 1 := by omega
  have h2 : (W + 2 ^ h - (g + 1)) / 2 ^ h ≤ (W + 2 ^ h - 1) / 2 ^ h := Nat.div_le_div_right h1
  have h3 : (W + 2 ^ h - 1) / 2 ^ h ≤ W := by
    refine Nat.le_of_lt_succ (Nat.div_lt_of_lt_mul ?_)
    have : 2 ^ h * (W + 1) = 2 ^ h * W + 2 ^ h := by rw [Nat.mul_add, Nat.mul_one]
    have h4 : 1 * W ≤ 2 ^ h * W := Nat.mul_le_mul_right _ hp.1
    show _ < 2 ^ h * (W + 1)
    omega
  omega
theorem rb_le {w bits : Nat} (hb : bits ≤ 64) : rb w bits ≤ 8 * w := by
  unfold rb
  have : w * bits ≤ w * 64 := Nat.mul_le_mul_left _ hb
  omega
theorem pby_le {W H bits i : Nat} (hb : bits ≤ 64) : pby W H bits i ≤ 9 * (pz W (gX i) (hX i) * pz H (gY i) (hY i)) := by
  unfold pby
  by_cases h : pz W (gX i) (hX i) = 0
  · rw [if_pos h]; omega
  · rw [if_neg h]
    have h1 := rb_le (w := pz W (gX i) (hX i)) hb
    have h2 : pz H (gY i) (hY i) * (1 + rb (pz W (gX i) (hX i)) bits) ≤ pz H (gY i) (hY i) * (9 * pz W (gX i) (hX i)) := Nat.mul_le_mul_left _ (by omega)
    have h3 : pz H (gY i) (hY i) * (9 * pz W (gX i) (hX i)) = 9 * (pz W (gX i) (hX i) * pz H (gY i) (hY i)) := by
      rw [Nat.mul_left_comm, Nat.mul_comm (pz H (gY i) (hY i))]
    omega
/-- the bytes of the passes before i -/
def fro (W H bits : Nat) : Nat → Nat
  | 0 => 0
  | i + 1 => fro W H bits i + pby W H bits i
theorem fro_mono (W H bits : Nat) {i j : Nat} (h : i ≤ j) : fro W H bits i ≤ fro W H bits j := by
  induction j with
  | zero => rw [show i = 0 by omega]; exact Nat.le_refl _
  | succ j ih =>
    by_cases e : i = j + 1
    · rw [e]; exact Nat.le_refl _
    · have := ih (by omega)
      show _ ≤ fro W H bits j + pby W H bits j
      omega
theorem adam1 (W : Nat) : (W + 7) / 8 + (W + 3) / 8 + (W + 1) / 4 + W / 2 = W := by
  have h1 : (W + 7) / 8 + (W + 3) / 8 = (W + 3) / 4 := by omega
  have h2 : (W + 3) / 4 + (W + 1) / 4 = (W + 1) / 2 := by omega
  rw [h1, h2]
  omega
theorem adam (W H : Nat) (hW : 0 < W) (hH : 0 < H) : pz W (gX 0) (hX 0) * pz H (gY 0) (hY 0) + pz W (gX 1) (hX 1) * pz H (gY 1) (hY 1) + pz W (gX 2) (hX 2) * pz H (gY 2) (hY 2) + pz W (gX 3) (hX 3) * pz H (gY 3) (hY 3) + pz W (gX 4) (hX 4) * pz H (gY 4) (hY 4) + pz W (gX 5) (hX 5) * pz H (gY 5) (hY 5) + pz W (gX 6) (hX 6) * pz H (gY 6) (hY 6) = W * H := by
  have x0 : pz W (gX 0) (hX 0) = (W + 7) / 8 := by show (W + 8 - (0 + 1)) / 8 = _; omega
  have x1 : pz W (gX 1) (hX 1) = (W + 3) / 8 := by show (W + 8 - (4 + 1)) / 8 = _; omega
  have x2 : pz W (gX 2) (hX 2) = (W + 7) / 8 + (W + 3) / 8 := by show (W + 4 - (0 + 1)) / 4 = _; omega
  have x3 : pz W (gX 3) (hX 3) = (W + 1) / 4 := by show (W + 4 - (2 + 1)) / 4 = _; omega
  have x4 : pz W (gX 4) (hX 4) = (W + 7) / 8 + (W + 3) / 8 + (W + 1) / 4 := by show (W + 2 - (0 + 1)) / 2 = _; omega
  have x5 : pz W (gX 5) (hX 5) = W / 2 := by show (W + 2 - (1 + 1)) / 2 = _; omega
  have x6 : pz W (gX 6) (hX 6) = W := pz_0 W
  have xx := adam1 W
  have y0 : pz H (gY 0) (hY 0) = (H + 7) / 8 := by show (H + 8 - (0 + 1)) / 8 = _; omega
  have y1 : pz H (gY 1) (hY 1) = (H + 7) / 8 := by show (H + 8 - (0 + 1)) / 8 = _; omega
  have y2 : pz H (gY 2) (hY 2) = (H + 3) / 8 := by show (H + 8 - (4 + 1)) / 8 = _; omega
  have y3 : pz H (gY 3) (hY 3) = (H + 7) / 8 + (H + 3) / 8 := by show (H + 4 - (0 + 1)) / 4 = _; omega
  have y4 : pz H (gY 4) (hY 4) = (H + 1) / 4 := by show (H + 4 - (2 + 1)) / 4 = _; omega
  have y5 : pz H (gY 5) (hY 5) = (H + 7) / 8 + (H + 3) / 8 + (H + 1) / 4 := by show (H + 2 - (0 + 1)) / 2 = _; omega
  have y6 : pz H (gY 6) (hY 6) = H / 2 := by show (H + 2 - (1 + 1)) / 2 = _; omega
  have yy := adam1 H
  rw [x0, x1, x2, x3, x4, x5, x6, y0, y1, y2, y3, y4, y5, y6]
  generalize (W + 7) / 8 = a at xx ⊢
  generalize (W + 3) / 8 = b at xx ⊢
  generalize (W + 1) / 4 = c at xx ⊢
  generalize W / 2 = d at xx ⊢
  generalize (H + 7) / 8 = e at yy ⊢
  generalize (H + 3) / 8 = f at yy ⊢
  generalize (H + 1) / 4 = g at yy ⊢
  generalize H / 2 = h at yy ⊢
  rw [← Nat.add_mul a b e, ← Nat.mul_add (a + b) e f, ← Nat.add_mul (a + b) c (e + f), ← Nat.mul_add (a + b + c) (e + f) g, ← Nat.add_mul (a + b + c) d (e + f + g), xx, ← Nat.mul_add W (e + f + g) h, yy]
/-- all rows' bytes -/
def dueB (W H bits il : Nat) : Nat := if il = 0 then pby W H bits 7 else fro W H bits 7
theorem dueB_le {W H bits il : Nat} (hW : 0 < W) (hH : 0 < H) (hWH : W * H ≤ 16384) (hb : bits ≤ 64) : dueB W H bits il ≤ 147456 := by
  unfold dueB
  by_cases h : il = 0
  · rw [if_pos h]
    have h1 := pby_le (W := W) (H := H) (bits := bits) (i := 7) hb
    rw [show pz W (gX 7) (hX 7) = W from pz_0 W, show pz H (gY 7) (hY 7) = H from pz_0 H] at h1
    omega
  · rw [if_neg h]
    have a := adam W H hW hH
    have h0 := pby_le (W := W) (H := H) (bits := bits) (i := 0) hb
    have h1 := pby_le (W := W) (H := H) (bits := bits) (i := 1) hb
    have h2 := pby_le (W := W) (H := H) (bits := bits) (i := 2) hb
    have h3 := pby_le (W := W) (H := H) (bits := bits) (i := 3) hb
    have h4 := pby_le (W := W) (H := H) (bits := bits) (i := 4) hb
    have h5 := pby_le (W := W) (H := H) (bits := bits) (i := 5) hb
    have h6 := pby_le (W := W) (H := H) (bits := bits) (i := 6) hb
    show 0 + pby W H bits 0 + pby W H bits 1 + pby W H bits 2 + pby W H bits 3 + pby W H bits 4 + pby W H bits 5 + pby W H bits 6 ≤ _
    omega
theorem pby_D {W H kind dep i : Nat} (hi : i < 8) (hW : 0 < W) (hH : 0 < H) (hWH : W * H ≤ 16384) (hd : dpO dep) (hk : kind = 0 ∨ kind = 2 ∨ kind = 3 ∨ kind = 4 ∨ kind = 6) : f_PngReader_passBytes (nI i) (nI W) (nI H) (nI dep) (nI kind) = some (nI (pby W H (spp kind * dep) i), ()) := by
  have hWl : W ≤ 16384 := Nat.le_trans (Nat.le_mul_of_pos_right W hH) hWH
  have hHl : H ≤ 16384 := Nat.le_trans (Nat.le_mul_of_pos_left H hW) hWH
  obtain ⟨-, -, -, -, -, -, t7, t8⟩ := tab_p i hi
  have hw := pz_le (g := gX i) hWl t7
  unfold f_PngReader_passBytes f_PngReader_passBytes_27 pby
  rw [pw_D hi hWl hW, q_bind]
  dsimp only
  by_cases h : pz W (gX i) (hX i) = 0
  · rw [if_pos h, if_pos (show nI (pz W (gX i) (hX i)) ≤ 0 from nI_le (b := 0) (by omega) (by omega))]
    rfl
  · rw [if_neg h, if_neg (show ¬ nI (pz W (gX i) (hX i)) ≤ 0 from nI_ge (a := 0) (by omega) (by omega)), ph_D hi hHl hH, q_bind, rb_D (by omega) hd hk, q_bind]
    dsimp only
    rw [show (1 : Int32) + nI (rb (pz W (gX i) (hX i)) (spp kind * dep)) = nI (1 + rb (pz W (gX i) (hX i)) (spp kind * dep)) from nI_add 1 _, pk_mul]
theorem due_D {K W H kind dep il : Nat} (hK : 100 < K) (hil : il ≤ 1) (hW : 0 < W) (hH : 0 < H) (hWH : W * H ≤ 16384) (hd : dpO dep) (hk : kind = 0 ∨ kind = 2 ∨ kind = 3 ∨ kind = 4 ∨ kind = 6) : f_PngReader_rowBytesDue K (nI dep) (nI kind) (nI il) (nI W) (nI H) = some (nI (dueB W H (spp kind * dep) il), ()) := by
  unfold f_PngReader_rowBytesDue dueB
  by_cases h : il = 0
  · rw [if_pos h, if_pos (show nI il = 0 by rw [h]; rfl), show f_PngReader_passBytes 7 (nI W) (nI H) (nI dep) (nI kind) = _ from pby_D (i := 7) (by omega) hW hH hWH hd hk, q_bind]
  · rw [if_neg h, if_neg (show ¬ nI il = 0 from nI_ne0 (by omega) (by omega))]
    have hL : ∀ (r i q : Nat), i + r = 7 → r < q → f_PngReader_rowBytesDue_L19 K (nI dep) (nI kind) (nI il) (nI W) (nI H) q (nI (fro W H (spp kind * dep) i)) (nI i) = some (nI (fro W H (spp kind * dep) 7)) := by
      intro r
      induction r with
      | zero =>
        intro i q hi hq
        obtain ⟨q, rfl⟩ : ∃ w, q = w + 1 := ⟨q - 1, by omega⟩
        have e : i = 7 := by omega
        subst e
        show (f_PngReader_rowBytesDue_19 K _ (nI dep) (nI kind) (nI il) (nI W) (nI H) (nI (fro W H (spp kind * dep) 7)) (nI 7)) = _
        unfold f_PngReader_rowBytesDue_19
        rw [if_pos (show (7 : Int32) ≤ nI 7 by decide)]
      | succ r ih =>
        intro i q hi hq
        obtain ⟨q, rfl⟩ : ∃ w, q = w + 1 := ⟨q - 1, by omega⟩
        show (f_PngReader_rowBytesDue_19 K _ (nI dep) (nI kind) (nI il) (nI W) (nI H) (nI (fro W H (spp kind * dep) i)) (nI i)) = _
        unfold f_PngReader_rowBytesDue_19
        rw [if_neg (show ¬ (7 : Int32) ≤ nI i from nI_ge (b := 7) (by omega) (by omega)), pby_D (by omega) hW hH hWH hd hk, q_bind, nI_add, nI_1]
        exact ih (i + 1) q (by omega) (by omega)
    rw [show f_PngReader_rowBytesDue_L19 K (nI dep) (nI kind) (nI il) (nI W) (nI H) K 0 0 = _ from hL 7 0 K (by omega) (by omega), q_bind]
theorem due_M {K W H kind dep il : Nat} (hK : 100 < K) (hil : il ≤ 1) (hW : 0 < W) (hH : 0 < H) (hWH : W * H ≤ 16384) (hd : dpO dep) (hk : kind = 0 ∨ kind = 2 ∨ kind = 3 ∨ kind = 4 ∨ kind = 6) : (f_M_allRows K (nI W) (nI H) (nI dep) (nI kind) (nI il)) = some (nI (dueB W H (spp kind * dep) il), ()) := by
  have hWl : W ≤ 16384 := Nat.le_trans (Nat.le_mul_of_pos_right W hH) hWH
  have hHl : H ≤ 16384 := Nat.le_trans (Nat.le_mul_of_pos_left H hW) hWH
  have hstep : ∀ (q a i : Nat) (Y : Int32), (il = 0 ∨ (il = 1 ∧ i < 7)) → ¬ Y ≤ nI i → (f_M_allRows_18 K (f_M_allRows_L4 K (nI W) (nI H) (nI dep) (nI kind) (nI il) q) (nI W) (nI H) (nI dep) (nI kind) (nI il) (nI a) (nI i) (nI i) Y) = f_M_allRows_L4 K (nI W) (nI H) (nI dep) (nI kind) (nI il) q (nI (a + pby W H (spp kind * dep) (dp il i))) (nI (i + 1)) := by
    intro q a i Y hi hyy
    have hdp : dp il i < 8 := by
      unfold dp
      rcases hi with h | h
      · rw [if_pos h]; omega
      · rw [if_neg (by omega)]; omega
    obtain ⟨-, -, -, -, -, -, t7, t8⟩ := tab_p (dp il i) hdp
    have hw := pz_le (g := gX (dp il i)) hWl t7
    have hh := pz_le (g := gY (dp il i)) hHl t8
    unfold f_M_allRows_18 f_M_allRows_55 pby
    rw [if_neg hyy, pw_M hi hWl hW, q_bind, ph_M hi hHl hH, q_bind]
    dsimp only
    by_cases h : pz W (gX (dp il i)) (hX (dp il i)) = 0
    · rw [if_pos h, if_pos (show nI (pz W (gX (dp il i)) (hX (dp il i))) ≤ 0 from nI_le (b := 0) (by omega) (by omega)), nI_1]
      rfl
    · rw [if_neg h, if_neg (show ¬ nI (pz W (gX (dp il i)) (hX (dp il i))) ≤ 0 from nI_ge (a := 0) (by omega) (by omega))]
      by_cases h2 : pz H (gY (dp il i)) (hY (dp il i)) = 0
      · rw [if_pos (show nI (pz H (gY (dp il i)) (hY (dp il i))) ≤ 0 from nI_le (b := 0) (by omega) (by omega)), nI_1, h2, Nat.zero_mul]
        rfl
      · rw [if_neg (show ¬ nI (pz H (gY (dp il i)) (hY (dp il i))) ≤ 0 from nI_ge (a := 0) (by omega) (by omega)), q_bind, q_bind, rb_M (by omega) hd hk, q_bind]
        dsimp only
        rw [pk_mul, nI_add, nI_1, Nat.add_comm (rb _ _) 1]
  unfold f_M_allRows dueB
  by_cases h : il = 0
  · obtain ⟨k, rfl⟩ : ∃ k, K = k + 2 := ⟨K - 2, by omega⟩
    have e1 : f_M_allRows_L4 (k + 2) (nI W) (nI H) (nI dep) (nI kind) (nI il) (k + 2) 0 0 = (f_M_allRows_18 ((k + 2)) (f_M_allRows_L4 (k + 2) (nI W) (nI H) (nI dep) (nI kind) (nI il) (k + 1)) (nI W) (nI H) (nI dep) (nI kind) (nI il) (nI 0) (nI 0) (nI 0) 1) := by
      show (f_M_allRows_4 ((k + 2)) (f_M_allRows_L4 (k + 2) (nI W) (nI H) (nI dep) (nI kind) (nI il) (k + 1)) (nI W) (nI H) (nI dep) (nI kind) (nI il) (nI 0) (nI 0)) = _
      unfold f_M_allRows_4
      rw [if_pos (show nI il = 0 by rw [h]; rfl)]
    have e2 : f_M_allRows_L4 (k + 2) (nI W) (nI H) (nI dep) (nI kind) (nI il) (k + 1) (nI (0 + pby W H (spp kind * dep) (dp il 0))) (nI (0 + 1)) = some (nI (0 + pby W H (spp kind * dep) (dp il 0))) := by
      show (f_M_allRows_4 ((k + 2)) (f_M_allRows_L4 (k + 2) (nI W) (nI H) (nI dep) (nI kind) (nI il) k) (nI W) (nI H) (nI dep) (nI kind) (nI il) (nI (0 + pby W H (spp kind * dep) (dp il 0))) (nI 1)) = _
      unfold f_M_allRows_4 f_M_allRows_18
      rw [if_pos (show nI il = 0 by rw [h]; rfl), if_pos (show (1 : Int32) ≤ nI 1 by decide)]
    rw [e1, hstep _ _ _ _ (Or.inl h) (by decide), e2, q_bind, if_pos h, Nat.zero_add, show dp il 0 = 7 by unfold dp; rw [if_pos h]]
  · have h1 : il = 1 := by omega
    have hL : ∀ (r i q : Nat), i + r = 7 → r < q → f_M_allRows_L4 K (nI W) (nI H) (nI dep) (nI kind) (nI il) q (nI (fro W H (spp kind * dep) i)) (nI i) = some (nI (fro W H (spp kind * dep) 7)) := by
      intro r
      induction r with
      | zero =>
        intro i q hi hq
        obtain ⟨q, rfl⟩ : ∃ w, q = w + 1 := ⟨q - 1, by omega⟩
        have e : i = 7 := by omega
        subst e
        show (f_M_allRows_4 K _ (nI W) (nI H) (nI dep) (nI kind) (nI il) (nI (fro W H (spp kind * dep) 7)) (nI 7)) = _
        unfold f_M_allRows_4 f_M_allRows_18
        rw [if_neg (show ¬ nI il = 0 from nI_ne0 (by omega) (by omega)), if_pos (show (7 : Int32) ≤ nI 7 by decide)]
      | succ r ih =>
        intro i q hi hq
        obtain ⟨q, rfl⟩ : ∃ w, q = w + 1 := ⟨q - 1, by omega⟩
        show (f_M_allRows_4 K (f_M_allRows_L4 K (nI W) (nI H) (nI dep) (nI kind) (nI il) q) (nI W) (nI H) (nI dep) (nI kind) (nI il) (nI (fro W H (spp kind * dep) i)) (nI i)) = _
        unfold f_M_allRows_4
        rw [if_neg (show ¬ nI il = 0 from nI_ne0 (by omega) (by omega)), hstep q _ i 7 (Or.inr ⟨h1, by omega⟩) (show ¬ (7 : Int32) ≤ nI i from nI_ge (b := 7) (by omega) (by omega)), show dp il i = i by unfold dp; rw [if_neg h]]
        exact ih (i + 1) q (by omega) (by omega)
    rw [if_neg h, show f_M_allRows_L4 K (nI W) (nI H) (nI dep) (nI kind) (nI il) K 0 0 = _ from hL 7 0 K (by omega) (by omega), q_bind]
