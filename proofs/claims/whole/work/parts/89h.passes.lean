/-! the pure half: rows made whole, and points laid -/
theorem q_by_add (x y : Int32) : q_by (x + q_by y) = q_by (x + y) := by
  unfold q_by
  rw [Int32.toInt8_add, Int32.toInt8_add, Int8.toInt8_toInt32]
theorem unf_L {K N n fr st ft y dep kind W H c il : Nat} {tr : Bool} (hN : N ≤ 147456) (hfr : fr + 1 + n ≤ N) (hst : 1 ≤ st) (hst2 : st ≤ 64) (hft : ft ≤ 4) (hy : 0 < y → n + 1 ≤ fr) (hyl : y ≤ 16384) {palM ck : Nat → Int32} {a_t_points : Nat → Int32} {x3 : Int32} {x4 : Int32} {x5 : Int32} : ∀ (r k qD qM : Nat) (f g : Nat → Int32), k + r = n → r < qD → r < qM → Agr N f g → ∃ f' g', (f_PngReader_unfilter_L47 K (nI dep) (nI kind) (nI fr) (nI n) (b2 (decide (0 < y))) (nI ft) (nI st) (nI (n + 1)) qD f (nI k)) = some f' ∧ (f_M_pictures_L113 K (nI W) (nI H) (nI dep) (nI kind) (nI il) (nI c) (b2 (tr && decide (kind ≠ 3))) palM ck a_t_points (nI fr) (nI st) x3 x4 x5 (nI (n + 1)) (nI y) (nI ft) qM g (nI (k + 1))) = some g' ∧ Agr N f' g' := by
  intro r
  induction r with
  | zero =>
    intro k qD qM f g hk hqD hqM hA
    obtain ⟨qD, rfl⟩ : ∃ w, qD = w + 1 := ⟨qD - 1, by omega⟩
    obtain ⟨qM, rfl⟩ : ∃ w, qM = w + 1 := ⟨qM - 1, by omega⟩
    have e : k = n := by omega
    subst e
    refine ⟨f, g, ?_, ?_, hA⟩
    · show (f_PngReader_unfilter_47 K _ (nI dep) (nI kind) f (nI fr) (nI k) (b2 (decide (0 < y))) (nI ft) (nI st) (nI (k + 1)) (nI k)) = _
      unfold f_PngReader_unfilter_47
      rw [if_pos (nI_le (by omega) (by omega))]
    · show (f_M_pictures_113 K _ (nI W) (nI H) (nI dep) (nI kind) (nI il) (nI c) (b2 (tr && decide (kind ≠ 3))) g palM ck a_t_points (nI fr) (nI st) x3 x4 x5 (nI (k + 1)) (nI y) (nI ft) (nI (k + 1))) = _
      unfold f_M_pictures_113
      rw [if_pos (nI_le (by omega) (by omega))]
  | succ r ih =>
    intro k qD qM f g hk hqD hqM hA
    obtain ⟨qD, rfl⟩ : ∃ w, qD = w + 1 := ⟨qD - 1, by omega⟩
    obtain ⟨qM, rfl⟩ : ∃ w, qM = w + 1 := ⟨qM - 1, by omega⟩
    -- the byte before, above, and before that
    have hstep : ∀ (a b cc : Int32), ∃ f' g', (f_PngReader_unfilter_144 K ((f_PngReader_unfilter_L47 K (nI dep) (nI kind) (nI fr) (nI n) (b2 (decide (0 < y))) (nI ft) (nI st) (nI (n + 1))) qD) (nI dep) (nI kind) f (nI fr) (nI n) (b2 (decide (0 < y))) (nI ft) (nI st) (nI (n + 1)) (nI k) (nI (fr + 1 + k)) a b cc) = some f' ∧ (f_M_pictures_207 K ((f_M_pictures_L113 K (nI W) (nI H) (nI dep) (nI kind) (nI il) (nI c) (b2 (tr && decide (kind ≠ 3))) palM ck a_t_points (nI fr) (nI st) x3 x4 x5 (nI (n + 1)) (nI y) (nI ft)) qM) (nI W) (nI H) (nI dep) (nI kind) (nI il) (nI c) (b2 (tr && decide (kind ≠ 3))) g palM ck a_t_points (nI fr) (nI st) x3 x4 x5 (nI (n + 1)) (nI y) (nI ft) (nI (k + 1)) a b cc) = some g' ∧ Agr N f' g' := by
      intro a b cc
      obtain ⟨f', g', h1, h2, h3⟩ := ih (k + 1) qD qM (upd f (fr + 1 + k) (q_by (f (fr + 1 + k) + gs (nI ft) a b cc))) (upd g (fr + 1 + k) (q_by (f (fr + 1 + k) + gs (nI ft) a b cc))) (by omega) (by omega) (by omega) (Agr_u hA rfl)
      refine ⟨f', g', ?_, ?_, h3⟩
      · rw [← h1]
        unfold f_PngReader_unfilter_144
        rw [if_pos (q_inb (by omega) (by omega)), pred_ok hft, q_bind, if_pos (q_inb (by omega) (by omega)), nI_clamp (by omega), q_by2, nI_1]
      · rw [← h2]
        unfold f_M_pictures_207
        rw [nI_add, show fr + (k + 1) = fr + 1 + k by omega, if_pos (q_inb (by omega) (by omega)), gs_ok, q_bind, if_pos (q_inb (by omega) (by omega)), nI_clamp (by omega), q_by2, ← hA _ (by omega), nI_1]
        show (f_M_pictures_L113 K (nI W) (nI H) (nI dep) (nI kind) (nI il) (nI c) (b2 (tr && decide (kind ≠ 3))) palM ck a_t_points (nI fr) (nI st) x3 x4 x5 (nI (n + 1)) (nI y) (nI ft) qM (upd g (fr + 1 + k) (q_by (f (fr + 1 + k) + q_by (gs (nI ft) a b cc)))) (nI (k + 1 + 1))) = _
        rw [q_by_add]
    have eD : (f_PngReader_unfilter_L47 K (nI dep) (nI kind) (nI fr) (nI n) (b2 (decide (0 < y))) (nI ft) (nI st) (nI (n + 1)) (qD + 1) f (nI k)) = (f_PngReader_unfilter_47 K ((f_PngReader_unfilter_L47 K (nI dep) (nI kind) (nI fr) (nI n) (b2 (decide (0 < y))) (nI ft) (nI st) (nI (n + 1))) qD) (nI dep) (nI kind) f (nI fr) (nI n) (b2 (decide (0 < y))) (nI ft) (nI st) (nI (n + 1)) (nI k)) := rfl
    have eM : (f_M_pictures_L113 K (nI W) (nI H) (nI dep) (nI kind) (nI il) (nI c) (b2 (tr && decide (kind ≠ 3))) palM ck a_t_points (nI fr) (nI st) x3 x4 x5 (nI (n + 1)) (nI y) (nI ft) (qM + 1) g (nI (k + 1))) = (f_M_pictures_113 K ((f_M_pictures_L113 K (nI W) (nI H) (nI dep) (nI kind) (nI il) (nI c) (b2 (tr && decide (kind ≠ 3))) palM ck a_t_points (nI fr) (nI st) x3 x4 x5 (nI (n + 1)) (nI y) (nI ft)) qM) (nI W) (nI H) (nI dep) (nI kind) (nI il) (nI c) (b2 (tr && decide (kind ≠ 3))) g palM ck a_t_points (nI fr) (nI st) x3 x4 x5 (nI (n + 1)) (nI y) (nI ft) (nI (k + 1))) := rfl
    rw [eD, eM]
    clear eD eM
    unfold f_PngReader_unfilter_47 f_M_pictures_113 f_PngReader_unfilter_86 f_PngReader_unfilter_110 f_PngReader_unfilter_143 f_M_pictures_145 f_M_pictures_172 f_M_pictures_206
    rw [if_neg (nI_ge (by omega) (by omega)), if_neg (nI_ge (by omega) (by omega)), show nI fr + 1 = nI (fr + 1) from nI_add fr 1, nI_add, nI_add]
    by_cases cy : 0 < y
    · have hfr2 := hy cy
      have z1 : ¬ b2 (decide (0 < y)) = 0 := fun z => (b2_0.mp z) cy
      have z2 : ¬ nI y ≤ 0 := nI_ge (a := 0) cy (by omega)
      by_cases ck1 : k < st
      · simp only [if_pos (nI_lt ck1 (show st < 2 ^ 31 by omega)), if_pos (nI_le (show k + 1 ≤ st by omega) (show st < 2 ^ 31 by omega)), if_neg z1, if_neg z2]
        rw [pk_sub (show n + 1 ≤ fr + 1 + k by omega), pk_sub (show n + 1 ≤ fr + (k + 1) by omega), if_pos (q_inb (by omega) (by omega)), if_pos (q_inb (by omega) (by omega)), nI_clamp (by omega), nI_clamp (by omega), show fr + (k + 1) - (n + 1) = fr + 1 + k - (n + 1) by omega, ← hA (fr + 1 + k - (n + 1)) (by omega)]
        exact hstep _ _ _
      · simp only [if_neg (nI_nlt (show st ≤ k by omega) (show k < 2 ^ 31 by omega)), if_neg (nI_ge (show st < k + 1 by omega) (show k + 1 < 2 ^ 31 by omega)), if_neg z1, if_neg z2]
        rw [pk_sub (show st ≤ fr + 1 + k by omega), pk_sub (show st ≤ fr + (k + 1) by omega), pk_sub (show n + 1 ≤ fr + 1 + k by omega), pk_sub (show n + 1 ≤ fr + (k + 1) by omega), pk_sub (show st ≤ fr + 1 + k - (n + 1) by omega), pk_sub (show st ≤ fr + (k + 1) - (n + 1) by omega), if_pos (q_inb (show fr + 1 + k - st < 147456 by omega) (by omega)), if_pos (q_inb (show fr + 1 + k - (n + 1) < 147456 by omega) (by omega)), if_pos (q_inb (show fr + 1 + k - (n + 1) - st < 147456 by omega) (by omega)), if_pos (q_inb (show fr + (k + 1) - st < 200000 by omega) (by omega)), if_pos (q_inb (show fr + (k + 1) - (n + 1) < 200000 by omega) (by omega)), if_pos (q_inb (show fr + (k + 1) - (n + 1) - st < 200000 by omega) (by omega)), nI_clamp (show fr + 1 + k - st < 2 ^ 31 by omega), nI_clamp (show fr + 1 + k - (n + 1) < 2 ^ 31 by omega), nI_clamp (show fr + 1 + k - (n + 1) - st < 2 ^ 31 by omega), nI_clamp (show fr + (k + 1) - st < 2 ^ 31 by omega), nI_clamp (show fr + (k + 1) - (n + 1) < 2 ^ 31 by omega), nI_clamp (show fr + (k + 1) - (n + 1) - st < 2 ^ 31 by omega), show fr + (k + 1) - (n + 1) - st = fr + 1 + k - (n + 1) - st by omega, show fr + (k + 1) - (n + 1) = fr + 1 + k - (n + 1) by omega, show fr + (k + 1) - st = fr + 1 + k - st by omega, ← hA (fr + 1 + k - (n + 1)) (by omega), ← hA (fr + 1 + k - st) (by omega), ← hA (fr + 1 + k - (n + 1) - st) (by omega)]
        exact hstep _ _ _
    · have z1 : b2 (decide (0 < y)) = 0 := b2_0.mpr cy
      have z2 : nI y ≤ 0 := nI_le (b := 0) (by omega) (by omega)
      by_cases ck1 : k < st
      · simp only [if_pos (nI_lt ck1 (show st < 2 ^ 31 by omega)), if_pos (nI_le (show k + 1 ≤ st by omega) (show st < 2 ^ 31 by omega)), if_pos z1, if_pos z2]
        exact hstep _ _ _
      · simp only [if_neg (nI_nlt (show st ≤ k by omega) (show k < 2 ^ 31 by omega)), if_neg (nI_ge (show st < k + 1 by omega) (show k + 1 < 2 ^ 31 by omega)), if_pos z1, if_pos z2]
        rw [pk_sub (show st ≤ fr + 1 + k by omega), pk_sub (show st ≤ fr + (k + 1) by omega), if_pos (q_inb (show fr + 1 + k - st < 147456 by omega) (by omega)), if_pos (q_inb (show fr + (k + 1) - st < 200000 by omega) (by omega)), nI_clamp (show fr + 1 + k - st < 2 ^ 31 by omega), nI_clamp (show fr + (k + 1) - st < 2 ^ 31 by omega), show fr + (k + 1) - st = fr + 1 + k - st by omega, ← hA (fr + 1 + k - st) (by omega)]
        exact hstep _ _ _
def Ags (S : Nat → Prop) (f g : Nat → Int32) : Prop := ∀ j, S j → f j = g j
/-- the place of a pass's point -/
def ixp (W d x y : Nat) : Nat := (gY d + y * 2 ^ hY d) * W + (gX d + x * 2 ^ hX d)
def inP (W H d j : Nat) : Prop := ∃ y' x', y' < pz H (gY d) (hY d) ∧ x' < pz W (gX d) (hX d) ∧ j = ixp W d x' y'
theorem pz_in {W g h x : Nat} (hg : g < 2 ^ h) (hx : x < pz W g h) : g + x * 2 ^ h < W := by
  unfold pz at hx
  have h1 : (x + 1) * 2 ^ h ≤ W + 2 ^ h - (g + 1) := (Nat.le_div_iff_mul_le (Nat.two_pow_pos h)).mp hx
  rw [Nat.add_mul, Nat.one_mul] at h1
  have h2 : 0 < 2 ^ h := Nat.two_pow_pos h
  omega
theorem sok_row {N r0 x w s dep j : Nat} (hd : dpO dep) (hx : x < w) (hj : j < s) (hN : r0 + rb w (s * dep) ≤ N) : sOk N r0 (x * s + j) dep := by
  have h1 : (x + 1) * s ≤ w * s := Nat.mul_le_mul_right _ hx
  rw [Nat.add_mul, Nat.one_mul] at h1
  unfold rb at hN
  unfold sOk
  by_cases h : dep = 16
  · subst h
    rw [if_pos rfl]
    rw [← Nat.mul_assoc] at hN
    omega
  · rw [if_neg h]
    have hd0 : 1 ≤ dep := by unfold dpO at hd; omega
    have h2 : (x * s + j + 1) * dep ≤ (w * s) * dep := Nat.mul_le_mul_right _ (by omega)
    rw [Nat.add_mul, Nat.one_mul] at h2
    rw [← Nat.mul_assoc] at hN
    generalize (x * s + j) * dep = a at h2 ⊢
    generalize w * s * dep = b at h2 hN
    omega
theorem pts_L {K N fr w y i il W H dep kind c : Nat} {tr : Bool} (hN : N ≤ 147456) (hd : dpO dep) (hk : kind = 0 ∨ kind = 2 ∨ kind = 3 ∨ kind = 4 ∨ kind = 6) (hk3 : kind = 3 → dep ≤ 8) (hc : c ≤ 256) (hW0 : 0 < W) (hH0 : 0 < H) (hWH : W * H ≤ 16384) (hi : il = 0 ∨ (il = 1 ∧ i < 7)) (hw : w = pz W (gX (dp il i)) (hX (dp il i))) (hy : y < pz H (gY (dp il i)) (hY (dp il i))) (hfr : fr + 1 + rb w (spp kind * dep) ≤ N) {f g palD palM key ck : Nat → Int32} (hA : Agr N f g) (hpal : Agr c palD palM) (hkey : Agr (kn tr kind) key ck) {S : Nat → Prop} {dx5 dx6 dx8 : Int32} {x2 : Int32} {x5 : Int32} {x6 : Int32} : ∀ (r x qD qM : Nat) (pD pM : Nat → Int32), x + r = w → r < qD → r < qM → Ags (fun j => S j ∨ ∃ x', x' < x ∧ j = ixp W (dp il i) x' y) pD pM → Lk (fun a b => Ags (fun j => S j ∨ ∃ x', x' < w ∧ j = ixp W (dp il i) x' y) a b) (f_PngReader_takePass_L79 K (nI W) (nI H) (nI c) (b2 tr) (nI dep) (nI kind) f palD key (nI (dp il i)) (nI w) dx5 dx6 (nI fr) dx8 (nI (gY (dp il i) + y * 2 ^ hY (dp il i))) qD pD (nI x)) (f_M_pictures_L243 K (nI W) (nI H) (nI dep) (nI kind) (nI il) (nI c) (b2 (tr && decide (kind ≠ 3))) g palM ck (nI fr) x2 (nI i) (nI w) x5 x6 (nI y) qM pM (nI x)) := by
  have hdp : dp il i < 8 := by
    unfold dp
    rcases hi with h | h
    · rw [if_pos h]; omega
    · rw [if_neg (by omega)]; omega
  have hWl : W ≤ 16384 := Nat.le_trans (Nat.le_mul_of_pos_right W hH0) hWH
  have hHl : H ≤ 16384 := Nat.le_trans (Nat.le_mul_of_pos_left H hW0) hWH
  obtain ⟨t1, t2, t3, t4, t5, t6, t7, t8⟩ := tab_p (dp il i) hdp
  have hwl := pz_le (g := gX (dp il i)) hWl t7
  have hpy := pz_in t6 hy
  intro r
  induction r with
  | zero =>
    intro x qD qM pD pM hx hqD hqM hP
    obtain ⟨qD, rfl⟩ : ∃ w, qD = w + 1 := ⟨qD - 1, by omega⟩
    obtain ⟨qM, rfl⟩ : ∃ w, qM = w + 1 := ⟨qM - 1, by omega⟩
    have e : x = w := by omega
    show Lk _ (f_PngReader_takePass_79 K _ (nI W) (nI H) (nI c) (b2 tr) (nI dep) (nI kind) f palD key pD (nI (dp il i)) (nI w) dx5 dx6 (nI fr) dx8 (nI (gY (dp il i) + y * 2 ^ hY (dp il i))) (nI x)) (f_M_pictures_243 K _ (nI W) (nI H) (nI dep) (nI kind) (nI il) (nI c) (b2 (tr && decide (kind ≠ 3))) g palM ck pM (nI fr) x2 (nI i) (nI w) x5 x6 (nI y) (nI x))
    unfold f_PngReader_takePass_79 f_M_pictures_243
    rw [if_pos (nI_le (by omega) (by omega)), if_pos (nI_le (by omega) (by omega))]
    rw [e] at hP
    exact Lk.yes hP
  | succ r ih =>
    intro x qD qM pD pM hx hqD hqM hP
    obtain ⟨qD, rfl⟩ : ∃ w, qD = w + 1 := ⟨qD - 1, by omega⟩
    obtain ⟨qM, rfl⟩ : ∃ w, qM = w + 1 := ⟨qM - 1, by omega⟩
    have hpx := pz_in t5 (show x < pz W (gX (dp il i)) (hX (dp il i)) by omega)
    have hp8 := p2_3 t7
    have hx8 : x * 2 ^ hX (dp il i) ≤ 16384 := by omega
    have eM : (f_M_pictures_243 K ((f_M_pictures_L243 K (nI W) (nI H) (nI dep) (nI kind) (nI il) (nI c) (b2 (tr && decide (kind ≠ 3))) g palM ck (nI fr) x2 (nI i) (nI w) x5 x6 (nI y)) qM) (nI W) (nI H) (nI dep) (nI kind) (nI il) (nI c) (b2 (tr && decide (kind ≠ 3))) g palM ck pM (nI fr) x2 (nI i) (nI w) x5 x6 (nI y) (nI x)) = (f_M_pictures_304 K ((f_M_pictures_L243 K (nI W) (nI H) (nI dep) (nI kind) (nI il) (nI c) (b2 (tr && decide (kind ≠ 3))) g palM ck (nI fr) x2 (nI i) (nI w) x5 x6 (nI y)) qM) (nI W) (nI H) (nI dep) (nI kind) (nI il) (nI c) (b2 (tr && decide (kind ≠ 3))) g palM ck pM (nI fr) x2 (nI i) (nI w) x5 x6 (nI y) (nI x) (nI (gX (dp il i) + x * 2 ^ hX (dp il i))) (nI (gY (dp il i) + y * 2 ^ hY (dp il i)))) := by
      unfold f_M_pictures_243 f_M_pictures_276
      rw [if_neg (nI_ge (by omega) (by omega))]
      rcases hi with rfl | ⟨rfl, hi7⟩
      · rw [if_pos (show nI 0 = 0 from rfl), if_pos (show nI 0 = 0 from rfl), show gX (dp 0 i) + x * 2 ^ hX (dp 0 i) = x from by show 0 + x * 1 = x; omega, show gY (dp 0 i) + y * 2 ^ hY (dp 0 i) = y from by show 0 + y * 1 = y; omega]
      · obtain ⟨u1, u2, u3, u4⟩ := tab_q i hi7
        rw [if_neg (show ¬ nI 1 = 0 by decide), if_neg (show ¬ nI 1 = 0 by decide), if_pos (q_inb (by omega) (by omega)), if_pos (q_inb (by omega) (by omega)), if_pos (q_inb (by omega) (by omega)), if_pos (q_inb (by omega) (by omega)), nI_clamp (by omega), u1, u2, u3, u4, pk_mul, pk_mul, nI_add, nI_add]
        rfl
    have e2 : (f_M_pictures_L243 K (nI W) (nI H) (nI dep) (nI kind) (nI il) (nI c) (b2 (tr && decide (kind ≠ 3))) g palM ck (nI fr) x2 (nI i) (nI w) x5 x6 (nI y) (qM + 1) pM (nI x)) = (f_M_pictures_243 K ((f_M_pictures_L243 K (nI W) (nI H) (nI dep) (nI kind) (nI il) (nI c) (b2 (tr && decide (kind ≠ 3))) g palM ck (nI fr) x2 (nI i) (nI w) x5 x6 (nI y)) qM) (nI W) (nI H) (nI dep) (nI kind) (nI il) (nI c) (b2 (tr && decide (kind ≠ 3))) g palM ck pM (nI fr) x2 (nI i) (nI w) x5 x6 (nI y) (nI x)) := rfl
    rw [e2, eM]
    clear e2 eM
    show Lk _ (f_PngReader_takePass_79 K _ (nI W) (nI H) (nI c) (b2 tr) (nI dep) (nI kind) f palD key pD (nI (dp il i)) (nI w) dx5 dx6 (nI fr) dx8 (nI (gY (dp il i) + y * 2 ^ hY (dp il i))) (nI x)) _
    unfold f_PngReader_takePass_79 f_M_pictures_304
    rw [if_neg (nI_ge (by omega) (by omega)), if_pos (q_inb (by omega) (by omega)), if_pos (q_inb (by omega) (by omega)), nI_clamp (show dp il i < 2 ^ 31 by omega), t1, t2, pk_shlN (nI (hX (dp il i)) &&& 31) (hX (dp il i)) (sh_amt _ (by omega)) (by omega), nI_add, show nI fr + 1 = nI (fr + 1) from nI_add fr 1]
    refine Lk.try (point_lk (r0 := fr + 1) (x := x) (u := tv f) hN hd hk hk3 (by omega) hc (fun j hj => sok_row hd (show x < w by omega) hj hfr) ⟨fun j hj => ⟨rfl, (tv_eq (hA j hj)).symm⟩, tv_lt f⟩ hpal hkey) (fun u => ⟨_, rfl⟩) (fun u => ⟨_, rfl⟩) (fun a b hab => ?_)
    subst hab
    have hidx : (gY (dp il i) + y * 2 ^ hY (dp il i)) * W + (gX (dp il i) + x * 2 ^ hX (dp il i)) < W * H := by
      generalize gY (dp il i) + y * 2 ^ hY (dp il i) = py at hpy
      generalize gX (dp il i) + x * 2 ^ hX (dp il i) = px at hpx
      have h1 : (py + 1) * W ≤ H * W := Nat.mul_le_mul_right _ hpy
      rw [Nat.add_mul, Nat.one_mul, Nat.mul_comm H W] at h1
      omega
    rw [pk_mul, nI_add, if_pos (q_inb (by omega) (by omega)), if_pos (q_inb (by omega) (by omega)), nI_clamp (by omega), nI_1]
    exact ih (x + 1) qD qM _ _ (by omega) (by omega) (by omega) (fun j hj => by
      by_cases e : j = ixp W (dp il i) x y
      · rw [e]
        exact (upd_at _ _ _).trans (upd_at _ _ _).symm
      · refine (upd_ne _ _ e).trans ((hP j ?_).trans (upd_ne _ _ e).symm)
        rcases hj with hj | ⟨x', h1, h2⟩
        · exact Or.inl hj
        · refine Or.inr ⟨x', ?_, h2⟩
          rcases Nat.lt_or_ge x' x with h3 | h3
          · exact h3
          · exact absurd (by rw [h2, show x' = x by omega]) e)
def stp (bits : Nat) : Nat := if 1 < bits / 8 then bits / 8 else 1
theorem stp_D {bits : Nat} (hb : bits ≤ 64) : (if 1 < nI bits / 8 then nI bits / 8 else 1) = nI (stp bits) := by
  unfold stp
  rw [show nI bits / 8 = nI (bits / 8) from pk_div (d := 8) (by omega) (by omega) (by omega)]
  by_cases h : 1 < bits / 8
  · rw [if_pos h, if_pos (show (1 : Int32) < nI (bits / 8) from nI_lt (a := 1) h (by omega))]
  · rw [if_neg h, if_neg (show ¬ (1 : Int32) < nI (bits / 8) from nI_nlt (a := 1) (by omega) (by omega))]
    rfl
theorem stp_le {bits : Nat} (hb : bits ≤ 64) : 1 ≤ stp bits ∧ stp bits ≤ 8 := by
  unfold stp
  by_cases h : 1 < bits / 8
  · rw [if_pos h]; omega
  · rw [if_neg h]; omega
theorem rows_L {K N fr0 w h i il W H dep kind c : Nat} {tr : Bool} (hK : 600000 < K) (hN : N ≤ 147456) (hd : dpO dep) (hk : kind = 0 ∨ kind = 2 ∨ kind = 3 ∨ kind = 4 ∨ kind = 6) (hk3 : kind = 3 → dep ≤ 8) (hc : c ≤ 256) (hW0 : 0 < W) (hH0 : 0 < H) (hWH : W * H ≤ 16384) (hi : il = 0 ∨ (il = 1 ∧ i < 7)) (hw : w = pz W (gX (dp il i)) (hX (dp il i))) (hh : h = pz H (gY (dp il i)) (hY (dp il i))) (hfr : fr0 + h * (rb w (spp kind * dep) + 1) ≤ N) {palD palM key ck : Nat → Int32} (hpal : Agr c palD palM) (hkey : Agr (kn tr kind) key ck) {S : Nat → Prop} : ∀ (r y qD qM : Nat) (f g pD pM : Nat → Int32), y + r = h → r < qD → r < qM → Agr N f g → Ags (fun j => S j ∨ ∃ y' x', y' < y ∧ x' < w ∧ j = ixp W (dp il i) x' y') pD pM → Lk (fun a b => a.2.2 = nI (fr0 + h * (rb w (spp kind * dep) + 1)) ∧ b.2.2 = nI (fr0 + h * (rb w (spp kind * dep) + 1)) ∧ Agr N a.1 b.1 ∧ Ags (fun j => S j ∨ ∃ y' x', y' < h ∧ x' < w ∧ j = ixp W (dp il i) x' y') a.2.1 b.2.1) (f_PngReader_takePass_L35 K (nI W) (nI H) (nI c) (b2 tr) (nI dep) (nI kind) palD key (nI (dp il i)) (nI w) (nI h) (nI (rb w (spp kind * dep))) qD f pD (nI (fr0 + y * (rb w (spp kind * dep) + 1))) (nI y)) (f_M_pictures_L76 K (nI W) (nI H) (nI dep) (nI kind) (nI il) (nI c) (b2 (tr && decide (kind ≠ 3))) palM ck (nI (stp (spp kind * dep))) (nI i) (nI w) (nI h) (nI (rb w (spp kind * dep) + 1)) qM g pM (nI (fr0 + y * (rb w (spp kind * dep) + 1))) (nI y)) := by
  have hdp : dp il i < 8 := by
    unfold dp
    rcases hi with h | h
    · rw [if_pos h]; omega
    · rw [if_neg (by omega)]; omega
  have hWl : W ≤ 16384 := Nat.le_trans (Nat.le_mul_of_pos_right W hH0) hWH
  have hHl : H ≤ 16384 := Nat.le_trans (Nat.le_mul_of_pos_left H hW0) hWH
  obtain ⟨t1, t2, t3, t4, t5, t6, t7, t8⟩ := tab_p (dp il i) hdp
  have hwl := pz_le (g := gX (dp il i)) hWl t7
  have hhl := pz_le (g := gY (dp il i)) hHl t8
  have hbl := bits_le (kind := kind) hd
  have hst := stp_le hbl.2
  generalize hn : rb w (spp kind * dep) = n at hfr ⊢
  intro r
  induction r with
  | zero =>
    intro y qD qM f g pD pM hy hqD hqM hA hP
    obtain ⟨qD, rfl⟩ : ∃ w, qD = w + 1 := ⟨qD - 1, by omega⟩
    obtain ⟨qM, rfl⟩ : ∃ w, qM = w + 1 := ⟨qM - 1, by omega⟩
    have e : y = h := by omega
    subst e
    show Lk _ (f_PngReader_takePass_35 K _ (nI W) (nI H) (nI c) (b2 tr) (nI dep) (nI kind) f palD key pD (nI (dp il i)) (nI w) (nI y) (nI n) (nI (fr0 + y * (n + 1))) (nI y)) (f_M_pictures_76 K _ (nI W) (nI H) (nI dep) (nI kind) (nI il) (nI c) (b2 (tr && decide (kind ≠ 3))) g palM ck pM (nI (fr0 + y * (n + 1))) (nI (stp (spp kind * dep))) (nI i) (nI w) (nI y) (nI (n + 1)) (nI y))
    unfold f_PngReader_takePass_35 f_M_pictures_76
    rw [if_pos (nI_le (by omega) (by omega)), if_pos (nI_le (by omega) (by omega))]
    exact Lk.yes ⟨rfl, rfl, hA, hP⟩
  | succ r ih =>
    intro y qD qM f g pD pM hy hqD hqM hA hP
    obtain ⟨qD, rfl⟩ : ∃ w, qD = w + 1 := ⟨qD - 1, by omega⟩
    obtain ⟨qM, rfl⟩ : ∃ w, qM = w + 1 := ⟨qM - 1, by omega⟩
    have hmul : (y + 1) * (n + 1) ≤ h * (n + 1) := Nat.mul_le_mul_right _ (by omega)
    have hs : (y + 1) * (n + 1) = y * (n + 1) + (n + 1) := by rw [Nat.add_mul, Nat.one_mul]
    have hab : 0 < y → n + 1 ≤ fr0 + y * (n + 1) := fun h0 => by
      have : 1 * (n + 1) ≤ y * (n + 1) := Nat.mul_le_mul_right _ h0
      omega
    have hnext : fr0 + (y + 1) * (n + 1) = fr0 + y * (n + 1) + (n + 1) := by omega
    show Lk _ (f_PngReader_takePass_35 K _ (nI W) (nI H) (nI c) (b2 tr) (nI dep) (nI kind) f palD key pD (nI (dp il i)) (nI w) (nI h) (nI n) (nI (fr0 + y * (n + 1))) (nI y)) (f_M_pictures_76 K _ (nI W) (nI H) (nI dep) (nI kind) (nI il) (nI c) (b2 (tr && decide (kind ≠ 3))) g palM ck pM (nI (fr0 + y * (n + 1))) (nI (stp (spp kind * dep))) (nI i) (nI w) (nI h) (nI (n + 1)) (nI y))
    have ih' := fun (f g pD pM : Nat → Int32) (h1 : Agr N f g) (h2 : Ags (fun j => S j ∨ ∃ y' x', y' < y + 1 ∧ x' < w ∧ j = ixp W (dp il i) x' y') pD pM) => ih (y + 1) qD qM f g pD pM (by omega) (by omega) (by omega) h1 h2
    rw [hnext] at ih'
    generalize hfrd : fr0 + y * (n + 1) = fr at hab ih' ⊢
    have hfrN : fr + (n + 1) ≤ N := by omega
    have hD57 : (if nI y ≤ 0 then (f_PngReader_takePass_57 K ((f_PngReader_takePass_L35 K (nI W) (nI H) (nI c) (b2 tr) (nI dep) (nI kind) palD key (nI (dp il i)) (nI w) (nI h) (nI n)) qD) (nI W) (nI H) (nI c) (b2 tr) (nI dep) (nI kind) f palD key pD (nI (dp il i)) (nI w) (nI h) (nI n) (nI fr) (nI y) (nI fr) (nI n) 0) else (f_PngReader_takePass_57 K ((f_PngReader_takePass_L35 K (nI W) (nI H) (nI c) (b2 tr) (nI dep) (nI kind) palD key (nI (dp il i)) (nI w) (nI h) (nI n)) qD) (nI W) (nI H) (nI c) (b2 tr) (nI dep) (nI kind) f palD key pD (nI (dp il i)) (nI w) (nI h) (nI n) (nI fr) (nI y) (nI fr) (nI n) 1)) = (f_PngReader_takePass_57 K ((f_PngReader_takePass_L35 K (nI W) (nI H) (nI c) (b2 tr) (nI dep) (nI kind) palD key (nI (dp il i)) (nI w) (nI h) (nI n)) qD) (nI W) (nI H) (nI c) (b2 tr) (nI dep) (nI kind) f palD key pD (nI (dp il i)) (nI w) (nI h) (nI n) (nI fr) (nI y) (nI fr) (nI n) (b2 (decide (0 < y)))) := by
      by_cases h0 : 0 < y
      · rw [if_neg (show ¬ nI y ≤ 0 from nI_ge (a := 0) h0 (by omega)), decide_eq_true h0]
        rfl
      · rw [if_pos (show nI y ≤ 0 from nI_le (b := 0) (by omega) (by omega)), decide_eq_false h0]
        rfl
    unfold f_PngReader_takePass_35 f_M_pictures_76
    rw [if_neg (nI_ge (by omega) (by omega)), if_neg (nI_ge (by omega) (by omega)), hD57]
    clear hD57
    unfold f_PngReader_takePass_57 f_PngReader_unfilter f_PngReader_unfilter_23 f_M_pictures_107
    have hft := tv_lt f fr
    rw [if_pos (q_inb (by omega) (by omega)), if_pos (q_inb (by omega) (by omega)), nI_clamp (show fr < 2 ^ 31 by omega), ← hA fr (by omega), tv_ok]
    generalize tv f fr = ft at hft ⊢
    by_cases c4 : 4 < ft
    · rw [if_pos (show (4 : Int32) < nI ft from nI_lt (a := 4) c4 (by omega)), if_pos (show (5 : Int32) ≤ nI ft from nI_le (a := 5) (by omega) (by omega)), need0, can0, q_tryR, q_tryR, q_tryR]
      exact Lk.no ⟨_, rfl⟩ ⟨_, rfl⟩
    obtain ⟨f', g', e1, e2, e3⟩ := unf_L (K := K) (N := N) (n := n) (fr := fr) (st := stp (spp kind * dep)) (ft := ft) (y := y) (dep := dep) (kind := kind) (W := W) (H := H) (c := c) (il := il) (tr := tr) hN (by omega) hst.1 (by omega) (by omega) hab (by omega) (palM := palM) (ck := ck) (a_t_points := pM) (x3 := nI i) (x4 := nI w) (x5 := nI h) n 0 K K f g (by omega) (by omega) (by omega) hA
    have e1' : (f_PngReader_unfilter_L47 K (nI dep) (nI kind) (nI fr) (nI n) (b2 (decide (0 < y))) (nI ft) (nI (stp (spp kind * dep))) (nI n + 1) K f 0) = some f' := by
      rw [nI_1]
      exact e1
    have e2' : (f_M_pictures_L113 K (nI W) (nI H) (nI dep) (nI kind) (nI il) (nI c) (b2 (tr && decide (kind ≠ 3))) palM ck pM (nI fr) (nI (stp (spp kind * dep))) (nI i) (nI w) (nI h) (nI (n + 1)) (nI y) (nI ft) K g 1) = some g' := e2
    rw [if_neg (show ¬ (4 : Int32) < nI ft from nI_nlt (a := 4) (by omega) (by omega)), if_neg (show ¬ (5 : Int32) ≤ nI ft from nI_ge (b := 5) (by omega) (by omega)), need1, can1, q_tryL, q_tryL, bap_D hk, q_bind]
    dsimp only
    rw [stp_D hbl.2, e1', q_bind, q_tryL, e2', q_bind, if_pos (q_inb (show dp il i < 8 from hdp) (by omega)), if_pos (q_inb (show dp il i < 8 from hdp) (by omega)), nI_clamp (show dp il i < 2 ^ 31 by omega), t3, t4]
    have hyy : y < pz H (gY (dp il i)) (hY (dp il i)) := by omega
    have hpy := pz_in t6 hyy
    have hp8 := p2_3 t8
    rw [pk_shlN (nI (hY (dp il i)) &&& 31) (hY (dp il i)) (sh_amt _ (by omega)) (by omega), nI_add]
    refine Lk.tryL (pts_L (K := K) (N := N) hN hd hk hk3 hc hW0 hH0 hWH hi hw hyy (show fr + 1 + rb w (spp kind * dep) ≤ N by rw [hn]; omega) e3 hpal hkey (S := fun j => S j ∨ ∃ y' x', y' < y ∧ x' < w ∧ j = ixp W (dp il i) x' y') w 0 K K pD pM (by omega) (by omega) (by omega) (fun j hj => by
      rcases hj with hj | ⟨x', h1, -⟩
      · exact hP j hj
      · omega)) (fun u => ⟨_, rfl⟩) (fun u => ⟨_, rfl⟩) (fun a b hab2 => ?_)
    rw [nI_1 n, nI_add, nI_1 y]
    refine ih' f' g' a b e3 (fun j hj => hab2 j ?_)
    rcases hj with hj | ⟨y', x', h1, h2, h3⟩
    · exact Or.inl (Or.inl hj)
    · rcases Nat.lt_or_ge y' y with h4 | h4
      · exact Or.inl (Or.inr ⟨y', x', h4, h2, h3⟩)
      · exact Or.inr ⟨x', h2, by rw [h3, show y' = y by omega]⟩
theorem pass_k {K N fr i il W H dep kind c : Nat} {tr : Bool} {Y : Int32} (hK : 600000 < K) (hN : N ≤ 147456) (hd : dpO dep) (hk : kind = 0 ∨ kind = 2 ∨ kind = 3 ∨ kind = 4 ∨ kind = 6) (hk3 : kind = 3 → dep ≤ 8) (hc : c ≤ 256) (hW0 : 0 < W) (hH0 : 0 < H) (hWH : W * H ≤ 16384) (hi : il = 0 ∨ (il = 1 ∧ i < 7)) (hY1 : ¬ Y ≤ nI i) (hfr : fr + pby W H (spp kind * dep) (dp il i) ≤ N) {palD palM key ck f g pD pM : Nat → Int32} (hpal : Agr c palD palM) (hkey : Agr (kn tr kind) key ck) (hA : Agr N f g) {S : Nat → Prop} (hP : Ags S pD pM) {β δ : Type} {F : Int32 × ((Nat → Int32) × (Nat → Int32)) → Option (β ⊕ (Nat × δ))} {G : Nat × ((Nat → Int32) × (Nat → Int32)) → Option (β ⊕ (Nat × δ))} {rec : (Nat → Int32) → (Nat → Int32) → Int32 → Int32 → Option ((((Nat → Int32) × (Nat → Int32)) ⊕ (Nat × ((Nat → Int32) × (Nat → Int32)))))} {R' : β → ((Nat → Int32) × (Nat → Int32)) → Prop} (hG : ∀ u, ∃ u', G (3, u) = some (.inr (3, u'))) (hF : ∀ (f' g' pD' pM' : Nat → Int32), Agr N f' g' → Ags (fun j => S j ∨ inP W H (dp il i) j) pD' pM' → Lk R' (F (nI (fr + pby W H (spp kind * dep) (dp il i)), (f', pD'))) (rec g' pM' (nI (fr + pby W H (spp kind * dep) (dp il i))) (nI (i + 1)))) : Lk R' (dc_try (f_PngReader_takePass K (nI (dp il i)) (nI fr) (nI W) (nI H) (nI c) (b2 tr) (nI dep) (nI kind) f palD key pD) F G) (f_M_pictures_35 K rec (nI W) (nI H) (nI dep) (nI kind) (nI il) (nI c) (b2 (tr && decide (kind ≠ 3))) g palM ck pM (nI fr) (nI (stp (spp kind * dep))) (nI i) (nI i) Y) := by
  have hdp : dp il i < 8 := by
    unfold dp
    rcases hi with h | h
    · rw [if_pos h]; omega
    · rw [if_neg (by omega)]; omega
  have hWl : W ≤ 16384 := Nat.le_trans (Nat.le_mul_of_pos_right W hH0) hWH
  have hHl : H ≤ 16384 := Nat.le_trans (Nat.le_mul_of_pos_left H hW0) hWH
  obtain ⟨t1, t2, t3, t4, t5, t6, t7, t8⟩ := tab_p (dp il i) hdp
  have hwl := pz_le (g := gX (dp il i)) hWl t7
  have hhl := pz_le (g := gY (dp il i)) hHl t8
  unfold f_PngReader_takePass f_M_pictures_35 f_M_pictures_347
  rw [if_neg hY1, pw_D hdp hWl hW0, pw_M hi hWl hW0, ph_M hi hHl hH0, q_bind, q_bind, q_bind]
  dsimp only
  have hno : (pz W (gX (dp il i)) (hX (dp il i)) = 0 ∨ pz H (gY (dp il i)) (hY (dp il i)) = 0) → Ags (fun j => S j ∨ inP W H (dp il i) j) pD pM := fun h0 j hj => by
    rcases hj with hj | ⟨y', x', h1, h2, -⟩
    · exact hP j hj
    · omega
  have hinP : ∀ j, inP W H (dp il i) j ↔ ∃ y' x', y' < pz H (gY (dp il i)) (hY (dp il i)) ∧ x' < pz W (gX (dp il i)) (hX (dp il i)) ∧ j = ixp W (dp il i) x' y' := fun j => Iff.rfl
  generalize hwd : pz W (gX (dp il i)) (hX (dp il i)) = w at hwl hno hinP ⊢
  generalize hhd : pz H (gY (dp il i)) (hY (dp il i)) = h at hhl hno hinP ⊢
  have hpb : pby W H (spp kind * dep) (dp il i) = if w = 0 then 0 else h * (1 + rb w (spp kind * dep)) := by
    unfold pby
    rw [hwd, hhd]
  rw [hpb] at hfr hF
  by_cases h0 : w = 0
  · rw [if_pos h0] at hF
    rw [if_neg (show ¬ 0 < nI w from nI_nlt (a := 0) (by omega) (by omega)), if_pos (show nI w ≤ 0 from nI_le (b := 0) (by omega) (by omega)), q_tryL, nI_1]
    exact hF f g pD pM hA (hno (Or.inl h0))
  rw [if_neg h0] at hfr hF
  rw [Nat.add_comm 1 (rb w _)] at hfr hF
  rw [if_pos (show 0 < nI w from nI_lt (a := 0) (by omega) (by omega)), if_neg (show ¬ nI w ≤ 0 from nI_ge (a := 0) (by omega) (by omega)), ph_D hdp hHl hH0, hhd, q_bind, rb_D (by omega) hd hk, q_bind]
  dsimp only
  have hR := rows_L (K := K) (N := N) (fr0 := fr) (w := w) (h := h) (c := c) (tr := tr) hK hN hd hk hk3 hc hW0 hH0 hWH hi hwd.symm hhd.symm hfr hpal hkey (S := S) h 0 K K f g pD pM (by omega) (by omega) (by omega) hA (fun j hj => by
    rcases hj with hj | ⟨y', x', h1, -⟩
    · exact hP j hj
    · omega)
  rw [Nat.zero_mul, Nat.add_zero] at hR
  by_cases h1 : h = 0
  · obtain ⟨k, rfl⟩ : ∃ k, K = k + 1 := ⟨K - 1, by omega⟩
    rw [if_neg (show ¬ 0 < nI h from nI_nlt (a := 0) (by omega) (by omega)), nI_1]
    have e : (f_PngReader_takePass_L35 ((k + 1)) (nI W) (nI H) (nI c) (b2 tr) (nI dep) (nI kind) palD key (nI (dp il i)) (nI w) (nI h) (nI (rb w (spp kind * dep))) (k + 1) f pD (nI fr) 0) = some (.inl (f, pD, nI fr)) := by
      show (f_PngReader_takePass_35 ((k + 1)) _ (nI W) (nI H) (nI c) (b2 tr) (nI dep) (nI kind) f palD key pD (nI (dp il i)) (nI w) (nI h) (nI (rb w (spp kind * dep))) (nI fr) 0) = _
      unfold f_PngReader_takePass_35
      rw [if_pos (show nI h ≤ 0 from nI_le (b := 0) (by omega) (by omega))]
    rw [e, q_bind]
    have h2 := hF f g pD pM hA (hno (Or.inr h1))
    rw [h1, Nat.zero_mul, Nat.add_zero] at h2
    exact h2
  rw [if_pos (show 0 < nI h from nI_lt (a := 0) (by omega) (by omega)), rb_M (by omega) hd hk, q_bind, bind_elim, bind_elim, try_try]
  dsimp only
  refine Lk.try hR (fun u => hG _) (fun u => ⟨_, rfl⟩) (fun a b hab => ?_)
  obtain ⟨a1, a2, a3, a4⟩ := hab
  rw [q_tryL, a1, a2, nI_1]
  exact hF a.1 b.1 a.2.1 b.2.1 a3 (fun j hj => a4 j (hj.elim Or.inl (fun h => Or.inr ((hinP j).mp h))))
theorem in_pz {W g h x : Nat} (hx : g + x * 2 ^ h < W) : x < pz W g h := by
  unfold pz
  have h2 : 0 < 2 ^ h := Nat.two_pow_pos h
  refine (Nat.le_div_iff_mul_le h2).mpr ?_
  rw [Nat.succ_mul]
  omega
theorem at_xy {W H j : Nat} (hW : 0 < W) (hj : j < W * H) : ∃ x y, x < W ∧ y < H ∧ j = y * W + x := by
  refine ⟨j % W, j / W, Nat.mod_lt _ hW, Nat.div_lt_of_lt_mul hj, ?_⟩
  rw [Nat.mul_comm]
  exact (Nat.div_add_mod j W).symm
theorem all_7 {W H j : Nat} (hW : 0 < W) (hj : j < W * H) : inP W H 7 j := by
  obtain ⟨x, y, h1, h2, h3⟩ := at_xy hW hj
  refine ⟨y, x, in_pz ?_, in_pz ?_, ?_⟩
  · show 0 + y * 1 < H
    omega
  · show 0 + x * 1 < W
    omega
  · rw [h3]
    show _ = (0 + y * 1) * W + (0 + x * 1)
    rw [Nat.mul_one, Nat.mul_one, Nat.zero_add, Nat.zero_add]
theorem all_adam {W H j : Nat} (hW : 0 < W) (hj : j < W * H) : ∃ i, i < 7 ∧ inP W H i j := by
  obtain ⟨x, y, h1, h2, h3⟩ := at_xy hW hj
  have key : ∀ i x' y', i < 7 → gX i + x' * 2 ^ hX i = x → gY i + y' * 2 ^ hY i = y → ∃ i, i < 7 ∧ inP W H i j := by
    intro i x' y' hi e1 e2
    refine ⟨i, hi, y', x', in_pz (by omega), in_pz (by omega), ?_⟩
    unfold ixp
    rw [e1, e2, h3]
  by_cases y2 : y % 2 = 1
  · exact key 6 x ((y - 1) / 2) (by omega) (by show 0 + x * 1 = x; omega) (by show 1 + (y - 1) / 2 * 2 = y; omega)
  by_cases x2 : x % 2 = 1
  · exact key 5 ((x - 1) / 2) (y / 2) (by omega) (by show 1 + (x - 1) / 2 * 2 = x; omega) (by show 0 + y / 2 * 2 = y; omega)
  by_cases y4 : y % 4 = 2
  · exact key 4 (x / 2) ((y - 2) / 4) (by omega) (by show 0 + x / 2 * 2 = x; omega) (by show 2 + (y - 2) / 4 * 4 = y; omega)
  by_cases x4 : x % 4 = 2
  · exact key 3 ((x - 2) / 4) (y / 4) (by omega) (by show 2 + (x - 2) / 4 * 4 = x; omega) (by show 0 + y / 4 * 4 = y; omega)
  by_cases y8 : y % 8 = 4
  · exact key 2 (x / 4) ((y - 4) / 8) (by omega) (by show 0 + x / 4 * 4 = x; omega) (by show 4 + (y - 4) / 8 * 8 = y; omega)
  by_cases x8 : x % 8 = 4
  · exact key 1 ((x - 4) / 8) (y / 8) (by omega) (by show 4 + (x - 4) / 8 * 8 = x; omega) (by show 0 + y / 8 * 8 = y; omega)
  · exact key 0 (x / 8) (y / 8) (by omega) (by show 0 + x / 8 * 8 = x; omega) (by show 0 + y / 8 * 8 = y; omega)
theorem passes_ok {K il W H dep kind c : Nat} {tr : Bool} (hK : 600000 < K) (hil : il ≤ 1) (hd : dpO dep) (hk : kind = 0 ∨ kind = 2 ∨ kind = 3 ∨ kind = 4 ∨ kind = 6) (hk3 : kind = 3 → dep ≤ 8) (hc : c ≤ 256) (hW0 : 0 < W) (hH0 : 0 < H) (hWH : W * H ≤ 16384) {palD palM key ck f g pD pM : Nat → Int32} (hpal : Agr c palD palM) (hkey : Agr (kn tr kind) key ck) (hA : Agr (dueB W H (spp kind * dep) il) f g) : Lk (fun x y => Agr (W * H) x.2.2 y.2.2) (f_PngReader_takePasses K (nI c) (b2 tr) (nI dep) (nI kind) (nI il) (nI W) (nI H) f palD key pD) (f_M_pictures K (nI W) (nI H) (nI dep) (nI kind) (nI il) (nI c) (b2 (tr && decide (kind ≠ 3))) g palM ck pM) := by
  have hbl := bits_le (kind := kind) hd
  have hN := dueB_le (il := il) hW0 hH0 hWH hbl.2
  unfold f_PngReader_takePasses f_M_pictures
  rw [samp_M hk, q_bind]
  dsimp only
  rw [pk_mul, stp_D hbl.2]
  by_cases h0 : il = 0
  · subst h0
    obtain ⟨k, rfl⟩ : ∃ k, K = k + 2 := ⟨K - 2, by omega⟩
    rw [if_pos (show nI 0 = 0 from rfl)]
    have e1 : (f_M_pictures_L21 ((k + 2)) (nI W) (nI H) (nI dep) (nI kind) (nI 0) (nI c) (b2 (tr && decide (kind ≠ 3))) palM ck (nI (stp (spp kind * dep))) (k + 2) g pM 0 0) = (f_M_pictures_35 ((k + 2)) ((f_M_pictures_L21 ((k + 2)) (nI W) (nI H) (nI dep) (nI kind) (nI 0) (nI c) (b2 (tr && decide (kind ≠ 3))) palM ck (nI (stp (spp kind * dep)))) (k + 1)) (nI W) (nI H) (nI dep) (nI kind) (nI 0) (nI c) (b2 (tr && decide (kind ≠ 3))) g palM ck pM (nI 0) (nI (stp (spp kind * dep))) (nI 0) (nI 0) 1) := by
      show (f_M_pictures_21 ((k + 2)) ((f_M_pictures_L21 ((k + 2)) (nI W) (nI H) (nI dep) (nI kind) (nI 0) (nI c) (b2 (tr && decide (kind ≠ 3))) palM ck (nI (stp (spp kind * dep)))) (k + 1)) (nI W) (nI H) (nI dep) (nI kind) (nI 0) (nI c) (b2 (tr && decide (kind ≠ 3))) g palM ck pM (nI 0) (nI (stp (spp kind * dep))) (nI 0)) = _
      unfold f_M_pictures_21
      rw [if_pos (show nI 0 = 0 from rfl)]
    rw [e1, bind_elim]
    have hk1 := pass_k (K := k + 2) (N := dueB W H (spp kind * dep) 0) (fr := 0) (i := 0) (il := 0) (Y := 1) (c := c) (tr := tr) hK hN hd hk hk3 hc hW0 hH0 hWH (Or.inl rfl) (by decide) (by show 0 + pby W H (spp kind * dep) 7 ≤ pby W H (spp kind * dep) 7; omega) hpal hkey hA (S := fun _ => False) (pD := pD) (pM := pM) (fun j hj => hj.elim) (F := fun r => some (.inl r)) (G := fun u => some (.inr (u.1, u.2))) (rec := (f_M_pictures_L21 ((k + 2)) (nI W) (nI H) (nI dep) (nI kind) (nI 0) (nI c) (b2 (tr && decide (kind ≠ 3))) palM ck (nI (stp (spp kind * dep)))) (k + 1)) (R' := fun a b => Agr (W * H) a.2.2 b.2) (fun u => ⟨_, rfl⟩) (fun f' g' pD' pM' hA' hP' => by
      have e2 : (f_M_pictures_L21 ((k + 2)) (nI W) (nI H) (nI dep) (nI kind) (nI 0) (nI c) (b2 (tr && decide (kind ≠ 3))) palM ck (nI (stp (spp kind * dep))) (k + 1) g' pM' (nI (0 + pby W H (spp kind * dep) (dp 0 0))) (nI (0 + 1))) = some (.inl (g', pM')) := by
        show (f_M_pictures_21 ((k + 2)) _ (nI W) (nI H) (nI dep) (nI kind) (nI 0) (nI c) (b2 (tr && decide (kind ≠ 3))) g' palM ck pM' (nI (0 + pby W H (spp kind * dep) (dp 0 0))) (nI (stp (spp kind * dep))) (nI 1)) = _
        unfold f_M_pictures_21 f_M_pictures_35
        rw [if_pos (show nI 0 = 0 from rfl), if_pos (show (1 : Int32) ≤ nI 1 by decide)]
      rw [e2]
      exact Lk.yes (fun j hj => hP' j (Or.inr (all_7 hW0 hj))))
    have e3 : ∀ (m : Option ((Int32 × ((Nat → Int32) × (Nat → Int32))) ⊕ (Nat × ((Nat → Int32) × (Nat → Int32))))), dc_try m (fun r => some (.inl r)) (fun u => some (.inr (u.1, u.2))) = m := by
      intro m
      rcases m with _ | (_ | _) <;> rfl
    rw [e3] at hk1
    refine Lk.try hk1 (fun u => ⟨_, rfl⟩) (fun u => ⟨_, rfl⟩) (fun a b hab => ?_)
    exact Lk.yes hab
  · have h1 : il = 1 := by omega
    subst h1
    rw [if_neg (show ¬ nI 1 = 0 by decide)]
    have hL : ∀ (r i qD qM : Nat) (f g pD pM : Nat → Int32), i + r = 7 → r < qD → r < qM → Agr (dueB W H (spp kind * dep) 1) f g → Ags (fun j => ∃ i', i' < i ∧ inP W H i' j) pD pM → Lk (fun a b => Agr (W * H) a.2 b.2) (f_PngReader_takePasses_L21 K (nI c) (b2 tr) (nI dep) (nI kind) (nI 1) (nI W) (nI H) palD key qD f pD (nI (fro W H (spp kind * dep) i)) (nI i)) (f_M_pictures_L21 K (nI W) (nI H) (nI dep) (nI kind) (nI 1) (nI c) (b2 (tr && decide (kind ≠ 3))) palM ck (nI (stp (spp kind * dep))) qM g pM (nI (fro W H (spp kind * dep) i)) (nI i)) := by
      intro r
      induction r with
      | zero =>
        intro i qD qM f g pD pM hi hqD hqM hA hP
        obtain ⟨qD, rfl⟩ : ∃ w, qD = w + 1 := ⟨qD - 1, by omega⟩
        obtain ⟨qM, rfl⟩ : ∃ w, qM = w + 1 := ⟨qM - 1, by omega⟩
        have e : i = 7 := by omega
        subst e
        show Lk _ (f_PngReader_takePasses_21 K _ (nI c) (b2 tr) (nI dep) (nI kind) (nI 1) (nI W) (nI H) f palD key pD (nI (fro W H (spp kind * dep) 7)) (nI 7)) (f_M_pictures_21 K _ (nI W) (nI H) (nI dep) (nI kind) (nI 1) (nI c) (b2 (tr && decide (kind ≠ 3))) g palM ck pM (nI (fro W H (spp kind * dep) 7)) (nI (stp (spp kind * dep))) (nI 7))
        unfold f_PngReader_takePasses_21 f_M_pictures_21 f_M_pictures_35
        rw [if_pos (show (7 : Int32) ≤ nI 7 by decide), if_neg (show ¬ nI 1 = 0 by decide), if_pos (show (7 : Int32) ≤ nI 7 by decide)]
        exact Lk.yes (fun j hj => hP j (all_adam hW0 hj))
      | succ r ih =>
        intro i qD qM f g pD pM hi hqD hqM hA hP
        obtain ⟨qD, rfl⟩ : ∃ w, qD = w + 1 := ⟨qD - 1, by omega⟩
        obtain ⟨qM, rfl⟩ : ∃ w, qM = w + 1 := ⟨qM - 1, by omega⟩
        have e2 : (f_M_pictures_L21 K (nI W) (nI H) (nI dep) (nI kind) (nI 1) (nI c) (b2 (tr && decide (kind ≠ 3))) palM ck (nI (stp (spp kind * dep))) (qM + 1) g pM (nI (fro W H (spp kind * dep) i)) (nI i)) = (f_M_pictures_35 K ((f_M_pictures_L21 K (nI W) (nI H) (nI dep) (nI kind) (nI 1) (nI c) (b2 (tr && decide (kind ≠ 3))) palM ck (nI (stp (spp kind * dep)))) qM) (nI W) (nI H) (nI dep) (nI kind) (nI 1) (nI c) (b2 (tr && decide (kind ≠ 3))) g palM ck pM (nI (fro W H (spp kind * dep) i)) (nI (stp (spp kind * dep))) (nI i) (nI i) 7) := by
          show (f_M_pictures_21 K ((f_M_pictures_L21 K (nI W) (nI H) (nI dep) (nI kind) (nI 1) (nI c) (b2 (tr && decide (kind ≠ 3))) palM ck (nI (stp (spp kind * dep)))) qM) (nI W) (nI H) (nI dep) (nI kind) (nI 1) (nI c) (b2 (tr && decide (kind ≠ 3))) g palM ck pM (nI (fro W H (spp kind * dep) i)) (nI (stp (spp kind * dep))) (nI i)) = _
          unfold f_M_pictures_21
          rw [if_neg (show ¬ nI 1 = 0 by decide)]
        rw [e2]
        clear e2
        show Lk _ (f_PngReader_takePasses_21 K _ (nI c) (b2 tr) (nI dep) (nI kind) (nI 1) (nI W) (nI H) f palD key pD (nI (fro W H (spp kind * dep) i)) (nI i)) _
        unfold f_PngReader_takePasses_21
        rw [if_neg (show ¬ (7 : Int32) ≤ nI i from nI_ge (b := 7) (by omega) (by omega))]
        have hmono := fro_mono W H (spp kind * dep) (show i + 1 ≤ 7 by omega)
        refine pass_k (N := dueB W H (spp kind * dep) 1) (i := i) (il := 1) (Y := 7) hK hN hd hk hk3 hc hW0 hH0 hWH (Or.inr ⟨rfl, by omega⟩) (show ¬ (7 : Int32) ≤ nI i from nI_ge (b := 7) (by omega) (by omega)) hmono hpal hkey hA hP (fun u => ⟨_, rfl⟩) (fun f' g' pD' pM' hA' hP' => ?_)
        rw [nI_1 i]
        exact ih (i + 1) qD qM f' g' pD' pM' (by omega) (by omega) (by omega) hA' (fun j hj => hP' j (by
          obtain ⟨i', h1, h2⟩ := hj
          rcases Nat.lt_or_ge i' i with h3 | h3
          · exact Or.inl ⟨i', h3, h2⟩
          · rw [show i' = i by omega] at h2
            exact Or.inr h2))
    refine Lk.tryL (hL 7 0 K K f g pD pM (by omega) (by omega) (by omega) hA (fun j hj => by
      obtain ⟨i', h1, -⟩ := hj
      omega)) (fun u => ⟨_, rfl⟩) (fun u => ⟨_, rfl⟩) (fun a b hab => ?_)
    exact Lk.yes hab
