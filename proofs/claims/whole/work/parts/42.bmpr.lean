/-! the pure half: BMP written, in runs -/
theorem bind_try {α ε β γ : Type} (m : Option (α ⊕ ε)) (f : α → Option β) (g : ε → Option β) (h : β → Option γ) : dc_bind (dc_try m f g) h = dc_try m (fun a => dc_bind (f a) h) (fun e => dc_bind (g e) h) := by
  cases m with
  | none => rfl
  | some x => cases x <;> rfl
def rn (ix : Nat → Int32) : Nat → Nat → Int32 → Nat → List Int32
  | 0, _, v, n => [q_by (nI n), q_by v]
  | r + 1, p, v, n => if ix p = v ∧ n ≠ 255 then rn ix r (p + 1) v (n + 1) else [q_by (nI n)] ++ ([q_by v] ++ rn ix r (p + 1) (ix p) 1)
def Rn (ix : Nat → Int32) : Nat → Nat → List Int32
  | 0, _ => []
  | r + 1, p => rn ix r (p + 1) (ix p) 1
theorem rn_0 (ix : Nat → Int32) (r p : Nat) : rn ix (r + 1) p (ix p) 0 = Rn ix (r + 1) p := if_pos ⟨rfl, by omega⟩
def prC (N : Nat) (v_78 : Int32 × (Nat → Int32) × Int32 × Int32) : Option ((Unit × (Int32 × (Nat → Int32))) ⊕ (Nat × (Int32 × (Nat → Int32)))) := dc_try (f_Sink_put N v_78.2.2.2 v_78.1 v_78.2.1) (fun r_81 => dc_try (f_Sink_put N v_78.2.2.1 r_81.2.1 r_81.2.2) (fun r_87 => some (.inl ((), (r_87.2.1, r_87.2.2)))) (fun r_87 => some (.inr (r_87.1, (r_87.2.1, r_87.2.2))))) (fun r_81 => some (.inr (r_81.1, (r_81.2.1, r_81.2.2))))
theorem prC_ap {N : Nat} (hN : N < 2 ^ 31) (b : Nat → Int32) {Y : List Int32} (v n : Int32) (hn : Y.length ≤ N) : Ap N b Y [q_by n, q_by v] mkU (prC N (nI Y.length, wr b Y, v, n)) := by
  unfold prC
  exact Ap.seq (X1 := [q_by n]) (X2 := [q_by v]) (put_ap _ _ hn hN) (fun u => ⟨_, rfl⟩) (fun h1 => Ap.eq (Ap.seq (X1 := [q_by v]) (X2 := []) (put_ap _ _ h1 hN) (fun u => ⟨_, rfl⟩) (fun h2 => Ap.nil (mk := mkU) h2)) rfl)
theorem putRuns_L {K N T w a : Nat} (hN : N < 2 ^ 31) {ix ind : Nat → Int32} (hix : ∀ i, i < T → ind i = ix i) (hT : T ≤ 16384) (haw : a + w ≤ T) (b : Nat → Int32) : ∀ (r x n q : Nat) (v : Int32) (Y : List Int32), x + r = w → r < q → n ≤ 255 → Y.length ≤ N → Ap N b Y (rn ix r (a + x) v n) mkU (dc_bind (f_BmpFiles_putRuns_L16 K N ind (nI a) (nI w) q (nI Y.length) (wr b Y) v (nI n) (nI x)) (Sum.elim (prC N) (fun u => some (.inr u)))) := by
  intro r
  induction r with
  | zero =>
    intro x n q v Y hx hq hn hY
    obtain ⟨q, rfl⟩ : ∃ w, q = w + 1 := ⟨q - 1, by omega⟩
    show Ap _ _ _ _ _ (dc_bind (f_BmpFiles_putRuns_16 K N _ ind (nI Y.length) (wr b Y) (nI a) (nI w) v (nI n) (nI x)) _)
    unfold f_BmpFiles_putRuns_16
    rw [if_pos (nI_le (by omega) (by omega)), q_bind]
    exact prC_ap hN b v (nI n) hY
  | succ r ih =>
    intro x n q v Y hx hq hn hY
    obtain ⟨q, rfl⟩ : ∃ w, q = w + 1 := ⟨q - 1, by omega⟩
    have hfl : Ap N b Y ([q_by (nI n)] ++ ([q_by v] ++ rn ix r (a + x + 1) (ix (a + x)) 1)) mkU (dc_bind (f_BmpFiles_putRuns_50 K N (f_BmpFiles_putRuns_L16 K N ind (nI a) (nI w) q) ind (nI Y.length) (wr b Y) (nI a) (nI w) v (nI n) (nI x) (ix (a + x))) (Sum.elim (prC N) (fun u => some (.inr u)))) := by
      unfold f_BmpFiles_putRuns_50
      rw [bind_try]
      refine Ap.seq (put_ap _ _ hY hN) (fun u => ⟨_, rfl⟩) (fun h1 => ?_)
      rw [bind_try]
      refine Ap.seq (put_ap _ _ h1 hN) (fun u => ⟨_, rfl⟩) (fun h2 => ?_)
      unfold f_BmpFiles_putRuns_69
      rw [nI_1, show (0 : Int32) + 1 = nI 1 from rfl]
      exact ih (x + 1) 1 q (ix (a + x)) _ (by omega) (by omega) (by omega) h2
    show Ap _ _ _ _ _ (dc_bind (f_BmpFiles_putRuns_16 K N _ ind (nI Y.length) (wr b Y) (nI a) (nI w) v (nI n) (nI x)) _)
    unfold f_BmpFiles_putRuns_16 f_ColourTable_indexAt
    rw [if_neg (nI_ge (by omega) (by omega)), nI_add, if_pos (q_inb (by omega) (by omega)), nI_clamp (by omega), hix (a + x) (by omega), q_bind]
    show Ap _ _ _ (if ix (a + x) = v ∧ n ≠ 255 then rn ix r (a + x + 1) v (n + 1) else [q_by (nI n)] ++ ([q_by v] ++ rn ix r (a + x + 1) (ix (a + x)) 1)) _ _
    by_cases c1 : ix (a + x) = v
    · by_cases c2 : n = 255
      · rw [if_neg (fun q => q.2 c2)]
        have e : (nI n = 255) := by rw [c2]; rfl
        show Ap _ _ _ _ _ (dc_bind (if ix (a + x) = v then if nI n = 255 then _ else _ else _) _)
        rw [if_pos c1, if_pos e]
        exact hfl
      · rw [if_pos ⟨c1, c2⟩]
        show Ap _ _ _ _ _ (dc_bind (if ix (a + x) = v then if nI n = 255 then _ else _ else _) _)
        rw [if_pos c1, if_neg (show ¬ nI n = 255 from fun e => c2 ((nI_eq (a := n) (b := 255) (by omega) (by omega)).mp e))]
        unfold f_BmpFiles_putRuns_69
        rw [nI_1, nI_1]
        exact ih (x + 1) (n + 1) q v Y (by omega) (by omega) (by omega) hY
    · rw [if_neg (fun q => c1 q.1)]
      show Ap _ _ _ _ _ (dc_bind (if ix (a + x) = v then if nI n = 255 then _ else _ else _) _)
      rw [if_neg c1]
      exact hfl
theorem putRuns_ap {K N T w a : Nat} (hK : 16385 < K) (hN : N < 2 ^ 31) {ix ind : Nat → Int32} (hix : ∀ i, i < T → ind i = ix i) (hT : T ≤ 16384) (hw0 : 0 < w) (haw : a + w ≤ T) (b : Nat → Int32) {Y : List Int32} (hY : Y.length ≤ N) : Ap N b Y (Rn ix w a) mkU (f_BmpFiles_putRuns K N (nI a) (nI w) ind (nI Y.length) (wr b Y)) := by
  obtain ⟨w1, rfl⟩ : ∃ q, w = q + 1 := ⟨w - 1, by omega⟩
  rw [← rn_0]
  unfold f_BmpFiles_putRuns f_ColourTable_indexAt
  rw [if_pos (q_inb (by omega) (by omega)), nI_clamp (by omega), hix a (by omega), q_bind]
  exact putRuns_L hN hix hT haw b (w1 + 1) 0 0 K (ix a) Y (by omega) (by omega) (by omega) hY
/-- the reference's run -/
theorem runM_len {K T w y x : Nat} {t_outSize : Int32} {t_keyCount : Int32} {a_t_widths : Nat → Int32} {a_t_heights : Nat → Int32} {a_t_images_3 : Nat → Int32} {a_t_keys : Nat → Int32} {a_t_images_2 : Nat → Int32} {a_t_images_1 : Nat → Int32} {a_t_images_0 : Nat → Int32} {a_t_out : Nat → Int32} {x1 : Int32} {x2 : Int32} {ix ind : Nat → Int32} (hix : ∀ i, i < T → ind i = ix i) (hT : T ≤ 16384) (haw : y * w + w ≤ T) (v : Int32) : ∀ (r n q : Nat), x + n + r = w → r < q → n ≤ 255 → ∃ n', n ≤ n' ∧ n' ≤ 255 ∧ n' - n ≤ r ∧ (f_M_writeBmp_L381 K t_outSize t_keyCount a_t_widths a_t_heights a_t_images_3 a_t_keys ind a_t_images_2 a_t_images_1 a_t_images_0 a_t_out x1 x2 (nI w) (nI y) (nI x) v q (nI n)) = some (nI n') ∧ rn ix r (y * w + x + n) v n = [q_by (nI n')] ++ ([q_by v] ++ Rn ix (r - (n' - n)) (y * w + x + n')) := by
  intro r
  induction r with
  | zero =>
    intro n q hx hq hn
    obtain ⟨q, rfl⟩ : ∃ w, q = w + 1 := ⟨q - 1, by omega⟩
    refine ⟨n, by omega, hn, by omega, ?_, ?_⟩
    · show (f_M_writeBmp_381 K _ t_outSize t_keyCount a_t_widths a_t_heights a_t_images_3 a_t_keys ind a_t_images_2 a_t_images_1 a_t_images_0 a_t_out x1 x2 (nI w) (nI y) (nI x) v (nI n)) = _
      unfold f_M_writeBmp_381
      by_cases c : n = 255
      · rw [if_pos (by rw [c]; decide)]
      · rw [if_neg (show ¬ (255 : Int32) ≤ nI n from show ¬ nI 255 ≤ nI n from nI_ge (by omega) (by omega)), nI_add, if_pos (nI_le (by omega) (by omega))]
    · rw [Nat.zero_sub]; rfl
  | succ r ih =>
    intro n q hx hq hn
    obtain ⟨q, rfl⟩ : ∃ w, q = w + 1 := ⟨q - 1, by omega⟩
    have hin : y * w + x + n < 16384 := by omega
    have estop : ¬ (ix (y * w + x + n) = v ∧ n ≠ 255) → rn ix (r + 1) (y * w + x + n) v n = [q_by (nI n)] ++ ([q_by v] ++ Rn ix (r + 1 - (n - n)) (y * w + x + n)) := by
      intro hc
      rw [show r + 1 - (n - n) = r + 1 by omega]
      exact if_neg hc
    by_cases c : n = 255
    · refine ⟨n, by omega, hn, by omega, ?_, estop (fun q => q.2 c)⟩
      show (f_M_writeBmp_381 K _ t_outSize t_keyCount a_t_widths a_t_heights a_t_images_3 a_t_keys ind a_t_images_2 a_t_images_1 a_t_images_0 a_t_out x1 x2 (nI w) (nI y) (nI x) v (nI n)) = _
      unfold f_M_writeBmp_381
      rw [if_pos (by rw [c]; decide)]
    · by_cases c1 : ix (y * w + x + n) = v
      · obtain ⟨n', h1, h2, h3, h4, h5⟩ := ih (n + 1) q (by omega) (by omega) (by omega)
        refine ⟨n', by omega, h2, by omega, ?_, ?_⟩
        · show (f_M_writeBmp_381 K _ t_outSize t_keyCount a_t_widths a_t_heights a_t_images_3 a_t_keys ind a_t_images_2 a_t_images_1 a_t_images_0 a_t_out x1 x2 (nI w) (nI y) (nI x) v (nI n)) = _
          unfold f_M_writeBmp_381
          rw [if_neg (show ¬ (255 : Int32) ≤ nI n from show ¬ nI 255 ≤ nI n from nI_ge (by omega) (by omega)), nI_add, if_neg (nI_ge (by omega) (by omega)), pk_mul, nI_add, nI_add, if_pos (q_inb hin (by omega)), nI_clamp (by omega), hix _ (by omega), if_pos c1, nI_1]
          exact h4
        · rw [show r + 1 - (n' - n) = r - (n' - (n + 1)) by omega, ← h5]
          exact if_pos ⟨c1, c⟩
      · refine ⟨n, by omega, hn, by omega, ?_, estop (fun q => c1 q.1)⟩
        show (f_M_writeBmp_381 K _ t_outSize t_keyCount a_t_widths a_t_heights a_t_images_3 a_t_keys ind a_t_images_2 a_t_images_1 a_t_images_0 a_t_out x1 x2 (nI w) (nI y) (nI x) v (nI n)) = _
        unfold f_M_writeBmp_381
        rw [if_neg (show ¬ (255 : Int32) ≤ nI n from show ¬ nI 255 ≤ nI n from nI_ge (by omega) (by omega)), nI_add, if_neg (nI_ge (by omega) (by omega)), pk_mul, nI_add, nI_add, if_pos (q_inb hin (by omega)), nI_clamp (by omega), hix _ (by omega), if_neg c1]
theorem runsM_ap {K T w y : Nat} (hK : 16385 < K) {t_keyCount : Int32} {a_t_widths : Nat → Int32} {a_t_heights : Nat → Int32} {a_t_images_3 : Nat → Int32} {a_t_keys : Nat → Int32} {a_t_images_2 : Nat → Int32} {a_t_images_1 : Nat → Int32} {a_t_images_0 : Nat → Int32} {x1 : Int32} {x2 : Int32} {ix ind : Nat → Int32} (hix : ∀ i, i < T → ind i = ix i) (hT : T ≤ 16384) (haw : y * w + w ≤ T) (b : Nat → Int32) : ∀ (m r x q : Nat) (Y : List Int32), r ≤ m → x + r = w → r < q → Y.length ≤ 262144 → Ap 262144 b Y (Rn ix r (y * w + x)) Prod.mk (f_M_writeBmp_L358 K t_keyCount a_t_widths a_t_heights a_t_images_3 a_t_keys ind a_t_images_2 a_t_images_1 a_t_images_0 x1 x2 (nI w) (nI y) q (nI Y.length) (wr b Y) (nI x)) := by
  intro m
  induction m with
  | zero =>
    intro r x q Y hr hx hq hY
    obtain ⟨q, rfl⟩ : ∃ w, q = w + 1 := ⟨q - 1, by omega⟩
    have e : r = 0 := by omega
    subst e
    show Ap _ _ _ _ _ (f_M_writeBmp_358 K _ (nI Y.length) t_keyCount a_t_widths a_t_heights a_t_images_3 a_t_keys ind a_t_images_2 a_t_images_1 a_t_images_0 (wr b Y) x1 x2 (nI w) (nI y) (nI x))
    unfold f_M_writeBmp_358
    rw [if_pos (nI_le (by omega) (by omega))]
    exact Ap.nil (mk := Prod.mk) hY
  | succ m ih =>
    intro r x q Y hr hx hq hY
    obtain ⟨q, rfl⟩ : ∃ w, q = w + 1 := ⟨q - 1, by omega⟩
    cases r with
    | zero =>
      show Ap _ _ _ _ _ (f_M_writeBmp_358 K _ (nI Y.length) t_keyCount a_t_widths a_t_heights a_t_images_3 a_t_keys ind a_t_images_2 a_t_images_1 a_t_images_0 (wr b Y) x1 x2 (nI w) (nI y) (nI x))
      unfold f_M_writeBmp_358
      rw [if_pos (nI_le (by omega) (by omega))]
      exact Ap.nil (mk := Prod.mk) hY
    | succ r =>
      show Ap _ _ _ _ _ (f_M_writeBmp_358 K _ (nI Y.length) t_keyCount a_t_widths a_t_heights a_t_images_3 a_t_keys ind a_t_images_2 a_t_images_1 a_t_images_0 (wr b Y) x1 x2 (nI w) (nI y) (nI x))
      unfold f_M_writeBmp_358
      obtain ⟨n', h1, h2, h3, h4, h5⟩ := @runM_len K T w y x (nI Y.length) t_keyCount a_t_widths a_t_heights a_t_images_3 a_t_keys a_t_images_2 a_t_images_1 a_t_images_0 (wr b Y) x1 x2 ix ind hix hT haw (ix (y * w + x)) r 1 K (by omega) (by omega) (by omega)
      rw [if_neg (nI_ge (by omega) (by omega)), pk_mul, nI_add, if_pos (q_inb (by omega) (by omega)), nI_clamp (by omega), hix _ (by omega), show (f_M_writeBmp_L381 K (nI Y.length) t_keyCount a_t_widths a_t_heights a_t_images_3 a_t_keys ind a_t_images_2 a_t_images_1 a_t_images_0 (wr b Y) x1 x2 (nI w) (nI y) (nI x) (ix (y * w + x)) K 1) = _ from h4, q_bind]
      show Ap _ _ _ (rn ix r (y * w + x + 1) (ix (y * w + x)) 1) _ _
      rw [h5]
      unfold f_M_writeBmp_424
      refine Ap.seq (putM_ap _ _ hY) (fun u => ⟨_, rfl⟩) (fun g1 => ?_)
      refine Ap.seq (putM_ap _ _ g1) (fun u => ⟨_, rfl⟩) (fun g2 => ?_)
      rw [nI_add, Nat.add_assoc (y * w) x n']
      exact ih (r - (n' - 1)) (x + n') q _ (by omega) (by omega) (by omega) g2
/-! colours -/
theorem bt_m256 {i : Nat} (hi : i < 32) : bt (-256) i = decide (8 ≤ i) := by
  have h : ∀ j, j < 32 → bt (-256) j = decide (8 ≤ j) := by decide
  exact h i hi
theorem by_m256 (p : Int32) {n : Nat} (h1 : 8 ≤ n) (h2 : n ≤ 24) : q_by ((p &&& (-256)) >>> (nI n &&& 31)) = q_by (p >>> (nI n &&& 31)) := q_by_ext (fun i hi => by
  rw [bt_sshr (by omega) _ (by omega), if_pos (by omega), bt_sshr (by omega) _ (by omega), if_pos (by omega), bt_and, bt_m256 (by omega), decide_eq_true (show 8 ≤ n + i by omega), Bool.and_true])
theorem col_or3 (p : Int32) : Lb ((((p >>> ((8 : Int32) &&& 31)) &&& 255) ||| (((p >>> ((16 : Int32) &&& 31)) &&& 255) <<< ((8 : Int32) &&& 31))) ||| (((p >>> ((24 : Int32) &&& 31)) &&& 255) <<< ((16 : Int32) &&& 31))) 3 = q_by 0 := by
  unfold Lb
  refine q_by_ext (fun i hi => ?_)
  rw [show (8 : Int32) = nI 8 from rfl, show (16 : Int32) = nI 16 from rfl, show (24 : Int32) = nI 24 from rfl]
  rw [bt_sshr (by omega) _ (by omega), if_pos (by omega), bt_or, bt_or, bt_shl (by omega) _ (by omega), bt_shl (by omega) _ (by omega), bt_and, bt_and, bt_and, bt_255 (by omega), bt_255 (by omega), bt_255 (by omega)]
  rw [decide_eq_false (show ¬ 8 * 3 + i < 8 by omega), decide_eq_false (show ¬ 8 * 3 + i - 8 < 8 by omega), decide_eq_false (show ¬ 8 * 3 + i - 16 < 8 by omega)]
  have h0 : bt 0 i = false := by
    show (0 : BitVec 32).getLsbD i = false
    simp
  simp [h0]
def col4 (p : Int32) : List Int32 := col3 p ++ [q_by 0]
theorem col4M_ap {K : Nat} (hK : 5 < K) (b : Nat → Int32) {Y : List Int32} (p : Int32) (hn : Y.length ≤ 262144) : Ap 262144 b Y (col4 p) mkU (f_M_putLittle K (((((p &&& (-256)) >>> ((8 : Int32) &&& 31)) &&& 255) ||| ((((p &&& (-256)) >>> ((16 : Int32) &&& 31)) &&& 255) <<< ((8 : Int32) &&& 31))) ||| ((((p &&& (-256)) >>> ((24 : Int32) &&& 31)) &&& 255) <<< ((16 : Int32) &&& 31))) 4 (nI Y.length) (wr b Y)) := by
  refine Ap.eq (littleM_ap (c := 4) b _ hn (by omega) (by omega)) ?_
  show [Lb _ 0, Lb _ 1, Lb _ 2, Lb _ 3] = _
  rw [col_or _ (by omega), col_or _ (by omega), col_or _ (by omega), col_or3, by_m256 p (by omega) (by omega), by_m256 p (by omega) (by omega), by_m256 p (by omega) (by omega)]
  rfl
theorem col_eq (p q : Int32) : us8 p = us8 q ↔ p &&& (-256) = q &&& (-256) := by
  constructor
  · intro h
    refine bt_ext (fun i hi => ?_)
    rw [bt_and, bt_and, bt_m256 hi]
    by_cases c : 8 ≤ i
    · have h2 := congrArg (fun x => bt x (i - 8)) h
      unfold us8 at h2
      rw [bt_ushr (by omega), bt_ushr (by omega), show 8 + (i - 8) = i by omega] at h2
      rw [h2]
    · rw [decide_eq_false c, Bool.and_false, Bool.and_false]
  · intro h
    refine bt_ext (fun i hi => ?_)
    unfold us8
    rw [bt_ushr (by omega), bt_ushr (by omega)]
    by_cases c : 8 + i < 32
    · have h2 := congrArg (fun x => bt x (8 + i)) h
      rw [bt_and, bt_and, bt_m256 c, decide_eq_true (show 8 ≤ 8 + i by omega), Bool.and_true, Bool.and_true] at h2
      exact h2
    · unfold bt
      rw [BitVec.getLsbD_of_ge _ _ (by omega), BitVec.getLsbD_of_ge _ _ (by omega)]
theorem col_eq0 (P : Nat → Int32) : ∀ i j, (fun i => us8 (P i)) i = (fun i => us8 (P i)) j ↔ (fun i => kyM 0 (P i)) i = (fun i => kyM 0 (P i)) j := by
  intro i j
  show us8 (P i) = us8 (P j) ↔ (if (0 : Int32) = 0 then P i &&& (-256) else _) = (if (0 : Int32) = 0 then P j &&& (-256) else _)
  rw [if_pos rfl, if_pos rfl]
  exact col_eq _ _
/-! all of it -/
def ixOf (c : Nat → Int32) (T : Nat) (i : Nat) : Int32 := nI (pos c (Sp c T) (c i))
def rowR (ix : Nat → Int32) (w y : Nat) : List Int32 := Rn ix w (y * w) ++ ([q_by 0] ++ [q_by (if y = 0 then 1 else 0)])
def bmpRuns (P : Nat → Int32) (w h : Nat) : List Int32 := bmpH (54 + 4 * nI (Sp (fun i => us8 (P i)) (w * h)).length) (nI w) (nI h) 8 1 (nI (Sp (fun i => us8 (P i)) (w * h)).length) ++ (cat (fun k => col4 (P (lk (Sp (fun i => us8 (P i)) (w * h)) k))) 0 (Sp (fun i => us8 (P i)) (w * h)).length ++ catd (rowR (ixOf (fun i => us8 (P i)) (w * h)) w) h)
theorem coloursD {K N w h u : Nat} (hK : 300 < K) (hN : N < 2 ^ 31) (hu : u ≤ 256) {cf : Nat → Int32} (b P t_cells t_ind cols : Nat → Int32) (tr : Int32) (hc : ∀ k, k < u → cols k = us8 (cf k)) {Y : List Int32} (hn : Y.length ≤ N) : Ap N b Y (cat (fun k => col4 (cf k)) 0 u) Prod.mk (f_BmpFiles_encodeRuns_L80 K N (nI u) tr t_cells (nI w) (nI h) P cols t_ind (nI u) K (nI Y.length) (wr b Y) (nI 0)) := by
  refine Ap.up (c := u) (f_BmpFiles_encodeRuns_L80 K N (nI u) tr t_cells (nI w) (nI h) P cols t_ind (nI u)) (fun k => col4 (cf k)) (fun q n b => ?_) (fun q k Y X hk hn ih => ?_) u 0 K Y (by omega) (by omega) hn
  · show (f_BmpFiles_encodeRuns_80 K N _ (nI u) tr t_cells (nI w) (nI h) P cols t_ind n b (nI u) (nI u)) = _
    unfold f_BmpFiles_encodeRuns_80
    rw [if_pos (nI_le (by omega) (by omega))]
  · show Ap N _ Y _ _ (f_BmpFiles_encodeRuns_80 K N _ (nI u) tr t_cells (nI w) (nI h) P cols t_ind (nI Y.length) _ (nI u) (nI k))
    have e : f_ColourTable_colourOrZero (nI k) (nI u) cols = some (us8 (cf k), ()) := by
      unfold f_ColourTable_colourOrZero
      rw [if_neg (nI_pos (by omega)), if_neg (nI_ge (by omega) (by omega)), if_pos (q_inb (by omega) (by omega)), nI_clamp (by omega), hc k hk]
      rfl
    unfold f_BmpFiles_encodeRuns_80
    rw [if_neg (nI_ge (by omega) (by omega)), e, q_bind, nI_1]
    unfold col4 at ih ⊢
    rw [List.append_assoc]
    refine Ap.seq (col_ap _ _ hn hN) (fun u => ⟨_, rfl⟩) (fun h1 => ?_)
    refine Ap.seq (put_ap _ _ h1 hN) (fun u => ⟨_, rfl⟩) (fun h2 => ?_)
    rw [List.append_assoc] at h2 ⊢
    exact ih h2
theorem row_in {w h y : Nat} (hy : y < h) : y * w + w ≤ w * h := by
  have h1 : (y + 1) * w ≤ h * w := Nat.mul_le_mul_right w hy
  rw [Nat.succ_mul] at h1
  rw [Nat.mul_comm w h]
  exact h1
theorem rowsD {K N w h : Nat} (hK : 16385 < K) (hN : N < 2 ^ 31) (hw0 : 0 < w) (hwh : w * h ≤ 16384) (hh : h ≤ 16384) {ix ind : Nat → Int32} (hix : ∀ i, i < w * h → ind i = ix i) (b P t_cells cols : Nat → Int32) (us tr : Int32) {Y : List Int32} (hn : Y.length ≤ N) : Ap N b Y (catd (rowR ix w) h) Prod.mk (f_BmpFiles_encodeRuns_L118 K N us tr t_cells (nI w) (nI h) P cols ind K (nI Y.length) (wr b Y) (nI h + (-1))) := by
  refine Ap.dn (c := h) (f_BmpFiles_encodeRuns_L118 K N us tr t_cells (nI w) (nI h) P cols ind) (rowR ix w) (fun q n b => ?_) (fun q y Y X hy hn ih => ?_) h K Y (by omega) (by omega) hn
  · show (f_BmpFiles_encodeRuns_118 K N _ us tr t_cells (nI w) (nI h) P cols ind n b (-1)) = _
    unfold f_BmpFiles_encodeRuns_118
    rw [if_pos (by decide)]
  · show Ap N _ Y _ _ (f_BmpFiles_encodeRuns_118 K N _ us tr t_cells (nI w) (nI h) P cols ind (nI Y.length) _ (nI y))
    unfold f_BmpFiles_encodeRuns_118
    rw [if_neg (nI_pos (by omega)), pk_mul]
    unfold rowR at ih ⊢
    rw [List.append_assoc]
    refine Ap.seq (putRuns_ap hK hN hix hwh hw0 (row_in hy) b hn) (fun u => ⟨_, rfl⟩) (fun h1 => ?_)
    rw [List.append_assoc]
    refine Ap.seq (put_ap b 0 h1 hN) (fun u => ⟨_, rfl⟩) (fun h2 => ?_)
    by_cases c : y = 0
    · rw [if_pos c] at ih ⊢
      rw [if_pos (show nI y ≤ 0 by rw [c]; decide)]
      unfold f_BmpFiles_encodeRuns_155
      refine Ap.seq (put_ap b 1 h2 hN) (fun u => ⟨_, rfl⟩) (fun h3 => ?_)
      rw [List.append_assoc, List.append_assoc] at h3 ⊢
      exact ih h3
    · rw [if_neg c] at ih ⊢
      rw [if_neg (nI_nle (by omega) (by omega))]
      unfold f_BmpFiles_encodeRuns_155
      refine Ap.seq (put_ap b 0 h2 hN) (fun u => ⟨_, rfl⟩) (fun h3 => ?_)
      rw [List.append_assoc, List.append_assoc] at h3 ⊢
      exact ih h3
/-- too many colours, or what Fi says -/
def Fc {α ε : Type} (B : Prop) (N L : Nat) (Pr : α → Prop) (r : Option (α ⊕ (Nat × ε))) : Prop := (B → ∃ u, r = some (.inr (3, u))) ∧ (¬ B → (L ≤ N → ∃ a, r = some (.inl a) ∧ Pr a) ∧ (N < L → ∃ u, r = some (.inr (4, u))))
theorem Fc.ok {α ε : Type} {B : Prop} {N L : Nat} {Pr : α → Prop} {r : Option (α ⊕ (Nat × ε))} {a : α} (hB : ¬ B) (hp : Pr a) (h : Fi N L a r) : Fc B N L Pr r := ⟨fun h => absurd h hB, fun _ => ⟨fun hl => ⟨a, h.1 hl, hp⟩, h.2⟩⟩
theorem Fc.th {α ε : Type} {B : Prop} {N L : Nat} {Pr : α → Prop} {r : Option (α ⊕ (Nat × ε))} (hB : B) (h : ∃ u, r = some (.inr (3, u))) : Fc B N L Pr r := ⟨fun _ => h, fun hn => absurd hB hn⟩
theorem Fi.len {α ε : Type} {N L L' : Nat} {a : α} {r : Option (α ⊕ (Nat × ε))} (e : L = L') (h : Fi N L' a r) : Fi N L a r := e ▸ h
theorem runs_eq (P : Nat → Int32) (w h : Nat) : bmpRuns P w h = [] ++ (bmpHead (54 + 4 * nI (Sp (fun i => us8 (P i)) (w * h)).length) (nI w) (nI h) 8 1 ++ (Zs 12 ++ (L4 (nI (Sp (fun i => us8 (P i)) (w * h)).length) ++ (Zs 4 ++ (cat (fun k => col4 (P (lk (Sp (fun i => us8 (P i)) (w * h)) k))) 0 (Sp (fun i => us8 (P i)) (w * h)).length ++ catd (rowR (ixOf (fun i => us8 (P i)) (w * h)) w) h))))) := by
  unfold bmpRuns bmpH
  simp only [List.append_assoc, List.nil_append]
theorem runs6 (P : Nat → Int32) (w h : Nat) : 6 ≤ (bmpRuns P w h).length := by
  unfold bmpRuns bmpH
  rw [List.length_append, List.length_append, bmpHead_len]
  omega
theorem runsD {K w h : Nat} (hK : 16385 < K) (hw0 : 0 < w) (hwh : w * h ≤ 16384) (hw : w ≤ 16384) (hh : h ≤ 16384) (b P : Nat → Int32) (t_table_used t_table_transparentIndex : Int32) (a_t_table_cells a_t_table_colours a_t_table_indices : Nat → Int32) :
    Fc (256 < (Sp (fun i => us8 (P i)) (w * h)).length) 65536 (bmpRuns P w h).length (fun a => ∃ s : CTs, a = ((), s.1, s.2.1, s.2.2.1, s.2.2.2.1, s.2.2.2.2, nI (bmpRuns P w h).length, wr b (lenMend (bmpRuns P w h)))) (f_BmpFiles_encodeRuns K 65536 t_table_used t_table_transparentIndex a_t_table_cells (nI w) (nI h) P a_t_table_colours a_t_table_indices 0 b) := by
  obtain ⟨cells0, hc0, hr⟩ := restart_ok (K := K) (by omega) t_table_used t_table_transparentIndex a_t_table_cells
  have hl := lay_loop (K := K) (T := w * h) hK hwh (c := fun i => us8 (P i)) (fun q (s : CTs) x => (f_BmpFiles_encodeRuns_L9 K 65536 (nI w) (nI h) P 0 b q s.1 s.2.1 s.2.2.1 s.2.2.2.1 s.2.2.2.2 x)) (fun q s => ?_) (fun q k s hk => ?_) (s := (0, -1, cells0, a_t_table_colours, a_t_table_indices)) (CT_0 _ _ _ hc0)
  · unfold f_BmpFiles_encodeRuns
    rw [hr, q_bind]
    rcases hl with ⟨s, hI, h2⟩ | ⟨hB, u, h2⟩
    · obtain ⟨hL, hu, hC, hcol, hix, ht1, ht2⟩ := hI
      refine Fc.ok (a := ((), s.1, s.2.1, s.2.2.1, s.2.2.2.1, s.2.2.2.2, nI (bmpRuns P w h).length, wr b (lenMend (bmpRuns P w h)))) (by omega) ⟨s, rfl⟩ ?_
      rw [show (f_BmpFiles_encodeRuns_L9 K 65536 (nI w) (nI h) P 0 b K 0 (-1) cells0 a_t_table_colours a_t_table_indices 0) = _ from h2, q_bind, Sum.elim_inl]
      rw [show f_ColourTable_colours s.1 = some (s.1, ()) from rfl, q_bind, Int32.sub_eq_add_neg (nI h) 1, hu]
      have hA := head_ap (K := K) (N := 65536) (by omega) b (Y := []) (54 + 4 * nI (Sp (fun i => us8 (P i)) (w * h)).length) 8 (nI w) (nI h) (by simp) (by omega)
      rw [wr_nil, if_pos rfl] at hA
      refine Fi.len (congrArg List.length (runs_eq P w h)) ?_
      refine Fi.sq hA (fun u => ⟨_, rfl⟩) (fun h1 => ?_)
      refine Fi.sq (zeros_ap (c := 12) b h1 (by omega) (by omega) (by omega)) (fun u => ⟨_, rfl⟩) (fun h2 => ?_)
      refine Fi.sq (little4_ap b _ h2 (by omega)) (fun u => ⟨_, rfl⟩) (fun h3 => ?_)
      refine Fi.sq (zeros_ap (c := 4) b h3 (by omega) (by omega) (by omega)) (fun u => ⟨_, rfl⟩) (fun h4 => ?_)
      refine Fi.sqL (coloursD (cf := fun k => P (lk (Sp (fun i => us8 (P i)) (w * h)) k)) (by omega) (by omega) hL b P _ _ _ _ (fun k hk => hcol k hk) h4) (fun u => ⟨u, rfl⟩) (fun h5 => ?_)
      refine Fi.seqL (rowsD (ix := ixOf (fun i => us8 (P i)) (w * h)) hK (by omega) hw0 hwh hh (fun i hi => hix i hi) b P _ _ _ _ h5) (fun u => ⟨u, rfl⟩) (Nat.le_refl _) (fun h6 => ?_)
      have eZ := runs_eq P w h
      simp only [← List.append_assoc] at eZ
      rw [← eZ] at h6 ⊢
      have hl6 := runs6 P w h
      refine Fi.bnd (c := (nI (bmpRuns P w h).length, ())) rfl ?_
      refine Fi.bnd (mendL_ok (a := 2) (by omega) b (by omega) h6 (by omega) _) ?_
      exact Fi.ret h6
    · refine Fc.th hB ⟨u, ?_⟩
      rw [show (f_BmpFiles_encodeRuns_L9 K 65536 (nI w) (nI h) P 0 b K 0 (-1) cells0 a_t_table_colours a_t_table_indices 0) = _ from h2]
      rfl
  · show (f_BmpFiles_encodeRuns_9 K 65536 _ s.1 s.2.1 s.2.2.1 (nI w) (nI h) P s.2.2.2.1 s.2.2.2.2 0 b (nI (w * h))) = _
    unfold f_BmpFiles_encodeRuns_9 f_Picture_total
    rw [pk_mul, q_bind, if_pos (nI_le (by omega) (by omega))]
  · have e9 : (f_BmpFiles_encodeRuns_L9 K 65536 (nI w) (nI h) P 0 b (q + 1) s.1 s.2.1 s.2.2.1 s.2.2.2.1 s.2.2.2.2 (nI k)) = (f_BmpFiles_encodeRuns_9 K 65536 ((f_BmpFiles_encodeRuns_L9 K 65536 (nI w) (nI h) P 0 b) q) s.1 s.2.1 s.2.2.1 (nI w) (nI h) P s.2.2.2.1 s.2.2.2.2 0 b (nI k)) := rfl
    unfold f_BmpFiles_encodeRuns_9 f_Picture_total at e9
    rw [pk_mul, q_bind, if_neg (nI_ge hk (by omega)), if_pos (q_inb (by omega) (by omega)), nI_clamp (by omega), nI_1] at e9
    constructor
    · intro a ha
      have ha2 : f_ColourTable_lay K (nI k) ((((P k) : Int32).toUInt32 >>> ((8 : Int32).toUInt32 &&& Int32.toUInt32 31)).toInt32) s.1 s.2.1 s.2.2.1 s.2.2.2.1 s.2.2.2.2 = some (.inl a) := ha
      rw [ha2, q_tryL] at e9
      exact e9
    · intro u hu
      have hu2 : f_ColourTable_lay K (nI k) ((((P k) : Int32).toUInt32 >>> ((8 : Int32).toUInt32 &&& Int32.toUInt32 31)).toInt32) s.1 s.2.1 s.2.2.1 s.2.2.2.1 s.2.2.2.2 = some (.inr (3, u)) := hu
      rw [hu2, q_tryR] at e9
      exact ⟨_, e9⟩
/-! the reference -/
theorem coloursM {K sl u : Nat} (hK : 300 < K) (hu : u ≤ 256) {cf : Nat → Int32} (b Wm Hm : Nat → Int32) (Q : Nat → Nat → Int32) (x3 x4 : Int32) (keys a_t_indices : Nat → Int32) (hc : ∀ k, k < u → keys k = cf k &&& (-256)) {Y : List Int32} (hn : Y.length ≤ 262144) : Ap 262144 b Y (cat (fun k => col4 (cf k)) 0 u) Prod.mk (f_M_writeBmp_L168 K (nI u) Wm Hm (Q 3) keys a_t_indices (Q 2) (Q 1) (Q 0) (nI sl) 1 x3 x4 K (nI Y.length) (wr b Y) (nI 0)) := by
  refine Ap.up (c := u) (f_M_writeBmp_L168 K (nI u) Wm Hm (Q 3) keys a_t_indices (Q 2) (Q 1) (Q 0) (nI sl) 1 x3 x4) (fun k => col4 (cf k)) (fun q n b => ?_) (fun q k Y X hk hn ih => ?_) u 0 K Y (by omega) (by omega) hn
  · show (f_M_writeBmp_168 K _ n (nI u) Wm Hm (Q 3) keys a_t_indices (Q 2) (Q 1) (Q 0) b (nI sl) 1 x3 x4 (nI u)) = _
    unfold f_M_writeBmp_168
    rw [if_pos (nI_le (by omega) (by omega))]
  · show Ap 262144 _ Y _ _ (f_M_writeBmp_168 K _ (nI Y.length) (nI u) Wm Hm (Q 3) keys a_t_indices (Q 2) (Q 1) (Q 0) _ (nI sl) 1 x3 x4 (nI k))
    unfold f_M_writeBmp_168
    rw [if_neg (nI_ge (by omega) (by omega)), if_pos rfl, if_pos (q_inb (by omega) (by omega)), if_pos (q_inb (by omega) (by omega)), if_pos (q_inb (by omega) (by omega)), nI_clamp (by omega), hc k hk, nI_1]
    exact Ap.seq (col4M_ap (by omega) b (cf k) hn) (fun u => ⟨_, rfl⟩) ih
def rowRM (ix : Nat → Int32) (w y : Nat) : List Int32 := Rn ix w (y * w) ++ if y = 0 then [] else L2 0
theorem rowR_eq (ix : Nat → Int32) (w : Nat) : ∀ h, catd (rowR ix w) (h + 1) = catd (rowRM ix w) (h + 1) ++ ([q_by 0] ++ [q_by 1]) := by
  intro h
  induction h with
  | zero =>
    show (Rn ix w (0 * w) ++ ([q_by 0] ++ [q_by 1])) ++ [] = ((Rn ix w (0 * w) ++ []) ++ []) ++ ([q_by 0] ++ [q_by 1])
    simp only [List.append_nil]
  | succ h ih =>
    show rowR ix w (h + 1) ++ catd (rowR ix w) (h + 1) = (rowRM ix w (h + 1) ++ catd (rowRM ix w) (h + 1)) ++ ([q_by 0] ++ [q_by 1])
    rw [ih]
    unfold rowR rowRM
    rw [if_neg (by omega), if_neg (by omega), show L2 0 = [q_by 0] ++ [q_by 0] by decide +kernel]
    simp only [List.append_assoc]
theorem rowsM {K w h sl : Nat} (hK : 16385 < K) (hwh : w * h ≤ 16384) (hh : h ≤ 16384) (hw : w ≤ 16384) {ix ind : Nat → Int32} (hix : ∀ i, i < w * h → ind i = ix i) (b Wm Hm : Nat → Int32) (Q : Nat → Nat → Int32) (t_keyCount : Int32) (a_t_keys : Nat → Int32) {Y : List Int32} (hn : Y.length ≤ 262144) : Ap 262144 b Y (catd (rowRM ix w) h) Prod.mk (f_M_writeBmp_L249 K t_keyCount Wm Hm (Q 3) a_t_keys ind (Q 2) (Q 1) (Q 0) (nI sl) 1 (nI w) K (nI Y.length) (wr b Y) (nI h + (-1))) := by
  refine Ap.dn (c := h) (f_M_writeBmp_L249 K t_keyCount Wm Hm (Q 3) a_t_keys ind (Q 2) (Q 1) (Q 0) (nI sl) 1 (nI w)) (rowRM ix w) (fun q n b => ?_) (fun q y Y X hy hn ih => ?_) h K Y (by omega) (by omega) hn
  · show (f_M_writeBmp_249 K _ n t_keyCount Wm Hm (Q 3) a_t_keys ind (Q 2) (Q 1) (Q 0) b (nI sl) 1 (nI w) (-1)) = _
    unfold f_M_writeBmp_249
    rw [if_pos (by decide)]
  · show Ap 262144 _ Y _ _ (f_M_writeBmp_249 K _ (nI Y.length) t_keyCount Wm Hm (Q 3) a_t_keys ind (Q 2) (Q 1) (Q 0) _ (nI sl) 1 (nI w) (nI y))
    unfold f_M_writeBmp_249
    rw [if_neg (nI_pos (by omega)), if_neg (by decide)]
    unfold rowRM at ih ⊢
    rw [List.append_assoc]
    refine Ap.seqL (runsM_ap hK hix hwh (row_in hy) b w w 0 K Y (by omega) (by omega) (by omega) hn) (fun u => ⟨u, rfl⟩) (fun h1 => ?_)
    by_cases c : y = 0
    · rw [if_pos c] at ih ⊢
      rw [if_pos (show nI y ≤ 0 by rw [c]; decide)]
      unfold f_M_writeBmp_457
      rw [List.append_nil] at ih
      rw [List.nil_append]
      exact ih h1
    · rw [if_neg c] at ih ⊢
      rw [if_neg (nI_nle (by omega) (by omega))]
      refine Ap.seq (L2M (by omega) b 0 h1) (fun u => ⟨_, rfl⟩) (fun h2 => ?_)
      unfold f_M_writeBmp_457
      rw [List.append_assoc] at h2 ⊢
      exact ih h2
theorem rn_len (ix : Nat → Int32) : ∀ (r p : Nat) (v : Int32) (n : Nat), (rn ix r p v n).length ≤ 2 * r + 2 := by
  intro r
  induction r with
  | zero => intro p v n; exact Nat.le_refl _
  | succ r ih =>
    intro p v n
    show (if ix p = v ∧ n ≠ 255 then rn ix r (p + 1) v (n + 1) else [q_by (nI n)] ++ ([q_by v] ++ rn ix r (p + 1) (ix p) 1)).length ≤ _
    by_cases c : ix p = v ∧ n ≠ 255
    · rw [if_pos c]
      have := ih (p + 1) v (n + 1)
      omega
    · rw [if_neg c, List.length_append, List.length_append, List.length_singleton, List.length_singleton]
      have := ih (p + 1) (ix p) 1
      omega
theorem Rn_len (ix : Nat → Int32) (r p : Nat) : (Rn ix r p).length ≤ 2 * r := by
  cases r with
  | zero => exact Nat.le_refl _
  | succ r => exact rn_len ix r _ _ _
theorem wh_mul2 {w h : Nat} (hwh : w * h ≤ 16384) (hw : 0 < w) : h * (2 * w + 2) ≤ 65536 := by
  have h1 : h ≤ w * h := Nat.le_mul_of_pos_left h hw
  have h2 : h * (2 * w + 2) = 2 * (w * h) + 2 * h := by
    rw [Nat.mul_add, Nat.mul_left_comm, Nat.mul_comm h w, Nat.mul_comm h 2]
  omega
theorem runs_le (P : Nat → Int32) {w h : Nat} (hw0 : 0 < w) (hwh : w * h ≤ 16384) (hL : (Sp (fun i => us8 (P i)) (w * h)).length ≤ 256) : (bmpRuns P w h).length ≤ 262144 := by
  have h1 := catd_le (g := rowR (ixOf (fun i => us8 (P i)) (w * h)) w) (m := 2 * w + 2) (fun y => by
    unfold rowR
    rw [List.length_append]
    have := Rn_len (ixOf (fun i => us8 (P i)) (w * h)) w (y * w)
    show _ + 2 ≤ _
    omega) h
  have h2 := wh_mul2 hwh hw0
  unfold bmpRuns
  rw [List.length_append, List.length_append, cat_len (m := 4) (fun _ => rfl), show ∀ a b c d e f, (bmpH a b c d e f).length = 54 from fun _ _ _ _ _ _ => rfl]
  omega
theorem runsM {K w h sl : Nat} (hK : 16385 < K) (hsl : sl < 4) (hw0 : 0 < w) (hh0 : 0 < h) (hwh : w * h ≤ 16384) (hw : w ≤ 16384) (hh : h ≤ 16384) (b P Wm Hm : Nat → Int32) (Q : Nat → Nat → Int32) (hQ : ∀ j, j < w * h → Q sl j = P j) (hW : Wm sl = nI w) (hH : Hm sl = nI h) (t_keyCount : Int32) (a_t_keys a_t_indices : Nat → Int32) :
    Fc (256 < (Sp (fun i => us8 (P i)) (w * h)).length) 262144 (bmpRuns P w h).length (fun a => ∃ (kc : Int32) (ky ix : Nat → Int32), a = ((), nI (bmpRuns P w h).length, kc, ky, ix, wr b (lenMend (bmpRuns P w h)))) (f_M_writeBmp K (nI sl) 1 0 t_keyCount Wm Hm (Q 3) a_t_keys a_t_indices (Q 2) (Q 1) (Q 0) b) := by
  have hS := Sp_congr (col_eq0 P) (w * h)
  have hcoll := collect_ok (K := K) hK hsl rfl hwh P Wm Hm Q hQ hW hH 0 t_keyCount a_t_keys a_t_indices
  rw [← hS] at hcoll
  unfold f_M_writeBmp
  rw [if_pos (q_inb hsl (by omega)), if_pos (q_inb hsl (by omega)), if_pos rfl]
  rcases hcoll with ⟨s, ⟨hL, hu, hkeys, hix⟩, h2⟩ | ⟨hB, u, h2⟩
  · rw [← hS] at hL hu hkeys hix
    refine Fc.ok (a := ((), nI (bmpRuns P w h).length, s.1, s.2.1, s.2.2, wr b (lenMend (bmpRuns P w h)))) (by omega) ⟨_, _, _, rfl⟩ ?_
    rw [h2, q_tryL]
    show Fi _ _ _ (f_M_writeBmp_26 K 0 s.1 Wm Hm (Q 3) s.2.1 s.2.2 (Q 2) (Q 1) (Q 0) b (nI sl) 1 (Wm (nI sl).toNatClampNeg) (Hm (nI sl).toNatClampNeg))
    rw [nI_clamp (by omega), hW, hH, hu]
    have eZ : bmpRuns P w h = bmpH (54 + 4 * nI (Sp (fun i => us8 (P i)) (w * h)).length) (nI w) (nI h) 8 1 (nI (Sp (fun i => us8 (P i)) (w * h)).length) ++ (cat (fun k => col4 (P (lk (Sp (fun i => us8 (P i)) (w * h)) k))) 0 (Sp (fun i => us8 (P i)) (w * h)).length ++ (catd (rowRM (ixOf (fun i => us8 (P i)) (w * h)) w) h ++ ([q_by 0] ++ [q_by 1]))) := by
      obtain ⟨h1, rfl⟩ : ∃ q, h = q + 1 := ⟨h - 1, by omega⟩
      unfold bmpRuns
      rw [rowR_eq]
    refine Fi.len (congrArg List.length eZ) ?_
    refine bmpM_head (by omega) b Wm Hm Q 1 (nI w) (nI h) _ _ 8 _ _ _ (.inr ⟨by decide, rfl, rfl, rfl⟩) (fun H hH2 hn => ?_)
    refine Fi.sqL (coloursM (cf := fun k => P (lk (Sp (fun i => us8 (P i)) (w * h)) k)) (by omega) hL b Wm Hm Q _ _ _ _ (fun k hk => hkeys k hk) hn) (fun u => ⟨u, rfl⟩) (fun h3 => ?_)
    show Fi _ _ _ (f_M_writeBmp_243 K (nI (H ++ cat (fun k => col4 (P (lk (Sp (fun i => us8 (P i)) (w * h)) k))) 0 (Sp (fun i => us8 (P i)) (w * h)).length).length) (nI (Sp (fun i => us8 (P i)) (w * h)).length) Wm Hm (Q 3) s.2.1 s.2.2 (Q 2) (Q 1) (Q 0) (wr b (H ++ cat (fun k => col4 (P (lk (Sp (fun i => us8 (P i)) (w * h)) k))) 0 (Sp (fun i => us8 (P i)) (w * h)).length)) (nI sl) 1 (nI w) (nI h))
    unfold f_M_writeBmp_243
    rw [Int32.sub_eq_add_neg (nI h) 1]
    refine Fi.sqL (rowsM (ix := ixOf (fun i => us8 (P i)) (w * h)) hK hwh hh hw (fun i hi => by rw [hix i hi]; exact congrArg nI (pos_congr (col_eq0 P) i _).symm) b Wm Hm Q _ _ h3) (fun u => ⟨u, rfl⟩) (fun h4 => ?_)
    show Fi _ _ _ (if (1 : Int32) = 1 then _ else _)
    rw [if_pos rfl]
    refine Fi.sq (putM_ap b 0 h4) (fun u => ⟨_, rfl⟩) (fun h5 => ?_)
    refine Fi.seq (putM_ap b 1 h5) (fun u => ⟨_, rfl⟩) (Nat.le_refl _) (fun h6 => ?_)
    rw [hH2] at h6 ⊢
    simp only [← List.append_assoc] at eZ
    rw [← eZ] at h6 ⊢
    have hl6 := runs6 P w h
    rw [bmpM_mend (by omega) b hl6 h6]
    exact Fi.ret h6
  · refine Fc.th hB ?_
    rw [h2, q_tryR]
    exact ⟨_, rfl⟩
