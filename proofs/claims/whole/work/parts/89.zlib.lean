/-! the pure half: big numbers, CRC, and all of ZLIB -/
def bg2 (t : Nat → Nat) (p : Nat) : Nat := t p * 256 + t (p + 1)
def bg4 (t : Nat → Nat) (p : Nat) : Nat := bg2 t p * 65536 + bg2 t (p + 2)
theorem bg2_lt {t : Nat → Nat} (hb : ∀ j, t j < 256) (p : Nat) : bg2 t p < 65536 := by
  have h1 := hb p
  have h2 := hb (p + 1)
  unfold bg2
  omega
theorem bg4_lt {t : Nat → Nat} (hb : ∀ j, t j < 256) (p : Nat) : bg4 t p < 2 ^ 32 := by
  have h1 := bg2_lt hb p
  have h2 := bg2_lt hb (p + 2)
  unfold bg4
  omega
theorem shl_or {a b s : Nat} (hs : s < 32) (hb : b < 2 ^ s) (ha : a * 2 ^ s < 2 ^ 32) : (nI a <<< (nI s &&& 31)) ||| nI b = nI (a * 2 ^ s + b) := by
  rw [pk_shlN (nI s &&& 31) s (sh_amt s hs) ha, nI_or, ← Nat.shiftLeft_eq, ← Nat.shiftLeft_add_eq_or_of_lt hb]
theorem big2_exN {p n : Nat} (hp : p ≤ n) (hn : n ≤ 65536) {T : Nat → Int32} {t : Nat → Nat} (ht : Tf p n T t) : Ex (p + 2 ≤ n) (nI (bg2 t p), nI (p + 2)) (f_Source_big2 (nI p) (nI n) T) := by
  have h := big2_ex hp hn ht
  have h1 := ht.2 p
  have h2 := ht.2 (p + 1)
  rw [show (nI (t p) <<< ((8 : Int32) &&& 31)) ||| nI (t (p + 1)) = nI (bg2 t p) from shl_or (s := 8) (by omega) (by omega) (by omega)] at h
  exact h
theorem big4_ex {p n : Nat} (hp : p ≤ n) (hn : n ≤ 65536) {T : Nat → Int32} {t : Nat → Nat} (ht : Tf p n T t) : Ex (p + 4 ≤ n) (nI (bg4 t p), nI (p + 4)) (f_Source_big4 (nI p) (nI n) T) := by
  unfold f_Source_big4
  refine Ex.gq (Gq.try (big2_exN hp hn ht) (fun u => ⟨_, rfl⟩) (fun h => by omega) (fun h1 => ?_))
  refine Gq.try (big2_exN h1 hn (ht.mono (by omega))) (fun u => ⟨_, rfl⟩) (fun h => by omega) (fun h2 => ?_)
  have t1 := bg2_lt ht.2 p
  have t2 := bg2_lt ht.2 (p + 2)
  refine Gq.yes (by omega) ?_
  show some (Sum.inl ((nI (bg2 t p) <<< (nI 16 &&& 31)) ||| nI (bg2 t (p + 2)), nI (p + 2 + 2))) = _
  rw [shl_or (s := 16) (by omega) (by omega) (by omega)]
  rfl
/-- c bytes, the highest first -/
def bgc (t : Nat → Nat) (p : Nat) : Nat → Nat
  | 0 => 0
  | c + 1 => bgc t p c * 256 + t (p + c)
theorem bgc_4 (t : Nat → Nat) (p : Nat) : bgc t p 4 = bg4 t p := by
  show (((0 * 256 + t (p + 0)) * 256 + t (p + 1)) * 256 + t (p + 2)) * 256 + t (p + 3) = _
  unfold bg4 bg2
  rw [Nat.add_zero, show p + 2 + 1 = p + 3 by omega]
  omega
theorem bigT_L {K n : Nat} (hn : n ≤ 65536) {T : Nat → Int32} {t : Nat → Nat} (ht : Tb n T t) : ∀ (r k p q : Nat), k + r = 4 → r < q → p + k ≤ n → Ex (p + 4 ≤ n) (nI (p + 4), lN (bgc t p 4)) (f_M_big_L5 K (nI n) T 4 q (nI (p + k)) (lN (bgc t p k)) (nI k)) := by
  intro r
  induction r with
  | zero =>
    intro k p q hk hq hp
    obtain ⟨q, rfl⟩ : ∃ w, q = w + 1 := ⟨q - 1, by omega⟩
    have e : k = 4 := by omega
    subst e
    refine Ex.gq (Gq.yes hp ?_)
    show f_M_big_5 K _ (nI n) (nI (p + 4)) T 4 (lN (bgc t p 4)) (nI 4) = _
    unfold f_M_big_5
    rw [if_pos (show (4 : Int32) ≤ nI 4 by decide)]
  | succ r ih =>
    intro k p q hk hq hp
    obtain ⟨q, rfl⟩ : ∃ w, q = w + 1 := ⟨q - 1, by omega⟩
    show Ex _ _ (f_M_big_5 K _ (nI n) (nI (p + k)) T 4 (lN (bgc t p k)) (nI k))
    unfold f_M_big_5
    rw [if_neg (show ¬ (4 : Int32) ≤ nI k from nI_ge (b := 4) (by omega) (by omega))]
    refine Ex.gq (Gq.try (nextM_ex hp hn ht) (fun u => ⟨_, rfl⟩) (fun h => by omega) (fun h1 => ?_))
    have t1 := ht.2 (p + k)
    dsimp only
    rw [nI_l (by omega), show (256 : Int64) = lN 256 from rfl, lN_mul, lN_add, nI_1, Nat.add_assoc p k 1]
    exact ih (k + 1) p q (by omega) (by omega) (by omega)
theorem bigT_ex {K n p : Nat} (hK : 10 < K) (hn : n ≤ 65536) (hp : p ≤ n) {T : Nat → Int32} {t : Nat → Nat} (ht : Tb n T t) : Ex (p + 4 ≤ n) (lN (bg4 t p), nI (p + 4)) (f_M_big K 4 (nI n) (nI p) T) := by
  unfold f_M_big
  have h := bigT_L (K := K) hn ht 4 0 p K (by omega) (by omega) hp
  rw [bgc_4] at h
  exact Ex.gq (Gq.tryL h (fun u => ⟨u, rfl⟩) id (fun h => Gq.yes h rfl))
theorem cr_f_tv {f g : Nat → Int32} : ∀ (r i : Nat) (c : BitVec 32), (∀ j, i ≤ j → j < i + r → tv f j = tv g j) → cr_f f i r c = cr_f g i r c := by
  intro r
  induction r with
  | zero => intro i c _; rfl
  | succ r ih =>
    intro i c h
    show cr_f f (i + 1) r (cr_b c (f i)) = cr_f g (i + 1) r (cr_b c (g i))
    have e : cr_b c (f i) = cr_b c (g i) := by
      unfold cr_b
      rw [tv_ok, tv_ok, h i (by omega) (by omega)]
    rw [e]
    exact ih (i + 1) _ (fun j h1 h2 => h j (by omega) (by omega))
theorem Rx_lN {c : BitVec 32} {x : Int64} (h : Rx c x) : x = lN c.toNat := by
  refine bt6_ext (fun i hi => ?_)
  rw [h i hi, bt6_lN _ _ hi]
  rfl
/-- the CRC of both -/
theorem crc_tv {K N N' i t : Nat} (hN : N < 2 ^ 31) (hN' : N' < 2 ^ 31) (hit : i ≤ t) (ht : t ≤ N) (ht' : t ≤ N') (hK : N + N' + 9 < K) {b b' : Nat → Int32} (hb : ∀ j, i ≤ j → j < t → tv b' j = tv b j) : ∃ c, c < 2 ^ 32 ∧ f_D_crcOf K N (nI i) (nI t) b = some (nI c, ()) ∧ f_M_crc K N' (nI i) (nI t) b' = some (lN c, ()) := by
  obtain ⟨c, h1, h2⟩ := crcD_ok (K := K) hN hit ht (by omega) b
  obtain ⟨x, h3, h4⟩ := crcM_ok (K := K) hN' hit ht' (by omega) b'
  unfold crcF at h4
  rw [cr_f_tv (g := b) (t - i) i _ (fun j g1 g2 => hb j g1 (by omega)), ← h2] at h4
  refine ⟨c.toBitVec.toNat, c.toBitVec.isLt, ?_, ?_⟩
  · rw [h1]
    exact congrArg (fun z => some (z, ())) (nI_tn rfl)
  · rw [h3, Rx_lN h4]
theorem bigI_L {K m a : Nat} (hK : 40 < K) {D : Nat → Int32} {dat : Nat → Nat} (hd : Dt 0 m D dat) (hm : m ≤ 65536) {t_width : Int32} {t_height : Int32} {t_depth : Int32} {t_kind : Int32} {t_interlace : Int32} {t_rowBytes : Int32} {t_expected : Int32} {a_t_rows : Nat → Int32} {a_t_lengths : Nat → Int32} {t_literals_all : Int32} {a_t_literals_counts : Nat → Int32} {a_t_literals_meanings : Nat → Int32} {t_distances_all : Int32} {a_t_distances_counts : Nat → Int32} {a_t_distances_meanings : Nat → Int32} {t_lengthCodes_all : Int32} {a_t_lengthCodes_counts : Nat → Int32} {a_t_lengthCodes_meanings : Nat → Int32} : ∀ (r k q : Nat), k + r = 4 → r < q → a + k ≤ m → Ex (a + 4 ≤ m) (nI (8 * (a + 4)), lN (bgc dat a 4)) (f_M_inflate_L300 K t_width t_height t_depth t_kind t_interlace (nI m) t_rowBytes t_expected D a_t_rows a_t_lengths t_literals_all a_t_literals_counts a_t_literals_meanings t_distances_all a_t_distances_counts a_t_distances_meanings t_lengthCodes_all a_t_lengthCodes_counts a_t_lengthCodes_meanings q (nI (8 * (a + k))) (lN (bgc dat a k)) (nI k)) := by
  intro r
  induction r with
  | zero =>
    intro k q hk hq hp
    obtain ⟨q, rfl⟩ : ∃ w, q = w + 1 := ⟨q - 1, by omega⟩
    have e : k = 4 := by omega
    subst e
    refine Ex.gq (Gq.yes hp ?_)
    show (f_M_inflate_300 K _ t_width t_height t_depth t_kind t_interlace (nI m) (nI (8 * (a + 4))) t_rowBytes t_expected D a_t_rows a_t_lengths t_literals_all a_t_literals_counts a_t_literals_meanings t_distances_all a_t_distances_counts a_t_distances_meanings t_lengthCodes_all a_t_lengthCodes_counts a_t_lengthCodes_meanings (lN (bgc dat a 4)) (nI 4)) = _
    unfold f_M_inflate_300
    rw [if_pos (show (4 : Int32) ≤ nI 4 by decide)]
  | succ r ih =>
    intro k q hk hq hp
    obtain ⟨q, rfl⟩ : ∃ w, q = w + 1 := ⟨q - 1, by omega⟩
    show Ex _ _ (f_M_inflate_300 K _ t_width t_height t_depth t_kind t_interlace (nI m) (nI (8 * (a + k))) t_rowBytes t_expected D a_t_rows a_t_lengths t_literals_all a_t_literals_counts a_t_literals_meanings t_distances_all a_t_distances_counts a_t_distances_meanings t_lengthCodes_all a_t_lengthCodes_counts a_t_lengthCodes_meanings (lN (bgc dat a k)) (nI k))
    unfold f_M_inflate_300
    rw [if_neg (show ¬ (4 : Int32) ≤ nI k from nI_ge (b := 4) (by omega) (by omega))]
    have h := bitsM (K := K) (x := 8) hK hd (by omega) (by omega) (show 8 * (a + k) ≤ 8 * m by omega)
    have h2 : Ex _ _ (f_M_bits K 8 (nI m) (nI (8 * (a + k))) D) := h
    refine Ex.gq (Gq.try h2 (fun u => ⟨_, rfl⟩) (fun h => by omega) (fun h1 => ?_))
    have t1 := hd.2 (a + k)
    dsimp only
    rw [vN_8 hd.2, nI_l (by omega), show (256 : Int64) = lN 256 from rfl, lN_mul, lN_add, nI_1, show 8 * (a + k) + 8 = 8 * (a + (k + 1)) by omega]
    exact ih (k + 1) q (by omega) (by omega) (by omega)
theorem zlib_ok {K g m due : Nat} (hK : 600000 < K) {T D : Nat → Int32} {dat : Nat → Nat} (ht : Dt g m T dat) (hd : Dt 0 m D dat) (hg : g + m ≤ 65536) (hdue : due ≤ 147456) {t_made : Int32} {a_t_out : Nat → Int32} {t_literals_used : Int32} {t_literals_unusedWords : Int32} {a_t_literals_places : Nat → Int32} {t_distances_used : Int32} {t_distances_unusedWords : Int32} {a_t_distances_places : Nat → Int32} {t_lengthCodes_used : Int32} {t_lengthCodes_unusedWords : Int32} {a_t_lengthCodes_places : Nat → Int32} {t_due : Int32} {len lc lm dc dm cc cm : Nat → Int32} {t_width : Int32} {t_height : Int32} {t_depth : Int32} {t_kind : Int32} {t_interlace : Int32} {t_bitAt : Int32} {t_rowBytes : Int32} {t_expected : Int32} {a_t_rows : Nat → Int32} {a_t_lengths : Nat → Int32} {t_literals_all : Int32} {a_t_literals_counts : Nat → Int32} {a_t_literals_meanings : Nat → Int32} {t_distances_all : Int32} {a_t_distances_counts : Nat → Int32} {a_t_distances_meanings : Nat → Int32} {t_lengthCodes_all : Int32} {a_t_lengthCodes_counts : Nat → Int32} {a_t_lengthCodes_meanings : Nat → Int32} (hall : (f_M_allRows K t_width t_height t_depth t_kind t_interlace) = some (nI due, ())) : Lk (fun x y => Agr due (x.2.2.2.1) (y.2.2.2.2.1)) (f_Inflater_unpack K 288 32 19 (nI due) t_made t_due a_t_out (nI g) (nI (g + m)) 0 0 T len t_literals_used t_literals_unusedWords lc a_t_literals_places lm t_distances_used t_distances_unusedWords dc a_t_distances_places dm t_lengthCodes_used t_lengthCodes_unusedWords cc a_t_lengthCodes_places cm) (f_M_inflate K t_width t_height t_depth t_kind t_interlace (nI m) t_bitAt t_rowBytes t_expected D a_t_rows a_t_lengths t_literals_all a_t_literals_counts a_t_literals_meanings t_distances_all a_t_distances_counts a_t_distances_meanings t_lengthCodes_all a_t_lengthCodes_counts a_t_lengthCodes_meanings) := by
  unfold f_Inflater_unpack f_M_inflate f_Inflater_unpack_14 f_M_inflate_14 f_Inflater_takeHead f_M_inflate_84
  rw [if_neg (show ¬ (147456 : Int32) < nI due from nI_nlt (a := 147456) (by omega) (by omega)), need1, q_tryL, try_try]
  have h1 := next_exF (show g ≤ g + m by omega) hg (ht.tf 0).1
  by_cases c1 : m ≤ 1
  · rw [if_pos (show nI m ≤ 1 from nI_le (b := 1) c1 (by omega)), can0, q_tryR]
    refine Lk.no ?_ ⟨_, rfl⟩
    by_cases c0 : m = 0
    · obtain ⟨u, hu⟩ := h1.2 (by omega)
      rw [hu]
      exact ⟨_, rfl⟩
    · rw [h1.1 (by omega), q_tryL]
      dsimp only
      obtain ⟨u, hu⟩ := (next_exF (show g + 1 ≤ g + m by omega) hg (ht.tf 1).1).2 (by omega)
      rw [hu]
      exact ⟨_, rfl⟩
  rw [if_neg (show ¬ nI m ≤ 1 from nI_ge (a := 1) (by omega) (by omega)), can1, q_tryL, h1.1 (by omega), q_tryL]
  dsimp only
  have e0 : tv T g = dat 0 := ht.1 0 (by omega)
  have e1 : tv T (g + 1) = dat 1 := ht.1 1 (by omega)
  have f0 : D (Int32.toNatClampNeg 0) &&& 255 = nI (dat 0) := by
    rw [show Int32.toNatClampNeg 0 = 0 from rfl, tv_ok]
    have := hd.1 0 (by omega)
    rw [Nat.zero_add] at this
    rw [this]
  have f1 : D (Int32.toNatClampNeg 1) &&& 255 = nI (dat 1) := by
    rw [show Int32.toNatClampNeg 1 = 1 from rfl, tv_ok]
    have := hd.1 1 (by omega)
    rw [Nat.zero_add] at this
    rw [this]
  rw [(next_exF (show g + 1 ≤ g + m by omega) hg (ht.tf 1).1).1 (by omega), try_try, q_tryL, if_pos (show inb 0 65536 = true from q_inb (i := 0) (by omega) (by omega)), if_pos (show inb 1 65536 = true from q_inb (i := 1) (by omega) (by omega)), f0, f1, e0, e1]
  dsimp only
  unfold f_Inflater_takeHead_38 f_Inflater_takeHead_39 f_Inflater_takeHead_60 f_Inflater_takeHead_77
  have h85 : Th 3 (f_M_inflate_85 K t_width t_height t_depth t_kind t_interlace (nI m) t_bitAt t_rowBytes t_expected D a_t_rows a_t_lengths t_literals_all a_t_literals_counts a_t_literals_meanings t_distances_all a_t_distances_counts a_t_distances_meanings t_lengthCodes_all a_t_lengthCodes_counts a_t_lengthCodes_meanings 0) := by
    unfold f_M_inflate_85
    rw [can0, q_tryR]
    exact ⟨_, rfl⟩
  by_cases k1 : nI (dat 0) - nI (dat 0) / 16 * 16 = 8
  rotate_left
  · rw [if_neg k1, if_neg k1, need0, q_tryR, q_tryR]
    exact Lk.no ⟨_, rfl⟩ h85
  rw [if_pos k1, if_pos k1]
  by_cases k2 : 7 < nI (dat 0) / 16
  · rw [if_pos k2, if_pos k2, need0, q_tryR, q_tryR]
    exact Lk.no ⟨_, rfl⟩ h85
  rw [if_neg k2, if_neg k2, need1, q_tryL]
  by_cases k3 : 256 * nI (dat 0) + nI (dat 1) - (256 * nI (dat 0) + nI (dat 1)) / 31 * 31 = 0
  rotate_left
  · rw [if_neg k3, if_neg k3, need0, q_tryR, q_tryR]
    exact Lk.no ⟨_, rfl⟩ h85
  rw [if_pos k3, if_pos k3]
  by_cases k4 : nI (dat 1) / 32 - nI (dat 1) / 32 / 2 * 2 = 0
  rotate_left
  · rw [if_neg k4, if_neg k4, q_tryL, need0, q_tryR, q_tryR]
    exact Lk.no ⟨_, rfl⟩ h85
  rw [if_pos k4, if_pos k4, q_tryL, q_tryL, q_tryL]
  clear h85
  unfold f_M_inflate_85
  rw [can1, q_tryL, hall, q_bind]
  dsimp only
  have hI := infl_L (K := K) (t_width := t_width) (t_height := t_height) (t_depth := t_depth) (t_kind := t_kind) (t_interlace := t_interlace) hK ht hd hg hdue (8 * m) 16 0 0 K K false (nI (g + 2)) 0 0 a_t_out a_t_rows len t_literals_used t_literals_unusedWords lc a_t_literals_places lm t_distances_used t_distances_unusedWords dc a_t_distances_places dm t_lengthCodes_used t_lengthCodes_unusedWords cc a_t_lengthCodes_places cm a_t_lengths t_literals_all a_t_literals_counts a_t_literals_meanings t_distances_all a_t_distances_counts a_t_distances_meanings t_lengthCodes_all a_t_lengthCodes_counts a_t_lengthCodes_meanings (by omega) (by omega) (by omega) (by omega) (by omega) (fun j hj => absurd hj (Nat.not_lt_zero _)) (Bq.at (a := 2) dat (by omega))
  refine Lk.tryL hI (fun u => ⟨_, rfl⟩) (fun u => ⟨_, rfl⟩) (fun x y hxy => ?_)
  obtain ⟨⟨made, b, m1, m2, m3, m4, m5, m6⟩, m7⟩ := hxy
  unfold f_Inflater_unpack_126 f_Source_dropBits f_Inflater_unpack_152
  rw [q_bind, m7, if_neg (show ¬ (1 : Int32) = 0 by decide), m1, m2, m3]
  by_cases c2 : made = due
  rotate_left
  · have n2 : ¬ nI made = nI due := fun q => c2 ((nI_eq32 (by omega) (by omega)).mp q)
    rw [if_neg n2, if_neg n2]
    unfold f_Inflater_unpack_153 f_M_inflate_274
    rw [need0, can0, q_tryR, q_tryR]
    exact Lk.no ⟨_, rfl⟩ ⟨_, rfl⟩
  subst c2
  rw [if_pos (rfl : nI made = nI made), if_pos (rfl : nI made = nI made)]
  unfold f_Inflater_unpack_153 f_M_inflate_274
  obtain ⟨a, ea, e8, ha, -⟩ := up8 (by omega) m6
  rw [need1, can1, q_tryL, q_tryL, e8, ea, bind_elim]
  have hBD := big4_ex (show g + a ≤ g + m by omega) hg (ht.tf a).1
  have hBM := bigI_L (K := K) (a := a) (by omega) hd (by omega) (t_width := t_width) (t_height := t_height) (t_depth := t_depth) (t_kind := t_kind) (t_interlace := t_interlace) (t_rowBytes := nI made) (t_expected := nI made) (a_t_rows := y.2.2.1) (a_t_lengths := y.2.2.2.1) (t_literals_all := y.2.2.2.2.1) (a_t_literals_counts := y.2.2.2.2.2.1) (a_t_literals_meanings := y.2.2.2.2.2.2.1) (t_distances_all := y.2.2.2.2.2.2.2.1) (a_t_distances_counts := y.2.2.2.2.2.2.2.2.1) (a_t_distances_meanings := y.2.2.2.2.2.2.2.2.2.1) (t_lengthCodes_all := y.2.2.2.2.2.2.2.2.2.2.1) (a_t_lengthCodes_counts := y.2.2.2.2.2.2.2.2.2.2.2.1) (a_t_lengthCodes_meanings := y.2.2.2.2.2.2.2.2.2.2.2.2) 4 0 K (by omega) (by omega) ha
  by_cases c4 : a + 4 ≤ m
  rotate_left
  · obtain ⟨u, hu⟩ := hBD.2 (by omega)
    obtain ⟨v, hv⟩ := hBM.2 c4
    rw [hu, q_tryR]
    refine Lk.no ⟨_, rfl⟩ ?_
    show Th 3 (dc_try (f_M_inflate_L300 K t_width t_height t_depth t_kind t_interlace (nI m) (nI made) (nI made) D (y.2.2.1) (y.2.2.2.1) (y.2.2.2.2.1) (y.2.2.2.2.2.1) (y.2.2.2.2.2.2.1) (y.2.2.2.2.2.2.2.1) (y.2.2.2.2.2.2.2.2.1) (y.2.2.2.2.2.2.2.2.2.1) (y.2.2.2.2.2.2.2.2.2.2.1) (y.2.2.2.2.2.2.2.2.2.2.2.1) (y.2.2.2.2.2.2.2.2.2.2.2.2) K (nI (8 * (a + 0))) (lN (bgc dat a 0)) (nI 0)) _ _)
    rw [hv]
    exact ⟨_, rfl⟩
  have hBM1 := hBM.1 c4
  rw [hBD.1 (by omega), q_tryL]
  dsimp only
  have hBM2 : (f_M_inflate_L300 K t_width t_height t_depth t_kind t_interlace (nI m) (nI made) (nI made) D (y.2.2.1) (y.2.2.2.1) (y.2.2.2.2.1) (y.2.2.2.2.2.1) (y.2.2.2.2.2.2.1) (y.2.2.2.2.2.2.2.1) (y.2.2.2.2.2.2.2.2.1) (y.2.2.2.2.2.2.2.2.2.1) (y.2.2.2.2.2.2.2.2.2.2.1) (y.2.2.2.2.2.2.2.2.2.2.2.1) (y.2.2.2.2.2.2.2.2.2.2.2.2) K (nI (8 * a)) 0 0) = _ := hBM1
  have eq4 : bg4 (tv T) (g + a) = bgc dat a 4 := by
    rw [bgc_4]
    unfold bg4 bg2
    rw [ht.1 a (by omega), show g + a + 1 = g + (a + 1) by omega, ht.1 (a + 1) (by omega), show g + a + 2 + 1 = g + (a + 2 + 1) by omega, show g + a + 2 = g + (a + 2) by omega, ht.1 (a + 2) (by omega), ht.1 (a + 2 + 1) (by omega)]
  have b4 := bg4_lt (tv_lt T) (g + a)
  rw [hBM2, q_tryL, adD_ok (by omega) (by omega) (by omega), q_bind, adM_ok (by omega) (by omega) (by omega), q_bind, adl_eq m5, ← eq4]
  dsimp only
  have al := adl_lt (y.2.2.1) made
  unfold f_Inflater_unpack_182 f_M_inflate_364 f_M_inflate_365 f_Source_left f_Inflater_unpack_200
  by_cases c5 : bg4 (tv T) (g + a) = adl (y.2.2.1) made
  rotate_left
  · rw [if_neg (fun q => c5 ((nI_eq32 b4 al).mp q)), if_neg (fun q => c5 ((l_eq (by omega) (by omega)).mp q)), need0, can0, q_tryR, q_tryR]
    exact Lk.no ⟨_, rfl⟩ ⟨_, rfl⟩
  rw [if_pos ((nI_eq32 b4 al).mpr c5), if_pos ((l_eq (by omega) (by omega)).mpr c5), need1, q_tryL, q_bind, pk_sub (by omega), show (8 : Int32) * nI m = nI (8 * m) from pk_mul 8 m]
  by_cases c6 : a + 4 = m
  · rw [if_pos (show nI (g + m - (g + a + 4)) = 0 by rw [show g + m - (g + a + 4) = 0 by omega]; rfl), if_pos (show nI (8 * (a + 4)) = nI (8 * m) by rw [c6]), can1, q_tryL, q_tryL]
    exact Lk.yes m5
  · rw [if_neg (show ¬ nI (g + m - (g + a + 4)) = 0 from nI_ne0 (by omega) (by omega)), if_neg (show ¬ nI (8 * (a + 4)) = nI (8 * m) from fun q => c6 (by have := (nI_eq32 (by omega) (by omega)).mp q; omega)), need0, can0, q_tryR, q_tryR]
    exact Lk.no ⟨_, rfl⟩ ⟨_, rfl⟩
