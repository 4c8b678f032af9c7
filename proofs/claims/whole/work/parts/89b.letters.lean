/-! the pure half: letters and names of parts -/
def smL (c : Nat) : Bool := decide (97 ≤ c ∧ c ≤ 122)
def ltr (c : Nat) : Bool := decide ((97 ≤ c ∧ c ≤ 122) ∨ (65 ≤ c ∧ c ≤ 90))
theorem letM_ok : ∀ c, c < 256 → f_M_letter (nI c) = some (b2 (ltr c), ()) := by decide +kernel
theorem smD_ok : ∀ c, c < 300 → f_PngReader_isSmallLetter (nI c) = some (b2 (smL c), ()) := by decide +kernel
theorem shr_and {X s : Nat} (hX : X < 2 ^ 32) (hs : s ≤ 24) : (nI X >>> (nI s &&& 31)) &&& 255 = nI (X / 2 ^ s % 256) := by
  refine bt_ext (fun i hi => ?_)
  rw [bt_and, bt_sshr (by omega) _ hi, bt_255 hi, bt_nI _ _ hi, show (256 : Nat) = 2 ^ 8 from rfl, Nat.testBit_mod_two_pow, Nat.testBit_div_two_pow]
  by_cases h : i < 8
  · rw [if_pos (by omega), decide_eq_true h, Bool.and_true, Bool.true_and, bt_nI _ _ (by omega), Nat.add_comm]
  · rw [decide_eq_false h, Bool.and_false, Bool.false_and]
theorem sml_or : ∀ c, c < 256 → (smL c = true ∨ smL (c + 32) = true ↔ ltr c = true) := by decide +kernel
def unc (X : Nat) : Prop := ltr (X % 256) = true ∧ ltr (X / 2 ^ 8 % 256) = true ∧ ltr (X / 2 ^ 16 % 256) = true ∧ smL (X / 2 ^ 24 % 256) = true
theorem unc_step {K X s : Nat} (hX : X < 2 ^ 32) (hs : s < 24) (q : Nat) : (ltr (X / 2 ^ s % 256) = true → f_PngReader_isUncounted_L2 K (nI X) (q + 1) (nI s) = f_PngReader_isUncounted_L2 K (nI X) q (nI (s + 8))) ∧ (¬ ltr (X / 2 ^ s % 256) = true → f_PngReader_isUncounted_L2 K (nI X) (q + 1) (nI s) = some (.inl ())) := by
  have e : f_PngReader_isUncounted_L2 K (nI X) (q + 1) (nI s) = (f_PngReader_isUncounted_2 K (f_PngReader_isUncounted_L2 K (nI X) q) (nI X) (nI s)) := rfl
  have hb : X / 2 ^ s % 256 < 256 := Nat.mod_lt _ (by omega)
  rw [e]
  unfold f_PngReader_isUncounted_2 f_PngReader_isUncounted_35
  rw [if_neg (show ¬ (24 : Int32) ≤ nI s from nI_ge (b := 24) hs (by omega)), shr_and hX (by omega)]
  generalize X / 2 ^ s % 256 = c at hb ⊢
  have hor := sml_or c hb
  rw [smD_ok c (by omega), q_bind, show nI c + 32 = nI (c + 32) from nI_add c 32, smD_ok (c + 32) (by omega), show nI s + 8 = nI (s + 8) from nI_add s 8]
  dsimp only
  rw [q_bind]
  cases h1 : smL c
  · rw [if_pos (show b2 false = 0 from rfl)]
    cases h2 : smL (c + 32)
    · dsimp only
      rw [if_pos (show b2 false = 0 from rfl)]
      refine ⟨fun q => ?_, fun _ => rfl⟩
      have := hor.mpr q
      rw [h1, h2] at this
      rcases this with h | h
      · exact Bool.noConfusion h
      · exact Bool.noConfusion h
    · dsimp only
      rw [if_neg (show ¬ b2 true = 0 by decide)]
      exact ⟨fun _ => rfl, fun q => absurd (hor.mp (Or.inr h2)) q⟩
  · rw [if_neg (show ¬ b2 true = 0 by decide)]
    exact ⟨fun _ => rfl, fun q => absurd (hor.mp (Or.inl h1)) q⟩
theorem unc_ok {K X : Nat} (hK : 10 < K) (hX : X < 2 ^ 32) : (unc X → f_PngReader_isUncounted K (nI X) = some (1, ())) ∧ (¬ unc X → f_PngReader_isUncounted K (nI X) = some (0, ())) := by
  obtain ⟨q, rfl⟩ : ∃ q, K = q + 4 := ⟨K - 4, by omega⟩
  unfold f_PngReader_isUncounted
  have s0 := unc_step (K := q + 4) (s := 0) hX (by omega) (q + 3)
  have s1 := unc_step (K := q + 4) (s := 8) hX (by omega) (q + 2)
  have s2 := unc_step (K := q + 4) (s := 16) hX (by omega) (q + 1)
  rw [show X / 2 ^ 0 % 256 = X % 256 by omega] at s0
  have s3 : f_PngReader_isUncounted_L2 (q + 4) (nI X) (q + 1) (nI 24) = some (.inr ()) := by
    show (f_PngReader_isUncounted_2 ((q + 4)) (f_PngReader_isUncounted_L2 (q + 4) (nI X) q) (nI X) (nI 24)) = _
    unfold f_PngReader_isUncounted_2
    rw [if_pos (show (24 : Int32) ≤ nI 24 by decide)]
  have e0 : f_PngReader_isUncounted_L2 (q + 4) (nI X) (q + 4) 0 = f_PngReader_isUncounted_L2 (q + 4) (nI X) (q + 3 + 1) (nI 0) := rfl
  have hsh : (nI X >>> ((24 : Int32) &&& 31)) &&& 255 = nI (X / 2 ^ 24 % 256) := shr_and (s := 24) hX (by omega)
  rw [e0, hsh]
  by_cases c0 : ltr (X % 256) = true
  rotate_left
  · rw [s0.2 c0]
    exact ⟨fun u => absurd u.1 c0, fun _ => rfl⟩
  rw [s0.1 c0]
  by_cases c1 : ltr (X / 2 ^ 8 % 256) = true
  rotate_left
  · rw [show f_PngReader_isUncounted_L2 (q + 4) (nI X) (q + 3) (nI (0 + 8)) = _ from s1.2 c1]
    exact ⟨fun u => absurd u.2.1 c1, fun _ => rfl⟩
  rw [show f_PngReader_isUncounted_L2 (q + 4) (nI X) (q + 3) (nI (0 + 8)) = _ from s1.1 c1]
  by_cases c2 : ltr (X / 2 ^ 16 % 256) = true
  rotate_left
  · rw [show f_PngReader_isUncounted_L2 (q + 4) (nI X) (q + 2) (nI (8 + 8)) = _ from s2.2 c2]
    exact ⟨fun u => absurd u.2.2.1 c2, fun _ => rfl⟩
  rw [show f_PngReader_isUncounted_L2 (q + 4) (nI X) (q + 2) (nI (8 + 8)) = _ from s2.1 c2, show f_PngReader_isUncounted_L2 (q + 4) (nI X) (q + 1) (nI (16 + 8)) = _ from s3, q_bind]
  show (_ → dc_bind (f_PngReader_isSmallLetter (nI (X / 2 ^ 24 % 256))) _ = _) ∧ (_ → dc_bind (f_PngReader_isSmallLetter (nI (X / 2 ^ 24 % 256))) _ = _)
  have hb : X / 2 ^ 24 % 256 < 256 := Nat.mod_lt _ (by omega)
  rw [smD_ok _ (by omega), q_bind]
  cases h1 : smL (X / 2 ^ 24 % 256)
  · refine ⟨fun u => ?_, fun _ => rfl⟩
    have := u.2.2.2
    rw [h1] at this
    exact Bool.noConfusion this
  · exact ⟨fun _ => rfl, fun u => absurd ⟨c0, c1, c2, h1⟩ u⟩
/-- the four letters as one number -/
theorem bg4_b {t : Nat → Nat} (hb : ∀ j, t j < 256) (p : Nat) : bg4 t p % 256 = t (p + 3) ∧ bg4 t p / 2 ^ 8 % 256 = t (p + 2) ∧ bg4 t p / 2 ^ 16 % 256 = t (p + 1) ∧ bg4 t p / 2 ^ 24 % 256 = t p := by
  have h0 := hb p
  have h1 := hb (p + 1)
  have h2 := hb (p + 2)
  have h3 := hb (p + 3)
  unfold bg4 bg2
  rw [show p + 2 + 1 = p + 3 by omega]
  omega
theorem by_eq {x : Int32} (h : q_by x = x) {c : Nat} (hc : c < 128) : x = nI c ↔ x.toBitVec.toNat % 256 = c := by
  constructor
  · intro e
    rw [e, pk_tn (by omega)]
    omega
  · intro e
    have e2 : q_by x = q_by (nI c) := q_by_ext (fun i hi => by
      rw [bt_nI _ _ (by omega), ← e, show (256 : Nat) = 2 ^ 8 from rfl, Nat.testBit_mod_two_pow, decide_eq_true hi, Bool.true_and]
      rfl)
    have e3 : ∀ c, c < 128 → q_by (nI c) = nI c := by decide +kernel
    rw [← h, e2, e3 c hc]
theorem named_L {K n q : Nat} (hq : q + 4 ≤ n) (hn : n ≤ 65536) {TM : Nat → Int32} {t : Nat → Nat} (htM : Tb n TM t) (hB : Bt n TM) {str : Nat → Int32} {sv : Nat → Nat} (hs : ∀ k, k < 4 → f_java_lang_String_charAtT 4 (nI k) str = some (nI (sv k), ()) ∧ sv k < 128) : ∀ (r k f : Nat), k + r = 4 → r < f → (∀ j, j < k → t (q + j) = sv j) → ((∀ j, j < 4 → t (q + j) = sv j) → f_M_namedT_L2 K 4 TM str (nI q) f (nI k) = some (.inr ())) ∧ (¬ (∀ j, j < 4 → t (q + j) = sv j) → f_M_namedT_L2 K 4 TM str (nI q) f (nI k) = some (.inl ())) := by
  intro r
  induction r with
  | zero =>
    intro k f hk hf hI
    obtain ⟨f, rfl⟩ : ∃ w, f = w + 1 := ⟨f - 1, by omega⟩
    have e : k = 4 := by omega
    subst e
    refine ⟨fun _ => ?_, fun h => absurd hI h⟩
    show (f_M_namedT_2 K 4 _ TM str (nI q) (nI 4)) = _
    unfold f_M_namedT_2
    rw [if_pos (show (4 : Int32) ≤ nI 4 by decide)]
  | succ r ih =>
    intro k f hk hf hI
    obtain ⟨f, rfl⟩ : ∃ w, f = w + 1 := ⟨f - 1, by omega⟩
    have e : f_M_namedT_L2 K 4 TM str (nI q) (f + 1) (nI k) = (f_M_namedT_2 K 4 (f_M_namedT_L2 K 4 TM str (nI q) f) TM str (nI q) (nI k)) := rfl
    rw [e]
    unfold f_M_namedT_2
    rw [if_neg (show ¬ (4 : Int32) ≤ nI k from nI_ge (b := 4) (by omega) (by omega)), nI_add, if_pos (q_inb (by omega) (by omega)), nI_clamp (by omega), (hs k (by omega)).1, q_bind, nI_1]
    have hbe := by_eq (hB (q + k) (by omega)) (hs k (by omega)).2
    have htk : (TM (q + k)).toBitVec.toNat % 256 = t (q + k) := htM.1 (q + k) (by omega)
    rw [htk] at hbe
    by_cases c : t (q + k) = sv k
    · rw [if_pos (hbe.mpr c)]
      exact ih (k + 1) f (by omega) (by omega) (fun j hj => by
        by_cases e : j = k
        · rw [e]; exact c
        · exact hI j (by omega))
    · rw [if_neg (fun z => c (hbe.mp z))]
      exact ⟨fun h => absurd (h k (by omega)) c, fun _ => rfl⟩
theorem named_ok {K n q a b c d : Nat} (hK : 10 < K) (hq : q + 4 ≤ n) (hn : n ≤ 65536) {TM : Nat → Int32} {t : Nat → Nat} (htM : Tb n TM t) (hB : Bt n TM) {str : Nat → Int32} (h0 : f_java_lang_String_charAtT 4 (nI 0) str = some (nI a, ())) (h1 : f_java_lang_String_charAtT 4 (nI 1) str = some (nI b, ())) (h2 : f_java_lang_String_charAtT 4 (nI 2) str = some (nI c, ())) (h3 : f_java_lang_String_charAtT 4 (nI 3) str = some (nI d, ())) (ha : a < 128) (hb : b < 128) (hc : c < 128) (hd : d < 128) : (nm t q a b c d → f_M_namedT K 4 (nI q) TM str = some (1, ())) ∧ (¬ nm t q a b c d → f_M_namedT K 4 (nI q) TM str = some (0, ())) := by
  have h := named_L (K := K) hq hn htM hB (str := str) (sv := fun k => if k = 0 then a else if k = 1 then b else if k = 2 then c else d) (fun k hk => by
    rcases (show k = 0 ∨ k = 1 ∨ k = 2 ∨ k = 3 by omega) with rfl | rfl | rfl | rfl
    · exact ⟨h0, ha⟩
    · exact ⟨h1, hb⟩
    · exact ⟨h2, hc⟩
    · exact ⟨h3, hd⟩) 4 0 K (by omega) (by omega) (fun j hj => absurd hj (Nat.not_lt_zero _))
  have hi : (∀ j, j < 4 → t (q + j) = (fun k => if k = 0 then a else if k = 1 then b else if k = 2 then c else d) j) ↔ nm t q a b c d := by
    constructor
    · intro z
      exact ⟨z 0 (by omega), z 1 (by omega), z 2 (by omega), z 3 (by omega)⟩
    · rintro ⟨z0, z1, z2, z3⟩ j hj
      rcases (show j = 0 ∨ j = 1 ∨ j = 2 ∨ j = 3 by omega) with rfl | rfl | rfl | rfl
      · exact z0
      · exact z1
      · exact z2
      · exact z3
  unfold f_M_namedT
  constructor
  · intro z
    rw [show f_M_namedT_L2 K 4 TM str (nI q) K 0 = _ from h.1 (hi.mpr z)]
    rfl
  · intro z
    rw [show f_M_namedT_L2 K 4 TM str (nI q) K 0 = _ from h.2 (fun y => z (hi.mp y))]
    rfl
theorem letters_M {K n q : Nat} (hn : n ≤ 65536) {TM : Nat → Int32} {t : Nat → Nat} (htM : Tb n TM t) {t_width : Int32} {t_height : Int32} {t_depth : Int32} {t_kind : Int32} {t_interlace : Int32} {t_colours : Int32} {t_clear : Int32} {t_dataSize : Int32} {t_bitAt : Int32} {t_rowBytes : Int32} {t_expected : Int32} {a_t_palette : Nat → Int32} {a_t_data : Nat → Int32} {a_t_rows : Nat → Int32} {a_t_lengths : Nat → Int32} {t_literals_all : Int32} {a_t_literals_counts : Nat → Int32} {a_t_literals_meanings : Nat → Int32} {t_distances_all : Int32} {a_t_distances_counts : Nat → Int32} {a_t_distances_meanings : Nat → Int32} {t_lengthCodes_all : Int32} {a_t_lengthCodes_counts : Nat → Int32} {a_t_lengthCodes_meanings : Nat → Int32} {a_t_clearKey : Nat → Int32} {a_t_points : Nat → Int32} {x1 : Int32} {x2 : Int32} {x3 : Int32} {x4 : Int32} {x5 : Int64} {x7 : Int32} : ∀ (r k f : Nat), k + r = 4 → r < f → q + k ≤ n → (∀ j, j < k → ltr (t (q + j)) = true) → Ex (q + 4 ≤ n ∧ ∀ j, j < 4 → ltr (t (q + j)) = true) (nI (q + 4)) (f_M_readPng_L62 K (nI n) t_width t_height t_depth t_kind t_interlace t_colours t_clear t_dataSize t_bitAt t_rowBytes t_expected TM a_t_palette a_t_data a_t_rows a_t_lengths t_literals_all a_t_literals_counts a_t_literals_meanings t_distances_all a_t_distances_counts a_t_distances_meanings t_lengthCodes_all a_t_lengthCodes_counts a_t_lengthCodes_meanings a_t_clearKey a_t_points x1 x2 x3 x4 x5 x7 f (nI (q + k)) (nI k)) := by
  intro r
  induction r with
  | zero =>
    intro k f hk hf hp hI
    obtain ⟨f, rfl⟩ : ∃ w, f = w + 1 := ⟨f - 1, by omega⟩
    have e : k = 4 := by omega
    subst e
    refine Ex.gq (Gq.yes ⟨hp, hI⟩ ?_)
    show (f_M_readPng_62 K _ (nI n) (nI (q + 4)) t_width t_height t_depth t_kind t_interlace t_colours t_clear t_dataSize t_bitAt t_rowBytes t_expected TM a_t_palette a_t_data a_t_rows a_t_lengths t_literals_all a_t_literals_counts a_t_literals_meanings t_distances_all a_t_distances_counts a_t_distances_meanings t_lengthCodes_all a_t_lengthCodes_counts a_t_lengthCodes_meanings a_t_clearKey a_t_points x1 x2 x3 x4 x5 x7 (nI 4)) = _
    unfold f_M_readPng_62
    rw [if_pos (show (4 : Int32) ≤ nI 4 by decide)]
  | succ r ih =>
    intro k f hk hf hp hI
    obtain ⟨f, rfl⟩ : ∃ w, f = w + 1 := ⟨f - 1, by omega⟩
    show Ex _ _ (f_M_readPng_62 K _ (nI n) (nI (q + k)) t_width t_height t_depth t_kind t_interlace t_colours t_clear t_dataSize t_bitAt t_rowBytes t_expected TM a_t_palette a_t_data a_t_rows a_t_lengths t_literals_all a_t_literals_counts a_t_literals_meanings t_distances_all a_t_distances_counts a_t_distances_meanings t_lengthCodes_all a_t_lengthCodes_counts a_t_lengthCodes_meanings a_t_clearKey a_t_points x1 x2 x3 x4 x5 x7 (nI k))
    unfold f_M_readPng_62
    rw [if_neg (show ¬ (4 : Int32) ≤ nI k from nI_ge (b := 4) (by omega) (by omega))]
    refine Ex.gq (Gq.try (nextM_ex hp hn htM) (fun u => ⟨_, rfl⟩) (fun h => by have := h.1; omega) (fun h1 => ?_))
    dsimp only
    rw [letM_ok _ (htM.2 _), q_bind]
    cases c : ltr (t (q + k))
    · show Gq _ _ (dc_try (f_M_can 0) _ _)
      rw [can0, q_tryR]
      refine Gq.no (fun h => ?_) ⟨_, rfl⟩
      have := h.2 k (by omega)
      rw [c] at this
      exact Bool.noConfusion this
    · show Gq _ _ (dc_try (f_M_can 1) _ _)
      rw [can1, q_tryL, nI_1, Nat.add_assoc]
      exact ih (k + 1) f (by omega) (by omega) (by omega) (fun j hj => by
        by_cases e : j = k
        · rw [e]; exact c
        · exact hI j (by omega))
