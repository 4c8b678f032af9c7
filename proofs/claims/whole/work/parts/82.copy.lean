/-! the pure half: bytes given, copies -/
theorem giveM_ex {made due : Nat} (hm : made ≤ due) (hdue : due ≤ 147456) (x : Int32) (RO : Nat → Int32) : Ex (made < due) ((), nI (made + 1), upd RO made (q_by x)) (f_M_give x (nI made) (nI due) RO) := by
  unfold f_M_give f_M_give_17
  constructor
  · intro h
    rw [if_neg (nI_ge h (by omega)), can1, q_tryL, if_pos (q_inb (by omega) (by omega)), nI_clamp (by omega), nI_1, q_by2]
  · intro h
    rw [if_pos (nI_le (by omega) (by omega)), can0, q_tryR]
    exact ⟨_, rfl⟩
/-- k bytes copied behind m from d back -/
def cpF (f : Nat → Int32) (d m : Nat) : Nat → Nat → Int32
  | 0 => f
  | k + 1 => upd (cpF f d m k) (m + k) (q_by (cpF f d m k (m + k - d)))
theorem cpF_agr {f g : Nat → Int32} {d m : Nat} (h : Agr m f g) (h1 : 1 ≤ d) (hd : d ≤ m) : ∀ k, Agr (m + k) (cpF f d m k) (cpF g d m k) := by
  intro k
  induction k with
  | zero => exact h
  | succ k ih =>
    intro j hj
    show upd _ _ _ j = upd _ _ _ j
    by_cases e : j = m + k
    · rw [e, upd_at, upd_at, ih _ (by omega)]
    · rw [upd_ne _ _ e, upd_ne _ _ e]
      exact ih j (by omega)
theorem copyD_L {K N m d len : Nat} (h1 : 1 ≤ d) (hd : d ≤ m) (hm : m + len ≤ 147456) {f : Nat → Int32} {t_due : Int32} {t_in_at : Int32} {t_in_stop : Int32} {t_in_bitStore : Int32} {t_in_bitsHeld : Int32} {a_t_in_bytes : Nat → Int32} {a_t_distances_counts : Nat → Int32} {a_t_distances_meanings : Nat → Int32} : ∀ (r k q : Nat), k + r = len → r < q → (f_Inflater_takeCopy_L120 K N t_due t_in_at t_in_stop t_in_bitStore t_in_bitsHeld a_t_in_bytes a_t_distances_counts a_t_distances_meanings (nI len) (nI d) q (nI (m + k)) (cpF f d m k) (nI k)) = some (nI (m + len), cpF f d m len) := by
  intro r
  induction r with
  | zero =>
    intro k q hk hq
    obtain ⟨q, rfl⟩ : ∃ w, q = w + 1 := ⟨q - 1, by omega⟩
    have e : k = len := by omega
    subst e
    show (f_Inflater_takeCopy_120 K N _ (nI (m + k)) t_due t_in_at t_in_stop t_in_bitStore t_in_bitsHeld a_t_in_bytes a_t_distances_counts a_t_distances_meanings (cpF f d m k) (nI k) (nI d) (nI k)) = _
    unfold f_Inflater_takeCopy_120
    rw [if_pos (nI_le (by omega) (by omega))]
  | succ r ih =>
    intro k q hk hq
    obtain ⟨q, rfl⟩ : ∃ w, q = w + 1 := ⟨q - 1, by omega⟩
    show (f_Inflater_takeCopy_120 K N _ (nI (m + k)) t_due t_in_at t_in_stop t_in_bitStore t_in_bitsHeld a_t_in_bytes a_t_distances_counts a_t_distances_meanings (cpF f d m k) (nI len) (nI d) (nI k)) = _
    unfold f_Inflater_takeCopy_120
    rw [if_neg (nI_ge (by omega) (by omega)), pk_sub (by omega), if_pos (q_inb (by omega) (by omega)), if_pos (q_inb (by omega) (by omega)), nI_clamp (by omega), nI_clamp (by omega), q_by1, nI_1, nI_1]
    exact ih (k + 1) q (by omega) (by omega)
theorem copyM_L {K m d len due : Nat} (h1 : 1 ≤ d) (hd : d ≤ m) (hm : m ≤ due) (hdue : due ≤ 147456) (hlen : len ≤ 258) {f : Nat → Int32} {t_dataSize : Int32} {t_bitAt : Int32} {a_t_data : Nat → Int32} {a_t_literals_counts : Nat → Int32} {a_t_literals_meanings : Nat → Int32} {a_t_distances_counts : Nat → Int32} {a_t_distances_meanings : Nat → Int32} : ∀ (r k q : Nat), k + r = len → r < q → m + k ≤ due → Ex (m + len ≤ due) (nI (m + len), cpF f d m len) (f_M_block_L194 K t_dataSize t_bitAt (nI due) a_t_data a_t_literals_counts a_t_literals_meanings a_t_distances_counts a_t_distances_meanings (nI len) (nI d) q (nI (m + k)) (cpF f d m k) (nI k)) := by
  intro r
  induction r with
  | zero =>
    intro k q hk hq hb
    obtain ⟨q, rfl⟩ : ∃ w, q = w + 1 := ⟨q - 1, by omega⟩
    have e : k = len := by omega
    subst e
    refine Ex.gq (Gq.yes hb ?_)
    show (f_M_block_194 K _ t_dataSize t_bitAt (nI (m + k)) (nI due) a_t_data a_t_literals_counts a_t_literals_meanings (cpF f d m k) a_t_distances_counts a_t_distances_meanings (nI k) (nI d) (nI k)) = _
    unfold f_M_block_194
    rw [if_pos (nI_le (by omega) (by omega))]
  | succ r ih =>
    intro k q hk hq hb
    obtain ⟨q, rfl⟩ : ∃ w, q = w + 1 := ⟨q - 1, by omega⟩
    show Ex _ _ (f_M_block_194 K _ t_dataSize t_bitAt (nI (m + k)) (nI due) a_t_data a_t_literals_counts a_t_literals_meanings (cpF f d m k) a_t_distances_counts a_t_distances_meanings (nI len) (nI d) (nI k))
    unfold f_M_block_194
    rw [if_neg (nI_ge (by omega) (by omega)), pk_sub (by omega), if_pos (q_inb (by omega) (by omega)), nI_clamp (by omega)]
    refine Ex.gq (Gq.try (giveM_ex hb hdue _ _) (fun u => ⟨_, rfl⟩) (fun h => by omega) (fun h2 => ?_))
    rw [nI_1 k]
    exact ih (k + 1) q (by omega) (by omega) (by omega)
/-! lengths and distances told -/
theorem lsum : ∀ j, j < 28 → lbs.getD j 0 + 2 ^ lbN (257 + j) = (if j = 27 then 259 else lbs.getD (j + 1) 0) := by decide +kernel
theorem dsum : ∀ j, j < 29 → dbs.getD j 0 + 2 ^ dbN j = dbs.getD (j + 1) 0 := by decide +kernel
theorem lbi_eq : ∀ j, j < 29 → lbi.getD j 0 = lbN (257 + j) := by decide +kernel
theorem dbi_eq : ∀ j, j < 30 → dbi.getD j 0 = dbN j := by decide +kernel
theorem dbs_pos : ∀ j, j < 30 → 1 ≤ dbs.getD j 0 ∧ dbs.getD j 0 + 2 ^ dbN j ≤ 32769 ∧ dbN j ≤ 13 := by decide +kernel
theorem lbs_le : ∀ j, j < 29 → 3 ≤ lbs.getD j 0 ∧ lbs.getD j 0 + 2 ^ lbN (257 + j) ≤ 259 ∧ lbN (257 + j) ≤ 5 := by decide +kernel
theorem one_sh : ∀ n, n < 16 → (1 : Int32) <<< (nI n &&& 31) = nI (2 ^ n) := by decide +kernel
theorem len_L {K c : Nat} (hc : c < 28) {t_dataSize : Int32} {t_bitAt : Int32} {t_rowBytes : Int32} {t_expected : Int32} {a_t_data : Nat → Int32} {a_t_literals_counts : Nat → Int32} {a_t_literals_meanings : Nat → Int32} {a_t_rows : Nat → Int32} {a_t_distances_counts : Nat → Int32} {a_t_distances_meanings : Nat → Int32} : ∀ (r k q : Nat), k + r = c → r < q → (f_M_block_L54 K t_dataSize t_bitAt t_rowBytes t_expected a_t_data a_t_literals_counts a_t_literals_meanings a_t_rows a_t_distances_counts a_t_distances_meanings (nI (257 + c)) q (nI (lbs.getD k 0)) (nI (257 + k))) = some (nI (lbs.getD c 0)) := by
  intro r
  induction r with
  | zero =>
    intro k q hk hq
    obtain ⟨q, rfl⟩ : ∃ w, q = w + 1 := ⟨q - 1, by omega⟩
    have e : k = c := by omega
    subst e
    show (f_M_block_54 K _ t_dataSize t_bitAt t_rowBytes t_expected a_t_data a_t_literals_counts a_t_literals_meanings a_t_rows a_t_distances_counts a_t_distances_meanings (nI (257 + k)) (nI (lbs.getD k 0)) (nI (257 + k))) = _
    unfold f_M_block_54
    rw [if_pos (nI_le (by omega) (by omega))]
  | succ r ih =>
    intro k q hk hq
    obtain ⟨q, rfl⟩ : ∃ w, q = w + 1 := ⟨q - 1, by omega⟩
    show (f_M_block_54 K _ t_dataSize t_bitAt t_rowBytes t_expected a_t_data a_t_literals_counts a_t_literals_meanings a_t_rows a_t_distances_counts a_t_distances_meanings (nI (257 + c)) (nI (lbs.getD k 0)) (nI (257 + k))) = _
    unfold f_M_block_54
    have h := lsum k (by omega)
    rw [if_neg (by omega)] at h
    have hl := lbN_ok (257 + k) (by omega)
    rw [if_neg (nI_ge (by omega) (by omega)), hl.1, q_bind, one_sh _ (by omega), nI_add, h, nI_1]
    exact ih (k + 1) q (by omega) (by omega)
/-- of 285 the sum isn't asked for -/
theorem len_28 {K : Nat} {t_dataSize : Int32} {t_bitAt : Int32} {t_rowBytes : Int32} {t_expected : Int32} {a_t_data : Nat → Int32} {a_t_literals_counts : Nat → Int32} {a_t_literals_meanings : Nat → Int32} {a_t_rows : Nat → Int32} {a_t_distances_counts : Nat → Int32} {a_t_distances_meanings : Nat → Int32} : ∀ (r k q : Nat) (x : Int32), k + r = 28 → r < q → ∃ v, (f_M_block_L54 K t_dataSize t_bitAt t_rowBytes t_expected a_t_data a_t_literals_counts a_t_literals_meanings a_t_rows a_t_distances_counts a_t_distances_meanings (nI 285) q x (nI (257 + k))) = some v := by
  intro r
  induction r with
  | zero =>
    intro k q x hk hq
    obtain ⟨q, rfl⟩ : ∃ w, q = w + 1 := ⟨q - 1, by omega⟩
    have e : k = 28 := by omega
    subst e
    refine ⟨x, ?_⟩
    show (f_M_block_54 K _ t_dataSize t_bitAt t_rowBytes t_expected a_t_data a_t_literals_counts a_t_literals_meanings a_t_rows a_t_distances_counts a_t_distances_meanings (nI 285) x (nI (257 + 28))) = _
    unfold f_M_block_54
    rw [if_pos (nI_le (by omega) (by omega))]
  | succ r ih =>
    intro k q x hk hq
    obtain ⟨q, rfl⟩ : ∃ w, q = w + 1 := ⟨q - 1, by omega⟩
    have hl := lbN_ok (257 + k) (by omega)
    obtain ⟨v, hv⟩ := ih (k + 1) q (x + nI (2 ^ lbN (257 + k))) (by omega) (by omega)
    refine ⟨v, ?_⟩
    rw [← hv]
    show (f_M_block_54 K _ t_dataSize t_bitAt t_rowBytes t_expected a_t_data a_t_literals_counts a_t_literals_meanings a_t_rows a_t_distances_counts a_t_distances_meanings (nI 285) x (nI (257 + k))) = _
    unfold f_M_block_54
    rw [if_neg (nI_ge (by omega) (by omega)), hl.1, q_bind, one_sh _ (by omega), nI_1]
    rfl
theorem dist_L {K c : Nat} (hc : c < 30) {t_dataSize : Int32} {t_bitAt : Int32} {t_rowBytes : Int32} {t_expected : Int32} {a_t_data : Nat → Int32} {a_t_literals_counts : Nat → Int32} {a_t_literals_meanings : Nat → Int32} {a_t_rows : Nat → Int32} {a_t_distances_counts : Nat → Int32} {a_t_distances_meanings : Nat → Int32} {x2 : Int32} : ∀ (r k q : Nat), k + r = c → r < q → (f_M_block_L128 K t_dataSize t_bitAt t_rowBytes t_expected a_t_data a_t_literals_counts a_t_literals_meanings a_t_rows a_t_distances_counts a_t_distances_meanings x2 (nI c) q (nI (dbs.getD k 0)) (nI k)) = some (nI (dbs.getD c 0)) := by
  intro r
  induction r with
  | zero =>
    intro k q hk hq
    obtain ⟨q, rfl⟩ : ∃ w, q = w + 1 := ⟨q - 1, by omega⟩
    have e : k = c := by omega
    subst e
    show (f_M_block_128 K _ t_dataSize t_bitAt t_rowBytes t_expected a_t_data a_t_literals_counts a_t_literals_meanings a_t_rows a_t_distances_counts a_t_distances_meanings x2 (nI k) (nI (dbs.getD k 0)) (nI k)) = _
    unfold f_M_block_128
    rw [if_pos (nI_le (by omega) (by omega))]
  | succ r ih =>
    intro k q hk hq
    obtain ⟨q, rfl⟩ : ∃ w, q = w + 1 := ⟨q - 1, by omega⟩
    show (f_M_block_128 K _ t_dataSize t_bitAt t_rowBytes t_expected a_t_data a_t_literals_counts a_t_literals_meanings a_t_rows a_t_distances_counts a_t_distances_meanings x2 (nI c) (nI (dbs.getD k 0)) (nI k)) = _
    unfold f_M_block_128
    have hl := dbN_ok k (by omega)
    have hp := dbs_pos k (by omega)
    rw [if_neg (nI_ge (by omega) (by omega)), hl.1, q_bind, one_sh _ (by omega), nI_add, dsum k (by omega), nI_1]
    exact ih (k + 1) q (by omega) (by omega)
