/-! the pure half: a PNG file's tables -/
theorem one_sh2 : ∀ n, n < 31 → (1 : Int32) <<< (nI n &&& 31) = nI (2 ^ n) := by decide +kernel
def plO (kind dep n0 : Nat) : Prop := 3 ≤ n0 ∧ n0 ≤ 768 ∧ n0 % 3 = 0 ∧ (kind = 3 → n0 / 3 ≤ 2 ^ dep)
theorem palD_L2 {K n c q dep kind : Nat} (hn : n ≤ 65536) (hc : c ≤ 256) {T : Nat → Int32} {t : Nat → Nat} (ht : Tf q n T t) (hq : q + 3 * c ≤ n) {t_hasTransparency : Int32} {t_stage : Int32} {t_partLength : Int32} : ∀ (r k f : Nat) (tab : Nat → Int32), k + r = c → r < f → (∀ j, j < k → tab j = gclr t (q + 3 * j)) → ∃ tab', (f_PngReader_takePalette_L128 K (nI c) t_hasTransparency (nI dep) (nI kind) t_stage t_partLength (nI n) T f (nI (q + 3 * k)) tab (nI k)) = some (.inl (nI (q + 3 * c), tab')) ∧ ∀ j, j < c → tab' j = gclr t (q + 3 * j) := by
  intro r
  induction r with
  | zero =>
    intro k f tab hk hf hI
    obtain ⟨f, rfl⟩ : ∃ w, f = w + 1 := ⟨f - 1, by omega⟩
    have e : k = c := by omega
    subst e
    refine ⟨tab, ?_, hI⟩
    show (f_PngReader_takePalette_128 K _ (nI k) t_hasTransparency (nI dep) (nI kind) t_stage t_partLength (nI (q + 3 * k)) (nI n) T tab (nI k)) = _
    unfold f_PngReader_takePalette_128
    rw [if_pos (nI_le (by omega) (by omega))]
  | succ r ih =>
    intro k f tab hk hf hI
    obtain ⟨f, rfl⟩ : ∃ w, f = w + 1 := ⟨f - 1, by omega⟩
    obtain ⟨tab', h1, h2⟩ := ih (k + 1) f (upd tab k (gclr t (q + 3 * k))) (by omega) (by omega) (fun j hj => by
      by_cases e : j = k
      · rw [e, upd_at]
      · rw [upd_ne _ _ e]; exact hI j (by omega))
    refine ⟨tab', ?_, h2⟩
    rw [← h1]
    show (f_PngReader_takePalette_128 K _ (nI c) t_hasTransparency (nI dep) (nI kind) t_stage t_partLength (nI (q + 3 * k)) (nI n) T tab (nI k)) = _
    unfold f_PngReader_takePalette_128
    rw [if_neg (nI_ge (by omega) (by omega)), (big2_ex (show q + 3 * k ≤ n by omega) hn (ht.mono (by omega))).1 (by omega), q_tryL, (next_exF (show q + 3 * k + 2 ≤ n by omega) hn (ht.mono (by omega))).1 (by omega), q_tryL, if_pos (q_inb (by omega) (by omega)), nI_clamp (by omega), nI_1, tab_eq, show q + 3 * (k + 1) = q + 3 * k + 2 + 1 by omega]
    rfl
theorem plt_D {K n c q dep kind s n0 : Nat} {tr : Bool} (hK : 1000 < K) (hn : n ≤ 65536) {T : Nat → Int32} {t : Nat → Nat} (ht : Tf q n T t) (hq : q + n0 ≤ n) (hs : s ≤ 2) (hc : c ≤ 256) (hk : kind < 256) (hdep : dep ≤ 16) (pal : Nat → Int32) : Gq (s = 0 ∧ c = 0 ∧ tr = false ∧ kind ≠ 0 ∧ kind ≠ 4 ∧ plO kind dep n0) (fun m => ∃ pal', m = some (.inl ((), nI (n0 / 3), nI (q + n0), pal')) ∧ ∀ j, j < n0 / 3 → pal' j = gclr t (q + 3 * j)) (f_PngReader_takePalette K (nI c) (b2 tr) (nI dep) (nI kind) (nI s) (nI n0) (nI q) (nI n) T pal) := by
  unfold f_PngReader_takePalette f_PngReader_takePalette_25 f_PngReader_takePalette_26 f_PngReader_takePalette_48 f_PngReader_takePalette_49 f_PngReader_takePalette_83 f_PngReader_takePalette_84 f_PngReader_takePalette_118
  by_cases c1 : s = 0
  rotate_left
  · rw [if_neg (nI_ne0 (by omega) (by omega)), need0, q_tryR]
    exact Gq.no (fun h => c1 h.1) ⟨_, rfl⟩
  rw [if_pos (show nI s = 0 by rw [c1]; rfl)]
  by_cases c2 : c = 0
  rotate_left
  · rw [if_neg (nI_ne0 (by omega) (by omega)), need0, q_tryR]
    exact Gq.no (fun h => c2 h.2.1) ⟨_, rfl⟩
  rw [if_pos (show nI c = 0 by rw [c2]; rfl)]
  cases tr
  rotate_left
  · rw [if_neg (show ¬ b2 true = 0 by decide), need0, q_tryR]
    exact Gq.no (fun h => Bool.noConfusion h.2.2.1) ⟨_, rfl⟩
  rw [if_pos (show b2 false = 0 from rfl), need1, q_tryL]
  have e0 : (nI kind = 0) = (kind = 0) := nIc (b := 0) hk (by omega)
  have e3 : (nI kind = 3) = (kind = 3) := nIc (b := 3) hk (by omega)
  have e4 : (nI kind = 4) = (kind = 4) := nIc (b := 4) hk (by omega)
  simp only [e0, e3, e4]
  by_cases c3 : kind = 0
  · rw [if_pos c3, need0, q_tryR]
    exact Gq.no (fun h => h.2.2.2.1 c3) ⟨_, rfl⟩
  rw [if_neg c3]
  by_cases c4 : kind = 4
  · rw [if_pos c4, need0, q_tryR]
    exact Gq.no (fun h => h.2.2.2.2.1 c4) ⟨_, rfl⟩
  rw [if_neg c4, q_tryL]
  by_cases c5 : n0 < 3
  · rw [if_pos (show nI n0 < 3 from nI_lt (b := 3) c5 (by omega)), need0, q_tryR]
    exact Gq.no (fun h => by have := h.2.2.2.2.2.1; omega) ⟨_, rfl⟩
  rw [if_neg (show ¬ nI n0 < 3 from nI_nlt (b := 3) (by omega) (by omega))]
  by_cases c6 : 768 < n0
  · rw [if_pos (show (768 : Int32) < nI n0 from nI_lt (a := 768) c6 (by omega)), need0, q_tryR]
    exact Gq.no (fun h => by have := h.2.2.2.2.2.2.1; omega) ⟨_, rfl⟩
  rw [if_neg (show ¬ (768 : Int32) < nI n0 from nI_nlt (a := 768) (by omega) (by omega)), show nI n0 - nI n0 / 3 * 3 = nI (n0 % 3) from pk_rem (d := 3) (by omega) (by omega) (by omega), show nI n0 / 3 = nI (n0 / 3) from pk_div (d := 3) (by omega) (by omega) (by omega)]
  by_cases c7 : n0 % 3 = 0
  rotate_left
  · rw [if_neg (nI_ne0 (by omega) (by omega)), need0, q_tryR]
    exact Gq.no (fun h => c7 h.2.2.2.2.2.2.2.1) ⟨_, rfl⟩
  rw [if_pos (show nI (n0 % 3) = 0 by rw [c7]; rfl), q_tryL, one_sh2 dep (by omega)]
  have hp16 : 2 ^ dep ≤ 2 ^ 16 := Nat.pow_le_pow_right (by omega) hdep
  obtain ⟨pal', h1, h2⟩ := palD_L2 (K := K) (c := n0 / 3) (dep := dep) (kind := kind) hn (by omega) ht (by omega) (t_hasTransparency := b2 false) (t_stage := nI s) (t_partLength := nI n0) (n0 / 3) 0 K pal (by omega) (by omega) (fun j hj => absurd hj (Nat.not_lt_zero _))
  have h1' : (f_PngReader_takePalette_L128 K (nI (n0 / 3)) (b2 false) (nI dep) (nI kind) (nI s) (nI n0) (nI n) T K (nI q) pal 0) = _ := h1
  have hfin : (kind = 3 → n0 / 3 ≤ 2 ^ dep) → Gq (s = 0 ∧ c = 0 ∧ True ∧ kind ≠ 0 ∧ kind ≠ 4 ∧ plO kind dep n0) (fun m => ∃ pal', m = some (.inl ((), nI (n0 / 3), nI (q + n0), pal')) ∧ ∀ j, j < n0 / 3 → pal' j = gclr t (q + 3 * j)) (f_PngReader_takePalette_123 K (nI (n0 / 3)) (b2 false) (nI dep) (nI kind) (nI s) (nI n0) (nI q) (nI n) T pal 1) := by
    intro hk3
    unfold f_PngReader_takePalette_123
    rw [need1, q_tryL, h1', q_bind]
    refine Gq.yes ⟨c1, c2, trivial, c3, c4, by omega, by omega, c7, hk3⟩ ⟨pal', ?_, h2⟩
    show some (Sum.inl ((), nI (n0 / 3), nI (q + 3 * (n0 / 3)), pal')) = _
    rw [show 3 * (n0 / 3) = n0 by omega]
  by_cases c8 : kind = 3
  · rw [if_pos c8]
    by_cases c9 : n0 / 3 ≤ 2 ^ dep
    · rw [if_neg (nI_nlt (by omega) (by omega))]
      exact hfin (fun _ => c9)
    · rw [if_pos (nI_lt (by omega) (by omega))]
      unfold f_PngReader_takePalette_123
      rw [need0, q_tryR]
      exact Gq.no (fun h => c9 (h.2.2.2.2.2.2.2.2 c8)) ⟨_, rfl⟩
  · rw [if_neg c8]
    exact hfin (fun h => absurd h c8)
theorem tabM_L2 {K n c q dep kind : Nat} (hn : n ≤ 65536) (hc : c ≤ 256) {TM : Nat → Int32} {t : Nat → Nat} (ht : Tb n TM t) (hq : q + 3 * c ≤ n) : ∀ (r k f : Nat) (tab : Nat → Int32), k + r = c → r < f → (∀ j, j < k → tab j = gclr t (q + 3 * j)) → ∃ tab', (f_M_table_L70 K (nI dep) (nI kind) (nI c) TM (nI q) f tab (nI k)) = some tab' ∧ ∀ j, j < c → tab' j = gclr t (q + 3 * j) := by
  intro r
  induction r with
  | zero =>
    intro k f tab hk hf hI
    obtain ⟨f, rfl⟩ : ∃ w, f = w + 1 := ⟨f - 1, by omega⟩
    have e : k = c := by omega
    subst e
    refine ⟨tab, ?_, hI⟩
    show (f_M_table_70 K _ (nI dep) (nI kind) (nI k) TM tab (nI q) (nI k)) = _
    unfold f_M_table_70
    rw [if_pos (nI_le (by omega) (by omega))]
  | succ r ih =>
    intro k f tab hk hf hI
    obtain ⟨f, rfl⟩ : ∃ w, f = w + 1 := ⟨f - 1, by omega⟩
    obtain ⟨tab', h1, h2⟩ := ih (k + 1) f (upd tab k (gclr t (q + 3 * k))) (by omega) (by omega) (fun j hj => by
      by_cases e : j = k
      · rw [e, upd_at]
      · rw [upd_ne _ _ e]; exact hI j (by omega))
    refine ⟨tab', ?_, h2⟩
    rw [← h1]
    show (f_M_table_70 K _ (nI dep) (nI kind) (nI c) TM tab (nI q) (nI k)) = _
    unfold f_M_table_70
    rw [if_neg (nI_ge (by omega) (by omega)), show (3 : Int32) * nI k = nI (3 * k) from pk_mul 3 k, nI_add, show nI (q + 3 * k) + 1 = nI (q + 3 * k + 1) from nI_add _ 1, show nI (q + 3 * k) + 2 = nI (q + 3 * k + 2) from nI_add _ 2, if_pos (q_inb (by omega) (by omega)), if_pos (q_inb (by omega) (by omega)), if_pos (q_inb (by omega) (by omega)), if_pos (q_inb (by omega) (by omega)), nI_clamp (show q + 3 * k < 2 ^ 31 by omega), nI_clamp (show q + 3 * k + 1 < 2 ^ 31 by omega), nI_clamp (show q + 3 * k + 2 < 2 ^ 31 by omega), nI_clamp (show k < 2 ^ 31 by omega), tv_ok, tv_ok, tv_ok, ht.1 _ (by omega), ht.1 _ (by omega), ht.1 _ (by omega), nI_1]
    rfl
theorem l_lt3 {a b : Nat} (ha : a < 2 ^ 31) (hb : b < 2 ^ 31) : lg_cmp (lN a) (lN b) < 0 ↔ a < b := by
  rw [cmp_lt, pk_lLT (by omega) (by omega)]
theorem l_gt3 {a b : Nat} (ha : a < 2 ^ 31) (hb : b < 2 ^ 31) : 0 < lg_cmp (lN a) (lN b) ↔ b < a := by
  rw [cmp_gt, pk_lLT (by omega) (by omega)]
theorem plt_M {K n q dep kind n0 : Nat} (hK : 1000 < K) (hn : n ≤ 65536) {TM : Nat → Int32} {t : Nat → Nat} (ht : Tb n TM t) (hq : q + n0 ≤ n) (hk : kind < 256) (hdep : dep ≤ 16) (C : Int32) (pal : Nat → Int32) : Gq (plO kind dep n0) (fun m => ∃ pal', m = some (.inl ((), nI (n0 / 3), pal')) ∧ ∀ j, j < n0 / 3 → pal' j = gclr t (q + 3 * j)) (f_M_table K (lN n0) (nI q) (nI dep) (nI kind) C TM pal) := by
  unfold f_M_table f_M_table_51 f_M_table_55
  have e3 : (nI kind = 3) = (kind = 3) := nIc (b := 3) hk (by omega)
  have hno : Th 3 (f_M_table_56 K (nI dep) (nI kind) C TM pal (lN n0) (nI q) 0) := by
    unfold f_M_table_56
    rw [can0, q_tryR]
    exact ⟨_, rfl⟩
  simp only [e3]
  by_cases c5 : n0 < 3
  · rw [if_pos (show lg_cmp (lN n0) 3 < 0 from (l_lt3 (b := 3) (by omega) (by omega)).mpr c5)]
    exact Gq.no (fun h => by have := h.1; omega) hno
  rw [if_neg (show ¬ lg_cmp (lN n0) 3 < 0 from fun z => c5 ((l_lt3 (b := 3) (by omega) (by omega)).mp z))]
  by_cases c6 : 768 < n0
  · rw [if_pos (show 0 < lg_cmp (lN n0) 768 from (l_gt3 (b := 768) (by omega) (by omega)).mpr c6)]
    exact Gq.no (fun h => by have := h.2.1; omega) hno
  rw [if_neg (show ¬ 0 < lg_cmp (lN n0) 768 from fun z => c6 ((l_gt3 (b := 768) (by omega) (by omega)).mp z)), show lN n0 - lN n0 / 3 * 3 = lN (n0 % 3) from pk_lRem (b := 3) (by omega) (by omega) (by omega), show lN n0 / 3 = lN (n0 / 3) from pk_lDiv (b := 3) (by omega) (by omega) (by omega)]
  by_cases c7 : n0 % 3 = 0
  rotate_left
  · rw [if_neg (show ¬ lg_cmp (lN (n0 % 3)) 0 = 0 from fun z => c7 ((l_eq (b := 0) (by omega) (by omega)).mp z))]
    exact Gq.no (fun h => c7 h.2.2.1) hno
  have hp16 : 2 ^ dep ≤ 2 ^ 16 := Nat.pow_le_pow_right (by omega) hdep
  rw [if_pos (show lg_cmp (lN (n0 % 3)) 0 = 0 from (l_eq (b := 0) (by omega) (by omega)).mpr c7), one_sh2 dep (by omega), nI_l (by omega)]
  have hfin : (kind = 3 → n0 / 3 ≤ 2 ^ dep) → Gq (plO kind dep n0) (fun m => ∃ pal', m = some (.inl ((), nI (n0 / 3), pal')) ∧ ∀ j, j < n0 / 3 → pal' j = gclr t (q + 3 * j)) (f_M_table_56 K (nI dep) (nI kind) C TM pal (lN n0) (nI q) 1) := by
    intro hk3
    unfold f_M_table_56
    obtain ⟨pal', h1, h2⟩ := tabM_L2 (K := K) (c := n0 / 3) (dep := dep) (kind := kind) hn (by omega) ht (show q + 3 * (n0 / 3) ≤ n by omega) (n0 / 3) 0 K pal (by omega) (by omega) (fun j hj => absurd hj (Nat.not_lt_zero _))
    have h1' : (f_M_table_L70 K (nI dep) (nI kind) (nI (n0 / 3)) TM (nI q) K pal 0) = _ := h1
    rw [can1, q_tryL, lN_32 (by omega), show nI n0 / 3 = nI (n0 / 3) from pk_div (d := 3) (by omega) (by omega) (by omega), h1', q_bind]
    exact Gq.yes ⟨by omega, by omega, c7, hk3⟩ ⟨pal', rfl, h2⟩
  by_cases c8 : kind = 3
  · rw [if_pos c8]
    by_cases c9 : n0 / 3 ≤ 2 ^ dep
    · rw [if_neg (fun z => by have := (l_gt3 (by omega) (by omega)).mp z; omega)]
      exact hfin (fun _ => c9)
    · rw [if_pos ((l_gt3 (by omega) (by omega)).mpr (by omega))]
      exact Gq.no (fun h => c9 (h.2.2.2 c8)) hno
  · rw [if_neg c8]
    exact hfin (fun h => absurd h c8)
/-! transparency -/
def nn (kind : Nat) : Nat := if kind = 0 then 1 else 3
def trO (kind dep c n0 q : Nat) (t : Nat → Nat) : Prop := if kind = 3 then 1 ≤ n0 ∧ n0 ≤ c else n0 = 2 * nn kind ∧ ∀ k, k < nn kind → bg2 t (q + 2 * k) < 2 ^ dep
def alp (t : Nat → Nat) (q : Nat) (j : Nat) (x : Int32) : Int32 := (x &&& (-256)) ||| nI (t (q + j))
def keyT (t : Nat → Nat) (q : Nat) (j : Nat) (_ : Int32) : Int32 := nI (bg2 t (q + 2 * j))
theorem alpD_L {K n c q dep kind n0 : Nat} (hn : n ≤ 65536) (hc : n0 ≤ 256) {T : Nat → Int32} {t : Nat → Nat} (ht : Tf q n T t) (hq : q + n0 ≤ n) (pal : Nat → Int32) {t_hasTransparency : Int32} {t_stage : Int32} {a_t_key : Nat → Int32} : ∀ (r k f : Nat), k + r = n0 → r < f → (f_PngReader_takeTransparency_L95 K (nI c) t_hasTransparency (nI dep) (nI kind) t_stage (nI n0) (nI n) T a_t_key f (mp (alp t q) pal k) (nI (q + k)) (nI k)) = some (.inl (mp (alp t q) pal n0, nI (q + n0))) := by
  intro r
  induction r with
  | zero =>
    intro k f hk hf
    obtain ⟨f, rfl⟩ : ∃ w, f = w + 1 := ⟨f - 1, by omega⟩
    have e : k = n0 := by omega
    subst e
    show (f_PngReader_takeTransparency_95 K _ (nI c) t_hasTransparency (nI dep) (nI kind) t_stage (nI k) (mp (alp t q) pal k) (nI (q + k)) (nI n) T a_t_key (nI k)) = _
    unfold f_PngReader_takeTransparency_95
    rw [if_pos (nI_le (by omega) (by omega))]
  | succ r ih =>
    intro k f hk hf
    obtain ⟨f, rfl⟩ : ∃ w, f = w + 1 := ⟨f - 1, by omega⟩
    show (f_PngReader_takeTransparency_95 K _ (nI c) t_hasTransparency (nI dep) (nI kind) t_stage (nI n0) (mp (alp t q) pal k) (nI (q + k)) (nI n) T a_t_key (nI k)) = _
    unfold f_PngReader_takeTransparency_95
    rw [if_neg (nI_ge (by omega) (by omega)), if_pos (q_inb (by omega) (by omega)), (next_exF (show q + k ≤ n by omega) hn (ht.mono (by omega))).1 (by omega), q_tryL, if_pos (q_inb (by omega) (by omega)), nI_clamp (by omega), mp_at, nI_1]
    show (f_PngReader_takeTransparency_L95 K (nI c) t_hasTransparency (nI dep) (nI kind) t_stage (nI n0) (nI n) T a_t_key f (upd (mp (alp t q) pal k) k (alp t q k (pal k))) (nI (q + k + 1)) (nI (k + 1))) = _
    rw [mp_s]
    exact ih (k + 1) f (by omega) (by omega)
theorem alpM_L {K n c q dep kind n0 : Nat} (hn : n ≤ 65536) (hc : n0 ≤ 256) {TM : Nat → Int32} {t : Nat → Nat} (ht : Tb n TM t) (hq : q + n0 ≤ n) (pal : Nat → Int32) {t_clear : Int32} {a_t_clearKey : Nat → Int32} : ∀ (r k f : Nat), k + r = n0 → r < f → (f_M_transparent_L32 K (nI dep) (nI kind) (nI c) t_clear TM a_t_clearKey (nI n0) (nI q) f (mp (alp t q) pal k) (nI k)) = some (mp (alp t q) pal n0) := by
  intro r
  induction r with
  | zero =>
    intro k f hk hf
    obtain ⟨f, rfl⟩ : ∃ w, f = w + 1 := ⟨f - 1, by omega⟩
    have e : k = n0 := by omega
    subst e
    show (f_M_transparent_32 K _ (nI dep) (nI kind) (nI c) t_clear (mp (alp t q) pal k) TM a_t_clearKey (nI k) (nI q) (nI k)) = _
    unfold f_M_transparent_32
    rw [if_pos (nI_le (by omega) (by omega))]
  | succ r ih =>
    intro k f hk hf
    obtain ⟨f, rfl⟩ : ∃ w, f = w + 1 := ⟨f - 1, by omega⟩
    show (f_M_transparent_32 K _ (nI dep) (nI kind) (nI c) t_clear (mp (alp t q) pal k) TM a_t_clearKey (nI n0) (nI q) (nI k)) = _
    unfold f_M_transparent_32
    rw [if_neg (nI_ge (by omega) (by omega)), if_pos (q_inb (by omega) (by omega)), nI_add, if_pos (q_inb (by omega) (by omega)), if_pos (q_inb (by omega) (by omega)), nI_clamp (show k < 2 ^ 31 by omega), nI_clamp (show q + k < 2 ^ 31 by omega), tv_ok, ht.1 _ (by omega), mp_at, nI_1]
    show (f_M_transparent_L32 K (nI dep) (nI kind) (nI c) t_clear TM a_t_clearKey (nI n0) (nI q) f (upd (mp (alp t q) pal k) k (alp t q k (pal k))) (nI (k + 1))) = _
    rw [mp_s]
    exact ih (k + 1) f (by omega) (by omega)
theorem keyD_L {K n c q dep kind num : Nat} (hn : n ≤ 65536) (hc : num ≤ 3) (hdep : dep ≤ 16) {T : Nat → Int32} {t : Nat → Nat} (ht : Tf q n T t) (hq : q + 2 * num ≤ n) (key : Nat → Int32) {t_hasTransparency : Int32} {t_stage : Int32} {t_partLength : Int32} {a_t_palette : Nat → Int32} : ∀ (r k f : Nat), k + r = num → r < f → (∀ j, j < k → bg2 t (q + 2 * j) < 2 ^ dep) → Ex (∀ j, j < num → bg2 t (q + 2 * j) < 2 ^ dep) (nI (q + 2 * num), mp (keyT t q) key num) (f_PngReader_takeTransparency_L167 K (nI c) t_hasTransparency (nI dep) (nI kind) t_stage t_partLength a_t_palette (nI n) T (nI num) f (nI (q + 2 * k)) (mp (keyT t q) key k) (nI k)) := by
  intro r
  induction r with
  | zero =>
    intro k f hk hf hI
    obtain ⟨f, rfl⟩ : ∃ w, f = w + 1 := ⟨f - 1, by omega⟩
    have e : k = num := by omega
    subst e
    refine Ex.gq (Gq.yes hI ?_)
    show (f_PngReader_takeTransparency_167 K _ (nI c) t_hasTransparency (nI dep) (nI kind) t_stage t_partLength a_t_palette (nI (q + 2 * k)) (nI n) T (mp (keyT t q) key k) (nI k) (nI k)) = _
    unfold f_PngReader_takeTransparency_167
    rw [if_pos (nI_le (by omega) (by omega))]
  | succ r ih =>
    intro k f hk hf hI
    obtain ⟨f, rfl⟩ : ∃ w, f = w + 1 := ⟨f - 1, by omega⟩
    show Ex _ _ (f_PngReader_takeTransparency_167 K _ (nI c) t_hasTransparency (nI dep) (nI kind) t_stage t_partLength a_t_palette (nI (q + 2 * k)) (nI n) T (mp (keyT t q) key k) (nI num) (nI k))
    unfold f_PngReader_takeTransparency_167 f_PngReader_takeTransparency_205
    have hb := bg2_lt ht.2 (q + 2 * k)
    have hp16 : 2 ^ dep ≤ 2 ^ 16 := Nat.pow_le_pow_right (by omega) hdep
    rw [if_neg (nI_ge (by omega) (by omega)), (big2_exN (show q + 2 * k ≤ n by omega) hn (ht.mono (by omega))).1 (by omega), q_tryL, if_pos (q_inb (by omega) (by omega)), if_pos (q_inb (by omega) (by omega)), nI_clamp (by omega), upd_at, one_sh2 dep (by omega), nI_1]
    dsimp only
    by_cases c1 : bg2 t (q + 2 * k) < 2 ^ dep
    · rw [if_neg (nI_ge c1 (by omega)), need1, q_tryL]
      show Ex _ _ (f_PngReader_takeTransparency_L167 K (nI c) t_hasTransparency (nI dep) (nI kind) t_stage t_partLength a_t_palette (nI n) T (nI num) f (nI (q + 2 * k + 2)) (upd (mp (keyT t q) key k) k (keyT t q k (key k))) (nI (k + 1)))
      rw [mp_s]
      exact ih (k + 1) f (by omega) (by omega) (fun j hj => by
        by_cases e : j = k
        · rw [e]; exact c1
        · exact hI j (by omega))
    · rw [if_pos (nI_le (by omega) (by omega)), need0, q_tryR]
      exact Ex.gq (Gq.no (fun h => c1 (h k (by omega))) ⟨_, rfl⟩)
theorem keyM_L {K n c q dep kind num : Nat} (hn : n ≤ 65536) (hc : num ≤ 3) (hdep : dep ≤ 16) {TM : Nat → Int32} {t : Nat → Nat} (ht : Tb n TM t) (hq : q + 2 * num ≤ n) (key : Nat → Int32) {t_clear : Int32} {a_t_palette : Nat → Int32} : ∀ (r k f : Nat), k + r = num → r < f → (∀ j, j < k → bg2 t (q + 2 * j) < 2 ^ dep) → Ex (∀ j, j < num → bg2 t (q + 2 * j) < 2 ^ dep) (mp (keyT t q) key num) (f_M_transparent_L101 K (nI dep) (nI kind) (nI c) t_clear a_t_palette TM (nI (2 * num)) (nI q) f (mp (keyT t q) key k) (nI k)) := by
  intro r
  induction r with
  | zero =>
    intro k f hk hf hI
    obtain ⟨f, rfl⟩ : ∃ w, f = w + 1 := ⟨f - 1, by omega⟩
    have e : k = num := by omega
    subst e
    refine Ex.gq (Gq.yes hI ?_)
    show (f_M_transparent_101 K _ (nI dep) (nI kind) (nI c) t_clear a_t_palette TM (mp (keyT t q) key k) (nI (2 * k)) (nI q) (nI k)) = _
    unfold f_M_transparent_101
    rw [show (2 : Int32) * nI k = nI (2 * k) from pk_mul 2 k, if_pos (nI_le (by omega) (by omega))]
  | succ r ih =>
    intro k f hk hf hI
    obtain ⟨f, rfl⟩ : ∃ w, f = w + 1 := ⟨f - 1, by omega⟩
    show Ex _ _ (f_M_transparent_101 K _ (nI dep) (nI kind) (nI c) t_clear a_t_palette TM (mp (keyT t q) key k) (nI (2 * num)) (nI q) (nI k))
    unfold f_M_transparent_101 f_M_transparent_169
    have hb := bg2_lt ht.2 (q + 2 * k)
    have hb1 := ht.2 (q + 2 * k)
    have hb2 := ht.2 (q + 2 * k + 1)
    have hp16 : 2 ^ dep ≤ 2 ^ 16 := Nat.pow_le_pow_right (by omega) hdep
    rw [show (2 : Int32) * nI k = nI (2 * k) from pk_mul 2 k, if_neg (nI_ge (by omega) (by omega)), nI_add, show nI (q + 2 * k) + 1 = nI (q + 2 * k + 1) from nI_add _ 1, if_pos (q_inb (by omega) (by omega)), if_pos (q_inb (by omega) (by omega)), if_pos (q_inb (by omega) (by omega)), if_pos (q_inb (by omega) (by omega)), nI_clamp (show q + 2 * k < 2 ^ 31 by omega), nI_clamp (show q + 2 * k + 1 < 2 ^ 31 by omega), nI_clamp (show k < 2 ^ 31 by omega), upd_at, one_sh2 dep (by omega), tv_ok, tv_ok, ht.1 _ (by omega), ht.1 _ (by omega), nI_1, show (nI (t (q + 2 * k)) <<< ((8 : Int32) &&& 31)) ||| nI (t (q + 2 * k + 1)) = nI (bg2 t (q + 2 * k)) from shl_or (s := 8) (by omega) (by omega) (by omega)]
    by_cases c1 : bg2 t (q + 2 * k) < 2 ^ dep
    · rw [if_neg (nI_ge c1 (by omega)), can1, q_tryL]
      show Ex _ _ (f_M_transparent_L101 K (nI dep) (nI kind) (nI c) t_clear a_t_palette TM (nI (2 * num)) (nI q) f (upd (mp (keyT t q) key k) k (keyT t q k (key k))) (nI (k + 1)))
      rw [mp_s]
      exact ih (k + 1) f (by omega) (by omega) (fun j hj => by
        by_cases e : j = k
        · rw [e]; exact c1
        · exact hI j (by omega))
    · rw [if_pos (nI_le (by omega) (by omega)), can0, q_tryR]
      exact Ex.gq (Gq.no (fun h => c1 (h k (by omega))) ⟨_, rfl⟩)
