/-! the pure half: a GIF file's tables and rows laid -/
def gclr (t : Nat → Nat) (p : Nat) : Int32 := (((nI (t p) <<< ((24 : Int32) &&& 31)) ||| (nI (t (p + 1)) <<< ((16 : Int32) &&& 31))) ||| (nI (t (p + 2)) <<< ((8 : Int32) &&& 31))) ||| 255
theorem tab_eq (a b : Int32) : ((a <<< ((8 : Int32) &&& 31)) ||| b) <<< ((16 : Int32) &&& 31) = (a <<< ((24 : Int32) &&& 31)) ||| (b <<< ((16 : Int32) &&& 31)) := by
  refine bt_ext (fun i hi => ?_)
  show bt (((a <<< (nI 8 &&& 31)) ||| b) <<< (nI 16 &&& 31)) i = bt ((a <<< (nI 24 &&& 31)) ||| (b <<< (nI 16 &&& 31))) i
  rw [bt_shl (by omega) _ hi, bt_or, bt_or, bt_shl (by omega) _ hi, bt_shl (by omega) _ hi, bt_shl (by omega) _ (show i - 16 < 32 by omega)]
  by_cases h1 : 16 ≤ i
  · rw [decide_eq_true h1]
    by_cases h2 : 24 ≤ i
    · rw [decide_eq_true h2, decide_eq_true (show 8 ≤ i - 16 by omega), show i - 16 - 8 = i - 24 by omega]
      rfl
    · rw [decide_eq_false h2, decide_eq_false (show ¬ 8 ≤ i - 16 by omega)]
      rfl
  · rw [decide_eq_false h1, decide_eq_false (show ¬ 24 ≤ i by omega)]
    rfl
def tcn (f : Nat) : Nat := 2 ^ (f % 8 + 1)
theorem tcn_le (f : Nat) : tcn f ≤ 256 := Nat.pow_le_pow_right (n := 2) (j := 8) (by omega) (by omega)
theorem tcn_pos (f : Nat) : 0 < tcn f := Nat.two_pow_pos _
theorem tcn_ok : ∀ f, f < 256 → (2 : Int32) <<< ((nI f - nI f / 8 * 8) &&& 31) = nI (tcn f) := by decide +kernel
theorem has_tab : ∀ f, f < 256 → ((nI f &&& 128) = 0 ↔ f < 128) := by decide +kernel
theorem lt_128 {f : Nat} (hf : f < 256) : nI f < 128 ↔ f < 128 := by
  constructor
  · intro h
    by_cases c : f < 128
    · exact c
    · exact absurd h (nI_nlt (b := 128) (by omega) (by omega))
  · intro h
    exact nI_lt (b := 128) h (by omega)
theorem tabD_L {K n c p : Nat} (hn : n ≤ 65536) (hc : c ≤ 256) {T : Nat → Int32} {t : Nat → Nat} (ht : Tf p n T t) : ∀ (r k q : Nat) (tab : Nat → Int32), k + r = c → r < q → p + 3 * k ≤ n → (∀ j, j < k → tab j = gclr t (p + 3 * j)) → Gq (p + 3 * c ≤ n) (fun m => ∃ tab', m = some (.inl (nI (p + 3 * c), tab')) ∧ ∀ j, j < c → tab' j = gclr t (p + 3 * j)) (f_GifReader_takeTable_L21 K (nI c) (nI n) T q (nI (p + 3 * k)) tab (nI k)) := by
  intro r
  induction r with
  | zero =>
    intro k q tab hk hq hp hI
    obtain ⟨q, rfl⟩ : ∃ w, q = w + 1 := ⟨q - 1, by omega⟩
    have e : k = c := by omega
    subst e
    refine Gq.yes hp ⟨tab, ?_, hI⟩
    show (f_GifReader_takeTable_21 K _ (nI k) (nI (p + 3 * k)) (nI n) T tab (nI k)) = _
    unfold f_GifReader_takeTable_21
    rw [if_pos (nI_le (by omega) (by omega))]
  | succ r ih =>
    intro k q tab hk hq hp hI
    obtain ⟨q, rfl⟩ : ∃ w, q = w + 1 := ⟨q - 1, by omega⟩
    show Gq _ _ (f_GifReader_takeTable_21 K _ (nI c) (nI (p + 3 * k)) (nI n) T tab (nI k))
    unfold f_GifReader_takeTable_21
    rw [if_neg (nI_ge (by omega) (by omega))]
    refine Gq.try (big2_ex hp hn (ht.mono (by omega))) (fun u => ⟨_, rfl⟩) (fun h => by omega) (fun h1 => ?_)
    refine Gq.try (next_exF h1 hn (ht.mono (by omega))) (fun u => ⟨_, rfl⟩) (fun h => by omega) (fun h2 => ?_)
    rw [if_pos (q_inb (by omega) (by omega)), nI_clamp (by omega), nI_1, tab_eq]
    have h5 := ih (k + 1) q (upd tab k (gclr t (p + 3 * k))) (by omega) (by omega) (by omega) (fun j hj => by
      by_cases e : j = k
      · rw [e, upd_at]
      · rw [upd_ne _ _ e]; exact hI j (by omega))
    rw [show p + 3 * (k + 1) = p + 3 * k + 2 + 1 by omega] at h5
    exact h5
theorem tabM_L {K n c p : Nat} (hn : n ≤ 65536) (hc : c ≤ 256) {T : Nat → Int32} {t : Nat → Nat} (ht : Tb n T t) : ∀ (r k q : Nat) (tab : Nat → Int32), k + r = c → r < q → p + 3 * k ≤ n → (∀ j, j < k → tab j = gclr t (p + 3 * j)) → Gq (p + 3 * c ≤ n) (fun m => ∃ tab', m = some (.inl (nI (p + 3 * c), tab')) ∧ ∀ j, j < c → tab' j = gclr t (p + 3 * j)) (f_M_readTable_L10 K 256 (nI n) T (nI c) q (nI (p + 3 * k)) tab (nI k)) := by
  intro r
  induction r with
  | zero =>
    intro k q tab hk hq hp hI
    obtain ⟨q, rfl⟩ : ∃ w, q = w + 1 := ⟨q - 1, by omega⟩
    have e : k = c := by omega
    subst e
    refine Gq.yes hp ⟨tab, ?_, hI⟩
    show (f_M_readTable_10 K 256 _ (nI n) (nI (p + 3 * k)) T tab (nI k) (nI k)) = _
    unfold f_M_readTable_10
    rw [if_pos (nI_le (by omega) (by omega))]
  | succ r ih =>
    intro k q tab hk hq hp hI
    obtain ⟨q, rfl⟩ : ∃ w, q = w + 1 := ⟨q - 1, by omega⟩
    show Gq _ _ (f_M_readTable_10 K 256 _ (nI n) (nI (p + 3 * k)) T tab (nI c) (nI k))
    unfold f_M_readTable_10
    rw [if_neg (nI_ge (by omega) (by omega))]
    refine Gq.try (nextM_ex hp hn ht) (fun u => ⟨_, rfl⟩) (fun h => by omega) (fun h1 => ?_)
    refine Gq.try (nextM_ex (by omega) hn ht) (fun u => ⟨_, rfl⟩) (fun h => by omega) (fun h2 => ?_)
    refine Gq.try (nextM_ex (by omega) hn ht) (fun u => ⟨_, rfl⟩) (fun h => by omega) (fun h3 => ?_)
    rw [if_pos (q_inb (by omega) (by omega)), nI_clamp (by omega), nI_1]
    have h5 := ih (k + 1) q (upd tab k (gclr t (p + 3 * k))) (by omega) (by omega) (by omega) (fun j hj => by
      by_cases e : j = k
      · rw [e, upd_at]
      · rw [upd_ne _ _ e]; exact hI j (by omega))
    rw [show p + 3 * (k + 1) = p + 3 * k + 1 + 1 + 1 by omega] at h5
    exact h5
theorem gtabD {K n p f : Nat} (hK : 300 < K) (hn : n ≤ 65536) (hp : p ≤ n) (hf : f < 256) (h128 : ¬ f < 128) {T : Nat → Int32} {t : Nat → Nat} (ht : Tf p n T t) (C : Int32) (tab : Nat → Int32) : Gq (p + 3 * tcn f ≤ n) (fun m => ∃ tab', m = some (.inl ((), nI (tcn f), nI (p + 3 * tcn f), tab')) ∧ ∀ j, j < tcn f → tab' j = gclr t (p + 3 * j)) (f_GifReader_takeTable K (nI f) C (nI p) (nI n) T tab) := by
  have hc := tcn_le f
  unfold f_GifReader_takeTable
  rw [if_neg (fun q => h128 ((has_tab f hf).mp q)), tcn_ok f hf]
  exact Gq.tryQL (tabD_L hn hc ht (tcn f) 0 K tab (by omega) (by omega) (by omega) (fun j hj => absurd hj (Nat.not_lt_zero _))) (fun u => ⟨_, rfl⟩) id (fun h b hb => Gq.yes h ⟨b, rfl, hb⟩)
theorem gtabM {K n p f : Nat} (hK : 300 < K) (hn : n ≤ 65536) (hp : p ≤ n) (hf : f < 256) {T : Nat → Int32} {t : Nat → Nat} (ht : Tb n T t) (tab : Nat → Int32) : Gq (p + 3 * tcn f ≤ n) (fun m => ∃ tab', m = some (.inl (nI (tcn f), nI (p + 3 * tcn f), tab')) ∧ ∀ j, j < tcn f → tab' j = gclr t (p + 3 * j)) (f_M_readTable K 256 (nI f) (nI n) (nI p) T tab) := by
  have hc := tcn_le f
  unfold f_M_readTable
  rw [tcn_ok f hf]
  exact Gq.tryQL (tabM_L hn hc ht (tcn f) 0 K tab (by omega) (by omega) (by omega) (fun j hj => absurd hj (Nat.not_lt_zero _))) (fun u => ⟨_, rfl⟩) id (fun h b hb => Gq.yes h ⟨b, rfl, hb⟩)
