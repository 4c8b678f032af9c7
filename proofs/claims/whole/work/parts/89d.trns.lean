/-! the pure half: a PNG file's transparency and data -/
theorem trn_D {K n c q dep kind s n0 : Nat} {tr : Bool} (hK : 1000 < K) (hn : n ≤ 65536) {T : Nat → Int32} {t : Nat → Nat} (ht : Tf q n T t) (hq : q + n0 ≤ n) (hs : s ≤ 2) (hc : c ≤ 256) (hk : kind < 256) (hdep : dep ≤ 16) (pal key : Nat → Int32) : Gq (s = 0 ∧ tr = false ∧ (kind = 3 ∨ kind = 0 ∨ kind = 2) ∧ trO kind dep c n0 q t) (fun m => m = some (.inl ((), 1, (if kind = 3 then mp (alp t q) pal n0 else pal), nI (q + n0), (if kind = 3 then key else mp (keyT t q) key (nn kind))))) (f_PngReader_takeTransparency K (nI c) (b2 tr) (nI dep) (nI kind) (nI s) (nI n0) pal (nI q) (nI n) T key) := by
  unfold f_PngReader_takeTransparency f_PngReader_takeTransparency_18 f_PngReader_takeTransparency_19 f_PngReader_takeTransparency_45
  by_cases c1 : s = 0
  rotate_left
  · rw [if_neg (nI_ne0 (by omega) (by omega)), need0, q_tryR]
    exact Gq.no (fun h => c1 h.1) ⟨_, rfl⟩
  rw [if_pos (show nI s = 0 by rw [c1]; rfl)]
  cases htr : tr
  rotate_left
  · rw [if_neg (show ¬ b2 true = 0 by decide), need0, q_tryR]
    exact Gq.no (fun h => Bool.noConfusion h.2.1) ⟨_, rfl⟩
  rw [if_pos (show b2 false = 0 from rfl), need1, q_tryL]
  have e0 : nI kind = 0 ↔ kind = 0 := nI_eq32 (b := 0) (by omega) (by omega)
  have e2 : nI kind = 2 ↔ kind = 2 := nI_eq32 (b := 2) (by omega) (by omega)
  have e3 : nI kind = 3 ↔ kind = 3 := nI_eq32 (b := 3) (by omega) (by omega)
  by_cases c3 : kind = 3
  · rw [if_pos (e3.mpr c3), if_pos c3, if_pos c3]
    unfold f_PngReader_takeTransparency_50 f_PngReader_takeTransparency_89 f_PngReader_takeTransparency_90
    rw [need1, q_tryL, if_pos (e3.mpr c3)]
    have hO : trO kind dep c n0 q t ↔ (1 ≤ n0 ∧ n0 ≤ c) := by
      unfold trO
      rw [if_pos c3]
    by_cases c4 : n0 < 1
    · rw [if_pos (show nI n0 < 1 from nI_lt (b := 1) c4 (by omega)), need0, q_tryR]
      exact Gq.no (fun h => by have := (hO.mp h.2.2.2).1; omega) ⟨_, rfl⟩
    rw [if_neg (show ¬ nI n0 < 1 from nI_nlt (b := 1) (by omega) (by omega))]
    by_cases c5 : c < n0
    · rw [if_pos (nI_lt c5 (by omega)), need0, q_tryR]
      exact Gq.no (fun h => by have := (hO.mp h.2.2.2).2; omega) ⟨_, rfl⟩
    have hL := alpD_L (K := K) (c := c) (dep := dep) (kind := kind) (n0 := n0) hn (by omega) ht hq pal (t_hasTransparency := 1) (t_stage := nI s) (a_t_key := key) n0 0 K (by omega) (by omega)
    rw [mp_0] at hL
    have hL2 : (f_PngReader_takeTransparency_L95 K (nI c) 1 (nI dep) (nI kind) (nI s) (nI n0) (nI n) T key K pal (nI q) 0) = _ := hL
    rw [if_neg (nI_nlt (by omega) (by omega)), q_tryL, hL2, q_bind]
    exact Gq.yes ⟨c1, rfl, Or.inl c3, hO.mpr ⟨by omega, by omega⟩⟩ rfl
  rw [if_neg (fun z => c3 (e3.mp z)), if_neg c3, if_neg c3]
  have hO : trO kind dep c n0 q t ↔ (n0 = 2 * nn kind ∧ ∀ k, k < nn kind → bg2 t (q + 2 * k) < 2 ^ dep) := by
    unfold trO
    rw [if_neg c3]
  have h146 : ∀ (num : Nat), num = nn kind → num ≤ 3 → (kind = 0 ∨ kind = 2) → Gq (s = 0 ∧ false = false ∧ (kind = 3 ∨ kind = 0 ∨ kind = 2) ∧ trO kind dep c n0 q t) (fun m => m = some (.inl ((), 1, pal, nI (q + n0), mp (keyT t q) key (nn kind)))) (f_PngReader_takeTransparency_146 K (nI c) 1 (nI dep) (nI kind) (nI s) (nI n0) pal (nI q) (nI n) T key (nI num)) := by
    intro num hnum hn3 hk02
    unfold f_PngReader_takeTransparency_146 f_PngReader_takeTransparency_162
    rw [show (2 : Int32) * nI num = nI (2 * num) from pk_mul 2 num]
    by_cases c4 : n0 = 2 * num
    rotate_left
    · rw [if_neg (fun z => c4 ((nI_eq32 (by omega) (by omega)).mp z)), need0, q_tryR]
      exact Gq.no (fun h => c4 (by rw [hnum]; exact (hO.mp h.2.2.2).1)) ⟨_, rfl⟩
    have hL := keyD_L (K := K) (c := c) (dep := dep) (kind := kind) (num := num) hn hn3 hdep ht (by omega) key (t_hasTransparency := 1) (t_stage := nI s) (t_partLength := nI n0) (a_t_palette := pal) num 0 K (by omega) (by omega) (fun j hj => absurd hj (Nat.not_lt_zero _))
    rw [mp_0] at hL
    have hL2 : Ex _ _ (f_PngReader_takeTransparency_L167 K (nI c) 1 (nI dep) (nI kind) (nI s) (nI n0) pal (nI n) T (nI num) K (nI q) key 0) := hL
    rw [if_pos (show nI n0 = nI (2 * num) by rw [c4]), need1, q_tryL]
    refine Gq.tryL hL2 (fun u => ⟨_, rfl⟩) (fun h => by rw [hnum]; exact (hO.mp h.2.2.2).2) (fun h => ?_)
    refine Gq.yes ⟨c1, rfl, Or.inr hk02, hO.mpr ⟨by rw [← hnum]; exact c4, by rw [← hnum]; exact h⟩⟩ ?_
    rw [← hnum, c4]
  by_cases c4 : kind = 0
  · rw [if_pos (e0.mpr c4)]
    unfold f_PngReader_takeTransparency_50
    rw [need1, q_tryL, if_neg (fun z => c3 (e3.mp z)), if_pos (e0.mpr c4)]
    exact h146 1 (by unfold nn; rw [if_pos c4]) (by omega) (Or.inl c4)
  rw [if_neg (fun z => c4 (e0.mp z))]
  by_cases c5 : kind = 2
  · rw [if_pos (e2.mpr c5)]
    unfold f_PngReader_takeTransparency_50
    rw [need1, q_tryL, if_neg (fun z => c3 (e3.mp z)), if_neg (fun z => c4 (e0.mp z))]
    exact h146 3 (by unfold nn; rw [if_neg c4]) (by omega) (Or.inr c5)
  rw [if_neg (fun z => c5 (e2.mp z))]
  unfold f_PngReader_takeTransparency_50
  rw [need0, q_tryR]
  exact Gq.no (fun h => by have := h.2.2.1; omega) ⟨_, rfl⟩
theorem trn_M {K n c q dep kind n0 : Nat} (hK : 1000 < K) (hn : n ≤ 65536) {TM : Nat → Int32} {t : Nat → Nat} (ht : Tb n TM t) (hq : q + n0 ≤ n) (hc : c ≤ 256) (hk : kind < 256) (hdep : dep ≤ 16) (C : Int32) (pal key : Nat → Int32) : Gq (trO kind dep c n0 q t) (fun m => m = some (.inl ((), (if kind = 3 then C else 1), (if kind = 3 then mp (alp t q) pal n0 else pal), (if kind = 3 then key else mp (keyT t q) key (nn kind))))) (f_M_transparent K (nI n0) (nI q) (nI dep) (nI kind) (nI c) C pal TM key) := by
  unfold f_M_transparent
  have e0 : nI kind = 0 ↔ kind = 0 := nI_eq32 (b := 0) (by omega) (by omega)
  have e3 : nI kind = 3 ↔ kind = 3 := nI_eq32 (b := 3) (by omega) (by omega)
  by_cases c3 : kind = 3
  · rw [if_pos (e3.mpr c3), if_pos c3, if_pos c3, if_pos c3]
    unfold f_M_transparent_26 f_M_transparent_27
    have hO : trO kind dep c n0 q t ↔ (1 ≤ n0 ∧ n0 ≤ c) := by
      unfold trO
      rw [if_pos c3]
    by_cases c4 : n0 < 1
    · rw [if_pos (show nI n0 < 1 from nI_lt (b := 1) c4 (by omega)), can0, q_tryR]
      exact Gq.no (fun h => by have := (hO.mp h).1; omega) ⟨_, rfl⟩
    rw [if_neg (show ¬ nI n0 < 1 from nI_nlt (b := 1) (by omega) (by omega))]
    by_cases c5 : c < n0
    · rw [if_pos (nI_lt c5 (by omega)), can0, q_tryR]
      exact Gq.no (fun h => by have := (hO.mp h).2; omega) ⟨_, rfl⟩
    have hL := alpM_L (K := K) (c := c) (dep := dep) (kind := kind) (n0 := n0) hn (by omega) ht hq pal (t_clear := C) (a_t_clearKey := key) n0 0 K (by omega) (by omega)
    rw [mp_0] at hL
    have hL2 : (f_M_transparent_L32 K (nI dep) (nI kind) (nI c) C TM key (nI n0) (nI q) K pal 0) = _ := hL
    rw [if_neg (nI_nlt (by omega) (by omega)), can1, q_tryL, hL2, q_bind]
    exact Gq.yes (hO.mpr ⟨by omega, by omega⟩) rfl
  rw [if_neg (fun z => c3 (e3.mp z)), if_neg c3, if_neg c3, if_neg c3]
  have hO : trO kind dep c n0 q t ↔ (n0 = 2 * nn kind ∧ ∀ k, k < nn kind → bg2 t (q + 2 * k) < 2 ^ dep) := by
    unfold trO
    rw [if_neg c3]
  have h88 : ∀ (num : Nat), num = nn kind → num ≤ 3 → Gq (trO kind dep c n0 q t) (fun m => m = some (.inl ((), 1, pal, mp (keyT t q) key (nn kind)))) (f_M_transparent_88 K (nI dep) (nI kind) (nI c) C pal TM key (nI n0) (nI q) (nI n0) (nI (2 * num))) := by
    intro num hnum hn3
    unfold f_M_transparent_88 f_M_transparent_96
    by_cases c4 : n0 = 2 * num
    rotate_left
    · rw [if_neg (fun z => c4 ((nI_eq32 (by omega) (by omega)).mp z)), can0, q_tryR]
      exact Gq.no (fun h => c4 (by rw [hnum]; exact (hO.mp h).1)) ⟨_, rfl⟩
    have hL := keyM_L (K := K) (c := c) (dep := dep) (kind := kind) (num := num) hn hn3 hdep ht (show q + 2 * num ≤ n by omega) key (t_clear := C) (a_t_palette := pal) num 0 K (by omega) (by omega) (fun j hj => absurd hj (Nat.not_lt_zero _))
    rw [mp_0] at hL
    have hL2 : Ex _ _ (f_M_transparent_L101 K (nI dep) (nI kind) (nI c) C pal TM (nI (2 * num)) (nI q) K key 0) := hL
    rw [if_pos (show nI n0 = nI (2 * num) by rw [c4]), can1, q_tryL, show nI n0 = nI (2 * num) by rw [c4]]
    refine Gq.tryL hL2 (fun u => ⟨_, rfl⟩) (fun h => by rw [hnum]; exact (hO.mp h).2) (fun h => ?_)
    refine Gq.yes (hO.mpr ⟨by rw [← hnum]; exact c4, by rw [← hnum]; exact h⟩) ?_
    rw [← hnum]
  by_cases c4 : kind = 0
  · rw [if_pos (e0.mpr c4)]
    exact h88 1 (by unfold nn; rw [if_pos c4]) (by omega)
  · rw [if_neg (fun z => c4 (e0.mp z))]
    exact h88 3 (by unfold nn; rw [if_neg c4]) (by omega)
/-! data -/
theorem dat_D {n c q kind s n0 g m : Nat} (hn : n ≤ 65536) {T : Nat → Int32} (hB : Bt n T) (hq : q + n0 ≤ n) (hs : s ≤ 2) (hc : c ≤ 256) (hk : kind < 256) (gf gt : Int32) (hg : s ≠ 0 → gf = nI g ∧ gt = nI (g + m) ∧ g + m ≤ q) (h0 : s = 0 → g = q ∧ m = 0) : Ex (s ≠ 2 ∧ (kind = 3 → 0 < c)) ((), 1, nI (q + n0), nI g, nI (g + m + n0), va_cpy T T q (g + m) n0) (f_PngReader_takeData (nI c) (nI kind) (nI s) (nI n0) (nI q) (nI n) gf gt T) := by
  unfold f_PngReader_takeData f_PngReader_takeData_13 f_PngReader_takeData_31 f_PngReader_takeData_36
  have e3 : nI kind = 3 ↔ kind = 3 := nI_eq32 (b := 3) (by omega) (by omega)
  by_cases c1 : s = 2
  · rw [if_pos (show nI s = 2 by rw [c1]; rfl), need0, q_tryR]
    exact Ex.gq (Gq.no (fun h => h.1 c1) ⟨_, rfl⟩)
  rw [if_neg (show ¬ nI s = 2 from fun z => c1 ((nI_eq32 (b := 2) (by omega) (by omega)).mp z)), need1, q_tryL]
  have h53 : ∀ G T', G = nI g → T' = nI (g + m) → g + m ≤ q → (kind = 3 → 0 < c) → Ex (s ≠ 2 ∧ (kind = 3 → 0 < c)) ((), (1 : Int32), nI (q + n0), nI g, nI (g + m + n0), va_cpy T T q (g + m) n0) (f_PngReader_takeData_53 (nI c) (nI kind) (nI s) (nI n0) (nI q) (nI n) G T' T) := by
    intro G T' hG hT' hgm hkc
    subst hG hT'
    unfold f_PngReader_takeData_53
    rw [(gather_ex (len := n0) (show q ≤ n by omega) hn hgm (by omega) hB).1 hq, q_tryL]
    exact Ex.gq (Gq.yes ⟨c1, hkc⟩ rfl)
  have hgo : (kind = 3 → 0 < c) → Ex (s ≠ 2 ∧ (kind = 3 → 0 < c)) ((), (1 : Int32), nI (q + n0), nI g, nI (g + m + n0), va_cpy T T q (g + m) n0) (if nI s = 0 then dc_bind (f_Source_beginGathering (nI q) gf gt) (fun r_50 => (f_PngReader_takeData_53 (nI c) (nI kind) (nI s) (nI n0) (nI q) (nI n) r_50.2.1 r_50.2.2 T)) else (f_PngReader_takeData_53 (nI c) (nI kind) (nI s) (nI n0) (nI q) (nI n) gf gt T)) := by
    intro hkc
    by_cases c2 : s = 0
    · obtain ⟨e1, e2⟩ := h0 c2
      rw [if_pos (show nI s = 0 by rw [c2]; rfl)]
      unfold f_Source_beginGathering
      rw [q_bind]
      exact h53 _ _ (by rw [e1]) (by rw [e1, e2]; rfl) (by omega) hkc
    · obtain ⟨e1, e2, e4⟩ := hg c2
      rw [if_neg (nI_ne0 (by omega) (by omega))]
      exact h53 _ _ e1 e2 e4 hkc
  by_cases c3 : kind = 3
  · rw [if_pos (e3.mpr c3)]
    by_cases c4 : c = 0
    · rw [if_pos (show nI c ≤ 0 from nI_le (b := 0) (by omega) (by omega)), need0, q_tryR]
      exact Ex.gq (Gq.no (fun h => by have := h.2 c3; omega) ⟨_, rfl⟩)
    · rw [if_neg (show ¬ nI c ≤ 0 from nI_ge (a := 0) (by omega) (by omega)), q_tryL]
      exact hgo (fun _ => by omega)
  · rw [if_neg (fun z => c3 (e3.mp z)), q_tryL]
    exact hgo (fun h => absurd h c3)
theorem dat_M {K n q n0 m : Nat} (hn : n ≤ 65536) {TM : Nat → Int32} {t : Nat → Nat} (ht : Tb n TM t) (hq : q + n0 ≤ n) (hm : m ≤ q) {D0 : Nat → Int32} {t_taped : Int32} {t_at : Int32} {t_width : Int32} {t_height : Int32} {t_depth : Int32} {t_kind : Int32} {t_interlace : Int32} {t_colours : Int32} {t_clear : Int32} {t_bitAt : Int32} {t_rowBytes : Int32} {t_expected : Int32} {a_t_palette : Nat → Int32} {a_t_rows : Nat → Int32} {a_t_lengths : Nat → Int32} {t_literals_all : Int32} {a_t_literals_counts : Nat → Int32} {a_t_literals_meanings : Nat → Int32} {t_distances_all : Int32} {a_t_distances_counts : Nat → Int32} {a_t_distances_meanings : Nat → Int32} {t_lengthCodes_all : Int32} {a_t_lengthCodes_counts : Nat → Int32} {a_t_lengthCodes_meanings : Nat → Int32} {a_t_clearKey : Nat → Int32} {a_t_points : Nat → Int32} {x1 : Int32} {x2 : Int32} {x3 : Int32} {x4 : Int32} {x7 : Int32} : ∀ (r k f : Nat) (D : Nat → Int32), k + r = n0 → r < f → (∀ i, i < m → D i = D0 i) → (∀ i, i < k → tv D (m + i) = t (q + i)) → ∃ D', (f_M_readPng_L304 K t_taped t_at t_width t_height t_depth t_kind t_interlace t_colours t_clear t_bitAt t_rowBytes t_expected TM a_t_palette a_t_rows a_t_lengths t_literals_all a_t_literals_counts a_t_literals_meanings t_distances_all a_t_distances_counts a_t_distances_meanings t_lengthCodes_all a_t_lengthCodes_counts a_t_lengthCodes_meanings a_t_clearKey a_t_points x1 x2 x3 x4 x7 (nI (q + n0)) f (nI (m + k)) D (nI (q + k))) = some (nI (m + n0), D') ∧ (∀ i, i < m → D' i = D0 i) ∧ ∀ i, i < n0 → tv D' (m + i) = t (q + i) := by
  intro r
  induction r with
  | zero =>
    intro k f D hk hf h1 h2
    obtain ⟨f, rfl⟩ : ∃ w, f = w + 1 := ⟨f - 1, by omega⟩
    have e : k = n0 := by omega
    subst e
    refine ⟨D, ?_, h1, h2⟩
    show (f_M_readPng_304 K _ t_taped t_at t_width t_height t_depth t_kind t_interlace t_colours t_clear (nI (m + k)) t_bitAt t_rowBytes t_expected TM a_t_palette D a_t_rows a_t_lengths t_literals_all a_t_literals_counts a_t_literals_meanings t_distances_all a_t_distances_counts a_t_distances_meanings t_lengthCodes_all a_t_lengthCodes_counts a_t_lengthCodes_meanings a_t_clearKey a_t_points x1 x2 x3 x4 x7 (nI (q + k)) (nI (q + k))) = _
    unfold f_M_readPng_304
    rw [if_pos (nI_le (by omega) (by omega))]
  | succ r ih =>
    intro k f D hk hf h1 h2
    obtain ⟨f, rfl⟩ : ∃ w, f = w + 1 := ⟨f - 1, by omega⟩
    obtain ⟨D', e1, e2⟩ := ih (k + 1) f (upd D (m + k) (q_by (TM (q + k)))) (by omega) (by omega) (fun i hi => by rw [upd_ne _ _ (by omega)]; exact h1 i hi) (fun i hi => by
      by_cases e : i = k
      · rw [e]
        have e5 : tv (upd D (m + k) (q_by (TM (q + k)))) (m + k) = tv TM (q + k) := by
          refine Nat.eq_of_testBit_eq (fun b => ?_)
          by_cases hb : b < 8
          · rw [← tv_bt _ _ hb, ← tv_bt _ _ hb, upd_at, bt_by hb]
          · rw [test_out (tv_lt _ _) (by omega), test_out (tv_lt _ _) (by omega)]
        rw [e5]
        exact ht.1 _ (by omega)
      · rw [tv_eq (upd_ne _ _ (by omega))]
        exact h2 i (by omega))
    refine ⟨D', ?_, e2⟩
    rw [← e1]
    show (f_M_readPng_304 K _ t_taped t_at t_width t_height t_depth t_kind t_interlace t_colours t_clear (nI (m + k)) t_bitAt t_rowBytes t_expected TM a_t_palette D a_t_rows a_t_lengths t_literals_all a_t_literals_counts a_t_literals_meanings t_distances_all a_t_distances_counts a_t_distances_meanings t_lengthCodes_all a_t_lengthCodes_counts a_t_lengthCodes_meanings a_t_clearKey a_t_points x1 x2 x3 x4 x7 (nI (q + n0)) (nI (q + k))) = _
    unfold f_M_readPng_304
    rw [if_neg (nI_ge (by omega) (by omega)), if_pos (q_inb (by omega) (by omega)), if_pos (q_inb (by omega) (by omega)), nI_clamp (show m + k < 2 ^ 31 by omega), nI_clamp (show q + k < 2 ^ 31 by omega), q_by1, nI_1, nI_1]
    rfl
