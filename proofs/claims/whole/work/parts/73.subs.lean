/-! the pure half: what lies from a place on; sub-blocks -/
/-- t: the bytes from p to n -/
def Tf (p n : Nat) (T : Nat → Int32) (t : Nat → Nat) : Prop := (∀ j, p ≤ j → j < n → tv T j = t j) ∧ ∀ j, t j < 256
theorem Tf.mono {p p' n : Nat} {T : Nat → Int32} {t : Nat → Nat} (h : Tf p n T t) (hp : p ≤ p') : Tf p' n T t := ⟨fun j h1 h2 => h.1 j (by omega) h2, h.2⟩
theorem Tf.of {n : Nat} {T : Nat → Int32} {t : Nat → Nat} (h : Tb n T t) (p : Nat) : Tf p n T t := ⟨fun j _ h2 => h.1 j h2, h.2⟩
/-- the same bytes, with the tape's own below p -/
theorem Tf.tb {p n : Nat} {T : Nat → Int32} {t : Nat → Nat} (h : Tf p n T t) : ∃ t', Tb n T t' ∧ ∀ j, p ≤ j → t' j = t j := by
  refine ⟨fun j => if p ≤ j then t j else tv T j, ⟨fun j hj => ?_, fun j => ?_⟩, fun j hj => if_pos hj⟩
  · by_cases c : p ≤ j
    · show _ = if p ≤ j then _ else _
      rw [if_pos c]
      exact h.1 j c hj
    · show _ = if p ≤ j then _ else _
      rw [if_neg c]
  · by_cases c : p ≤ j
    · show (if p ≤ j then _ else _) < _
      rw [if_pos c]
      exact h.2 j
    · show (if p ≤ j then _ else _) < _
      rw [if_neg c]
      exact tv_lt T j
theorem next_exF {p n : Nat} (hp : p ≤ n) (hn : n ≤ 65536) {T : Nat → Int32} {t : Nat → Nat} (ht : Tf p n T t) : Ex (p < n) (nI (t p), nI (p + 1)) (f_Source_next (nI p) (nI n) T) := by
  obtain ⟨t', h1, h2⟩ := ht.tb
  have h := next_ex hp hn h1
  rw [h2 p (Nat.le_refl _)] at h
  exact h
theorem little2_exF {p n : Nat} (hp : p ≤ n) (hn : n ≤ 65536) {T : Nat → Int32} {t : Nat → Nat} (ht : Tf p n T t) : Ex (p + 2 ≤ n) (nI (l2 t p), nI (p + 2)) (f_Source_little2 (nI p) (nI n) T) := by
  obtain ⟨t', h1, h2⟩ := ht.tb
  have h := little2_ex hp hn h1
  rw [show l2 t' p = l2 t p by unfold l2; rw [h2 p (by omega), h2 (p + 1) (by omega)]] at h
  exact h
theorem big2_ex {p n : Nat} (hp : p ≤ n) (hn : n ≤ 65536) {T : Nat → Int32} {t : Nat → Nat} (ht : Tf p n T t) : Ex (p + 2 ≤ n) ((nI (t p) <<< ((8 : Int32) &&& 31)) ||| nI (t (p + 1)), nI (p + 2)) (f_Source_big2 (nI p) (nI n) T) := by
  unfold f_Source_big2
  refine Ex.gq (Gq.try (next_exF hp hn ht) (fun u => ⟨_, rfl⟩) (fun h => by omega) (fun h1 => ?_))
  refine Gq.try (next_exF (by omega) hn (ht.mono (by omega))) (fun u => ⟨_, rfl⟩) (fun h => by omega) (fun h2 => ?_)
  exact Gq.yes (by omega) rfl
theorem bt_by {x : Int32} {i : Nat} (hi : i < 8) : bt (q_by x) i = bt x i := by
  unfold q_by bt
  show (x.toBitVec.signExtend 8 |>.signExtend 32).getLsbD i = _
  rw [BitVec.getLsbD_signExtend, BitVec.getLsbD_signExtend]
  simp [hi, show i < 32 by omega]
theorem tv_by {D : Nat → Int32} {j v : Nat} (hv : v < 256) (h : D j = q_by (nI v)) : tv D j = v := by
  refine Nat.eq_of_testBit_eq (fun i => ?_)
  by_cases hi : i < 8
  · rw [← tv_bt D j hi, h, bt_by hi, bt_nI _ _ (by omega)]
  · rw [test_out (tv_lt D j) (by omega), test_out hv (by omega)]
theorem gather_ex {p n e len : Nat} (hp : p ≤ n) (hn : n ≤ 65536) (he : e ≤ p) (hl : len < 2 ^ 31) {T : Nat → Int32} (hB : Bt n T) : Ex (p + len ≤ n) ((), nI (p + len), nI (e + len), va_cpy T T p e len) (f_Source_gather (nI len) (nI p) (nI n) (nI e) T) := by
  unfold f_Source_gather f_Source_gather_16 f_Source_gather_17 f_Source_left
  rw [if_neg (nI_pos hl), q_bind, pk_sub hp]
  constructor
  · intro h
    rw [if_neg (nI_nlt (by omega) (by omega)), need1, q_tryL, if_pos (cpok_byte (fun j hj => hB j (by omega)) (by omega) (by omega) (by omega) (by omega)), nI_add, nI_add, nI_clamp (by omega), nI_clamp (by omega), nI_clamp (by omega)]
  · intro h
    rw [if_pos (nI_lt (by omega) hl), need0, q_tryR]
    exact ⟨_, rfl⟩
/-- what was gathered: m bytes from g on in the class's tape, the reference's data -/
def Gs (g m p n : Nat) (T D : Nat → Int32) (t : Nat → Nat) : Prop := g + m ≤ p ∧ p ≤ n ∧ Tf p n T t ∧ Bt n T ∧ ∀ i, i < m → tv T (g + i) = tv D i
theorem cpy_in {T : Nat → Int32} {p e len j : Nat} (h1 : e ≤ j) (h2 : j < e + len) : va_cpy T T p e len j = T (p + (j - e)) := if_pos ⟨h1, h2⟩
theorem cpy_out {T : Nat → Int32} {p e len j : Nat} (h : j < e ∨ e + len ≤ j) : va_cpy T T p e len j = T j := if_neg (by omega)
theorem Gs_s {g m p n len : Nat} {T D D' : Nat → Int32} {t : Nat → Nat} (h : Gs g m p n T D t) (hp : p + len ≤ n) (h1 : ∀ i, i < m → D' i = D i) (h2 : ∀ i, i < len → tv D' (m + i) = t (p + i)) : Gs g (m + len) (p + len) n (va_cpy T T p (g + m) len) D' t := by
  obtain ⟨a1, a2, a3, a4, a5⟩ := h
  refine ⟨by omega, hp, ⟨fun j q1 q2 => ?_, a3.2⟩, fun j hj => ?_, fun i hi => ?_⟩
  · rw [tv_eq (cpy_out (Or.inr (by omega)))]
    exact a3.1 j (by omega) q2
  · by_cases c : g + m ≤ j ∧ j < g + m + len
    · rw [cpy_in c.1 c.2]
      exact a4 _ (by omega)
    · rw [cpy_out (by omega)]
      exact a4 j hj
  · by_cases c : i < m
    · rw [tv_eq (cpy_out (Or.inl (by omega))), a5 i c]
      exact tv_eq (h1 i c).symm
    · have e : tv (va_cpy T T p (g + m) len) (g + i) = tv T (p + (i - m)) := by
        unfold tv
        rw [cpy_in (by omega) (by omega), show p + (g + i - (g + m)) = p + (i - m) by omega]
      have h3 := h2 (i - m) (by omega)
      rw [show m + (i - m) = i by omega] at h3
      rw [e, h3]
      exact a3.1 _ (by omega) (by omega)
theorem piece_L {K n p m len : Nat} (hn : n ≤ 65536) (hm : m ≤ p) (hl : len < 256) {TM : Nat → Int32} {t : Nat → Nat} (htM : Tb n TM t) {D0 : Nat → Int32} : ∀ (r k q : Nat) (D : Nat → Int32), k + r = len → r < q → p + k ≤ n → (∀ i, i < m → D i = D0 i) → (∀ i, i < k → tv D (m + i) = t (p + i)) → Gq (p + len ≤ n) (fun o => ∃ D', o = some (.inl (nI (p + len), nI (m + len), D')) ∧ (∀ i, i < m → D' i = D0 i) ∧ ∀ i, i < len → tv D' (m + i) = t (p + i)) (f_M_pieces_L16 K (nI n) TM (nI len) q (nI (p + k)) (nI (m + k)) D (nI k)) := by
  intro r
  induction r with
  | zero =>
    intro k q D hk hq hp h1 h2
    obtain ⟨q, rfl⟩ : ∃ w, q = w + 1 := ⟨q - 1, by omega⟩
    have e : k = len := by omega
    subst e
    refine Gq.yes hp ⟨D, ?_, h1, h2⟩
    show (f_M_pieces_16 K _ (nI n) (nI (p + k)) (nI (m + k)) TM D (nI k) (nI k)) = _
    unfold f_M_pieces_16
    rw [if_pos (nI_le (by omega) (by omega))]
  | succ r ih =>
    intro k q D hk hq hp h1 h2
    obtain ⟨q, rfl⟩ : ∃ w, q = w + 1 := ⟨q - 1, by omega⟩
    show Gq _ _ (f_M_pieces_16 K _ (nI n) (nI (p + k)) (nI (m + k)) TM D (nI len) (nI k))
    unfold f_M_pieces_16
    rw [if_neg (nI_ge (by omega) (by omega))]
    refine Gq.try (nextM_ex hp hn htM) (fun u => ⟨_, rfl⟩) (fun h => by omega) (fun h3 => ?_)
    rw [if_pos (q_inb (by omega) (by omega)), nI_clamp (by omega), nI_1, nI_1, q_by2]
    exact ih (k + 1) q (upd D (m + k) (q_by (nI (t (p + k))))) (by omega) (by omega) (by omega) (fun i hi => by rw [upd_ne _ _ (by omega)]; exact h1 i hi) (fun i hi => by
      by_cases e : i = k
      · rw [e]
        exact tv_by (htM.2 _) (upd_at _ _ _)
      · rw [tv_eq (upd_ne _ _ (by omega))]
        exact h2 i (by omega))
theorem subs_L {K n g : Nat} (hK : 300 < K) (hn : n ≤ 65536) {TM : Nat → Int32} {t : Nat → Nat} (htM : Tb n TM t) : ∀ (r p m len cnt qD qM : Nat) (T D : Nat → Int32), n - p ≤ r → r < qD → r < qM → len < 256 → cnt < p → Gs g m p n T D t → Lk (fun x y => ∃ p' m' T' D', x = (nI p', nI (g + m'), T') ∧ y = (nI p', nI m', D') ∧ p ≤ p' ∧ Gs g m' p' n T' D' t) (f_GifReader_takeSubs_L17 K (nI n) (nI g) qD (nI p) (nI (g + m)) T (nI len) (nI cnt)) (f_M_pieces_L10 K (nI n) TM qM (nI p) (nI m) D (nI len)) := by
  intro r
  induction r using Nat.strongRecOn with
  | _ r ih =>
    intro p m len cnt qD qM T D hr hqD hqM hl hcnt hG
    obtain ⟨qD, rfl⟩ : ∃ w, qD = w + 1 := ⟨qD - 1, by omega⟩
    obtain ⟨qM, rfl⟩ : ∃ w, qM = w + 1 := ⟨qM - 1, by omega⟩
    obtain ⟨a1, a2, a3, a4, a5⟩ := id hG
    show Lk _ (f_GifReader_takeSubs_17 K _ (nI p) (nI n) (nI g) (nI (g + m)) T (nI len) (nI cnt)) (f_M_pieces_10 K _ (nI n) (nI p) (nI m) TM D (nI len))
    unfold f_GifReader_takeSubs_17 f_M_pieces_10
    by_cases e0 : len = 0
    · subst e0
      rw [if_pos (show nI 0 ≤ 0 by decide), if_pos (show nI 0 ≤ 0 by decide)]
      exact Lk.yes ⟨p, m, T, D, rfl, rfl, by omega, hG⟩
    · rw [if_neg (nge0 (by omega) hl), if_neg (nge0 (by omega) hl), if_neg (show ¬ (65536 : Int32) ≤ nI cnt from show ¬ nI 65536 ≤ nI cnt from nI_ge (by omega) (by omega)), bind_elim]
      have hM := piece_L (K := K) (p := p) (m := m) hn (by omega) hl htM (D0 := D) len 0 K D (by omega) (by omega) (by omega) (fun _ _ => rfl) (fun i hi => absurd hi (Nat.not_lt_zero _))
      refine Lk.try (Lk.ofGq (Ex.gqU (gather_ex (len := len) a2 hn a1 (by omega) a4)) hM) (fun u => ⟨_, rfl⟩) (fun u => ⟨_, rfl⟩) (fun x y hxy => ?_)
      obtain ⟨h1, -, D', rfl, rfl, -, h2, h3⟩ := hxy
      have hG' := Gs_s hG h1 h2 h3
      obtain ⟨b1, b2, b3, b4, b5⟩ := id hG'
      refine Lk.step (next_exF h1 hn b3) (nextM_ex h1 hn htM) (fun u => ⟨_, rfl⟩) (fun u => ⟨_, rfl⟩) (fun h4 => ?_)
      have tb := htM.2 (p + len)
      rw [nI_1]
      have hgo := ih (n - (p + len + 1)) (by omega) (p + len + 1) (m + len) (t (p + len)) (cnt + 1) qD qM (va_cpy T T p (g + m) len) D' (by omega) (by omega) (by omega) tb (by omega) ⟨by omega, by omega, b3.mono (by omega), b4, b5⟩
      rw [← Nat.add_assoc] at hgo
      refine Lk.mono hgo (fun x y hxy => ?_)
      obtain ⟨p', m', T', D'', c1, c2, c3, c4⟩ := hxy
      exact ⟨p', m', T', D'', c1, c2, by omega, c4⟩
theorem subs_ok {K n p : Nat} (hK : 70000 < K) (hn : n ≤ 65536) (hp : p ≤ n) {T TM D : Nat → Int32} {t : Nat → Nat} (htM : Tb n TM t) (ht : Tf p n T t) (hB : Bt n T) (gf gt ds : Int32) : Lk (fun x y => ∃ g p' m' T' D', x = ((), nI p', nI g, nI (g + m'), T') ∧ y = ((), nI p', nI m', D') ∧ p < p' ∧ Gs g m' p' n T' D' t) (f_GifReader_takeSubs K (nI p) (nI n) gf gt T) (f_M_pieces K (nI n) (nI p) ds TM D) := by
  unfold f_GifReader_takeSubs f_M_pieces f_Source_beginGathering
  rw [q_bind]
  refine Lk.step (next_exF hp hn ht) (nextM_ex hp hn htM) (fun u => ⟨_, rfl⟩) (fun u => ⟨_, rfl⟩) (fun h1 => ?_)
  have hL := subs_L (K := K) (g := p) (by omega) hn htM n (p + 1) 0 (t p) 0 K K T D (by omega) (by omega) (by omega) (ht.2 p) (by omega) ⟨by omega, by omega, ht.mono (by omega), hB, fun i hi => absurd hi (Nat.not_lt_zero _)⟩
  refine Lk.tryL hL (fun u => ⟨_, rfl⟩) (fun u => ⟨_, rfl⟩) (fun x y hxy => ?_)
  obtain ⟨p', m', T', D', rfl, rfl, h2, h3⟩ := hxy
  unfold f_GifReader_takeSubs_49
  exact Lk.yes ⟨p, p', m', T', D', rfl, rfl, by omega, h3⟩
