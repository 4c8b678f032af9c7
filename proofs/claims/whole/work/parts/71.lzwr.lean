/-! the pure half: LZW read -/
def oj (f : Nat → Int32) (j : Nat) : Nat := (f j).toBitVec.toNat
theorem oj_ok (f : Nat → Int32) (j : Nat) : f j = nI (oj f j) := nI_tn rfl
theorem oj_at (f : Nat → Int32) (k : Nat) {v : Nat} (hv : v < 2 ^ 32) : oj (upd f k (nI v)) k = v := by
  unfold oj
  rw [upd_at, pk_tn hv]
theorem oj_ne (f : Nat → Int32) {k j : Nat} (x : Int32) (h : j ≠ k) : oj (upd f k x) j = oj f j := by
  unfold oj
  rw [upd_ne _ _ h]
theorem oj_eq {f g : Nat → Int32} {j k : Nat} (h : f j = g k) : oj f j = oj g k := by
  unfold oj
  rw [h]
theorem nI_dec {a : Nat} (h : 0 < a) : nI a + (-1) = nI (a - 1) := by
  obtain ⟨c, rfl⟩ : ∃ c, a = c + 1 := ⟨a - 1, by omega⟩
  rw [← nI_1 c, Nat.add_sub_cancel, Int32.add_assoc, show (1 : Int32) + (-1) = 0 by decide, Int32.add_zero]
/-- a code's length and indices -/
def Lq (beg : Nat) (RL : Nat → Int32) (k : Nat) : Nat := if k < beg then 1 else oj RL k
def Sq (beg : Nat) (RS IX : Nat → Int32) (k i : Nat) : Nat := if k < beg then k else oj IX (oj RS k + i)
def Vq (beg N k : Nat) : Prop := k < beg ∨ (beg + 2 ≤ k ∧ k < N)
/-- the reference's chains hold the same rows -/
def Chn (beg N : Nat) (RL RS IX BF LI DP : Nat → Int32) : Prop := (∀ k, k < beg → BF k = -1 ∧ LI k = nI k ∧ DP k = 1) ∧ ∀ k, beg + 2 ≤ k → k < N → ∃ q, Vq beg k q ∧ BF k = nI q ∧ Lq beg RL q + 1 = oj RL k ∧ (∀ i, i < Lq beg RL q → Sq beg RS IX q i = oj IX (oj RS k + i)) ∧ LI k = nI (oj IX (oj RS k + Lq beg RL q)) ∧ DP k = nI (oj RL k)
def Rws (beg N made : Nat) (RL RS : Nat → Int32) : Prop := ∀ k, beg + 2 ≤ k → k < N → 0 < oj RL k ∧ oj RS k + oj RL k ≤ made
theorem Vq.mono {beg N N' k : Nat} (h : Vq beg N k) (hN : N ≤ N') : Vq beg N' k := by
  unfold Vq at *
  omega
theorem Lq_pos {beg N made k : Nat} {RL RS : Nat → Int32} (hR : Rws beg N made RL RS) (hk : Vq beg N k) : 0 < Lq beg RL k := by
  unfold Lq
  by_cases h : k < beg
  · rw [if_pos h]; exact Nat.zero_lt_one
  · rw [if_neg h]
    unfold Vq at hk
    exact (hR k (by omega) (by omega)).1
theorem Chn.dp {beg N k : Nat} {RL RS IX BF LI DP : Nat → Int32} (h : Chn beg N RL RS IX BF LI DP) (hk : Vq beg N k) : DP k = nI (Lq beg RL k) := by
  unfold Lq
  by_cases c : k < beg
  · rw [if_pos c]
    exact (h.1 k c).2.2
  · rw [if_neg c]
    unfold Vq at hk
    obtain ⟨q, -, -, -, -, -, e⟩ := h.2 k (by omega) (by omega)
    exact e
theorem first_L {beg N made : Nat} {RL RS IX BF LI DP : Nat → Int32} (hbeg : beg ≤ 256) (hN : N ≤ 4096) (hR : Rws beg N made RL RS) (h : Chn beg N RL RS IX BF LI DP) {K : Nat} : ∀ (k q : Nat), k < q → Vq beg N k → f_M_firstOf_L2 K BF q (nI k) = some (nI (Sq beg RS IX k 0)) := by
  intro k
  induction k using Nat.strongRecOn with
  | _ k ih =>
    intro q hq hk
    obtain ⟨q, rfl⟩ : ∃ w, q = w + 1 := ⟨q - 1, by omega⟩
    have hk4 : k < 4096 := by unfold Vq at hk; omega
    show (f_M_firstOf_2 K _ BF (nI k)) = _
    unfold f_M_firstOf_2
    rw [if_pos (q_inb hk4 (by omega)), nI_clamp (by omega)]
    by_cases c : k < beg
    · rw [(h.1 k c).1, if_pos (by decide)]
      unfold Sq
      rw [if_pos c]
    · unfold Vq at hk
      obtain ⟨p, hp, e1, e2, e3, -, -⟩ := h.2 k (by omega) (by omega)
      have hp2 : p < k := by unfold Vq at hp; omega
      have hpV : Vq beg N p := hp.mono (by omega)
      rw [e1, if_neg (nI_pos (by omega)), if_pos (q_inb hk4 (by omega)), ih p hp2 q (by omega) hpV, e3 0 (Lq_pos hR hpV)]
      unfold Sq
      rw [if_neg c]
theorem first_ok {beg N made K : Nat} {RL RS IX BF LI DP : Nat → Int32} (hK : 4096 < K) (hbeg : beg ≤ 256) (hN : N ≤ 4096) (hR : Rws beg N made RL RS) (h : Chn beg N RL RS IX BF LI DP) {k : Nat} (hk : Vq beg N k) : f_M_firstOf K (nI k) BF = some (nI (Sq beg RS IX k 0), ()) := by
  have hk4 : k < 4096 := by unfold Vq at hk; omega
  unfold f_M_firstOf
  rw [first_L hbeg hN hR h k K (by omega) hk]
  rfl
theorem give_L {beg N made mk : Nat} {RL RS IX BF LI DP : Nat → Int32} (hbeg : beg ≤ 256) (hN : N ≤ 4096) (hR : Rws beg N mk RL RS) (h : Chn beg N RL RS IX BF LI DP) {K : Nat} {X2 E : Int32} : ∀ (k q : Nat) (RO : Nat → Int32), Vq beg N k → Lq beg RL k < q → made + Lq beg RL k ≤ 16384 → ∃ RO', f_M_giveRow_L36 K (nI made) E DP LI BF X2 q RO (nI k) (nI (Lq beg RL k - 1)) = some RO' ∧ (∀ i, i < Lq beg RL k → RO' (made + i) = q_by (nI (Sq beg RS IX k i))) ∧ ∀ j, j < made ∨ made + Lq beg RL k ≤ j → RO' j = RO j := by
  intro k
  induction k using Nat.strongRecOn with
  | _ k ih =>
    intro q RO hk hq hm
    have hk4 : k < 4096 := by unfold Vq at hk; omega
    have hpos := Lq_pos hR hk
    obtain ⟨q, rfl⟩ : ∃ w, q = w + 1 := ⟨q - 1, by omega⟩
    have e0 : f_M_giveRow_L36 K (nI made) E DP LI BF X2 (q + 1) RO (nI k) (nI (Lq beg RL k - 1)) = (f_M_giveRow_36 K ((f_M_giveRow_L36 K (nI made) E DP LI BF X2) q) (nI made) E DP LI RO BF X2 (nI k) (nI (Lq beg RL k - 1))) := rfl
    rw [e0]
    unfold f_M_giveRow_36
    rw [if_neg (nI_pos (by omega)), if_pos (q_inb hk4 (by omega)), nI_add, if_pos (q_inb (by omega) (by omega)), if_pos (q_inb hk4 (by omega)), nI_clamp (by omega), nI_clamp (by omega), q_by2]
    by_cases c : k < beg
    · have el : Lq beg RL k = 1 := if_pos c
      rw [el, (h.1 k c).2.1]
      obtain ⟨q, rfl⟩ : ∃ w, q = w + 1 := ⟨q - 1, by omega⟩
      refine ⟨upd RO (made + (1 - 1)) (q_by (nI k)), ?_, ?_, ?_⟩
      · show (f_M_giveRow_36 K ((f_M_giveRow_L36 K (nI made) E DP LI BF X2) q) (nI made) E DP LI (upd RO (made + (1 - 1)) (q_by (nI k))) BF X2 (BF k) (nI (1 - 1) + (-1))) = _
        unfold f_M_giveRow_36
        rw [if_pos (show nI (1 - 1) + (-1) < 0 by decide)]
      · intro i hi
        rw [show i = 1 - 1 by omega, upd_at]
        unfold Sq
        rw [if_pos c]
      · intro j hj
        rw [upd_ne _ _ (by omega)]
    · unfold Vq at hk
      obtain ⟨p, hp, e1, e2, e3, e4, -⟩ := h.2 k (by omega) (by omega)
      have hp2 : p < k := by unfold Vq at hp; omega
      have hpV : Vq beg N p := hp.mono (by omega)
      have hpp := Lq_pos hR hpV
      have el : Lq beg RL k = oj RL k := if_neg c
      rw [el] at hm hq ⊢
      rw [← e2] at hm hq ⊢
      rw [Nat.add_sub_cancel, nI_dec hpp, e1, e4]
      obtain ⟨RO', h1, h2, h3⟩ := ih p hp2 q (upd RO (made + Lq beg RL p) (q_by (nI (oj IX (oj RS k + Lq beg RL p))))) hpV (by omega) (by omega)
      refine ⟨RO', h1, ?_, ?_⟩
      · intro i hi
        have es : Sq beg RS IX k i = oj IX (oj RS k + i) := if_neg c
        rw [es]
        by_cases ei : i = Lq beg RL p
        · rw [ei, h3 _ (Or.inr (by omega)), upd_at]
        · rw [h2 i (by omega), e3 i (by omega)]
      · intro j hj
        rw [h3 j (by omega), upd_ne _ _ (by omega)]
theorem give_ok {beg N made mk total k K : Nat} {RL RS IX BF LI DP : Nat → Int32} (hK : 16384 < K) (hbeg : beg ≤ 256) (hN : N ≤ 4096) (hR : Rws beg N mk RL RS) (h : Chn beg N RL RS IX BF LI DP) (hk : Vq beg N k) (hm : made ≤ total) (ht : total ≤ 16384) (hL : Lq beg RL k ≤ 20000) (RO : Nat → Int32) : Gq (made + Lq beg RL k ≤ total) (fun m => ∃ RO', m = some (.inl ((), nI (made + Lq beg RL k), RO')) ∧ (∀ i, i < Lq beg RL k → RO' (made + i) = q_by (nI (Sq beg RS IX k i))) ∧ ∀ j, j < made → RO' j = RO j) (f_M_giveRow K (nI k) (nI made) (nI total) DP LI RO BF) := by
  have hk4 : k < 4096 := by unfold Vq at hk; omega
  have hpos := Lq_pos hR hk
  unfold f_M_giveRow f_M_giveRow_26
  rw [if_pos (q_inb hk4 (by omega)), nI_clamp (by omega), h.dp hk, nI_add]
  by_cases c : made + Lq beg RL k ≤ total
  · obtain ⟨RO', h1, h2, h3⟩ := give_L (made := made) (K := K) (X2 := nI (Lq beg RL k)) (E := nI total) hbeg hN hR h k K RO hk (by omega) (by omega)
    rw [if_neg (nI_nlt c (by omega)), can1, q_tryL, show nI (Lq beg RL k) - 1 = nI (Lq beg RL k - 1) from pk_sub (b := 1) (by omega), h1, q_bind]
    exact Gq.yes c ⟨RO', rfl, h2, fun j hj => h3 j (Or.inl hj)⟩
  · rw [if_pos (nI_lt (by omega) (by omega)), can0, q_tryR]
    exact Gq.no c ⟨_, rfl⟩
theorem copy_L {K made s len : Nat} (hs : s < made) (hm : made + len ≤ 16384) {RL RS IX0 : Nat → Int32} : ∀ (r k q : Nat) (IX : Nat → Int32), k + r = len → r < q → (∀ j, j < made → IX j = IX0 j) → (∀ i, i < k → IX (made + i) = IX (s + i)) → ∃ IX', f_GifReader_unpackRow_L36 K RL RS (nI len) (nI s) q (nI (made + k)) IX (nI k) = some (nI (made + len), IX') ∧ (∀ j, j < made → IX' j = IX0 j) ∧ ∀ i, i < len → IX' (made + i) = IX' (s + i) := by
  intro r
  induction r with
  | zero =>
    intro k q IX hk hq h1 h2
    obtain ⟨q, rfl⟩ : ∃ w, q = w + 1 := ⟨q - 1, by omega⟩
    have e : k = len := by omega
    subst e
    refine ⟨IX, ?_, h1, h2⟩
    show (f_GifReader_unpackRow_36 K _ (nI (made + k)) RL RS IX (nI k) (nI s) (nI k)) = _
    unfold f_GifReader_unpackRow_36
    rw [if_pos (nI_le (by omega) (by omega))]
  | succ r ih =>
    intro k q IX hk hq h1 h2
    obtain ⟨q, rfl⟩ : ∃ w, q = w + 1 := ⟨q - 1, by omega⟩
    obtain ⟨IX', g1, g2, g3⟩ := ih (k + 1) q (upd IX (made + k) (IX (s + k))) (by omega) (by omega) (fun j hj => by rw [upd_ne _ _ (by omega)]; exact h1 j hj) (fun i hi => by
      by_cases e : i = k
      · rw [e, upd_at, upd_ne _ _ (by omega)]
      · rw [upd_ne _ _ (by omega), upd_ne _ _ (by omega)]
        exact h2 i (by omega))
    refine ⟨IX', ?_, g2, g3⟩
    rw [← g1]
    show (f_GifReader_unpackRow_36 K _ (nI (made + k)) RL RS IX (nI len) (nI s) (nI k)) = _
    unfold f_GifReader_unpackRow_36
    rw [if_neg (nI_ge (by omega) (by omega)), nI_add, if_pos (q_inb (by omega) (by omega)), if_pos (q_inb (by omega) (by omega)), nI_clamp (by omega), nI_clamp (by omega), nI_1, nI_1]
    rfl
