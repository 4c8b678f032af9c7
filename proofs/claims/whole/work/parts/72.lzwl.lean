/-! the pure half: LZW read, both sides in step -/
theorem Sq_agr {beg N made k i : Nat} {RL RS IX IX' : Nat → Int32} (hR : Rws beg N made RL RS) (hA : ∀ j, j < made → IX' j = IX j) (hk : Vq beg N k) (hi : i < Lq beg RL k) : Sq beg RS IX' k i = Sq beg RS IX k i := by
  unfold Sq
  by_cases c : k < beg
  · rw [if_pos c, if_pos c]
  · rw [if_neg c, if_neg c]
    have el : Lq beg RL k = oj RL k := if_neg c
    unfold Vq at hk
    have := hR k (by omega) (by omega)
    exact oj_eq (hA _ (by omega))
theorem Chn_agr {beg N made : Nat} {RL RS IX IX' BF LI DP : Nat → Int32} (hR : Rws beg N made RL RS) (hA : ∀ j, j < made → IX' j = IX j) (h : Chn beg N RL RS IX BF LI DP) : Chn beg N RL RS IX' BF LI DP := by
  refine ⟨h.1, fun k h1 h2 => ?_⟩
  obtain ⟨q, e0, e1, e2, e3, e4, e5⟩ := h.2 k h1 h2
  have hr := hR k h1 h2
  refine ⟨q, e0, e1, e2, fun i hi => ?_, ?_, e5⟩
  · rw [Sq_agr hR hA (e0.mono (by omega)) hi, e3 i hi]
    exact oj_eq (hA _ (by omega)).symm
  · rw [e4]
    exact congrArg nI (oj_eq (hA _ (by omega)).symm)
theorem Lq_u {beg N k : Nat} (RL : Nat → Int32) (x : Int32) (h : k ≠ N) : Lq beg (upd RL N x) k = Lq beg RL k := by
  unfold Lq
  rw [oj_ne _ _ h]
theorem Sq_u {beg N k i : Nat} (RS IX : Nat → Int32) (x : Int32) (h : k ≠ N) : Sq beg (upd RS N x) IX k i = Sq beg RS IX k i := by
  unfold Sq
  rw [oj_ne _ _ h]
theorem Chn_ext {beg N made lb pc : Nat} {RL RS IX IX' BF LI DP : Nat → Int32} {f : Int32} (hbN : beg + 2 ≤ N) (hm : made ≤ 16384) (hR : Rws beg N made RL RS) (hA : ∀ j, j < made → IX' j = IX j) (h : Chn beg N RL RS IX BF LI DP) (hpc : Vq beg N pc) (hlb : Lq beg RL pc = lb) (hlm : lb ≤ made) (hs : ∀ i, i < lb → Sq beg RS IX pc i = oj IX (made - lb + i)) (hf : f = nI (oj IX' made)) : Chn beg (N + 1) (upd RL N (nI (lb + 1))) (upd RS N (nI (made - lb))) IX' (upd BF N (nI pc)) (upd LI N f) (upd DP N (nI (lb + 1))) := by
  have h' := Chn_agr hR hA h
  refine ⟨fun k hk => ?_, fun k h1 h2 => ?_⟩
  · rw [upd_ne _ _ (by omega), upd_ne _ _ (by omega), upd_ne _ _ (by omega)]
    exact h'.1 k hk
  · by_cases e : k = N
    · subst e
      have hne : pc ≠ k := by unfold Vq at hpc; omega
      refine ⟨pc, hpc, upd_at _ _ _, ?_, fun i hi => ?_, ?_, ?_⟩
      · rw [Lq_u _ _ hne, hlb, oj_at _ _ (by omega)]
      · rw [Lq_u _ _ hne] at hi
        rw [Sq_u _ _ _ hne, Sq_agr hR hA hpc hi, hs i (by omega), oj_at _ _ (by omega)]
        exact oj_eq (hA _ (by omega)).symm
      · rw [upd_at, hf, oj_at _ _ (by omega), Lq_u _ _ hne, hlb, Nat.sub_add_cancel hlm]
      · rw [upd_at, oj_at _ _ (by omega)]
    · obtain ⟨q, e0, e1, e2, e3, e4, e5⟩ := h'.2 k h1 (by omega)
      have hne : q ≠ N := by unfold Vq at e0; omega
      refine ⟨q, e0, ?_, ?_, fun i hi => ?_, ?_, ?_⟩
      · rw [upd_ne _ _ e]; exact e1
      · rw [Lq_u _ _ hne, oj_ne _ _ e]; exact e2
      · rw [Lq_u _ _ hne] at hi
        rw [Sq_u _ _ _ hne, oj_ne _ _ e]
        exact e3 i hi
      · rw [upd_ne _ _ e, oj_ne _ _ e, Lq_u _ _ hne]; exact e4
      · rw [upd_ne _ _ e, oj_ne _ _ e]; exact e5
theorem Rws_ext {beg N made lb L : Nat} {RL RS : Nat → Int32} (hm : made ≤ 16384) (hR : Rws beg N made RL RS) (hlm : lb ≤ made) (hL : 0 < L) : Rws beg (N + 1) (made + L) (upd RL N (nI (lb + 1))) (upd RS N (nI (made - lb))) := by
  intro k h1 h2
  by_cases e : k = N
  · rw [e, oj_at _ _ (by omega), oj_at _ _ (by omega)]
    omega
  · rw [oj_ne _ _ e, oj_ne _ _ e]
    have := hR k h1 (by omega)
    omega
theorem Rws_m {beg N made L : Nat} {RL RS : Nat → Int32} (hR : Rws beg N made RL RS) : Rws beg N (made + L) RL RS := fun k h1 h2 => by
  have := hR k h1 h2
  omega
/-- what a code's copy leaves -/
def Cpd (beg made c : Nat) (RL RS IX IX' : Nat → Int32) : Prop := (∀ j, j < made → IX' j = IX j) ∧ ∀ i, i < Lq beg RL c → oj IX' (made + i) = Sq beg RS IX' c i
theorem index_ok {beg made total c : Nat} {RL RS IX : Nat → Int32} (hm : made ≤ total) (ht : total ≤ 16384) (hc : c < beg) (hb : beg ≤ 256) : Gq (made + Lq beg RL c ≤ total) (fun m => ∃ IX', m = some (.inl (nI (Lq beg RL c), nI (made + Lq beg RL c), IX')) ∧ Cpd beg made c RL RS IX IX') (f_GifReader_unpackIndex (nI c) (nI total) (nI made) IX) := by
  have el : Lq beg RL c = 1 := if_pos hc
  unfold Cpd
  rw [el]
  unfold f_GifReader_unpackIndex f_GifReader_unpackIndex_13
  by_cases q : made + 1 ≤ total
  · rw [if_neg (nI_ge q (by omega)), need1, q_tryL, if_pos (q_inb (by omega) (by omega)), nI_clamp (by omega), nI_1]
    refine Gq.yes q ⟨_, rfl, fun j hj => by rw [upd_ne _ _ (by omega)], fun i hi => ?_⟩
    have ei : i = 0 := by omega
    rw [ei, Nat.add_zero, oj_at _ _ (by omega)]
    exact (if_pos hc).symm
  · rw [if_pos (nI_le (by omega) (by omega)), need0, q_tryR]
    exact Gq.no q ⟨_, rfl⟩
theorem row_ok {K beg made total c : Nat} {RL RS IX : Nat → Int32} (hK : 16384 < K) (hm : made ≤ total) (ht : total ≤ 16384) (hc : beg ≤ c) (hc2 : c < 4096) (hs : oj RS c < made) (hl : oj RL c ≤ 20000) : Gq (made + Lq beg RL c ≤ total) (fun m => ∃ IX', m = some (.inl (nI (Lq beg RL c), nI (made + Lq beg RL c), IX')) ∧ Cpd beg made c RL RS IX IX') (f_GifReader_unpackRow K (nI c) (nI total) (nI made) RL RS IX) := by
  have el : Lq beg RL c = oj RL c := if_neg (by omega)
  unfold Cpd
  rw [el]
  unfold f_GifReader_unpackRow f_GifReader_unpackRow_22
  rw [if_pos (q_inb hc2 (by omega)), nI_clamp (by omega), oj_ok RL c, oj_ok RS c, pk_sub hm]
  by_cases q : made + oj RL c ≤ total
  · obtain ⟨IX', h1, h2, h3⟩ := copy_L (K := K) (RL := RL) (RS := RS) (IX0 := IX) hs (show made + oj RL c ≤ 16384 by omega) (oj RL c) 0 K IX (by omega) (by omega) (fun _ _ => rfl) (fun i hi => absurd hi (Nat.not_lt_zero _))
    rw [if_neg (nI_nlt (by omega) (by omega)), need1, q_tryL, if_pos (q_inb hc2 (by omega))]
    have h1' : f_GifReader_unpackRow_L36 K RL RS (nI (oj RL c)) (nI (oj RS c)) K (nI made) IX 0 = _ := h1
    rw [h1', q_bind]
    refine Gq.yes q ⟨IX', rfl, h2, fun i hi => ?_⟩
    have es : Sq beg RS IX' c i = oj IX' (oj RS c + i) := if_neg (by omega)
    rw [es]
    exact oj_eq (h3 i hi)
  · rw [if_pos (nI_lt (by omega) (by omega)), need0, q_tryR]
    exact Gq.no q ⟨_, rfl⟩
/-- the class's loops that may end, run out, or find it broken -/
def Lj {α β ε α' ε' : Type} (R : α → α' → Prop) (m : Option (α ⊕ (β ⊕ (Nat × ε)))) (m' : Option (α' ⊕ (Nat × ε'))) : Prop := ((∃ u, m = some (.inr (.inr (3, u)))) ∧ Th 3 m') ∨ ∃ a b, m = some (.inl a) ∧ m' = some (.inl b) ∧ R a b
theorem Lj.try {α ε α' ε' β β2 δ β' δ' : Type} {R : α → α' → Prop} {R' : β → β' → Prop} {m : Option (α ⊕ (Nat × ε))} {m' : Option (α' ⊕ (Nat × ε'))} {f : α → Option (β ⊕ (β2 ⊕ (Nat × δ)))} {g : Nat × ε → Option (β ⊕ (β2 ⊕ (Nat × δ)))} {f' : α' → Option (β' ⊕ (Nat × δ'))} {g' : Nat × ε' → Option (β' ⊕ (Nat × δ'))} (h : Lk R m m') (hg : ∀ u, ∃ u', g (3, u) = some (.inr (.inr (3, u')))) (hg' : ∀ u, ∃ u', g' (3, u) = some (.inr (3, u'))) (hf : ∀ a b, R a b → Lj R' (f a) (f' b)) : Lj R' (dc_try m f g) (dc_try m' f' g') := by
  rcases h with ⟨⟨u, hu⟩, ⟨v, hv⟩⟩ | ⟨a, b, ha, hb, hR⟩
  · rw [hu, hv, q_tryR, q_tryR]
    exact Or.inl ⟨hg u, hg' v⟩
  · rw [ha, hb, q_tryL, q_tryL]
    exact hf a b hR
theorem Ex.gqU {α ε : Type} {φ : Prop} {a : α} {m : Option (α ⊕ (Nat × ε))} (h : Ex φ a m) : Gq φ (fun m => ∃ _u : Unit, m = some (.inl a) ∧ True) m := ⟨fun q => ⟨(), h.1 q, trivial⟩, h.2⟩
def Px (made : Nat) (IX RO : Nat → Int32) : Prop := ∀ j, j < made → oj IX j < 256 ∧ RO j = q_by (nI (oj IX j))
theorem Px_s {beg N made c L : Nat} {RL RS IX IX' RO RO' : Nat → Int32} (hbeg : beg ≤ 256) (hP : Px made IX RO) (hC : Cpd beg made c RL RS IX IX') (hL : Lq beg RL c = L) (hc : Vq beg N c) (hs : c < beg ∨ oj RS c < made) (h1 : ∀ i, i < L → RO' (made + i) = q_by (nI (Sq beg RS IX' c i))) (h2 : ∀ j, j < made → RO' j = RO j) : Px (made + L) IX' RO' := by
  have hlt : ∀ i, i < L → oj IX' (made + i) < 256 := by
    intro i
    induction i using Nat.strongRecOn with
    | _ i ih =>
      intro hi
      rw [hC.2 i (by omega)]
      unfold Sq
      by_cases q : c < beg
      · rw [if_pos q]; omega
      · rw [if_neg q]
        by_cases q2 : oj RS c + i < made
        · rw [oj_eq (hC.1 _ q2)]
          exact (hP _ q2).1
        · have := ih (oj RS c + i - made) (by omega) (by omega)
          rw [show made + (oj RS c + i - made) = oj RS c + i by omega] at this
          exact this
  intro j hj
  by_cases q : j < made
  · rw [oj_eq (hC.1 j q), h2 j q]
    exact hP j q
  · have h := hlt (j - made) (by omega)
    have h3 := h1 (j - made) (by omega)
    rw [← hC.2 (j - made) (by omega)] at h3
    rw [show made + (j - made) = j by omega] at h h3
    exact ⟨h, h3⟩
theorem give_no {K made total k L : Nat} {LI DP BF RO : Nat → Int32} (hk4 : k < 4096) (hm : made ≤ 16384) (hL : L ≤ 20000) (hd : DP k = nI L) (h : ¬ made + L ≤ total) : Th 3 (f_M_giveRow K (nI k) (nI made) (nI total) DP LI RO BF) := by
  unfold f_M_giveRow f_M_giveRow_26
  rw [if_pos (q_inb hk4 (by omega)), nI_clamp (by omega), hd, nI_add, if_pos (nI_lt (by omega) (by omega)), can0, q_tryR]
  exact ⟨_, rfl⟩
def Iv (beg N made lb : Nat) (x5 : Int32) (RL RS IX BF LI DP RO : Nat → Int32) : Prop := Chn beg N RL RS IX BF LI DP ∧ Rws beg N made RL RS ∧ Px made IX RO ∧ ((lb = 0 ∧ x5 = -1 ∧ N = beg + 2) ∨ (0 < lb ∧ lb ≤ made ∧ ∃ pc, x5 = nI pc ∧ Vq beg N pc ∧ Lq beg RL pc = lb ∧ ∀ i, i < lb → Sq beg RS IX pc i = oj IX (made - lb + i)))
def RU (total : Nat) (x : Int32 × Int32 × Int32 × Int32 × (Nat → Int32) × (Nat → Int32) × (Nat → Int32)) (y : Int32 × Int32 × (Nat → Int32) × (Nat → Int32) × (Nat → Int32) × (Nat → Int32)) : Prop := ∃ made, x.1 = nI made ∧ y.2.1 = nI made ∧ made ≤ total ∧ Px made x.2.2.2.2.2.2 y.2.2.2.2.2
theorem Chn_bf {beg N : Nat} {RL RS IX BF LI DP : Nat → Int32} (x : Int32) (hN : beg + 2 ≤ N) (h : Chn beg N RL RS IX BF LI DP) : Chn beg N RL RS IX (upd BF N x) LI DP := by
  refine ⟨fun k hk => by rw [upd_ne _ _ (by omega)]; exact h.1 k hk, fun k h1 h2 => ?_⟩
  rw [upd_ne _ _ (by omega)]
  exact h.2 k h1 h2
theorem unp_L {K g mm m beg total : Nat} {T D : Nat → Int32} {dat : Nat → Nat} (hK : 600000 < K) (ht : Dt g mm T dat) (hD : Dt 0 mm D dat) (hg : g + mm ≤ 65536) (hm2 : 2 ≤ m) (hm8 : m ≤ 8) (hbeg : beg = 2 ^ m) (hbeg2 : beg ≤ 256) (htot : total ≤ 16384) : ∀ (r b a held rd bits N made lb qD qM : Nat) (RS RL IX BF LI DP RO : Nat → Int32) (x5 : Int32), 8 * mm - b ≤ r → r < qD → r < qM → b ≤ 8 * mm → 8 * a = b + held → a ≤ mm → held < 8 → rd ≤ b → 1 ≤ bits → bits ≤ 12 → beg + 2 ≤ N → N ≤ 4096 → made ≤ total → Iv beg N made lb x5 RL RS IX BF LI DP RO → Lj (RU total) (f_GifReader_unpack_L25 K (nI (g + mm)) T (nI m) (nI total) (nI beg) qD (nI made) (nI (g + a)) (nI (vN dat b held)) (nI held) RS RL IX (nI bits) (nI N) (nI lb) (nI rd)) (f_M_unrows_L55 K (nI mm) (nI total) D (nI m) (nI beg) qM (nI b) (nI made) BF LI DP RO (nI N) (nI bits) x5) := by
  intro r
  induction r using Nat.strongRecOn with
  | _ r ih =>
    intro b a held rd bits N made lb qD qM RS RL IX BF LI DP RO x5 hr hqD hqM hb hab ham hheld hrd hb1 hb12 hN1 hN2 hmade hI
    obtain ⟨qD, rfl⟩ : ∃ w, qD = w + 1 := ⟨qD - 1, by omega⟩
    obtain ⟨qM, rfl⟩ : ∃ w, qM = w + 1 := ⟨qM - 1, by omega⟩
    show Lj _ (f_GifReader_unpack_25 K _ (nI made) (nI (g + a)) (nI (g + mm)) (nI (vN dat b held)) (nI held) T RS RL IX (nI m) (nI total) (nI beg) (nI bits) (nI N) (nI lb) (nI rd)) (f_M_unrows_55 K _ (nI mm) (nI b) (nI made) (nI total) BF LI DP D RO (nI m) (nI beg) (nI N) (nI bits) x5)
    unfold f_GifReader_unpack_25 f_M_unrows_55
    rw [if_neg (show ¬ (1000000 : Int32) ≤ nI rd from show ¬ nI 1000000 ≤ nI rd from nI_ge (by omega) (by omega))]
    refine Lj.try (Lk.ofGq (bitsD (K := K) (x := bits) (by omega) ht hg (by omega) hab ham hheld) (Ex.gqU (bitsM (K := K) (x := bits) (by omega) hD (by omega) (by omega) hb))) (fun u => ⟨_, rfl⟩) (fun u => ⟨_, rfl⟩) (fun x y hxy => ?_)
    obtain ⟨hav, ⟨a', held'⟩, -, rfl, rfl, ⟨h1, h2, h3⟩, -⟩ := hxy
    dsimp only at h1 h2 h3 ⊢
    have hc2 : vN dat b bits < 4096 := Nat.lt_of_lt_of_le (vN_lt dat b bits) (Nat.le_trans (Nat.pow_le_pow_right (by omega) hb12) (by decide))
    generalize vN dat b bits = c at hc2 ⊢
    rw [show nI beg + 1 = nI (beg + 1) from nI_1 beg]
    have hgive : ∀ (N' : Nat) (RL' RS' BF' LI' DP' : Nat → Int32), Vq beg N' c → beg + 2 ≤ N' → N' ≤ 4096 → (c < beg ∨ (oj RS' c < made ∧ oj RL' c ≤ 20000)) → Rws beg N' (made + Lq beg RL' c) RL' RS' → DP' c = nI (Lq beg RL' c) → (∀ IX', Cpd beg made c RL' RS' IX IX' → Chn beg N' RL' RS' IX' BF' LI' DP') → Lj (RU total) (f_GifReader_unpack_143 K ((f_GifReader_unpack_L25 K (nI (g + mm)) T (nI m) (nI total) (nI beg)) qD) (nI made) (nI (g + a')) (nI (g + mm)) (nI (vN dat (b + bits) held')) (nI held') T RS' RL' IX (nI m) (nI total) (nI beg) (nI bits) (nI N') (nI rd) (nI c) 1) (f_M_unrows_200 K ((f_M_unrows_L55 K (nI mm) (nI total) D (nI m) (nI beg)) qM) (nI mm) (nI (b + bits)) (nI made) (nI total) BF' LI' DP' D RO (nI m) (nI beg) (nI N') (nI bits) (nI c)) := by
      intro N' RL' RS' BF' LI' DP' hV hN3 hN4 hs hRw hdp hCh
      have hLp := Lq_pos hRw hV
      have hL2 : Lq beg RL' c ≤ 20000 := by
        unfold Lq
        by_cases q : c < beg
        · rw [if_pos q]; omega
        · rw [if_neg q]; rcases hs with q2 | q2
          · exact absurd q2 q
          · exact q2.2
      have hs2 : c < beg ∨ oj RS' c < made := hs.imp id (fun q => q.1)
      have hnext : ∀ (IX' RO' : Nat → Int32) (bits' : Nat), 1 ≤ bits' → bits' ≤ 12 → Cpd beg made c RL' RS' IX IX' → Px (made + Lq beg RL' c) IX' RO' → made + Lq beg RL' c ≤ total → Lj (RU total) (f_GifReader_unpack_L25 K (nI (g + mm)) T (nI m) (nI total) (nI beg) qD (nI (made + Lq beg RL' c)) (nI (g + a')) (nI (vN dat (b + bits) held')) (nI held') RS' RL' IX' (nI bits') (nI N') (nI (Lq beg RL' c)) (nI (rd + 1))) (f_M_unrows_L55 K (nI mm) (nI total) D (nI m) (nI beg) qM (nI (b + bits)) (nI (made + Lq beg RL' c)) BF' LI' DP' RO' (nI N') (nI bits') (nI c)) := by
        intro IX' RO' bits' q1 q2 hC hP q3
        exact ih (8 * mm - (b + bits)) (by omega) (b + bits) a' held' (rd + 1) bits' N' (made + Lq beg RL' c) (Lq beg RL' c) qD qM RS' RL' IX' BF' LI' DP' RO' (nI c) (by omega) (by omega) (by omega) hav h1 h2 h3 (by omega) q1 q2 hN3 hN4 q3 ⟨hCh IX' hC, hRw, hP, Or.inr ⟨hLp, by omega, c, rfl, hV, rfl, fun i hi => by rw [Nat.add_sub_cancel]; exact (hC.2 i hi).symm⟩⟩
      have h169 : ∀ (IX' RO' : Nat → Int32), Cpd beg made c RL' RS' IX IX' → Px (made + Lq beg RL' c) IX' RO' → made + Lq beg RL' c ≤ total → Lj (RU total) (f_GifReader_unpack_169 K ((f_GifReader_unpack_L25 K (nI (g + mm)) T (nI m) (nI total) (nI beg)) qD) (nI (made + Lq beg RL' c)) (nI (g + a')) (nI (g + mm)) (nI (vN dat (b + bits) held')) (nI held') T RS' RL' IX' (nI m) (nI total) (nI beg) (nI bits) (nI N') (nI rd) (nI (Lq beg RL' c))) (if nI N' = ((1 : Int32) <<< (nI bits &&& 31)) then (if (12 : Int32) ≤ nI bits then (f_M_unrows_228 K ((f_M_unrows_L55 K (nI mm) (nI total) D (nI m) (nI beg)) qM) (nI mm) (nI (b + bits)) (nI (made + Lq beg RL' c)) (nI total) BF' LI' DP' D RO' (nI m) (nI beg) (nI N') (nI bits) (nI c)) else (f_M_unrows_228 K ((f_M_unrows_L55 K (nI mm) (nI total) D (nI m) (nI beg)) qM) (nI mm) (nI (b + bits)) (nI (made + Lq beg RL' c)) (nI total) BF' LI' DP' D RO' (nI m) (nI beg) (nI N') (nI bits + 1) (nI c))) else (f_M_unrows_228 K ((f_M_unrows_L55 K (nI mm) (nI total) D (nI m) (nI beg)) qM) (nI mm) (nI (b + bits)) (nI (made + Lq beg RL' c)) (nI total) BF' LI' DP' D RO' (nI m) (nI beg) (nI N') (nI bits) (nI c))) := by
        intro IX' RO' hC hP q3
        unfold f_GifReader_unpack_169 f_M_unrows_228 f_GifReader_unpack_190
        rw [nI_1 rd, nI_1 bits]
        by_cases e1 : nI N' = ((1 : Int32) <<< (nI bits &&& 31))
        · rw [if_pos e1, if_pos e1]
          by_cases e2 : bits < 12
          · have e3 : ¬ (12 : Int32) ≤ nI bits := show ¬ nI 12 ≤ nI bits from nI_ge (by omega) (by omega)
            rw [if_neg e3, if_neg e3]
            exact hnext IX' RO' (bits + 1) (by omega) (by omega) hC hP q3
          · have e3 : (12 : Int32) ≤ nI bits := show nI 12 ≤ nI bits from nI_le (by omega) (by omega)
            rw [if_pos e3, if_pos e3]
            exact hnext IX' RO' bits (by omega) (by omega) hC hP q3
        · rw [if_neg e1, if_neg e1]
          exact hnext IX' RO' bits (by omega) (by omega) hC hP q3
      unfold f_GifReader_unpack_143 f_M_unrows_200
      rw [need1, q_tryL]
      have hG : ∀ (m : Option ((Int32 × (Int32 × (Nat → Int32))) ⊕ (Nat × (Int32 × (Nat → Int32))))), Gq (made + Lq beg RL' c ≤ total) (fun m => ∃ IX', m = some (.inl (nI (Lq beg RL' c), nI (made + Lq beg RL' c), IX')) ∧ Cpd beg made c RL' RS' IX IX') m → Lk (fun x y => made + Lq beg RL' c ≤ total ∧ ∃ IX' RO', x = (nI (Lq beg RL' c), nI (made + Lq beg RL' c), IX') ∧ y = ((), nI (made + Lq beg RL' c), RO') ∧ Cpd beg made c RL' RS' IX IX' ∧ Px (made + Lq beg RL' c) IX' RO') m (f_M_giveRow K (nI c) (nI made) (nI total) DP' LI' RO BF') := by
        intro m hm
        by_cases q : made + Lq beg RL' c ≤ total
        · obtain ⟨IX', e1, hC⟩ := hm.1 q
          obtain ⟨RO', e2, k1, k2⟩ := (give_ok (K := K) (by omega) hbeg2 hN4 hRw (hCh IX' hC) hV hmade htot hL2 RO).1 q
          exact Or.inr ⟨_, _, e1, e2, q, IX', RO', rfl, rfl, hC, Px_s hbeg2 hI.2.2.1 hC rfl hV hs2 k1 k2⟩
        · exact Lk.no (hm.2 q) (give_no hc2 (by omega) hL2 hdp q)
      by_cases hcb : c < beg
      · rw [if_neg (show ¬ nI beg ≤ nI c from nI_ge hcb (by omega))]
        refine Lj.try (hG _ (index_ok hmade htot hcb hbeg2)) (fun u => ⟨_, rfl⟩) (fun u => ⟨_, rfl⟩) (fun x y hxy => ?_)
        obtain ⟨q, IX', RO', rfl, rfl, hC, hP⟩ := hxy
        exact h169 IX' RO' hC hP q
      · have hs3 : oj RS' c < made ∧ oj RL' c ≤ 20000 := by
          rcases hs with q | q
          · exact absurd q hcb
          · exact q
        rw [if_pos (show nI beg ≤ nI c from nI_le (by omega) (by omega))]
        refine Lj.try (hG _ (row_ok (K := K) (by omega) hmade htot (by omega) hc2 hs3.1 hs3.2)) (fun u => ⟨_, rfl⟩) (fun u => ⟨_, rfl⟩) (fun x y hxy => ?_)
        obtain ⟨q, IX', RO', rfl, rfl, hC, hP⟩ := hxy
        exact h169 IX' RO' hC hP q
    by_cases ce : c = beg + 1
    · rw [if_pos (show nI c = nI (beg + 1) by rw [ce]), if_pos (show nI c = nI (beg + 1) by rw [ce])]
      exact Or.inr ⟨_, _, rfl, rfl, made, rfl, rfl, hmade, hI.2.2.1⟩
    have nce : ¬ nI c = nI (beg + 1) := fun q => ce ((nI_eq32 (by omega) (by omega)).mp q)
    rw [if_neg nce, if_neg nce]
    by_cases cb : c = beg
    · rw [if_pos (show nI c = nI beg by rw [cb]), if_pos (show nI c = nI beg by rw [cb])]
      unfold f_GifReader_unpack_190
      rw [nI_1 rd, nI_1 m, show nI beg + 2 = nI (beg + 2) from nI_add beg 2]
      exact ih (8 * mm - (b + bits)) (by omega) (b + bits) a' held' (rd + 1) (m + 1) (beg + 2) made 0 qD qM RS RL IX BF LI DP RO (-1) (by omega) (by omega) (by omega) hav h1 h2 h3 (by omega) (by omega) (by omega) (by omega) (by omega) hmade ⟨⟨hI.1.1, fun k q1 q2 => by omega⟩, fun k q1 q2 => by omega, hI.2.2.1, Or.inl ⟨rfl, rfl, rfl⟩⟩
    have ncb : ¬ nI c = nI beg := fun q => cb ((nI_eq32 (by omega) (by omega)).mp q)
    rw [if_neg ncb, if_neg ncb]
    obtain ⟨hC, hR, hP, hprev⟩ := hI
    rcases hprev with ⟨e0, e5, eN⟩ | ⟨e0, elm, pc, e5, hpc, eL, hS⟩
    · subst e0
      rw [e5, if_pos (show nI 0 ≤ 0 by decide), if_neg (show ¬ (0 : Int32) ≤ -1 by decide)]
      unfold f_GifReader_unpack_131 f_M_unrows_110
      by_cases hcb : c < beg
      · rw [if_neg (show ¬ nI N ≤ nI c from nI_ge (by omega) (by omega)), if_neg (show ¬ nI beg ≤ nI c from nI_ge hcb (by omega)), can1, q_tryL]
        exact hgive N RL RS BF LI DP (Or.inl hcb) hN1 hN2 (Or.inl hcb) (Rws_m hR) (hC.dp (Or.inl hcb)) (fun IX' h => Chn_agr hR h.1 hC)
      · rw [if_pos (show nI N ≤ nI c from nI_le (by omega) (by omega)), if_pos (show nI beg ≤ nI c from nI_le (by omega) (by omega)), can0, q_tryR]
        unfold f_GifReader_unpack_143
        rw [need0, q_tryR]
        exact Or.inl ⟨⟨_, rfl⟩, ⟨_, rfl⟩⟩
    · have hpc4 : pc < 4096 := by unfold Vq at hpc; omega
      rw [e5, if_neg (show ¬ nI lb ≤ 0 from nI_ge (a := 0) e0 (by omega)), if_pos (show (0 : Int32) ≤ nI pc from nI_le (a := 0) (by omega) (by omega))]
      unfold f_GifReader_unpack_131 f_M_unrows_136 f_M_unrows_140 f_M_unrows_141
      by_cases hN : N < 4096
      · have nN : ¬ (4096 : Int32) ≤ nI N := show ¬ nI 4096 ≤ nI N from nI_ge (by omega) (by omega)
        rw [if_neg nN, if_pos (q_inb hN (by omega)), if_pos (q_inb hN (by omega)), nI_clamp (by omega), pk_sub elm, nI_1 lb, nI_1 N]
        by_cases hcN : c ≤ N
        · rw [if_neg (show ¬ nI (N + 1) ≤ nI c from nI_ge (by omega) (by omega))]
          have hV1 : Vq beg (N + 1) c := by unfold Vq; omega
          have hdp : DP pc = nI lb := by rw [hC.dp hpc, eL]
          by_cases hlt : c < N
          · have hV0 : Vq beg N c := by unfold Vq; omega
            have ncN : ¬ nI c = nI N := fun q => by have := (nI_eq32 (by omega) (by omega)).mp q; omega
            rw [if_pos (show nI c < nI N from nI_lt hlt (by omega)), can1, q_tryL, if_neg nN, if_pos (q_inb hN (by omega)), if_neg ncN]
            unfold f_M_unrows_178
            rw [nI_clamp (show N < 2 ^ 31 by omega), first_ok (K := K) (by omega) hbeg2 hN2 hR (Chn_bf (nI pc) hN1 hC) hV0, q_bind, if_pos (q_inb hN (by omega)), if_pos (q_inb hpc4 (by omega)), if_pos (q_inb hN (by omega)), nI_clamp (show pc < 2 ^ 31 by omega), hdp, nI_1 lb, nI_1 N]
            have el : Lq beg (upd RL N (nI (lb + 1))) c = Lq beg RL c := Lq_u _ _ (by omega)
            have hrc := Lq_pos hR hV0
            refine hgive (N + 1) (upd RL N (nI (lb + 1))) (upd RS N (nI (made - lb))) (upd BF N (nI pc)) (upd LI N (nI (Sq beg RS IX c 0))) (upd DP N (nI (lb + 1))) hV1 (by omega) (by omega) ?_ ?_ ?_ (fun IX' h => ?_)
            · by_cases q : c < beg
              · exact Or.inl q
              · have := hR c (by omega) hlt
                rw [oj_ne _ _ (show c ≠ N by omega), oj_ne _ _ (show c ≠ N by omega)]
                exact Or.inr ⟨by omega, by omega⟩
            · rw [el]
              exact Rws_ext (by omega) hR elm hrc
            · rw [el, upd_ne _ _ (show c ≠ N by omega)]
              exact hC.dp hV0
            · have h0 := h.2 0 (by rw [el]; exact hrc)
              rw [Nat.add_zero, Sq_u _ _ _ (show c ≠ N by omega), Sq_agr hR h.1 hV0 hrc] at h0
              exact Chn_ext hN1 (by omega) hR h.1 hC hpc eL elm hS (by rw [h0])
          · have ecN : c = N := by omega
            subst ecN
            rw [if_neg (show ¬ nI c < nI c from nI_nlt (by omega) (by omega)), if_pos (show nI c = nI c from rfl), if_neg nN, can1, q_tryL, if_neg nN, if_pos (q_inb hN (by omega)), if_pos (show nI c = nI c from rfl)]
            unfold f_M_unrows_178
            rw [nI_clamp (show c < 2 ^ 31 by omega), first_ok (K := K) (by omega) hbeg2 hN2 hR (Chn_bf (nI pc) hN1 hC) hpc, q_bind, if_pos (q_inb hN (by omega)), if_pos (q_inb hpc4 (by omega)), if_pos (q_inb hN (by omega)), nI_clamp (show pc < 2 ^ 31 by omega), hdp, nI_1 lb, nI_1 c]
            have el : Lq beg (upd RL c (nI (lb + 1))) c = lb + 1 := by
              unfold Lq
              rw [if_neg (by omega), oj_at _ _ (by omega)]
            refine hgive (c + 1) (upd RL c (nI (lb + 1))) (upd RS c (nI (made - lb))) (upd BF c (nI pc)) (upd LI c (nI (Sq beg RS IX pc 0))) (upd DP c (nI (lb + 1))) hV1 (by omega) (by omega) ?_ ?_ ?_ (fun IX' h => ?_)
            · rw [oj_at _ _ (by omega), oj_at _ _ (by omega)]
              exact Or.inr ⟨by omega, by omega⟩
            · rw [el]
              exact Rws_ext (by omega) hR elm (by omega)
            · rw [el, upd_at]
            · have h0 := h.2 0 (by rw [el]; omega)
              have es : Sq beg (upd RS c (nI (made - lb))) IX' c 0 = oj IX' (made - lb + 0) := by
                unfold Sq
                rw [if_neg (by omega), oj_at _ _ (by omega)]
              rw [Nat.add_zero, es, oj_eq (h.1 (made - lb + 0) (by omega)), ← hS 0 e0] at h0
              exact Chn_ext hN1 (by omega) hR h.1 hC hpc eL elm hS (by rw [h0])
        · rw [if_pos (show nI (N + 1) ≤ nI c from nI_le (by omega) (by omega)), if_neg (show ¬ nI c < nI N from nI_nlt (by omega) (by omega)), if_neg (show ¬ nI c = nI N from fun q => by have := (nI_eq32 (by omega) (by omega)).mp q; omega), can0, q_tryR]
          unfold f_GifReader_unpack_143
          rw [need0, q_tryR]
          exact Or.inl ⟨⟨_, rfl⟩, ⟨_, rfl⟩⟩
      · have nN : (4096 : Int32) ≤ nI N := show nI 4096 ≤ nI N from nI_le (by omega) (by omega)
        have hV0 : Vq beg N c := by unfold Vq; omega
        rw [if_pos nN, if_neg (show ¬ nI N ≤ nI c from nI_ge (by omega) (by omega)), if_pos (show nI c < nI N from nI_lt (by omega) (by omega)), can1, q_tryL, if_pos nN]
        refine hgive N RL RS BF LI DP hV0 hN1 hN2 ?_ (Rws_m hR) (hC.dp hV0) (fun IX' h => Chn_agr hR h.1 hC)
        by_cases q : c < beg
        · exact Or.inl q
        · have := hR c (by omega) (by omega)
          exact Or.inr ⟨by omega, by omega⟩
theorem fstM_L {K m beg : Nat} {SZ BA RB EX : Int32} {D RO : Nat → Int32} (hbeg2 : beg ≤ 256) : ∀ (r k q : Nat) (BF LI DP : Nat → Int32), k + r = beg → r < q → (∀ j, j < k → BF j = -1 ∧ LI j = nI j ∧ DP j = 1) → ∃ BF' LI' DP', (f_M_unrows_L6 K SZ BA RB EX D RO (nI m) (nI beg) q BF LI DP (nI k)) = some (BF', LI', DP') ∧ ∀ j, j < beg → BF' j = -1 ∧ LI' j = nI j ∧ DP' j = 1 := by
  intro r
  induction r with
  | zero =>
    intro k q BF LI DP hk hq h
    obtain ⟨q, rfl⟩ : ∃ w, q = w + 1 := ⟨q - 1, by omega⟩
    have e : k = beg := by omega
    subst e
    refine ⟨BF, LI, DP, ?_, h⟩
    show (f_M_unrows_6 K _ SZ BA RB EX BF LI DP D RO (nI m) (nI k) (nI k)) = _
    unfold f_M_unrows_6
    rw [if_pos (nI_le (by omega) (by omega))]
  | succ r ih =>
    intro k q BF LI DP hk hq h
    obtain ⟨q, rfl⟩ : ∃ w, q = w + 1 := ⟨q - 1, by omega⟩
    obtain ⟨BF', LI', DP', h1, h2⟩ := ih (k + 1) q (upd BF k (-1)) (upd LI k (nI k)) (upd DP k 1) (by omega) (by omega) (fun j hj => by
      by_cases e : j = k
      · rw [e, upd_at, upd_at, upd_at]
        exact ⟨rfl, rfl, rfl⟩
      · rw [upd_ne _ _ e, upd_ne _ _ e, upd_ne _ _ e]
        exact h j (by omega))
    refine ⟨BF', LI', DP', ?_, h2⟩
    rw [← h1]
    show (f_M_unrows_6 K _ SZ BA RB EX BF LI DP D RO (nI m) (nI beg) (nI k)) = _
    unfold f_M_unrows_6
    rw [if_neg (nI_ge (by omega) (by omega)), if_pos (q_inb (by omega) (by omega)), if_pos (q_inb (by omega) (by omega)), if_pos (q_inb (by omega) (by omega)), nI_clamp (by omega), nI_1]
theorem beg_ok : ∀ m, m ≤ 8 → (1 : Int32) <<< (nI m &&& 31) = nI (2 ^ m) := by decide +kernel
theorem pow_b {m : Nat} (h : m ≤ 8) : 2 ^ m ≤ 256 := Nat.pow_le_pow_right (n := 2) (by omega) h
theorem unpack_ok {K g mm m total : Nat} {T D : Nat → Int32} {dat : Nat → Nat} (hK : 600000 < K) (ht : Dt g mm T dat) (hD : Dt 0 mm D dat) (hg : g + mm ≤ 65536) (hm2 : 2 ≤ m) (hm8 : m ≤ 8) (htot : total ≤ 16384) (RS RL IX BF LI DP RO : Nat → Int32) (MD BA : Int32) : (Th 3 (f_GifReader_unpack K (nI m) (nI total) MD (nI g) (nI (g + mm)) 0 0 T RS RL IX) ∧ (Th 3 (f_M_unrows K (nI m) (nI mm) BA 0 (nI total) BF LI DP D RO) ∨ ∃ y, (f_M_unrows K (nI m) (nI mm) BA 0 (nI total) BF LI DP D RO) = some (.inl y) ∧ ¬ y.2.2.1 = nI total)) ∨ ∃ x y, (f_GifReader_unpack K (nI m) (nI total) MD (nI g) (nI (g + mm)) 0 0 T RS RL IX) = some (.inl x) ∧ (f_M_unrows K (nI m) (nI mm) BA 0 (nI total) BF LI DP D RO) = some (.inl y) ∧ y.2.2.1 = nI total ∧ Px total x.2.2.2.2.2.2.2 y.2.2.2.2.2.2 := by
  obtain ⟨BF', LI', DP', e1, e2⟩ := fstM_L (K := K) (m := m) (SZ := nI mm) (BA := BA) (RB := 0) (EX := nI total) (D := D) (RO := RO) (pow_b hm8) (2 ^ m) 0 K BF LI DP (by omega) (by have := pow_b hm8; omega) (fun j hj => absurd hj (Nat.not_lt_zero _))
  have hL := unp_L (K := K) hK ht hD hg hm2 hm8 rfl (pow_b hm8) htot (8 * mm) 0 0 0 0 (m + 1) (2 ^ m + 2) 0 0 K K RS RL IX BF' LI' DP' RO (-1) (by omega) (by omega) (by omega) (by omega) (by omega) (by omega) (by omega) (by omega) (by omega) (by omega) (by omega) (by have := pow_b hm8; omega) (by omega) ⟨⟨e2, fun k q1 q2 => by omega⟩, fun k q1 q2 => by omega, fun j hj => absurd hj (Nat.not_lt_zero _), Or.inl ⟨rfl, rfl, rfl⟩⟩
  unfold f_GifReader_unpack f_M_unrows
  rw [beg_ok m hm8, show nI (2 ^ m) + 2 = nI (2 ^ m + 2) from nI_add _ 2, nI_1 m]
  have e1' : (f_M_unrows_L6 K (nI mm) BA 0 (nI total) D RO (nI m) (nI (2 ^ m)) K BF LI DP 0) = _ := e1
  rw [e1', q_bind]
  have hL' : Lj (RU total) (f_GifReader_unpack_L25 K (nI (g + mm)) T (nI m) (nI total) (nI (2 ^ m)) K 0 (nI g) 0 0 RS RL IX (nI (m + 1)) (nI (2 ^ m + 2)) 0 0) (f_M_unrows_L55 K (nI mm) (nI total) D (nI m) (nI (2 ^ m)) K 0 0 BF' LI' DP' RO (nI (2 ^ m + 2)) (nI (m + 1)) (-1)) := hL
  rcases hL' with ⟨⟨u, hu⟩, ⟨v, hv⟩⟩ | ⟨x, y, hx, hy, made, f1, f2, f3, f4⟩
  · rw [hu, hv]
    exact Or.inl ⟨⟨_, rfl⟩, Or.inl ⟨_, rfl⟩⟩
  · rw [hx, hy]
    unfold f_GifReader_unpack_64
    by_cases e : made = total
    · refine Or.inr ?_
      show ∃ x', ∃ y', (if x.1 = nI total then _ else _) = _ ∧ _
      rw [if_pos (show x.1 = nI total by rw [f1, e]), need1, q_tryL]
      exact ⟨_, _, rfl, rfl, by rw [← e]; exact f2, by rw [← e]; exact f4⟩
    · refine Or.inl ⟨?_, Or.inr ⟨_, rfl, ?_⟩⟩
      · show Th 3 (if x.1 = nI total then _ else _)
        rw [if_neg (show ¬ x.1 = nI total from fun q => e ((nI_eq32 (by omega) (by omega)).mp (f1.symm.trans q))), need0, q_tryR]
        exact ⟨_, rfl⟩
      · intro q
        exact e ((nI_eq32 (by omega) (by omega)).mp (f2.symm.trans q))
