/-! the pure half: set, paint, make, count -/
/-- slots and images agree -/
def SlR (W Hh Wm Hm : Nat → Int32) (P Pm : Nat → Nat → Int32) : Prop := ∀ k, k < 4 → ∃ w h : Nat, w ≤ 16384 ∧ h ≤ 16384 ∧ w * h ≤ 16384 ∧ (w = 0 ∨ 0 < h) ∧ W k = nI w ∧ Hh k = nI h ∧ Wm k = nI w ∧ Hm k = nI h ∧ ∀ j, j < w * h → Pm k j = P k j
theorem up4_at (P : Nat → Nat → Int32) (k : Nat) (f : Nat → Int32) : up4 P k f k = f := if_pos rfl
theorem up4_ne (P : Nat → Nat → Int32) {k j : Nat} (f : Nat → Int32) (h : j ≠ k) : up4 P k f j = P j := if_neg h
theorem SlR.points {W Hh Wm Hm : Nat → Int32} {P Pm : Nat → Nat → Int32} (hR : SlR W Hh Wm Hm P Pm) {k w h : Nat} (hk : k < 4) (hw : W k = nI w) (hh : Hh k = nI h) (hw1 : w ≤ 16384) (hh1 : h ≤ 16384) {f g : Nat → Int32} (e : ∀ j, j < w * h → g j = f j) : SlR W Hh Wm Hm (up4 P k f) (up4 Pm k g) := by
  intro i hi
  obtain ⟨w', h', a1, a2, a3, a4, a5, a6, a7, a8, a9⟩ := hR i hi
  refine ⟨w', h', a1, a2, a3, a4, a5, a6, a7, a8, fun j hj => ?_⟩
  by_cases c : i = k
  · subst c
    rw [up4_at, up4_at]
    have e1 : w' = w := (nI_eq (by omega) (by omega)).mp (a5.symm.trans hw)
    have e2 : h' = h := (nI_eq (by omega) (by omega)).mp (a6.symm.trans hh)
    subst e1; subst e2
    exact e j hj
  · rw [up4_ne _ _ c, up4_ne _ _ c]
    exact a9 j hj
theorem M3 {x : Int32} (h : x < 0 ∨ nI 4 ≤ x) (h0 : ¬ x < 0) : (3 : Int32) < x := Int32.lt_of_lt_of_le (show (3 : Int32) < nI 4 by decide) (h.resolve_left h0)
theorem set_ok (x1 x2 x3 x4 z : Int32) {W Hh Wm Hm : Nat → Int32} {P Pm : Nat → Nat → Int32} (hR : SlR W Hh Wm Hm P Pm) :
    (∃ (v : Int32) (P' Pm' : Nat → Nat → Int32), f_D_set x1 x2 x3 x4 (W 3) (Hh 3) (W 2) (Hh 2) (W 1) (Hh 1) (W 0) (Hh 0) (P 3) (P 2) (P 1) (P 0) = some (.inl (v, P' 3, P' 2, P' 1, P' 0)) ∧ f_M_set x1 x2 x3 x4 z Wm Hm (Pm 3) (Pm 2) (Pm 1) (Pm 0) = some (v, 0, Pm' 3, Pm' 2, Pm' 1, Pm' 0) ∧ SlR W Hh Wm Hm P' Pm') ∨
    (f_D_set x1 x2 x3 x4 (W 3) (Hh 3) (W 2) (Hh 2) (W 1) (Hh 1) (W 0) (Hh 0) (P 3) (P 2) (P 1) (P 0) = some (.inr (1, P 3, P 2, P 1, P 0)) ∧ f_M_set x1 x2 x3 x4 z Wm Hm (Pm 3) (Pm 2) (Pm 1) (Pm 0) = some (0, 1, Pm 3, Pm 2, Pm 1, Pm 0)) ∨
    (f_D_set x1 x2 x3 x4 (W 3) (Hh 3) (W 2) (Hh 2) (W 1) (Hh 1) (W 0) (Hh 0) (P 3) (P 2) (P 1) (P 0) = some (.inr (2, P 3, P 2, P 1, P 0)) ∧ f_M_set x1 x2 x3 x4 z Wm Hm (Pm 3) (Pm 2) (Pm 1) (Pm 0) = some (0, 2, Pm 3, Pm 2, Pm 1, Pm 0)) := by
  rcases slot_cases x1 with hx | ⟨k, hk, rfl⟩
  · right; left
    constructor
    · unfold f_D_set
      rw [slot_no hx]
      rfl
    · have e : f_M_place x1 x2 x3 0 Wm Hm = some (0, 1) := by
        unfold f_M_place
        by_cases h0 : x1 < 0
        · rw [if_pos h0]; rfl
        · rw [if_neg h0, if_neg (Int32.not_le.mpr (M3 hx h0))]
          rfl
      unfold f_M_set
      rw [e]
      rfl
  · obtain ⟨w, h, hw1, hh1, hwh, -, hw2, hh2, hwm, hhm, hP⟩ := hR k hk
    have hD : f_D_set (nI k) x2 x3 x4 (W 3) (Hh 3) (W 2) (Hh 2) (W 1) (Hh 1) (W 0) (Hh 0) (P 3) (P 2) (P 1) (P 0) = if w = 0 then some (.inr (2, P 3, P 2, P 1, P 0)) else dc_bind (f_Picture_contains x2 x3 (nI w) (nI h)) (fun r => dc_try (f_D_requireArgument r.1) (fun _ => (if inb ((x3 * nI w) + x2) 16384 = true then (if inb ((x3 * nI w) + x2) 16384 = true then some (.inl (P k ((x3 * nI w) + x2).toNatClampNeg, (up4 P k (upd (P k) ((x3 * nI w) + x2).toNatClampNeg x4)) 3, (up4 P k (upd (P k) ((x3 * nI w) + x2).toNatClampNeg x4)) 2, (up4 P k (upd (P k) ((x3 * nI w) + x2).toNatClampNeg x4)) 1, (up4 P k (upd (P k) ((x3 * nI w) + x2).toNatClampNeg x4)) 0)) else none) else none)) (fun q => some (.inr (q.1, P 3, P 2, P 1, P 0)))) := by
      unfold f_D_set
      rw [slot_ok hk, q_tryL, held_ok hk W (by omega) hw2]
      by_cases h0 : w = 0
      · rw [if_pos h0, if_pos h0]; rfl
      · rw [if_neg h0, if_neg h0, q_tryL]
        refine (q_sel4N (α := (Int32 × (Nat → Int32) × (Nat → Int32) × (Nat → Int32) × (Nat → Int32)) ⊕ (Nat × (Nat → Int32) × (Nat → Int32) × (Nat → Int32) × (Nat → Int32))) (fun i => dc_bind (f_Picture_contains x2 x3 (W i) (Hh i)) (fun r => dc_try (f_D_requireArgument r.1) (fun _ => (if inb ((x3 * W i) + x2) 16384 = true then (if inb ((x3 * W i) + x2) 16384 = true then some (.inl (P i ((x3 * W i) + x2).toNatClampNeg, (up4 P i (upd (P i) ((x3 * W i) + x2).toNatClampNeg x4)) 3, (up4 P i (upd (P i) ((x3 * W i) + x2).toNatClampNeg x4)) 2, (up4 P i (upd (P i) ((x3 * W i) + x2).toNatClampNeg x4)) 1, (up4 P i (upd (P i) ((x3 * W i) + x2).toNatClampNeg x4)) 0)) else none) else none)) (fun q => some (.inr (q.1, P 3, P 2, P 1, P 0))))) hk).trans ?_
        rw [hw2, hh2]
    by_cases h0 : w = 0
    · right; right
      rw [hD, if_pos h0]
      refine ⟨rfl, ?_⟩
      unfold f_M_set
      rw [place_0 hk hwm h0]
      rfl
    · rw [hD, if_neg h0]
      rcases cont_ok hw1 hh1 x2 x3 with ⟨a, b, ha, hb, rfl, rfl, e⟩ | ⟨e, hbad⟩
      · left
        have hin := pt_in ha hb
        refine ⟨P k (b * w + a), up4 P k (upd (P k) (b * w + a) x4), up4 Pm k (upd (Pm k) (b * w + a) x4), ?_, ?_, ?_⟩
        · rw [e, q_bind]
          show dc_try (f_D_requireArgument 1) _ _ = _
          rw [show f_D_requireArgument 1 = some (.inl ((), ())) from rfl, q_tryL, pk_mul, nI_add, if_pos (q_inb (by omega) (by omega)), if_pos (q_inb (by omega) (by omega)), nI_clamp (by omega)]
        · unfold f_M_set
          rw [place_1 hk hwm hhm hw1 hh1 ha hb, q_bind]
          show (if (0 : Int32) = 0 then _ else _) = _
          rw [if_pos rfl]
          refine (q_sel4 (fun i => if inb (nI (b * w + a)) 16384 = true then f_M_set_32 0 Wm Hm (Pm 3) (Pm 2) (Pm 1) (Pm 0) (nI k) x4 (nI (b * w + a)) (Pm i (nI (b * w + a)).toNatClampNeg) else none) hk).trans ?_
          show (if inb (nI (b * w + a)) 16384 = true then f_M_set_32 0 Wm Hm (Pm 3) (Pm 2) (Pm 1) (Pm 0) (nI k) x4 (nI (b * w + a)) (Pm k (nI (b * w + a)).toNatClampNeg) else none) = _
          rw [if_pos (q_inb (by omega) (by omega)), nI_clamp (by omega), hP _ hin]
          unfold f_M_set_32
          refine (q_sel4 (fun i => if inb (nI (b * w + a)) 16384 = true then f_M_set_45 0 Wm Hm (up4 Pm i (upd (Pm i) (nI (b * w + a)).toNatClampNeg x4) 3) (up4 Pm i (upd (Pm i) (nI (b * w + a)).toNatClampNeg x4) 2) (up4 Pm i (upd (Pm i) (nI (b * w + a)).toNatClampNeg x4) 1) (up4 Pm i (upd (Pm i) (nI (b * w + a)).toNatClampNeg x4) 0) (P k (b * w + a)) else none) hk).trans ?_
          show (if inb (nI (b * w + a)) 16384 = true then f_M_set_45 0 Wm Hm (up4 Pm k (upd (Pm k) (nI (b * w + a)).toNatClampNeg x4) 3) (up4 Pm k (upd (Pm k) (nI (b * w + a)).toNatClampNeg x4) 2) (up4 Pm k (upd (Pm k) (nI (b * w + a)).toNatClampNeg x4) 1) (up4 Pm k (upd (Pm k) (nI (b * w + a)).toNatClampNeg x4) 0) (P k (b * w + a)) else none) = _
          rw [if_pos (q_inb (by omega) (by omega)), nI_clamp (by omega)]
          rfl
        · refine hR.points hk hw2 hh2 hw1 hh1 (fun j hj => ?_)
          by_cases c : j = b * w + a
          · subst c; rw [upd_at, upd_at]
          · rw [upd_ne _ _ c, upd_ne _ _ c]; exact hP j hj
      · right; left
        constructor
        · rw [e, q_bind]
          rfl
        · unfold f_M_set
          rw [place_2 hk hwm hhm (by omega) hw1 hh1 hbad]
          rfl
def q_pt (x2 x3 x4 : Int32) (j : Nat) (y : Int32) : Int32 := ((y &&& (x4 ^^^ (-1))) ||| ((((x2 * nI j) * (-1640531527)) + x3) &&& x4))
theorem paintD_3 (K n : Nat) (hn : n ≤ 16384) (hK : n < K) (x2 x3 x4 : Int32) (W Hh : Nat → Int32) (P : Nat → Nat → Int32) : f_D_paint_L21 K (W 3) (Hh 3) (W 2) (Hh 2) (W 1) (Hh 1) (W 0) (Hh 0) (P 2) (P 1) (P 0) x2 x3 x4 (nI n) K (P 3) 0 = some (mp (q_pt x2 x3 x4) (P 3) n) := by
  refine loop_mp (c := n) (f_D_paint_L21 K (W 3) (Hh 3) (W 2) (Hh 2) (W 1) (Hh 1) (W 0) (Hh 0) (P 2) (P 1) (P 0) x2 x3 x4 (nI n)) (q_pt x2 x3 x4) (P 3) (fun q s => ?_) (fun q k hk => ?_) hK
  · show f_D_paint_21 K _ (W 3) (Hh 3) (W 2) (Hh 2) (W 1) (Hh 1) (W 0) (Hh 0) s (P 2) (P 1) (P 0) x2 x3 x4 (nI n) (nI n) = _
    unfold f_D_paint_21
    rw [if_pos (nI_le (by omega) (by omega))]
  · show f_D_paint_21 K _ (W 3) (Hh 3) (W 2) (Hh 2) (W 1) (Hh 1) (W 0) (Hh 0) (mp (q_pt x2 x3 x4) (P 3) k) (P 2) (P 1) (P 0) x2 x3 x4 (nI n) (nI k) = _
    unfold f_D_paint_21
    rw [if_neg (nI_ge (by omega) (by omega)), if_pos (q_inb (by omega) (by omega)), if_pos (q_inb (by omega) (by omega)), nI_clamp (by omega), nI_1, mp_at]
    rfl
theorem paintD_2 (K n : Nat) (hn : n ≤ 16384) (hK : n < K) (x2 x3 x4 : Int32) (W Hh : Nat → Int32) (P : Nat → Nat → Int32) : f_D_paint_L100021 K (W 3) (Hh 3) (W 2) (Hh 2) (W 1) (Hh 1) (W 0) (Hh 0) (P 3) (P 1) (P 0) x2 x3 x4 (nI n) K (P 2) 0 = some (mp (q_pt x2 x3 x4) (P 2) n) := by
  refine loop_mp (c := n) (f_D_paint_L100021 K (W 3) (Hh 3) (W 2) (Hh 2) (W 1) (Hh 1) (W 0) (Hh 0) (P 3) (P 1) (P 0) x2 x3 x4 (nI n)) (q_pt x2 x3 x4) (P 2) (fun q s => ?_) (fun q k hk => ?_) hK
  · show f_D_paint_100021 K _ (W 3) (Hh 3) (W 2) (Hh 2) (W 1) (Hh 1) (W 0) (Hh 0) (P 3) s (P 1) (P 0) x2 x3 x4 (nI n) (nI n) = _
    unfold f_D_paint_100021
    rw [if_pos (nI_le (by omega) (by omega))]
  · show f_D_paint_100021 K _ (W 3) (Hh 3) (W 2) (Hh 2) (W 1) (Hh 1) (W 0) (Hh 0) (P 3) (mp (q_pt x2 x3 x4) (P 2) k) (P 1) (P 0) x2 x3 x4 (nI n) (nI k) = _
    unfold f_D_paint_100021
    rw [if_neg (nI_ge (by omega) (by omega)), if_pos (q_inb (by omega) (by omega)), if_pos (q_inb (by omega) (by omega)), nI_clamp (by omega), nI_1, mp_at]
    rfl
theorem paintD_1 (K n : Nat) (hn : n ≤ 16384) (hK : n < K) (x2 x3 x4 : Int32) (W Hh : Nat → Int32) (P : Nat → Nat → Int32) : f_D_paint_L200021 K (W 3) (Hh 3) (W 2) (Hh 2) (W 1) (Hh 1) (W 0) (Hh 0) (P 3) (P 2) (P 0) x2 x3 x4 (nI n) K (P 1) 0 = some (mp (q_pt x2 x3 x4) (P 1) n) := by
  refine loop_mp (c := n) (f_D_paint_L200021 K (W 3) (Hh 3) (W 2) (Hh 2) (W 1) (Hh 1) (W 0) (Hh 0) (P 3) (P 2) (P 0) x2 x3 x4 (nI n)) (q_pt x2 x3 x4) (P 1) (fun q s => ?_) (fun q k hk => ?_) hK
  · show f_D_paint_200021 K _ (W 3) (Hh 3) (W 2) (Hh 2) (W 1) (Hh 1) (W 0) (Hh 0) (P 3) (P 2) s (P 0) x2 x3 x4 (nI n) (nI n) = _
    unfold f_D_paint_200021
    rw [if_pos (nI_le (by omega) (by omega))]
  · show f_D_paint_200021 K _ (W 3) (Hh 3) (W 2) (Hh 2) (W 1) (Hh 1) (W 0) (Hh 0) (P 3) (P 2) (mp (q_pt x2 x3 x4) (P 1) k) (P 0) x2 x3 x4 (nI n) (nI k) = _
    unfold f_D_paint_200021
    rw [if_neg (nI_ge (by omega) (by omega)), if_pos (q_inb (by omega) (by omega)), if_pos (q_inb (by omega) (by omega)), nI_clamp (by omega), nI_1, mp_at]
    rfl
theorem paintD_0 (K n : Nat) (hn : n ≤ 16384) (hK : n < K) (x2 x3 x4 : Int32) (W Hh : Nat → Int32) (P : Nat → Nat → Int32) : f_D_paint_L300021 K (W 3) (Hh 3) (W 2) (Hh 2) (W 1) (Hh 1) (W 0) (Hh 0) (P 3) (P 2) (P 1) x2 x3 x4 (nI n) K (P 0) 0 = some (mp (q_pt x2 x3 x4) (P 0) n) := by
  refine loop_mp (c := n) (f_D_paint_L300021 K (W 3) (Hh 3) (W 2) (Hh 2) (W 1) (Hh 1) (W 0) (Hh 0) (P 3) (P 2) (P 1) x2 x3 x4 (nI n)) (q_pt x2 x3 x4) (P 0) (fun q s => ?_) (fun q k hk => ?_) hK
  · show f_D_paint_300021 K _ (W 3) (Hh 3) (W 2) (Hh 2) (W 1) (Hh 1) (W 0) (Hh 0) (P 3) (P 2) (P 1) s x2 x3 x4 (nI n) (nI n) = _
    unfold f_D_paint_300021
    rw [if_pos (nI_le (by omega) (by omega))]
  · show f_D_paint_300021 K _ (W 3) (Hh 3) (W 2) (Hh 2) (W 1) (Hh 1) (W 0) (Hh 0) (P 3) (P 2) (P 1) (mp (q_pt x2 x3 x4) (P 0) k) x2 x3 x4 (nI n) (nI k) = _
    unfold f_D_paint_300021
    rw [if_neg (nI_ge (by omega) (by omega)), if_pos (q_inb (by omega) (by omega)), if_pos (q_inb (by omega) (by omega)), nI_clamp (by omega), nI_1, mp_at]
    rfl
def t4 (P : Nat → Nat → Int32) : (Nat → Int32) × (Nat → Int32) × (Nat → Int32) × (Nat → Int32) := (P 3, P 2, P 1, P 0)
theorem up4_id (P : Nat → Nat → Int32) (k : Nat) : up4 P k (P k) = P := by
  funext i
  by_cases h : i = k
  · subst h; rw [up4_at]
  · rw [up4_ne _ _ h]
/-- a loop over one image's points -/
theorem loop_m4 {c K k : Nat} (F : Nat → (Nat → Int32) × (Nat → Int32) × (Nat → Int32) × (Nat → Int32) → Int32 → Option ((Nat → Int32) × (Nat → Int32) × (Nat → Int32) × (Nat → Int32))) (g : Nat → Int32 → Int32) (P : Nat → Nat → Int32) (hend : ∀ q s, F (q + 1) s (nI c) = some s) (hstep : ∀ q j, j < c → F (q + 1) (t4 (up4 P k (mp g (P k) j))) (nI j) = F q (t4 (up4 P k (upd (mp g (P k) j) j (g j (P k j))))) (nI (j + 1))) (hK : c < K) : F K (t4 P) 0 = some (t4 (up4 P k (mp g (P k) c))) := by
  obtain ⟨s', h1, h2⟩ := loop_inv (c := c) F (fun j s => s = t4 (up4 P k (mp g (P k) j))) (fun q s _ => hend q s) (fun q j s hj hs => ⟨_, rfl, by rw [hs, hstep q j hj, mp_s]⟩) c 0 (t4 P) K (by omega) hK (by rw [mp_0, up4_id])
  rw [← h1]
  exact h2
theorem paintM (K n k w h : Nat) (hk : k < 4) (hn : n ≤ 16384) (hwh : w * h = n) (hK : n < K) (z x2 x3 x4 : Int32) {Wm Hm : Nat → Int32} (hW : Wm k = nI w) (hH : Hm k = nI h) (P : Nat → Nat → Int32) : f_M_paint_L42 K z Wm Hm (nI k) x2 x3 x4 K (P 3) (P 2) (P 1) (P 0) 0 = some (t4 (up4 P k (mp (q_pt x2 x3 x4) (P k) n))) := by
  refine loop_m4 (c := n) (k := k) (fun q s x => f_M_paint_L42 K z Wm Hm (nI k) x2 x3 x4 q s.1 s.2.1 s.2.2.1 s.2.2.2 x) (q_pt x2 x3 x4) P (fun q s => ?_) (fun q j hj => ?_) hK
  · show f_M_paint_42 K _ z Wm Hm s.1 s.2.1 s.2.2.1 s.2.2.2 (nI k) x2 x3 x4 (nI n) = _
    unfold f_M_paint_42
    rw [if_pos (q_inb hk (by omega)), if_pos (q_inb hk (by omega)), nI_clamp (by omega), hW, hH, pk_mul, hwh, if_pos (nI_le (by omega) (by omega))]
  · generalize hs : up4 P k (mp (q_pt x2 x3 x4) (P k) j) = s
    have hsk : s k j = P k j := by rw [← hs, up4_at, mp_at]
    have hs2 : up4 P k (upd (mp (q_pt x2 x3 x4) (P k) j) j (q_pt x2 x3 x4 j (P k j))) = up4 s k (upd (s k) j (q_pt x2 x3 x4 j (s k j))) := by
      rw [hsk]
      funext i
      by_cases c : i = k
      · subst c; rw [up4_at, up4_at, ← hs, up4_at]
      · rw [up4_ne _ _ c, up4_ne _ _ c, ← hs, up4_ne _ _ c]
    rw [hs2]
    show f_M_paint_42 K _ z Wm Hm (s 3) (s 2) (s 1) (s 0) (nI k) x2 x3 x4 (nI j) = _
    unfold f_M_paint_42
    rw [if_pos (q_inb hk (by omega)), if_pos (q_inb hk (by omega)), nI_clamp (show k < 2 ^ 31 by omega), hW, hH, pk_mul, hwh, if_neg (nI_ge (by omega) (by omega))]
    match k, hk with
    | 0, _ =>
      rw [if_pos n00, if_pos n00, if_pos (q_inb (by omega) (by omega))]
      unfold f_M_paint_300077 f_M_paint_97
      rw [if_pos (q_inb (by omega) (by omega)), nI_clamp (by omega), nI_1]
      rfl
    | 1, _ =>
      rw [if_neg n10, if_pos n11, if_neg n10, if_pos n11, if_pos (q_inb (by omega) (by omega))]
      unfold f_M_paint_200077 f_M_paint_97
      rw [if_pos (q_inb (by omega) (by omega)), nI_clamp (by omega), nI_1]
      rfl
    | 2, _ =>
      rw [if_neg n20, if_neg n21, if_pos n22, if_neg n20, if_neg n21, if_pos n22, if_pos (q_inb (by omega) (by omega))]
      unfold f_M_paint_100077 f_M_paint_97
      rw [if_pos (q_inb (by omega) (by omega)), nI_clamp (by omega), nI_1]
      rfl
    | 3, _ =>
      rw [if_neg n30, if_neg n31, if_neg n32, if_pos n33, if_neg n30, if_neg n31, if_neg n32, if_pos n33, if_pos (q_inb (by omega) (by omega))]
      unfold f_M_paint_77 f_M_paint_97
      rw [if_pos (q_inb (by omega) (by omega)), nI_clamp (by omega), nI_1]
      rfl
    | k + 4, h => exact absurd h (by omega)
theorem paint_ok {K : Nat} (hK : 16384 < K) (x1 x2 x3 x4 z : Int32) {W Hh Wm Hm : Nat → Int32} {P Pm : Nat → Nat → Int32} (hR : SlR W Hh Wm Hm P Pm) :
    (∃ P' Pm' : Nat → Nat → Int32, f_D_paint K x1 x2 x3 x4 (W 3) (Hh 3) (W 2) (Hh 2) (W 1) (Hh 1) (W 0) (Hh 0) (P 3) (P 2) (P 1) (P 0) = some (.inl ((), P' 3, P' 2, P' 1, P' 0)) ∧ f_M_paint K x1 x2 x3 x4 z Wm Hm (Pm 3) (Pm 2) (Pm 1) (Pm 0) = some ((), 0, Pm' 3, Pm' 2, Pm' 1, Pm' 0) ∧ SlR W Hh Wm Hm P' Pm') ∨
    (f_D_paint K x1 x2 x3 x4 (W 3) (Hh 3) (W 2) (Hh 2) (W 1) (Hh 1) (W 0) (Hh 0) (P 3) (P 2) (P 1) (P 0) = some (.inr (1, P 3, P 2, P 1, P 0)) ∧ f_M_paint K x1 x2 x3 x4 z Wm Hm (Pm 3) (Pm 2) (Pm 1) (Pm 0) = some ((), 1, Pm 3, Pm 2, Pm 1, Pm 0)) ∨
    (f_D_paint K x1 x2 x3 x4 (W 3) (Hh 3) (W 2) (Hh 2) (W 1) (Hh 1) (W 0) (Hh 0) (P 3) (P 2) (P 1) (P 0) = some (.inr (2, P 3, P 2, P 1, P 0)) ∧ f_M_paint K x1 x2 x3 x4 z Wm Hm (Pm 3) (Pm 2) (Pm 1) (Pm 0) = some ((), 2, Pm 3, Pm 2, Pm 1, Pm 0)) := by
  rcases slot_cases x1 with hx | ⟨k, hk, rfl⟩
  · right; left
    constructor
    · unfold f_D_paint
      rw [slot_no hx]
      rfl
    · unfold f_M_paint
      by_cases h0 : x1 < 0
      · rw [if_pos h0]; rfl
      · rw [if_neg h0, if_neg (Int32.not_le.mpr (M3 hx h0))]
        rfl
  · obtain ⟨w, h, hw1, hh1, hwh, -, hw2, hh2, hwm, hhm, hP⟩ := hR k hk
    have eM : f_M_paint K (nI k) x2 x3 x4 z Wm Hm (Pm 3) (Pm 2) (Pm 1) (Pm 0) = if w = 0 then some ((), 2, Pm 3, Pm 2, Pm 1, Pm 0) else some ((), 0, t4 (up4 Pm k (mp (q_pt x2 x3 x4) (Pm k) (w * h)))) := by
      unfold f_M_paint
      rw [if_neg (nI_pos (by omega)), if_pos (show nI k ≤ (3 : Int32) from show nI k ≤ nI 3 from nI_le (by omega) (by omega)), if_pos (q_inb hk (by omega)), nI_clamp (by omega), hwm]
      by_cases h0 : w = 0
      · subst h0
        rw [if_pos n00, if_pos rfl]; rfl
      · rw [if_neg (nI_ne0 (by omega) (by omega)), if_neg h0, paintM K (w * h) k w h hk hwh rfl (by omega) 0 x2 x3 x4 hwm hhm Pm]
        rfl
    have eD : f_D_paint K (nI k) x2 x3 x4 (W 3) (Hh 3) (W 2) (Hh 2) (W 1) (Hh 1) (W 0) (Hh 0) (P 3) (P 2) (P 1) (P 0) = if w = 0 then some (.inr (2, P 3, P 2, P 1, P 0)) else some (.inl ((), t4 (up4 P k (mp (q_pt x2 x3 x4) (P k) (w * h))))) := by
      unfold f_D_paint
      rw [slot_ok hk, q_tryL, held_ok hk W (by omega) hw2]
      by_cases h0 : w = 0
      · rw [if_pos h0, if_pos h0]; rfl
      · rw [if_neg h0, if_neg h0, q_tryL]
        have ht : f_Picture_total (W k) (Hh k) = some (nI (w * h), ()) := by unfold f_Picture_total; rw [hw2, hh2, pk_mul]
        match k, hk, ht with
        | 0, _, ht =>
          refine Eq.trans (if_pos rfl) ?_
          rw [ht, q_bind]
          show dc_bind (f_D_paint_L300021 K (W 3) (Hh 3) (W 2) (Hh 2) (W 1) (Hh 1) (W 0) (Hh 0) (P 3) (P 2) (P 1) x2 x3 x4 (nI (w * h)) K (P 0) 0) _ = _
          rw [paintD_0 K (w * h) hwh (by omega) x2 x3 x4 W Hh P]
          rfl
        | 1, _, ht =>
          refine Eq.trans (if_neg (show ¬ (1 : Nat) = 0 by decide)) (Eq.trans (if_pos rfl) ?_)
          rw [ht, q_bind]
          show dc_bind (f_D_paint_L200021 K (W 3) (Hh 3) (W 2) (Hh 2) (W 1) (Hh 1) (W 0) (Hh 0) (P 3) (P 2) (P 0) x2 x3 x4 (nI (w * h)) K (P 1) 0) _ = _
          rw [paintD_1 K (w * h) hwh (by omega) x2 x3 x4 W Hh P]
          rfl
        | 2, _, ht =>
          refine Eq.trans (if_neg (show ¬ (2 : Nat) = 0 by decide)) (Eq.trans (if_neg (show ¬ (2 : Nat) = 1 by decide)) (Eq.trans (if_pos rfl) ?_))
          rw [ht, q_bind]
          show dc_bind (f_D_paint_L100021 K (W 3) (Hh 3) (W 2) (Hh 2) (W 1) (Hh 1) (W 0) (Hh 0) (P 3) (P 1) (P 0) x2 x3 x4 (nI (w * h)) K (P 2) 0) _ = _
          rw [paintD_2 K (w * h) hwh (by omega) x2 x3 x4 W Hh P]
          rfl
        | 3, _, ht =>
          refine Eq.trans (if_neg (show ¬ (3 : Nat) = 0 by decide)) (Eq.trans (if_neg (show ¬ (3 : Nat) = 1 by decide)) (Eq.trans (if_neg (show ¬ (3 : Nat) = 2 by decide)) (Eq.trans (if_pos rfl) ?_)))
          rw [ht, q_bind]
          show dc_bind (f_D_paint_L21 K (W 3) (Hh 3) (W 2) (Hh 2) (W 1) (Hh 1) (W 0) (Hh 0) (P 2) (P 1) (P 0) x2 x3 x4 (nI (w * h)) K (P 3) 0) _ = _
          rw [paintD_3 K (w * h) hwh (by omega) x2 x3 x4 W Hh P]
          rfl
        | k + 4, h, _ => exact absurd h (by omega)
    rw [eD, eM]
    by_cases h0 : w = 0
    · rw [if_pos h0, if_pos h0]; exact Or.inr (Or.inr ⟨rfl, rfl⟩)
    · rw [if_neg h0, if_neg h0]
      refine Or.inl ⟨_, _, rfl, rfl, hR.points hk hw2 hh2 hw1 hh1 (fun j hj => ?_)⟩
      rw [mp_lt _ _ hj, mp_lt _ _ hj, hP j hj]
theorem cmp_gt (x y : Int64) : 0 < lg_cmp x y ↔ y < x := by
  unfold lg_cmp
  by_cases h : x > y
  · rw [if_pos h]; exact ⟨fun _ => h, fun _ => by decide⟩
  · rw [if_neg h]
    refine ⟨fun q => ?_, fun q => absurd q h⟩
    by_cases e : x = y
    · rw [if_pos e] at q; exact absurd q (by decide)
    · rw [if_neg e] at q; exact absurd q (by decide)
theorem cmp_le (x y : Int64) : lg_cmp x y ≤ 0 ↔ x ≤ y := by
  rw [← Int32.not_lt, cmp_gt, Int64.not_lt]
theorem cmp_eq (x y : Int64) : lg_cmp x y = 0 ↔ x = y := by
  unfold lg_cmp
  by_cases h : x > y
  · rw [if_pos h]
    refine ⟨fun q => absurd q (by decide), fun e => ?_⟩
    subst e
    exact absurd h Int64.lt_irrefl
  · rw [if_neg h]
    by_cases e : x = y
    · rw [if_pos e]; exact ⟨fun _ => e, fun _ => rfl⟩
    · rw [if_neg e]; exact ⟨fun q => absurd q (by decide), fun q => absurd q e⟩
theorem cmp_lt (x y : Int64) : lg_cmp x y < 0 ↔ x < y := by
  unfold lg_cmp
  by_cases h : x > y
  · rw [if_pos h]
    refine ⟨fun q => absurd q (by decide), fun e => ?_⟩
    exact absurd (Int64.lt_trans h e) Int64.lt_irrefl
  · rw [if_neg h]
    by_cases e : x = y
    · rw [if_pos e]
      refine ⟨fun q => absurd q (by decide), fun q => ?_⟩
      subst e
      exact absurd q Int64.lt_irrefl
    · rw [if_neg e]
      refine ⟨fun _ => ?_, fun _ => by decide⟩
      rw [Int64.lt_iff_toInt_lt]
      have h1 : ¬ y.toInt < x.toInt := fun q => h (Int64.lt_iff_toInt_lt.mpr q)
      have h2 : x.toInt ≠ y.toInt := fun q => e (Int64.toInt_inj.mp q)
      omega
theorem cmp_ge (x y : Int64) : 0 ≤ lg_cmp x y ↔ y ≤ x := by
  rw [← Int32.not_lt, cmp_lt, Int64.not_lt]
theorem fill4_ok {K N a b : Nat} (hab : a ≤ b) (hb : b ≤ N) (hN : N < 2 ^ 31) (hK : b < K) (v : Int32) (f : Nat → Int32) : f_Arrays_fill4 K N (nI a) (nI b) v f = some ((), fun j => if a ≤ j ∧ j < b then v else f j) := by
  have h := loop_it (c := b) (f_Arrays_fill4_L10 K N (nI b) v) (fun k f => upd f k v) (fun q s => ?_) (fun q k s hk => ?_) (b - a) a f K (by omega) (by omega)
  · rw [it_map (fun _ _ => v)] at h
    unfold f_Arrays_fill4 f_Arrays_rangeCheck
    rw [if_pos (nI_le hab (by omega)), if_pos (nI_pos' (by omega)), if_pos (show nI b ≤ Int32.ofNat N from nI_le hb hN), q_bind, h, q_bind]
    refine congrArg (fun x => some ((), x)) (funext fun j => ?_)
    by_cases c : a ≤ j ∧ j < b
    · rw [if_pos (by omega), if_pos c]
    · rw [if_neg (by omega), if_neg c]
  · show f_Arrays_fill4_10 K N _ s (nI b) v (nI b) = _
    unfold f_Arrays_fill4_10
    rw [if_pos (nI_le (by omega) (by omega))]
  · show f_Arrays_fill4_10 K N _ s (nI b) v (nI k) = _
    unfold f_Arrays_fill4_10
    rw [if_neg (nI_ge (by omega) (by omega)), if_pos (q_inb (by omega) (by omega)), nI_clamp (by omega), nI_1]
theorem fill2_ok {K N : Nat} (hN : N < 2 ^ 31) (hK : N < K) (v : Int32) (f : Nat → Int32) : f_Arrays_fill2 K N v f = some ((), fun j => if j < N then v else f j) := by
  have h := loop_it (c := N) (f_Arrays_fill2_L5 K N v (nI N)) (fun k f => upd f k v) (fun q s => ?_) (fun q k s hk => ?_) N 0 f K (by omega) (by omega)
  · rw [it_map (fun _ _ => v)] at h
    unfold f_Arrays_fill2
    rw [show f_Arrays_fill2_L5 K N v (Int32.ofNat N) K f 0 = _ from h, q_bind]
    refine congrArg (fun x => some ((), x)) (funext fun j => ?_)
    by_cases c : j < N
    · rw [if_pos (by omega), if_pos c]
    · rw [if_neg (by omega), if_neg c]
  · show f_Arrays_fill2_5 K N _ s v (nI N) (nI N) = _
    unfold f_Arrays_fill2_5
    rw [if_pos (nI_le (by omega) (by omega))]
  · show f_Arrays_fill2_5 K N _ s v (nI k) (nI N) = _
    unfold f_Arrays_fill2_5
    rw [if_neg (nI_ge (by omega) (by omega)), if_pos (q_inb (by omega) (by omega)), nI_clamp (by omega), nI_1]
theorem resize_ok {w h : Nat} (hw : w < 2 ^ 31) (hh : h ≤ 2 ^ 31) (a b : Int32) : f_Picture_resize (lN w) (lN h) a b = if w * h ≤ 16384 then some (.inl ((), nI w, nI h)) else some (.inr (4, a, b)) := by
  have hb : w * h < 2 ^ 63 := Nat.lt_of_le_of_lt (Nat.mul_le_mul (Nat.le_of_lt hw) hh) (by omega)
  unfold f_Picture_resize
  rw [lN_mul, lN_i, lN_i, show (16384 : Int64) = lN 16384 from rfl]
  by_cases c : w * h ≤ 16384
  · rw [if_pos ((cmp_le _ _).mpr (show lN (w * h) ≤ lN 16384 from (pk_lLE hb (by omega)).mpr c)), if_pos c]
  · rw [if_neg (fun q => c ((pk_lLE hb (by omega)).mp (show lN (w * h) ≤ lN 16384 from (cmp_le _ _).mp q))), if_neg c]
theorem makeM (K n k w h : Nat) (hk : k < 4) (hn : n ≤ 16384) (hwh : w * h = n) (hK : n < K) (z x4 : Int32) (Wm Hm : Nat → Int32) (P : Nat → Nat → Int32) : f_M_make_L72 K z Wm Hm (nI k) (nI w) (nI h) x4 K (P 3) (P 2) (P 1) (P 0) 0 = some (t4 (up4 P k (mp (fun _ _ => x4) (P k) n))) := by
  refine loop_m4 (c := n) (k := k) (fun q s x => f_M_make_L72 K z Wm Hm (nI k) (nI w) (nI h) x4 q s.1 s.2.1 s.2.2.1 s.2.2.2 x) (fun _ _ => x4) P (fun q s => ?_) (fun q j hj => ?_) hK
  · show f_M_make_72 K _ z Wm Hm s.1 s.2.1 s.2.2.1 s.2.2.2 (nI k) (nI w) (nI h) x4 (nI n) = _
    unfold f_M_make_72
    rw [pk_mul, hwh, if_pos (nI_le (by omega) (by omega))]
  · generalize hs : up4 P k (mp (fun _ _ => x4) (P k) j) = s
    have hs2 : up4 P k (upd (mp (fun _ _ => x4) (P k) j) j x4) = up4 s k (upd (s k) j x4) := by
      funext i
      by_cases c : i = k
      · subst c; rw [up4_at, up4_at, ← hs, up4_at]
      · rw [up4_ne _ _ c, up4_ne _ _ c, ← hs, up4_ne _ _ c]
    rw [hs2]
    show f_M_make_72 K _ z Wm Hm (s 3) (s 2) (s 1) (s 0) (nI k) (nI w) (nI h) x4 (nI j) = _
    unfold f_M_make_72
    rw [pk_mul, hwh, if_neg (nI_ge (by omega) (by omega))]
    match k, hk with
    | 0, _ =>
      rw [if_pos n00, if_pos (q_inb (by omega) (by omega))]
      unfold f_M_make_91
      rw [nI_clamp (by omega), nI_1]
      rfl
    | 1, _ =>
      rw [if_neg n10, if_pos n11, if_pos (q_inb (by omega) (by omega))]
      unfold f_M_make_91
      rw [nI_clamp (by omega), nI_1]
      rfl
    | 2, _ =>
      rw [if_neg n20, if_neg n21, if_pos n22, if_pos (q_inb (by omega) (by omega))]
      unfold f_M_make_91
      rw [nI_clamp (by omega), nI_1]
      rfl
    | 3, _ =>
      rw [if_neg n30, if_neg n31, if_neg n32, if_pos n33, if_pos (q_inb (by omega) (by omega))]
      unfold f_M_make_91
      rw [nI_clamp (by omega), nI_1]
      rfl
    | k + 4, h => exact absurd h (by omega)
theorem make_ok {K : Nat} (hK : 16384 < K) (x1 x2 x3 x4 z : Int32) {W Hh Wm Hm : Nat → Int32} {P Pm : Nat → Nat → Int32} (hR : SlR W Hh Wm Hm P Pm) :
    (∃ (W' H' Wm' Hm' : Nat → Int32) (P' Pm' : Nat → Nat → Int32), f_D_make K x1 x2 x3 x4 (W 3) (Hh 3) (P 3) (W 2) (Hh 2) (P 2) (W 1) (Hh 1) (P 1) (W 0) (Hh 0) (P 0) = some (.inl ((), W' 3, H' 3, P' 3, W' 2, H' 2, P' 2, W' 1, H' 1, P' 1, W' 0, H' 0, P' 0)) ∧ f_M_make K x1 x2 x3 x4 z Wm Hm (Pm 3) (Pm 2) (Pm 1) (Pm 0) = some ((), 0, Wm', Hm', Pm' 3, Pm' 2, Pm' 1, Pm' 0) ∧ SlR W' H' Wm' Hm' P' Pm') ∨
    (f_D_make K x1 x2 x3 x4 (W 3) (Hh 3) (P 3) (W 2) (Hh 2) (P 2) (W 1) (Hh 1) (P 1) (W 0) (Hh 0) (P 0) = some (.inr (1, W 3, Hh 3, P 3, W 2, Hh 2, P 2, W 1, Hh 1, P 1, W 0, Hh 0, P 0)) ∧ f_M_make K x1 x2 x3 x4 z Wm Hm (Pm 3) (Pm 2) (Pm 1) (Pm 0) = some ((), 1, Wm, Hm, Pm 3, Pm 2, Pm 1, Pm 0)) := by
  rcases slot_cases x1 with hx | ⟨k, hk, rfl⟩
  · right
    constructor
    · unfold f_D_make
      rw [slot_no hx]
      rfl
    · unfold f_M_make
      by_cases h0 : x1 < 0
      · rw [if_pos h0]; rfl
      · rw [if_neg h0, if_pos (M3 hx h0)]
        rfl
  · by_cases c2 : x2 < 1
    · right
      constructor
      · unfold f_D_make
        rw [slot_ok hk, q_tryL, if_pos c2]
        rfl
      · unfold f_M_make
        rw [if_neg (nI_pos (by omega)), if_neg (show ¬ (3 : Int32) < nI k from show ¬ nI 3 < nI k from nI_nlt (by omega) (by omega)), if_pos c2]
        rfl
    · by_cases c3 : x3 < 1
      · right
        constructor
        · unfold f_D_make
          rw [slot_ok hk, q_tryL, if_neg c2, if_pos c3]
          rfl
        · unfold f_M_make
          rw [if_neg (nI_pos (by omega)), if_neg (show ¬ (3 : Int32) < nI k from show ¬ nI 3 < nI k from nI_nlt (by omega) (by omega)), if_neg c2, if_pos c3]
          rfl
      · obtain ⟨w, hw, rfl⟩ := nI_of (fun h => c2 (Int32.lt_trans h (by decide)))
        obtain ⟨h, hh, rfl⟩ := nI_of (fun h => c3 (Int32.lt_trans h (by decide)))
        have hw1 : 1 ≤ w := Nat.le_of_not_lt fun q => c2 (show nI w < (1 : Int32) from show nI w < nI 1 from nI_lt q (by omega))
        have hh1 : 1 ≤ h := Nat.le_of_not_lt fun q => c3 (show nI h < (1 : Int32) from show nI h < nI 1 from nI_lt q (by omega))
        have hb : w * h < 2 ^ 63 := Nat.lt_of_lt_of_le (Nat.mul_lt_mul_of_lt_of_le hw (Nat.le_of_lt hh) (by omega)) (by omega)
        have hwle : w ≤ w * h := Nat.le_mul_of_pos_right w hh1
        have hhle : h ≤ w * h := Nat.le_mul_of_pos_left h hw1
        by_cases c : w * h ≤ 16384
        · left
          refine ⟨upd W k (nI w), upd Hh k (nI h), upd Wm k (nI w), upd Hm k (nI h), up4 P k (fun j => if 0 ≤ j ∧ j < w * h then x4 else P k j), up4 Pm k (mp (fun _ _ => x4) (Pm k) (w * h)), ?_, ?_, ?_⟩
          · unfold f_D_make f_D_make_19
            rw [slot_ok hk, q_tryL, if_neg c2, if_neg c3, show f_D_requireArgument 1 = some (.inl ((), ())) from rfl, q_tryL, nI_l hw, nI_l hh, lN_mul, show (16384 : Int64) = lN 16384 from rfl, if_neg (fun q => absurd ((pk_lLT (by omega) hb).mp (show lN 16384 < lN (w * h) from (cmp_gt _ _).mp q)) (by omega))]
            unfold f_D_make_39
            rw [show f_D_requireArgument 1 = some (.inl ((), ())) from rfl, q_tryL, nI_l hw, nI_l hh]
            match k, hk with
            | 0, _ =>
              show dc_try (f_Picture_resize (lN w) (lN h) (W 0) (Hh 0)) _ _ = _
              rw [resize_ok (by omega) (by omega), if_pos c, q_tryL]
              show dc_bind (f_Picture_total (nI w) (nI h)) _ = _
              rw [show f_Picture_total (nI w) (nI h) = some (nI (w * h), ()) from by unfold f_Picture_total; rw [pk_mul], q_bind]
              show dc_bind (f_Arrays_fill4 K 16384 (nI 0) (nI (w * h)) x4 (P 0)) _ = _
              rw [fill4_ok (by omega) c (by omega) (by omega), q_bind]
              rfl
            | 1, _ =>
              show dc_try (f_Picture_resize (lN w) (lN h) (W 1) (Hh 1)) _ _ = _
              rw [resize_ok (by omega) (by omega), if_pos c, q_tryL]
              show dc_bind (f_Picture_total (nI w) (nI h)) _ = _
              rw [show f_Picture_total (nI w) (nI h) = some (nI (w * h), ()) from by unfold f_Picture_total; rw [pk_mul], q_bind]
              show dc_bind (f_Arrays_fill4 K 16384 (nI 0) (nI (w * h)) x4 (P 1)) _ = _
              rw [fill4_ok (by omega) c (by omega) (by omega), q_bind]
              rfl
            | 2, _ =>
              show dc_try (f_Picture_resize (lN w) (lN h) (W 2) (Hh 2)) _ _ = _
              rw [resize_ok (by omega) (by omega), if_pos c, q_tryL]
              show dc_bind (f_Picture_total (nI w) (nI h)) _ = _
              rw [show f_Picture_total (nI w) (nI h) = some (nI (w * h), ()) from by unfold f_Picture_total; rw [pk_mul], q_bind]
              show dc_bind (f_Arrays_fill4 K 16384 (nI 0) (nI (w * h)) x4 (P 2)) _ = _
              rw [fill4_ok (by omega) c (by omega) (by omega), q_bind]
              rfl
            | 3, _ =>
              show dc_try (f_Picture_resize (lN w) (lN h) (W 3) (Hh 3)) _ _ = _
              rw [resize_ok (by omega) (by omega), if_pos c, q_tryL]
              show dc_bind (f_Picture_total (nI w) (nI h)) _ = _
              rw [show f_Picture_total (nI w) (nI h) = some (nI (w * h), ()) from by unfold f_Picture_total; rw [pk_mul], q_bind]
              show dc_bind (f_Arrays_fill4 K 16384 (nI 0) (nI (w * h)) x4 (P 3)) _ = _
              rw [fill4_ok (by omega) c (by omega) (by omega), q_bind]
              rfl
            | k + 4, h => exact absurd h (by omega)
          · unfold f_M_make
            rw [if_neg (nI_pos (by omega)), if_neg (show ¬ (3 : Int32) < nI k from show ¬ nI 3 < nI k from nI_nlt (by omega) (by omega)), if_neg c2, if_neg c3, if_neg (show ¬ (16384 : Int32) < nI w from show ¬ nI 16384 < nI w from nI_nlt (by omega) (by omega)), if_neg (show ¬ (16384 : Int32) < nI h from show ¬ nI 16384 < nI h from nI_nlt (by omega) (by omega)), pk_mul, if_pos (show nI (w * h) ≤ (16384 : Int32) from show nI (w * h) ≤ nI 16384 from nI_le c (by omega)), if_pos (q_inb hk (by omega)), if_pos (q_inb hk (by omega)), nI_clamp (by omega), makeM K (w * h) k w h hk c rfl (by omega)]
            rfl
          · intro i hi
            by_cases e : i = k
            · subst e
              refine ⟨w, h, by omega, by omega, c, Or.inr hh1, upd_at _ _ _, upd_at _ _ _, upd_at _ _ _, upd_at _ _ _, fun j hj => ?_⟩
              rw [up4_at, up4_at, mp_lt _ _ hj, if_pos (by omega)]
            · obtain ⟨w', h', a1, a2, a3, a4, a5, a6, a7, a8, a9⟩ := hR i hi
              refine ⟨w', h', a1, a2, a3, a4, (upd_ne _ _ e).trans a5, (upd_ne _ _ e).trans a6, (upd_ne _ _ e).trans a7, (upd_ne _ _ e).trans a8, fun j hj => ?_⟩
              rw [up4_ne _ _ e, up4_ne _ _ e]
              exact a9 j hj
        · right
          constructor
          · unfold f_D_make f_D_make_19
            rw [slot_ok hk, q_tryL, if_neg c2, if_neg c3, show f_D_requireArgument 1 = some (.inl ((), ())) from rfl, q_tryL, nI_l hw, nI_l hh, lN_mul, show (16384 : Int64) = lN 16384 from rfl, if_pos ((cmp_gt _ _).mpr (show lN 16384 < lN (w * h) from (pk_lLT (by omega) hb).mpr (by omega)))]
            rfl
          · unfold f_M_make
            rw [if_neg (nI_pos (by omega)), if_neg (show ¬ (3 : Int32) < nI k from show ¬ nI 3 < nI k from nI_nlt (by omega) (by omega)), if_neg c2, if_neg c3]
            by_cases d1 : 16384 < w
            · rw [if_pos (show (16384 : Int32) < nI w from show nI 16384 < nI w from nI_lt d1 hw)]; rfl
            · by_cases d2 : 16384 < h
              · rw [if_neg (show ¬ (16384 : Int32) < nI w from show ¬ nI 16384 < nI w from nI_nlt (by omega) (by omega)), if_pos (show (16384 : Int32) < nI h from show nI 16384 < nI h from nI_lt d2 hh)]; rfl
              · have hs : w * h ≤ 16384 * 16384 := Nat.mul_le_mul (by omega) (by omega)
                rw [if_neg (show ¬ (16384 : Int32) < nI w from show ¬ nI 16384 < nI w from nI_nlt (by omega) (by omega)), if_neg (show ¬ (16384 : Int32) < nI h from show ¬ nI 16384 < nI h from nI_nlt (by omega) (by omega)), pk_mul, if_neg (show ¬ nI (w * h) ≤ (16384 : Int32) from show ¬ nI (w * h) ≤ nI 16384 from nI_ge (by omega) (by omega))]; rfl
theorem count_ok {K n m : Nat} (hK : 4 < K) (x1 z : Int32) {W Hh Wm Hm : Nat → Int32} {P Pm : Nat → Nat → Int32} (hR : SlR W Hh Wm Hm P Pm) :
    (∃ v : Int32, f_D_count K x1 (nI n) (nI m) (W 3) (W 2) (W 1) (W 0) = some (.inl (v, ())) ∧ f_M_count K x1 z (nI n) (nI m) Wm = some (v, 0)) ∨
    (f_D_count K x1 (nI n) (nI m) (W 3) (W 2) (W 1) (W 0) = some (.inr (1, ())) ∧ f_M_count K x1 z (nI n) (nI m) Wm = some (0, 1)) := by
  by_cases c0 : x1 < 0
  · right
    unfold f_D_count f_M_count
    rw [if_pos c0, if_pos c0]
    exact ⟨rfl, rfl⟩
  · by_cases c2 : 2 < x1
    · right
      unfold f_D_count f_M_count
      rw [if_neg c0, if_neg c0, if_pos c2, if_neg (Int32.not_le.mpr c2)]
      exact ⟨rfl, rfl⟩
    · left
      have hs : ∀ j, j < 4 → ∃ w : Nat, w ≤ 16384 ∧ W j = nI w ∧ Wm j = nI w := fun j hj => by
        obtain ⟨w, h, a1, a2, a3, a4, a5, a6, a7, a8, a9⟩ := hR j hj
        exact ⟨w, a1, a5, a7⟩
      have hD := loop_it (c := 4) (f_D_count_L43 K (nI n) (nI m) (W 3) (W 2) (W 1) (W 0)) (fun k s => s + (if W k = 0 then 0 else 1)) (fun q s => by
        show f_D_count_43 K _ (nI n) (nI m) (W 3) (W 2) (W 1) (W 0) s (nI 4) = _
        unfold f_D_count_43
        rw [if_pos (show (4 : Int32) ≤ nI 4 by decide)]) (fun q j s hj => by
        show f_D_count_43 K _ (nI n) (nI m) (W 3) (W 2) (W 1) (W 0) s (nI j) = _
        obtain ⟨w, hw, e1, -⟩ := hs j hj
        unfold f_D_count_43
        rw [if_neg (show ¬ (4 : Int32) ≤ nI j from show ¬ nI 4 ≤ nI j from nI_ge hj (by omega))]
        refine (q_sel4 (fun i => dc_bind (f_Picture_isHeld (W i)) (fun r => f_D_count_57 K (f_D_count_L43 K (nI n) (nI m) (W 3) (W 2) (W 1) (W 0) q) (nI n) (nI m) (W 3) (W 2) (W 1) (W 0) s (nI j) r.1)) hj).trans ?_
        show dc_bind (f_Picture_isHeld (W j)) _ = _
        rw [e1, held_1 (by omega), q_bind, nI_1 j |>.symm]
        by_cases c : w = 0
        · rw [if_pos c, c, if_pos n00, Int32.add_zero]; rfl
        · rw [if_neg c, if_neg (nI_ne0 (by omega) (by omega))]; rfl) 4 0 0 K (by omega) hK
      have hM := loop_it (c := 4) (f_M_count_L24 K 0 (nI n) (nI m) Wm x1) (fun k s => s + (if W k = 0 then 0 else 1)) (fun q s => by
        show f_M_count_24 K _ 0 (nI n) (nI m) Wm x1 s (nI 4) = _
        unfold f_M_count_24
        rw [if_pos (show (4 : Int32) ≤ nI 4 by decide)]) (fun q j s hj => by
        show f_M_count_24 K _ 0 (nI n) (nI m) Wm x1 s (nI j) = _
        obtain ⟨w, hw, e1, e2⟩ := hs j hj
        unfold f_M_count_24
        rw [if_neg (show ¬ (4 : Int32) ≤ nI j from show ¬ nI 4 ≤ nI j from nI_ge hj (by omega)), if_pos (q_inb hj (by omega)), nI_clamp (by omega), e2, e1, nI_1 j |>.symm]
        by_cases c : w = 0
        · subst c
          rw [if_pos (show nI 0 ≤ 0 by decide), if_pos n00]; rfl
        · rw [if_neg (nI_nle (by omega) (by omega)), if_neg (nI_ne0 (by omega) (by omega))]; rfl) 4 0 0 K (by omega) hK
      refine ⟨if x1 = 0 then nI n else if x1 = 1 then nI m else it (fun k s => s + (if W k = 0 then 0 else 1)) 0 4 0, ?_, ?_⟩
      · unfold f_D_count f_D_count_14
        rw [if_neg c0, if_neg c2, show f_D_requireArgument 1 = some (.inl ((), ())) from rfl, q_tryL]
        by_cases d0 : x1 = 0
        · rw [if_pos d0, if_pos d0]
        · by_cases d1 : x1 = 1
          · rw [if_neg d0, if_neg d0, if_pos d1, if_pos d1]; rfl
          · rw [if_neg d0, if_neg d0, if_neg d1, if_neg d1, show f_D_count_L43 K (nI n) (nI m) (W 3) (W 2) (W 1) (W 0) K 0 0 = _ from hD]; rfl
      · unfold f_M_count
        rw [if_neg c0, if_pos (Int32.not_lt.mp c2), show f_M_count_L24 K 0 (nI n) (nI m) Wm x1 K 0 0 = _ from hM, q_bind]
        by_cases d0 : x1 = 0
        · rw [if_pos d0, if_pos d0]; rfl
        · by_cases d1 : x1 = 1
          · rw [if_neg d0, if_neg d0, if_pos d1, if_pos d1]; rfl
          · rw [if_neg d0, if_neg d0, if_neg d1, if_neg d1]; rfl
