/-! the pure half: the longest copy, the nearest of those -/
def cmn (R : Nat → Int32) (p k : Nat) : Nat → Nat → Nat
  | 0, t => t
  | r + 1, t => if R (p + t) = R (k + t) then cmn R p k r (t + 1) else t
theorem cmn_ge (R : Nat → Int32) (p k : Nat) : ∀ (r t : Nat), t ≤ cmn R p k r t := by
  intro r
  induction r with
  | zero => intro t; exact Nat.le_refl _
  | succ r ih =>
    intro t
    show t ≤ if R (p + t) = R (k + t) then cmn R p k r (t + 1) else t
    by_cases c : R (p + t) = R (k + t)
    · rw [if_pos c]; have := ih (t + 1); omega
    · rw [if_neg c]; exact Nat.le_refl _
theorem cmn_le (R : Nat → Int32) (p k : Nat) : ∀ (r t : Nat), cmn R p k r t ≤ t + r := by
  intro r
  induction r with
  | zero => intro t; exact Nat.le_refl _
  | succ r ih =>
    intro t
    show (if R (p + t) = R (k + t) then cmn R p k r (t + 1) else t) ≤ t + (r + 1)
    by_cases c : R (p + t) = R (k + t)
    · rw [if_pos c]; have := ih (t + 1); omega
    · rw [if_neg c]; omega
theorem cmn_same (R : Nat → Int32) (p k : Nat) : ∀ (r t s : Nat), t ≤ s → s < cmn R p k r t → R (p + s) = R (k + s) := by
  intro r
  induction r with
  | zero => intro t s h1 h2; exact absurd h2 (by show ¬ s < t; omega)
  | succ r ih =>
    intro t s h1 h2
    have e : cmn R p k (r + 1) t = if R (p + t) = R (k + t) then cmn R p k r (t + 1) else t := rfl
    by_cases c : R (p + t) = R (k + t)
    · rw [e, if_pos c] at h2
      by_cases q : s = t
      · rw [q]; exact c
      · exact ih (t + 1) s (by omega) h2
    · rw [e, if_neg c] at h2
      omega
def lim (n k : Nat) : Nat := min 258 (n - k)
def cl (R : Nat → Int32) (n k p : Nat) : Nat := cmn R p k (lim n k) 0
theorem cl_le (R : Nat → Int32) (n k p : Nat) : cl R n k p ≤ lim n k := by
  have := cmn_le R p k (lim n k) 0
  unfold cl
  omega
theorem cl_same {R : Nat → Int32} {n k p s : Nat} (h : s < cl R n k p) : R (p + s) = R (k + s) := cmn_same R p k _ 0 s (by omega) h
theorem cl_mis {R : Nat → Int32} {n k p s : Nat} (h : R (p + s) ≠ R (k + s)) : cl R n k p ≤ s := by
  by_cases c : cl R n k p ≤ s
  · exact c
  · exact absurd (cl_same (n := n) (by omega)) h
/-- the best of the distances 1 .. d -/
def Bs (c : Nat → Nat) (k : Nat) : Nat → Nat × Nat
  | 0 => (2, 0)
  | d + 1 => if d + 1 ≤ k ∧ (Bs c k d).1 < c (k - (d + 1)) then (c (k - (d + 1)), d + 1) else Bs c k d
theorem Bs_keep {c : Nat → Nat} {k : Nat} : ∀ (e d : Nat), d ≤ e → (∀ x, d < x → x ≤ e → x ≤ k → c (k - x) ≤ (Bs c k d).1) → Bs c k e = Bs c k d := by
  intro e
  induction e with
  | zero => intro d h1 h2; rw [show d = 0 by omega]
  | succ e ih =>
    intro d h1 h2
    by_cases q : d = e + 1
    · rw [q]
    · have i := ih d (by omega) (fun x h3 h4 h5 => h2 x h3 (by omega) h5)
      show (if e + 1 ≤ k ∧ (Bs c k e).1 < c (k - (e + 1)) then (c (k - (e + 1)), e + 1) else Bs c k e) = _
      rw [i]
      by_cases q2 : e + 1 ≤ k
      · have := h2 (e + 1) (by omega) (by omega) q2
        rw [if_neg (by omega)]
      · rw [if_neg (by omega)]
theorem Bs_inv (c : Nat → Nat) (k : Nat) : ∀ d, 2 ≤ (Bs c k d).1 ∧ (Bs c k d).2 ≤ d ∧ (Bs c k d).2 ≤ k ∧ ((Bs c k d).2 = 0 → (Bs c k d).1 = 2) ∧ (0 < (Bs c k d).2 → 3 ≤ (Bs c k d).1 ∧ (Bs c k d).1 = c (k - (Bs c k d).2)) := by
  intro d
  induction d with
  | zero => exact ⟨Nat.le_refl _, Nat.le_refl _, Nat.zero_le _, fun _ => rfl, fun h => absurd h (Nat.lt_irrefl _)⟩
  | succ d ih =>
    obtain ⟨h1, h2, h3, h4, h5⟩ := ih
    have e : Bs c k (d + 1) = if d + 1 ≤ k ∧ (Bs c k d).1 < c (k - (d + 1)) then (c (k - (d + 1)), d + 1) else Bs c k d := rfl
    by_cases q : d + 1 ≤ k ∧ (Bs c k d).1 < c (k - (d + 1))
    · rw [e, if_pos q]
      refine ⟨?_, Nat.le_refl _, q.1, fun h => absurd h (Nat.succ_ne_zero _), fun _ => ⟨?_, rfl⟩⟩
      · show 2 ≤ c (k - (d + 1)); omega
      · show 3 ≤ c (k - (d + 1)); omega
    · rw [e, if_neg q]
      exact ⟨h1, by omega, h3, h4, h5⟩
/-- the last place below k with that sum -/
def pv (hs : Nat → Nat) (h : Nat) : Nat → Int32
  | 0 => -1
  | k + 1 => if hs k = h then nI k else pv hs h k
theorem pv_cases (hs : Nat → Nat) (h : Nat) : ∀ k, (pv hs h k = -1 ∧ ∀ j, j < k → hs j ≠ h) ∨ ∃ p, p < k ∧ pv hs h k = nI p ∧ hs p = h ∧ ∀ j, p < j → j < k → hs j ≠ h := by
  intro k
  induction k with
  | zero => exact .inl ⟨rfl, fun j hj => absurd hj (Nat.not_lt_zero _)⟩
  | succ k ih =>
    have e : pv hs h (k + 1) = if hs k = h then nI k else pv hs h k := rfl
    by_cases c : hs k = h
    · exact .inr ⟨k, by omega, by rw [e, if_pos c], c, fun j h1 h2 => absurd h1 (by omega)⟩
    · rw [e, if_neg c]
      rcases ih with ⟨h1, h2⟩ | ⟨p, h1, h2, h3, h4⟩
      · refine .inl ⟨h1, fun j hj => ?_⟩
        by_cases q : j = k
        · rw [q]; exact c
        · exact h2 j (by omega)
      · refine .inr ⟨p, by omega, h2, h3, fun j g1 g2 => ?_⟩
        by_cases q : j = k
        · rw [q]; exact c
        · exact h4 j g1 (by omega)
/-- the sum tells: different ones have no copy of three -/
def Hs (R : Nat → Int32) (hs : Nat → Nat) : Prop := ∀ p k, (∀ s, s < 3 → R (p + s) = R (k + s)) → hs p = hs k
theorem cl_two {R : Nat → Int32} {hs : Nat → Nat} (H : Hs R hs) {n k p : Nat} (h : hs p ≠ hs k) : cl R n k p ≤ 2 := by
  by_cases c : cl R n k p ≤ 2
  · exact c
  · exact absurd (H p k (fun s hs => cl_same (n := n) (by omega))) h
/-- the best copy at k -/
def BsF (R : Nat → Int32) (n k : Nat) : Nat × Nat := Bs (cl R n k) k 4096
/-- at the step: the distances up to d are done, p is next -/
theorem Bs_none {R : Nat → Int32} {hs : Nat → Nat} (H : Hs R hs) {n k d : Nat} (hd : d ≤ 4096) (h : ∀ j, j + d < k → k ≤ j + 4096 → hs j ≠ hs k) : BsF R n k = Bs (cl R n k) k d := by
  refine Bs_keep 4096 d hd (fun x h1 h2 h3 => ?_)
  have h4 := (Bs_inv (cl R n k) k d).1
  have := cl_two H (n := n) (h (k - x) (by omega) (by omega))
  omega
theorem Bs_lim {R : Nat → Int32} {n k d : Nat} (hd : d ≤ 4096) (h : lim n k ≤ (Bs (cl R n k) k d).1) : BsF R n k = Bs (cl R n k) k d := Bs_keep 4096 d hd (fun x h1 h2 h3 => Nat.le_trans (cl_le R n k _) h)
theorem Bs_next {R : Nat → Int32} {hs : Nat → Nat} (H : Hs R hs) {n k d p : Nat} (hp : p + d < k) (h : ∀ j, p < j → j + d < k → hs j ≠ hs k) : Bs (cl R n k) k (k - p) = if (Bs (cl R n k) k d).1 < cl R n k p then (cl R n k p, k - p) else Bs (cl R n k) k d := by
  have e1 : Bs (cl R n k) k (k - p - 1) = Bs (cl R n k) k d := Bs_keep (k - p - 1) d (by omega) (fun x h1 h2 h3 => by
    have h4 := (Bs_inv (cl R n k) k d).1
    have := cl_two H (n := n) (h (k - x) (by omega) (by omega))
    omega)
  obtain ⟨z, hz⟩ : ∃ z, k - p = z + 1 := ⟨k - p - 1, by omega⟩
  rw [show k - p - 1 = z by omega] at e1
  rw [hz]
  show (if z + 1 ≤ k ∧ (Bs (cl R n k) k z).1 < cl R n k (k - (z + 1)) then (cl R n k (k - (z + 1)), z + 1) else Bs (cl R n k) k z) = _
  rw [e1, show k - (z + 1) = p by omega]
  by_cases c : (Bs (cl R n k) k d).1 < cl R n k p
  · rw [if_pos ⟨by omega, c⟩, if_pos c]
  · rw [if_neg (fun q => c q.2), if_neg c]
/-! the class -/
def sum3 (R : Nat → Int32) (p : Nat) : Int32 := ((((R p) &&& 255) <<< ((16 : Int32) &&& 31)) ||| (((R (p + 1)) &&& 255) <<< ((8 : Int32) &&& 31))) ||| ((R (p + 2)) &&& 255)
def hC (R : Nat → Int32) (p : Nat) : Nat := (sum3 R p * (-1640531527)).toBitVec.toNat / 2 ^ 20
theorem hC_lt (R : Nat → Int32) (p : Nat) : hC R p < 4096 := by
  have := (sum3 R p * (-1640531527)).toBitVec.isLt
  unfold hC
  omega
theorem hC_ok (R : Nat → Int32) : Hs R (hC R) := by
  intro p k h
  unfold hC sum3
  have h0 := h 0 (by omega)
  rw [Nat.add_zero, Nat.add_zero] at h0
  rw [h0, h 1 (by omega), h 2 (by omega)]
theorem chainOf_ok {R : Nat → Int32} {r : Nat → Int32} {n p : Nat} (hn : n ≤ 81920) (hr : ∀ j, j < n → r j = R j) (hp : p + 3 ≤ n) : f_PngWriter_chainOf (nI p) r = some (nI (hC R p), ()) := by
  have e : ((sum3 R p * (-1640531527)).toUInt32 >>> ((20 : Int32).toUInt32 &&& Int32.toUInt32 31)).toInt32 = nI (hC R p) := nI_tn (pk_ushr _ 20 20 (by decide))
  unfold f_PngWriter_chainOf
  rw [if_pos (q_inb (by omega) (by omega)), nI_1, if_pos (q_inb (by omega) (by omega)), show nI p + 2 = nI (p + 2) from nI_add p 2, if_pos (q_inb (by omega) (by omega)), nI_clamp (by omega), nI_clamp (by omega), nI_clamp (by omega), hr p (by omega), hr (p + 1) (by omega), hr (p + 2) (by omega), ← e]
  rfl
def LC (hs : Nat → Nat) (k : Nat) (lp pb : Nat → Int32) : Prop := (∀ h, h < 4096 → lp h = pv hs h k) ∧ ∀ p, p < k → k ≤ p + 4096 → pb (p % 4096) = pv hs (hs p) p
theorem LC_s {hs : Nat → Nat} {k : Nat} {lp pb : Nat → Int32} (h : LC hs k lp pb) (hh : hs k < 4096) : LC hs (k + 1) (upd lp (hs k) (nI k)) (upd pb (k % 4096) (lp (hs k))) := by
  obtain ⟨h1, h2⟩ := h
  refine ⟨fun x hx => ?_, fun p hp hp2 => ?_⟩
  · show _ = if hs k = x then nI k else pv hs x k
    by_cases c : x = hs k
    · rw [c, upd_at, if_pos rfl]
    · rw [upd_ne _ _ c, if_neg (fun e => c e.symm)]
      exact h1 x hx
  · by_cases c : p = k
    · rw [c, upd_at, h1 _ hh]
    · rw [upd_ne _ _ (by omega)]
      exact h2 p (by omega) (by omega)
theorem remember_ok {R r lp pb : Nat → Int32} {n k : Nat} (hn : n ≤ 81920) (h3 : 3 ≤ n) (hr : ∀ j, j < n → r j = R j) (hk : k < n) (hI : LC (hC R) (min k (n - 2)) lp pb) : ∃ lp' pb', f_PngWriter_remember (nI k) (nI n) r lp pb = some ((), lp', pb') ∧ LC (hC R) (min (k + 1) (n - 2)) lp' pb' := by
  unfold f_PngWriter_remember
  rw [show nI n - 3 = nI (n - 3) from pk_sub (b := 3) h3]
  by_cases c : k + 3 ≤ n
  · have e1 : min k (n - 2) = k := Nat.min_eq_left (by omega)
    have e2 : min (k + 1) (n - 2) = k + 1 := Nat.min_eq_left (by omega)
    have hh := hC_lt R k
    rw [e1] at hI
    rw [if_pos (nI_le (by omega) (by omega)), chainOf_ok hn hr c, q_bind, if_pos (q_inb hh (by omega)), pk_andN (by omega) (m := 4095) 12 (by decide), if_pos (q_inb (Nat.mod_lt _ (by omega)) (by omega)), if_pos (q_inb hh (by omega)), nI_clamp (by omega), nI_clamp (by omega), e2]
    exact ⟨_, _, rfl, LC_s hI hh⟩
  · have e1 : min k (n - 2) = n - 2 := Nat.min_eq_right (by omega)
    have e2 : min (k + 1) (n - 2) = n - 2 := Nat.min_eq_right (by omega)
    rw [e1] at hI
    rw [if_neg (nI_ge (by omega) (by omega)), e2]
    exact ⟨_, _, rfl, hI⟩
theorem common_L {K n k p : Nat} {R r : Nat → Int32} (hn : n ≤ 81920) (hr : ∀ j, j < n → r j = R j) (hk : k < n) (hp : p < k) (cL : Int32) : ∀ (x t q : Nat), t + x = lim n k → x < q → f_PngWriter_commonLength_L30 K cL r (nI p) (nI k) (nI (lim n k)) q (nI t) = some (nI (cmn R p k x t)) := by
  have hlim : lim n k ≤ n - k := Nat.min_le_right _ _
  intro x
  induction x with
  | zero =>
    intro t q ht hq
    obtain ⟨q, rfl⟩ : ∃ w, q = w + 1 := ⟨q - 1, by omega⟩
    show f_PngWriter_commonLength_30 K _ cL r (nI p) (nI k) (nI (lim n k)) (nI t) = _
    unfold f_PngWriter_commonLength_30
    rw [if_pos (nI_le (by omega) (by omega))]
    rfl
  | succ x ih =>
    intro t q ht hq
    obtain ⟨q, rfl⟩ : ∃ w, q = w + 1 := ⟨q - 1, by omega⟩
    show f_PngWriter_commonLength_30 K _ cL r (nI p) (nI k) (nI (lim n k)) (nI t) = some (nI (if R (p + t) = R (k + t) then cmn R p k x (t + 1) else t))
    unfold f_PngWriter_commonLength_30
    rw [if_neg (nI_ge (by omega) (by omega)), nI_add, nI_add, if_pos (q_inb (by omega) (by omega)), if_pos (q_inb (by omega) (by omega)), nI_clamp (by omega), nI_clamp (by omega), hr _ (by omega), hr _ (by omega)]
    by_cases c : R (p + t) = R (k + t)
    · rw [if_pos c, if_pos c, nI_1]
      exact ih (t + 1) q (by omega) (by omega)
    · rw [if_neg c, if_neg c]
/-- what the class keeps of the best -/
def cv (b : Nat × Nat) : Nat × Nat := if b.2 = 0 then (0, 0) else b
theorem common_ok {K n k p b : Nat} {R r : Nat → Int32} (hK : 300 < K) (hn : n ≤ 81920) (hr : ∀ j, j < n → r j = R j) (hk : k < n) (hp : p < k) (hb : b < lim n k) : ∃ L, f_PngWriter_commonLength K (nI p) (nI k) (nI (lim n k)) (nI b) r = some (nI L, ()) ∧ L ≤ 258 ∧ (b < L ↔ b < cl R n k p) ∧ (b < L → L = cl R n k p) := by
  have hlim : lim n k ≤ n - k := Nat.min_le_right _ _
  have hlim2 : lim n k ≤ 258 := Nat.min_le_left _ _
  unfold f_PngWriter_commonLength
  rw [nI_add, nI_add, if_pos (q_inb (by omega) (by omega)), if_pos (q_inb (by omega) (by omega)), nI_clamp (by omega), nI_clamp (by omega), hr _ (by omega), hr _ (by omega)]
  by_cases c : R (p + b) = R (k + b)
  · refine ⟨cl R n k p, ?_, Nat.le_trans (cl_le R n k p) hlim2, Iff.rfl, fun _ => rfl⟩
    rw [if_pos c, show f_PngWriter_commonLength_L30 K (nI b) r (nI p) (nI k) (nI (lim n k)) K 0 = _ from common_L hn hr hk hp (nI b) (lim n k) 0 K (by omega) (by omega), q_bind]
    rfl
  · refine ⟨0, ?_, by omega, ⟨fun h => absurd h (Nat.not_lt_zero _), fun h => ?_⟩, fun h => absurd h (Nat.not_lt_zero _)⟩
    · rw [if_neg c]
      rfl
    · have := cl_mis (n := n) c
      omega
theorem win_le {k p : Nat} (hk : k < 2 ^ 30) (hp : p < 2 ^ 30) : nI k - 4096 ≤ nI p ↔ k ≤ p + 4096 := by
  rw [Int32.le_iff_toInt_le, show (4096 : Int32) = nI 4096 from rfl, pk_sub_toInt hk (by omega), nI_toInt (by omega)]
  omega
theorem cv_cases (c : Nat → Nat) (k d : Nat) : ((Bs c k d).2 = 0 ∧ (Bs c k d).1 = 2 ∧ cv (Bs c k d) = (0, 0)) ∨ (0 < (Bs c k d).2 ∧ 3 ≤ (Bs c k d).1 ∧ cv (Bs c k d) = Bs c k d) := by
  obtain ⟨h1, h2, h3, h4, h5⟩ := Bs_inv c k d
  by_cases q : (Bs c k d).2 = 0
  · exact .inl ⟨q, h4 q, if_pos q⟩
  · exact .inr ⟨by omega, (h5 (by omega)).1, if_neg q⟩
theorem find_L {K n k : Nat} {R r lp pb : Nat → Int32} (hK : 300 < K) (hn : n ≤ 81920) (hr : ∀ j, j < n → r j = R j) (hk : k + 3 ≤ n) (hI : LC (hC R) k lp pb) : ∀ (m d t q : Nat), 4096 ≤ d + m → d ≤ 4096 → m < q → t ≤ d → d ≤ k → ∃ s, f_PngWriter_findCopy_L48 K (nI n) r lp pb (nI k) (nI (lim n k)) q (nI (cv (Bs (cl R n k) k d)).1) (nI (cv (Bs (cl R n k) k d)).2) (pv (hC R) (hC R k) (k - d)) (nI t) = some s ∧ (s = .inl (nI (cv (BsF R n k)).1, nI (cv (BsF R n k)).2) ∨ s = .inr (nI (cv (BsF R n k)).1, nI (cv (BsF R n k)).2)) := by
  have hlim3 : 3 ≤ lim n k := Nat.le_min.mpr ⟨by omega, by omega⟩
  have hlim2 : lim n k ≤ 258 := Nat.min_le_left _ _
  intro m
  induction m with
  | zero =>
    intro d t q hd hd2 hq ht hdk
    obtain ⟨q, rfl⟩ : ∃ w, q = w + 1 := ⟨q - 1, by omega⟩
    have hB : BsF R n k = Bs (cl R n k) k d := by rw [show d = 4096 by omega]; rfl
    show ∃ s, f_PngWriter_findCopy_48 K _ (nI n) (nI (cv (Bs (cl R n k) k d)).1) (nI (cv (Bs (cl R n k) k d)).2) r lp pb (nI k) (nI (lim n k)) (pv (hC R) (hC R k) (k - d)) (nI t) = some s ∧ _
    rw [hB]
    unfold f_PngWriter_findCopy_48
    by_cases c0 : 4096 ≤ t
    · rw [if_pos (show (4096 : Int32) ≤ nI t from show nI 4096 ≤ nI t from nI_le c0 (by omega))]
      exact ⟨_, rfl, .inr rfl⟩
    · rw [if_neg (show ¬ (4096 : Int32) ≤ nI t from show ¬ nI 4096 ≤ nI t from nI_ge (by omega) (by omega))]
      by_cases c1 : nI (lim n k) ≤ nI (cv (Bs (cl R n k) k d)).1
      · rw [if_pos c1]
        exact ⟨_, rfl, .inr rfl⟩
      · rw [if_neg c1]
        rcases pv_cases (hC R) (hC R k) (k - d) with ⟨h1, h2⟩ | ⟨p, h1, h2, h3, h4⟩
        · rw [h1, if_pos (by decide)]
          exact ⟨_, rfl, .inl rfl⟩
        · rw [h2, if_neg (nI_pos (by omega)), if_neg (fun q => by have := (win_le (by omega) (by omega)).mp q; omega)]
          exact ⟨_, rfl, .inl rfl⟩
  | succ m ih =>
    intro d t q hd hd2 hq ht hdk
    obtain ⟨q, rfl⟩ : ∃ w, q = w + 1 := ⟨q - 1, by omega⟩
    have hcv := cv_cases (cl R n k) k d
    have hcl := (Bs_inv (cl R n k) k d).2.2.2.2
    have hle : (cv (Bs (cl R n k) k d)).1 ≤ 258 := by
      rcases hcv with ⟨a1, a2, a3⟩ | ⟨a1, a2, a3⟩
      · rw [a3]; show 0 ≤ 258; omega
      · rw [a3, (hcl a1).2]; exact Nat.le_trans (cl_le R n k _) hlim2
    show ∃ s, f_PngWriter_findCopy_48 K _ (nI n) (nI (cv (Bs (cl R n k) k d)).1) (nI (cv (Bs (cl R n k) k d)).2) r lp pb (nI k) (nI (lim n k)) (pv (hC R) (hC R k) (k - d)) (nI t) = some s ∧ _
    unfold f_PngWriter_findCopy_48
    by_cases c0 : 4096 ≤ t
    · have hB : BsF R n k = Bs (cl R n k) k d := by rw [show d = 4096 by omega]; rfl
      rw [hB, if_pos (show (4096 : Int32) ≤ nI t from show nI 4096 ≤ nI t from nI_le c0 (by omega))]
      exact ⟨_, rfl, .inr rfl⟩
    · rw [if_neg (show ¬ (4096 : Int32) ≤ nI t from show ¬ nI 4096 ≤ nI t from nI_ge (by omega) (by omega))]
      by_cases c1 : lim n k ≤ (cv (Bs (cl R n k) k d)).1
      · have hB : BsF R n k = Bs (cl R n k) k d := by
          rcases hcv with ⟨a1, a2, a3⟩ | ⟨a1, a2, a3⟩
          · rw [a3] at c1; exact absurd c1 (by show ¬ lim n k ≤ 0; omega)
          · rw [a3] at c1; exact Bs_lim hd2 c1
        rw [hB, if_pos (nI_le c1 (by omega))]
        exact ⟨_, rfl, .inr rfl⟩
      · rw [if_neg (nI_ge (by omega) (by omega))]
        rcases pv_cases (hC R) (hC R k) (k - d) with ⟨h1, h2⟩ | ⟨p, h1, h2, h3, h4⟩
        · have hB := Bs_none (n := n) (hC_ok R) hd2 (fun j g1 g2 => h2 j (by omega))
          rw [hB, h1, if_pos (by decide)]
          exact ⟨_, rfl, .inl rfl⟩
        · rw [h2, if_neg (nI_pos (by omega))]
          by_cases c2 : k ≤ p + 4096
          · rw [if_pos ((win_le (by omega) (by omega)).mpr c2)]
            obtain ⟨L, l1, l2, l3, l4⟩ := common_ok (K := K) (n := n) (k := k) (p := p) (b := (cv (Bs (cl R n k) k d)).1) hK hn hr (by omega) (by omega) (by omega)
            rw [l1, q_bind]
            have hnx := Bs_next (n := n) (hC_ok R) (p := p) (d := d) (k := k) (by omega) (fun j g1 g2 => h4 j g1 (by omega))
            have hpb := hI.2 p (by omega) c2
            rw [h3] at hpb
            obtain ⟨s, s1, s2⟩ := ih (k - p) (t + 1) q (by omega) (by omega) (by omega) (by omega) (by omega)
            rw [show k - (k - p) = p by omega] at s1
            refine ⟨s, Eq.trans ?_ s1, s2⟩
            have h115 : ∀ a b : Nat, f_PngWriter_findCopy_115 K (f_PngWriter_findCopy_L48 K (nI n) r lp pb (nI k) (nI (lim n k)) q) (nI n) (nI a) (nI b) r lp pb (nI k) (nI (lim n k)) (nI p) (nI t) = f_PngWriter_findCopy_L48 K (nI n) r lp pb (nI k) (nI (lim n k)) q (nI a) (nI b) (pv (hC R) (hC R k) p) (nI (t + 1)) := by
              intro a b
              unfold f_PngWriter_findCopy_115
              rw [pk_andN (by omega) (m := 4095) 12 (by decide), if_pos (q_inb (Nat.mod_lt _ (by omega)) (by omega)), nI_clamp (by omega), show p % 2 ^ 12 = p % 4096 from rfl, hpb, nI_1]
            rw [hnx]
            show (if nI L < 3 then _ else if nI L ≤ nI (cv (Bs (cl R n k) k d)).1 then _ else _) = _
            have hup : (3 ≤ L ∧ (cv (Bs (cl R n k) k d)).1 < L) ↔ (Bs (cl R n k) k d).1 < cl R n k p := by
              rcases hcv with ⟨a1, a2, a3⟩ | ⟨a1, a2, a3⟩
              · rw [a3] at l3 l4 ⊢
                rw [a2]
                constructor
                · intro ⟨g1, g2⟩
                  have := l4 g2
                  omega
                · intro g
                  have g2 : 0 < L := l3.mpr (by show 0 < cl R n k p; omega)
                  have := l4 g2
                  exact ⟨by omega, g2⟩
              · rw [a3] at l3 l4 ⊢
                constructor
                · intro ⟨g1, g2⟩
                  exact l3.mp g2
                · intro g
                  have g2 := l3.mpr g
                  have := l4 g2
                  exact ⟨by omega, g2⟩
            by_cases cu : (Bs (cl R n k) k d).1 < cl R n k p
            · have hu := hup.mpr cu
              have hLc := l4 hu.2
              rw [if_neg (show ¬ nI L < 3 from show ¬ nI L < nI 3 from nI_nlt hu.1 (by omega)), if_neg (nI_ge hu.2 (by omega)), if_pos cu, pk_sub (by omega), h115, hLc]
              rw [show cv (cl R n k p, k - p) = (cl R n k p, k - p) from if_neg (show ¬ k - p = 0 by omega)]
            · have hu := fun h => cu (hup.mp h)
              rw [if_neg cu]
              by_cases c3 : L < 3
              · rw [if_pos (show nI L < 3 from show nI L < nI 3 from nI_lt c3 (by omega)), h115]
              · rw [if_neg (show ¬ nI L < 3 from show ¬ nI L < nI 3 from nI_nlt (by omega) (by omega)), if_pos (nI_le (by
                  by_cases c4 : (cv (Bs (cl R n k) k d)).1 < L
                  · exact absurd ⟨by omega, c4⟩ hu
                  · omega) (by omega)), h115]
          · have hB := Bs_none (n := n) (hC_ok R) hd2 (fun j g1 g2 => h4 j (by omega) (by omega))
            rw [hB, if_neg (fun q => c2 ((win_le (by omega) (by omega)).mp q))]
            exact ⟨_, rfl, .inl rfl⟩
theorem find_ok {K n k : Nat} {R r lp pb : Nat → Int32} (hK : 4097 < K) (hn : n ≤ 81920) (h3 : 3 ≤ n) (hr : ∀ j, j < n → r j = R j) (hk : k < n) (hI : LC (hC R) (min k (n - 2)) lp pb) (a b : Int32) : f_PngWriter_findCopy K (nI k) (nI n) a b r lp pb = some ((), nI (cv (BsF R n k)).1, nI (cv (BsF R n k)).2) := by
  unfold f_PngWriter_findCopy
  rw [show nI n - 3 = nI (n - 3) from pk_sub (b := 3) h3]
  by_cases c : k + 3 ≤ n
  · have e1 : min k (n - 2) = k := Nat.min_eq_left (by omega)
    rw [e1] at hI
    have hh := hC_lt R k
    have el : (if nI n - nI k < 258 then nI n - nI k else 258) = nI (lim n k) := by
      rw [pk_sub (by omega)]
      unfold lim
      by_cases q : n - k < 258
      · rw [if_pos (show nI (n - k) < 258 from show nI (n - k) < nI 258 from nI_lt q (by omega)), Nat.min_eq_right (by omega)]
      · rw [if_neg (show ¬ nI (n - k) < 258 from show ¬ nI (n - k) < nI 258 from nI_nlt (by omega) (by omega)), Nat.min_eq_left (by omega)]
        rfl
    obtain ⟨s, s1, s2⟩ := find_L (K := K) (n := n) (k := k) (by omega) hn hr c hI 4096 0 0 K (by omega) (by omega) (by omega) (by omega) (by omega)
    rw [if_pos (nI_le (by omega) (by omega)), chainOf_ok hn hr c, q_bind, if_pos (q_inb hh (by omega)), nI_clamp (by omega), hI.1 _ hh, el]
    rw [show f_PngWriter_findCopy_L48 K (nI n) r lp pb (nI k) (nI (lim n k)) K 0 0 (pv (hC R) (hC R k) k) 0 = _ from s1, q_bind]
    rcases s2 with rfl | rfl
    · rfl
    · rfl
  · have hl : lim n k ≤ 2 := Nat.le_trans (Nat.min_le_right _ _) (by omega)
    have hB : BsF R n k = (2, 0) := Bs_keep 4096 0 (by omega) (fun x h1 h2 h4 => Nat.le_trans (cl_le R n k _) hl)
    rw [if_neg (nI_ge (by omega) (by omega)), hB]
    rfl
/-! the reference -/
def hM (R : Nat → Int32) (p : Nat) : Nat := ((((((R p) &&& 255) * 65793) + (((R (p + 1)) &&& 255) * 257) + ((R (p + 2)) &&& 255)) * 40503) >>> ((4 : Int32) &&& 31)).toBitVec.toNat % 65536
theorem hM_lt (R : Nat → Int32) (p : Nat) : hM R p < 65536 := Nat.mod_lt _ (by omega)
theorem hM_ok (R : Nat → Int32) : Hs R (hM R) := by
  intro p k h
  unfold hM
  have h0 := h 0 (by omega)
  rw [Nat.add_zero, Nat.add_zero] at h0
  rw [h0, h 1 (by omega), h 2 (by omega)]
theorem mark_ok {R : Nat → Int32} {r : Nat → Int32} {n p : Nat} (hn : n ≤ 81920) (hr : ∀ j, j < n → r j = R j) (hp : p + 3 ≤ n) : f_M_mark (nI p) r = some (nI (hM R p), ()) := by
  unfold f_M_mark
  rw [if_pos (q_inb (by omega) (by omega)), nI_1, if_pos (q_inb (by omega) (by omega)), show nI p + 2 = nI (p + 2) from nI_add p 2, if_pos (q_inb (by omega) (by omega)), nI_clamp (by omega), nI_clamp (by omega), nI_clamp (by omega), hr p (by omega), hr (p + 1) (by omega), hr (p + 2) (by omega), pk_and _ 16 (by decide)]
  rfl
def LM (hs : Nat → Nat) (e : Nat) (heads chain : Nat → Int32) : Prop := (∀ h, h < 65536 → heads h = pv hs h e) ∧ ∀ p, p < e → chain p = pv hs (hs p) p
theorem LM_s {hs : Nat → Nat} {e : Nat} {heads chain : Nat → Int32} (h : LM hs e heads chain) (hh : hs e < 65536) : LM hs (e + 1) (upd heads (hs e) (nI e)) (upd chain e (heads (hs e))) := by
  obtain ⟨h1, h2⟩ := h
  refine ⟨fun x hx => ?_, fun p hp => ?_⟩
  · show _ = if hs e = x then nI e else pv hs x e
    by_cases c : x = hs e
    · rw [c, upd_at, if_pos rfl]
    · rw [upd_ne _ _ c, if_neg (fun q => c q.symm)]
      exact h1 x hx
  · by_cases c : p = e
    · rw [c, upd_at, h1 _ hh]
    · rw [upd_ne _ _ c]
      exact h2 p (by omega)
theorem enter_L {K n k : Nat} {R r : Nat → Int32} (hn : n ≤ 81920) (h3 : 3 ≤ n) (hr : ∀ j, j < n → r j = R j) (hk : k < n) {t_outSize : Int32} {t_bitBuffer : Int32} {t_bitCount : Int32} {a_t_out : Nat → Int32} : ∀ (m e q : Nat) (heads chain : Nat → Int32), e + m = min k (n - 2) → m < q → LM (hM R) e heads chain → ∃ heads' chain', LM (hM R) (min k (n - 2)) heads' chain' ∧ (f_M_deflate_L49 K (nI n) t_outSize t_bitBuffer t_bitCount a_t_out r (nI k) q heads chain (nI e)) = some (heads', chain', nI (min k (n - 2))) := by
  have hmk : min k (n - 2) ≤ k := Nat.min_le_left _ _
  have hmn : min k (n - 2) ≤ n - 2 := Nat.min_le_right _ _
  intro m
  induction m with
  | zero =>
    intro e q heads chain he hq hI
    obtain ⟨q, rfl⟩ : ∃ w, q = w + 1 := ⟨q - 1, by omega⟩
    have e1 : e = min k (n - 2) := by omega
    subst e1
    refine ⟨heads, chain, hI, ?_⟩
    show (f_M_deflate_49 K _ (nI n) t_outSize t_bitBuffer t_bitCount heads a_t_out r chain (nI k) (nI (min k (n - 2)))) = _
    unfold f_M_deflate_49
    by_cases c : k ≤ n - 2
    · rw [Nat.min_eq_left c, if_pos (nI_le (by omega) (by omega))]
    · rw [Nat.min_eq_right (by omega), if_neg (nI_ge (by omega) (by omega)), show nI (n - 2) + 2 = nI (n - 2 + 2) from nI_add _ 2, if_pos (nI_le (by omega) (by omega))]
  | succ m ih =>
    intro e q heads chain he hq hI
    obtain ⟨q, rfl⟩ : ∃ w, q = w + 1 := ⟨q - 1, by omega⟩
    have hh := hM_lt R e
    obtain ⟨heads', chain', g1, g2⟩ := ih (e + 1) q _ _ (by omega) (by omega) (LM_s hI hh)
    refine ⟨heads', chain', g1, ?_⟩
    show (f_M_deflate_49 K _ (nI n) t_outSize t_bitBuffer t_bitCount heads a_t_out r chain (nI k) (nI e)) = _
    unfold f_M_deflate_49
    rw [if_neg (nI_ge (by omega) (by omega)), show nI e + 2 = nI (e + 2) from nI_add _ 2, if_neg (nI_ge (by omega) (by omega)), mark_ok hn hr (by omega), q_bind, if_pos (q_inb hh (by omega)), if_pos (q_inb (by omega) (by omega)), if_pos (q_inb hh (by omega)), nI_clamp (by omega), nI_clamp (by omega), nI_1]
    exact g2
theorem commonM_L {K n k p : Nat} {R r : Nat → Int32} (hn : n ≤ 81920) (hr : ∀ j, j < n → r j = R j) (hk : k < n) (hp : p < k) {t_rowBytes : Int32} {t_outSize : Int32} {t_bitBuffer : Int32} {t_bitCount : Int32} {a_t_heads : Nat → Int32} {a_t_out : Nat → Int32} {a_t_chain : Nat → Int32} {x2 : Int32} {x3 : Int32} {x4 : Int32} : ∀ (x t q : Nat), t + x = lim n k → x < q → (f_M_deflate_L160 K t_rowBytes t_outSize t_bitBuffer t_bitCount a_t_heads a_t_out r a_t_chain (nI k) x2 x3 x4 (nI (lim n k)) (nI p) q (nI t)) = some (nI (cmn R p k x t)) := by
  have hlim : lim n k ≤ n - k := Nat.min_le_right _ _
  intro x
  induction x with
  | zero =>
    intro t q ht hq
    obtain ⟨q, rfl⟩ : ∃ w, q = w + 1 := ⟨q - 1, by omega⟩
    show (f_M_deflate_160 K _ t_rowBytes t_outSize t_bitBuffer t_bitCount a_t_heads a_t_out r a_t_chain (nI k) x2 x3 x4 (nI (lim n k)) (nI p) (nI t)) = _
    unfold f_M_deflate_160
    rw [if_pos (nI_le (by omega) (by omega))]
    rfl
  | succ x ih =>
    intro t q ht hq
    obtain ⟨q, rfl⟩ : ∃ w, q = w + 1 := ⟨q - 1, by omega⟩
    show (f_M_deflate_160 K _ t_rowBytes t_outSize t_bitBuffer t_bitCount a_t_heads a_t_out r a_t_chain (nI k) x2 x3 x4 (nI (lim n k)) (nI p) (nI t)) = some (nI (if R (p + t) = R (k + t) then cmn R p k x (t + 1) else t))
    unfold f_M_deflate_160
    rw [if_neg (nI_ge (by omega) (by omega)), nI_add, nI_add, if_pos (q_inb (by omega) (by omega)), if_pos (q_inb (by omega) (by omega)), nI_clamp (by omega), nI_clamp (by omega), hr _ (by omega), hr _ (by omega)]
    by_cases c : R (p + t) = R (k + t)
    · rw [if_pos c, if_pos c, nI_1]
      exact ih (t + 1) q (by omega) (by omega)
    · rw [if_neg c, if_neg c]
theorem findM_L {K n k : Nat} {R r : Nat → Int32} (hK : 300 < K) (hn : n ≤ 81920) (hr : ∀ j, j < n → r j = R j) (hk : k < n) {t_outSize : Int32} {t_bitBuffer : Int32} {t_bitCount : Int32} {a_t_heads : Nat → Int32} {a_t_out : Nat → Int32} {x2 : Int32} {chain : Nat → Int32} (hch : ∀ p, p < k → chain p = pv (hM R) (hM R p) p) : ∀ (m d q : Nat), 4096 ≤ d + m → d ≤ 4096 → m < q → d ≤ k → (f_M_deflate_L136 K (nI n) t_outSize t_bitBuffer t_bitCount a_t_heads a_t_out r chain (nI k) x2 (nI (lim n k)) q (nI (Bs (cl R n k) k d).1) (nI (Bs (cl R n k) k d).2) (pv (hM R) (hM R k) (k - d))) = some (nI (BsF R n k).1, nI (BsF R n k).2) := by
  have hlim2 : lim n k ≤ 258 := Nat.min_le_left _ _
  intro m
  induction m with
  | zero =>
    intro d q hd hd2 hq hdk
    obtain ⟨q, rfl⟩ : ∃ w, q = w + 1 := ⟨q - 1, by omega⟩
    have hB : BsF R n k = Bs (cl R n k) k d := by rw [show d = 4096 by omega]; rfl
    show (f_M_deflate_136 K _ (nI n) t_outSize t_bitBuffer t_bitCount a_t_heads a_t_out r chain (nI k) x2 (nI (Bs (cl R n k) k d).1) (nI (Bs (cl R n k) k d).2) (nI (lim n k)) (pv (hM R) (hM R k) (k - d))) = _
    rw [hB]
    unfold f_M_deflate_136
    rcases pv_cases (hM R) (hM R k) (k - d) with ⟨h1, h2⟩ | ⟨p, h1, h2, h3, h4⟩
    · rw [h1, if_pos (by decide)]
    · rw [h2, if_neg (nI_pos (by omega)), pk_sub (by omega), if_pos (show (4096 : Int32) < nI (k - p) from show nI 4096 < nI (k - p) from nI_lt (by omega) (by omega))]
  | succ m ih =>
    intro d q hd hd2 hq hdk
    obtain ⟨q, rfl⟩ : ∃ w, q = w + 1 := ⟨q - 1, by omega⟩
    obtain ⟨b1, b2, b3, b4, b5⟩ := Bs_inv (cl R n k) k d
    have hle : (Bs (cl R n k) k d).1 ≤ 258 := by
      by_cases q : (Bs (cl R n k) k d).2 = 0
      · have := b4 q; omega
      · rw [(b5 (by omega)).2]; exact Nat.le_trans (cl_le R n k _) hlim2
    show (f_M_deflate_136 K _ (nI n) t_outSize t_bitBuffer t_bitCount a_t_heads a_t_out r chain (nI k) x2 (nI (Bs (cl R n k) k d).1) (nI (Bs (cl R n k) k d).2) (nI (lim n k)) (pv (hM R) (hM R k) (k - d))) = _
    unfold f_M_deflate_136
    rcases pv_cases (hM R) (hM R k) (k - d) with ⟨h1, h2⟩ | ⟨p, h1, h2, h3, h4⟩
    · have hB := Bs_none (n := n) (hM_ok R) hd2 (fun j g1 g2 => h2 j (by omega))
      rw [hB, h1, if_pos (by decide)]
    · rw [h2, if_neg (nI_pos (by omega)), pk_sub (by omega)]
      by_cases c2 : k ≤ p + 4096
      · rw [if_neg (show ¬ (4096 : Int32) < nI (k - p) from show ¬ nI 4096 < nI (k - p) from nI_nlt (by omega) (by omega))]
        by_cases c1 : lim n k ≤ (Bs (cl R n k) k d).1
        · rw [Bs_lim hd2 c1, if_pos (nI_le c1 (by omega))]
        · have hcl := cl_le R n k p
          rw [if_neg (nI_ge (by omega) (by omega)), show (f_M_deflate_L160 K (nI n) t_outSize t_bitBuffer t_bitCount a_t_heads a_t_out r chain (nI k) x2 (nI (Bs (cl R n k) k d).1) (nI (Bs (cl R n k) k d).2) (nI (lim n k)) (nI p) K 0) = _ from commonM_L hn hr hk (by omega) (lim n k) 0 K (by omega) (by omega), q_bind]
          have hnx := Bs_next (n := n) (hM_ok R) (p := p) (d := d) (k := k) (by omega) (fun j g1 g2 => h4 j g1 (by omega))
          have hcp := hch p (by omega)
          rw [h3] at hcp
          have s1 := ih (k - p) q (by omega) (by omega) (by omega) (by omega)
          rw [show k - (k - p) = p by omega, hnx] at s1
          refine Eq.trans ?_ s1
          show (f_M_deflate_195 K ((f_M_deflate_L136 K (nI n) t_outSize t_bitBuffer t_bitCount a_t_heads a_t_out r chain (nI k) x2 (nI (lim n k))) q) (nI n) t_outSize t_bitBuffer t_bitCount a_t_heads a_t_out r chain (nI k) x2 (nI (Bs (cl R n k) k d).1) (nI (Bs (cl R n k) k d).2) (nI (lim n k)) (nI p) (nI (cl R n k p))) = _
          unfold f_M_deflate_195 f_M_deflate_210
          by_cases cu : (Bs (cl R n k) k d).1 < cl R n k p
          · rw [if_neg (nI_ge cu (by omega)), if_pos (q_inb (by omega) (by omega)), nI_clamp (by omega), hcp, pk_sub (by omega), if_pos cu]
          · rw [if_pos (nI_le (by omega) (by omega)), if_pos (q_inb (by omega) (by omega)), nI_clamp (by omega), hcp, if_neg cu]
      · have hB := Bs_none (n := n) (hM_ok R) hd2 (fun j g1 g2 => h4 j (by omega) (by omega))
        rw [hB, if_pos (show (4096 : Int32) < nI (k - p) from show nI 4096 < nI (k - p) from nI_lt (by omega) (by omega))]
/-! the codes of a copy -/
def lbs : List Nat := [3, 4, 5, 6, 7, 8, 9, 10, 11, 13, 15, 17, 19, 23, 27, 31, 35, 43, 51, 59, 67, 83, 99, 115, 131, 163, 195, 227, 258]
def lbi : List Nat := [0, 0, 0, 0, 0, 0, 0, 0, 1, 1, 1, 1, 2, 2, 2, 2, 3, 3, 3, 3, 4, 4, 4, 4, 5, 5, 5, 5, 0]
def dbs : List Nat := [1, 2, 3, 4, 5, 7, 9, 13, 17, 25, 33, 49, 65, 97, 129, 193, 257, 385, 513, 769, 1025, 1537, 2049, 3073, 4097, 6145, 8193, 12289, 16385, 24577]
def dbi : List Nat := [0, 0, 0, 0, 1, 1, 2, 2, 3, 3, 4, 4, 5, 5, 6, 6, 7, 7, 8, 8, 9, 9, 10, 10, 11, 11, 12, 12, 13, 13]
theorem tab_l : ∀ c, c < 29 → tab_Inflater_LENGTH_BASE c = nI (lbs.getD c 0) ∧ tab_Inflater_LENGTH_BITS c = nI (lbi.getD c 0) ∧ lbi.getD c 0 ≤ 5 ∧ lbs.getD c 0 ≤ 258 := by decide +kernel
theorem tab_d : ∀ c, c < 30 → tab_Inflater_DISTANCE_BASE c = nI (dbs.getD c 0) ∧ tab_Inflater_DISTANCE_BITS c = nI (dbi.getD c 0) ∧ dbi.getD c 0 ≤ 13 ∧ dbs.getD c 0 ≤ 24577 := by decide +kernel
def cdn (T : Nat → Nat) (x : Nat) : Nat → Nat
  | 0 => 0
  | c + 1 => if T (c + 1) ≤ x then c + 1 else cdn T x c
theorem cdn_le (T : Nat → Nat) (x : Nat) : ∀ c, cdn T x c ≤ c := by
  intro c
  induction c with
  | zero => exact Nat.le_refl _
  | succ c ih =>
    show (if T (c + 1) ≤ x then c + 1 else cdn T x c) ≤ c + 1
    by_cases q : T (c + 1) ≤ x
    · rw [if_pos q]; exact Nat.le_refl _
    · rw [if_neg q]; omega
theorem cdn_ok {T : Nat → Nat} {x : Nat} (h0 : T 0 ≤ x) : ∀ c, T (cdn T x c) ≤ x := by
  intro c
  induction c with
  | zero => exact h0
  | succ c ih =>
    show T (if T (c + 1) ≤ x then c + 1 else cdn T x c) ≤ x
    by_cases q : T (c + 1) ≤ x
    · rw [if_pos q]; exact q
    · rw [if_neg q]; exact ih
theorem codeFor_L {K N x : Nat} (hN : N ≤ 100) (hx : x < 2 ^ 31) {tb : Nat → Int32} {T : Nat → Nat} (hT : ∀ c, c < N → tb c = nI (T c) ∧ T c < 2 ^ 31) : ∀ (c q : Nat), c < q → c < N → f_PngWriter_codeForT_L5 K N tb (nI x) q (nI c) = some (nI (cdn T x c)) := by
  intro c
  induction c with
  | zero =>
    intro q hq hc
    obtain ⟨q, rfl⟩ : ∃ w, q = w + 1 := ⟨q - 1, by omega⟩
    show f_PngWriter_codeForT_5 K N _ tb (nI x) (nI 0) = _
    unfold f_PngWriter_codeForT_5
    rw [if_pos (by decide)]
    rfl
  | succ c ih =>
    intro q hq hc
    obtain ⟨q, rfl⟩ : ∃ w, q = w + 1 := ⟨q - 1, by omega⟩
    obtain ⟨t1, t2⟩ := hT (c + 1) hc
    show f_PngWriter_codeForT_5 K N _ tb (nI x) (nI (c + 1)) = some (nI (if T (c + 1) ≤ x then c + 1 else cdn T x c))
    unfold f_PngWriter_codeForT_5
    rw [if_neg (nI_nle (by omega) (by omega)), if_pos (q_inb hc (by omega)), nI_clamp (by omega), t1]
    by_cases q2 : T (c + 1) ≤ x
    · rw [if_pos (nI_le q2 hx), if_pos q2]
    · rw [if_neg (nI_ge (by omega) t2), if_neg q2, pk_m1]
      exact ih q (by omega) (by omega)
def lcd (x : Nat) : Nat := cdn (fun c => lbs.getD c 0) x 28
def dcd (x : Nat) : Nat := cdn (fun c => dbs.getD c 0) x 29
def cpy (x d : Nat) : List Bool := lit (nI (257 + lcd x)) ++ (bo (nI (x - lbs.getD (lcd x) 0)) 0 (lbi.getD (lcd x) 0) ++ (co (nI (dcd d)) 5 ++ bo (nI (d - dbs.getD (dcd d) 0)) 0 (dbi.getD (dcd d) 0)))
theorem copyD_as {K N x d : Nat} (hK : 40 < K) (hN : N < 2 ^ 31) (hx3 : 3 ≤ x) (hx : x ≤ 258) (hd1 : 1 ≤ d) (hd : d ≤ 4096) (b : Nat → Int32) {Y : List Int32} {R : List Bool} (hR : R.length < 8) (hY : Y.length ≤ N) : As N b Y (R ++ cpy x d) mkB (f_PngWriter_putCopy K N (nI x) (nI d) (nI Y.length) (vb R) (nI R.length) (wr b Y)) := by
  have hl : lcd x ≤ 28 := cdn_le _ _ _
  have hl2 : lbs.getD (lcd x) 0 ≤ x := cdn_ok (T := fun c => lbs.getD c 0) hx3 28
  have hd2 : dcd d ≤ 29 := cdn_le _ _ _
  have hd3 : dbs.getD (dcd d) 0 ≤ d := cdn_ok (T := fun c => dbs.getD c 0) hd1 29
  obtain ⟨t1, t2, t3, t4⟩ := tab_l (lcd x) (by omega)
  obtain ⟨t5, t6, t7, t8⟩ := tab_d (dcd d) (by omega)
  have c1 : f_PngWriter_codeForT K 29 (nI x) tab_Inflater_LENGTH_BASE = some (nI (lcd x), ()) := by
    unfold f_PngWriter_codeForT
    rw [show (Int32.ofNat 29) - 1 = nI 28 from rfl, codeFor_L (T := fun c => lbs.getD c 0) (by omega) (by omega) (fun c hc => ⟨(tab_l c hc).1, by have := (tab_l c hc).2.2.2; omega⟩) 28 K (by omega) (by omega), q_bind]
    rfl
  have c2 : f_PngWriter_codeForT K 30 (nI d) tab_Inflater_DISTANCE_BASE = some (nI (dcd d), ()) := by
    unfold f_PngWriter_codeForT
    rw [show (Int32.ofNat 30) - 1 = nI 29 from rfl, codeFor_L (T := fun c => dbs.getD c 0) (by omega) (by omega) (fun c hc => ⟨(tab_d c hc).1, by have := (tab_d c hc).2.2.2; omega⟩) 29 K (by omega) (by omega), q_bind]
    rfl
  unfold f_PngWriter_putCopy cpy
  rw [c1, q_bind, show (257 : Int32) + nI (lcd x) = nI (257 + lcd x) from nI_add 257 _]
  refine As.seq (litD_as (by omega) hN _ b hR hY) (fun u => ⟨_, rfl⟩) (fun h1 => ?_)
  rw [if_pos (q_inb (by omega) (by omega)), if_pos (q_inb (by omega) (by omega)), nI_clamp (by omega), t1, t2, pk_sub hl2]
  refine As.seq (putBits_as (by omega) hN b (ret8 _) (by omega) _ h1) (fun u => ⟨_, rfl⟩) (fun h2 => ?_)
  rw [c2, q_bind]
  obtain ⟨t', g1, g2⟩ := turned_as (K := K) (N := N) (n := 5) (by omega) hN (by omega) (nI (dcd d)) b (ret8 (rst (R ++ lit (nI (257 + lcd x))) ++ bo (nI (x - lbs.getD (lcd x) 0)) 0 (lbi.getD (lcd x) 0))) h2
  rw [show f_PngWriter_turned K (nI (dcd d)) 5 = _ from g1, q_bind]
  refine As.seq g2 (fun u => ⟨_, rfl⟩) (fun h3 => ?_)
  rw [if_pos (q_inb (by omega) (by omega)), if_pos (q_inb (by omega) (by omega)), nI_clamp (by omega), t5, t6, pk_sub hd3]
  exact As.fin2 (putBits_as (by omega) hN b (ret8 _) (by omega) _ h3) (fun u => ⟨_, rfl⟩)
def lbN (m : Nat) : Nat := if m < 265 then 0 else if m = 285 then 0 else (m - 261) / 4
def dbN (d : Nat) : Nat := if d < 4 then 0 else (d - 2) / 2
theorem lbN_ok : ∀ m, m < 286 → f_M_lengthBits (nI m) = some (nI (lbN m), ()) ∧ lbN m ≤ 5 := by decide +kernel
theorem dbN_ok : ∀ d, d < 30 → f_M_distanceBits (nI d) = some (nI (dbN d), ()) ∧ (d < 27 → dbN d ≤ 12) := by decide +kernel
def mlf (x : Nat) : Nat → Nat → Nat → Nat × Nat
  | 0, m, b => (m, b)
  | q + 1, m, b => if x < b + 2 ^ lbN m then (m, b) else mlf x q (m + 1) (b + 2 ^ lbN m)
def mdf (x : Nat) : Nat → Nat → Nat → Nat × Nat
  | 0, d, f => (d, f)
  | q + 1, d, f => if x < f + 2 ^ dbN d then (d, f) else mdf x q (d + 1) (f + 2 ^ dbN d)
theorem mlf_ok : ∀ x, x < 259 → 3 ≤ x → (if x = 258 then (285, 258) else mlf x 27 257 3) = (257 + lcd x, lbs.getD (lcd x) 0) ∧ lbN (257 + lcd x) = lbi.getD (lcd x) 0 := by decide +kernel
theorem mdf_ok2 : ∀ a, a < 65 → ∀ c, c < 64 → 1 ≤ 64 * a + c → mdf (64 * a + c) 26 0 1 = (dcd (64 * a + c), dbs.getD (dcd (64 * a + c)) 0) ∧ dbN (dcd (64 * a + c)) = dbi.getD (dcd (64 * a + c)) 0 := by decide +kernel
theorem mdf_ok {x : Nat} (h1 : 1 ≤ x) (h2 : x ≤ 4096) : mdf x 26 0 1 = (dcd x, dbs.getD (dcd x) 0) ∧ dbN (dcd x) = dbi.getD (dcd x) 0 := by
  have h := mdf_ok2 (x / 64) (by omega) (x % 64) (by omega) (by omega)
  rw [show 64 * (x / 64) + x % 64 = x by omega] at h
  exact h
theorem mlf_L {K x : Nat} (hx : x ≤ 258) {t_outSize : Int32} {t_bitBuffer : Int32} {t_bitCount : Int32} {a_t_out : Nat → Int32} {x2 : Int32} : ∀ (n m b q : Nat), m + n = 284 → 257 ≤ m → b + 32 * n < 100000 → n < q → (f_M_putCopy_L7 K t_outSize t_bitBuffer t_bitCount a_t_out (nI x) x2 q (nI m) (nI b)) = some (nI (mlf x n m b).1, nI (mlf x n m b).2) := by
  intro n
  induction n with
  | zero =>
    intro m b q hm h1 hb hq
    obtain ⟨q, rfl⟩ : ∃ w, q = w + 1 := ⟨q - 1, by omega⟩
    have e : m = 284 := by omega
    subst e
    show (f_M_putCopy_7 K _ t_outSize t_bitBuffer t_bitCount a_t_out (nI x) x2 (nI 284) (nI b)) = _
    unfold f_M_putCopy_7
    rw [if_pos (by decide)]
    rfl
  | succ n ih =>
    intro m b q hm h1 hb hq
    obtain ⟨q, rfl⟩ : ∃ w, q = w + 1 := ⟨q - 1, by omega⟩
    obtain ⟨l1, l2⟩ := lbN_ok m (by omega)
    have hp : 2 ^ lbN m ≤ 2 ^ 5 := Nat.pow_le_pow_right (by omega) l2
    have e : mlf x (n + 1) m b = if x < b + 2 ^ lbN m then (m, b) else mlf x n (m + 1) (b + 2 ^ lbN m) := rfl
    show (f_M_putCopy_7 K _ t_outSize t_bitBuffer t_bitCount a_t_out (nI x) x2 (nI m) (nI b)) = _
    unfold f_M_putCopy_7
    rw [if_neg (show ¬ (284 : Int32) ≤ nI m from show ¬ nI 284 ≤ nI m from nI_ge (by omega) (by omega)), l1, q_bind, pow_sh _ (by omega), nI_add, e]
    by_cases c : x < b + 2 ^ lbN m
    · rw [if_pos (nI_lt c (by omega)), if_pos c]
    · rw [if_neg (nI_nlt (by omega) (by omega)), if_neg c, q_bind, pow_sh _ (by omega), nI_add, nI_1]
      exact ih (m + 1) _ q (by omega) (by omega) (by omega) (by omega)
def dB : Nat → Nat
  | 0 => 1
  | d + 1 => dB d + 2 ^ dbN d
theorem dB_26 : dB 26 = 8193 := by decide +kernel
theorem dB_le : ∀ d, d < 27 → dB d ≤ 8193 := by decide +kernel
theorem mdf_L {K x : Nat} (hx : x ≤ 4096) {t_outSize : Int32} {t_bitBuffer : Int32} {t_bitCount : Int32} {a_t_out : Nat → Int32} : ∀ (n d q : Nat), d + n = 26 → n < q → (f_M_putCopy_L83 K t_outSize t_bitBuffer t_bitCount a_t_out (nI x) q (nI d) (nI (dB d))) = some (nI (mdf x n d (dB d)).1, nI (mdf x n d (dB d)).2) := by
  intro n
  induction n with
  | zero =>
    intro d q hd hq
    obtain ⟨q, rfl⟩ : ∃ w, q = w + 1 := ⟨q - 1, by omega⟩
    have e : d = 26 := by omega
    subst e
    obtain ⟨l1, l2⟩ := dbN_ok 26 (by omega)
    have hl2 := l2 (by omega)
    have hp : 2 ^ dbN 26 ≤ 2 ^ 12 := Nat.pow_le_pow_right (by omega) hl2
    have hp0 : 0 < 2 ^ dbN 26 := Nat.two_pow_pos _
    show (f_M_putCopy_83 K _ t_outSize t_bitBuffer t_bitCount a_t_out (nI x) (nI 26) (nI (dB 26))) = _
    unfold f_M_putCopy_83
    rw [l1, q_bind, pow_sh _ hl2, nI_add, dB_26, if_pos (nI_lt (by omega) (by omega))]
    rfl
  | succ n ih =>
    intro d q hd hq
    obtain ⟨q, rfl⟩ : ∃ w, q = w + 1 := ⟨q - 1, by omega⟩
    obtain ⟨l1, l2⟩ := dbN_ok d (by omega)
    have hl2 := l2 (by omega)
    have hp : 2 ^ dbN d ≤ 2 ^ 12 := Nat.pow_le_pow_right (by omega) hl2
    have hp0 : 0 < 2 ^ dbN d := Nat.two_pow_pos _
    have hb := dB_le d (by omega)
    have e : mdf x (n + 1) d (dB d) = if x < dB d + 2 ^ dbN d then (d, dB d) else mdf x n (d + 1) (dB d + 2 ^ dbN d) := rfl
    show (f_M_putCopy_83 K _ t_outSize t_bitBuffer t_bitCount a_t_out (nI x) (nI d) (nI (dB d))) = _
    unfold f_M_putCopy_83
    rw [l1, q_bind, pow_sh _ hl2, nI_add, e]
    by_cases c : x < dB d + 2 ^ dbN d
    · rw [if_pos (nI_lt c (by omega)), if_pos c]
    · rw [if_neg (nI_nlt (by omega) (by omega)), if_neg c, q_bind, pow_sh _ hl2, nI_add, nI_1]
      exact ih (d + 1) q (by omega) (by omega)
theorem copyM_as {K x d : Nat} (hK : 40 < K) (hx3 : 3 ≤ x) (hx : x ≤ 258) (hd1 : 1 ≤ d) (hd : d ≤ 4096) (b : Nat → Int32) {Y : List Int32} {R : List Bool} (hR : R.length < 8) (hY : Y.length ≤ 262144) : As 262144 b Y (R ++ cpy x d) mkB (f_M_putCopy K (nI x) (nI d) (nI Y.length) (vb R) (nI R.length) (wr b Y)) := by
  obtain ⟨m1, m2⟩ := mlf_ok x (by omega) hx3
  obtain ⟨m3, m4⟩ := mdf_ok hd1 hd
  have hl : lcd x ≤ 28 := cdn_le _ _ _
  have hl2 : lbs.getD (lcd x) 0 ≤ x := cdn_ok (T := fun c => lbs.getD c 0) hx3 28
  have hd2 : dcd d ≤ 29 := cdn_le _ _ _
  have hd3 : dbs.getD (dcd d) 0 ≤ d := cdn_ok (T := fun c => dbs.getD c 0) hd1 29
  obtain ⟨t1, t2, t3, t4⟩ := tab_l (lcd x) (by omega)
  obtain ⟨t5, t6, t7, t8⟩ := tab_d (dcd d) (by omega)
  unfold f_M_putCopy
  rw [show (f_M_putCopy_L7 K (nI Y.length) (vb R) (nI R.length) (wr b Y) (nI x) (nI d) K 257 3) = _ from mlf_L hx 27 257 3 K (by omega) (by omega) (by omega) (by omega), q_bind]
  have e44 : f_M_putCopy_44 K (nI Y.length) (vb R) (nI R.length) (wr b Y) (nI x) (nI d) (nI (mlf x 27 257 3).1) (nI (mlf x 27 257 3).2) = f_M_putCopy_60 K (nI Y.length) (vb R) (nI R.length) (wr b Y) (nI x) (nI d) (nI (257 + lcd x)) (nI (lbs.getD (lcd x) 0)) := by
    unfold f_M_putCopy_44
    by_cases c : x = 258
    · rw [if_pos c] at m1
      rw [if_pos (show nI x = 258 by rw [c]; rfl), ← (Prod.mk.inj m1).1, ← (Prod.mk.inj m1).2]
      rfl
    · rw [if_neg c] at m1
      rw [if_neg (show ¬ nI x = 258 from fun e => c ((nI_eq (b := 258) (by omega) (by omega)).mp e)), m1]
  show As _ _ _ _ _ (f_M_putCopy_44 K (nI Y.length) (vb R) (nI R.length) (wr b Y) (nI x) (nI d) (nI (mlf x 27 257 3).1) (nI (mlf x 27 257 3).2))
  rw [e44]
  unfold f_M_putCopy_60 cpy
  refine As.seq (litM_as (by omega) _ b hR hY) (fun u => ⟨_, rfl⟩) (fun h1 => ?_)
  rw [(lbN_ok (257 + lcd x) (by omega)).1, q_bind, m2, pk_sub hl2]
  refine As.seq (putBitsM_as (by omega) b (ret8 _) (by omega) _ h1) (fun u => ⟨_, rfl⟩) (fun h2 => ?_)
  refine As.bnd (mdf_L hd 26 0 K (by omega) (by omega)) ?_
  rw [show dB 0 = 1 from rfl, m3]
  refine As.seq (codeM_as (n := 5) (by omega) (by omega) _ b (ret8 _) h2) (fun u => ⟨_, rfl⟩) (fun h3 => ?_)
  rw [(dbN_ok (dcd d) (by omega)).1, q_bind, m4, pk_sub hd3]
  exact As.fin2 (putBitsM_as (by omega) b (ret8 _) (by omega) _ h3) (fun u => ⟨_, rfl⟩)
