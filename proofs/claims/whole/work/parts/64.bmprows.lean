/-! the pure half: a BMP file's plain rows -/
theorem Gq.tryQ {α α' ε ε' β : Type} {φ χ : Prop} {F : β → α} {P : β → Prop} {Q : Option (α' ⊕ (Nat × ε')) → Prop} {m : Option (α ⊕ (Nat × ε))} {f : α → Option (α' ⊕ (Nat × ε'))} {g : Nat × ε → Option (α' ⊕ (Nat × ε'))} (h : Gq φ (fun m => ∃ b, m = some (.inl (F b)) ∧ P b) m) (hg : ∀ u, ∃ u', g (3, u) = some (.inr (3, u'))) (hχ : χ → φ) (hf : φ → ∀ b, P b → Gq χ Q (f (F b))) : Gq χ Q (dc_try m f g) := by
  by_cases c : φ
  · obtain ⟨b, hb, hP⟩ := h.1 c
    rw [hb, q_tryL]
    exact hf c b hP
  · obtain ⟨u, hu⟩ := h.2 c
    rw [hu, q_tryR]
    exact Gq.no (fun q => c (hχ q)) (hg u)
theorem Gq.tryQL {α α' ε ε' β : Type} {φ χ : Prop} {F : β → α} {P : β → Prop} {Q : Option (α' ⊕ (Nat × ε')) → Prop} {m : Option (α ⊕ (Nat × ε))} {f : α → Option (α' ⊕ (Nat × ε'))} {g : Nat × ε → Option (α' ⊕ (Nat × ε'))} (h : Gq φ (fun m => ∃ b, m = some (.inl (F b)) ∧ P b) m) (hg : ∀ u, ∃ u', g (3, u) = some (.inr (3, u'))) (hχ : χ → φ) (hf : φ → ∀ b, P b → Gq χ Q (f (F b))) : Gq χ Q (dc_bind m (Sum.elim f g)) := by
  rw [bind_elim]
  exact Gq.tryQ h hg hχ hf
def rbt (w d : Nat) : Nat := (w * d + 31) / 32 * 4
def rvl (t : Nat → Nat) (pal : Nat → Int32) (p d k : Nat) : Int32 := if d ≤ 8 then pal (ib t p d k) else bc t (p + s3 d * k)
def rix (t : Nat → Nat) (p d w c : Nat) : Prop := d ≤ 8 → ∀ k, k < w → ib t p d k < c
theorem s3w {d w : Nat} (hd : d = 24 ∨ d = 32) : s3 d * w = (w * d + 7) / 8 := by
  rcases hd with rfl | rfl
  · show 3 * w = _
    omega
  · show 4 * w = _
    omega
theorem dOk_two {d : Nat} (h : dOk d) : (d8 d ∧ d ≤ 8) ∨ ((d = 24 ∨ d = 32) ∧ ¬ d ≤ 8) := by
  unfold dOk at h
  unfold d8
  omega
theorem rw_val {pts0 pts : Nat → Int32} {y w x : Nat} {v v' : Nat → Int32} (e : ∀ k, v k = v' k) (h : RW pts0 y w v x pts) : RW pts0 y w v' x pts := ⟨fun k hk => by rw [h.1 k hk]; exact e k, h.2⟩
theorem rowD {K n p d w h y c : Nat} (hK : 16384 < K) (hn : n ≤ 65536) (hd : dOk d) (hc : c ≤ 256) (hwh : w * h ≤ 16384) (hy : y < h) {T : Nat → Int32} {t : Nat → Nat} (ht : Tb n T t) (hp : p + (w * d + 7) / 8 ≤ n) (pal pts : Nat → Int32) : (d ≤ 8 → Gq (rix t p d w c) (fun m => ∃ pts', m = some (.inl ((), nI (p + (w * d + 7) / 8), pts')) ∧ RW pts y w (rvl t pal p d) w pts') (f_BmpFiles_takeIndices K (nI y) (nI w) (nI c) (nI d) (nI p) (nI n) T pal pts)) ∧ (¬ d ≤ 8 → ∃ pts', (f_BmpFiles_takePoints K (nI y) (nI w) (nI d) (nI p) (nI n) T pts) = some (.inl ((), nI (p + (w * d + 7) / 8), pts')) ∧ RW pts y w (rvl t pal p d) w pts') := by
  have hw : w ≤ 16384 := Nat.le_trans (Nat.le_mul_of_pos_right w (by omega)) hwh
  rcases dOk_two hd with ⟨h8, hl⟩ | ⟨h24, hl⟩
  · refine ⟨fun _ => ?_, fun q => absurd hl q⟩
    unfold f_BmpFiles_takeIndices
    have e0 : (0 * d + 7) / 8 = 0 := by rw [Nat.zero_mul]
    have hL := rowI_D (K := K) (p := p) hn h8 hc hwh hy ht pal pts w 0 K pts 0 0 (by omega) (by omega) (by omega) (Or.inl ⟨by rw [Nat.zero_mul], rfl⟩) (fun k hk => absurd hk (Nat.not_lt_zero _)) (RW_0 pts y w _)
    rw [e0] at hL
    refine Gq.tryQL hL (fun u => ⟨u, rfl⟩) (fun h => ⟨hp, h hl⟩) (fun h b hb => Gq.yes (fun _ => h.2) ⟨b, rfl, rw_val (fun k => (if_pos hl).symm) hb⟩)
  · refine ⟨fun q => absurd q hl, fun _ => ?_⟩
    unfold f_BmpFiles_takePoints
    have hL := rowP_D (K := K) (p := p) hn h24 hwh hy ht pts w 0 K pts (by omega) (by omega) (by omega) (RW_0 pts y w _)
    rw [s3w h24] at hL
    obtain ⟨b, hb, hR⟩ := hL.1 hp
    have hb2 : (f_BmpFiles_takePoints_L2 K (nI w) (nI d) (nI n) T (nI y) K (nI p) pts 0) = _ := hb
    rw [hb2]
    exact ⟨b, rfl, rw_val (fun k => (if_neg hl).symm) hR⟩
theorem padR {K n p rb : Nat} (hn : n ≤ 65536) (hrb : rb % 4 = 0) (hr : rb < 2 ^ 20) {T : Nat → Int32} {t : Nat → Nat} (ht : Tb n T t) {W D C : Int32} {pts pal : Nat → Int32} : ∀ (r j q : Nat), j + r = rb → r < 4 → r < q → p + j ≤ n → Ex (p + rb ≤ n) (nI (p + rb)) (f_M_plainRow_L185 K (nI n) W D C T pts pal (nI p) q (nI (p + j))) := by
  intro r
  induction r with
  | zero =>
    intro j q hj h4 hq hp
    obtain ⟨q, rfl⟩ : ∃ w, q = w + 1 := ⟨q - 1, by omega⟩
    have e : j = rb := by omega
    subst e
    refine Ex.gq (Gq.yes hp ?_)
    show (f_M_plainRow_185 K _ (nI n) (nI (p + j)) W D C T pts pal (nI p)) = _
    unfold f_M_plainRow_185
    rw [pk_sub (show p ≤ p + j by omega), show p + j - p = j by omega, show nI j - nI j / 4 * 4 = nI (j % 4) from pk_rem (d := 4) (by omega) (by omega) (by omega), hrb]
    rfl
  | succ r ih =>
    intro j q hj h4 hq hp
    obtain ⟨q, rfl⟩ : ∃ w, q = w + 1 := ⟨q - 1, by omega⟩
    show Ex _ _ (f_M_plainRow_185 K _ (nI n) (nI (p + j)) W D C T pts pal (nI p))
    unfold f_M_plainRow_185
    rw [pk_sub (show p ≤ p + j by omega), show p + j - p = j by omega, show nI j - nI j / 4 * 4 = nI (j % 4) from pk_rem (d := 4) (by omega) (by omega) (by omega), if_neg (nI_ne0 (by omega) (by omega))]
    refine Ex.gq (Gq.try (nextM_ex hp hn ht) (fun u => ⟨_, rfl⟩) (fun h => by omega) (fun h1 => ?_))
    exact ih (j + 1) q (by omega) (by omega) (by omega) (by omega)
theorem rbt_b (w d : Nat) : (w * d + 7) / 8 ≤ rbt w d ∧ rbt w d < (w * d + 7) / 8 + 4 ∧ rbt w d % 4 = 0 := by
  unfold rbt
  omega
theorem rbt_lt {w d : Nat} (hw : w ≤ 16384) (hd : d ≤ 32) : rbt w d ≤ 65536 := by
  have h : w * d ≤ 16384 * 32 := Nat.mul_le_mul hw hd
  unfold rbt
  omega
theorem rowM {K n p d w h y c : Nat} (hK : 16384 < K) (hn : n ≤ 65536) (hd : dOk d) (hc : c ≤ 256) (hwh : w * h ≤ 16384) (hy : y < h) {T : Nat → Int32} {t : Nat → Nat} (ht : Tb n T t) (hp : p ≤ n) (pal pts : Nat → Int32) : Gq (p + rbt w d ≤ n ∧ rix t p d w c) (fun m => ∃ pts', m = some (.inl ((), nI (p + rbt w d), pts')) ∧ RW pts y w (rvl t pal p d) w pts') (f_M_plainRow K (nI y) (nI n) (nI p) (nI w) (nI d) (nI c) T pts pal) := by
  have hw : w ≤ 16384 := Nat.le_trans (Nat.le_mul_of_pos_right w (by omega)) hwh
  obtain ⟨b1, b2, b3⟩ := rbt_b w d
  have b4 := rbt_lt hw (dOk_le hd)
  have hL : Gq (p + (w * d + 7) / 8 ≤ n ∧ rix t p d w c) (fun m => ∃ pts', m = some (.inl (nI (p + (w * d + 7) / 8), pts')) ∧ RW pts y w (rvl t pal p d) w pts') (f_M_plainRow_L10 K (nI n) (nI w) (nI d) (nI c) T pal (nI y) (nI p) K (nI p) pts 0 0) := by
    rcases dOk_two hd with ⟨h8, hl⟩ | ⟨h24, hl⟩
    · have e0 : (0 * d + 7) / 8 = 0 := by rw [Nat.zero_mul]
      have hL := rowI_M (K := K) (p := p) hn h8 hc hwh hy ht pal pts (nI p) w 0 K pts 0 (by omega) (by omega) (by omega) (fun q => absurd (show 0 * d % 8 = 0 by rw [Nat.zero_mul]) q) (fun k hk => absurd hk (Nat.not_lt_zero _)) (RW_0 pts y w _)
      rw [e0] at hL
      refine ⟨fun q => ?_, fun q => hL.2 (fun q2 => q ⟨q2.1, fun _ => q2.2⟩)⟩
      obtain ⟨b, hb, hR⟩ := hL.1 ⟨q.1, q.2 hl⟩
      exact ⟨b, hb, rw_val (fun k => (if_pos hl).symm) hR⟩
    · have hL := rowP_M (K := K) (p := p) hn h24 hwh hy ht pal pts (nI c) (nI p) w 0 K pts 0 (by omega) (by omega) (by omega) (RW_0 pts y w _)
      rw [s3w h24] at hL
      refine ⟨fun q => ?_, fun q => hL.2 (fun q2 => q ⟨q2, fun q3 => absurd q3 hl⟩)⟩
      obtain ⟨b, hb, hR⟩ := hL.1 q.1
      exact ⟨b, hb, rw_val (fun k => (if_neg hl).symm) hR⟩
  unfold f_M_plainRow
  refine Gq.tryQL hL (fun u => ⟨_, rfl⟩) (fun h => ⟨by omega, h.2⟩) (fun h b hb => ?_)
  refine Gq.tryL (padR (rb := rbt w d) hn b3 (by omega) ht (rbt w d - (w * d + 7) / 8) ((w * d + 7) / 8) K (by omega) (by omega) (by omega) h.1) (fun u => ⟨_, rfl⟩) (fun h => h.1) (fun h2 => ?_)
  exact Gq.yes ⟨h2, h.2⟩ ⟨b, rfl, hb⟩
def rwy (top : Bool) (h r : Nat) : Nat := if top then r else h - 1 - r
/-- the first r rows are laid -/
def Rd (t : Nat → Nat) (pal : Nat → Int32) (top : Bool) (st d w h r : Nat) (pts : Nat → Int32) : Prop := ∀ r', r' < r → ∀ k, k < w → pts (rwy top h r' * w + k) = rvl t pal (st + r' * rbt w d) d k
def rxs (t : Nat → Nat) (st d w c r : Nat) : Prop := ∀ r', r' < r → rix t (st + r' * rbt w d) d w c
theorem rwy_lt {top : Bool} {h r : Nat} (hr : r < h) : rwy top h r < h := by
  unfold rwy
  cases top
  · show h - 1 - r < h
    omega
  · exact hr
theorem rwy_ne {top : Bool} {h r r' : Nat} (hr : r < h) (hr' : r' < r) : rwy top h r' < rwy top h r ∨ rwy top h r < rwy top h r' := by
  unfold rwy
  cases top
  · right
    show h - 1 - r < h - 1 - r'
    omega
  · left
    exact hr'
theorem Rd_s {t : Nat → Nat} {pal : Nat → Int32} {top : Bool} {st d w h r : Nat} {pts pts' : Nat → Int32} (hr : r < h) (h0 : Rd t pal top st d w h r pts) (h1 : RW pts (rwy top h r) w (rvl t pal (st + r * rbt w d) d) w pts') : Rd t pal top st d w h (r + 1) pts' := by
  intro r' hr' k hk
  by_cases e : r' = r
  · rw [e]
    exact h1.1 k hk
  · rw [h1.2 _ ?_]
    · exact h0 r' (by omega) k hk
    · rcases rwy_ne (top := top) hr (show r' < r by omega) with q | q
      · left
        have := row_in (w := w) q
        rw [Nat.mul_comm w] at this
        omega
      · right
        have := row_in (w := w) q
        rw [Nat.mul_comm w] at this
        omega
theorem rxs_s {t : Nat → Nat} {st d w c r : Nat} (h : rxs t st d w c r) (h2 : rix t (st + r * rbt w d) d w c) : rxs t st d w c (r + 1) := by
  intro r' hr'
  by_cases e : r' = r
  · rw [e]; exact h2
  · exact h r' (by omega)
theorem y0_ok {h r : Nat} (hr : r < h) : (nI h - 1) - nI r = nI (h - 1 - r) := by
  rw [show nI h - 1 = nI (h - 1) from pk_sub (show 1 ≤ h by omega), pk_sub (by omega)]
theorem rowsD_L {K n d w h c st : Nat} {top : Bool} (hK : 16384 < K) (hn : n ≤ 65536) (hd : dOk d) (hc : c ≤ 256) (hwh : w * h ≤ 16384) (hw0 : 0 < w) {T : Nat → Int32} {t : Nat → Nat} (ht : Tb n T t) (hst : st + rbt w d * h = n) (pal : Nat → Int32) : ∀ (k r q : Nat) (pts : Nat → Int32), r + k = h → k < q → rxs t st d w c r → Rd t pal top st d w h r pts → Gq (rxs t st d w c h) (fun m => ∃ pts', m = some (.inl (nI n, pts')) ∧ Rd t pal top st d w h h pts') (f_BmpFiles_takeRows_L44 K (nI w) (nI h) (nI c) (nI d) (b2 top) (nI n) T pal (nI (rbt w d)) q (nI (st + r * rbt w d)) pts (nI r)) := by
  intro k
  induction k with
  | zero =>
    intro r q pts hk hq hx hI
    obtain ⟨q, rfl⟩ : ∃ w, q = w + 1 := ⟨q - 1, by omega⟩
    have e : r = h := by omega
    subst e
    rw [Nat.mul_comm r, hst]
    refine Gq.yes hx ⟨pts, ?_, hI⟩
    show (f_BmpFiles_takeRows_44 K _ (nI w) (nI r) (nI c) (nI d) (b2 top) (nI n) (nI n) T pal pts (nI (rbt w d)) (nI r)) = _
    unfold f_BmpFiles_takeRows_44
    rw [if_pos (nI_le (by omega) (by have := Nat.le_mul_of_pos_left r hw0; omega))]
  | succ k ih =>
    intro r q pts hk hq hx hI
    obtain ⟨q, rfl⟩ : ∃ w, q = w + 1 := ⟨q - 1, by omega⟩
    have hh := Nat.le_mul_of_pos_left h hw0
    have hw : w ≤ 16384 := Nat.le_trans (Nat.le_mul_of_pos_right w (by omega)) hwh
    obtain ⟨b1, b2', b3⟩ := rbt_b w d
    have b4 := rbt_lt hw (dOk_le hd)
    have hin : r * rbt w d + rbt w d ≤ rbt w d * h := row_in (w := rbt w d) (show r < h by omega)
    have h71 : Gq (rxs t st d w c h) (fun m => ∃ pts', m = some (.inl (nI n, pts')) ∧ Rd t pal top st d w h h pts') (f_BmpFiles_takeRows_71 K ((f_BmpFiles_takeRows_L44 K (nI w) (nI h) (nI c) (nI d) (b2 top) (nI n) T pal (nI (rbt w d))) q) (nI w) (nI h) (nI c) (nI d) (b2 top) (nI (st + r * rbt w d)) (nI n) T pal pts (nI (rbt w d)) (nI r) (nI (rwy top h r))) := by
      have h110 : ∀ pts', rix t (st + r * rbt w d) d w c → RW pts (rwy top h r) w (rvl t pal (st + r * rbt w d) d) w pts' → Gq (rxs t st d w c h) (fun m => ∃ pts', m = some (.inl (nI n, pts')) ∧ Rd t pal top st d w h h pts') (f_BmpFiles_takeRows_110 K ((f_BmpFiles_takeRows_L44 K (nI w) (nI h) (nI c) (nI d) (b2 top) (nI n) T pal (nI (rbt w d))) q) (nI w) (nI h) (nI c) (nI d) (b2 top) (nI (st + r * rbt w d + (w * d + 7) / 8)) (nI n) T pal pts' (nI (rbt w d)) (nI r) (nI (st + r * rbt w d) + nI (rbt w d))) := by
        intro pts' hi hR
        unfold f_BmpFiles_takeRows_110 f_Source_place
        rw [q_bind, nI_add, pk_sub (by omega), show st + r * rbt w d + rbt w d - (st + r * rbt w d + (w * d + 7) / 8) = rbt w d - (w * d + 7) / 8 by omega, nI_1]
        refine Gq.try (skip_ex (k := rbt w d - (w * d + 7) / 8) (by omega) hn (by omega)) (fun u => ⟨_, rfl⟩) (fun _ => by omega) (fun _ => ?_)
        have hr := ih (r + 1) q pts' (by omega) (by omega) (rxs_s hx hi) (Rd_s (by omega) hI hR)
        rw [Nat.succ_mul] at hr
        rw [show st + r * rbt w d + (w * d + 7) / 8 + (rbt w d - (w * d + 7) / 8) = st + (r * rbt w d + rbt w d) by omega]
        exact hr
      have hrow := rowD (K := K) (c := c) hK hn hd hc hwh (rwy_lt (top := top) (show r < h by omega)) ht (p := st + r * rbt w d) (by omega) pal pts
      unfold f_BmpFiles_takeRows_71 f_Source_place
      rw [q_bind]
      by_cases h8 : d ≤ 8
      · rw [if_neg (show ¬ (8 : Int32) < nI d from nI_nlt (a := 8) (by omega) (by omega))]
        refine Gq.tryQ (hrow.1 h8) (fun u => ⟨_, rfl⟩) (fun h => h r (by omega)) (fun hi b hb => ?_)
        exact h110 b hi hb
      · obtain ⟨b, hb, hR⟩ := hrow.2 h8
        rw [if_pos (show (8 : Int32) < nI d from nI_lt (a := 8) (by omega) (by have := dOk_le hd; omega)), hb, q_tryL]
        exact h110 b (fun q => absurd q h8) hR
    show Gq _ _ (f_BmpFiles_takeRows_44 K _ (nI w) (nI h) (nI c) (nI d) (b2 top) (nI (st + r * rbt w d)) (nI n) T pal pts (nI (rbt w d)) (nI r))
    unfold f_BmpFiles_takeRows_44
    rw [if_neg (nI_ge (by omega) (by omega))]
    cases top
    · rw [if_pos (show b2 false = 0 from rfl), y0_ok (by omega)]
      exact h71
    · rw [if_neg (show ¬ b2 true = 0 by decide)]
      exact h71
theorem rowsM_L {K n d w h c st : Nat} {top : Bool} (hK : 16384 < K) (hn : n ≤ 65536) (hd : dOk d) (hc : c ≤ 256) (hwh : w * h ≤ 16384) (hw0 : 0 < w) {T : Nat → Int32} {t : Nat → Nat} (ht : Tb n T t) (x7 : Int64) (hx7 : 0 ≤ lg_cmp x7 0 ↔ top = false) (pal : Nat → Int32) : ∀ (k r q : Nat) (pts : Nat → Int32), r + k = h → k < q → st + r * rbt w d ≤ n → rxs t st d w c r → Rd t pal top st d w h r pts → Gq (st + rbt w d * h ≤ n ∧ rxs t st d w c h) (fun m => ∃ pts', m = some (.inl (nI (st + rbt w d * h), pts')) ∧ Rd t pal top st d w h h pts') (f_M_readBmp_L499 K (nI n) (nI w) (nI h) (nI d) (nI c) T pal x7 q (nI (st + r * rbt w d)) pts (nI r)) := by
  intro k
  induction k with
  | zero =>
    intro r q pts hk hq hp hx hI
    obtain ⟨q, rfl⟩ : ∃ w, q = w + 1 := ⟨q - 1, by omega⟩
    have e : r = h := by omega
    subst e
    rw [Nat.mul_comm r] at hp ⊢
    refine Gq.yes ⟨hp, hx⟩ ⟨pts, ?_, hI⟩
    show (f_M_readBmp_499 K _ (nI n) (nI (st + rbt w d * r)) (nI w) (nI r) (nI d) (nI c) T pal pts x7 (nI r)) = _
    unfold f_M_readBmp_499
    rw [if_pos (nI_le (by omega) (by have := Nat.le_mul_of_pos_left r hw0; omega))]
  | succ k ih =>
    intro r q pts hk hq hp hx hI
    obtain ⟨q, rfl⟩ : ∃ w, q = w + 1 := ⟨q - 1, by omega⟩
    have hh := Nat.le_mul_of_pos_left h hw0
    have hin : r * rbt w d + rbt w d ≤ rbt w d * h := row_in (w := rbt w d) (show r < h by omega)
    have h530 : Gq (st + rbt w d * h ≤ n ∧ rxs t st d w c h) (fun m => ∃ pts', m = some (.inl (nI (st + rbt w d * h), pts')) ∧ Rd t pal top st d w h h pts') (f_M_readBmp_530 K ((f_M_readBmp_L499 K (nI n) (nI w) (nI h) (nI d) (nI c) T pal x7) q) (nI n) (nI (st + r * rbt w d)) (nI w) (nI h) (nI d) (nI c) T pal pts x7 (nI r) (nI (rwy top h r))) := by
      unfold f_M_readBmp_530
      rw [nI_1]
      refine Gq.tryQ (rowM (K := K) (c := c) hK hn hd hc hwh (rwy_lt (top := top) (show r < h by omega)) ht hp pal pts) (fun u => ⟨_, rfl⟩) (fun q => ⟨by omega, q.2 r (by omega)⟩) (fun hi b hb => ?_)
      have hr := ih (r + 1) q b (by omega) (by omega) (by rw [Nat.succ_mul]; omega) (rxs_s hx hi.2) (Rd_s (by omega) hI hb)
      rw [Nat.succ_mul, ← Nat.add_assoc] at hr
      exact hr
    show Gq _ _ (f_M_readBmp_499 K _ (nI n) (nI (st + r * rbt w d)) (nI w) (nI h) (nI d) (nI c) T pal pts x7 (nI r))
    unfold f_M_readBmp_499
    rw [if_neg (nI_ge (by omega) (by omega))]
    cases top
    · rw [if_pos (hx7.mpr rfl), y0_ok (by omega)]
      exact h530
    · rw [if_neg (fun q => Bool.noConfusion (hx7.mp q))]
      exact h530
theorem prwD {K n d w h c st : Nat} {top : Bool} (hK : 16384 < K) (hn : n ≤ 65536) (hd : dOk d) (hc : c ≤ 256) (hwh : w * h ≤ 16384) (hw0 : 0 < w) (hh0 : 0 < h) (hst : st ≤ n) {T : Nat → Int32} {t : Nat → Nat} (ht : Tb n T t) (pal pts : Nat → Int32) : Gq (st + rbt w d * h = n ∧ rxs t st d w c h) (fun m => ∃ pts', m = some (.inl ((), nI n, pts')) ∧ Rd t pal top st d w h h pts') (f_BmpFiles_takeRows K (nI w) (nI h) (nI c) (nI d) (b2 top) (nI st) (nI n) T pal pts) := by
  have hw : w ≤ 16384 := Nat.le_trans (Nat.le_mul_of_pos_right w hh0) hwh
  have hh : h ≤ 16384 := Nat.le_trans (Nat.le_mul_of_pos_left h hw0) hwh
  have b4 := rbt_lt hw (dOk_le hd)
  have hwd : w * d ≤ 16384 * 32 := Nat.mul_le_mul hw (dOk_le hd)
  have hrh : rbt w d * h ≤ 65536 * h := Nat.mul_le_mul_right h b4
  have erb : (((nI w * nI d) + 31) / 32) * 4 = nI (rbt w d) := by
    rw [pk_mul]
    show (nI (w * d) + nI 31) / nI 32 * nI 4 = _
    rw [nI_add, pk_div (by omega) (by omega) (by omega), pk_mul]
    rfl
  unfold f_BmpFiles_takeRows f_BmpFiles_takeRows_39 f_Source_left
  rw [q_bind, erb, pk_mul, pk_sub hst]
  by_cases e : st + rbt w d * h = n
  · rw [if_pos (show nI (n - st) = nI (rbt w d * h) by rw [show n - st = rbt w d * h by omega]), need1, q_tryL]
    have hL := rowsD_L (top := top) hK hn hd hc hwh hw0 ht e pal h 0 K pts (by omega) (by omega) (fun r' hr' => absurd hr' (Nat.not_lt_zero _)) (fun r' hr' => absurd hr' (Nat.not_lt_zero _))
    rw [Nat.zero_mul] at hL
    exact Gq.tryQL hL (fun u => ⟨u, rfl⟩) (fun h => h.2) (fun h b hb => Gq.yes ⟨e, h⟩ ⟨b, rfl, hb⟩)
  · rw [if_neg (show ¬ nI (n - st) = nI (rbt w d * h) by rw [nI_eq32 (by omega) (by omega)]; omega), need0, q_tryR]
    exact Gq.no (fun q => e q.1) ⟨_, rfl⟩
