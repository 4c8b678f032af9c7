/-! the pure half: numbers and points of a PNG's rows -/
/-- bytes of both sides below N -/
def Ub (N : Nat) (f g : Nat → Int32) (u : Nat → Nat) : Prop := (∀ j, j < N → tv f j = u j ∧ tv g j = u j) ∧ ∀ j, u j < 256
def smp (u : Nat → Nat) (r0 k dep : Nat) : Nat := if dep = 16 then u (r0 + 2 * k) * 256 + u (r0 + 2 * k + 1) else u (r0 + k * dep / 8) / 2 ^ (8 - dep - k * dep % 8) % 2 ^ dep
/-- where a number lies -/
def sOk (N r0 k dep : Nat) : Prop := if dep = 16 then r0 + 2 * k + 1 < N else r0 + k * dep / 8 < N
def dpO (dep : Nat) : Prop := dep = 1 ∨ dep = 2 ∨ dep = 4 ∨ dep = 8 ∨ dep = 16
theorem smp_lt {u : Nat → Nat} (hu : ∀ j, u j < 256) {r0 k dep : Nat} (hd : dpO dep) : smp u r0 k dep < 2 ^ dep := by
  unfold smp
  by_cases h : dep = 16
  · rw [if_pos h, h]
    have h1 := hu (r0 + 2 * k)
    have h2 := hu (r0 + 2 * k + 1)
    omega
  · rw [if_neg h]
    exact Nat.mod_lt _ (Nat.two_pow_pos _)
theorem bits_fit {dep k : Nat} (hd : dpO dep) (h16 : ¬ dep = 16) : dep + k * dep % 8 ≤ 8 := by
  rcases hd with rfl | rfl | rfl | rfl | rfl
  · omega
  · omega
  · omega
  · omega
  · exact absurd rfl h16
theorem num_bits {x : Int32} {v s dep : Nat} (hv : x.toBitVec.toNat % 256 = v) (hs : s + dep ≤ 8) : (x >>> (nI s &&& 31)) &&& (((1 : Int32) <<< (nI dep &&& 31)) - 1) = nI (v / 2 ^ s % 2 ^ dep) := by
  refine bt_ext (fun i hi => ?_)
  rw [bt_and, bt_sshr (by omega) _ hi, mask_bt dep (by omega) i hi, bt_nI _ _ hi, Nat.testBit_mod_two_pow, Nat.testBit_div_two_pow]
  by_cases h : i < dep
  · rw [if_pos (by omega), decide_eq_true h, Bool.and_true, Bool.true_and, ← hv, show (256 : Nat) = 2 ^ 8 from rfl, Nat.testBit_mod_two_pow, decide_eq_true (show i + s < 8 by omega), Bool.true_and, Nat.add_comm]
    rfl
  · rw [decide_eq_false h, Bool.and_false, Bool.false_and]
theorem and255 (x : Int32) : (x &&& 255).toBitVec.toNat % 256 = x.toBitVec.toNat % 256 := by
  have h : x &&& 255 = nI (x.toBitVec.toNat % 256) := pk_and x 8 (by decide)
  rw [h, pk_tn (by omega)]
  omega
theorem sh8 {dep k : Nat} (hd : dpO dep) (h16 : ¬ dep = 16) (hk : k * dep < 2 ^ 30) : ((8 : Int32) - nI dep) - (nI (k * dep) - nI (k * dep) / 8 * 8) = nI (8 - dep - k * dep % 8) := by
  have hf := bits_fit (k := k) hd h16
  rw [show nI (k * dep) - nI (k * dep) / 8 * 8 = nI (k * dep % 8) from pk_rem (d := 8) (by omega) (by omega) (by omega), show (8 : Int32) - nI dep = nI (8 - dep) from pk_sub (a := 8) (by omega), pk_sub (by omega)]
theorem num_D {N r0 k dep : Nat} (hN : N ≤ 147456) (hd : dpO dep) (hk : k < 2 ^ 20) (ho : sOk N r0 k dep) {f g : Nat → Int32} {u : Nat → Nat} (hu : Ub N f g u) : f_PngReader_numberAt (nI r0) (nI k) (nI dep) f = some (nI (smp u r0 k dep), ()) := by
  unfold f_PngReader_numberAt smp
  unfold sOk at ho
  have hd16 : dep ≤ 16 := by unfold dpO at hd; omega
  have hkd : k * dep ≤ k * 16 := Nat.mul_le_mul_left _ hd16
  by_cases h : dep = 16
  · rw [if_pos h] at ho
    have h1 := hu.2 (r0 + 2 * k)
    have h2 := hu.2 (r0 + 2 * k + 1)
    rw [if_pos h, if_pos (show nI dep = 16 by rw [h]; rfl), show (2 : Int32) * nI k = nI (2 * k) from pk_mul 2 k, nI_add, show nI (r0 + 2 * k) + 1 = nI (r0 + 2 * k + 1) from nI_add _ 1, if_pos (q_inb (by omega) (by omega)), if_pos (q_inb (by omega) (by omega)), nI_clamp (show r0 + 2 * k < 2 ^ 31 by omega), nI_clamp (show r0 + 2 * k + 1 < 2 ^ 31 by omega), tv_ok, tv_ok, (hu.1 _ (by omega)).1, (hu.1 _ (by omega)).1, show (nI (u (r0 + 2 * k)) <<< ((8 : Int32) &&& 31)) ||| nI (u (r0 + 2 * k + 1)) = nI (u (r0 + 2 * k) * 256 + u (r0 + 2 * k + 1)) from shl_or (s := 8) (by omega) (by omega) (by omega)]
  · rw [if_neg h] at ho
    have hf := bits_fit (k := k) hd h
    rw [if_neg h, if_neg (show ¬ nI dep = 16 from fun z => h ((nI_eq32 (b := 16) (by omega) (by omega)).mp z)), pk_mul, show nI (k * dep) / 8 = nI (k * dep / 8) from pk_div (d := 8) (by omega) (by omega) (by omega), nI_add, if_pos (q_inb (by omega) (by omega)), nI_clamp (by omega), show nI (k * dep / 8) = nI (k * dep) / 8 from (pk_div (d := 8) (by omega) (by omega) (by omega)).symm, sh8 hd h (by omega), num_bits (hu.1 _ ho).1 (by omega)]
theorem num_M {N r0 k dep : Nat} (hN : N ≤ 147456) (hd : dpO dep) (hk : k < 2 ^ 20) (ho : sOk N r0 k dep) {f g : Nat → Int32} {u : Nat → Nat} (hu : Ub N f g u) : f_M_sample (nI r0) (nI k) (nI dep) g = some (nI (smp u r0 k dep), ()) := by
  unfold f_M_sample smp
  unfold sOk at ho
  have hd16 : dep ≤ 16 := by unfold dpO at hd; omega
  have hkd : k * dep ≤ k * 16 := Nat.mul_le_mul_left _ hd16
  by_cases h : dep = 16
  · rw [if_pos h] at ho
    have h1 := hu.2 (r0 + 2 * k)
    have h2 := hu.2 (r0 + 2 * k + 1)
    rw [if_pos h, if_pos (show nI dep = 16 by rw [h]; rfl), show (2 : Int32) * nI k = nI (2 * k) from pk_mul 2 k, nI_add, show nI (r0 + 2 * k) + 1 = nI (r0 + 2 * k + 1) from nI_add _ 1, if_pos (q_inb (by omega) (by omega)), if_pos (q_inb (by omega) (by omega)), nI_clamp (show r0 + 2 * k < 2 ^ 31 by omega), nI_clamp (show r0 + 2 * k + 1 < 2 ^ 31 by omega), tv_ok, tv_ok, (hu.1 _ (by omega)).2, (hu.1 _ (by omega)).2, show (nI (u (r0 + 2 * k)) <<< ((8 : Int32) &&& 31)) ||| nI (u (r0 + 2 * k + 1)) = nI (u (r0 + 2 * k) * 256 + u (r0 + 2 * k + 1)) from shl_or (s := 8) (by omega) (by omega) (by omega)]
  · rw [if_neg h] at ho
    have hf := bits_fit (k := k) hd h
    rw [if_neg h, if_neg (show ¬ nI dep = 16 from fun z => h ((nI_eq32 (b := 16) (by omega) (by omega)).mp z)), pk_mul, show nI (k * dep) / 8 = nI (k * dep / 8) from pk_div (d := 8) (by omega) (by omega) (by omega), nI_add, if_pos (q_inb (by omega) (by omega)), nI_clamp (by omega), show nI (k * dep / 8) = nI (k * dep) / 8 from (pk_div (d := 8) (by omega) (by omega) (by omega)).symm, sh8 hd h (by omega), num_bits ((and255 _).trans (hu.1 _ ho).2) (by omega)]
def scl (v dep : Nat) : Nat := if dep = 1 then v * 255 else if dep = 2 then v * 85 else if dep = 4 then v * 17 else if dep = 16 then v / 256 else v
theorem scl_D {v dep : Nat} (hd : dpO dep) (hv : v < 2 ^ dep) : f_PngReader_scaled (nI v) (nI dep) = some (nI (scl v dep), ()) ∧ scl v dep < 256 := by
  unfold f_PngReader_scaled scl
  have h16 : nI v >>> ((8 : Int32) &&& 31) = nI (v / 2 ^ 8) ∨ 2 ^ 31 ≤ v := by
    by_cases h : v < 2 ^ 31
    · exact Or.inl (pk_shrN h (nI 8 &&& 31) 8 (sh_amt 8 (by omega)))
    · exact Or.inr (by omega)
  rcases hd with rfl | rfl | rfl | rfl | rfl
  · rw [if_pos (show nI 1 = 1 from rfl), if_pos rfl, show nI v * 255 = nI (v * 255) from pk_mul v 255]
    exact ⟨rfl, by omega⟩
  · rw [if_neg (show ¬ nI 2 = 1 by decide), if_pos (show nI 2 = 2 from rfl), if_neg (by omega), if_pos rfl, show nI v * 85 = nI (v * 85) from pk_mul v 85]
    exact ⟨rfl, by omega⟩
  · rw [if_neg (show ¬ nI 4 = 1 by decide), if_neg (show ¬ nI 4 = 2 by decide), if_pos (show nI 4 = 4 from rfl), if_neg (by omega), if_neg (by omega), if_pos rfl, show nI v * 17 = nI (v * 17) from pk_mul v 17]
    exact ⟨rfl, by omega⟩
  · rw [if_neg (show ¬ nI 8 = 1 by decide), if_neg (show ¬ nI 8 = 2 by decide), if_neg (show ¬ nI 8 = 4 by decide), if_neg (show ¬ nI 8 = 16 by decide), if_neg (by omega), if_neg (by omega), if_neg (by omega), if_neg (by omega)]
    exact ⟨rfl, by omega⟩
  · rw [if_neg (show ¬ nI 16 = 1 by decide), if_neg (show ¬ nI 16 = 2 by decide), if_neg (show ¬ nI 16 = 4 by decide), if_pos (show nI 16 = 16 from rfl), if_neg (by omega), if_neg (by omega), if_neg (by omega), if_pos rfl]
    rcases h16 with h16 | h16
    · rw [h16]
      exact ⟨rfl, by omega⟩
    · omega
theorem scl_M {v dep : Nat} (hd : dpO dep) (hv : v < 2 ^ dep) : f_M_shade (nI v) (nI dep) = some (nI (scl v dep), ()) := by
  unfold f_M_shade f_M_shade_64 scl
  have h16 : nI v >>> ((8 : Int32) &&& 31) = nI (v / 2 ^ 8) ∨ 2 ^ 31 ≤ v := by
    by_cases h : v < 2 ^ 31
    · exact Or.inl (pk_shrN h (nI 8 &&& 31) 8 (sh_amt 8 (by omega)))
    · exact Or.inr (by omega)
  rcases hd with rfl | rfl | rfl | rfl | rfl
  · rw [if_neg (show ¬ nI 1 = 16 by decide), if_neg (show ¬ nI 1 = 8 by decide), if_neg (show ¬ nI 1 = 4 by decide), if_neg (show ¬ nI 1 = 2 by decide), if_pos rfl, show (255 : Int32) * nI v = nI (255 * v) from pk_mul 255 v, Nat.mul_comm]
  · rw [if_neg (show ¬ nI 2 = 16 by decide), if_neg (show ¬ nI 2 = 8 by decide), if_neg (show ¬ nI 2 = 4 by decide), if_pos (show nI 2 = 2 from rfl), if_neg (by omega), if_pos rfl, show (85 : Int32) * nI v = nI (85 * v) from pk_mul 85 v, Nat.mul_comm]
  · rw [if_neg (show ¬ nI 4 = 16 by decide), if_neg (show ¬ nI 4 = 8 by decide), if_pos (show nI 4 = 4 from rfl), if_neg (by omega), if_neg (by omega), if_pos rfl, show (17 : Int32) * nI v = nI (17 * v) from pk_mul 17 v, Nat.mul_comm]
  · rw [if_neg (show ¬ nI 8 = 16 by decide), if_pos (show nI 8 = 8 from rfl), if_neg (by omega), if_neg (by omega), if_neg (by omega), if_neg (by omega)]
  · rw [if_pos (show nI 16 = 16 from rfl), if_neg (by omega), if_neg (by omega), if_neg (by omega), if_pos rfl]
    rcases h16 with h16 | h16
    · rw [h16]
    · omega
theorem grey_eq : ∀ s, s < 256 → nI s * 16843008 = ((nI s <<< ((24 : Int32) &&& 31)) ||| (nI s <<< ((16 : Int32) &&& 31))) ||| (nI s <<< ((8 : Int32) &&& 31)) := by decide +kernel
/-- numbers a point -/
def spp (kind : Nat) : Nat := if kind = 6 then 4 else if kind = 2 then 3 else if kind = 4 then 2 else 1
theorem samp_M {kind : Nat} (hk : kind = 0 ∨ kind = 2 ∨ kind = 3 ∨ kind = 4 ∨ kind = 6) : f_M_samples (nI kind) = some (nI (spp kind), ()) := by
  rcases hk with rfl | rfl | rfl | rfl | rfl <;> rfl
theorem bap_D {kind dep : Nat} (hk : kind = 0 ∨ kind = 2 ∨ kind = 3 ∨ kind = 4 ∨ kind = 6) : f_PngReader_bitsAPoint (nI dep) (nI kind) = some (nI (spp kind * dep), ()) := by
  unfold f_PngReader_bitsAPoint f_PngReader_bitsAPoint_38
  rcases hk with rfl | rfl | rfl | rfl | rfl
  · rw [if_neg (show ¬ nI 0 = 6 by decide), if_neg (show ¬ nI 0 = 2 by decide), if_neg (show ¬ nI 0 = 4 by decide), show (1 : Int32) * nI dep = nI (1 * dep) from pk_mul 1 dep]
    rfl
  · rw [if_neg (show ¬ nI 2 = 6 by decide), if_pos (show nI 2 = 2 from rfl), show (3 : Int32) * nI dep = nI (3 * dep) from pk_mul 3 dep]
    rfl
  · rw [if_neg (show ¬ nI 3 = 6 by decide), if_neg (show ¬ nI 3 = 2 by decide), if_neg (show ¬ nI 3 = 4 by decide), show (1 : Int32) * nI dep = nI (1 * dep) from pk_mul 1 dep]
    rfl
  · rw [if_neg (show ¬ nI 4 = 6 by decide), if_neg (show ¬ nI 4 = 2 by decide), if_pos (show nI 4 = 4 from rfl), show (2 : Int32) * nI dep = nI (2 * dep) from pk_mul 2 dep]
    rfl
  · rw [if_pos (show nI 6 = 6 from rfl), show (4 : Int32) * nI dep = nI (4 * dep) from pk_mul 4 dep]
    rfl
theorem point_lk {N r0 x dep kind c : Nat} {tr : Bool} (hN : N ≤ 147456) (hd : dpO dep) (hk : kind = 0 ∨ kind = 2 ∨ kind = 3 ∨ kind = 4 ∨ kind = 6) (hk3 : kind = 3 → dep ≤ 8) (hx : x < 16384) (hc : c ≤ 256) (hr : ∀ j, j < spp kind → sOk N r0 (x * spp kind + j) dep) {f g palD palM key ck : Nat → Int32} {u : Nat → Nat} (hu : Ub N f g u) (hpal : Agr c palD palM) (hkey : Agr (kn tr kind) key ck) : Lk (fun a b => a = b) (f_PngReader_pointAt (nI r0) (nI x) (nI c) (b2 tr) (nI dep) (nI kind) f palD key) (f_M_point (nI r0) (nI x) (nI dep) (nI kind) (nI c) (b2 (tr && decide (kind ≠ 3))) g palM ck) := by
  unfold f_PngReader_pointAt f_M_point
  have hD : ∀ k, k < 2 ^ 20 → sOk N r0 k dep → f_PngReader_numberAt (nI r0) (nI k) (nI dep) f = some (nI (smp u r0 k dep), ()) := fun k h1 h2 => num_D hN hd h1 h2 hu
  have hM : ∀ k, k < 2 ^ 20 → sOk N r0 k dep → f_M_sample (nI r0) (nI k) (nI dep) g = some (nI (smp u r0 k dep), ()) := fun k h1 h2 => num_M hN hd h1 h2 hu
  have hl : ∀ k, smp u r0 k dep < 2 ^ dep := fun k => smp_lt hu.2 hd
  have hsD : ∀ k, f_PngReader_scaled (nI (smp u r0 k dep)) (nI dep) = some (nI (scl (smp u r0 k dep) dep), ()) := fun k => (scl_D hd (hl k)).1
  have hs6 : ∀ k, scl (smp u r0 k dep) dep < 256 := fun k => (scl_D hd (hl k)).2
  have hsM : ∀ k, f_M_shade (nI (smp u r0 k dep)) (nI dep) = some (nI (scl (smp u r0 k dep) dep), ()) := fun k => scl_M hd (hl k)
  rw [samp_M hk, q_bind]
  dsimp only
  rcases hk with rfl | rfl | rfl | rfl | rfl
  · -- grey
    have h0 := hr 0 (by decide)
    rw [show spp 0 = 1 from rfl, Nat.add_zero] at h0
    rw [show spp 0 = 1 from rfl, pk_mul, if_pos (show nI 0 = 0 from rfl), hM _ (by omega) h0, q_bind, if_neg (show ¬ nI 0 = 3 by decide), if_pos (show nI 0 = 0 from rfl)]
    rw [Nat.mul_one] at h0 ⊢
    rw [hD _ (by omega) h0, q_bind]
    unfold f_PngReader_greyPoint f_PngReader_greyPoint_21 f_PngReader_greyPoint_24 f_M_point_59 f_M_point_105 f_M_point_108
    dsimp only
    rw [if_neg (show ¬ nI 0 = 4 by decide), hsD, hsM, q_bind, q_bind, grey_eq _ (hs6 x)]
    cases tr
    · rw [if_pos (show b2 false = 0 from rfl), if_pos (show b2 (false && decide (0 ≠ 3)) = 0 from rfl)]
      exact Lk.yes rfl
    · rw [if_neg (show ¬ b2 true = 0 by decide), if_neg (show ¬ b2 (true && decide (0 ≠ 3)) = 0 by decide), if_pos (show inb 0 3 = true from q_inb (i := 0) (by omega) (by omega)), if_pos (show inb 0 3 = true from q_inb (i := 0) (by omega) (by omega)), show key (Int32.toNatClampNeg 0) = ck (Int32.toNatClampNeg 0) from hkey 0 (by decide)]
      by_cases e : nI (smp u r0 x dep) = ck (Int32.toNatClampNeg 0)
      · rw [if_pos e, if_pos e]
        exact Lk.yes rfl
      · rw [if_neg e, if_neg e]
        exact Lk.yes rfl
  · -- three
    have h0 := hr 0 (by decide)
    have h1 := hr 1 (by decide)
    have h2 := hr 2 (by decide)
    rw [show spp 2 = 3 from rfl] at h0 h1 h2
    rw [Nat.add_zero] at h0
    rw [if_neg (show ¬ nI 2 = 0 by decide), if_neg (show ¬ nI 2 = 1 by decide), if_pos (show nI 2 = 2 from rfl), show spp 2 = 3 from rfl, pk_mul, show (3 : Int32) * nI x = nI (x * 3) from by rw [Nat.mul_comm]; exact pk_mul 3 x, show nI (x * 3) + 1 = nI (x * 3 + 1) from nI_add _ 1, show nI (x * 3) + 2 = nI (x * 3 + 2) from nI_add _ 2, hD _ (by omega) h0, hM _ (by omega) h0, q_bind, q_bind, hD _ (by omega) h1, q_bind, hD _ (by omega) h2, q_bind, if_neg (show ¬ nI 2 = 3 by decide), if_neg (show ¬ nI 2 = 0 by decide), if_neg (show ¬ nI 2 = 4 by decide), q_bind]
    dsimp only
    rw [pk_mul, show nI (x * 3) + 1 = nI (x * 3 + 1) from nI_add _ 1, hM _ (by omega) h1, q_bind, q_bind]
    dsimp only
    rw [pk_mul, show nI (x * 3) + 2 = nI (x * 3 + 2) from nI_add _ 2, hM _ (by omega) h2, q_bind, if_neg (show ¬ nI 2 = 6 by decide)]
    unfold f_PngReader_rgbPoint f_PngReader_rgbPoint_41 f_PngReader_rgbPoint_42 f_PngReader_rgbPoint_82 f_M_point_239 f_M_point_242
    dsimp only
    rw [hsD, hsD, hsD, hsM, hsM, hsM]
    simp only [q_bind]
    rw [if_pos trivial, if_neg (show ¬ (1 : Int32) = 0 by decide)]
    cases tr
    · rw [if_pos (show b2 false = 0 from rfl), if_pos (show b2 (false && decide (2 ≠ 3)) = 0 from rfl)]
      exact Lk.yes rfl
    · rw [if_neg (show ¬ b2 true = 0 by decide), if_neg (show ¬ b2 (true && decide (2 ≠ 3)) = 0 by decide), if_pos (show inb 0 3 = true from q_inb (i := 0) (by omega) (by omega)), if_pos (show inb 0 3 = true from q_inb (i := 0) (by omega) (by omega)), if_pos (show inb 1 3 = true from q_inb (i := 1) (by omega) (by omega)), if_pos (show inb 1 3 = true from q_inb (i := 1) (by omega) (by omega)), if_pos (show inb 2 3 = true from q_inb (i := 2) (by omega) (by omega)), if_pos (show inb 2 3 = true from q_inb (i := 2) (by omega) (by omega)), show key (Int32.toNatClampNeg 0) = ck (Int32.toNatClampNeg 0) from hkey 0 (by decide), show key (Int32.toNatClampNeg 1) = ck (Int32.toNatClampNeg 1) from hkey 1 (by decide), show key (Int32.toNatClampNeg 2) = ck (Int32.toNatClampNeg 2) from hkey 2 (by decide)]
      by_cases e : nI (smp u r0 (x * 3) dep) = ck (Int32.toNatClampNeg 0)
      · rw [if_pos e, if_pos e]
        by_cases e1 : nI (smp u r0 (x * 3 + 1) dep) = ck (Int32.toNatClampNeg 1)
        · rw [if_pos e1, if_pos e1]
          by_cases e2 : nI (smp u r0 (x * 3 + 2) dep) = ck (Int32.toNatClampNeg 2)
          · rw [if_pos e2, if_pos e2]
            exact Lk.yes rfl
          · rw [if_neg e2, if_neg e2]
            exact Lk.yes rfl
        · rw [if_neg e1, if_neg e1]
          exact Lk.yes rfl
      · rw [if_neg e, if_neg e]
        exact Lk.yes rfl
  · -- a table's
    have h0 := hr 0 (by decide)
    rw [show spp 3 = 1 from rfl, Nat.add_zero] at h0
    rw [if_neg (show ¬ nI 3 = 0 by decide), if_neg (show ¬ nI 3 = 1 by decide), if_neg (show ¬ nI 3 = 2 by decide), if_pos (show nI 3 = 3 from rfl), show spp 3 = 1 from rfl, pk_mul, hM _ (by omega) h0, q_bind, if_pos (show nI 3 = 3 from rfl)]
    rw [Nat.mul_one] at h0 ⊢
    rw [hD _ (by omega) h0, q_bind]
    have hv := hl x
    have hp : 2 ^ dep ≤ 2 ^ 8 := Nat.pow_le_pow_right (by omega) (hk3 rfl)
    generalize smp u r0 x dep = v at hv ⊢
    dsimp only
    unfold f_PngReader_pointAt_104 f_M_point_34
    by_cases e : c ≤ v
    · rw [if_pos (nI_le e (by omega)), if_pos (nI_le e (by omega)), need0, can0, q_tryR, q_tryR]
      exact Lk.no ⟨_, rfl⟩ ⟨_, rfl⟩
    · rw [if_neg (nI_ge (by omega) (by omega)), if_neg (nI_ge (by omega) (by omega)), need1, can1, q_tryL, q_tryL, if_pos (q_inb (by omega) (by omega)), if_pos (q_inb (by omega) (by omega)), nI_clamp (by omega), hpal v (by omega)]
      exact Lk.yes rfl
  · -- grey and alpha
    have h0 := hr 0 (by decide)
    have h1 := hr 1 (by decide)
    rw [show spp 4 = 2 from rfl] at h0 h1
    rw [Nat.add_zero] at h0
    rw [if_neg (show ¬ nI 4 = 0 by decide), if_neg (show ¬ nI 4 = 1 by decide), if_neg (show ¬ nI 4 = 2 by decide), if_neg (show ¬ nI 4 = 3 by decide), if_pos (show nI 4 = 4 from rfl), show spp 4 = 2 from rfl, pk_mul, show (2 : Int32) * nI x = nI (x * 2) from by rw [Nat.mul_comm]; exact pk_mul 2 x, show nI (x * 2) + 1 = nI (x * 2 + 1) from nI_add _ 1, hD _ (by omega) h0, hM _ (by omega) h0, q_bind, q_bind, if_neg (show ¬ nI 4 = 3 by decide), if_neg (show ¬ nI 4 = 0 by decide), if_pos (show nI 4 = 4 from rfl)]
    unfold f_M_point_59 f_M_point_108
    dsimp only
    rw [if_pos (show nI 4 = 4 from rfl), show (2 : Int32) * nI x = nI (x * 2) from by rw [Nat.mul_comm]; exact pk_mul 2 x, show nI (x * 2) + 1 = nI (x * 2 + 1) from nI_add _ 1, hM _ (by omega) h1, hsD, q_bind, hD _ (by omega) h1, q_bind, hsD, q_bind, q_bind]
    dsimp only
    rw [hsM, hsM, grey_eq _ (hs6 _)]
    simp only [q_bind]
    exact Lk.yes rfl
  · -- four
    have h0 := hr 0 (by decide)
    have h1 := hr 1 (by decide)
    have h2 := hr 2 (by decide)
    have h3 := hr 3 (by decide)
    rw [show spp 6 = 4 from rfl] at h0 h1 h2 h3
    rw [Nat.add_zero] at h0
    rw [if_neg (show ¬ nI 6 = 0 by decide), if_neg (show ¬ nI 6 = 1 by decide), if_neg (show ¬ nI 6 = 2 by decide), if_neg (show ¬ nI 6 = 3 by decide), if_neg (show ¬ nI 6 = 4 by decide), show spp 6 = 4 from rfl, pk_mul, show (4 : Int32) * nI x = nI (x * 4) from by rw [Nat.mul_comm]; exact pk_mul 4 x, show nI (x * 4) + 1 = nI (x * 4 + 1) from nI_add _ 1, show nI (x * 4) + 2 = nI (x * 4 + 2) from nI_add _ 2, show nI (x * 4) + 3 = nI (x * 4 + 3) from nI_add _ 3, hD _ (by omega) h0, hM _ (by omega) h0, q_bind, q_bind, if_neg (show ¬ nI 6 = 3 by decide), if_neg (show ¬ nI 6 = 0 by decide), if_neg (show ¬ nI 6 = 4 by decide), q_bind]
    dsimp only
    rw [pk_mul, show nI (x * 4) + 1 = nI (x * 4 + 1) from nI_add _ 1, hM _ (by omega) h1, q_bind, q_bind]
    dsimp only
    rw [pk_mul, show nI (x * 4) + 2 = nI (x * 4 + 2) from nI_add _ 2, hM _ (by omega) h2, q_bind, if_pos (show nI 6 = 6 from rfl), hM _ (by omega) h3, q_bind, hD _ (by omega) h1, hD _ (by omega) h2, hD _ (by omega) h3]
    unfold f_M_point_242
    dsimp only
    rw [hsM, hsM, hsM, hsM, hsD]
    simp only [q_bind]
    rw [hsD, hsD, hsD]
    simp only [q_bind]
    exact Lk.yes rfl
