/-! the pure half: the parts of a PNG file -/
def kn (tr : Bool) (kind : Nat) : Nat := if tr = true ∧ kind ≠ 3 then nn kind else 0
def PS (p n c s g m : Nat) (tr : Bool) (kind : Nat) (gf gt : Int32) (T D palD palM key ck : Nat → Int32) (t : Nat → Nat) : Prop := p ≤ n ∧ c ≤ 256 ∧ s ≤ 2 ∧ m ≤ p ∧ Tf p n T t ∧ Bt n T ∧ (s ≠ 0 → gf = nI g ∧ gt = nI (g + m) ∧ g + m ≤ p ∧ ∀ i, i < m → tv T (g + i) = tv D i) ∧ (s = 0 → m = 0) ∧ Agr c palD palM ∧ Agr (kn tr kind) key ck
def RP (n kind : Nat) (x : Int32 × Int32 × Int32 × Int32 × Int32 × Int32 × Int32 × Int32 × (Nat → Int32) × (Nat → Int32) × (Nat → Int32) × Int32) (y : Int32 × Int32 × Int32 × Int32 × (Nat → Int32) × (Nat → Int32) × (Nat → Int32)) : Prop := ∃ p c g m tr, x.1 = nI c ∧ x.2.1 = b2 tr ∧ x.2.2.2.2.2.1 = nI p ∧ x.2.2.2.2.2.2.1 = nI g ∧ x.2.2.2.2.2.2.2.1 = nI (g + m) ∧ x.2.2.2.2.2.2.2.2.2.2.2 = 1 ∧ y.1 = nI p ∧ y.2.1 = nI c ∧ y.2.2.1 = b2 (tr && decide (kind ≠ 3)) ∧ y.2.2.2.1 = nI m ∧ p ≤ n ∧ c ≤ 256 ∧ g + m ≤ p ∧ (∀ i, i < m → tv (x.2.2.2.2.2.2.2.2.1) (g + i) = tv (y.2.2.2.2.2.1) i) ∧ Agr c (x.2.2.2.2.2.2.2.2.2.1) (y.2.2.2.2.1) ∧ Agr (kn tr kind) (x.2.2.2.2.2.2.2.2.2.2.1) (y.2.2.2.2.2.2)
theorem b2_0 {P : Prop} [Decidable P] : b2 (decide P) = 0 ↔ ¬ P := by
  by_cases h : P
  · rw [decide_eq_true h]
    exact ⟨fun e => absurd e (by decide), fun e => absurd h e⟩
  · rw [decide_eq_false h]
    exact ⟨fun _ => h, fun _ => rfl⟩
theorem Agr_mp {m k : Nat} {f g : Nat → Int32} (F : Nat → Int32 → Int32) (h : Agr m f g) : Agr m (mp F f k) (mp F g k) := by
  intro j hj
  by_cases c : j < k
  · rw [mp_lt _ _ c, mp_lt _ _ c, h j hj]
  · rw [mp_ge _ _ (by omega), mp_ge _ _ (by omega), h j hj]
theorem parts_L {K n dep kind : Nat} (hK : 600000 < K) (hn : n ≤ 65536) (hdep : dep ≤ 16) (hk : kind = 0 ∨ kind = 2 ∨ kind = 3 ∨ kind = 4 ∨ kind = 6) {TM : Nat → Int32} {t : Nat → Nat} (htM : Tb n TM t) (hBM : Bt n TM) {t_width : Int32} {t_height : Int32} {t_interlace : Int32} {t_bitAt : Int32} {t_rowBytes : Int32} {t_expected : Int32} {a_t_rows : Nat → Int32} {a_t_lengths : Nat → Int32} {t_literals_all : Int32} {a_t_literals_counts : Nat → Int32} {a_t_literals_meanings : Nat → Int32} {t_distances_all : Int32} {a_t_distances_counts : Nat → Int32} {a_t_distances_meanings : Nat → Int32} {t_lengthCodes_all : Int32} {a_t_lengthCodes_counts : Nat → Int32} {a_t_lengthCodes_meanings : Nat → Int32} {a_t_points : Nat → Int32} : ∀ (r p cnt c s g m qD qM : Nat) (tr : Bool) (gf gt pl pc : Int32) (T D palD palM key ck : Nat → Int32), n - p ≤ r → r < qD → r < qM → cnt < p → PS p n c s g m tr kind gf gt T D palD palM key ck t → Lk (RP n kind) (f_PngReader_takeParts_L4 K (nI dep) (nI kind) (nI n) qD (nI c) (b2 tr) (nI s) pl pc (nI p) gf gt T palD key 0 (nI cnt)) (f_M_readPng_L28 K (nI n) t_width t_height (nI dep) (nI kind) t_interlace t_bitAt t_rowBytes t_expected TM a_t_rows a_t_lengths t_literals_all a_t_literals_counts a_t_literals_meanings t_distances_all a_t_distances_counts a_t_distances_meanings t_lengthCodes_all a_t_lengthCodes_counts a_t_lengthCodes_meanings a_t_points qM (nI p) (nI c) (b2 (tr && decide (kind ≠ 3))) (nI m) palM D ck (b2 (decide (0 < c))) (b2 tr) (b2 (decide (s ≠ 0))) (b2 (decide (s = 2)))) := by
  intro r
  induction r using Nat.strongRecOn with
  | _ r ih =>
    intro p cnt c s g m qD qM tr gf gt pl pc T D palD palM key ck hr hqD hqM hcnt hPS
    obtain ⟨qD, rfl⟩ : ∃ w, qD = w + 1 := ⟨qD - 1, by omega⟩
    obtain ⟨qM, rfl⟩ : ∃ w, qM = w + 1 := ⟨qM - 1, by omega⟩
    obtain ⟨hp, hc, hs, hmp, ht, hB, hG, hm0, hpal, hkey⟩ := id hPS
    have hk256 : kind < 256 := by omega
    have bN := bg4_lt ht.2 p
    have bX := bg4_lt ht.2 (p + 4)
    generalize hn0 : bg4 t p = n0 at bN
    show Lk _ (f_PngReader_takeParts_4 K _ (nI c) (b2 tr) (nI dep) (nI kind) (nI s) pl pc (nI p) (nI n) gf gt T palD key 0 (nI cnt)) (f_M_readPng_28 K _ (nI n) (nI p) t_width t_height (nI dep) (nI kind) t_interlace (nI c) (b2 (tr && decide (kind ≠ 3))) (nI m) t_bitAt t_rowBytes t_expected TM palM D a_t_rows a_t_lengths t_literals_all a_t_literals_counts a_t_literals_meanings t_distances_all a_t_distances_counts a_t_distances_meanings t_lengthCodes_all a_t_lengthCodes_counts a_t_lengthCodes_meanings ck a_t_points (b2 (decide (0 < c))) (b2 tr) (b2 (decide (s ≠ 0))) (b2 (decide (s = 2))))
    unfold f_PngReader_takeParts_4
    rw [if_pos (show (0 : Int32) = 0 from rfl), if_neg (show ¬ (65536 : Int32) ≤ nI cnt from nI_ge (b := 65536) (by omega) (by omega))]
    have hO := open_gq hK hn hp ht pl pc
    rw [hn0] at hO
    -- what the class does with the part
    generalize hDb : dc_try (f_PngReader_openPart K pl pc (nI p) (nI n) T) _ _ = Db
    have hDno : ¬ p + 12 + n0 ≤ n → Th 3 Db := by
      intro h
      obtain ⟨u, hu⟩ := hO.2 h
      rw [← hDb, hu]
      exact ⟨_, rfl⟩
    have hDyes : p + 12 + n0 ≤ n → Db = (if nI (bg4 t (p + 4)) = 1229278788 then (f_PngReader_takeParts_30 K ((f_PngReader_takeParts_L4 K (nI dep) (nI kind) (nI n)) qD) (nI c) (b2 tr) (nI dep) (nI kind) (nI s) (nI n0) (nI (crcV T (p + 4) (p + 8 + n0))) (nI (p + 8)) (nI n) gf gt T palD key (nI cnt) (nI (bg4 t (p + 4))) 1) else (f_PngReader_takeParts_30 K ((f_PngReader_takeParts_L4 K (nI dep) (nI kind) (nI n)) qD) (nI c) (b2 tr) (nI dep) (nI kind) (nI s) (nI n0) (nI (crcV T (p + 4) (p + 8 + n0))) (nI (p + 8)) (nI n) gf gt T palD key (nI cnt) (nI (bg4 t (p + 4))) 0)) := by
      intro h
      rw [← hDb, hO.1 h]
      rfl
    clear hDb hO
    unfold f_M_readPng_28
    by_cases m1 : p + 4 ≤ n
    rotate_left
    · obtain ⟨u, hu⟩ := (bigT_ex (K := K) (by omega) hn hp htM).2 m1
      rw [hu, q_tryR]
      exact Lk.no (hDno (by omega)) ⟨_, rfl⟩
    rw [(bigT_ex (K := K) (by omega) hn hp htM).1 m1, q_tryL, hn0]
    dsimp only
    unfold f_M_readPng_50
    by_cases m2 : 2 ^ 31 ≤ n0
    · rw [if_pos ((l_ge31 bN).mpr m2), can0, q_tryR]
      exact Lk.no (hDno (by omega)) ⟨_, rfl⟩
    rw [if_neg (fun z => m2 ((l_ge31 bN).mp z)), can1, q_tryL, bind_elim]
    have hLt := letters_M (K := K) (q := p + 4) hn htM (t_width := t_width) (t_height := t_height) (t_depth := nI dep) (t_kind := nI kind) (t_interlace := t_interlace) (t_colours := nI c) (t_clear := b2 (tr && decide (kind ≠ 3))) (t_dataSize := nI m) (t_bitAt := t_bitAt) (t_rowBytes := t_rowBytes) (t_expected := t_expected) (a_t_palette := palM) (a_t_data := D) (a_t_rows := a_t_rows) (a_t_lengths := a_t_lengths) (t_literals_all := t_literals_all) (a_t_literals_counts := a_t_literals_counts) (a_t_literals_meanings := a_t_literals_meanings) (t_distances_all := t_distances_all) (a_t_distances_counts := a_t_distances_counts) (a_t_distances_meanings := a_t_distances_meanings) (t_lengthCodes_all := t_lengthCodes_all) (a_t_lengthCodes_counts := a_t_lengthCodes_counts) (a_t_lengthCodes_meanings := a_t_lengthCodes_meanings) (a_t_clearKey := ck) (a_t_points := a_t_points) (x1 := b2 (decide (0 < c))) (x2 := b2 tr) (x3 := b2 (decide (s ≠ 0))) (x4 := b2 (decide (s = 2))) (x5 := lN n0) (x7 := nI (p + 4)) 4 0 K (by omega) (by omega) (by omega) (fun j hj => absurd hj (Nat.not_lt_zero _))
    have hLt2 : Ex _ _ (f_M_readPng_L62 K (nI n) t_width t_height (nI dep) (nI kind) t_interlace (nI c) (b2 (tr && decide (kind ≠ 3))) (nI m) t_bitAt t_rowBytes t_expected TM palM D a_t_rows a_t_lengths t_literals_all a_t_literals_counts a_t_literals_meanings t_distances_all a_t_distances_counts a_t_distances_meanings t_lengthCodes_all a_t_lengthCodes_counts a_t_lengthCodes_meanings ck a_t_points (b2 (decide (0 < c))) (b2 tr) (b2 (decide (s ≠ 0))) (b2 (decide (s = 2))) (lN n0) (nI (p + 4)) K (nI (p + 4)) 0) := hLt
    clear hLt
    -- names, on the class's side
    have iIEND := nm_iff ht.2 (p + 4) (a := 73) (b := 69) (c := 78) (d := 68) (by omega) (by omega) (by omega) (by omega)
    have iIDAT := nm_iff ht.2 (p + 4) (a := 73) (b := 68) (c := 65) (d := 84) (by omega) (by omega) (by omega) (by omega)
    have iPLTE := nm_iff ht.2 (p + 4) (a := 80) (b := 76) (c := 84) (d := 69) (by omega) (by omega) (by omega) (by omega)
    have itRNS := nm_iff ht.2 (p + 4) (a := 116) (b := 82) (c := 78) (d := 83) (by omega) (by omega) (by omega) (by omega)
    have jIEND : nI (bg4 t (p + 4)) = 1229278788 ↔ nm t (p + 4) 73 69 78 68 := (nI_eq32 (b := 1229278788) bX (by omega)).trans iIEND
    have jIDAT : nI (bg4 t (p + 4)) = 1229209940 ↔ nm t (p + 4) 73 68 65 84 := (nI_eq32 (b := 1229209940) bX (by omega)).trans iIDAT
    have jPLTE : nI (bg4 t (p + 4)) = 1347179589 ↔ nm t (p + 4) 80 76 84 69 := (nI_eq32 (b := 1347179589) bX (by omega)).trans iPLTE
    have jtRNS : nI (bg4 t (p + 4)) = 1951551059 ↔ nm t (p + 4) 116 82 78 83 := (nI_eq32 (b := 1951551059) bX (by omega)).trans itRNS
    clear iIEND iIDAT iPLTE itRNS
    by_cases m3 : p + 4 + 4 ≤ n ∧ ∀ j, j < 4 → ltr (t (p + 4 + j)) = true
    rotate_left
    · obtain ⟨u, hu⟩ := hLt2.2 m3
      rw [hu, q_tryR]
      refine Lk.no ?_ ⟨_, rfl⟩
      by_cases hf : p + 12 + n0 ≤ n
      rotate_left
      · exact hDno hf
      have hnl : ∀ a b c d, ltr a = true → ltr b = true → ltr c = true → ltr d = true → ¬ nm t (p + 4) a b c d := by
        intro a b c d ha hb hc hd hnm
        obtain ⟨z0, z1, z2, z3⟩ := hnm
        refine m3 ⟨by omega, fun j hj => ?_⟩
        rcases (show j = 0 ∨ j = 1 ∨ j = 2 ∨ j = 3 by omega) with rfl | rfl | rfl | rfl
        · rw [show p + 4 + 0 = p + 4 from rfl, z0]; exact ha
        · rw [z1]; exact hb
        · rw [z2]; exact hc
        · rw [z3]; exact hd
      rw [hDyes hf, if_neg (fun z => hnl _ _ _ _ (by decide) (by decide) (by decide) (by decide) (jIEND.mp z))]
      unfold f_PngReader_takeParts_30
      rw [if_pos (show (0 : Int32) = 0 from rfl), if_neg (fun z => hnl _ _ _ _ (by decide) (by decide) (by decide) (by decide) (jIDAT.mp z))]
      have hun : ¬ unc (bg4 t (p + 4)) := by
        intro hu
        obtain ⟨u0, u1, u2, u3⟩ := hu
        obtain ⟨v0, v1, v2, v3⟩ := bg4_b ht.2 (p + 4)
        rw [v0] at u0
        rw [v1] at u1
        rw [v2] at u2
        rw [v3] at u3
        have u3' : ltr (t (p + 4)) = true := (sml_or _ (ht.2 _)).mp (Or.inl u3)
        refine m3 ⟨by omega, fun j hj => ?_⟩
        rcases (show j = 0 ∨ j = 1 ∨ j = 2 ∨ j = 3 by omega) with rfl | rfl | rfl | rfl
        · exact u3'
        · exact u2
        · exact u1
        · exact u0
      unfold f_PngReader_takeOther f_PngReader_takeOther_13
      have hX : ∀ {α : Type} (A B : α) (P : Prop) [Decidable P], (if P then A else B) = A ∨ (if P then A else B) = B := by
        intro α A B P _
        by_cases h : P
        · exact Or.inl (if_pos h)
        · exact Or.inr (if_neg h)
      rw [if_neg (fun z => hnl _ _ _ _ (by decide) (by decide) (by decide) (by decide) (jPLTE.mp z)), if_neg (fun z => hnl _ _ _ _ (by decide) (by decide) (by decide) (by decide) (jtRNS.mp z)), if_neg (fun z => hnl _ _ _ _ (by decide) (by decide) (by decide) (by decide) (jPLTE.mp z)), if_neg (fun z => hnl _ _ _ _ (by decide) (by decide) (by decide) (by decide) (jtRNS.mp z)), (unc_ok (K := K) (by omega) bX).2 hun, q_bind, need0, q_tryR]
      by_cases h1 : nI s = 1
      · rw [if_pos h1]
        exact ⟨_, rfl⟩
      · rw [if_neg h1]
        exact ⟨_, rfl⟩
    rw [hLt2.1 m3, q_tryL]
    clear hLt2
    obtain ⟨m3a, hlet⟩ := m3
    unfold f_M_readPng_107
    rw [pk_sub m3a, nI_l (by omega)]
    by_cases m4 : p + 8 + n0 ≤ n
    rotate_left
    · rw [if_pos ((l_gt3 (by omega) (by omega)).mpr (by omega)), can0, q_tryR]
      exact Lk.no (hDno (by omega)) ⟨_, rfl⟩
    rw [if_neg (fun z => by have := (l_gt3 (by omega) (by omega)).mp z; omega), can1, q_tryL, lN_32 (by omega), nI_add]
    have nIDAT := named_ok (K := K) (q := p + 4) (a := 73) (b := 68) (c := 65) (d := 84) (by omega) (by omega) hn htM hBM (str := str_M_184) rfl rfl rfl rfl (by omega) (by omega) (by omega) (by omega)
    have nPLTE := named_ok (K := K) (q := p + 4) (a := 80) (b := 76) (c := 84) (d := 69) (by omega) (by omega) hn htM hBM (str := str_M_190) rfl rfl rfl rfl (by omega) (by omega) (by omega) (by omega)
    have ntRNS := named_ok (K := K) (q := p + 4) (a := 116) (b := 82) (c := 78) (d := 83) (by omega) (by omega) hn htM hBM (str := str_M_196) rfl rfl rfl rfl (by omega) (by omega) (by omega) (by omega)
    have nIEND := named_ok (K := K) (q := p + 4) (a := 73) (b := 69) (c := 78) (d := 68) (by omega) (by omega) hn htM hBM (str := str_M_202) rfl rfl rfl rfl (by omega) (by omega) (by omega) (by omega)
    rw [show p + 4 + 4 = p + 8 from rfl]
    have h401no : ¬ p + 12 + n0 ≤ n → ∀ (C1 C2 C3 : Int32) (pm dm km : Nat → Int32) (y1 y2 y3 y4 : Int32), Th 3 (f_M_readPng_401 K ((f_M_readPng_L28 K (nI n) t_width t_height (nI dep) (nI kind) t_interlace t_bitAt t_rowBytes t_expected TM a_t_rows a_t_lengths t_literals_all a_t_literals_counts a_t_literals_meanings t_distances_all a_t_distances_counts a_t_distances_meanings t_lengthCodes_all a_t_lengthCodes_counts a_t_lengthCodes_meanings a_t_points) qM) (nI n) (nI (p + 8)) t_width t_height (nI dep) (nI kind) t_interlace C1 C2 C3 t_bitAt t_rowBytes t_expected TM pm dm a_t_rows a_t_lengths t_literals_all a_t_literals_counts a_t_literals_meanings t_distances_all a_t_distances_counts a_t_distances_meanings t_lengthCodes_all a_t_lengthCodes_counts a_t_lengthCodes_meanings km a_t_points y1 y2 y3 y4 (nI (p + 4)) (nI (p + 8 + n0))) := by
      intro hf C1 C2 C3 pm dm km y1 y2 y3 y4
      unfold f_M_readPng_401
      obtain ⟨z, hz⟩ : ∃ z, f_M_namedT K 4 (nI (p + 4)) TM str_M_202 = some (z, ()) := by
        by_cases h : nm t (p + 4) 73 69 78 68
        · exact ⟨_, nIEND.1 h⟩
        · exact ⟨_, nIEND.2 h⟩
      obtain ⟨u, hu⟩ := (bigT_ex (K := K) (p := p + 8 + n0) (by omega) hn m4 htM).2 (by omega)
      rw [hz, q_bind, crcV_M (by omega) (by omega) (by omega) (by omega), q_bind, hu, q_tryR]
      exact ⟨_, rfl⟩
    have hclose : p + 12 + n0 ≤ n → ∀ (c' s' g' m' : Nat) (tr' e : Bool) (gf' gt' y4 : Int32) (T' D' palD' palM' key' ck' : Nat → Int32), ((e = true → nm t (p + 4) 73 69 78 68) ∧ (e = false → ¬ nm t (p + 4) 73 69 78 68)) → (e = true → s' ≠ 0) → (e = false → y4 = b2 (decide (s' = 2))) → PS (p + 8 + n0) n c' s' g' m' tr' kind gf' gt' T' D' palD' palM' key' ck' t → Lk (RP n kind) (f_PngReader_takeParts_78 K ((f_PngReader_takeParts_L4 K (nI dep) (nI kind) (nI n)) qD) (nI c') (b2 tr') (nI dep) (nI kind) (nI s') (nI n0) (nI (crcV T (p + 4) (p + 8 + n0))) (nI (p + 8 + n0)) (nI n) gf' gt' T' palD' key' (b2 e) (nI cnt)) (f_M_readPng_401 K ((f_M_readPng_L28 K (nI n) t_width t_height (nI dep) (nI kind) t_interlace t_bitAt t_rowBytes t_expected TM a_t_rows a_t_lengths t_literals_all a_t_literals_counts a_t_literals_meanings t_distances_all a_t_distances_counts a_t_distances_meanings t_lengthCodes_all a_t_lengthCodes_counts a_t_lengthCodes_meanings a_t_points) qM) (nI n) (nI (p + 8)) t_width t_height (nI dep) (nI kind) t_interlace (nI c') (b2 (tr' && decide (kind ≠ 3))) (nI m') t_bitAt t_rowBytes t_expected TM palM' D' a_t_rows a_t_lengths t_literals_all a_t_literals_counts a_t_literals_meanings t_distances_all a_t_distances_counts a_t_distances_meanings t_lengthCodes_all a_t_lengthCodes_counts a_t_lengthCodes_meanings ck' a_t_points (b2 (decide (0 < c'))) (b2 tr') (b2 (decide (s' ≠ 0))) y4 (nI (p + 4)) (nI (p + 8 + n0))) := by
      intro hf c' s' g' m' tr' e gf' gt' y4 T' D' palD' palM' key' ck' he hes hy4 hPS'
      obtain ⟨a1, a2, a3, a4, a5, a6, a7, a8, a9, a10⟩ := id hPS'
      unfold f_PngReader_takeParts_78 f_M_readPng_401
      have hN : f_M_namedT K 4 (nI (p + 4)) TM str_M_202 = some (b2 e, ()) := by
        cases e
        · exact nIEND.2 (he.2 rfl)
        · exact nIEND.1 (he.1 rfl)
      have ecr : crcV T (p + 4) (p + 8 + n0) = crcV TM (p + 4) (p + 8 + n0) := crcV_tv (fun j h1 h2 => by rw [ht.1 j (by omega) (by omega), htM.1 j (by omega)])
      have bc := crcV_lt TM (p + 4) (p + 8 + n0)
      have bQ := bg4_lt htM.2 (p + 8 + n0)
      rw [hN, q_bind, crcV_M (by omega) (by omega) (by omega) (by omega), q_bind, (bigT_ex (K := K) (p := p + 8 + n0) (by omega) hn m4 htM).1 (by omega), q_tryL, ecr]
      have hcl := close_gq (c := crcV TM (p + 4) (p + 8 + n0)) hn a1 bc a5
      dsimp only
      unfold f_M_readPng_443
      by_cases c1 : bg4 t (p + 8 + n0) = crcV TM (p + 4) (p + 8 + n0)
      rotate_left
      · obtain ⟨u, hu⟩ := hcl.2 (fun z => c1 z.2)
        rw [hu, q_tryR, if_neg (fun z => c1 ((l_eq (by omega) (by omega)).mp z).symm), can0, q_tryR]
        exact Lk.no ⟨_, rfl⟩ ⟨_, rfl⟩
      rw [hcl.1 ⟨by omega, c1⟩, q_tryL, if_pos ((l_eq (by omega) (by omega)).mpr c1.symm), can1, q_tryL, nI_1 cnt]
      have hPS2 : PS (p + 8 + n0 + 4) n c' s' g' m' tr' kind gf' gt' T' D' palD' palM' key' ck' t := ⟨by omega, a2, a3, by omega, a5.mono (by omega), a6, fun h => by
        obtain ⟨b1, b2, b3, b4⟩ := a7 h
        exact ⟨b1, b2, by omega, b4⟩, a8, a9, a10⟩
      cases e
      · rw [if_pos (show b2 false = 0 from rfl), hy4 rfl]
        exact ih (n - (p + 8 + n0 + 4)) (by omega) (p + 8 + n0 + 4) (cnt + 1) c' s' g' m' qD qM tr' gf' gt' _ _ T' D' palD' palM' key' ck' (by omega) (by omega) (by omega) (by omega) hPS2
      · rw [if_neg (show ¬ b2 true = 0 by decide)]
        obtain ⟨qD, rfl⟩ : ∃ w, qD = w + 1 := ⟨qD - 1, by omega⟩
        show Lk _ (f_PngReader_takeParts_4 K ((f_PngReader_takeParts_L4 K (nI dep) (nI kind) (nI n)) qD) (nI c') (b2 tr') (nI dep) (nI kind) (nI s') (nI n0) (nI (crcV TM (p + 4) (p + 8 + n0))) (nI (p + 8 + n0 + 4)) (nI n) gf' gt' T' palD' key' 1 (nI (cnt + 1))) _
        unfold f_PngReader_takeParts_4
        rw [if_neg (show ¬ (1 : Int32) = 0 by decide)]
        obtain ⟨b1, b2, b3, b4⟩ := a7 (hes rfl)
        exact Lk.yes ⟨p + 8 + n0 + 4, c', g', m', tr', rfl, rfl, rfl, b1, b2, rfl, rfl, rfl, rfl, rfl, by omega, a2, by omega, b4, a9, a10⟩
    have htq := ht.mono (show p ≤ p + 8 by omega)
    -- the class's other parts
    have eOth : f_PngReader_takeOther K (nI (bg4 t (p + 4))) (nI c) (b2 tr) (nI dep) (nI kind) (nI s) (nI n0) (nI (p + 8)) (nI n) T palD key = (f_PngReader_takeOther_13 K (nI c) (b2 tr) (nI dep) (nI kind) (nI (if s = 1 then 2 else s)) (nI n0) (nI (p + 8)) (nI n) T palD key (nI (bg4 t (p + 4)))) := by
      unfold f_PngReader_takeOther
      by_cases h : s = 1
      · rw [if_pos h, if_pos (show nI s = 1 by rw [h]; rfl)]
        rfl
      · rw [if_neg h, if_neg (show ¬ nI s = 1 from fun z => h ((nI_eq32 (b := 1) (by omega) (by omega)).mp z))]
    have hDoF : p + 12 + n0 ≤ n → ¬ nm t (p + 4) 73 69 78 68 → ¬ nm t (p + 4) 73 68 65 84 → Th 3 (f_PngReader_takeOther_13 K (nI c) (b2 tr) (nI dep) (nI kind) (nI (if s = 1 then 2 else s)) (nI n0) (nI (p + 8)) (nI n) T palD key (nI (bg4 t (p + 4)))) → Th 3 Db := by
      intro hf h1 h2 h3
      obtain ⟨u, hu⟩ := h3
      rw [hDyes hf, if_neg (fun z => h1 (jIEND.mp z))]
      unfold f_PngReader_takeParts_30
      rw [if_pos (show (0 : Int32) = 0 from rfl), if_neg (fun z => h2 (jIDAT.mp z)), eOth, hu]
      exact ⟨_, rfl⟩
    have hDoT : p + 12 + n0 ≤ n → ¬ nm t (p + 4) 73 69 78 68 → ¬ nm t (p + 4) 73 68 65 84 → ∀ (C1 C2 C3 C4 : Int32) (P1 P2 : Nat → Int32), (f_PngReader_takeOther_13 K (nI c) (b2 tr) (nI dep) (nI kind) (nI (if s = 1 then 2 else s)) (nI n0) (nI (p + 8)) (nI n) T palD key (nI (bg4 t (p + 4)))) = some (.inl ((), C1, C2, C3, C4, P1, P2)) → Db = (f_PngReader_takeParts_78 K ((f_PngReader_takeParts_L4 K (nI dep) (nI kind) (nI n)) qD) C1 C2 (nI dep) (nI kind) C3 (nI n0) (nI (crcV T (p + 4) (p + 8 + n0))) C4 (nI n) gf gt T P1 P2 (b2 false) (nI cnt)) := by
      intro hf h1 h2 C1 C2 C3 C4 P1 P2 h3
      rw [hDyes hf, if_neg (fun z => h1 (jIEND.mp z))]
      unfold f_PngReader_takeParts_30
      rw [if_pos (show (0 : Int32) = 0 from rfl), if_neg (fun z => h2 (jIDAT.mp z)), eOth, h3, q_tryL]
      rfl
    clear eOth
    have hGq : s ≠ 0 → gf = nI g ∧ gt = nI (g + m) ∧ g + m ≤ p + 8 ∧ ∀ i, i < m → tv T (g + i) = tv D i := fun h => by
      obtain ⟨b1, b2, b3, b4⟩ := hG h
      exact ⟨b1, b2, by omega, b4⟩
    have e3 : nI kind = 3 ↔ kind = 3 := nI_eq32 (b := 3) (by omega) (by omega)
    have e0 : nI kind = 0 ↔ kind = 0 := nI_eq32 (b := 0) (by omega) (by omega)
    have e4 : nI kind = 4 ↔ kind = 4 := nI_eq32 (b := 4) (by omega) (by omega)
    have e6 : nI kind = 6 ↔ kind = 6 := nI_eq32 (b := 6) (by omega) (by omega)
    by_cases hP : nm t (p + 4) 80 76 84 69
    · -- PLTE
      have x1 : ¬ nm t (p + 4) 73 69 78 68 := fun z => by have := z.1; have := hP.1; omega
      have x2 : ¬ nm t (p + 4) 73 68 65 84 := fun z => by have := z.1; have := hP.1; omega
      have hM148 : ∀ (y4 : Int32), (c = 0 ∧ s = 0 ∧ tr = false ∧ kind ≠ 0 ∧ kind ≠ 4 → (f_M_readPng_148 K ((f_M_readPng_L28 K (nI n) t_width t_height (nI dep) (nI kind) t_interlace t_bitAt t_rowBytes t_expected TM a_t_rows a_t_lengths t_literals_all a_t_literals_counts a_t_literals_meanings t_distances_all a_t_distances_counts a_t_distances_meanings t_lengthCodes_all a_t_lengthCodes_counts a_t_lengthCodes_meanings a_t_points) qM) (nI n) (nI (p + 8)) t_width t_height (nI dep) (nI kind) t_interlace (nI c) (b2 (tr && decide (kind ≠ 3))) (nI m) t_bitAt t_rowBytes t_expected TM palM D a_t_rows a_t_lengths t_literals_all a_t_literals_counts a_t_literals_meanings t_distances_all a_t_distances_counts a_t_distances_meanings t_lengthCodes_all a_t_lengthCodes_counts a_t_lengthCodes_meanings ck a_t_points (b2 (decide (0 < c))) (b2 tr) (b2 (decide (s ≠ 0))) y4 (lN n0) (nI (p + 4)) (nI (p + 8)) (nI (p + 8 + n0)) 0) = (f_M_readPng_192 K ((f_M_readPng_L28 K (nI n) t_width t_height (nI dep) (nI kind) t_interlace t_bitAt t_rowBytes t_expected TM a_t_rows a_t_lengths t_literals_all a_t_literals_counts a_t_literals_meanings t_distances_all a_t_distances_counts a_t_distances_meanings t_lengthCodes_all a_t_lengthCodes_counts a_t_lengthCodes_meanings a_t_points) qM) (nI n) (nI (p + 8)) t_width t_height (nI dep) (nI kind) t_interlace (nI c) (b2 (tr && decide (kind ≠ 3))) (nI m) t_bitAt t_rowBytes t_expected TM palM D a_t_rows a_t_lengths t_literals_all a_t_literals_counts a_t_literals_meanings t_distances_all a_t_distances_counts a_t_distances_meanings t_lengthCodes_all a_t_lengthCodes_counts a_t_lengthCodes_meanings ck a_t_points (b2 tr) (b2 (decide (s ≠ 0))) y4 (lN n0) (nI (p + 4)) (nI (p + 8)) (nI (p + 8 + n0)) 1)) ∧ (¬ (c = 0 ∧ s = 0 ∧ tr = false ∧ kind ≠ 0 ∧ kind ≠ 4) → Th 3 (f_M_readPng_148 K ((f_M_readPng_L28 K (nI n) t_width t_height (nI dep) (nI kind) t_interlace t_bitAt t_rowBytes t_expected TM a_t_rows a_t_lengths t_literals_all a_t_literals_counts a_t_literals_meanings t_distances_all a_t_distances_counts a_t_distances_meanings t_lengthCodes_all a_t_lengthCodes_counts a_t_lengthCodes_meanings a_t_points) qM) (nI n) (nI (p + 8)) t_width t_height (nI dep) (nI kind) t_interlace (nI c) (b2 (tr && decide (kind ≠ 3))) (nI m) t_bitAt t_rowBytes t_expected TM palM D a_t_rows a_t_lengths t_literals_all a_t_literals_counts a_t_literals_meanings t_distances_all a_t_distances_counts a_t_distances_meanings t_lengthCodes_all a_t_lengthCodes_counts a_t_lengthCodes_meanings ck a_t_points (b2 (decide (0 < c))) (b2 tr) (b2 (decide (s ≠ 0))) y4 (lN n0) (nI (p + 4)) (nI (p + 8)) (nI (p + 8 + n0)) 0)) := by
        intro y4
        unfold f_M_readPng_148
        have h191 : Th 3 (f_M_readPng_191 K ((f_M_readPng_L28 K (nI n) t_width t_height (nI dep) (nI kind) t_interlace t_bitAt t_rowBytes t_expected TM a_t_rows a_t_lengths t_literals_all a_t_literals_counts a_t_literals_meanings t_distances_all a_t_distances_counts a_t_distances_meanings t_lengthCodes_all a_t_lengthCodes_counts a_t_lengthCodes_meanings a_t_points) qM) (nI n) (nI (p + 8)) t_width t_height (nI dep) (nI kind) t_interlace (nI c) (b2 (tr && decide (kind ≠ 3))) (nI m) t_bitAt t_rowBytes t_expected TM palM D a_t_rows a_t_lengths t_literals_all a_t_literals_counts a_t_literals_meanings t_distances_all a_t_distances_counts a_t_distances_meanings t_lengthCodes_all a_t_lengthCodes_counts a_t_lengthCodes_meanings ck a_t_points (b2 tr) (b2 (decide (s ≠ 0))) y4 (lN n0) (nI (p + 4)) (nI (p + 8)) (nI (p + 8 + n0))) := by
          unfold f_M_readPng_191 f_M_readPng_192
          rw [can0, q_tryR]
          exact ⟨_, rfl⟩
        rw [nPLTE.1 hP, q_bind, if_neg (show ¬ (1 : Int32) = 0 by decide)]
        by_cases k1 : 0 < c
        · rw [if_neg (fun z => (b2_0.mp z) k1)]
          exact ⟨fun z => by have := z.1; omega, fun _ => h191⟩
        rw [if_pos (b2_0.mpr k1)]
        by_cases k2 : s ≠ 0
        · rw [if_neg (fun z => (b2_0.mp z) k2)]
          exact ⟨fun z => absurd z.2.1 k2, fun _ => h191⟩
        rw [if_pos (b2_0.mpr k2)]
        cases tr
        rotate_left
        · rw [if_neg (show ¬ b2 true = 0 by decide)]
          exact ⟨fun z => Bool.noConfusion z.2.2.1, fun _ => h191⟩
        rw [if_pos (show b2 false = 0 from rfl)]
        by_cases k3 : kind = 0
        · rw [if_pos (e0.mpr k3)]
          exact ⟨fun z => absurd k3 z.2.2.2.1, fun _ => h191⟩
        rw [if_neg (fun z => k3 (e0.mp z))]
        by_cases k4 : kind = 4
        · rw [if_pos (e4.mpr k4)]
          exact ⟨fun z => absurd k4 z.2.2.2.2, fun _ => h191⟩
        rw [if_neg (fun z => k4 (e4.mp z))]
        exact ⟨fun _ => rfl, fun z => absurd ⟨by omega, by omega, rfl, k3, k4⟩ z⟩
      have hD13 : (f_PngReader_takeOther_13 K (nI c) (b2 tr) (nI dep) (nI kind) (nI (if s = 1 then 2 else s)) (nI n0) (nI (p + 8)) (nI n) T palD key (nI (bg4 t (p + 4)))) = dc_try (f_PngReader_takePalette K (nI c) (b2 tr) (nI dep) (nI kind) (nI (if s = 1 then 2 else s)) (nI n0) (nI (p + 8)) (nI n) T palD) ((fun r_20 => f_PngReader_takeOther_57 K r_20.2.1 (b2 tr) (nI dep) (nI kind) (nI (if s = 1 then 2 else s)) (nI n0) r_20.2.2.1 (nI n) T r_20.2.2.2 key)) (fun r_20 => some (.inr (r_20.1, (r_20.2.1, b2 tr, nI (if s = 1 then 2 else s), r_20.2.2.1, r_20.2.2.2, key)))) := by
        unfold f_PngReader_takeOther_13
        rw [if_pos (jPLTE.mpr hP)]
      have hD := plt_D (K := K) (c := c) (dep := dep) (kind := kind) (s := if s = 1 then 2 else s) (tr := tr) (by omega) hn htq m4 (by by_cases h : s = 1 <;> simp [h] <;> omega) hc hk256 hdep palD
      have hM := plt_M (K := K) (dep := dep) (kind := kind) (by omega) hn htM m4 hk256 hdep (nI c) palM
      rw [nIDAT.2 x2, q_bind]
      dsimp only
      rw [if_pos (show (0 : Int32) = 0 from rfl)]
      by_cases k : c = 0 ∧ s = 0 ∧ tr = false ∧ kind ≠ 0 ∧ kind ≠ 4
      rotate_left
      · refine Lk.no ?_ ?_
        · by_cases hf : p + 12 + n0 ≤ n
          rotate_left
          · exact hDno hf
          refine hDoF hf x1 x2 ?_
          rw [hD13]
          obtain ⟨u, hu⟩ := hD.2 (fun z => k ⟨z.2.1, by have := z.1; by_cases h : s = 1 <;> simp [h] at this; exact this, z.2.2.1, z.2.2.2.1, z.2.2.2.2.1⟩)
          rw [hu]
          exact ⟨_, rfl⟩
        · by_cases h0 : s ≠ 0
          · rw [if_neg (fun z => (b2_0.mp z) h0)]
            exact (hM148 1).2 k
          · rw [if_pos (b2_0.mpr h0)]
            exact (hM148 _).2 k
      obtain ⟨k1, k2, k3, k4, k5⟩ := id k
      rw [if_pos (b2_0.mpr (fun z => z k2)), (hM148 _).1 k]
      unfold f_M_readPng_192
      rw [can1, q_tryL]
      subst k2
      by_cases ok : plO kind dep n0
      rotate_left
      · obtain ⟨u, hu⟩ := hM.2 ok
        rw [hu, q_tryR]
        refine Lk.no ?_ ⟨_, rfl⟩
        by_cases hf : p + 12 + n0 ≤ n
        rotate_left
        · exact hDno hf
        refine hDoF hf x1 x2 ?_
        rw [hD13]
        obtain ⟨u, hu⟩ := hD.2 (fun z => ok z.2.2.2.2.2)
        rw [hu]
        exact ⟨_, rfl⟩
      obtain ⟨palM', eM, aM⟩ := hM.1 ok
      rw [eM, q_tryL]
      by_cases hf : p + 12 + n0 ≤ n
      rotate_left
      · exact Lk.no (hDno hf) (h401no hf _ _ _ _ _ _ _ _ _ _)
      obtain ⟨palD', eD, aD⟩ := hD.1 ⟨rfl, k1, k3, k4, k5, ok⟩
      rw [eD, q_tryL] at hD13
      rw [hDoT hf x1 x2 _ _ _ _ _ _ hD13]
      have hc0 : 0 < n0 / 3 := by have := ok.1; omega
      have e1 : (1 : Int32) = b2 (decide (0 < n0 / 3)) := by rw [decide_eq_true hc0]; rfl
      dsimp only
      rw [e1]
      exact hclose hf (n0 / 3) 0 g m tr false gf gt _ T D palD' palM' key ck ⟨fun z => Bool.noConfusion z, fun _ => x1⟩ (fun z => Bool.noConfusion z) (fun _ => rfl) ⟨m4, by have := ok.2.1; omega, by omega, by omega, ht.mono (by omega), hB, fun z => absurd rfl z, hm0, fun j hj => by rw [aD j hj, aM j hj], hkey⟩
    by_cases hR : nm t (p + 4) 116 82 78 83
    · -- tRNS
      have x1 : ¬ nm t (p + 4) 73 69 78 68 := fun z => by have := z.1; have := hR.1; omega
      have x2 : ¬ nm t (p + 4) 73 68 65 84 := fun z => by have := z.1; have := hR.1; omega
      have hM148 : ∀ (y4 : Int32), (tr = false ∧ s = 0 ∧ kind ≠ 4 ∧ kind ≠ 6 → (f_M_readPng_148 K ((f_M_readPng_L28 K (nI n) t_width t_height (nI dep) (nI kind) t_interlace t_bitAt t_rowBytes t_expected TM a_t_rows a_t_lengths t_literals_all a_t_literals_counts a_t_literals_meanings t_distances_all a_t_distances_counts a_t_distances_meanings t_lengthCodes_all a_t_lengthCodes_counts a_t_lengthCodes_meanings a_t_points) qM) (nI n) (nI (p + 8)) t_width t_height (nI dep) (nI kind) t_interlace (nI c) (b2 (tr && decide (kind ≠ 3))) (nI m) t_bitAt t_rowBytes t_expected TM palM D a_t_rows a_t_lengths t_literals_all a_t_literals_counts a_t_literals_meanings t_distances_all a_t_distances_counts a_t_distances_meanings t_lengthCodes_all a_t_lengthCodes_counts a_t_lengthCodes_meanings ck a_t_points (b2 (decide (0 < c))) (b2 tr) (b2 (decide (s ≠ 0))) y4 (lN n0) (nI (p + 4)) (nI (p + 8)) (nI (p + 8 + n0)) 0) = (f_M_readPng_250 K ((f_M_readPng_L28 K (nI n) t_width t_height (nI dep) (nI kind) t_interlace t_bitAt t_rowBytes t_expected TM a_t_rows a_t_lengths t_literals_all a_t_literals_counts a_t_literals_meanings t_distances_all a_t_distances_counts a_t_distances_meanings t_lengthCodes_all a_t_lengthCodes_counts a_t_lengthCodes_meanings a_t_points) qM) (nI n) (nI (p + 8)) t_width t_height (nI dep) (nI kind) t_interlace (nI c) (b2 (tr && decide (kind ≠ 3))) (nI m) t_bitAt t_rowBytes t_expected TM palM D a_t_rows a_t_lengths t_literals_all a_t_literals_counts a_t_literals_meanings t_distances_all a_t_distances_counts a_t_distances_meanings t_lengthCodes_all a_t_lengthCodes_counts a_t_lengthCodes_meanings ck a_t_points (b2 (decide (0 < c))) (b2 (decide (s ≠ 0))) y4 (lN n0) (nI (p + 4)) (nI (p + 8)) (nI (p + 8 + n0)) 1)) ∧ (¬ (tr = false ∧ s = 0 ∧ kind ≠ 4 ∧ kind ≠ 6) → Th 3 (f_M_readPng_148 K ((f_M_readPng_L28 K (nI n) t_width t_height (nI dep) (nI kind) t_interlace t_bitAt t_rowBytes t_expected TM a_t_rows a_t_lengths t_literals_all a_t_literals_counts a_t_literals_meanings t_distances_all a_t_distances_counts a_t_distances_meanings t_lengthCodes_all a_t_lengthCodes_counts a_t_lengthCodes_meanings a_t_points) qM) (nI n) (nI (p + 8)) t_width t_height (nI dep) (nI kind) t_interlace (nI c) (b2 (tr && decide (kind ≠ 3))) (nI m) t_bitAt t_rowBytes t_expected TM palM D a_t_rows a_t_lengths t_literals_all a_t_literals_counts a_t_literals_meanings t_distances_all a_t_distances_counts a_t_distances_meanings t_lengthCodes_all a_t_lengthCodes_counts a_t_lengthCodes_meanings ck a_t_points (b2 (decide (0 < c))) (b2 tr) (b2 (decide (s ≠ 0))) y4 (lN n0) (nI (p + 4)) (nI (p + 8)) (nI (p + 8 + n0)) 0)) := by
        intro y4
        unfold f_M_readPng_148
        have h249 : Th 3 (f_M_readPng_249 K ((f_M_readPng_L28 K (nI n) t_width t_height (nI dep) (nI kind) t_interlace t_bitAt t_rowBytes t_expected TM a_t_rows a_t_lengths t_literals_all a_t_literals_counts a_t_literals_meanings t_distances_all a_t_distances_counts a_t_distances_meanings t_lengthCodes_all a_t_lengthCodes_counts a_t_lengthCodes_meanings a_t_points) qM) (nI n) (nI (p + 8)) t_width t_height (nI dep) (nI kind) t_interlace (nI c) (b2 (tr && decide (kind ≠ 3))) (nI m) t_bitAt t_rowBytes t_expected TM palM D a_t_rows a_t_lengths t_literals_all a_t_literals_counts a_t_literals_meanings t_distances_all a_t_distances_counts a_t_distances_meanings t_lengthCodes_all a_t_lengthCodes_counts a_t_lengthCodes_meanings ck a_t_points (b2 (decide (0 < c))) (b2 (decide (s ≠ 0))) y4 (lN n0) (nI (p + 4)) (nI (p + 8)) (nI (p + 8 + n0))) := by
          unfold f_M_readPng_249 f_M_readPng_250
          rw [can0, q_tryR]
          exact ⟨_, rfl⟩
        rw [nPLTE.2 hP, q_bind, if_pos (show (0 : Int32) = 0 from rfl), ntRNS.1 hR, q_bind, if_neg (show ¬ (1 : Int32) = 0 by decide)]
        cases tr
        rotate_left
        · rw [if_neg (show ¬ b2 true = 0 by decide)]
          exact ⟨fun z => Bool.noConfusion z.1, fun _ => h249⟩
        rw [if_pos (show b2 false = 0 from rfl)]
        by_cases k2 : s ≠ 0
        · rw [if_neg (fun z => (b2_0.mp z) k2)]
          exact ⟨fun z => absurd z.2.1 k2, fun _ => h249⟩
        rw [if_pos (b2_0.mpr k2)]
        by_cases k3 : kind = 4
        · rw [if_pos (e4.mpr k3)]
          exact ⟨fun z => absurd k3 z.2.2.1, fun _ => h249⟩
        rw [if_neg (fun z => k3 (e4.mp z))]
        by_cases k4 : kind = 6
        · rw [if_pos (e6.mpr k4)]
          exact ⟨fun z => absurd k4 z.2.2.2, fun _ => h249⟩
        rw [if_neg (fun z => k4 (e6.mp z))]
        exact ⟨fun _ => rfl, fun z => absurd ⟨rfl, by omega, k3, k4⟩ z⟩
      have hD13 : (f_PngReader_takeOther_13 K (nI c) (b2 tr) (nI dep) (nI kind) (nI (if s = 1 then 2 else s)) (nI n0) (nI (p + 8)) (nI n) T palD key (nI (bg4 t (p + 4)))) = dc_try (f_PngReader_takeTransparency K (nI c) (b2 tr) (nI dep) (nI kind) (nI (if s = 1 then 2 else s)) (nI n0) palD (nI (p + 8)) (nI n) T key) ((fun r_33 => f_PngReader_takeOther_57 K (nI c) r_33.2.1 (nI dep) (nI kind) (nI (if s = 1 then 2 else s)) (nI n0) r_33.2.2.2.1 (nI n) T r_33.2.2.1 r_33.2.2.2.2)) (fun r_33 => some (.inr (r_33.1, (nI c, r_33.2.1, nI (if s = 1 then 2 else s), r_33.2.2.2.1, r_33.2.2.1, r_33.2.2.2.2)))) := by
        unfold f_PngReader_takeOther_13
        rw [if_neg (fun z => hP (jPLTE.mp z)), if_pos (jtRNS.mpr hR)]
      have hD := trn_D (K := K) (c := c) (dep := dep) (kind := kind) (s := if s = 1 then 2 else s) (tr := tr) (by omega) hn htq m4 (by by_cases h : s = 1 <;> simp [h] <;> omega) hc hk256 hdep palD key
      have hM := trn_M (K := K) (c := c) (dep := dep) (kind := kind) (by omega) hn htM m4 hc hk256 hdep (b2 (tr && decide (kind ≠ 3))) palM ck
      rw [nIDAT.2 x2, q_bind]
      dsimp only
      rw [if_pos (show (0 : Int32) = 0 from rfl)]
      by_cases k : tr = false ∧ s = 0 ∧ kind ≠ 4 ∧ kind ≠ 6
      rotate_left
      · refine Lk.no ?_ ?_
        · by_cases hf : p + 12 + n0 ≤ n
          rotate_left
          · exact hDno hf
          refine hDoF hf x1 x2 ?_
          rw [hD13]
          obtain ⟨u, hu⟩ := hD.2 (fun z => k ⟨z.2.1, by have := z.1; by_cases h : s = 1 <;> simp [h] at this; exact this, by have := z.2.2.1; omega, by have := z.2.2.1; omega⟩)
          rw [hu]
          exact ⟨_, rfl⟩
        · by_cases h0 : s ≠ 0
          · rw [if_neg (fun z => (b2_0.mp z) h0)]
            exact (hM148 1).2 k
          · rw [if_pos (b2_0.mpr h0)]
            exact (hM148 _).2 k
      obtain ⟨k1, k2, k3, k4⟩ := id k
      rw [if_pos (b2_0.mpr (fun z => z k2)), (hM148 _).1 k]
      unfold f_M_readPng_250
      rw [can1, q_tryL, lN_32 (by omega)]
      subst k2
      subst k1
      by_cases ok : trO kind dep c n0 (p + 8) t
      rotate_left
      · obtain ⟨u, hu⟩ := hM.2 ok
        rw [hu, q_tryR]
        refine Lk.no ?_ ⟨_, rfl⟩
        by_cases hf : p + 12 + n0 ≤ n
        rotate_left
        · exact hDno hf
        refine hDoF hf x1 x2 ?_
        rw [hD13]
        obtain ⟨u, hu⟩ := hD.2 (fun z => ok z.2.2.2)
        rw [hu]
        exact ⟨_, rfl⟩
      rw [hM.1 ok, q_tryL]
      by_cases hf : p + 12 + n0 ≤ n
      rotate_left
      · exact Lk.no (hDno hf) (h401no hf _ _ _ _ _ _ _ _ _ _)
      rw [hD.1 ⟨rfl, rfl, by omega, ok⟩, q_tryL] at hD13
      rw [hDoT hf x1 x2 _ _ _ _ _ _ hD13]
      dsimp only
      have e1 : (if kind = 3 then b2 (false && decide (kind ≠ 3)) else 1) = b2 (true && decide (kind ≠ 3)) := by
        by_cases h : kind = 3
        · rw [if_pos h, decide_eq_false (fun z => z h)]
          rfl
        · rw [if_neg h, decide_eq_true h]
          rfl
      rw [e1]
      have hn2 : n0 ≤ 256 → True := fun _ => trivial
      refine hclose hf c 0 g m true false gf gt _ T D _ _ _ _ ⟨fun z => Bool.noConfusion z, fun _ => x1⟩ (fun z => Bool.noConfusion z) (fun _ => rfl) ⟨m4, hc, by omega, by omega, ht.mono (by omega), hB, fun z => absurd rfl z, hm0, ?_, ?_⟩
      · by_cases h : kind = 3
        · rw [if_pos h, if_pos h]
          exact Agr_mp _ hpal
        · rw [if_neg h, if_neg h]
          exact hpal
      · by_cases h : kind = 3
        · unfold kn
          rw [if_neg (fun z => z.2 h)]
          exact fun j hj => absurd hj (Nat.not_lt_zero _)
        · unfold kn
          rw [if_pos ⟨rfl, h⟩, if_neg h, if_neg h]
          intro j hj
          rw [mp_lt _ _ hj, mp_lt _ _ hj]
          rfl
    by_cases hI : nm t (p + 4) 73 68 65 84
    · -- IDAT
      have x1 : ¬ nm t (p + 4) 73 69 78 68 := fun z => by have := z.2.1; have := hI.2.1; omega
      rw [nIDAT.1 hI, q_bind]
      dsimp only
      rw [if_neg (show ¬ (1 : Int32) = 0 by decide), ite_self]
      unfold f_M_readPng_148 f_M_readPng_294 f_M_readPng_290
      rw [nPLTE.2 hP, q_bind, if_pos (show (0 : Int32) = 0 from rfl), ntRNS.2 hR, q_bind, if_pos (show (0 : Int32) = 0 from rfl), if_neg (show ¬ (1 : Int32) = 0 by decide)]
      have hDI : p + 12 + n0 ≤ n → Db = dc_try (f_PngReader_takeData (nI c) (nI kind) (nI s) (nI n0) (nI (p + 8)) (nI n) gf gt T) ((fun r_67 => f_PngReader_takeParts_78 K ((f_PngReader_takeParts_L4 K (nI dep) (nI kind) (nI n)) qD) (nI c) (b2 tr) (nI dep) (nI kind) r_67.2.1 (nI n0) (nI (crcV T (p + 4) (p + 8 + n0))) r_67.2.2.1 (nI n) r_67.2.2.2.1 r_67.2.2.2.2.1 r_67.2.2.2.2.2 palD key 0 (nI cnt))) (fun r_67 => some (.inr (r_67.1, (nI c, b2 tr, r_67.2.1, nI n0, nI (crcV T (p + 4) (p + 8 + n0)), r_67.2.2.1, r_67.2.2.2.1, r_67.2.2.2.2.1, r_67.2.2.2.2.2, palD, key)))) := by
        intro hf
        rw [hDyes hf, if_neg (fun z => x1 (jIEND.mp z))]
        unfold f_PngReader_takeParts_30
        rw [if_pos (show (0 : Int32) = 0 from rfl), if_pos (jIDAT.mpr hI)]
      obtain ⟨g', hg0, hg1⟩ : ∃ g', (s ≠ 0 → g' = g) ∧ (s = 0 → g' = p + 8) := by
        by_cases h : s = 0
        · exact ⟨p + 8, fun z => absurd h z, fun _ => rfl⟩
        · exact ⟨g, fun _ => rfl, fun z => absurd z h⟩
      have hD := dat_D (n := n) (c := c) (q := p + 8) (kind := kind) (s := s) (n0 := n0) (g := g') (m := m) hn hB m4 hs hc hk256 gf gt (fun h => by
        obtain ⟨b1, b2, b3, b4⟩ := hGq h
        rw [hg0 h]
        exact ⟨b1, b2, b3⟩) (fun h => ⟨hg1 h, hm0 h⟩)
      have h295 : Th 3 (f_M_readPng_295 K ((f_M_readPng_L28 K (nI n) t_width t_height (nI dep) (nI kind) t_interlace t_bitAt t_rowBytes t_expected TM a_t_rows a_t_lengths t_literals_all a_t_literals_counts a_t_literals_meanings t_distances_all a_t_distances_counts a_t_distances_meanings t_lengthCodes_all a_t_lengthCodes_counts a_t_lengthCodes_meanings a_t_points) qM) (nI n) (nI (p + 8)) t_width t_height (nI dep) (nI kind) t_interlace (nI c) (b2 (tr && decide (kind ≠ 3))) (nI m) t_bitAt t_rowBytes t_expected TM palM D a_t_rows a_t_lengths t_literals_all a_t_literals_counts a_t_literals_meanings t_distances_all a_t_distances_counts a_t_distances_meanings t_lengthCodes_all a_t_lengthCodes_counts a_t_lengthCodes_meanings ck a_t_points (b2 (decide (0 < c))) (b2 tr) (b2 (decide (s = 2))) (nI (p + 4)) (nI (p + 8)) (nI (p + 8 + n0)) 0) := by
        unfold f_M_readPng_295
        rw [can0, q_tryR]
        exact ⟨_, rfl⟩
      by_cases k : s ≠ 2 ∧ (kind = 3 → 0 < c)
      rotate_left
      · refine Lk.no ?_ ?_
        · by_cases hf : p + 12 + n0 ≤ n
          rotate_left
          · exact hDno hf
          obtain ⟨u, hu⟩ := hD.2 k
          rw [hDI hf, hu]
          exact ⟨_, rfl⟩
        · by_cases k1 : s = 2
          · rw [if_neg (fun z => (b2_0.mp z) k1)]
            exact h295
          · rw [if_pos (b2_0.mpr k1)]
            by_cases k2 : kind = 3
            · rw [if_pos (e3.mpr k2)]
              by_cases k3 : 0 < c
              · exact absurd ⟨k1, fun _ => k3⟩ k
              · rw [if_pos (b2_0.mpr k3)]
                exact h295
            · exact absurd ⟨k1, fun z => absurd z k2⟩ k
      have hM295 : (if b2 (decide (s = 2)) = 0 then (if nI kind = 3 then (if b2 (decide (0 < c)) = 0 then (f_M_readPng_295 K ((f_M_readPng_L28 K (nI n) t_width t_height (nI dep) (nI kind) t_interlace t_bitAt t_rowBytes t_expected TM a_t_rows a_t_lengths t_literals_all a_t_literals_counts a_t_literals_meanings t_distances_all a_t_distances_counts a_t_distances_meanings t_lengthCodes_all a_t_lengthCodes_counts a_t_lengthCodes_meanings a_t_points) qM) (nI n) (nI (p + 8)) t_width t_height (nI dep) (nI kind) t_interlace (nI c) (b2 (tr && decide (kind ≠ 3))) (nI m) t_bitAt t_rowBytes t_expected TM palM D a_t_rows a_t_lengths t_literals_all a_t_literals_counts a_t_literals_meanings t_distances_all a_t_distances_counts a_t_distances_meanings t_lengthCodes_all a_t_lengthCodes_counts a_t_lengthCodes_meanings ck a_t_points (b2 (decide (0 < c))) (b2 tr) (b2 (decide (s = 2))) (nI (p + 4)) (nI (p + 8)) (nI (p + 8 + n0)) 0) else (f_M_readPng_295 K ((f_M_readPng_L28 K (nI n) t_width t_height (nI dep) (nI kind) t_interlace t_bitAt t_rowBytes t_expected TM a_t_rows a_t_lengths t_literals_all a_t_literals_counts a_t_literals_meanings t_distances_all a_t_distances_counts a_t_distances_meanings t_lengthCodes_all a_t_lengthCodes_counts a_t_lengthCodes_meanings a_t_points) qM) (nI n) (nI (p + 8)) t_width t_height (nI dep) (nI kind) t_interlace (nI c) (b2 (tr && decide (kind ≠ 3))) (nI m) t_bitAt t_rowBytes t_expected TM palM D a_t_rows a_t_lengths t_literals_all a_t_literals_counts a_t_literals_meanings t_distances_all a_t_distances_counts a_t_distances_meanings t_lengthCodes_all a_t_lengthCodes_counts a_t_lengthCodes_meanings ck a_t_points (b2 (decide (0 < c))) (b2 tr) (b2 (decide (s = 2))) (nI (p + 4)) (nI (p + 8)) (nI (p + 8 + n0)) 1)) else (f_M_readPng_295 K ((f_M_readPng_L28 K (nI n) t_width t_height (nI dep) (nI kind) t_interlace t_bitAt t_rowBytes t_expected TM a_t_rows a_t_lengths t_literals_all a_t_literals_counts a_t_literals_meanings t_distances_all a_t_distances_counts a_t_distances_meanings t_lengthCodes_all a_t_lengthCodes_counts a_t_lengthCodes_meanings a_t_points) qM) (nI n) (nI (p + 8)) t_width t_height (nI dep) (nI kind) t_interlace (nI c) (b2 (tr && decide (kind ≠ 3))) (nI m) t_bitAt t_rowBytes t_expected TM palM D a_t_rows a_t_lengths t_literals_all a_t_literals_counts a_t_literals_meanings t_distances_all a_t_distances_counts a_t_distances_meanings t_lengthCodes_all a_t_lengthCodes_counts a_t_lengthCodes_meanings ck a_t_points (b2 (decide (0 < c))) (b2 tr) (b2 (decide (s = 2))) (nI (p + 4)) (nI (p + 8)) (nI (p + 8 + n0)) 1)) else (f_M_readPng_295 K ((f_M_readPng_L28 K (nI n) t_width t_height (nI dep) (nI kind) t_interlace t_bitAt t_rowBytes t_expected TM a_t_rows a_t_lengths t_literals_all a_t_literals_counts a_t_literals_meanings t_distances_all a_t_distances_counts a_t_distances_meanings t_lengthCodes_all a_t_lengthCodes_counts a_t_lengthCodes_meanings a_t_points) qM) (nI n) (nI (p + 8)) t_width t_height (nI dep) (nI kind) t_interlace (nI c) (b2 (tr && decide (kind ≠ 3))) (nI m) t_bitAt t_rowBytes t_expected TM palM D a_t_rows a_t_lengths t_literals_all a_t_literals_counts a_t_literals_meanings t_distances_all a_t_distances_counts a_t_distances_meanings t_lengthCodes_all a_t_lengthCodes_counts a_t_lengthCodes_meanings ck a_t_points (b2 (decide (0 < c))) (b2 tr) (b2 (decide (s = 2))) (nI (p + 4)) (nI (p + 8)) (nI (p + 8 + n0)) 0)) = (f_M_readPng_295 K ((f_M_readPng_L28 K (nI n) t_width t_height (nI dep) (nI kind) t_interlace t_bitAt t_rowBytes t_expected TM a_t_rows a_t_lengths t_literals_all a_t_literals_counts a_t_literals_meanings t_distances_all a_t_distances_counts a_t_distances_meanings t_lengthCodes_all a_t_lengthCodes_counts a_t_lengthCodes_meanings a_t_points) qM) (nI n) (nI (p + 8)) t_width t_height (nI dep) (nI kind) t_interlace (nI c) (b2 (tr && decide (kind ≠ 3))) (nI m) t_bitAt t_rowBytes t_expected TM palM D a_t_rows a_t_lengths t_literals_all a_t_literals_counts a_t_literals_meanings t_distances_all a_t_distances_counts a_t_distances_meanings t_lengthCodes_all a_t_lengthCodes_counts a_t_lengthCodes_meanings ck a_t_points (b2 (decide (0 < c))) (b2 tr) (b2 (decide (s = 2))) (nI (p + 4)) (nI (p + 8)) (nI (p + 8 + n0)) 1) := by
        rw [if_pos (b2_0.mpr k.1)]
        by_cases k2 : kind = 3
        · rw [if_pos (e3.mpr k2), if_neg (fun z => (b2_0.mp z) (k.2 k2))]
        · rw [if_neg (fun z => k2 (e3.mp z))]
      rw [hM295]
      unfold f_M_readPng_295
      obtain ⟨D', eM, aM1, aM2⟩ := dat_M (K := K) (q := p + 8) (n0 := n0) (m := m) hn htM m4 (by omega) (D0 := D) (t_taped := nI n) (t_at := nI (p + 8)) (t_width := t_width) (t_height := t_height) (t_depth := nI dep) (t_kind := nI kind) (t_interlace := t_interlace) (t_colours := nI c) (t_clear := b2 (tr && decide (kind ≠ 3))) (t_bitAt := t_bitAt) (t_rowBytes := t_rowBytes) (t_expected := t_expected) (a_t_palette := palM) (a_t_rows := a_t_rows) (a_t_lengths := a_t_lengths) (t_literals_all := t_literals_all) (a_t_literals_counts := a_t_literals_counts) (a_t_literals_meanings := a_t_literals_meanings) (t_distances_all := t_distances_all) (a_t_distances_counts := a_t_distances_counts) (a_t_distances_meanings := a_t_distances_meanings) (t_lengthCodes_all := t_lengthCodes_all) (a_t_lengthCodes_counts := a_t_lengthCodes_counts) (a_t_lengthCodes_meanings := a_t_lengthCodes_meanings) (a_t_clearKey := ck) (a_t_points := a_t_points) (x1 := b2 (decide (0 < c))) (x2 := b2 tr) (x3 := 1) (x4 := b2 (decide (s = 2))) (x7 := nI (p + 4)) n0 0 K D (by omega) (by omega) (fun _ _ => rfl) (fun i hi => absurd hi (Nat.not_lt_zero _))
      have eM2 : (f_M_readPng_L304 K (nI n) (nI (p + 8)) t_width t_height (nI dep) (nI kind) t_interlace (nI c) (b2 (tr && decide (kind ≠ 3))) t_bitAt t_rowBytes t_expected TM palM a_t_rows a_t_lengths t_literals_all a_t_literals_counts a_t_literals_meanings t_distances_all a_t_distances_counts a_t_distances_meanings t_lengthCodes_all a_t_lengthCodes_counts a_t_lengthCodes_meanings ck a_t_points (b2 (decide (0 < c))) (b2 tr) 1 (b2 (decide (s = 2))) (nI (p + 4)) (nI (p + 8 + n0)) K (nI m) D (nI (p + 8))) = _ := eM
      rw [can1, q_tryL, eM2, q_bind]
      by_cases hf : p + 12 + n0 ≤ n
      rotate_left
      · exact Lk.no (hDno hf) (h401no hf _ _ _ _ _ _ _ _ _ _)
      rw [hDI hf, hD.1 k, q_tryL]
      dsimp only
      have hGs : Gs g' m (p + 8) n T D t := by
        by_cases h : s = 0
        · rw [hg1 h, hm0 h]
          exact ⟨by omega, by omega, htq, hB, fun i hi => absurd hi (Nat.not_lt_zero _)⟩
        · obtain ⟨b1, b2, b3, b4⟩ := hGq h
          rw [hg0 h]
          exact ⟨b3, by omega, htq, hB, b4⟩
      obtain ⟨d1, d2, d3, d4, d5⟩ := Gs_s hGs m4 aM1 aM2
      rw [show b2 (decide (s = 2)) = 0 from b2_0.mpr k.1]
      exact hclose hf c 1 g' (m + n0) tr false _ _ _ _ D' palD palM key ck ⟨fun z => Bool.noConfusion z, fun _ => x1⟩ (fun z => Bool.noConfusion z) (fun _ => rfl) ⟨m4, hc, by omega, by omega, d3, d4, fun _ => ⟨rfl, by rw [Nat.add_assoc], d1, d5⟩, fun z => absurd z (by omega), hpal, hkey⟩
    rw [nIDAT.2 hI, q_bind]
    dsimp only
    rw [if_pos (show (0 : Int32) = 0 from rfl)]
    by_cases hE : nm t (p + 4) 73 69 78 68
    · -- IEND
      have hM148 : ∀ (y4 : Int32), (n0 = 0 ∧ s ≠ 0 → (f_M_readPng_148 K ((f_M_readPng_L28 K (nI n) t_width t_height (nI dep) (nI kind) t_interlace t_bitAt t_rowBytes t_expected TM a_t_rows a_t_lengths t_literals_all a_t_literals_counts a_t_literals_meanings t_distances_all a_t_distances_counts a_t_distances_meanings t_lengthCodes_all a_t_lengthCodes_counts a_t_lengthCodes_meanings a_t_points) qM) (nI n) (nI (p + 8)) t_width t_height (nI dep) (nI kind) t_interlace (nI c) (b2 (tr && decide (kind ≠ 3))) (nI m) t_bitAt t_rowBytes t_expected TM palM D a_t_rows a_t_lengths t_literals_all a_t_literals_counts a_t_literals_meanings t_distances_all a_t_distances_counts a_t_distances_meanings t_lengthCodes_all a_t_lengthCodes_counts a_t_lengthCodes_meanings ck a_t_points (b2 (decide (0 < c))) (b2 tr) (b2 (decide (s ≠ 0))) y4 (lN n0) (nI (p + 4)) (nI (p + 8)) (nI (p + 8 + n0)) 0) = (f_M_readPng_401 K ((f_M_readPng_L28 K (nI n) t_width t_height (nI dep) (nI kind) t_interlace t_bitAt t_rowBytes t_expected TM a_t_rows a_t_lengths t_literals_all a_t_literals_counts a_t_literals_meanings t_distances_all a_t_distances_counts a_t_distances_meanings t_lengthCodes_all a_t_lengthCodes_counts a_t_lengthCodes_meanings a_t_points) qM) (nI n) (nI (p + 8)) t_width t_height (nI dep) (nI kind) t_interlace (nI c) (b2 (tr && decide (kind ≠ 3))) (nI m) t_bitAt t_rowBytes t_expected TM palM D a_t_rows a_t_lengths t_literals_all a_t_literals_counts a_t_literals_meanings t_distances_all a_t_distances_counts a_t_distances_meanings t_lengthCodes_all a_t_lengthCodes_counts a_t_lengthCodes_meanings ck a_t_points (b2 (decide (0 < c))) (b2 tr) (b2 (decide (s ≠ 0))) y4 (nI (p + 4)) (nI (p + 8 + n0)))) ∧ (¬ (n0 = 0 ∧ s ≠ 0) → Th 3 (f_M_readPng_148 K ((f_M_readPng_L28 K (nI n) t_width t_height (nI dep) (nI kind) t_interlace t_bitAt t_rowBytes t_expected TM a_t_rows a_t_lengths t_literals_all a_t_literals_counts a_t_literals_meanings t_distances_all a_t_distances_counts a_t_distances_meanings t_lengthCodes_all a_t_lengthCodes_counts a_t_lengthCodes_meanings a_t_points) qM) (nI n) (nI (p + 8)) t_width t_height (nI dep) (nI kind) t_interlace (nI c) (b2 (tr && decide (kind ≠ 3))) (nI m) t_bitAt t_rowBytes t_expected TM palM D a_t_rows a_t_lengths t_literals_all a_t_literals_counts a_t_literals_meanings t_distances_all a_t_distances_counts a_t_distances_meanings t_lengthCodes_all a_t_lengthCodes_counts a_t_lengthCodes_meanings ck a_t_points (b2 (decide (0 < c))) (b2 tr) (b2 (decide (s ≠ 0))) y4 (lN n0) (nI (p + 4)) (nI (p + 8)) (nI (p + 8 + n0)) 0)) := by
        intro y4
        unfold f_M_readPng_148 f_M_readPng_373 f_M_readPng_374
        rw [nPLTE.2 hP, q_bind, if_pos (show (0 : Int32) = 0 from rfl), ntRNS.2 hR, q_bind, if_pos (show (0 : Int32) = 0 from rfl), if_pos (show (0 : Int32) = 0 from rfl), nIEND.1 hE, q_bind, if_neg (show ¬ (1 : Int32) = 0 by decide)]
        by_cases k1 : n0 = 0
        rotate_left
        · rw [if_neg (show ¬ lg_cmp (lN n0) 0 = 0 from fun z => k1 ((l_eq (b := 0) (by omega) (by omega)).mp z)), can0, q_tryR]
          exact ⟨fun z => absurd z.1 k1, fun _ => ⟨_, rfl⟩⟩
        rw [if_pos (show lg_cmp (lN n0) 0 = 0 from (l_eq (b := 0) (by omega) (by omega)).mpr k1)]
        by_cases k2 : s ≠ 0
        · rw [if_neg (fun z => (b2_0.mp z) k2), can1, q_tryL]
          exact ⟨fun _ => rfl, fun z => absurd ⟨k1, k2⟩ z⟩
        · rw [if_pos (b2_0.mpr k2), can0, q_tryR]
          exact ⟨fun z => absurd z.2 k2, fun _ => ⟨_, rfl⟩⟩
      have hDE : p + 12 + n0 ≤ n → (n0 = 0 ∧ s ≠ 0 → Db = (f_PngReader_takeParts_78 K ((f_PngReader_takeParts_L4 K (nI dep) (nI kind) (nI n)) qD) (nI c) (b2 tr) (nI dep) (nI kind) (nI s) (nI n0) (nI (crcV T (p + 4) (p + 8 + n0))) (nI (p + 8)) (nI n) gf gt T palD key (b2 true) (nI cnt))) ∧ (¬ (n0 = 0 ∧ s ≠ 0) → Th 3 Db) := by
        intro hf
        rw [hDyes hf, if_pos (jIEND.mpr hE)]
        unfold f_PngReader_takeParts_30 f_PngReader_takeParts_53 f_PngReader_takeParts_54
        rw [if_neg (show ¬ (1 : Int32) = 0 by decide)]
        by_cases k1 : n0 = 0
        rotate_left
        · rw [if_neg (nI_ne0 (by omega) (by omega)), need0, q_tryR]
          exact ⟨fun z => absurd z.1 k1, fun _ => ⟨_, rfl⟩⟩
        rw [if_pos (show nI n0 = 0 by rw [k1]; rfl)]
        by_cases k2 : s = 0
        · rw [if_pos (show nI s = 0 by rw [k2]; rfl), need0, q_tryR]
          exact ⟨fun z => absurd k2 z.2, fun _ => ⟨_, rfl⟩⟩
        · rw [if_neg (nI_ne0 (by omega) (by omega)), need1, q_tryL]
          exact ⟨fun _ => rfl, fun z => absurd ⟨k1, k2⟩ z⟩
      by_cases k : n0 = 0 ∧ s ≠ 0
      rotate_left
      · refine Lk.no ?_ ?_
        · by_cases hf : p + 12 + n0 ≤ n
          · exact (hDE hf).2 k
          · exact hDno hf
        · by_cases h0 : s ≠ 0
          · rw [if_neg (fun z => (b2_0.mp z) h0)]
            exact (hM148 1).2 k
          · rw [if_pos (b2_0.mpr h0)]
            exact (hM148 _).2 k
      rw [if_neg (fun z => (b2_0.mp z) k.2), (hM148 1).1 k]
      by_cases hf : p + 12 + n0 ≤ n
      rotate_left
      · exact Lk.no (hDno hf) (h401no hf _ _ _ _ _ _ _ _ _ _)
      rw [(hDE hf).1 k]
      have hgo := hclose hf c s g m tr true gf gt 1 T D palD palM key ck ⟨fun _ => hE, fun z => Bool.noConfusion z⟩ (fun _ => k.2) (fun z => Bool.noConfusion z) ⟨m4, hc, hs, by omega, ht.mono (by omega), hB, fun h => by
        obtain ⟨b1, b2, b3, b4⟩ := hG h
        exact ⟨b1, b2, by omega, b4⟩, hm0, hpal, hkey⟩
      rw [show nI (p + 8) = nI (p + 8 + n0) by rw [k.1]]
      rw [show nI (p + 8) = nI (p + 8 + n0) by rw [k.1]] at hgo
      exact hgo
    -- any other
    have hun : unc (bg4 t (p + 4)) ↔ smL (t (p + 4)) = true := by
      obtain ⟨v0, v1, v2, v3⟩ := bg4_b ht.2 (p + 4)
      unfold unc
      rw [v0, v1, v2, v3]
      exact ⟨fun z => z.2.2.2, fun z => ⟨hlet 3 (by omega), hlet 2 (by omega), hlet 1 (by omega), z⟩⟩
    have hl0 := hlet 0 (by omega)
    rw [Nat.add_zero] at hl0
    have hl1 : (97 ≤ t (p + 4) ∧ t (p + 4) ≤ 122) ∨ (65 ≤ t (p + 4) ∧ t (p + 4) ≤ 90) := of_decide_eq_true hl0
    have hsm : smL (t (p + 4)) = true ↔ 97 ≤ t (p + 4) := by
      unfold smL
      rw [decide_eq_true_iff]
      omega
    have hTM : TM (p + 4) = nI (t (p + 4)) := (by_eq (hBM (p + 4) (by omega)) (by omega)).mpr (htM.1 (p + 4) (by omega))
    have hM148 : ∀ (y4 : Int32), (97 ≤ t (p + 4) → (f_M_readPng_148 K ((f_M_readPng_L28 K (nI n) t_width t_height (nI dep) (nI kind) t_interlace t_bitAt t_rowBytes t_expected TM a_t_rows a_t_lengths t_literals_all a_t_literals_counts a_t_literals_meanings t_distances_all a_t_distances_counts a_t_distances_meanings t_lengthCodes_all a_t_lengthCodes_counts a_t_lengthCodes_meanings a_t_points) qM) (nI n) (nI (p + 8)) t_width t_height (nI dep) (nI kind) t_interlace (nI c) (b2 (tr && decide (kind ≠ 3))) (nI m) t_bitAt t_rowBytes t_expected TM palM D a_t_rows a_t_lengths t_literals_all a_t_literals_counts a_t_literals_meanings t_distances_all a_t_distances_counts a_t_distances_meanings t_lengthCodes_all a_t_lengthCodes_counts a_t_lengthCodes_meanings ck a_t_points (b2 (decide (0 < c))) (b2 tr) (b2 (decide (s ≠ 0))) y4 (lN n0) (nI (p + 4)) (nI (p + 8)) (nI (p + 8 + n0)) 0) = (f_M_readPng_401 K ((f_M_readPng_L28 K (nI n) t_width t_height (nI dep) (nI kind) t_interlace t_bitAt t_rowBytes t_expected TM a_t_rows a_t_lengths t_literals_all a_t_literals_counts a_t_literals_meanings t_distances_all a_t_distances_counts a_t_distances_meanings t_lengthCodes_all a_t_lengthCodes_counts a_t_lengthCodes_meanings a_t_points) qM) (nI n) (nI (p + 8)) t_width t_height (nI dep) (nI kind) t_interlace (nI c) (b2 (tr && decide (kind ≠ 3))) (nI m) t_bitAt t_rowBytes t_expected TM palM D a_t_rows a_t_lengths t_literals_all a_t_literals_counts a_t_literals_meanings t_distances_all a_t_distances_counts a_t_distances_meanings t_lengthCodes_all a_t_lengthCodes_counts a_t_lengthCodes_meanings ck a_t_points (b2 (decide (0 < c))) (b2 tr) (b2 (decide (s ≠ 0))) y4 (nI (p + 4)) (nI (p + 8 + n0)))) ∧ (¬ 97 ≤ t (p + 4) → Th 3 (f_M_readPng_148 K ((f_M_readPng_L28 K (nI n) t_width t_height (nI dep) (nI kind) t_interlace t_bitAt t_rowBytes t_expected TM a_t_rows a_t_lengths t_literals_all a_t_literals_counts a_t_literals_meanings t_distances_all a_t_distances_counts a_t_distances_meanings t_lengthCodes_all a_t_lengthCodes_counts a_t_lengthCodes_meanings a_t_points) qM) (nI n) (nI (p + 8)) t_width t_height (nI dep) (nI kind) t_interlace (nI c) (b2 (tr && decide (kind ≠ 3))) (nI m) t_bitAt t_rowBytes t_expected TM palM D a_t_rows a_t_lengths t_literals_all a_t_literals_counts a_t_literals_meanings t_distances_all a_t_distances_counts a_t_distances_meanings t_lengthCodes_all a_t_lengthCodes_counts a_t_lengthCodes_meanings ck a_t_points (b2 (decide (0 < c))) (b2 tr) (b2 (decide (s ≠ 0))) y4 (lN n0) (nI (p + 4)) (nI (p + 8)) (nI (p + 8 + n0)) 0)) := by
      intro y4
      unfold f_M_readPng_148 f_M_readPng_398
      rw [nPLTE.2 hP, q_bind, if_pos (show (0 : Int32) = 0 from rfl), ntRNS.2 hR, q_bind, if_pos (show (0 : Int32) = 0 from rfl), if_pos (show (0 : Int32) = 0 from rfl), nIEND.2 hE, q_bind, if_pos (show (0 : Int32) = 0 from rfl), if_pos (q_inb (by omega) (by omega)), nI_clamp (by omega), hTM]
      by_cases k1 : 97 ≤ t (p + 4)
      · rw [if_neg (show ¬ nI (t (p + 4)) < 97 from nI_nlt (b := 97) k1 (by omega)), can1, q_tryL]
        exact ⟨fun _ => rfl, fun z => absurd k1 z⟩
      · rw [if_pos (show nI (t (p + 4)) < 97 from nI_lt (b := 97) (by omega) (by omega)), can0, q_tryR]
        exact ⟨fun z => absurd z k1, fun _ => ⟨_, rfl⟩⟩
    have huo := unc_ok (K := K) (by omega) bX
    have hD13 : (f_PngReader_takeOther_13 K (nI c) (b2 tr) (nI dep) (nI kind) (nI (if s = 1 then 2 else s)) (nI n0) (nI (p + 8)) (nI n) T palD key (nI (bg4 t (p + 4)))) = dc_bind (f_PngReader_isUncounted K (nI (bg4 t (p + 4)))) ((fun r_40 => dc_try (f_D_need r_40.1) (fun r_43 => dc_try (f_Source_skip (nI n0) (nI (p + 8)) (nI n)) (fun r_54 => f_PngReader_takeOther_57 K (nI c) (b2 tr) (nI dep) (nI kind) (nI (if s = 1 then 2 else s)) (nI n0) r_54.2 (nI n) T palD key) (fun r_54 => some (.inr (r_54.1, ((nI c), (b2 tr), (nI (if s = 1 then 2 else s)), r_54.2, palD, key))))) (fun r_43 => some (.inr (r_43.1, ((nI c), (b2 tr), (nI (if s = 1 then 2 else s)), (nI (p + 8)), palD, key)))))) := by
      unfold f_PngReader_takeOther_13
      rw [if_neg (fun z => hP (jPLTE.mp z)), if_neg (fun z => hR (jtRNS.mp z))]
    by_cases k : 97 ≤ t (p + 4)
    rotate_left
    · refine Lk.no ?_ ?_
      · by_cases hf : p + 12 + n0 ≤ n
        rotate_left
        · exact hDno hf
        refine hDoF hf hE hI ?_
        rw [hD13, huo.2 (fun z => k (hsm.mp (hun.mp z))), q_bind, need0, q_tryR]
        exact ⟨_, rfl⟩
      · by_cases h0 : s ≠ 0
        · rw [if_neg (fun z => (b2_0.mp z) h0)]
          exact (hM148 1).2 k
        · rw [if_pos (b2_0.mpr h0)]
          exact (hM148 _).2 k
    rw [(hM148 1).1 k, (hM148 (b2 (decide (s = 2)))).1 k]
    by_cases hf : p + 12 + n0 ≤ n
    rotate_left
    · refine Lk.no (hDno hf) ?_
      by_cases h0 : s ≠ 0
      · rw [if_neg (fun z => (b2_0.mp z) h0)]
        exact h401no hf _ _ _ _ _ _ _ _ _ _
      · rw [if_pos (b2_0.mpr h0)]
        exact h401no hf _ _ _ _ _ _ _ _ _ _
    rw [huo.1 (hun.mpr (hsm.mpr k)), q_bind, need1, q_tryL, (skip_ex (k := n0) (show p + 8 ≤ n by omega) hn (by omega)).1 m4, q_tryL] at hD13
    rw [hDoT hf hE hI _ _ _ _ _ _ hD13]
    have hcl : ∀ y4, y4 = b2 (decide ((if s = 1 then 2 else s) = 2)) → Lk (RP n kind) (f_PngReader_takeParts_78 K ((f_PngReader_takeParts_L4 K (nI dep) (nI kind) (nI n)) qD) (nI c) (b2 tr) (nI dep) (nI kind) (nI (if s = 1 then 2 else s)) (nI n0) (nI (crcV T (p + 4) (p + 8 + n0))) (nI (p + 8 + n0)) (nI n) gf gt T palD key (b2 false) (nI cnt)) (f_M_readPng_401 K ((f_M_readPng_L28 K (nI n) t_width t_height (nI dep) (nI kind) t_interlace t_bitAt t_rowBytes t_expected TM a_t_rows a_t_lengths t_literals_all a_t_literals_counts a_t_literals_meanings t_distances_all a_t_distances_counts a_t_distances_meanings t_lengthCodes_all a_t_lengthCodes_counts a_t_lengthCodes_meanings a_t_points) qM) (nI n) (nI (p + 8)) t_width t_height (nI dep) (nI kind) t_interlace (nI c) (b2 (tr && decide (kind ≠ 3))) (nI m) t_bitAt t_rowBytes t_expected TM palM D a_t_rows a_t_lengths t_literals_all a_t_literals_counts a_t_literals_meanings t_distances_all a_t_distances_counts a_t_distances_meanings t_lengthCodes_all a_t_lengthCodes_counts a_t_lengthCodes_meanings ck a_t_points (b2 (decide (0 < c))) (b2 tr) (b2 (decide ((if s = 1 then 2 else s) ≠ 0))) y4 (nI (p + 4)) (nI (p + 8 + n0))) := by
      intro y4 hy4
      exact hclose hf c (if s = 1 then 2 else s) g m tr false gf gt y4 T D palD palM key ck ⟨fun z => Bool.noConfusion z, fun _ => hE⟩ (fun z => Bool.noConfusion z) (fun _ => hy4) ⟨m4, hc, by by_cases h : s = 1 <;> simp [h] <;> omega, by omega, ht.mono (by omega), hB, fun h => by
        obtain ⟨b1, b2, b3, b4⟩ := hG (by by_cases h1 : s = 1 <;> simp [h1] at h ⊢; exact h)
        exact ⟨b1, b2, by omega, b4⟩, fun h => hm0 (by by_cases h1 : s = 1 <;> simp [h1] at h; exact h), hpal, hkey⟩
    have hx3 : b2 (decide ((if s = 1 then 2 else s) ≠ 0)) = b2 (decide (s ≠ 0)) := by
      by_cases h : s = 1
      · rw [if_pos h, h]
        rfl
      · rw [if_neg h]
    rw [hx3] at hcl
    by_cases h0 : s ≠ 0
    · rw [if_neg (fun z => (b2_0.mp z) h0)]
      refine hcl 1 ?_
      by_cases h : s = 1
      · rw [if_pos h]
        rfl
      · rw [if_neg h, decide_eq_true (show s = 2 by omega)]
        rfl
    · rw [if_pos (b2_0.mpr h0)]
      refine hcl _ ?_
      rw [if_neg (show ¬ s = 1 by omega)]
