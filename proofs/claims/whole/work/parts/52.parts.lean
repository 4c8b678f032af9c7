/-! the pure half: PNG's parts written -/
theorem cr_f_sh {f g : Nat → Int32} : ∀ (r i j : Nat) (c : BitVec 32), (∀ t, t < r → f (i + t) = g (j + t)) → cr_f f i r c = cr_f g j r c := by
  intro r
  induction r with
  | zero => intro i j c h; rfl
  | succ r ih =>
    intro i j c h
    show cr_f f (i + 1) r (cr_b c (f i)) = cr_f g (j + 1) r (cr_b c (g j))
    have h0 := h 0 (by omega)
    rw [Nat.add_zero, Nat.add_zero] at h0
    rw [h0]
    exact ih (i + 1) (j + 1) _ (fun t ht => by
      have := h (t + 1) (by omega)
      rw [show i + 1 + t = i + (t + 1) by omega, show j + 1 + t = j + (t + 1) by omega]
      exact this)
def crcL (l : List Int32) : Int32 := Int32.ofBitVec (crcF (wr (fun _ => 0) l) 0 l.length)
theorem crc_list (b : Nat → Int32) (A l : List Int32) : crcF (wr b (A ++ l)) A.length (A ++ l).length = (crcL l).toBitVec := by
  show _ = crcF (wr (fun _ => 0) l) 0 l.length
  unfold crcF
  rw [List.length_append, Nat.add_sub_cancel_left, Nat.sub_zero, cr_f_sh (g := wr (fun _ => 0) l) l.length A.length 0 _ (fun t ht => ?_)]
  rw [Nat.zero_add, wr_lt _ ht, wr_lt _ (by rw [List.length_append]; omega), List.getElem?_append_right (by omega), Nat.add_sub_cancel_left]
theorem Bg_len (x : Int32) : (Bg x).length = 4 := rfl
theorem st4_Bg (Y0 Z : List Int32) (x : Int32) : st4 (Y0 ++ (Bg 0 ++ Z)) Y0.length (fun k => x >>> (nI (24 - 8 * k) &&& 31)) = Y0 ++ (Bg x ++ Z) := by
  unfold st4
  rw [List.set_append_right _ _ (Nat.le_refl _), List.set_append_right _ _ (by omega), List.set_append_right _ _ (by omega), List.set_append_right _ _ (by omega), Nat.sub_self, Nat.add_sub_cancel_left, Nat.add_sub_cancel_left, Nat.add_sub_cancel_left]
  show Y0 ++ ([q_by (x >>> (nI 24 &&& 31)), q_by (x >>> (nI 16 &&& 31)), q_by (x >>> (nI 8 &&& 31)), q_by (x >>> (nI 0 &&& 31))] ++ Z) = _
  rw [by_shr0]
  rfl
theorem openD {N : Nat} (hN : N < 2 ^ 31) (b : Nat → Int32) {Y : List Int32} (lt : Int32) (hn : Y.length ≤ N) : Ap N b Y (Bg 0 ++ Bg lt) (fun n o => (nI Y.length, n, o)) (f_PngWriter_openPart N lt (nI Y.length) (wr b Y)) := by
  unfold f_PngWriter_openPart f_Sink_filled
  rw [q_bind]
  refine Ap.seq (big4_ap b 0 hn hN) (fun u => ⟨_, rfl⟩) (fun h1 => ?_)
  exact Ap.eq (Ap.seq (X2 := []) (big4_ap b lt h1 hN) (fun u => ⟨_, rfl⟩) (fun h2 => Ap.nil (mk := fun n o => (nI Y.length, n, o)) h2)) (List.append_nil _)
/-- what a part is: length, letters, body, CRC -/
def prt (lt : Int32) (body : List Int32) : List Int32 := Bg (nI body.length) ++ (Bg lt ++ (body ++ Bg (crcL (Bg lt ++ body))))
theorem closeD {K N : Nat} (hN : N < 2 ^ 31) (hK : N + 9 < K) (b : Nat → Int32) (Y0 body : List Int32) (lt : Int32) (hn : (Y0 ++ (Bg 0 ++ (Bg lt ++ body))).length ≤ N) : Ap N b (Y0 ++ (Bg (nI body.length) ++ (Bg lt ++ body))) (Bg (crcL (Bg lt ++ body))) mkU (f_PngWriter_closePart K N (nI Y0.length) (nI (Y0 ++ (Bg 0 ++ (Bg lt ++ body))).length) (wr b (Y0 ++ (Bg 0 ++ (Bg lt ++ body))))) := by
  have hl : (Y0 ++ (Bg 0 ++ (Bg lt ++ body))).length = Y0.length + 8 + body.length := by
    rw [List.length_append, List.length_append, List.length_append, Bg_len, Bg_len]
    omega
  have hl2 : (Y0 ++ (Bg (nI body.length) ++ (Bg lt ++ body))).length = Y0.length + 8 + body.length := by
    rw [List.length_append, List.length_append, List.length_append, Bg_len, Bg_len]
    omega
  have e2 : (nI (Y0 ++ (Bg 0 ++ (Bg lt ++ body))).length - nI Y0.length) - 8 = nI body.length := by
    rw [pk_sub (by omega), show nI ((Y0 ++ (Bg 0 ++ (Bg lt ++ body))).length - Y0.length) - 8 = nI ((Y0 ++ (Bg 0 ++ (Bg lt ++ body))).length - Y0.length - 8) from pk_sub (b := 8) (by omega)]
    congr 1
    omega
  unfold f_PngWriter_closePart f_Sink_filled
  rw [q_bind]
  show Ap _ _ _ _ _ (dc_bind (f_Sink_mendBig4 K N (nI Y0.length) ((nI (Y0 ++ (Bg 0 ++ (Bg lt ++ body))).length - nI Y0.length) - 8) (nI (Y0 ++ (Bg 0 ++ (Bg lt ++ body))).length) (wr b (Y0 ++ (Bg 0 ++ (Bg lt ++ body))))) _)
  rw [e2, mendB_ok (by omega) b (by omega) hn hN, q_bind, st4_Bg]
  obtain ⟨c, c1, c2⟩ := crcD_ok (K := K) (N := N) (i := Y0.length + 4) (t := (Y0 ++ (Bg 0 ++ (Bg lt ++ body))).length) hN (by omega) hn (by omega) (wr b (Y0 ++ (Bg (nI body.length) ++ (Bg lt ++ body))))
  have e3 : c = crcL (Bg lt ++ body) := by
    apply Int32.toBitVec_inj.mp
    have h := crc_list b (Y0 ++ Bg (nI body.length)) (Bg lt ++ body)
    rw [List.append_assoc] at h
    rw [← h, c2]
    unfold crcF
    rw [hl, hl2, List.length_append, Bg_len]
  unfold f_Sink_crcFrom
  rw [show nI Y0.length + 4 = nI (Y0.length + 4) from nI_add _ 4]
  show Ap _ _ _ _ _ (dc_bind (dc_bind (f_D_crcOf K N (nI (Y0.length + 4)) (nI (Y0 ++ (Bg 0 ++ (Bg lt ++ body))).length) (wr b (Y0 ++ (Bg (nI body.length) ++ (Bg lt ++ body))))) _) _)
  rw [c1, q_bind, q_bind, e3, hl, ← hl2]
  exact Ap.eq (Ap.seq (X2 := []) (big4_ap b _ (by omega) hN) (fun u => ⟨_, rfl⟩) (fun h2 => Ap.nil (mk := mkU) h2)) (List.append_nil _)
/-! the reference -/
theorem openM {K : Nat} (hK : 10 < K) (b : Nat → Int32) {Y : List Int32} (lt : Int32) {tb : Nat → Int32} (ht : ∀ k, k < 4 → f_java_lang_String_charAtT 4 (nI k) tb = some (tb k, ())) (hlt : cat (fun k => [q_by (tb k)]) 0 4 = Bg lt) (hn : Y.length ≤ 262144) : Ap 262144 b Y (Bg 0 ++ Bg lt) (fun n o => (nI (Y.length + 4), n, o)) (f_M_openT K 4 (nI Y.length) (wr b Y) tb) := by
  unfold f_M_openT
  have hb := bigM_ap (K := K) (by omega) b 0 hn
  rw [show (0 : Int64).toInt32 = 0 from rfl] at hb
  refine Ap.seq hb (fun u => ⟨_, rfl⟩) (fun h1 => ?_)
  have hL : Ap 262144 b (Y ++ Bg 0) (Bg lt) Prod.mk (f_M_openT_L7 K 4 tb K (nI (Y ++ Bg 0).length) (wr b (Y ++ Bg 0)) 0) := by
    rw [← hlt]
    refine Ap.up (c := 4) (f_M_openT_L7 K 4 tb) (fun k => [q_by (tb k)]) (fun q n b => ?_) (fun q k Y X hk hn ih => ?_) 4 0 K _ (by omega) (by omega) h1
    · show f_M_openT_7 K 4 _ n b tb (nI 4) = _
      unfold f_M_openT_7
      rw [if_pos (by decide)]
    · show Ap 262144 _ Y _ _ (f_M_openT_7 K 4 _ (nI Y.length) (wr b Y) tb (nI k))
      unfold f_M_openT_7
      rw [if_neg (show ¬ (4 : Int32) ≤ nI k from show ¬ nI 4 ≤ nI k from nI_ge hk (by omega)), ht k hk, q_bind, nI_1]
      exact Ap.seq (putM_ap _ _ hn) (fun u => ⟨_, rfl⟩) ih
  refine Ap.eq (Ap.seqL (X2 := []) hL (fun u => ⟨u, rfl⟩) (fun h2 => ?_)) (List.append_nil _)
  have e : nI ((Y ++ Bg 0) ++ Bg lt).length - 4 = nI (Y.length + 4) := by
    have hl : ((Y ++ Bg 0) ++ Bg lt).length = Y.length + 8 := by
      rw [List.length_append, List.length_append, Bg_len, Bg_len]
    rw [hl, show nI (Y.length + 8) - 4 = nI (Y.length + 8 - 4) from pk_sub (b := 4) (by omega)]
    congr 1
  show Ap _ _ _ _ _ (some (.inl (nI ((Y ++ Bg 0) ++ Bg lt).length - 4, nI ((Y ++ Bg 0) ++ Bg lt).length, wr b ((Y ++ Bg 0) ++ Bg lt))))
  rw [e]
  exact Ap.nil (mk := fun n o => (nI (Y.length + 4), n, o)) h2
theorem partM_st {K a : Nat} (hK : 5 ≤ K) (b : Nat → Int32) {Y : List Int32} (ha : a + 4 ≤ Y.length) (hY : Y.length ≤ 262144) (x x2 t : Int32) : f_M_part_L12 K t (nI a) x2 x K (wr b Y) 0 = some (wr b (st4 Y a (fun k => x >>> (nI (24 - 8 * k) &&& 31)))) := by
  have hs : ∀ (q k : Nat) (Z : List Int32), k < 4 → Z.length = Y.length → f_M_part_L12 K t (nI a) x2 x (q + 1) (wr b Z) (nI k) = f_M_part_L12 K t (nI a) x2 x q (wr b (Z.set (a + k) (q_by (x >>> (nI (24 - 8 * k) &&& 31))))) (nI (k + 1)) := by
    intro q k Z hk hZ
    show f_M_part_12 K _ t (wr b Z) (nI a) x2 x (nI k) = _
    unfold f_M_part_12
    have e : (24 : Int32) - 8 * nI k = nI (24 - 8 * k) := by
      rw [show (8 : Int32) * nI k = nI (8 * k) from pk_mul 8 k]
      exact pk_sub (a := 24) (by omega)
    rw [if_neg (show ¬ (4 : Int32) ≤ nI k from show ¬ nI 4 ≤ nI k from nI_ge (by omega) (by omega)), nI_add, if_pos (q_inb (by omega) (by omega)), nI_clamp (by omega), e, q_by2, wr_upd b (by omega), nI_1]
  obtain ⟨q, e⟩ : ∃ q, K = q + 5 := ⟨K - 5, by omega⟩
  have h : f_M_part_L12 K t (nI a) x2 x (q + 5) (wr b Y) (nI 0) = some (wr b (st4 Y a (fun k => x >>> (nI (24 - 8 * k) &&& 31)))) := by
    rw [hs (q + 4) 0 Y (by omega) rfl, hs (q + 3) 1 _ (by omega) (by rw [List.length_set]), hs (q + 2) 2 _ (by omega) (by rw [List.length_set, List.length_set]), hs (q + 1) 3 _ (by omega) (by rw [List.length_set, List.length_set, List.length_set])]
    rfl
  rw [← e] at h
  exact h
theorem partM {K : Nat} (hK : 262160 < K) (b : Nat → Int32) (Y0 body : List Int32) (lt : Int32) (hn : (Y0 ++ (Bg 0 ++ (Bg lt ++ body))).length ≤ 262144) : Ap 262144 b (Y0 ++ (Bg (nI body.length) ++ (Bg lt ++ body))) (Bg (crcL (Bg lt ++ body))) mkU (f_M_part K (nI Y0.length) (nI (Y0.length + 4)) (nI (Y0 ++ (Bg 0 ++ (Bg lt ++ body))).length) (wr b (Y0 ++ (Bg 0 ++ (Bg lt ++ body))))) := by
  have hl : (Y0 ++ (Bg 0 ++ (Bg lt ++ body))).length = Y0.length + 8 + body.length := by
    rw [List.length_append, List.length_append, List.length_append, Bg_len, Bg_len]
    omega
  have hl2 : (Y0 ++ (Bg (nI body.length) ++ (Bg lt ++ body))).length = Y0.length + 8 + body.length := by
    rw [List.length_append, List.length_append, List.length_append, Bg_len, Bg_len]
    omega
  have e2 : (nI (Y0 ++ (Bg 0 ++ (Bg lt ++ body))).length - nI (Y0.length + 4)) - 4 = nI body.length := by
    rw [pk_sub (by omega), show nI ((Y0 ++ (Bg 0 ++ (Bg lt ++ body))).length - (Y0.length + 4)) - 4 = nI ((Y0 ++ (Bg 0 ++ (Bg lt ++ body))).length - (Y0.length + 4) - 4) from pk_sub (b := 4) (by omega)]
    congr 1
    omega
  unfold f_M_part
  rw [e2, partM_st (by omega) b (by omega) hn, q_bind, st4_Bg]
  obtain ⟨x, x1, x2⟩ := crcM_ok (K := K) (N := 262144) (i := Y0.length + 4) (t := (Y0 ++ (Bg 0 ++ (Bg lt ++ body))).length) (by omega) (by omega) hn (by omega) (wr b (Y0 ++ (Bg (nI body.length) ++ (Bg lt ++ body))))
  have e3 : x.toInt32 = crcL (Bg lt ++ body) := by
    refine Rx_i ?_
    have h := crc_list b (Y0 ++ Bg (nI body.length)) (Bg lt ++ body)
    rw [List.append_assoc] at h
    rw [← h]
    unfold crcF at x2 ⊢
    rw [hl2, List.length_append, Bg_len]
    rw [hl] at x2
    exact x2
  rw [x1, q_bind, hl, ← hl2]
  have hb := bigM_ap (K := K) (by omega) b x (Y := Y0 ++ (Bg (nI body.length) ++ (Bg lt ++ body))) (by omega)
  rw [e3] at hb
  exact Ap.eq (Ap.seq (X2 := []) hb (fun u => ⟨_, rfl⟩) (fun h2 => Ap.nil (mk := mkU) h2)) (List.append_nil _)
