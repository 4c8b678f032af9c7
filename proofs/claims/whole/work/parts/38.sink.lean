/-! the pure half: what the sinks put -/
theorem Lb_0 (x : Int32) : Lb x 0 = q_by x := by_shr0 x
theorem Ap.fin {ε : Type} {N : Nat} {b : Nat → Int32} {Y X : List Int32} {r : Option ((Int32 × (Nat → Int32)) ⊕ (Nat × ε))} (h : Ap N b Y X Prod.mk r) : Ap N b Y X mkU (dc_bind r (Sum.elim (fun v => some (.inl ((), (v.1, v.2)))) (fun u => some (.inr u)))) := by
  refine Ap.eq (Ap.seqL h (fun u => ⟨u, rfl⟩) (fun h2 => Ap.nil (mk := mkU) h2)) (List.append_nil _)
theorem zeros_ap {K N c : Nat} (b : Nat → Int32) {Y : List Int32} (hn : Y.length ≤ N) (hN : N < 2 ^ 31) (hc : c < K) (hc2 : c < 2 ^ 31) : Ap N b Y (cat (fun _ => [0]) 0 c) mkU (f_Sink_putZeros K N (nI c) (nI Y.length) (wr b Y)) := by
  unfold f_Sink_putZeros
  refine Ap.fin (Ap.up (c := c) (f_Sink_putZeros_L2 K N (nI c)) (fun _ => [0]) (fun q n b => ?_) (fun q k Y X hk hn ih => ?_) c 0 K Y (by omega) hc hn)
  · show f_Sink_putZeros_2 K N _ n b (nI c) (nI c) = _
    unfold f_Sink_putZeros_2
    rw [if_pos (nI_le (by omega) (by omega))]
  · show Ap N _ Y _ _ (f_Sink_putZeros_2 K N _ (nI Y.length) _ (nI c) (nI k))
    unfold f_Sink_putZeros_2
    rw [if_neg (nI_ge (by omega) (by omega)), nI_1]
    exact Ap.seq (put_ap _ 0 hn hN) (fun u => ⟨_, rfl⟩) ih
theorem little2_ap {N : Nat} (b : Nat → Int32) {Y : List Int32} (x : Int32) (hn : Y.length ≤ N) (hN : N < 2 ^ 31) : Ap N b Y [Lb x 0, Lb x 1] mkU (f_Sink_putLittle2 N x (nI Y.length) (wr b Y)) := by
  unfold f_Sink_putLittle2
  rw [Lb_0]
  exact Ap.seq (X1 := [_]) (X2 := [Lb x 1]) (put_ap _ _ hn hN) (fun u => ⟨_, rfl⟩) (fun h1 => Ap.seq (X1 := [Lb x 1]) (X2 := []) (put_ap _ _ h1 hN) (fun u => ⟨_, rfl⟩) (fun h2 => Ap.nil (mk := mkU) h2))
theorem Lb_16 (x : Int32) (k : Nat) (hk : k < 2) : Lb (x >>> ((16 : Int32) &&& 31)) k = Lb x (2 + k) := by
  unfold Lb
  rw [show (16 : Int32) = nI 16 from rfl, by_shrshr (by omega), show 16 + 8 * k = 8 * (2 + k) by omega]
theorem little4_ap {N : Nat} (b : Nat → Int32) {Y : List Int32} (x : Int32) (hn : Y.length ≤ N) (hN : N < 2 ^ 31) : Ap N b Y [Lb x 0, Lb x 1, Lb x 2, Lb x 3] mkU (f_Sink_putLittle4 N x (nI Y.length) (wr b Y)) := by
  unfold f_Sink_putLittle4
  refine Ap.eq (Ap.seq (X2 := [Lb x 2, Lb x 3]) (little2_ap _ x hn hN) (fun u => ⟨_, rfl⟩) (fun h1 => ?_)) rfl
  have h := little2_ap b (x >>> ((16 : Int32) &&& 31)) h1 hN
  rw [Lb_16 x 0 (by omega), Lb_16 x 1 (by omega)] at h
  exact Ap.seq (X1 := [Lb x 2, Lb x 3]) (X2 := []) h (fun u => ⟨_, rfl⟩) (fun h2 => Ap.nil (mk := mkU) h2)
def Bg (x : Int32) : List Int32 := [q_by (x >>> (nI 24 &&& 31)), q_by (x >>> (nI 16 &&& 31)), q_by (x >>> (nI 8 &&& 31)), q_by x]
theorem big4_ap {N : Nat} (b : Nat → Int32) {Y : List Int32} (x : Int32) (hn : Y.length ≤ N) (hN : N < 2 ^ 31) : Ap N b Y (Bg x) mkU (f_Sink_putBig4 N x (nI Y.length) (wr b Y)) := by
  unfold f_Sink_putBig4 Bg
  exact Ap.seq (X1 := [_]) (X2 := [_, _, _]) (put_ap _ _ hn hN) (fun u => ⟨_, rfl⟩) (fun h1 => Ap.seq (X1 := [_]) (X2 := [_, _]) (put_ap _ _ h1 hN) (fun u => ⟨_, rfl⟩) (fun h2 => Ap.seq (X1 := [_]) (X2 := [_]) (put_ap _ _ h2 hN) (fun u => ⟨_, rfl⟩) (fun h3 => Ap.seq (X1 := [_]) (X2 := []) (put_ap _ _ h3 hN) (fun u => ⟨_, rfl⟩) (fun h4 => Ap.nil (mk := mkU) h4))))
theorem text_ap {K N c : Nat} (b : Nat → Int32) {Y : List Int32} (t : Nat → Int32) (hl : f_java_lang_String_lengthT c t = some (nI c, ())) (ht : ∀ k, k < c → f_java_lang_String_charAtT c (nI k) t = some (t k, ())) (hn : Y.length ≤ N) (hN : N < 2 ^ 31) (hc : c < K) (hc2 : c < 2 ^ 31) : Ap N b Y (cat (fun k => [q_by (t k)]) 0 c) mkU (f_Sink_putTextT K N c (nI Y.length) (wr b Y) t) := by
  unfold f_Sink_putTextT
  refine Ap.fin (Ap.up (c := c) (f_Sink_putTextT_L2 K N c t) (fun k => [q_by (t k)]) (fun q n b => ?_) (fun q k Y X hk hn ih => ?_) c 0 K Y (by omega) hc hn)
  · show f_Sink_putTextT_2 K N c _ n b t (nI c) = _
    unfold f_Sink_putTextT_2
    rw [hl, q_bind, if_pos (nI_le (by omega) (by omega))]
  · show Ap N _ Y _ _ (f_Sink_putTextT_2 K N c _ (nI Y.length) _ t (nI k))
    unfold f_Sink_putTextT_2
    rw [hl, q_bind, if_neg (nI_ge (by omega) (by omega)), ht k hk, q_bind, nI_1]
    exact Ap.seq (put_ap _ _ hn hN) (fun u => ⟨_, rfl⟩) ih
theorem littleM_ap {K c : Nat} (b : Nat → Int32) {Y : List Int32} (x : Int32) (hn : Y.length ≤ 262144) (hc : c < K) (hc2 : c < 2 ^ 31) : Ap 262144 b Y (cat (fun k => [Lb x k]) 0 c) mkU (f_M_putLittle K x (nI c) (nI Y.length) (wr b Y)) := by
  unfold f_M_putLittle
  refine Ap.fin (Ap.up (c := c) (f_M_putLittle_L2 K x (nI c)) (fun k => [Lb x k]) (fun q n b => ?_) (fun q k Y X hk hn ih => ?_) c 0 K Y (by omega) hc hn)
  · show f_M_putLittle_2 K _ n b x (nI c) (nI c) = _
    unfold f_M_putLittle_2
    rw [if_pos (nI_le (by omega) (by omega))]
  · show Ap 262144 _ Y _ _ (f_M_putLittle_2 K _ (nI Y.length) _ x (nI c) (nI k))
    unfold f_M_putLittle_2
    rw [if_neg (nI_ge (by omega) (by omega)), nI_1, show (8 : Int32) * nI k = nI (8 * k) from pk_mul 8 k]
    exact Ap.seq (putM_ap _ _ hn) (fun u => ⟨_, rfl⟩) ih
theorem bigM_L (K q : Nat) (b : Nat → Int32) {Y : List Int32} (x : Int64) (hn : Y.length ≤ 262144) : Ap 262144 b Y (Bg x.toInt32) Prod.mk (f_M_putBig_L3 K x (q + 5) (nI Y.length) (wr b Y) 24) := by
  have e0 := by_hi6 (n := 0) (by omega) x
  rw [by_shr0] at e0
  unfold Bg
  rw [← by_hi6 (n := 24) (by omega) x, ← by_hi6 (n := 16) (by omega) x, ← by_hi6 (n := 8) (by omega) x, ← e0]
  have hs : ∀ (q : Nat) (n : Int32) (b : Nat → Int32) (c : Int32), ¬ c < 0 → f_M_putBig_L3 K x (q + 1) n b c = dc_try (f_M_put ((x >>> (c.toInt64 &&& 63)).toInt32) n b) (fun r => f_M_putBig_L3 K x q r.2.1 r.2.2 (c + (-8))) (fun r => some (.inr (r.1, (r.2.1, r.2.2)))) := by
    intro q n b c h
    show f_M_putBig_3 K _ n b x c = _
    unfold f_M_putBig_3
    rw [if_neg h]
  rw [hs _ _ _ _ (by decide), show (24 : Int32) + (-8) = 16 from rfl]
  refine Ap.seq (X1 := [_]) (X2 := [_, _, _]) (putM_ap _ _ hn) (fun u => ⟨_, rfl⟩) (fun h1 => ?_)
  rw [hs _ _ _ _ (by decide), show (16 : Int32) + (-8) = 8 from rfl]
  refine Ap.seq (X1 := [_]) (X2 := [_, _]) (putM_ap _ _ h1) (fun u => ⟨_, rfl⟩) (fun h2 => ?_)
  rw [hs _ _ _ _ (by decide), show (8 : Int32) + (-8) = 0 from rfl]
  refine Ap.seq (X1 := [_]) (X2 := [_]) (putM_ap _ _ h2) (fun u => ⟨_, rfl⟩) (fun h3 => ?_)
  rw [hs _ _ _ _ (by decide), show (0 : Int32) + (-8) = -8 from rfl]
  refine Ap.seq (X1 := [_]) (X2 := []) (putM_ap _ _ h3) (fun u => ⟨_, rfl⟩) (fun h4 => ?_)
  exact Ap.nil (mk := Prod.mk) h4
theorem bigM_ap {K : Nat} (hK : 5 ≤ K) (b : Nat → Int32) {Y : List Int32} (x : Int64) (hn : Y.length ≤ 262144) : Ap 262144 b Y (Bg x.toInt32) mkU (f_M_putBig K x (nI Y.length) (wr b Y)) := by
  unfold f_M_putBig
  obtain ⟨q, e⟩ : ∃ q, K = q + 5 := ⟨K - 5, by omega⟩
  have h := bigM_L K q b x hn
  rw [← e] at h
  exact Ap.fin h
/-- four bytes of the list set anew -/
def st4 (Y : List Int32) (a : Nat) (f : Nat → Int32) : List Int32 := (((Y.set a (q_by (f 0))).set (a + 1) (q_by (f 1))).set (a + 2) (q_by (f 2))).set (a + 3) (q_by (f 3))
theorem mendByte_ok {N a : Nat} (b : Nat → Int32) {Y : List Int32} (ha : a < Y.length) (hY : Y.length ≤ N) (hN : N < 2 ^ 31) (x : Int32) : f_Sink_mendByte N (nI a) x (nI Y.length) (wr b Y) = some ((), wr b (Y.set a (q_by x))) := by
  unfold f_Sink_mendByte
  rw [if_neg (nI_pos (by omega)), if_neg (nI_ge ha (by omega)), if_pos (q_inb (by omega) hN), nI_clamp (by omega), q_by2, wr_upd _ ha]
  rfl
theorem mendB_ok {K N a : Nat} (hK : 5 ≤ K) (b : Nat → Int32) {Y : List Int32} (ha : a + 4 ≤ Y.length) (hY : Y.length ≤ N) (hN : N < 2 ^ 31) (x : Int32) : f_Sink_mendBig4 K N (nI a) x (nI Y.length) (wr b Y) = some ((), wr b (st4 Y a (fun k => x >>> (nI (24 - 8 * k) &&& 31)))) := by
  have hs : ∀ (q k : Nat) (Z : List Int32), k < 4 → Z.length = Y.length → f_Sink_mendBig4_L2 K N (nI Y.length) (nI a) x (q + 1) (wr b Z) (nI k) = f_Sink_mendBig4_L2 K N (nI Y.length) (nI a) x q (wr b (Z.set (a + k) (q_by (x >>> (nI (24 - 8 * k) &&& 31))))) (nI (k + 1)) := by
    intro q k Z hk hZ
    show f_Sink_mendBig4_2 K N _ (nI Y.length) (wr b Z) (nI a) x (nI k) = _
    unfold f_Sink_mendBig4_2
    have e : (24 : Int32) - 8 * nI k = nI (24 - 8 * k) := by
      rw [show (8 : Int32) * nI k = nI (8 * k) from pk_mul 8 k]
      exact pk_sub (a := 24) (by omega)
    rw [if_neg (show ¬ (4 : Int32) ≤ nI k from show ¬ nI 4 ≤ nI k from nI_ge (by omega) (by omega)), nI_add, e, ← hZ, mendByte_ok b (by omega) (by omega) hN, q_bind, nI_1]
  unfold f_Sink_mendBig4
  obtain ⟨q, e⟩ : ∃ q, K = q + 5 := ⟨K - 5, by omega⟩
  have h : f_Sink_mendBig4_L2 K N (nI Y.length) (nI a) x (q + 5) (wr b Y) (nI 0) = some (wr b (st4 Y a (fun k => x >>> (nI (24 - 8 * k) &&& 31)))) := by
    rw [hs (q + 4) 0 Y (by omega) rfl, hs (q + 3) 1 _ (by omega) (by rw [List.length_set]), hs (q + 2) 2 _ (by omega) (by rw [List.length_set, List.length_set]), hs (q + 1) 3 _ (by omega) (by rw [List.length_set, List.length_set, List.length_set])]
    rfl
  rw [← e] at h
  rw [show f_Sink_mendBig4_L2 K N (nI Y.length) (nI a) x K (wr b Y) 0 = _ from h]
  rfl
theorem mendL_ok {K N a : Nat} (hK : 5 ≤ K) (b : Nat → Int32) {Y : List Int32} (ha : a + 4 ≤ Y.length) (hY : Y.length ≤ N) (hN : N < 2 ^ 31) (x : Int32) : f_Sink_mendLittle4 K N (nI a) x (nI Y.length) (wr b Y) = some ((), wr b (st4 Y a (fun k => x >>> (nI (8 * k) &&& 31)))) := by
  have hs : ∀ (q k : Nat) (Z : List Int32), k < 4 → Z.length = Y.length → f_Sink_mendLittle4_L2 K N (nI Y.length) (nI a) x (q + 1) (wr b Z) (nI k) = f_Sink_mendLittle4_L2 K N (nI Y.length) (nI a) x q (wr b (Z.set (a + k) (q_by (x >>> (nI (8 * k) &&& 31))))) (nI (k + 1)) := by
    intro q k Z hk hZ
    show f_Sink_mendLittle4_2 K N _ (nI Y.length) (wr b Z) (nI a) x (nI k) = _
    unfold f_Sink_mendLittle4_2
    rw [if_neg (show ¬ (4 : Int32) ≤ nI k from show ¬ nI 4 ≤ nI k from nI_ge (by omega) (by omega)), nI_add, show (8 : Int32) * nI k = nI (8 * k) from pk_mul 8 k, ← hZ, mendByte_ok b (by omega) (by omega) hN, q_bind, nI_1]
  unfold f_Sink_mendLittle4
  obtain ⟨q, e⟩ : ∃ q, K = q + 5 := ⟨K - 5, by omega⟩
  have h : f_Sink_mendLittle4_L2 K N (nI Y.length) (nI a) x (q + 5) (wr b Y) (nI 0) = some (wr b (st4 Y a (fun k => x >>> (nI (8 * k) &&& 31)))) := by
    rw [hs (q + 4) 0 Y (by omega) rfl, hs (q + 3) 1 _ (by omega) (by rw [List.length_set]), hs (q + 2) 2 _ (by omega) (by rw [List.length_set, List.length_set]), hs (q + 1) 3 _ (by omega) (by rw [List.length_set, List.length_set, List.length_set])]
    rfl
  rw [← e] at h
  rw [show f_Sink_mendLittle4_L2 K N (nI Y.length) (nI a) x K (wr b Y) 0 = _ from h]
  rfl
theorem st4_len (Y : List Int32) (a : Nat) (f : Nat → Int32) : (st4 Y a f).length = Y.length := by
  unfold st4
  rw [List.length_set, List.length_set, List.length_set, List.length_set]
/-- it comes to length L and answers a; or, if that is beyond N, it is refused -/
def Fi {α ε : Type} (N L : Nat) (a : α) (r : Option (α ⊕ (Nat × ε))) : Prop := (L ≤ N → r = some (.inl a)) ∧ (N < L → ∃ u, r = some (.inr (4, u)))
theorem Fi.ret {α ε : Type} {N L : Nat} {a : α} (h : L ≤ N) : Fi (ε := ε) N L a (some (.inl a)) := ⟨fun _ => rfl, fun h2 => absurd h2 (by omega)⟩
theorem Fi.seq {α α' ε ε' : Type} {N L : Nat} {b : Nat → Int32} {Y X1 : List Int32} {mk : Int32 → (Nat → Int32) → α} {a : α'} {m : Option (α ⊕ (Nat × ε))} {f : α → Option (α' ⊕ (Nat × ε'))} {g : Nat × ε → Option (α' ⊕ (Nat × ε'))} (h : Ap N b Y X1 mk m) (hg : ∀ u, ∃ u', g (4, u) = some (.inr (4, u'))) (hL : (Y ++ X1).length ≤ L)
    (hf : (Y ++ X1).length ≤ N → Fi N L a (f (mk (nI (Y ++ X1).length) (wr b (Y ++ X1))))) : Fi N L a (dc_try m f g) := by
  constructor
  · intro h1
    have h2 : (Y ++ X1).length ≤ N := by omega
    rw [h.1 h2, q_tryL]
    exact (hf h2).1 h1
  · intro h1
    by_cases h2 : (Y ++ X1).length ≤ N
    · rw [h.1 h2, q_tryL]
      exact (hf h2).2 h1
    · obtain ⟨u, hu⟩ := h.2 (by omega)
      rw [hu, q_tryR]
      exact hg u
theorem Fi.seqL {α α' ε ε' : Type} {N L : Nat} {b : Nat → Int32} {Y X1 : List Int32} {mk : Int32 → (Nat → Int32) → α} {a : α'} {m : Option (α ⊕ (Nat × ε))} {f : α → Option (α' ⊕ (Nat × ε'))} {g : Nat × ε → Option (α' ⊕ (Nat × ε'))} (h : Ap N b Y X1 mk m) (hg : ∀ u, ∃ u', g (4, u) = some (.inr (4, u'))) (hL : (Y ++ X1).length ≤ L)
    (hf : (Y ++ X1).length ≤ N → Fi N L a (f (mk (nI (Y ++ X1).length) (wr b (Y ++ X1))))) : Fi N L a (dc_bind m (Sum.elim f g)) := by
  rw [bind_elim]
  exact Fi.seq h hg hL hf
theorem Fi.try {α α' ε ε' : Type} {N L L' : Nat} {a : α} {a' : α'} {m : Option (α ⊕ (Nat × ε))} {f : α → Option (α' ⊕ (Nat × ε'))} {g : Nat × ε → Option (α' ⊕ (Nat × ε'))} (h : Fi N L a m) (hg : ∀ u, ∃ u', g (4, u) = some (.inr (4, u'))) (hL : L ≤ L') (hf : L ≤ N → Fi N L' a' (f a)) : Fi N L' a' (dc_try m f g) := by
  constructor
  · intro h1
    have h2 : L ≤ N := by omega
    rw [h.1 h2, q_tryL]
    exact (hf h2).1 h1
  · intro h1
    by_cases h2 : L ≤ N
    · rw [h.1 h2, q_tryL]
      exact (hf h2).2 h1
    · obtain ⟨u, hu⟩ := h.2 (by omega)
      rw [hu, q_tryR]
      exact hg u
theorem Fi.tryL {α α' ε ε' : Type} {N L L' : Nat} {a : α} {a' : α'} {m : Option (α ⊕ (Nat × ε))} {f : α → Option (α' ⊕ (Nat × ε'))} {g : Nat × ε → Option (α' ⊕ (Nat × ε'))} (h : Fi N L a m) (hg : ∀ u, ∃ u', g (4, u) = some (.inr (4, u'))) (hL : L ≤ L') (hf : L ≤ N → Fi N L' a' (f a)) : Fi N L' a' (dc_bind m (Sum.elim f g)) := by
  rw [bind_elim]
  exact Fi.try h hg hL hf
theorem Fi.bnd {α β ε : Type} {N L : Nat} {a : α} {m : Option β} {c : β} {f : β → Option (α ⊕ (Nat × ε))} (h : m = some c) (hf : Fi N L a (f c)) : Fi N L a (dc_bind m f) := by
  rw [h, q_bind]
  exact hf
theorem Ap.fi {α ε : Type} {N : Nat} {b : Nat → Int32} {Y X : List Int32} {mk : Int32 → (Nat → Int32) → α} {r : Option (α ⊕ (Nat × ε))} (h : Ap N b Y X mk r) : Fi N (Y ++ X).length (mk (nI (Y ++ X).length) (wr b (Y ++ X))) r := h
theorem cat_len {g : Nat → List Int32} {m : Nat} (h : ∀ k, (g k).length = m) : ∀ (r k : Nat), (cat g k r).length = r * m := by
  intro r
  induction r with
  | zero => intro k; show 0 = _; omega
  | succ r ih => intro k; rw [cat_s, List.length_append, h, ih, Nat.succ_mul]; omega
theorem catd_len {g : Nat → List Int32} {m : Nat} (h : ∀ k, (g k).length = m) : ∀ (r : Nat), (catd g r).length = r * m := by
  intro r
  induction r with
  | zero => show 0 = _; omega
  | succ r ih => show (g r ++ catd g r).length = _; rw [List.length_append, h, ih, Nat.succ_mul]; omega
theorem catd_le {g : Nat → List Int32} {m : Nat} (h : ∀ k, (g k).length ≤ m) : ∀ (r : Nat), (catd g r).length ≤ r * m := by
  intro r
  induction r with
  | zero => show 0 ≤ _; omega
  | succ r ih => show (g r ++ catd g r).length ≤ _; rw [List.length_append, Nat.succ_mul]; have := h r; omega
theorem cat_le {g : Nat → List Int32} {m : Nat} (h : ∀ k, (g k).length ≤ m) : ∀ (r k : Nat), (cat g k r).length ≤ r * m := by
  intro r
  induction r with
  | zero => intro k; show 0 ≤ _; omega
  | succ r ih => intro k; rw [cat_s, List.length_append, Nat.succ_mul]; have := h k; have := ih (k + 1); omega
