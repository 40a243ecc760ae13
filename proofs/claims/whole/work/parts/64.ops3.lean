/-! scale -/
theorem getD_map {l : List Nat} {g : Nat → Nat} {x : Nat} (h : x < l.length) : (l.map g).getD x 0 = g (l.getD x 0) := by
  simp only [List.getD_eq_getElem?_getD, List.getElem?_map]
  rw [List.getElem?_eq_getElem h]; rfl
theorem map_x128 {l : List Nat} {c : Nat} (h : ∀ a ∈ l, a < 128) (hc : c < 128) : ∀ a ∈ l.map (fun a => a ^^^ c), a < 128 := by
  intro a ha
  simp only [List.mem_map] at ha
  obtain ⟨b, hb, rfl⟩ := ha
  exact xor_lt7 (h b hb) hc
theorem sc_M {N : Nat} {σ : fS} {d : List Nat} {x : Int32} (p1 : Int32) (hN : 200 ≤ N) (hx : numB x = true) (hd : NW σ d) : ∃ σ', lp_X8_scale_28 N p1 x N 0 σ = some σ' ∧ NW σ' (d.map (fun a => a ^^^ kindZ x.toInt)) ∧ ag [61, 82] σ σ' ∧ (∀ i, i ≠ 28 → σ'.1 61 i = σ.1 61 i) := by
  obtain ⟨hz, h0, h1, h2⟩ := num_z hx
  have h4 := hd.2.2.1
  obtain ⟨s, ⟨a1, a2⟩, e⟩ := lpU (fun n y s => lp_X8_scale_28 N p1 x n y s) d.length (fun k s => (∀ z, z < d.length → s.1 82 z = if z < k then nI (d.getD z 0 ^^^ kindZ x.toInt) else nI (d.getD z 0)) ∧ ag [82] σ s) id (by
    intro n k s hk ⟨b1, b2⟩
    refine ⟨sI s 82 k (nI (d.getD k 0 ^^^ kindZ x.toInt)), ⟨fun z hz => ?_, b2.tr (ag.sI s (by simp) _ _)⟩, ?_⟩
    · by_cases c : z = k
      · subst c; rw [sI_same, if_pos (by omega)]
      · rw [sI_other _ _ (Or.inr c), b1 z hz]
        by_cases c2 : z < k
        · rw [if_pos c2, if_pos (by omega)]
        · rw [if_neg c2, if_neg (by omega)]
    · show lp_X8_scale_28 N p1 x (n + 1) (nI k) s = _
      have hkk : g_X8_kindOf N x s = some (nI (kindZ x.toInt), s) := by
        conv => lhs; rw [hz]
        rw [v_kindM (by omega) h0 (by omega) (by omega)]
      rw [lp_X8_scale_28, b2.i (by decide), hd.1, if_neg (n_le (by omega) hk), Gd_c (fin_nI (by omega) (by omega)), hkk, Bd_s, Gd_c (fin_nI (by omega) (by omega)), Lt_e, n_cl (by omega), b1 k hk, if_neg (by omega), xorI, nI_1]) (by
    intro n s ⟨b1, b2⟩
    show lp_X8_scale_28 N p1 x (n + 1) (nI d.length) s = _
    rw [lp_X8_scale_28, b2.i (by decide), hd.1, if_pos (y_le (by omega) (Nat.le_refl _))]; rfl) d.length N 0 σ (by omega) (by omega) ⟨fun z hz => by rw [if_neg (by omega)]; exact hd.2.1 z hz, ag.rf⟩
  refine ⟨s, e, ⟨?_, fun z hz => ?_, by simpa using h4, map_x128 hd.2.2.2 (kindZ_lt _)⟩, a2.mono (by simp), fun i _ => by rw [a2.i (by decide)]⟩
  · rw [a2.i (by decide), hd.1]; simp
  · simp at hz
    rw [a1 z hz, if_pos hz, getD_map hz]
theorem o17 {N : Nat} (hN : 200 ≤ N) : op_17 INV N := by
  intro x y σ hi
  have hi' := hi
  obtain ⟨pg, S, K, n, m, A, M, hw⟩ := hi'
  have hX := hw.2.1
  have hM := hw.2.2.1
  unfold g_X7_scale g_X8_scale
  rcases hf_or S x with ⟨i, hi8, rfl, hs⟩ | ⟨e1, e2⟩
  · by_cases c : numB y = true
    · obtain ⟨hz, h0, h1, h2⟩ := num_z c
      have h4 := (hX i hi8).1.2.2.1
      obtain ⟨s1, f1, a1, g1⟩ := v_empty (N := N) (k := 4) (σ := σ)
      have hX1 : XS s1 S := hX.of (fun k a b => g1.i (by simp; omega))
      obtain ⟨s2, f2, a2, g2⟩ := v_addTimes (c := kindZ y.toInt) (k := 4) (k1 := 21 + 2 * i) hN a1 (hX1 i hi8).1 (by simpa using h4) (kindZ_lt _) (by omega)
      rw [List.nil_append] at a2
      have g12 := (g1.mono (T := [4, 5]) (by simp)).tr g2
      obtain ⟨s3, f3, x3, m3, f⟩ := stepN hN hi8 hw (qA.x g12 (by decide) (by decide)) (hM.ag g12 (by decide)) a2
      obtain ⟨s4, f4, n4, g4, p4⟩ := v_take hN hi8 m3
      obtain ⟨s5, f5, n5, g5, p5⟩ := sc_M (nI i) hN c n4
      obtain ⟨s6, f6, i6, m6⟩ := f s5 ((qA.w g4 p4).tr (qA.w g5 p5)) n5 (msW (msW m3 g4) g5)
      have hkk : ∀ s, g_X2_kindOf N y s = some (nI (kindZ y.toInt), s) := fun s => by
        conv => lhs; rw [hz]
        rw [v_kindX (by omega) h0 (by omega) (by omega)]
      refine ⟨nI (detL ((S i).map (fun a => a ^^^ kindZ y.toInt))), s3, s6, ?_, ?_, i6⟩
      · have hx3 := (x3 i hi8).1
        rw [updS_i] at hx3
        rw [hfX_1 hX hi8 hs, Bd_s, if_neg (by decide), v_isNumX (by omega), if_pos c, Bd_s, if_neg (by decide), f1, Bv_s, Gd_c (fin_nI hi8 (by omega)), hkk, Bd_s, n_cl (by omega), er3, f2, Bv_s, f3, Bv_s, Gd_c (fin_nI hi8 (by omega)), v_detX hN hx3, Bd_s]
      · have hm6 := (m6 i hi8).1
        rw [updS_i] at hm6
        rw [hfM_1 m3 hi8 hs, Bd_s, if_neg (by decide), v_isNumM (by omega), if_pos c, Bd_s, if_neg (by decide), f4, Bv_s, f5, Bv_s, f6, Bd_s, v_detM hN hi8 hm6, Bd_s]
    · refine ⟨-102, σ, σ, ?_, ?_, hi⟩
      · rw [hfX_1 hX hi8 hs, Bd_s, if_neg (by decide), v_isNumX (by omega), if_neg c, Bd_s, if_pos rfl]
      · rw [hfM_1 hM hi8 hs, Bd_s, if_neg (by decide), v_isNumM (by omega), if_neg c, Bd_s, if_pos rfl]
  · refine ⟨-101, σ, σ, ?_, ?_, hi⟩
    · rw [e1 N σ hX, Bd_s, if_pos rfl]
    · rw [e2 N σ hM, Bd_s, if_pos rfl]
/-! drop -/
theorem er_snoc {l : List Nat} {t x : Nat} (hx : x < l.length) (h : x ≠ t) : (l.take (x + 1)).eraseIdx t = (l.take x).eraseIdx t ++ [l.getD x 0] := by
  have hlen : (l.take x).length = x := by simp; omega
  rw [take_snoc hx]
  rcases Nat.lt_or_ge t x with c | c
  · rw [List.eraseIdx_append_of_lt_length (by omega)]
  · rw [List.eraseIdx_of_length_le (by simp; omega), List.eraseIdx_of_length_le (by omega)]
theorem er_same {l : List Nat} {t : Nat} (ht : t < l.length) : (l.take (t + 1)).eraseIdx t = (l.take t).eraseIdx t := by
  have hlen : (l.take t).length = t := by simp; omega
  have h2 : (l.take t).eraseIdx t = l.take t := List.eraseIdx_of_length_le (by omega)
  rw [h2, take_snoc ht, List.eraseIdx_append_of_length_le (by omega), hlen, Nat.sub_self]
  show l.take t ++ [] = _
  rw [List.append_nil]
theorem er_len {l : List Nat} {t : Nat} (ht : t < l.length) : (l.eraseIdx t).length = l.length - 1 := List.length_eraseIdx_of_lt ht
theorem er_get {l : List Nat} {t e : Nat} : (l.eraseIdx t).getD e 0 = if e < t then l.getD e 0 else l.getD (e + 1) 0 := by
  simp only [List.getD_eq_getElem?_getD]
  rw [List.getElem?_eraseIdx]
  split <;> rfl
theorem dp_X {N i t : Nat} {σ : fS} {l : List Nat} (p1 : Int32) (hN : 200 ≤ N) (h : fr0 σ (21 + 2 * i) l) (ht : t < l.length) (hd : fr0 σ 4 []) : ∃ σ', lp_X7_drop_40 N p1 (nI t) (21 + 2 * i) N 0 σ = some σ' ∧ fr0 σ' 4 (l.eraseIdx t) ∧ ag [4, 5] σ σ' := by
  have h4 := h.2.2.1
  obtain ⟨s, ⟨a1, a2⟩, e⟩ := lpU (fun n x s => lp_X7_drop_40 N p1 (nI t) (21 + 2 * i) n x s) l.length (fun x s => fr0 s 4 ((l.take x).eraseIdx t) ∧ ag [4, 5] σ s) id (by
    intro n x s hx ⟨b1, b2⟩
    have hm : fr0 s (21 + 2 * i) l := h.ag b2 (by simp; omega) (by simp; omega)
    have e1 : (nI x = nI t) ↔ x = t := n_eq (by omega) (by omega)
    show ∃ s', _ ∧ lp_X7_drop_40 N p1 (nI t) (21 + 2 * i) (n + 1) (nI x) s = lp_X7_drop_40 N p1 (nI t) (21 + 2 * i) n (nI (x + 1)) s'
    rw [lp_X7_drop_40, hm.1, if_neg (n_le (by omega) hx), nI_1]
    by_cases c : x = t
    · rw [if_pos (e1.mpr c)]
      subst c
      exact ⟨s, ⟨by rw [er_same hx]; exact b1, b2⟩, rfl⟩
    · have hlen : ((l.take x).eraseIdx t).length < 4 := by
        have := List.length_eraseIdx_le (l.take x) t
        simp at this ⊢; omega
      obtain ⟨s', e', c1, c2⟩ := v_add (N := N) b1 hlen (getD_lt h.2.2.2 hx)
      rw [if_neg (fun z => c (e1.mp z)), v_kindAt hm hx, Bd_s, e', Bv_s]
      exact ⟨s', ⟨by rw [er_snoc hx c]; exact c1, b2.tr c2⟩, rfl⟩) (by
    intro n s ⟨b1, b2⟩
    have hm : fr0 s (21 + 2 * i) l := h.ag b2 (by simp; omega) (by simp; omega)
    show lp_X7_drop_40 N p1 (nI t) (21 + 2 * i) (n + 1) (nI l.length) s = _
    rw [lp_X7_drop_40, hm.1, if_pos (y_le (by omega) (Nat.le_refl _))]; rfl) l.length N 0 σ (by omega) (by omega) ⟨by simpa using hd, ag.rf⟩
  rw [List.take_length] at a1
  exact ⟨s, e, a1, a2⟩
theorem dp_M {N t : Nat} {σ : fS} {l : List Nat} (p1 : Int32) (hN : 200 ≤ N) (hd : NW σ l) (ht : t < l.length) : ∃ σ', lp_X8_drop_32 N p1 N (nI t) σ = some σ' ∧ (∀ e, e < l.length - 1 → σ'.1 82 e = nI ((l.eraseIdx t).getD e 0)) ∧ ag [82] σ σ' := by
  have h4 := hd.2.2.1
  obtain ⟨s, ⟨a1, a2, a3⟩, e⟩ := lpU (fun n x s => lp_X8_drop_32 N p1 n x s) (l.length - 1) (fun x s => (∀ e, e < l.length → s.1 82 e = if t ≤ e ∧ e < x then nI (l.getD (e + 1) 0) else nI (l.getD e 0)) ∧ ag [82] σ s ∧ t ≤ x) id (by
    intro n x s hx ⟨b1, b2, b3⟩
    refine ⟨sI s 82 x (nI (l.getD (x + 1) 0)), ⟨fun z hz => ?_, b2.tr (ag.sI s (by simp) _ _), by omega⟩, ?_⟩
    · by_cases c : z = x
      · subst c; rw [sI_same, if_pos (by omega)]
      · rw [sI_other _ _ (Or.inr c), b1 z hz]
        by_cases c2 : t ≤ z ∧ z < x
        · rw [if_pos c2, if_pos (by omega)]
        · rw [if_neg c2, if_neg (by omega)]
    · show lp_X8_drop_32 N p1 (n + 1) (nI x) s = _
      rw [lp_X8_drop_32, b2.i (by decide), hd.1, n_sub1 (by omega), if_neg (n_le (by omega) hx), nI_1, Gd_c (fin_nI (by omega) (by omega)), Gd_c (fin_nI (by omega) (by omega)), Lt_e, n_cl (by omega), n_cl (by omega), b1 (x + 1) (by omega), if_neg (by omega)]) (by
    intro n s ⟨b1, b2, b3⟩
    show lp_X8_drop_32 N p1 (n + 1) (nI (l.length - 1)) s = _
    rw [lp_X8_drop_32, b2.i (by decide), hd.1, n_sub1 (by omega), if_pos (y_le (by omega) (Nat.le_refl _))]; rfl) (l.length - 1 - t) N t σ (by omega) (by omega) ⟨fun z hz => by rw [if_neg (by omega)]; exact hd.2.1 z hz, ag.rf, Nat.le_refl _⟩
  refine ⟨s, e, fun z hz => ?_, a2⟩
  rw [a1 z (by omega), er_get]
  by_cases c : z < t
  · rw [if_neg (by omega), if_pos c]
  · rw [if_pos (by omega), if_neg c]
theorem o19 {N : Nat} (hN : 200 ≤ N) : op_19 INV N := by
  intro x y σ hi
  have hi' := hi
  obtain ⟨pg, S, K, n, m, A, M, hw⟩ := hi'
  have hX := hw.2.1
  have hM := hw.2.2.1
  unfold g_X7_drop g_X8_drop
  rcases ht_or S (fun i hi => (hX i hi).1.2.2.1) x y with ⟨i, t, hi8, rfl, rfl, ht⟩ | ⟨e1, e2⟩
  · have h4 := (hX i hi8).1.2.2.1
    have he1 : (nI (S i).length = (1 : Int32)) ↔ (S i).length = 1 := n_eq (b := 1) (by omega) (by decide)
    by_cases c : (S i).length = 1
    · refine ⟨-103, σ, σ, ?_, ?_, hi⟩
      · rw [htX_1 hX hi8 ht, Bd_s, if_neg (by decide), Gd_c (fin_nI hi8 (by omega)), n_cl (by omega), er3, (hX i hi8).1.1, if_pos (he1.mpr c)]
      · rw [htM_1 hM hi8 ht, Bd_s, if_neg (by decide), Gd_c (fin_nI hi8 (by omega)), n_cl (by omega), (hM i hi8).1.1, if_pos (he1.mpr c)]
    · obtain ⟨s1, f1, a1, g1⟩ := v_empty (N := N) (k := 4) (σ := σ)
      have hX1 : XS s1 S := hX.of (fun k a b => g1.i (by simp; omega))
      obtain ⟨s2, f2, a2, g2⟩ := dp_X (nI i) hN (hX1 i hi8).1 ht a1
      have g12 := (g1.mono (T := [4, 5]) (by simp)).tr g2
      obtain ⟨s3, f3, x3, m3, f⟩ := stepN hN hi8 hw (qA.x g12 (by decide) (by decide)) (hM.ag g12 (by decide)) a2
      obtain ⟨s4, f4, n4, g4, p4⟩ := v_take hN hi8 m3
      obtain ⟨s5, f5, n5, g5⟩ := dp_M (nI i) hN n4 ht
      have g6 : ag [61, 82] s4 (sI s5 61 28 (nI ((S i).length - 1))) := (g5.mono (by simp)).tr (ag.sI _ (by simp) _ _)
      have p6 : ∀ j, j ≠ 28 → (sI s5 61 28 (nI ((S i).length - 1))).1 61 j = s4.1 61 j := fun j hj => by rw [sI_other _ _ (Or.inr hj), g5.i (by decide)]
      have n6 : NW (sI s5 61 28 (nI ((S i).length - 1))) ((S i).eraseIdx t) := by
        refine ⟨by rw [sI_same, er_len ht], fun e he => ?_, by rw [er_len ht]; omega, fun a ha => n4.2.2.2 a (List.mem_of_mem_eraseIdx ha)⟩
        rw [er_len ht] at he
        rw [sI_other _ _ (Or.inl (by decide))]; exact n5 e he
      obtain ⟨s6, f6, i6, m6⟩ := f _ ((qA.w g4 p4).tr (qA.w g6 p6)) n6 (msW (msW m3 g4) g6)
      refine ⟨nI ((S i).eraseIdx t).length, s3, s6, ?_, ?_, i6⟩
      · have hx3 := (x3 i hi8).1
        rw [updS_i] at hx3
        rw [htX_1 hX hi8 ht, Bd_s, if_neg (by decide), Gd_c (fin_nI hi8 (by omega)), n_cl (by omega), er3, (hX i hi8).1.1, if_neg (fun z => c (he1.mp z)), f1, Bv_s, f2, Bv_s, f3, Bv_s, hx3.1]
      · rw [htM_1 m3 hi8 ht, Bd_s, if_neg (by decide), Gd_c (fin_nI hi8 (by omega)), n_cl (by omega), (m3 i hi8).1.1, if_neg (fun z => c (he1.mp z)), f4, Bv_s, f5, Bv_s, Lt_e, g5.i (by decide), n4.1, n_sub1 (by omega), f6, Bd_s]
  · exact ⟨-101, σ, σ, by rw [e1 N σ hX, Bd_s, if_pos rfl], by rw [e2 N σ hM, Bd_s, if_pos rfl], hi⟩
