/-! times -/
theorem gd_l {l m : List Nat} {k : Nat} (h : k < l.length) : (l ++ m).getD k 0 = l.getD k 0 := by
  simp only [List.getD_eq_getElem?_getD]; rw [List.getElem?_append_left h]
theorem gd_r {l m : List Nat} {k : Nat} (h : l.length ≤ k) : (l ++ m).getD k 0 = m.getD (k - l.length) 0 := by
  simp only [List.getD_eq_getElem?_getD]; rw [List.getElem?_append_right h]
def tmL (a b : List Nat) : Nat → List Nat
  | 0 => []
  | t + 1 => tmL a b t ++ b.map (fun x => x ^^^ a.getD t 0)
theorem tmL_len (a b : List Nat) : ∀ t, (tmL a b t).length = t * b.length
  | 0 => by simp [tmL]
  | t + 1 => by rw [tmL, List.length_append, tmL_len a b t, List.length_map, Nat.succ_mul]
theorem tmL_get (a b : List Nat) : ∀ t k, k < t * b.length → (tmL a b t).getD k 0 = a.getD (k / b.length) 0 ^^^ b.getD (k % b.length) 0
  | 0, k, h => absurd h (by simp)
  | t + 1, k, h => by
    have hl := tmL_len a b t
    rw [Nat.succ_mul] at h
    rw [tmL]
    rcases Nat.lt_or_ge k (t * b.length) with c | c
    · rw [gd_l (by omega)]
      exact tmL_get a b t k c
    · rw [gd_r (by omega), hl, getD_map (by omega)]
      have hb : 0 < b.length := by omega
      have e1 : k = b.length * t + (k - t * b.length) := by rw [Nat.mul_comm]; omega
      have e2 : k / b.length = t := by
        rw [e1, Nat.mul_add_div hb, Nat.div_eq_of_lt (by omega), Nat.add_zero]
      have e3 : k % b.length = k - t * b.length := by
        rw [Nat.mod_eq_sub, e2, Nat.mul_comm]
      rw [e2, e3, Nat.xor_comm]
theorem tmL_128 {a b : List Nat} (ha : ∀ x ∈ a, x < 128) (hb : ∀ x ∈ b, x < 128) : ∀ t, ∀ x ∈ tmL a b t, x < 128
  | 0 => by simp [tmL]
  | t + 1 => by
    intro x hx
    rw [tmL, List.mem_append] at hx
    rcases hx with hx | hx
    · exact tmL_128 ha hb t x hx
    · exact map_x128 hb (getD_lt' ha t) x hx
theorem tm_X {N i j : Nat} {σ : fS} {a b : List Nat} (p3 : Int32) (hN : 200 ≤ N) (hj : j < 8) (ha : fr0 σ (21 + 2 * i) a) (hb : fr0 σ (21 + 2 * j) b) (hl : a.length * b.length ≤ 4) (hd : fr0 σ 4 []) : ∃ σ', lp_X7_times_66 N (nI j) p3 (21 + 2 * i) N 0 σ = some σ' ∧ fr0 σ' 4 (tmL a b a.length) ∧ ag [4, 5] σ σ' := by
  have h4 := ha.2.2.1
  obtain ⟨s, ⟨a1, a2⟩, e⟩ := lpU (fun n x s => lp_X7_times_66 N (nI j) p3 (21 + 2 * i) n x s) a.length (fun t s => fr0 s 4 (tmL a b t) ∧ ag [4, 5] σ s) id (by
    intro n t s ht ⟨b1, b2⟩
    have hA : fr0 s (21 + 2 * i) a := ha.ag b2 (by simp; omega) (by simp; omega)
    have hB : fr0 s (21 + 2 * j) b := hb.ag b2 (by simp; omega) (by simp; omega)
    have hle : (t + 1) * b.length ≤ a.length * b.length := Nat.mul_le_mul_right _ ht
    rw [Nat.succ_mul] at hle
    obtain ⟨s', e', c1, c2⟩ := v_addTimes (k := 4) (k1 := 21 + 2 * j) hN b1 hB (by rw [tmL_len]; omega) (getD_lt ha.2.2.2 ht) (by omega)
    refine ⟨s', ⟨c1, b2.tr c2⟩, ?_⟩
    show lp_X7_times_66 N (nI j) p3 (21 + 2 * i) (n + 1) (nI t) s = _
    rw [lp_X7_times_66, hA.1, if_neg (n_le (by omega) ht), Gd_c (fin_nI hj (by omega)), v_kindAt hA ht, Bd_s, n_cl (by omega), er3, e', Bv_s, nI_1]) (by
    intro n s ⟨b1, b2⟩
    have hA : fr0 s (21 + 2 * i) a := ha.ag b2 (by simp; omega) (by simp; omega)
    show lp_X7_times_66 N (nI j) p3 (21 + 2 * i) (n + 1) (nI a.length) s = _
    rw [lp_X7_times_66, hA.1, if_pos (y_le (by omega) (Nat.le_refl _))]; rfl) a.length N 0 σ (by omega) (by omega) ⟨hd, ag.rf⟩
  exact ⟨s, e, a1, a2⟩
theorem n_div {a d : Nat} (ha : a < 2 ^ 31) (h0 : 0 < d) (hd : d < 2 ^ 31) : nI a / nI d = nI (a / d) := by
  rw [← zI_nat a, ← zI_nat d, zI_div (by omega) (by omega), ← zI_nat (a / d)]; rfl
theorem tm_M {N i j : Nat} {σ : fS} {S : Nat → List Nat} (p3 : Int32) (hN : 200 ≤ N) (hi : i < 8) (hj : j < 8) (h : MS σ S) (hs : S j ≠ []) (hl : (S i).length * (S j).length ≤ 4) (h28 : σ.1 61 28 = nI ((S i).length * (S j).length)) : ∃ σ', lp_X8_times_66 N (nI i) (nI j) p3 N 0 σ = some σ' ∧ NW σ' (tmL (S i) (S j) (S i).length) ∧ ag [82] σ σ' := by
  have hp := len_pos hs
  have h4 := (h i hi).1.2.2.1
  have h5 := (h j hj).1.2.2.1
  obtain ⟨s, ⟨a1, a2⟩, e⟩ := lpU (fun n x s => lp_X8_times_66 N (nI i) (nI j) p3 n x s) ((S i).length * (S j).length) (fun k s => (∀ z, z < k → s.1 82 z = nI ((tmL (S i) (S j) (S i).length).getD z 0)) ∧ ag [82] σ s) id (by
    intro n k s hk ⟨b1, b2⟩
    have hm := h.ag b2 (by decide)
    have k1 : k / (S j).length < (S i).length := (Nat.div_lt_iff_lt_mul hp).mpr hk
    have k2 : k % (S j).length < (S j).length := Nat.mod_lt _ hp
    refine ⟨sI s 82 k (nI ((tmL (S i) (S j) (S i).length).getD k 0)), ⟨fun z hz => ?_, b2.tr (ag.sI s (by simp) _ _)⟩, ?_⟩
    · by_cases c : z = k
      · subst c; rw [sI_same]
      · rw [sI_other _ _ (Or.inr c)]; exact b1 z (by omega)
    · show lp_X8_times_66 N (nI i) (nI j) p3 (n + 1) (nI k) s = _
      rw [lp_X8_times_66, b2.i (show 61 ∉ [82] by decide), h28, if_neg (n_le (by omega) hk), Gd_c (fin_nI hj (by omega)), n_cl (show j < 2 ^ 31 by omega), (hm j hj).1.1, Gd_c (nz_nI hp (by omega)), n_div (by omega) hp (by omega), nI_rem (by omega) hp (by omega), ix4, ix4, Gd_c (fin_nI (by omega) (by omega)), Gd_c (fin_nI hj (by omega)), Gd_c (nz_nI hp (by omega)), Gd_c (fin_nI (by omega) (by omega)), Gd_c (fin_nI (by omega) (by omega)), Lt_e, n_cl (show 4 * i + k / (S j).length < 2 ^ 31 by omega), n_cl (show 4 * j + k % (S j).length < 2 ^ 31 by omega), n_cl (show k < 2 ^ 31 by omega), (hm i hi).1.2.1 _ k1, (hm j hj).1.2.1 _ k2, xorI, ← tmL_get _ _ _ _ hk, nI_1]) (by
    intro n s ⟨b1, b2⟩
    show lp_X8_times_66 N (nI i) (nI j) p3 (n + 1) (nI ((S i).length * (S j).length)) s = _
    rw [lp_X8_times_66, b2.i (show 61 ∉ [82] by decide), h28, if_pos (y_le (by omega) (Nat.le_refl _))]; rfl) ((S i).length * (S j).length) N 0 σ (by omega) (by omega) ⟨fun z hz => absurd hz (by omega), ag.rf⟩
  refine ⟨s, e, ⟨?_, fun z hz => ?_, ?_, tmL_128 (h i hi).1.2.2.2 (h j hj).1.2.2.2 _⟩, a2⟩
  · rw [a2.i (by decide), h28, tmL_len]
  · rw [tmL_len] at hz; exact a1 z hz
  · rw [tmL_len]; exact hl
theorem o16 {N : Nat} (hN : 200 ≤ N) : op_16 INV N := by
  intro x y z σ hi
  have hi' := hi
  obtain ⟨pg, S, K, n, m, A, M, hw⟩ := hi'
  have hX := hw.2.1
  have hM := hw.2.2.1
  unfold g_X7_times g_X8_times
  rcases hf_or S x with ⟨i, hi8, rfl, hs⟩ | ⟨e1, e2⟩
  · rcases hf_or S y with ⟨j, hj8, rfl, hs2⟩ | ⟨e1, e2⟩
    · rcases sh_or z with ⟨t, ht8, rfl⟩ | ⟨e1, e2⟩
      · have h4 := (hX i hi8).1.2.2.1
        have h5 := (hX j hj8).1.2.2.1
        have h16 : (S i).length * (S j).length ≤ 4 * 4 := Nat.mul_le_mul h4 h5
        have hle : (nI ((S i).length * (S j).length) ≤ (4 : Int32)) ↔ (S i).length * (S j).length ≤ 4 := nI_leI (b := 4) (by omega) (by decide)
        by_cases c : (S i).length * (S j).length ≤ 4
        · obtain ⟨s1, f1, a1, g1⟩ := v_empty (N := N) (k := 4) (σ := σ)
          have hX1 : XS s1 S := hX.of (fun k a b => g1.i (by simp; omega))
          obtain ⟨s2, f2, a2, g2⟩ := tm_X (nI t) hN hj8 (hX1 i hi8).1 (hX1 j hj8).1 c a1
          have g12 := (g1.mono (T := [4, 5]) (by simp)).tr g2
          obtain ⟨s3, f3, x3, m3, f⟩ := stepN hN ht8 hw (qA.x g12 (by decide) (by decide)) (hM.ag g12 (by decide)) a2
          obtain ⟨s4, f4, n4, g4⟩ := tm_M (σ := sI s3 61 28 (nI ((S i).length * (S j).length))) (nI t) hN hi8 hj8 (m3.s61 _ _) hs2 c (sI_same _ _ _ _)
          have g5 : ag [61, 82] s3 s4 := (ag.sI _ (by simp) _ _).tr (g4.mono (by simp))
          have p5 : ∀ k, k ≠ 28 → s4.1 61 k = s3.1 61 k := fun k hk => by rw [g4.i (by decide), sI_other _ _ (Or.inr hk)]
          obtain ⟨s6, f6, i6, _⟩ := f s4 (qA.w g5 p5) n4 (msW m3 g5)
          refine ⟨nI (tmL (S i) (S j) (S i).length).length, s3, s6, ?_, ?_, i6⟩
          · rw [hfX_1 hX hi8 hs, Bd_s, if_neg (by decide), hfX_1 hX hj8 hs2, Bd_s, if_neg (by decide), v_shX ht8, Bd_s, if_neg (by decide), Gd_c (fin_nI hi8 (by omega)), Gd_c (fin_nI hj8 (by omega)), n_cl (by omega), n_cl (by omega), er3, er3, (hX i hi8).1.1, (hX j hj8).1.1, pk_mul, if_pos (hle.mpr c), f1, Bv_s, f2, Bv_s, f3, Bv_s, Gd_c (fin_nI ht8 (by omega)), n_cl (by omega), er3, (x3 t ht8).1.1, updS_i]
          · rw [hfM_1 m3 hi8 hs, Bd_s, if_neg (by decide), hfM_1 m3 hj8 hs2, Bd_s, if_neg (by decide), v_shM ht8, Bd_s, if_neg (by decide), Gd_c (fin_nI hi8 (by omega)), Gd_c (fin_nI hj8 (by omega)), n_cl (by omega), n_cl (by omega), (m3 i hi8).1.1, (m3 j hj8).1.1, pk_mul, if_pos (hle.mpr c), Gd_c (fin_nI hi8 (by omega)), Gd_c (fin_nI hj8 (by omega)), Lt_e, f4, Bv_s, f6, Bd_s]
        · refine ⟨-104, σ, σ, ?_, ?_, hi⟩
          · rw [hfX_1 hX hi8 hs, Bd_s, if_neg (by decide), hfX_1 hX hj8 hs2, Bd_s, if_neg (by decide), v_shX ht8, Bd_s, if_neg (by decide), Gd_c (fin_nI hi8 (by omega)), Gd_c (fin_nI hj8 (by omega)), n_cl (by omega), n_cl (by omega), er3, er3, (hX i hi8).1.1, (hX j hj8).1.1, pk_mul, if_neg (fun z => c (hle.mp z))]
          · rw [hfM_1 hM hi8 hs, Bd_s, if_neg (by decide), hfM_1 hM hj8 hs2, Bd_s, if_neg (by decide), v_shM ht8, Bd_s, if_neg (by decide), Gd_c (fin_nI hi8 (by omega)), Gd_c (fin_nI hj8 (by omega)), n_cl (by omega), n_cl (by omega), (hM i hi8).1.1, (hM j hj8).1.1, pk_mul, if_neg (fun z => c (hle.mp z))]
      · refine ⟨-101, σ, σ, ?_, ?_, hi⟩
        · rw [hfX_1 hX hi8 hs, Bd_s, if_neg (by decide), hfX_1 hX hj8 hs2, Bd_s, if_neg (by decide), e1, Bd_s, if_pos rfl]
        · rw [hfM_1 hM hi8 hs, Bd_s, if_neg (by decide), hfM_1 hM hj8 hs2, Bd_s, if_neg (by decide), e2, Bd_s, if_pos rfl]
    · refine ⟨-101, σ, σ, ?_, ?_, hi⟩
      · rw [hfX_1 hX hi8 hs, Bd_s, if_neg (by decide), e1 N σ hX, Bd_s, if_pos rfl]
      · rw [hfM_1 hM hi8 hs, Bd_s, if_neg (by decide), e2 N σ hM, Bd_s, if_pos rfl]
  · refine ⟨-101, σ, σ, ?_, ?_, hi⟩
    · rw [e1 N σ hX, Bd_s, if_pos rfl]
    · rw [e2 N σ hM, Bd_s, if_pos rfl]
