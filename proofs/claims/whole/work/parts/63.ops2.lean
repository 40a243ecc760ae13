/-! what is made new, in the reference -/
theorem qA.w {σ τ : fS} (h : ag [61, 82] σ τ) (h61 : ∀ i, i ≠ 28 → τ.1 61 i = σ.1 61 i) : qA σ τ := ⟨h.mono (by decide), fun i _ _ c => h61 i c⟩
theorem v_take {N i : Nat} {σ : fS} {S : Nat → List Nat} (hN : 200 ≤ N) (hi : i < 8) (h : MS σ S) : ∃ σ', g_X8_take N (nI i) σ = some σ' ∧ NW σ' (S i) ∧ ag [61, 82] σ σ' ∧ (∀ j, j ≠ 28 → σ'.1 61 j = σ.1 61 j) := by
  obtain ⟨h1, h2, h3, h4⟩ := (h i hi).1
  obtain ⟨s, ⟨a1, a2⟩, e⟩ := lpU (fun n x s => lp_X8_take_12 N (nI i) n x s) 4 (fun k s => (∀ x, x < k → s.1 82 x = σ.1 63 (4 * i + x)) ∧ ag [82] (sI σ 61 28 (nI (S i).length)) s) id (by
    intro n k s hk ⟨b1, b2⟩
    refine ⟨sI s 82 k (σ.1 63 (4 * i + k)), ⟨fun x hx => ?_, b2.tr (ag.sI s (by simp) _ _)⟩, ?_⟩
    · by_cases c : x = k
      · subst c; rw [sI_same]
      · rw [sI_other _ _ (Or.inr c)]; exact b1 x (by omega)
    · show lp_X8_take_12 N (nI i) (n + 1) (nI k) s = _
      rw [lp_X8_take_12, if_neg (show ¬ (4 : Int32) ≤ nI k from n_le (b := 4) (by omega) hk), ix4, Gd_c (fin_nI (by omega) (by omega)), Gd_c (fin_nI hk (by omega)), Lt_e, n_cl (by omega), n_cl (by omega), b2.i (by decide), sI_other _ _ (Or.inl (by decide)), nI_1]) (by
    intro n s _
    show lp_X8_take_12 N (nI i) (n + 1) (nI 4) s = _
    rw [lp_X8_take_12, if_pos (by decide)]; rfl) 4 N 0 (sI σ 61 28 (nI (S i).length)) (by omega) (by omega) ⟨fun x hx => absurd hx (by omega), ag.rf⟩
  refine ⟨s, ?_, ⟨?_, fun x hx => ?_, h3, h4⟩, (ag.sI _ (by simp) _ _).tr (a2.mono (by simp)), fun j hj => ?_⟩
  · unfold g_X8_take
    rw [Gd_c (fin_nI hi (by omega)), n_cl (by omega), h1, Lt_e, show lp_X8_take_12 N (nI i) N 0 (sI σ 61 28 (nI (S i).length)) = _ from e]; rfl
  · rw [a2.i (by decide), sI_same]
  · rw [a1 x (by omega)]; exact h2 x hx
  · rw [a2.i (by decide), sI_other _ _ (Or.inr hj)]
theorem NW.snoc {σ : fS} {d : List Nat} {a : Nat} (h : NW σ d) (hl : d.length < 4) (ha : a < 128) : NW (sI (sI σ 82 d.length (nI a)) 61 28 (nI (d.length + 1))) (d ++ [a]) := by
  refine ⟨?_, fun e he => ?_, by simp; omega, ?_⟩
  · rw [sI_same]; simp
  · simp at he
    rw [sI_other _ _ (Or.inl (by decide))]
    by_cases c : e = d.length
    · subst c; rw [sI_same, getD_snoc_eq]
    · rw [sI_other _ _ (Or.inr c), getD_snoc_lt (by omega)]; exact h.2.1 e (by omega)
  · intro x hx
    simp at hx
    rcases hx with hx | rfl
    · exact h.2.2.2 x hx
    · exact ha
theorem msW {S : Nat → List Nat} {σ τ : fS} (h : MS σ S) (g : ag [61, 82] σ τ) : MS τ S := h.ag g (by decide)
/-! join -/
theorem jn_M {N j : Nat} {σ : fS} {S : Nat → List Nat} {d : List Nat} (p3 : Int32) (hN : 200 ≤ N) (hj : j < 8) (h : MS σ S) (hd : NW σ d) (hl : d.length + (S j).length ≤ 4) : ∃ σ', lp_X8_join_54 N (nI j) p3 N 0 σ = some σ' ∧ NW σ' (d ++ S j) ∧ ag [61, 82] σ σ' ∧ (∀ i, i ≠ 28 → σ'.1 61 i = σ.1 61 i) := by
  obtain ⟨s, ⟨a1, a2, a3⟩, e⟩ := lpU (fun n x s => lp_X8_join_54 N (nI j) p3 n x s) (S j).length (fun k s => NW s (d ++ (S j).take k) ∧ ag [61, 82] σ s ∧ (∀ i, i ≠ 28 → s.1 61 i = σ.1 61 i)) id (by
    intro n k s hk ⟨b1, b2, b3⟩
    have hm := (msW h b2 j hj).1
    have hlen : (d ++ (S j).take k).length = d.length + k := by simp; omega
    have hg := getD_lt hm.2.2.2 hk
    refine ⟨sI (sI s 82 (d.length + k) (nI ((S j).getD k 0))) 61 28 (nI (d.length + k + 1)), ⟨?_, ?_, ?_⟩, ?_⟩
    · rw [take_snoc hk, ← List.append_assoc]
      have := b1.snoc (by omega) hg
      rw [hlen] at this; exact this
    · exact (b2.tr (ag.sI _ (by simp) _ _)).tr (ag.sI _ (by simp) _ _)
    · intro i hi; rw [sI_other _ _ (Or.inr hi), sI_other _ _ (Or.inl (by decide))]; exact b3 i hi
    · show lp_X8_join_54 N (nI j) p3 (n + 1) (nI k) s = _
      have h28 := b1.1
      rw [hlen] at h28
      rw [lp_X8_join_54, Gd_c (fin_nI hj (by omega)), n_cl (by omega), hm.1, if_neg (n_le (by omega) hk), ix4, Gd_c (fin_nI (by omega) (by omega)), h28, Gd_c (fin_nI (by omega) (by omega)), Lt_e, n_cl (by omega), n_cl (by omega), hm.2.1 k hk, sI_other _ _ (Or.inl (by decide)), h28, nI_1, nI_1, Lt_e]) (by
    intro n s ⟨b1, b2, b3⟩
    have hm := (msW h b2 j hj).1
    show lp_X8_join_54 N (nI j) p3 (n + 1) (nI (S j).length) s = _
    rw [lp_X8_join_54, Gd_c (fin_nI hj (by omega)), n_cl (by omega), hm.1, if_pos (y_le (by omega) (Nat.le_refl _))]; rfl) (S j).length N 0 σ (by omega) (by omega) ⟨by simpa using hd, ag.rf, fun _ _ => rfl⟩
  rw [List.take_length] at a1
  exact ⟨s, e, a1, a2, a3⟩
theorem o15 {N : Nat} (hN : 200 ≤ N) : op_15 INV N := by
  intro x y z σ hi
  have hi' := hi
  obtain ⟨pg, S, K, n, m, A, M, hw⟩ := hi'
  have hX := hw.2.1
  have hM := hw.2.2.1
  unfold g_X7_join g_X8_join
  rcases hf_or S x with ⟨i, hi8, rfl, hs⟩ | ⟨e1, e2⟩
  · rcases hf_or S y with ⟨j, hj8, rfl, hs2⟩ | ⟨e1, e2⟩
    · rcases sh_or z with ⟨t, ht8, rfl⟩ | ⟨e1, e2⟩
      · have h4 := (hX i hi8).1.2.2.1
        have h5 := (hX j hj8).1.2.2.1
        have hle : (nI ((S i).length + (S j).length) ≤ (4 : Int32)) ↔ (S i).length + (S j).length ≤ 4 := nI_leI (b := 4) (by omega) (by decide)
        by_cases c : (S i).length + (S j).length ≤ 4
        · obtain ⟨s1, f1, c1, c2, c3, c4, g1⟩ := v_copy (N := N) (σ := σ) (k := 4) (k1 := 21 + 2 * i) hN (by omega)
          have hX1 : XS s1 S := hX.of (fun k a b => g1.i (by simp; omega))
          obtain ⟨s2, f2, a2, g2⟩ := v_addTimes (c := 0) (k := 4) (k1 := 21 + 2 * j) hN (frK_copy (hX i hi8) c1 c2 c3 c4).1 (hX1 j hj8).1 c (by decide) (by omega)
          have a2' : fr0 s2 4 (S i ++ S j) := by simpa using a2
          have g12 := g1.tr g2
          obtain ⟨s3, f3, x3, m3, f⟩ := stepN hN ht8 hw (qA.x g12 (by decide) (by decide)) (hM.ag g12 (by decide)) a2'
          obtain ⟨s4, f4, n4, g4, p4⟩ := v_take hN hi8 m3
          obtain ⟨s5, f5, n5, g5, p5⟩ := jn_M (nI t) hN hj8 (msW m3 g4) n4 c
          obtain ⟨s6, f6, i6, _⟩ := f s5 ((qA.w g4 p4).tr (qA.w g5 p5)) n5 (msW (msW m3 g4) g5)
          refine ⟨nI (S i ++ S j).length, s3, s6, ?_, ?_, i6⟩
          · rw [hfX_1 hX hi8 hs, Bd_s, if_neg (by decide), hfX_1 hX hj8 hs2, Bd_s, if_neg (by decide), v_shX ht8, Bd_s, if_neg (by decide), Gd_c (fin_nI hi8 (by omega)), Gd_c (fin_nI hj8 (by omega)), n_cl (by omega), n_cl (by omega), er3, er3, (hX i hi8).1.1, (hX j hj8).1.1, nI_add, if_pos (hle.mpr c), Gd_c (fin_nI hi8 (by omega)), f1, Bv_s, Gd_c (fin_nI hj8 (by omega)), show g_X0_addTimes N 4 (21 + 2 * j) 0 s1 = some s2 from f2, Bv_s, f3, Bv_s, Gd_c (fin_nI ht8 (by omega)), n_cl (by omega), er3, (x3 t ht8).1.1, updS_i]
          · rw [hfM_1 m3 hi8 hs, Bd_s, if_neg (by decide), hfM_1 m3 hj8 hs2, Bd_s, if_neg (by decide), v_shM ht8, Bd_s, if_neg (by decide), Gd_c (fin_nI hi8 (by omega)), Gd_c (fin_nI hj8 (by omega)), n_cl (by omega), n_cl (by omega), (m3 i hi8).1.1, (m3 j hj8).1.1, nI_add, if_pos (hle.mpr c), f4, Bv_s, f5, Bv_s, f6, Bd_s]
        · refine ⟨-104, σ, σ, ?_, ?_, hi⟩
          · rw [hfX_1 hX hi8 hs, Bd_s, if_neg (by decide), hfX_1 hX hj8 hs2, Bd_s, if_neg (by decide), v_shX ht8, Bd_s, if_neg (by decide), Gd_c (fin_nI hi8 (by omega)), Gd_c (fin_nI hj8 (by omega)), n_cl (by omega), n_cl (by omega), er3, er3, (hX i hi8).1.1, (hX j hj8).1.1, nI_add, if_neg (fun z => c (hle.mp z))]
          · rw [hfM_1 hM hi8 hs, Bd_s, if_neg (by decide), hfM_1 hM hj8 hs2, Bd_s, if_neg (by decide), v_shM ht8, Bd_s, if_neg (by decide), Gd_c (fin_nI hi8 (by omega)), Gd_c (fin_nI hj8 (by omega)), n_cl (by omega), n_cl (by omega), (hM i hi8).1.1, (hM j hj8).1.1, nI_add, if_neg (fun z => c (hle.mp z))]
      · refine ⟨-101, σ, σ, ?_, ?_, hi⟩
        · rw [hfX_1 hX hi8 hs, Bd_s, if_neg (by decide), hfX_1 hX hj8 hs2, Bd_s, if_neg (by decide), e1, Bd_s, if_pos rfl]
        · rw [hfM_1 hM hi8 hs, Bd_s, if_neg (by decide), hfM_1 hM hj8 hs2, Bd_s, if_neg (by decide), e2, Bd_s, if_pos rfl]
    · refine ⟨-101, σ, σ, ?_, ?_, hi⟩
      · rw [hfX_1 hX hi8 hs, Bd_s, if_neg (by decide), e1 N σ hX, Bd_s, if_pos rfl]
      · rw [hfM_1 hM hi8 hs, Bd_s, if_neg (by decide), e2 N σ hM, Bd_s, if_pos rfl]
  · refine ⟨-101, σ, σ, ?_, ?_, hi⟩
    · rw [e1 N σ hX, Bd_s, if_pos rfl]
    · rw [e2 N σ hM, Bd_s, if_pos rfl]
