/-! at, about, like, meets -/
theorem kS_lt {k : Nat} (hk : k < 128) {j : Nat} (hj : j < 7) (v : Nat) : k ^^^ kS j v < 128 := by
  refine xor_lt7 hk ?_
  unfold kS
  split
  · exact Nat.pow_lt_pow_right (n := 7) (by decide) hj
  · decide
theorem kindZ_lt (z : Int) : kindZ z < 128 := by
  unfold kindZ
  rw [kAll_e]
  have h0 : (if z < 0 then 1 else 0) < 128 := by split <;> decide
  exact kS_lt (kS_lt (kS_lt (kS_lt (kS_lt (kS_lt h0 (by decide) _) (by decide) _) (by decide) _) (by decide) _) (by decide) _) (by decide) _
theorem o8 {N : Nat} (hN : 200 ≤ N) : op_8 INV N := by
  intro x t σ hi
  have hi' := hi
  obtain ⟨pg, S, K, n, m, A, M, hw⟩ := hi'
  have hX := hw.2.1
  have hM := hw.2.2.1
  unfold g_X7_at g_X8_at
  rcases ht_or S (fun i hi => (hX i hi).1.2.2.1) x t with ⟨i, j, hi8, rfl, rfl, hj⟩ | ⟨e1, e2⟩
  · have h4 := (hX i hi8).1.2.2.1
    have hl := getD_lt' (hX i hi8).1.2.2.2 j
    refine ⟨cr ((S i).getD j 0), σ, σ, ?_, ?_, hi⟩
    · rw [htX_1 hX hi8 hj, Bd_s, if_neg (by decide), Gd_c (fin_nI hi8 (by omega)), n_cl (by omega), er3, v_kindAt (hX i hi8).1 hj, Bd_s, v_coreX (by omega) hl, Bd_s]
    · rw [htM_1 hM hi8 hj, Bd_s, if_neg (by decide), ix4, Gd_c (fin_nI (by omega) (by omega)), n_cl (by omega), (hM i hi8).1.2.1 j hj, v_coreM (by omega) hl, Bd_s]
  · exact ⟨-101, σ, σ, by rw [e1 N σ hX, Bd_s, if_pos rfl], by rw [e2 N σ hM, Bd_s, if_pos rfl], hi⟩
def abL (S : Nat → List Nat) (i w : Nat) : Nat := if w = 0 then (S i).length else if w = 1 then abvL (S i) else if w = 2 then detL (S i) else if w = 3 then hasL (S i) else if w = 4 then barsL (S i) else if w = 5 then planL (S i) else if w = 6 then rDet (S i) else if w = 7 then rHas (S i) else lstA S i
theorem v_abX {N i w : Nat} {σ : fS} {S : Nat → List Nat} (hN : 200 ≤ N) (h : XS σ S) (hi : i < 8) (hs : S i ≠ []) (hw : w < 9) : ∃ σ', g_X7_about N (nI i) (nI w) σ = some (nI (abL S i w), σ') ∧ ag [16, 17] σ σ' := by
  have hF := (h i hi).F hs
  obtain ⟨s, e, g⟩ := v_rHasX hN hF
  unfold g_X7_about
  rw [hfX_1 h hi hs, Bd_s, if_neg (by decide), if_neg (n_lt0 (by omega)), if_pos (show nI w ≤ (8 : Int32) from y_le (a := 8) (by omega) (by omega)), Gd_c (fin_nI hi (by omega)), n_cl (by omega), er3, hF.1.1, v_abvX hN hF.1, v_detX hN hF.1, hF.2.1, hF.2.2, v_planX hN hF, v_rDetX hN hF, e, v_lstX hN hi hs h]
  have hc : w = 0 ∨ w = 1 ∨ w = 2 ∨ w = 3 ∨ w = 4 ∨ w = 5 ∨ w = 6 ∨ w = 7 ∨ w = 8 := by omega
  rcases hc with rfl | rfl | rfl | rfl | rfl | rfl | rfl | rfl | rfl
  · exact ⟨σ, rfl, ag.rf⟩
  · exact ⟨σ, rfl, ag.rf⟩
  · exact ⟨σ, rfl, ag.rf⟩
  · exact ⟨σ, rfl, ag.rf⟩
  · exact ⟨σ, rfl, ag.rf⟩
  · exact ⟨σ, rfl, ag.rf⟩
  · exact ⟨σ, rfl, ag.rf⟩
  · exact ⟨s, rfl, g⟩
  · exact ⟨σ, rfl, ag.rf⟩
theorem v_abM {N i w : Nat} {σ : fS} {S : Nat → List Nat} (hN : 200 ≤ N) (h : MS σ S) (hi : i < 8) (hw : w < 9) : ∃ σ', g_X8_aboutNow N (nI i) (nI w) σ = some (nI (abL S i w), σ') ∧ MS σ' S ∧ qM σ σ' := by
  have hF := (h i hi).1
  obtain ⟨s3, e3, m3, q3⟩ := v_hasM hN hi h
  obtain ⟨s4, e4, m4, q4⟩ := v_brM hN hi h
  obtain ⟨s5, e5, m5, q5⟩ := v_planM hN hi h
  obtain ⟨s6, e6, m6, q6⟩ := v_rDetM hN hi h
  obtain ⟨s7, e7, m7, q7⟩ := v_rHasM hN hi h
  obtain ⟨s8, e8, m8, q8⟩ := v_lstM hN hi h
  unfold g_X8_aboutNow
  rw [Gd_c (fin_nI hi (by omega)), n_cl (by omega), hF.1, v_abvM hN hi hF, v_detM hN hi hF, e3, e4, e5, e6, e7, e8]
  have hc : w = 0 ∨ w = 1 ∨ w = 2 ∨ w = 3 ∨ w = 4 ∨ w = 5 ∨ w = 6 ∨ w = 7 ∨ w = 8 := by omega
  rcases hc with rfl | rfl | rfl | rfl | rfl | rfl | rfl | rfl | rfl
  · exact ⟨σ, rfl, h, qM.rf⟩
  · exact ⟨σ, rfl, h, qM.rf⟩
  · exact ⟨σ, rfl, h, qM.rf⟩
  · exact ⟨s3, rfl, m3, q3⟩
  · exact ⟨s4, rfl, m4, q4⟩
  · exact ⟨s5, rfl, m5, q5⟩
  · exact ⟨s6, rfl, m6, q6⟩
  · exact ⟨s7, rfl, m7, q7⟩
  · exact ⟨s8, rfl, m8, q8⟩
theorem o9 {N : Nat} (hN : 200 ≤ N) : op_9 INV N := by
  intro x t σ hi
  have hi' := hi
  obtain ⟨pg, S, K, n, m, A, M, hw⟩ := hi'
  have hX := hw.2.1
  have hM := hw.2.2.1
  rcases hf_or S x with ⟨i, hi8, rfl, hs⟩ | ⟨e1, e2⟩
  · rcases in_or t 9 (by omega) with ⟨w, hw9, rfl⟩ | ⟨h1, h2⟩
    · obtain ⟨s1, f1, g1⟩ := v_abX hN hX hi8 hs hw9
      obtain ⟨s2, f2, m2, q2⟩ := v_abM hN (hM.ag g1 (by decide)) hi8 hw9
      refine ⟨_, s1, s2, f1, ?_, pg, S, K, n, m, A, M, hw.q ((qA.x g1 (by decide) (by decide)).tr q2.A) m2⟩
      unfold g_X8_about
      rw [hfM_1 (hM.ag g1 (by decide)) hi8 hs, Bd_s, if_neg (by decide), v_within, if_pos ⟨n_ge0 (by omega), show nI w ≤ (8 : Int32) from y_le (a := 8) (by omega) (by omega)⟩, Bd_s, if_neg (by decide), f2, Bd_s]
    · refine ⟨-102, σ, σ, ?_, ?_, hi⟩
      · unfold g_X7_about
        rw [hfX_1 hX hi8 hs, Bd_s, if_neg (by decide)]
        rcases h1 with c | ⟨c, c'⟩
        · rw [if_pos c]
        · rw [if_neg c, if_neg (show ¬ t ≤ (8 : Int32) from fun z => h2 ⟨Int32.not_lt.mp c, z⟩)]
      · unfold g_X8_about
        rw [hfM_1 hM hi8 hs, Bd_s, if_neg (by decide), v_within, if_neg (show ¬ ((0 : Int32) ≤ t ∧ t ≤ 8) from h2), Bd_s, if_pos rfl]
  · refine ⟨-101, σ, σ, ?_, ?_, hi⟩
    · unfold g_X7_about; rw [e1 N σ hX, Bd_s, if_pos rfl]
    · unfold g_X8_about; rw [e2 N σ hM, Bd_s, if_pos rfl]
theorem o10 {N : Nat} (hN : 200 ≤ N) : op_10 INV N := by
  intro x y σ hi
  have hi' := hi
  obtain ⟨pg, S, K, n, m, A, M, hw⟩ := hi'
  have hX := hw.2.1
  have hM := hw.2.2.1
  unfold g_X7_like g_X8_like
  rcases hf_or S x with ⟨i, hi8, rfl, hs⟩ | ⟨e1, e2⟩
  · rcases hf_or S y with ⟨j, hj8, rfl, hs2⟩ | ⟨e1, e2⟩
    · obtain ⟨s1, f1, g1⟩ := v_unlX hN ((hX i hi8).F hs) ((hX j hj8).F hs2)
      have hM1 := hM.ag g1 (by decide)
      obtain ⟨s2, f2, m2, q2⟩ := v_unlM hN hi8 hj8 hM1
      refine ⟨nI (unlL (S i) (S j)), s1, s2, ?_, ?_, pg, S, K, n, m, A, M, hw.q ((qA.x g1 (by decide) (by decide)).tr q2.A) m2⟩
      · rw [hfX_1 hX hi8 hs, Bd_s, if_neg (by decide), hfX_1 hX hj8 hs2, Bd_s, if_neg (by decide), Gd_c (fin_nI hi8 (by omega)), Gd_c (fin_nI hj8 (by omega)), n_cl (by omega), n_cl (by omega), er3, er3, f1, Bd_s]
      · rw [hfM_1 hM1 hi8 hs, Bd_s, if_neg (by decide), hfM_1 hM1 hj8 hs2, Bd_s, if_neg (by decide), f2, Bd_s]
    · refine ⟨-101, σ, σ, ?_, ?_, hi⟩
      · rw [hfX_1 hX hi8 hs, Bd_s, if_neg (by decide), e1 N σ hX, Bd_s, if_pos rfl]
      · rw [hfM_1 hM hi8 hs, Bd_s, if_neg (by decide), e2 N σ hM, Bd_s, if_pos rfl]
  · refine ⟨-101, σ, σ, ?_, ?_, hi⟩
    · rw [e1 N σ hX, Bd_s, if_pos rfl]
    · rw [e2 N σ hM, Bd_s, if_pos rfl]
/-! a FORM against a NUMBER -/
def agn (l : List Nat) (x : Int32) : List Nat := l ++ [kindZ x.toInt ^^^ 1]
theorem v_agX {N k : Nat} {σ : fS} {l : List Nat} {x : Int32} (hN : 200 ≤ N) (h : fr0 σ k l) (hx : numB x = true) (hk : k ∉ [16, 17] ∧ k + 1 ∉ [16, 17]) : ∃ σ', g_X7_startAgainst N k x σ = some σ' ∧ sm σ' (agn l x) ∧ ag [16, 17] σ σ' := by
  obtain ⟨hz, h0, h1, h2⟩ := num_z hx
  obtain ⟨s1, e1, a1, g1⟩ := v_start (N := N) (σ := σ)
  have h4 := h.2.2.1
  obtain ⟨s2, e2, a2, g2⟩ := v_addAll hN a1 (h.ag g1 hk.1 hk.2) (by simp; omega) hk
  obtain ⟨s3, e3, a3, g3⟩ := v_sadd (a := kindZ x.toInt ^^^ 1) hN a2 (by simp; omega) (xor_lt7 (kindZ_lt _) (by decide))
  refine ⟨s3, ?_, ?_, (g1.tr g2).tr g3⟩
  · unfold g_X7_startAgainst
    rw [e1, Bv_s, e2, Bv_s]
    conv => lhs; rw [hz]
    rw [v_kindX (by omega) h0 (by omega) (by omega), Bd_s, show nI (kindZ x.toInt) ^^^ (1 : Int32) = nI (kindZ x.toInt ^^^ 1) from xorI _ 1, e3, Bv_s]
  · simpa [agn] using a3
theorem v_more {N k : Nat} {σ : fS} {l : List Nat} (h : lk σ l) (hl : l.length ≤ 4) (hk : k < 128) : ∃ σ', g_X8_lookMore N (nI k) σ = some σ' ∧ lk σ' (l ++ [k ^^^ 1]) ∧ ag [61, 77] σ σ' ∧ (∀ i, i ≠ 21 → σ'.1 61 i = σ.1 61 i) := by
  have e : g_X8_lookMore N (nI k) σ = some (sI (sI σ 77 l.length (nI (k ^^^ 1))) 61 21 (nI (l.length + 1))) := by
    unfold g_X8_lookMore
    rw [h.1, Gd_c (fin_nI (by omega) (by omega)), Lt_e, n_cl (by omega), show nI k ^^^ (1 : Int32) = nI (k ^^^ 1) from xorI _ 1, sI_other _ _ (Or.inl (by decide)), h.1, nI_1, Lt_e]
  refine ⟨_, e, ⟨?_, ?_, ?_, ?_⟩, (ag.sI _ (by simp) _ _).tr (ag.sI _ (by simp) _ _), ?_⟩
  · rw [sI_same]; simp
  · intro i hi
    rw [sI_other _ _ (Or.inl (by decide))]
    simp at hi
    by_cases c : i = l.length
    · subst c; rw [sI_same, getD_snoc_eq]
    · rw [sI_other _ _ (Or.inr c), h.2.1 i (by omega), getD_snoc_lt (by omega)]
  · simp; omega
  · intro a ha
    simp at ha
    rcases ha with ha | rfl
    · exact h.2.2.2 a ha
    · exact xor_lt7 hk (by decide)
  · intro i hi
    rw [sI_other _ _ (Or.inr hi), sI_other _ _ (Or.inl (by decide))]
theorem v_agM {N i : Nat} {σ : fS} {S : Nat → List Nat} {x : Int32} (hN : 200 ≤ N) (hi : i < 8) (h : MS σ S) (hx : numB x = true) : ∃ σ1 σ2, g_X8_lookAt N (nI i) σ = some σ1 ∧ g_X8_kindOf N x σ1 = some (nI (kindZ x.toInt), σ1) ∧ g_X8_lookMore N (nI (kindZ x.toInt)) σ1 = some σ2 ∧ lk σ2 (agn (S i) x) ∧ ag [61, 77] σ σ2 ∧ (∀ j, j ≠ 21 → σ2.1 61 j = σ.1 61 j) := by
  obtain ⟨hz, h0, h1, h2⟩ := num_z hx
  obtain ⟨s1, e1, a1, g1, p1⟩ := v_lookAt hN hi h
  obtain ⟨s2, e2, a2, g2, p2⟩ := v_more (N := N) a1 (h i hi).1.2.2.1 (kindZ_lt x.toInt)
  refine ⟨s1, s2, e1, ?_, e2, a2, g1.tr g2, fun j hj => (p2 j hj).trans (p1 j hj)⟩
  conv => lhs; rw [hz]
  rw [v_kindM (by omega) h0 (by omega) (by omega)]
theorem sh_out {i : Nat} : 21 + 2 * i ∉ [16, 17] ∧ 21 + 2 * i + 1 ∉ [16, 17] := by simp; omega
theorem o11 {N : Nat} (hN : 200 ≤ N) : op_11 INV N := by
  intro x y σ hi
  have hi' := hi
  obtain ⟨pg, S, K, n, m, A, M, hw⟩ := hi'
  have hX := hw.2.1
  have hM := hw.2.2.1
  unfold g_X7_meets g_X8_meets
  rcases hf_or S x with ⟨i, hi8, rfl, hs⟩ | ⟨e1, e2⟩
  · by_cases c : numB y = true
    · obtain ⟨s1, f1, a1, g1⟩ := v_agX hN (hX i hi8).1 c sh_out
      have hM1 := hM.ag g1 (by decide)
      obtain ⟨s2, s3, f2, f3, f4, a4, g4, p4⟩ := v_agM hN hi8 hM1 c
      obtain ⟨s5, f5, g5⟩ := v_barsM hN a4
      refine ⟨nI (barsL (agn (S i) y)), s1, s5, ?_, ?_, pg, S, K, n, m, A, M, hw.q (((qA.x g1 (by decide) (by decide)).tr (qA.m g4 (by decide) p4)).tr (qA.x g5 (by decide) (by decide))) ((hM1.ag g4 (by decide)).ag g5 (by decide))⟩
      · rw [hfX_1 hX hi8 hs, Bd_s, if_neg (by decide), v_isNumX (by omega), if_pos c, Bd_s, if_neg (by decide), Gd_c (fin_nI hi8 (by omega)), n_cl (by omega), er3, f1, Bv_s, v_barsX hN a1, Bd_s]
      · rw [hfM_1 hM1 hi8 hs, Bd_s, if_neg (by decide), v_isNumM (by omega), if_pos c, Bd_s, if_neg (by decide)]
        unfold g_X8_meetsNow
        rw [f2, Bv_s, f3, Bd_s, f4, Bv_s, f5, Bd_s, Bd_s]
    · refine ⟨-102, σ, σ, ?_, ?_, hi⟩
      · rw [hfX_1 hX hi8 hs, Bd_s, if_neg (by decide), v_isNumX (by omega), if_neg c, Bd_s, if_pos rfl]
      · rw [hfM_1 hM hi8 hs, Bd_s, if_neg (by decide), v_isNumM (by omega), if_neg c, Bd_s, if_pos rfl]
  · refine ⟨-101, σ, σ, ?_, ?_, hi⟩
    · rw [e1 N σ hX, Bd_s, if_pos rfl]
    · rw [e2 N σ hM, Bd_s, if_pos rfl]
