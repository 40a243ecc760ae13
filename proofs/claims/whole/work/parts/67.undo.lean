/-! undo -/
theorem v_floB {N n : Nat} {σ : fS} (hn : n < 12) : g_J9_floorMod_7cf53 N (nI n - 1) 12 σ = some (nI ((n + 11) % 12), σ) := by
  have h : ∀ n, n < 12 → nz (12 : Int32) = true ∧ (if (0 : Int32) ≤ ((nI n - 1) ^^^ 12) then iR (nI n - 1) 12 else if iR (nI n - 1) 12 = 0 then iR (nI n - 1) 12 else iR (nI n - 1) 12 + 12) = nI ((n + 11) % 12) := by decide +kernel
  obtain ⟨h1, h2⟩ := h n hn
  unfold g_J9_floorMod_7cf53
  rw [Gd_c h1, Lt_e, ← h2]
  split
  · rfl
  · split <;> rfl
theorem un_M {N i L : Nat} {σ : fS} (hN : 200 ≤ N) (hi : i < 8) (hL : L < 12) (h7 : σ.1 61 7 = nI L) : ∃ σ', lp_X8_undo_57 N (nI i) N 0 σ = some σ' ∧ (∀ e, e < 4 → σ'.1 63 (4 * i + e) = σ.1 70 (4 * L + e)) ∧ (∀ x, x < 4 * i ∨ 4 * i + 4 ≤ x → σ'.1 63 x = σ.1 63 x) ∧ ag [63] σ σ' := by
  obtain ⟨s, ⟨a1, a2, a3⟩, e⟩ := lpU (fun n x s => lp_X8_undo_57 N (nI i) n x s) 4 (fun k s => (∀ e, e < k → s.1 63 (4 * i + e) = σ.1 70 (4 * L + e)) ∧ (∀ x, x < 4 * i ∨ 4 * i + 4 ≤ x → s.1 63 x = σ.1 63 x) ∧ ag [63] σ s) id (by
    intro n k s hk ⟨b1, b2, b3⟩
    refine ⟨sI s 63 (4 * i + k) (σ.1 70 (4 * L + k)), ⟨fun x hx => ?_, fun x hx => ?_, b3.tr (ag.sI s (by simp) _ _)⟩, ?_⟩
    · by_cases c : x = k
      · subst c; rw [sI_same]
      · rw [sI_other _ _ (Or.inr (by omega))]; exact b1 x (by omega)
    · rw [sI_other _ _ (Or.inr (by omega))]; exact b2 x hx
    · show lp_X8_undo_57 N (nI i) (n + 1) (nI k) s = _
      rw [lp_X8_undo_57, if_neg (show ¬ (4 : Int32) ≤ nI k from n_le (b := 4) (by omega) hk), b3.i (show 61 ∉ [63] by decide), h7, ix4, ix4, Gd_c (fin_nI (by omega) (by omega)), Gd_c (fin_nI (by omega) (by omega)), Lt_e, n_cl (show 4 * i + k < 2 ^ 31 by omega), n_cl (show 4 * L + k < 2 ^ 31 by omega), b3.i (show 70 ∉ [63] by decide), nI_1]) (by
    intro n s _
    show lp_X8_undo_57 N (nI i) (n + 1) (nI 4) s = _
    rw [lp_X8_undo_57, if_pos (by decide)]; rfl) 4 N 0 σ (by omega) (by omega) ⟨fun e he => absurd he (by omega), fun x _ => rfl, ag.rf⟩
  exact ⟨s, e, a1, a2, a3⟩
theorem o20 {N : Nat} (hN : 200 ≤ N) : op_20 INV N := by
  intro σ hi
  have hi' := hi
  obtain ⟨pg, S, K, n, m, A, M, hw⟩ := hi'
  obtain ⟨hP, hX, hM, hK, hKM, hB, hC, hS⟩ := hw
  obtain ⟨nx, hn, k1, k2, k3⟩ := hK
  have hlen := hB.1
  by_cases c : K.length = 0
  · refine ⟨-103, σ, σ, ?_, ?_, hi⟩
    · unfold g_X7_undo; rw [k2, c, if_pos (by decide)]
    · unfold g_X8_undo; rw [hKM.1, c, if_pos (by decide)]
  · have hL : K.length - 1 < 12 := by omega
    have hr : rp nx K.length (K.length - 1) = (nx + 11) % 12 := by unfold rp; omega
    have hr12 : (nx + 11) % 12 < 12 := Nat.mod_lt _ (by decide)
    obtain ⟨q1, q2⟩ := k3 (K.length - 1) (by omega)
    rw [hr] at q1 q2
    obtain ⟨d1, d2⟩ := hB.d (K.length - 1)
    obtain ⟨w1, w2, w3⟩ := hKM.2 (K.length - 1) (by omega)
    revert q1 q2 d1 d2 w1 w2 w3
    generalize hq : K.getD (K.length - 1) (0, []) = q
    obtain ⟨i, l⟩ := q
    intro q1 q2 hi8 hl4 w1 w2 w3
    simp only at q1 q2 hi8 hl4 w1 w2 w3
    obtain ⟨s1, f1, a1, a2, a3, a4, g1⟩ := v_copy (N := N) (σ := σ) (k := 4) (k1 := 37 + 2 * ((nx + 11) % 12)) hN (by omega)
    have hF1 : frK s1 4 l := frK_copy q2 a1 a2 a3 a4
    have c6 : ∀ j, s1.1 6 j = σ.1 6 j := fun j => by rw [g1.i (by decide)]
    generalize hs2 : sI (sI (sI s1 6 2 (nI ((nx + 11) % 12))) 6 3 (nI (K.length - 1))) 6 5 (σ.1 6 5 + 1) = s2
    have g2 : ag [6] s1 s2 := by rw [← hs2]; exact ((ag.sI _ (by simp) _ _).tr (ag.sI _ (by simp) _ _)).tr (ag.sI _ (by simp) _ _)
    have hF2 : frK s2 4 l := hF1.of (g2.i (by decide)) (g2.i (by decide))
    obtain ⟨s3, f3, b1, b2, b3, b4, g3⟩ := v_copy (N := N) (σ := s2) (k := 21 + 2 * i) (k1 := 4) hN (by omega)
    have hF3 : frK s3 (21 + 2 * i) l := frK_copy hF2 b1 b2 b3 b4
    have eX : g_X7_undo N σ = some (nI i, s3) := by
      unfold g_X7_undo g_X5_takeBack
      rw [k2, if_neg (fun z => c ((n_eq0 (by omega)).mp z)), if_pos (show (0 : Int32) < nI K.length from (nI_ltI (a := 0) (by decide) (by omega)).mpr (by omega)), k1, v_floB hn, Bd_s, Gd_c (fin_nI hr12 (by omega)), n_cl (by omega), er8, f1, Bv_s, Lt_e, sI_other _ _ (Or.inr (by decide)), c6, k2, n_sub1 (by omega), Lt_e, sI_other _ _ (Or.inr (by decide)), sI_other _ _ (Or.inr (by decide)), c6, Lt_e, Gd_c (fin_nI hr12 (by omega)), hs2, g2.i (by decide), g1.i (by decide), q1, Bd_s, v_shX hi8, Bd_s, if_neg (by decide), Gd_c (fin_nI hi8 (by omega)), n_cl (by omega), er3, f3, Bv_s]
    have o3 : ∀ k, k ≠ 4 → k ≠ 5 → k ≠ 6 → k ≠ 21 + 2 * i → k ≠ 21 + 2 * i + 1 → s3.1 k = σ.1 k := fun k h1 h2 h3 h4 h5 => by
      rw [g3.i (by simp; omega), g2.i (by simp; omega), g1.i (by simp; omega)]
    have o3l : s3.2 14 = σ.2 14 := by rw [g3.l (by simp; omega), g2.l (by decide), g1.l (by decide)]
    generalize ht1 : sI (sI (sI s3 61 7 (nI (K.length - 1))) 61 12 (σ.1 61 12 + 1)) 62 i (nI l.length) = t1
    have t61 : ∀ j, t1.1 61 j = if j = 12 then σ.1 61 12 + 1 else if j = 7 then nI (K.length - 1) else σ.1 61 j := fun j => by
      rw [← ht1, sI_other _ _ (Or.inl (by decide))]
      by_cases e12 : j = 12
      · subst e12; rw [sI_same, if_pos rfl]
      · rw [sI_other _ _ (Or.inr e12), if_neg e12]
        by_cases e7 : j = 7
        · subst e7; rw [sI_same, if_pos rfl]
        · rw [sI_other _ _ (Or.inr e7), if_neg e7, o3 61 (by decide) (by decide) (by decide) (by omega) (by omega)]
    have ot : ∀ k, k ≠ 61 → k ≠ 62 → t1.1 k = s3.1 k := fun k h1 h2 => by
      rw [← ht1]; funext z; rw [sI_other _ _ (Or.inl h2), sI_other _ _ (Or.inl h1), sI_other _ _ (Or.inl h1)]
    obtain ⟨t2, f4, u1, u2, g4⟩ := un_M (σ := t1) hN hi8 hL (by rw [t61, if_neg (by decide), if_pos rfl])
    have eM : g_X8_undo N s3 = some (nI i, sI t2 64 i 0) := by
      have e61 : s3.1 61 = σ.1 61 := o3 61 (by decide) (by decide) (by decide) (by omega) (by omega)
      have e68 : s3.1 68 = σ.1 68 := o3 68 (by decide) (by decide) (by decide) (by omega) (by omega)
      have e69 : s3.1 69 = σ.1 69 := o3 69 (by decide) (by decide) (by decide) (by omega) (by omega)
      unfold g_X8_undo
      rw [e61, hKM.1, if_neg (fun z => c ((n_eq0 (by omega)).mp z)), n_sub1 (by omega), Lt_e, sI_other _ _ (Or.inr (show (12 : Nat) ≠ 7 by decide)), e61, Lt_e, sI_other _ _ (Or.inr (show (7 : Nat) ≠ 12 by decide)), sI_same, Gd_c (fin_nI hL (by omega)), Lt_e, n_cl (show K.length - 1 < 2 ^ 31 by omega), sI_other _ _ (Or.inl (show (68 : Nat) ≠ 61 by decide)), sI_other _ _ (Or.inl (show (68 : Nat) ≠ 61 by decide)), e68, w1, Gd_c (fin_nI hL (by omega)), Gd_c (fin_nI hi8 (by omega)), Lt_e, n_cl (show i < 2 ^ 31 by omega), sI_other _ _ (Or.inl (show (69 : Nat) ≠ 61 by decide)), sI_other _ _ (Or.inl (show (69 : Nat) ≠ 61 by decide)), e69, w2, ht1, f4, Bv_s, Gd_c (fin_nI hi8 (by omega)), Lt_e]
    have o4 : ∀ k, k ≠ 63 → k ≠ 64 → (sI t2 64 i 0).1 k = t1.1 k := fun k h1 h2 => by
      funext z; rw [sI_other _ _ (Or.inl h2), g4.i (by simpa using h1)]
    have oo : ∀ k, k ≠ 61 → k ≠ 62 → k ≠ 63 → k ≠ 64 → (sI t2 64 i 0).1 k = s3.1 k := fun k h1 h2 h3 h4 => by rw [o4 k h3 h4, ot k h1 h2]
    have o61 : ∀ j, (sI t2 64 i 0).1 61 j = if j = 12 then σ.1 61 12 + 1 else if j = 7 then nI (K.length - 1) else σ.1 61 j := fun j => by rw [o4 61 (by decide) (by decide), t61]
    have hT : (K.take (K.length - 1)).length = K.length - 1 := by simp
    have hG : ∀ j, j < K.length - 1 → (K.take (K.length - 1)).getD j (0, []) = K.getD j (0, []) := fun j hj => by
      simp only [List.getD_eq_getElem?_getD]; rw [List.getElem?_take_of_lt hj]
    refine ⟨nI i, s3, _, eX, eM, pg, updS S i l, K.take (K.length - 1), n, m, A, M, ?_, ?_, ?_, ?_, ?_, ?_, ?_, ?_⟩
    · refine hP.of ?_ ?_ ?_ ?_
      · rw [oo 1 (by decide) (by decide) (by decide) (by decide), o3 1 (by decide) (by decide) (by decide) (by omega) (by omega)]
      · rw [oo 2 (by decide) (by decide) (by decide) (by decide), o3 2 (by decide) (by decide) (by decide) (by omega) (by omega)]
      · rw [o61, if_neg (by decide), if_neg (by decide)]
      · rw [oo 67 (by decide) (by decide) (by decide) (by decide), o3 67 (by decide) (by decide) (by decide) (by omega) (by omega)]
    · intro j hj
      by_cases e : j = i
      · subst e; rw [updS_i]
        exact hF3.of (oo _ (by omega) (by omega) (by omega) (by omega)) (oo _ (by omega) (by omega) (by omega) (by omega))
      · rw [updS_o e]
        refine (hX j hj).of ?_ ?_
        · rw [oo _ (by omega) (by omega) (by omega) (by omega), o3 _ (by omega) (by omega) (by omega) (by omega) (by omega)]
        · rw [oo _ (by omega) (by omega) (by omega) (by omega), o3 _ (by omega) (by omega) (by omega) (by omega) (by omega)]
    · intro j hj
      have e62 : ∀ z, (sI t2 64 i 0).1 62 z = if z = i then nI l.length else σ.1 62 z := fun z => by
        rw [o4 62 (by decide) (by decide), ← ht1]
        by_cases e : z = i
        · subst e; rw [sI_same, if_pos rfl]
        · rw [sI_other _ _ (Or.inr e), if_neg e, sI_other _ _ (Or.inl (by decide)), sI_other _ _ (Or.inl (by decide)), o3 62 (by decide) (by decide) (by decide) (by omega) (by omega)]
      by_cases e : j = i
      · subst e; rw [updS_i]
        refine ⟨⟨by rw [e62, if_pos rfl], fun z hz => ?_, q2.1.2.2⟩, Or.inl (sI_same _ _ _ _)⟩
        rw [sI_other _ _ (Or.inl (by decide)), u1 z (by omega), ot 70 (by decide) (by decide), o3 70 (by decide) (by decide) (by decide) (by omega) (by omega)]
        exact w3 z hz
      · rw [updS_o e]
        obtain ⟨⟨m1, m2, m3⟩, m4⟩ := hM j hj
        refine ⟨⟨by rw [e62, if_neg e]; exact m1, fun z hz => ?_, m3⟩, ?_⟩
        · rw [sI_other _ _ (Or.inl (by decide)), u2 _ (by omega), ot 63 (by decide) (by decide), o3 63 (by decide) (by decide) (by decide) (by omega) (by omega)]
          exact m2 z hz
        · rw [sI_other _ _ (Or.inr e), g4.i (by decide), ot 64 (by decide) (by decide), o3 64 (by decide) (by decide) (by decide) (by omega) (by omega), oo 65 (by decide) (by decide) (by decide) (by decide), o3 65 (by decide) (by decide) (by decide) (by omega) (by omega), oo 66 (by decide) (by decide) (by decide) (by decide), o3 66 (by decide) (by decide) (by decide) (by omega) (by omega)]
          exact m4
    · have e6 : (sI t2 64 i 0).1 6 = s2.1 6 := by rw [oo 6 (by decide) (by decide) (by decide) (by decide), g3.i (by simp; omega)]
      refine ⟨(nx + 11) % 12, hr12, ?_, ?_, fun j hj => ?_⟩
      · rw [e6, ← hs2, sI_other _ _ (Or.inr (by decide)), sI_other _ _ (Or.inr (by decide)), sI_same]
      · rw [e6, ← hs2, sI_other _ _ (Or.inr (by decide)), sI_same, hT]
      · rw [hT] at hj
        have e1 : rp ((nx + 11) % 12) (K.take (K.length - 1)).length j = rp nx K.length j := by
          rw [hT]; unfold rp; omega
        have hlt := rp_lt nx K.length j
        rw [e1, hG j hj]
        obtain ⟨v1, v2⟩ := k3 j (by omega)
        refine ⟨?_, v2.of ?_ ?_⟩
        · rw [oo 7 (by decide) (by decide) (by decide) (by decide), o3 7 (by decide) (by decide) (by decide) (by omega) (by omega)]; exact v1
        · rw [oo _ (by omega) (by omega) (by omega) (by omega), o3 _ (by omega) (by omega) (by omega) (by omega) (by omega)]
        · rw [oo _ (by omega) (by omega) (by omega) (by omega), o3 _ (by omega) (by omega) (by omega) (by omega) (by omega)]
    · refine ⟨by rw [o61, if_neg (by decide), if_pos rfl, hT], fun j hj => ?_⟩
      rw [hT] at hj
      rw [hG j hj, oo 68 (by decide) (by decide) (by decide) (by decide), o3 68 (by decide) (by decide) (by decide) (by omega) (by omega), oo 69 (by decide) (by decide) (by decide) (by decide), o3 69 (by decide) (by decide) (by decide) (by omega) (by omega), oo 70 (by decide) (by decide) (by decide) (by decide), o3 70 (by decide) (by decide) (by decide) (by omega) (by omega)]
      exact hKM.2 j (by omega)
    · exact ⟨by rw [hT]; omega, fun a ha => hB.2 a (List.mem_of_mem_take ha)⟩
    · have e6 : (sI t2 64 i 0).1 6 = s2.1 6 := by rw [oo 6 (by decide) (by decide) (by decide) (by decide), g3.i (by simp; omega)]
      refine ⟨?_, ?_⟩
      · rw [e6, ← hs2, sI_other _ _ (Or.inr (by decide)), sI_other _ _ (Or.inr (by decide)), sI_other _ _ (Or.inr (by decide)), c6, o61, if_neg (by decide), if_neg (by decide)]; exact hC.1
      · rw [e6, ← hs2, sI_same, o61, if_pos rfl, hC.2]
    · refine hS.of (fun k a b => ?_) (by rw [sI_2, g4.l (by decide), ← ht1, sI_2, sI_2, sI_2]; exact o3l) ?_ ?_ (fun k a b => ?_)
      · rw [oo _ (by omega) (by omega) (by omega) (by omega), o3 _ (by omega) (by omega) (by omega) (by omega) (by omega)]
      · rw [o61, if_neg (by decide), if_neg (by decide)]
      · rw [o61, if_neg (by decide), if_neg (by decide)]
      · rw [oo _ (by omega) (by omega) (by omega) (by omega), o3 _ (by omega) (by omega) (by omega) (by omega) (by omega)]
