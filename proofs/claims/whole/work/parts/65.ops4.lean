/-! letter, blank -/
theorem byt_A : ∀ c, c < 127 → vp_nar .byte (nI c).toInt8.toInt32 = nI c := by decide +kernel
theorem o1 {N : Nat} : op_1 INV N := by
  intro σ hi
  obtain ⟨pg, S, K, n, m, A, M, hw⟩ := hi
  obtain ⟨h1, h2, h3, h4, h5, h6, h7, h8⟩ := hw
  refine ⟨nI pg.length, sI σ 1 1 0, sI (sI σ 1 1 0) 61 5 0, ?_, ?_, [], S, K, n, m, A, M, ?_, ?_, ?_, ?_, ?_, h6, ?_, ?_⟩
  · unfold g_X7_blank; rw [Lt_e, Lt_e, h1.1]
  · unfold g_X8_blank; rw [Lt_e, Lt_e, sI_other _ _ (Or.inl (by decide)), h1.2.1]
  · refine ⟨?_, ?_, by simp, fun i hi => absurd hi (by simp), by simp⟩
    · rw [sI_other _ _ (Or.inl (by decide)), sI_same]; rfl
    · rw [sI_same]; rfl
  · exact h2.of (fun k a b => by funext z; rw [sI_other _ _ (Or.inl (by omega)), sI_other _ _ (Or.inl (by omega))])
  · exact h3.ag ((ag.sI (S := [1, 61]) _ (by simp) _ _).tr (ag.sI _ (by simp) _ _)) (by decide)
  · refine h4.of ?_ ?_ (fun k a b => ?_) <;> (funext z; rw [sI_other _ _ (Or.inl (by omega)), sI_other _ _ (Or.inl (by omega))])
  · refine h5.of ?_ ?_ ?_ ?_
    · rw [sI_other _ _ (Or.inr (by decide)), sI_other _ _ (Or.inl (by decide))]
    · funext z; rw [sI_other _ _ (Or.inl (by decide)), sI_other _ _ (Or.inl (by decide))]
    · funext z; rw [sI_other _ _ (Or.inl (by decide)), sI_other _ _ (Or.inl (by decide))]
    · funext z; rw [sI_other _ _ (Or.inl (by decide)), sI_other _ _ (Or.inl (by decide))]
  · refine h7.of ?_ ?_ ?_
    · funext z; rw [sI_other _ _ (Or.inl (by decide)), sI_other _ _ (Or.inl (by decide))]
    · rw [sI_other _ _ (Or.inr (by decide)), sI_other _ _ (Or.inl (by decide))]
    · rw [sI_other _ _ (Or.inr (by decide)), sI_other _ _ (Or.inl (by decide))]
  · refine h8.of (fun k a b => ?_) rfl ?_ ?_ (fun k a b => ?_)
    · funext z; rw [sI_other _ _ (Or.inl (by omega)), sI_other _ _ (Or.inl (by omega))]
    · rw [sI_other _ _ (Or.inr (by decide)), sI_other _ _ (Or.inl (by decide))]
    · rw [sI_other _ _ (Or.inr (by decide)), sI_other _ _ (Or.inl (by decide))]
    · funext z; rw [sI_other _ _ (Or.inl (by omega)), sI_other _ _ (Or.inl (by omega))]
/-- the rest stands where only the page was written -/
theorem INVc.pg {S : Nat → List Nat} {K : List (Nat × List Nat)} {n m : Nat} {A M : Nat → Nat} {σ τ : fS} (h : INVc S K n m A M σ) (g : ag [1, 2, 61, 67] σ τ) (p : ∀ i, i ≠ 5 → τ.1 61 i = σ.1 61 i) : INVc S K n m A M τ := by
  obtain ⟨h2, h3, h4, h5, h6, h7, h8⟩ := h
  refine ⟨h2.of (fun k a b => g.i (by simp; omega)), h3.ag g (by decide), ?_, ?_, h6, ?_, ?_⟩
  · exact h4.of (g.i (by decide)) (g.i (by decide)) (fun k a b => g.i (by simp; omega))
  · exact h5.of (p 7 (by decide)) (g.i (by decide)) (g.i (by decide)) (g.i (by decide))
  · exact h7.of (g.i (by decide)) (p 11 (by decide)) (p 12 (by decide))
  · exact h8.of (fun k a b => g.i (by simp; omega)) (g.l (by decide)) (p 13 (by decide)) (p 14 (by decide)) (fun k a b => g.i (by simp; omega))
theorem o0 {N : Nat} : op_0 INV N := by
  intro x σ hi
  have hi' := hi
  obtain ⟨pg, S, K, n, m, A, M, hw⟩ := hi'
  obtain ⟨h1, hc⟩ := hw
  obtain ⟨p1, p2, p3, p4, p5⟩ := h1
  unfold g_X7_letter g_X8_letter
  have hr := zI_rng x
  have e1 : (x < (32 : Int32)) ↔ x.toInt < 32 := by
    conv => lhs; rw [← zI_of x]
    exact zI_lt (b := 32) hr (by omega)
  have e2 : (x ≤ (126 : Int32)) ↔ x.toInt ≤ 126 := by
    conv => lhs; rw [← zI_of x]
    exact zI_le (b := 126) hr (by omega)
  have e3 : ((32 : Int32) ≤ x) ↔ 32 ≤ x.toInt := by
    conv => lhs; rw [← zI_of x]
    exact zI_le (a := 32) (by omega) hr
  by_cases c1 : x.toInt < 32
  · refine ⟨-102, σ, σ, ?_, ?_, hi⟩
    · rw [if_pos (e1.mpr c1)]
    · rw [v_within, if_neg (fun z => by have := e3.mp z.1; omega), Bd_s, if_pos rfl]
  · by_cases c2 : x.toInt ≤ 126
    · obtain ⟨c, hx⟩ : ∃ c : Nat, x.toInt = (c : Int) := ⟨x.toInt.toNat, by omega⟩
      have hx' : x = nI c := by rw [← zI_of x, hx, zI_nat]
      have hc1 : 32 ≤ c := by omega
      have hc2 : c ≤ 126 := by omega
      have e4 : (nI pg.length < (18 : Int32)) ↔ pg.length < 18 := nI_ltI (b := 18) (by omega) (by decide)
      have e5 : (nI pg.length = (18 : Int32)) ↔ pg.length = 18 := n_eq (b := 18) (by omega) (by decide)
      by_cases c3 : pg.length < 18
      · refine ⟨nI (pg.length + 1), sI (sI σ 2 pg.length (nI c)) 1 1 (nI (pg.length + 1)), sI (sI (sI (sI σ 2 pg.length (nI c)) 1 1 (nI (pg.length + 1))) 67 pg.length (nI c)) 61 5 (nI (pg.length + 1)), ?_, ?_, pg ++ [c], S, K, n, m, A, M, ⟨?_, ?_, by simp; omega, fun i hi => ?_, ?_⟩, INVc.pg (show INVc S K n m A M σ from hc) ?_ ?_⟩
        · rw [if_neg (fun z => c1 (e1.mp z)), if_pos (e2.mpr c2)]
          unfold g_X3_write
          rw [p1, if_neg (n_lt0 (by omega)), if_pos (e4.mpr c3), Gd_c (fin_nI c3 (by omega)), Lt_e, n_cl (by omega), sI_other _ _ (Or.inl (by decide)), p1, nI_1, Lt_e, Bd_s, if_neg (by decide), sI_same, hx']
        · rw [v_within, if_pos ⟨e3.mpr (by omega), e2.mpr c2⟩, Bd_s, if_neg (by decide), sI_other _ _ (Or.inl (by decide)), sI_other _ _ (Or.inl (by decide)), p2, if_neg (fun z => by have := e5.mp z; omega), Gd_c (fin_nI c3 (by omega)), Lt_e, n_cl (by omega), hx', byt_A c (by omega), sI_other _ _ (Or.inl (by decide)), sI_other _ _ (Or.inl (by decide)), sI_other _ _ (Or.inl (by decide)), p2, nI_1, Lt_e, sI_same]
        · rw [sI_other _ _ (Or.inl (by decide)), sI_other _ _ (Or.inl (by decide)), sI_same]; simp
        · rw [sI_same]; simp
        · simp at hi
          have d2 : (sI (sI (sI (sI σ 2 pg.length (nI c)) 1 1 (nI (pg.length + 1))) 67 pg.length (nI c)) 61 5 (nI (pg.length + 1))).1 2 i = (sI σ 2 pg.length (nI c)).1 2 i := by
            rw [sI_other _ _ (Or.inl (by decide)), sI_other _ _ (Or.inl (by decide)), sI_other _ _ (Or.inl (by decide))]
          rw [d2, sI_other _ _ (Or.inl (show (67 : Nat) ≠ 61 by decide))]
          by_cases cc : i = pg.length
          · subst cc; rw [sI_same, sI_same, getD_snoc_eq]; exact ⟨rfl, rfl⟩
          · rw [sI_other _ _ (Or.inr cc), sI_other _ _ (Or.inr cc), sI_other _ _ (Or.inl (by decide)), sI_other _ _ (Or.inl (by decide)), getD_snoc_lt (by omega)]; exact p4 i (by omega)
        · intro a ha
          simp at ha
          rcases ha with ha | rfl
          · exact p5 a ha
          · exact ⟨hc1, hc2⟩
        · exact (((ag.sI _ (by simp) _ _).tr (ag.sI _ (by simp) _ _)).tr (ag.sI _ (by simp) _ _)).tr (ag.sI _ (by simp) _ _)
        · intro i hi
          rw [sI_other _ _ (Or.inr hi), sI_other _ _ (Or.inl (by decide)), sI_other _ _ (Or.inl (by decide)), sI_other _ _ (Or.inl (by decide))]
      · refine ⟨-104, σ, σ, ?_, ?_, hi⟩
        · rw [if_neg (fun z => c1 (e1.mp z)), if_pos (e2.mpr c2)]
          unfold g_X3_write
          rw [p1, if_neg (n_lt0 (by omega)), if_neg (fun z => c3 (e4.mp z)), Bd_s, if_pos rfl]
        · rw [v_within, if_pos ⟨e3.mpr (by omega), e2.mpr c2⟩, Bd_s, if_neg (by decide), p2, if_pos (e5.mpr (by omega))]
    · refine ⟨-102, σ, σ, ?_, ?_, hi⟩
      · rw [if_neg (fun z => c1 (e1.mp z)), if_neg (fun z => c2 (e2.mp z))]
      · rw [v_within, if_neg (fun z => c2 (e2.mp z.2)), Bd_s, if_pos rfl]
