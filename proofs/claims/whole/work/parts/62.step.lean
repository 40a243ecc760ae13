/-! one STEP on both sides -/
def INVc (S : Nat → List Nat) (K : List (Nat × List Nat)) (n m : Nat) (A M : Nat → Nat) (σ : fS) : Prop := XS σ S ∧ MS σ S ∧ KX σ K ∧ KM σ K ∧ KB K ∧ CT σ ∧ PS σ n m A M
def qB (σ τ : fS) : Prop := ag sQ σ τ ∧ ∀ i, i ≠ 21 → i ≠ 27 → i ≠ 28 → i ≠ 5 → τ.1 61 i = σ.1 61 i
theorem qA.B {σ τ : fS} (h : qA σ τ) : qB σ τ := ⟨h.1, fun i a b c _ => h.2 i a b c⟩
theorem INVc.B {S : Nat → List Nat} {K : List (Nat × List Nat)} {n m : Nat} {A M : Nat → Nat} {σ τ : fS} (h : INVc S K n m A M σ) (q : qB σ τ) (hm : MS τ S) : INVc S K n m A M τ := by
  obtain ⟨h2, h3, h4, h5, h6, h7, h8⟩ := h
  refine ⟨h2.of (fun k h1 h2 => q.1.i (by simp [sQ]; omega)), hm, ?_, ?_, h6, ?_, ?_⟩
  · exact h4.of (q.1.i (by decide)) (q.1.i (by decide)) (fun k a b => q.1.i (by simp [sQ]; omega))
  · exact h5.of (q.2 7 (by decide) (by decide) (by decide) (by decide)) (q.1.i (by decide)) (q.1.i (by decide)) (q.1.i (by decide))
  · exact h7.of (q.1.i (by decide)) (q.2 11 (by decide) (by decide) (by decide) (by decide)) (q.2 12 (by decide) (by decide) (by decide) (by decide))
  · exact h8.of (fun k a b => q.1.i (by simp [sQ]; omega)) (q.1.l (by decide)) (q.2 13 (by decide) (by decide) (by decide) (by decide)) (q.2 14 (by decide) (by decide) (by decide) (by decide)) (fun k a b => q.1.i (by simp [sQ]; omega))
theorem step {N i : Nat} {S : Nat → List Nat} {K : List (Nat × List Nat)} {n m : Nat} {A M : Nat → Nat} {s1 : fS} {d : List Nat} (hN : 200 ≤ N) (hi : i < 8) (h : INVc S K n m A M s1) (hd : fr0 s1 4 d) :
    ∃ r s2, g_X7_shelveDraft N (nI i) s1 = some s2 ∧ XS s2 (updS S i d) ∧ MS s2 S ∧ r < 12 ∧ ag (sSh i r) s1 s2 ∧ ∀ s3, qB s2 s3 → NW s3 d → MS s3 S →
      ∃ s4, g_X8_layNew N (nI i) s3 = some (nI d.length, s4) ∧ INVc (updS S i d) (keepL K (i, S i)) n m A M s4 ∧ s4.1 1 = s1.1 1 ∧ s4.1 2 = s1.1 2 ∧ s4.1 61 5 = s3.1 61 5 ∧ s4.1 67 = s1.1 67 := by
  obtain ⟨h2, h3, h4, h5, h6, h7, h8⟩ := h
  obtain ⟨r, s2, e2, x2, k2, a2, b2, hr, g2⟩ := v_shelve hN hi hd h2 h4 h6
  have m2 : MS s2 S := h3.ag g2 ⟨by simp [sSh]; omega, by simp [sSh]; omega, by simp [sSh]; omega, by simp [sSh]; omega, by simp [sSh]; omega⟩
  refine ⟨r, s2, e2, x2, m2, hr, g2, fun s3 q3 n3 m3 => ?_⟩
  have km2 : KM s2 K := h5.of (by rw [g2.i (by simp [sSh]; omega)]) (g2.i (by simp [sSh]; omega)) (g2.i (by simp [sSh]; omega)) (g2.i (by simp [sSh]; omega))
  have km3 : KM s3 K := km2.of (q3.2 7 (by decide) (by decide) (by decide) (by decide)) (q3.1.i (by decide)) (q3.1.i (by decide)) (q3.1.i (by decide))
  obtain ⟨s4, e4, m4, k4, c4, p4, g4⟩ := v_layNew hN hi n3 m3 km3 h6
  have lo : ∀ k, k ≤ 60 → s4.1 k = s3.1 k := fun k hk => g4.i (by simp; omega)
  refine ⟨s4, e4, ⟨?_, m4, ?_, k4, keepL_B h6 ⟨hi, (h2 i hi).1.2.2.1⟩, ?_, ?_⟩, ?_, ?_, ?_, ?_⟩
  · exact (x2.of (fun k a b => q3.1.i (by simp [sQ]; omega))).of (fun k a b => lo k (by omega))
  · exact (k2.of (q3.1.i (by decide)) (q3.1.i (by decide)) (fun k a b => q3.1.i (by simp [sQ]; omega))).of (lo _ (by decide)) (lo _ (by decide)) (fun k a b => lo k b)
  · refine ⟨?_, ?_⟩
    · rw [lo 6 (by decide), q3.1.i (by decide), a2, c4, q3.2 11 (by decide) (by decide) (by decide) (by decide), g2.i (show 61 ∉ sSh i r by simp [sSh]; omega), h7.1]
    · rw [lo 6 (by decide), q3.1.i (by decide), b2, p4 12 (by decide) (by decide), q3.2 12 (by decide) (by decide) (by decide) (by decide), g2.i (show 61 ∉ sSh i r by simp [sSh]; omega), h7.2]
  · have p2 : PS s2 n m A M := h8.of (fun k a b => g2.i (by simp [sSh]; omega)) (g2.l (by simp [sSh]; omega)) (by rw [g2.i (by simp [sSh]; omega)]) (by rw [g2.i (by simp [sSh]; omega)]) (fun k a b => g2.i (by simp [sSh]; omega))
    have p3 : PS s3 n m A M := p2.of (fun k a b => q3.1.i (by simp [sQ]; omega)) (q3.1.l (by decide)) (q3.2 13 (by decide) (by decide) (by decide) (by decide)) (q3.2 14 (by decide) (by decide) (by decide) (by decide)) (fun k a b => q3.1.i (by simp [sQ]; omega))
    exact p3.of (fun k a b => lo k (by omega)) (g4.l (by decide)) (p4 13 (by decide) (by decide)) (p4 14 (by decide) (by decide)) (fun k a b => g4.i (by simp; omega))
  · rw [lo 1 (by decide), q3.1.i (by decide), g2.i (by simp [sSh]; omega)]
  · rw [lo 2 (by decide), q3.1.i (by decide), g2.i (by simp [sSh]; omega)]
  · exact p4 5 (by decide) (by decide)
  · rw [g4.i (by decide), q3.1.i (by decide), g2.i (by simp [sSh]; omega)]
theorem stepN {N i : Nat} {pg : List Nat} {S : Nat → List Nat} {K : List (Nat × List Nat)} {n m : Nat} {A M : Nat → Nat} {σ s1 : fS} {d : List Nat} (hN : 200 ≤ N) (hi : i < 8) (h : INVw pg S K n m A M σ) (q : qA σ s1) (hm : MS s1 S) (hd : fr0 s1 4 d) :
    ∃ s2, g_X7_shelveDraft N (nI i) s1 = some s2 ∧ XS s2 (updS S i d) ∧ MS s2 S ∧ ∀ s3, qA s2 s3 → NW s3 d → MS s3 S →
      ∃ s4, g_X8_layNew N (nI i) s3 = some (nI d.length, s4) ∧ INV s4 ∧ MS s4 (updS S i d) := by
  have h1 := h.q q hm
  obtain ⟨r, s2, e2, x2, m2, hr, g2, f⟩ := step hN hi (show INVc S K n m A M s1 from h1.2) hd
  refine ⟨s2, e2, x2, m2, fun s3 q3 n3 m3 => ?_⟩
  obtain ⟨s4, e4, i4, p1, p2, p3, p4⟩ := f s3 q3.B n3 m3
  refine ⟨s4, e4, ⟨pg, updS S i d, keepL K (i, S i), n, m, A, M, h1.1.of p1 p2 ?_ p4, i4⟩, i4.2.1⟩
  rw [p3, q3.2 5 (by decide) (by decide) (by decide), g2.i (by simp [sSh]; omega)]
/-! clear -/
theorem qA.s28 {σ : fS} (v : Int32) : qA σ (sI σ 61 28 v) := ⟨ag.sI _ (by decide) _ _, fun i _ _ h => sI_other _ _ (Or.inr h)⟩
theorem MS.s61 {S : Nat → List Nat} {σ : fS} (h : MS σ S) (j : Nat) (v : Int32) : MS (sI σ 61 j v) S := h.ag (ag.sI (S := [61]) _ (by simp) _ _) (by decide)
theorem o14 {N : Nat} (hN : 200 ≤ N) : op_14 INV N := by
  intro x σ hi
  have hi' := hi
  obtain ⟨pg, S, K, n, m, A, M, hw⟩ := hi'
  have hX := hw.2.1
  have hM := hw.2.2.1
  rcases hf_or S x with ⟨i, hi8, rfl, hs⟩ | ⟨e1, e2⟩
  · obtain ⟨s1, f1, a1, g1⟩ := v_empty (N := N) (k := 4) (σ := σ)
    have hM1 := hM.ag g1 (by decide)
    obtain ⟨s2, f2, x2, m2, f⟩ := stepN hN hi8 hw (qA.x g1 (by decide) (by decide)) hM1 a1
    obtain ⟨s4, f4, i4, _⟩ := f (sI s2 61 28 0) (qA.s28 0) ⟨sI_same _ _ _ _, fun e he => absurd he (by simp), by simp, by simp⟩ (m2.s61 _ _)
    refine ⟨nI (S i).length, s2, s4, ?_, ?_, i4⟩
    · unfold g_X7_clear
      rw [hfX_1 hX hi8 hs, Bd_s, if_neg (by decide), Gd_c (fin_nI hi8 (by omega)), n_cl (by omega), er3, (hX i hi8).1.1, Lt_e, f1, Bv_s, f2, Bv_s]
    · unfold g_X8_clear
      rw [hfM_1 m2 hi8 hs, Bd_s, if_neg (by decide), Gd_c (fin_nI hi8 (by omega)), n_cl (by omega), (m2 i hi8).1.1, Lt_e, Lt_e, f4, Bd_s]
  · refine ⟨-101, σ, σ, ?_, ?_, hi⟩
    · unfold g_X7_clear; rw [e1 N σ hX, Bd_s, if_pos rfl]
    · unfold g_X8_clear; rw [e2 N σ hM, Bd_s, if_pos rfl]
