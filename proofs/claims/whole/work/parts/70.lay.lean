/-! lay -/
theorem stepG {N i : Nat} {pg : List Nat} {S : Nat → List Nat} {K : List (Nat × List Nat)} {n m : Nat} {A M : Nat → Nat} {σ s1 : fS} {d : List Nat} (hN : 200 ≤ N) (hi : i < 8) (h : INVw pg S K n m A M σ) (q : qA σ s1) (hm : MS s1 S) (hd : fr0 s1 4 d) :
    ∃ r s2, g_X7_shelveDraft N (nI i) s1 = some s2 ∧ XS s2 (updS S i d) ∧ MS s2 S ∧ r < 12 ∧ ag (sSh i r) s1 s2 ∧ ∀ s3, qA s2 s3 → NW s3 d → MS s3 S →
      ∃ s4, g_X8_layNew N (nI i) s3 = some (nI d.length, s4) ∧ INV s4 ∧ MS s4 (updS S i d) := by
  have h1 := h.q q hm
  obtain ⟨r, s2, e2, x2, m2, hr, g2, f⟩ := step hN hi (show INVc S K n m A M s1 from h1.2) hd
  refine ⟨r, s2, e2, x2, m2, hr, g2, fun s3 q3 n3 m3 => ?_⟩
  obtain ⟨s4, e4, i4, p1, p2, p3, p4⟩ := f s3 q3.B n3 m3
  refine ⟨s4, e4, ⟨pg, updS S i d, keepL K (i, S i), n, m, A, M, h1.1.of p1 p2 ?_ p4, i4⟩, i4.2.1⟩
  rw [p3, q3.2 5 (by decide) (by decide) (by decide), g2.i (by simp [sSh]; omega)]
theorem o24 {N : Nat} (hN : 200 ≤ N) : op_24 INV N := by
  intro x y σ hi
  have hi' := hi
  obtain ⟨pg, S, K, n, m, A, M, hw⟩ := hi'
  have hX := hw.2.1
  have hM := hw.2.2.1
  have hS := hw.2.2.2.2.2.2.2
  have h1 := hS.1
  have h2 := hS.2.1
  unfold g_X7_lay g_X8_lay
  rcases pr_or m h2.2.2 x with ⟨k, hk, rfl, e1, e2⟩ | ⟨e1, e2⟩
  · rcases sh_or y with ⟨i, hi8, rfl⟩ | ⟨e3, e4⟩
    · have hn3 : 3 ≤ n := hS.2.2.1 (by omega)
      have hn := h1.2.2
      have hm := h2.2.2
      obtain ⟨⟨a1, a2, a3, a4⟩, _⟩ := hS.2.2.2 k hk
      have hr : ∀ s, g_X2_roughPart N (nI n) s = some (nI (rough n), s) := fun s => by
        have := v_roughX (N := N) (by omega) (z := (n : Int)) (by omega) (by omega) (by omega) s
        simpa [zI_nat] using this
      have hl : ∀ s, g_X8_leftOf N (nI n) s = some (nI (rough n), s) := fun s => by
        have := v_leftM (N := N) (by omega) (z := (n : Int)) (by omega) (by omega) (by omega) s
        simpa [zI_nat] using this
      have h31 := rough_lt (show n < 2 ^ 31 by omega)
      have er : (nI (rough n) = (1 : Int32)) ↔ rough n = 1 := n_eq (b := 1) h31 (by decide)
      by_cases c : rough n = 1
      · have hp : A k * n ≤ 7 * 160 := Nat.mul_le_mul a4 hn
        have hp0 : 0 < A k * n := Nat.mul_pos (by omega) (by omega)
        obtain ⟨s1, f1, b1, g1⟩ := v_empty (N := N) (k := 4) (σ := σ)
        have kx : ∀ (v : Nat) (s : fS), 0 < v → v < 2 ^ 31 → g_X2_kindOf N (nI v) s = some (nI (kindZ (v : Int)), s) := fun v s h0 h3 => v_kindX (N := N) (by omega) (z := (v : Int)) (by omega) (by omega) (by omega) s
        have km : ∀ (v : Nat) (s : fS), 0 < v → v < 2 ^ 31 → g_X8_kindOf N (nI v) s = some (nI (kindZ (v : Int)), s) := fun v s h0 h3 => v_kindM (N := N) (by omega) (z := (v : Int)) (by omega) (by omega) (by omega) s
        obtain ⟨s2, f2, b2, g2⟩ := v_add (N := N) b1 (by simp) (kindZ_lt (A k : Int))
        obtain ⟨s3, f3, b3, g3⟩ := v_add (N := N) b2 (by simp) (kindZ_lt ((A k * n : Nat) : Int))
        have g12 : ag [4, 5] σ s2 := (g1.mono (T := [4, 5]) (by simp)).tr g2
        have g13 : ag [4, 5] σ s3 := g12.tr g3
        have b3' : fr0 s3 4 [kindZ (A k : Int), kindZ ((A k * n : Nat) : Int)] := b3
        have hn2 : s2.1 9 6 = nI n := by rw [g12.i (by decide)]; exact h1.1
        obtain ⟨r, s4, f4, x4, m4, hr12, g4, f⟩ := stepG hN hi8 hw (qA.x g13 (by decide) (by decide)) (hM.ag g13 (by decide)) b3'
        have hx4 := (x4 i hi8).1
        rw [updS_i] at hx4
        have c71 : s4.1 71 = σ.1 71 := by rw [g4.i (by simp [sSh]; omega), g13.i (by decide)]
        have c61 : s4.1 61 = σ.1 61 := by rw [g4.i (by simp [sSh]; omega), g13.i (by decide)]
        obtain ⟨t1, ht1⟩ : ∃ t, t = sI s4 61 28 2 := ⟨_, rfl⟩
        obtain ⟨t2, ht2⟩ : ∃ t, t = sI t1 82 0 (nI (kindZ (A k : Int))) := ⟨_, rfl⟩
        obtain ⟨t3, ht3⟩ : ∃ t, t = sI t2 82 1 (nI (kindZ ((A k * n : Nat) : Int))) := ⟨_, rfl⟩
        have d1 : ag [61, 82] s4 t1 := by rw [ht1]; exact ag.sI _ (by simp) _ _
        have d2 : ag [82] t1 t2 := by rw [ht2]; exact ag.sI _ (by simp) _ _
        have d3 : ag [82] t2 t3 := by rw [ht3]; exact ag.sI _ (by simp) _ _
        have d : ag [61, 82] s4 t3 := (d1.tr (d2.mono (by simp))).tr (d3.mono (by simp))
        have q61 : ∀ j, j ≠ 28 → t3.1 61 j = s4.1 61 j := fun j hj => by rw [d3.i (by decide), d2.i (by decide), ht1, sI_other _ _ (Or.inr hj)]
        have n3 : NW t3 [kindZ (A k : Int), kindZ ((A k * n : Nat) : Int)] := by
          refine ⟨?_, fun e he => ?_, by simp, ?_⟩
          · rw [d3.i (by decide), d2.i (by decide), ht1, sI_same]; rfl
          · have he2 : e < 2 := he
            have hc : e = 0 ∨ e = 1 := by omega
            rcases hc with rfl | rfl
            · rw [ht3, sI_other _ _ (Or.inr (by decide)), ht2, sI_same]; rfl
            · rw [ht3, sI_same]; rfl
          · intro a ha
            simp only [List.mem_cons, List.not_mem_nil, or_false] at ha
            rcases ha with rfl | rfl
            · exact kindZ_lt _
            · exact kindZ_lt _
        obtain ⟨s6, f6, i6, m6⟩ := f t3 (qA.w d q61) n3 (msW m4 d)
        have hm6 := (m6 i hi8).1
        rw [updS_i] at hm6
        refine ⟨nI (detL [kindZ (A k : Int), kindZ ((A k * n : Nat) : Int)]), s4, s6, ?_, ?_, i6⟩
        · rw [e1 N σ h2.1, Bd_s, if_neg (by decide), v_shX hi8, Bd_s, if_neg (by decide), h1.1, hr, Bd_s, if_pos (er.mpr c), Gd_c (fin_nI (show k < 56 by omega) (by omega)), n_cl (show k < 2 ^ 31 by omega), a1, Lt_e, f1, Bv_s, kx _ _ (by omega) (by omega), Bd_s, f2, Bv_s, hn2, pk_mul, kx _ _ hp0 (by omega), Bd_s, f3, Bv_s, f4, Bv_s, Gd_c (fin_nI hi8 (by omega)), n_cl (show i < 2 ^ 31 by omega), er3, v_detX hN hx4, Bd_s]
        · have w1 : t1.1 71 k = nI (A k) := by rw [ht1, sI_other _ _ (Or.inl (by decide)), c71, a2]
          have w2 : t2.1 71 k = nI (A k) := by rw [d2.i (by decide), w1]
          have w3 : t2.1 61 13 = nI n := by rw [d2.i (by decide), ht1, sI_other _ _ (Or.inr (by decide)), c61, h1.2.1]
          rw [e2 N s4 (by rw [c61, h2.2.1]), Bd_s, if_neg (by decide), v_shM hi8, Bd_s, if_neg (by decide), c61, h1.2.1, hl, Bd_s, if_pos (er.mpr c), Lt_e, ← ht1, Gd_c (fin_nI (show k < 56 by omega) (by omega)), n_cl (show k < 2 ^ 31 by omega), w1, km _ _ (by omega) (by omega), Bd_s, Gd_c (by decide), Lt_e, show ((0 : Int32)).toNatClampNeg = 0 from rfl, ← ht2, Gd_c (fin_nI (show k < 56 by omega) (by omega)), w2, w3, pk_mul, km _ _ hp0 (by omega), Bd_s, Gd_c (by decide), Lt_e, show ((1 : Int32)).toNatClampNeg = 1 from rfl, ← ht3, f6, Bd_s, v_detM hN hi8 hm6, Bd_s]
      · refine ⟨-103, σ, σ, ?_, ?_, hi⟩
        · rw [e1 N σ h2.1, Bd_s, if_neg (by decide), v_shX hi8, Bd_s, if_neg (by decide), h1.1, hr, Bd_s, if_neg (fun z => c (er.mp z))]
        · rw [e2 N σ h2.2.1, Bd_s, if_neg (by decide), v_shM hi8, Bd_s, if_neg (by decide), h1.2.1, hl, Bd_s, if_neg (fun z => c (er.mp z))]
    · refine ⟨-101, σ, σ, ?_, ?_, hi⟩
      · rw [e1 N σ h2.1, Bd_s, if_neg (by decide), e3, Bd_s, if_pos rfl]
      · rw [e2 N σ h2.2.1, Bd_s, if_neg (by decide), e4, Bd_s, if_pos rfl]
  · refine ⟨-101, σ, σ, ?_, ?_, hi⟩
    · rw [e1 N σ h2.1, Bd_s, if_pos rfl]
    · rw [e2 N σ h2.2.1, Bd_s, if_pos rfl]
