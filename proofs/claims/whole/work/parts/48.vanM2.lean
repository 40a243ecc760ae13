/-! the reference: a TERM more, whether it VANISHES, BARS, SYMBOLs -/
theorem cq_A : ∀ j, j < 7 → 1 ≤ j → ∀ k, k < 128 → iR (iR (cr k) (nI (qAt j)) + nI (qAt j)) (nI (qAt j)) = nI (cq j k) := by decide +kernel
theorem cq_lt {j k : Nat} : cq j k < qAt j := by
  unfold cq
  have h1 := qAt_pos j
  have h2 : 0 ≤ coreZ k % (qAt j : Int) := Int.emod_nonneg _ (by omega)
  have h3 : coreZ k % (qAt j : Int) < (qAt j : Int) := Int.emod_lt_of_pos _ (by omega)
  omega
theorem clr_M {N q : Nat} {σ : fS} (hN : 200 ≤ N) (hq : q ≤ 169) (p1 p3 : Int32) : ∃ σ', lp_X8_addTerm_3 N p1 (nI q) p3 N (nI 0) σ = some σ' ∧ arr σ' 80 q 0 ∧ arr σ' 81 q 0 ∧ ag [80, 81] σ σ' := by
  obtain ⟨s, ⟨a1, a2⟩, e⟩ := lpU (fun n x s => lp_X8_addTerm_3 N p1 (nI q) p3 n x s) q (fun i s => (∀ r, r < i → s.1 80 r = 0 ∧ s.1 81 r = 0) ∧ ag [80, 81] σ s) id (by
    intro n i s hi ⟨h1, h2⟩
    refine ⟨sI (sI s 80 i 0) 81 i 0, ⟨fun r hr => ?_, h2.tr ((ag.sI s (by decide) _ _).tr (ag.sI _ (by decide) _ _))⟩, ?_⟩
    · by_cases h : r = i
      · subst h
        exact ⟨by rw [sI_other _ _ (Or.inl (by decide)), sI_same], sI_same _ _ _ _⟩
      · have := h1 r (by omega)
        exact ⟨by rw [sI_other _ _ (Or.inl (by decide)), sI_other _ _ (Or.inr h)]; exact this.1, by rw [sI_other _ _ (Or.inr h), sI_other _ _ (Or.inl (by decide))]; exact this.2⟩
    · show lp_X8_addTerm_3 N p1 (nI q) p3 (n + 1) (nI i) s = _
      rw [lp_X8_addTerm_3, if_neg (by rw [nI_leI (by omega) (by omega)]; omega), nI_clamp (show i < 2 ^ 31 by omega)]
      simp only [Gd_c (fin_nI (show i < 169 by omega) (by omega)), Lt_e, nI_1]) (by
    intro n s _
    show lp_X8_addTerm_3 N p1 (nI q) p3 (n + 1) (nI q) s = _
    rw [lp_X8_addTerm_3, if_pos (by rw [nI_leI (by omega) (by omega)]; exact Nat.le_refl _)]; rfl) q N 0 σ (by omega) (by omega) ⟨fun r hr => absurd hr (by omega), ag.rf⟩
  exact ⟨s, e, fun r hr => by rw [(a1 r hr).1]; simp [bI], fun r hr => by rw [(a1 r hr).2]; simp [bI], a2⟩
theorem mid_M {N q p c b f : Nat} {σ : fS} (hN : 200 ≤ N) (hq : q ≤ 169) (hc : c < q) (hp : 0 < p) (hp2 : p ≤ 13) (h78 : arr σ 78 q b) (h79 : arr σ 79 q f) (h80 : arr σ 80 q 0) (h81 : arr σ 81 q 0) : ∃ σ', lp_X8_addTerm_43 N (nI q) (nI p) (nI c) N (nI 0) σ = some σ' ∧ arr σ' 80 q (allB q p c b) ∧ arr σ' 81 q (allF q p c b f) ∧ ag [80, 81] σ σ' := by
  obtain ⟨s, ⟨a1, a2, a3⟩, e⟩ := lpU (fun n x s => lp_X8_addTerm_43 N (nI q) (nI p) (nI c) n x s) q (fun i s => arr s 80 q ((List.range i).foldl (fun nb rest => rowB q p c b rest nb) 0) ∧ arr s 81 q ((List.range i).foldl (fun nf rest => rowF q p c b f rest nf) 0) ∧ ag [80, 81] σ s) id (by
    intro n i s hi ⟨h1, h2, h3⟩
    have g78 : s.1 78 i = bI (b.testBit i) := by rw [h3.i (by decide)]; exact h78 i hi
    have g79 : s.1 79 i = bI (f.testBit i) := by rw [h3.i (by decide)]; exact h79 i hi
    obtain ⟨s', e', b1, b2, b3⟩ := addR_all (N := N) (b := b) (f := f) hN hq hi hc hp hp2 g78 g79 h1 h2
    have hu : lp_X8_addTerm_43 N (nI q) (nI p) (nI c) (n + 1) (nI i) s = if b.testBit i = false ∧ f.testBit i = false then lp_X8_addTerm_43 N (nI q) (nI p) (nI c) n (nI (i + 1)) s else lp_X8_addTerm_43 N (nI q) (nI p) (nI c) n (nI (i + 1)) s' := by
      rw [lp_X8_addTerm_43, if_neg (by rw [nI_leI (by omega) (by omega)]; omega), nI_clamp (show i < 2 ^ 31 by omega)]
      simp only [Gd_c (fin_nI (show i < 169 by omega) (by omega)), g78, g79, bI_z, e', Bv_s, nI_1]
      cases b.testBit i <;> cases f.testBit i <;> simp
    by_cases hs : b.testBit i = false ∧ f.testBit i = false
    · refine ⟨s, ⟨?_, ?_, h3⟩, ?_⟩
      · rw [fold_succ, rowB_skip hs.1]; exact h1
      · rw [fold_succ, rowF_skip hs.1 hs.2]; exact h2
      · rw [hu, if_pos hs]
    · refine ⟨s', ⟨?_, ?_, h3.tr b3⟩, ?_⟩
      · rw [fold_succ]; exact b1
      · rw [fold_succ]; exact b2
      · rw [hu, if_neg hs]) (by
    intro n s _
    show lp_X8_addTerm_43 N (nI q) (nI p) (nI c) (n + 1) (nI q) s = _
    rw [lp_X8_addTerm_43, if_pos (by rw [nI_leI (by omega) (by omega)]; exact Nat.le_refl _)]; rfl) q N 0 σ (by omega) (by omega) ⟨h80, h81, ag.rf⟩
  exact ⟨s, e, a1, a2, a3⟩
theorem cpy_M {N q x y : Nat} {σ : fS} (hN : 200 ≤ N) (hq : q ≤ 169) (h80 : arr σ 80 q x) (h81 : arr σ 81 q y) : ∃ σ', lp_X8_addTerm_88 N (nI q) N (nI 0) σ = some σ' ∧ arr σ' 78 q x ∧ arr σ' 79 q y ∧ ag [78, 79] σ σ' := by
  obtain ⟨s, ⟨a1, a2⟩, e⟩ := lpU (fun n x s => lp_X8_addTerm_88 N (nI q) n x s) q (fun i s => (∀ r, r < i → s.1 78 r = bI (x.testBit r) ∧ s.1 79 r = bI (y.testBit r)) ∧ ag [78, 79] σ s) id (by
    intro n i s hi ⟨h1, h2⟩
    have g80 : s.1 80 i = bI (x.testBit i) := by rw [h2.i (by decide)]; exact h80 i hi
    have g81 : s.1 81 i = bI (y.testBit i) := by rw [h2.i (by decide)]; exact h81 i hi
    refine ⟨sI (sI s 78 i (bI (x.testBit i))) 79 i (bI (y.testBit i)), ⟨fun r hr => ?_, h2.tr ((ag.sI s (by decide) _ _).tr (ag.sI _ (by decide) _ _))⟩, ?_⟩
    · by_cases h : r = i
      · subst h
        exact ⟨by rw [sI_other _ _ (Or.inl (by decide)), sI_same], sI_same _ _ _ _⟩
      · have := h1 r (by omega)
        exact ⟨by rw [sI_other _ _ (Or.inl (by decide)), sI_other _ _ (Or.inr h)]; exact this.1, by rw [sI_other _ _ (Or.inr h), sI_other _ _ (Or.inl (by decide))]; exact this.2⟩
    · show lp_X8_addTerm_88 N (nI q) (n + 1) (nI i) s = _
      have g81' : (sI s 78 i (bI (x.testBit i))).1 81 i = bI (y.testBit i) := by rw [sI_other _ _ (Or.inl (by decide))]; exact g81
      rw [lp_X8_addTerm_88, if_neg (by rw [nI_leI (by omega) (by omega)]; omega), nI_clamp (show i < 2 ^ 31 by omega)]
      simp only [Gd_c (fin_nI (show i < 169 by omega) (by omega)), Lt_e, g80, Gd_c (bI_B _), g81', nI_1]) (by
    intro n s _
    show lp_X8_addTerm_88 N (nI q) (n + 1) (nI q) s = _
    rw [lp_X8_addTerm_88, if_pos (by rw [nI_leI (by omega) (by omega)]; exact Nat.le_refl _)]; rfl) q N 0 σ (by omega) (by omega) ⟨fun r hr => absurd hr (by omega), ag.rf⟩
  exact ⟨s, e, fun r hr => (a1 r hr).1, fun r hr => (a1 r hr).2, a2⟩
theorem v_addTerm {N j k b f : Nat} {σ : fS} (hN : 200 ≤ N) (hj : j < 7) (hj1 : 1 ≤ j) (hk : k < 128) (hb : b < 2 ^ qAt j) (hf : f < 2 ^ qAt j) (h78 : arr σ 78 (qAt j) b) (h79 : arr σ 79 (qAt j) f) : ∃ σ', g_X8_addTerm N (cr k) (nI (qAt j)) (nI (pAt j)) σ = some σ' ∧ arr σ' 78 (qAt j) (stM j k (b, f)).1 ∧ arr σ' 79 (qAt j) (stM j k (b, f)).2 ∧ ag [78, 79, 80, 81] σ σ' := by
  have hq := qAt_le j
  have hq0 := qAt_pos j
  have hp := pAt_ge j
  have hp2 := pAt_le j
  obtain ⟨s1, e1, a1, a2, a3⟩ := clr_M (N := N) (σ := σ) hN hq (cr k) (nI (pAt j))
  obtain ⟨s2, e2, b1, b2, b3⟩ := mid_M (N := N) (p := pAt j) (c := cq j k) (b := b) (f := f) hN hq cq_lt (by omega) hp2 (fun r hr => by rw [a3.i (by decide)]; exact h78 r hr) (fun r hr => by rw [a3.i (by decide)]; exact h79 r hr) a1 a2
  obtain ⟨s3, e3, c1, c2, c3⟩ := cpy_M (N := N) hN hq b1 b2
  refine ⟨s3, ?_, fun r hr => by rw [c1 r hr, allB_conv (f := f) hb hr], fun r hr => by rw [c2 r hr, allF_conv hb hf hr], (a3.mono (by decide)).tr ((b3.mono (by decide)).tr (c3.mono (by decide)))⟩
  unfold g_X8_addTerm
  rw [show (0 : Int32) = nI 0 from rfl, e1, Bv_s]
  simp only [Gd_c (nz_nI hq0 (show qAt j < 2 ^ 31 by omega)), Lt_e, cq_A j hj hj1 k hk, e2, e3, Bv_s]
def lk (σ : fS) (ks : List Nat) : Prop := σ.1 61 21 = nI ks.length ∧ (∀ i, i < ks.length → σ.1 77 i = nI (ks.getD i 0)) ∧ ks.length ≤ 5 ∧ ∀ k ∈ ks, k < 128
theorem lk.ag {S : List Nat} {σ τ : fS} {ks : List Nat} (h : lk σ ks) (ha : ag S σ τ) (h1 : 61 ∉ S) (h2 : 77 ∉ S) : lk τ ks := ⟨by rw [ha.i h1]; exact h.1, fun i hi => by rw [ha.i h2]; exact h.2.1 i hi, h.2.2⟩
theorem getD_lt {ks : List Nat} {i : Nat} (h : ∀ k ∈ ks, k < 128) (hi : i < ks.length) : ks.getD i 0 < 128 := by
  rw [List.getD_eq_getElem?_getD, List.getElem?_eq_getElem hi]
  exact h _ (List.getElem_mem hi)
theorem take_snoc {ks : List Nat} {i : Nat} (hi : i < ks.length) : ks.take (i + 1) = ks.take i ++ [ks.getD i 0] := by
  rw [List.take_succ, List.getElem?_eq_getElem hi, List.getD_eq_getElem?_getD, List.getElem?_eq_getElem hi]
  rfl
theorem init_M {N q : Nat} {σ : fS} (hN : 200 ≤ N) (hq : q ≤ 169) (p1 : Int32) : ∃ σ', lp_X8_vanishes_16 N p1 (nI q) N (nI 0) σ = some σ' ∧ arr σ' 78 q 1 ∧ arr σ' 79 q 0 ∧ ag [78, 79] σ σ' := by
  obtain ⟨s, ⟨a1, a2⟩, e⟩ := lpU (fun n x s => lp_X8_vanishes_16 N p1 (nI q) n x s) q (fun i s => (∀ r, r < i → s.1 78 r = bI ((1 : Nat).testBit r) ∧ s.1 79 r = 0) ∧ ag [78, 79] σ s) id (by
    intro n i s hi ⟨h1, h2⟩
    refine ⟨sI (sI s 78 i (bI ((1 : Nat).testBit i))) 79 i 0, ⟨fun r hr => ?_, h2.tr ((ag.sI s (by decide) _ _).tr (ag.sI _ (by decide) _ _))⟩, ?_⟩
    · by_cases h : r = i
      · subst h
        exact ⟨by rw [sI_other _ _ (Or.inl (by decide)), sI_same], sI_same _ _ _ _⟩
      · have := h1 r (by omega)
        exact ⟨by rw [sI_other _ _ (Or.inl (by decide)), sI_other _ _ (Or.inr h)]; exact this.1, by rw [sI_other _ _ (Or.inr h), sI_other _ _ (Or.inl (by decide))]; exact this.2⟩
    · show lp_X8_vanishes_16 N p1 (nI q) (n + 1) (nI i) s = _
      have e1 : (if nI i = 0 then (1 : Int32) else 0) = bI ((1 : Nat).testBit i) := by
        have : (nI i = 0) ↔ i = 0 := by show nI i = nI 0 ↔ _; exact nI_eq (by omega) (by omega)
        by_cases h : i = 0
        · rw [if_pos (this.mpr h), h]; rfl
        · rw [if_neg (fun z => h (this.mp z))]
          have : (1 : Nat).testBit i = false := by
            rw [show (1 : Nat) = 2 ^ 0 from rfl, Nat.testBit_two_pow]; simp; omega
          rw [this]; rfl
      rw [lp_X8_vanishes_16, if_neg (by rw [nI_leI (by omega) (by omega)]; omega), Bd_ite1, e1, nI_clamp (show i < 2 ^ 31 by omega)]
      simp only [Gd_c (fin_nI (show i < 169 by omega) (by omega)), Gd_c (bI_B _), Lt_e, nI_1]) (by
    intro n s _
    show lp_X8_vanishes_16 N p1 (nI q) (n + 1) (nI q) s = _
    rw [lp_X8_vanishes_16, if_pos (by rw [nI_leI (by omega) (by omega)]; exact Nat.le_refl _)]; rfl) q N 0 σ (by omega) (by omega) ⟨fun r hr => absurd hr (by omega), ag.rf⟩
  exact ⟨s, e, fun r hr => (a1 r hr).1, fun r hr => by rw [(a1 r hr).2]; simp [bI], a2⟩
theorem terms_M {N j : Nat} {σ : fS} {ks : List Nat} (hN : 200 ≤ N) (hj : j < 7) (hj1 : 1 ≤ j) (hl : lk σ ks) (h78 : arr σ 78 (qAt j) 1) (h79 : arr σ 79 (qAt j) 0) : ∃ σ', lp_X8_vanishes_51 N (nI j) (nI (qAt j)) N (nI 0) σ = some σ' ∧ arr σ' 79 (qAt j) (foM j ks).2 ∧ ag [78, 79, 80, 81] σ σ' := by
  obtain ⟨s, ⟨a1, a2, a3⟩, e⟩ := lpU (fun n x s => lp_X8_vanishes_51 N (nI j) (nI (qAt j)) n x s) ks.length (fun i s => arr s 78 (qAt j) (foM j (ks.take i)).1 ∧ arr s 79 (qAt j) (foM j (ks.take i)).2 ∧ ag [78, 79, 80, 81] σ s) id (by
    intro n i s hi ⟨h1, h2, h3⟩
    have hk := getD_lt hl.2.2.2 hi
    have hl' := hl.ag h3 (by decide) (by decide)
    obtain ⟨s', e', b1, b2, b3⟩ := v_addTerm (N := N) hN hj hj1 hk (foM_lt _).1 (foM_lt _).2 h1 h2
    refine ⟨s', ⟨?_, ?_, h3.tr b3⟩, ?_⟩
    · rw [take_snoc hi, foM_snoc]; exact b1
    · rw [take_snoc hi, foM_snoc]; exact b2
    · show lp_X8_vanishes_51 N (nI j) (nI (qAt j)) (n + 1) (nI i) s = _
      rw [lp_X8_vanishes_51, hl'.1, if_neg (by rw [nI_leI (by have := hl.2.2.1; omega) (by have := hl.2.2.1; omega)]; omega), nI_clamp (show i < 2 ^ 31 by have := hl.2.2.1; omega), Gd_c (fin_nI (show i < 5 by have := hl.2.2.1; omega) (by omega)), hl'.2.1 i hi, v_coreM (by omega) hk, Bd_s, v_primeAt N hj, Bd_s, e', Bv_s, nI_1]) (by
    intro n s ⟨_, _, h3⟩
    show lp_X8_vanishes_51 N (nI j) (nI (qAt j)) (n + 1) (nI ks.length) s = _
    have hl' := hl.ag h3 (by decide) (by decide)
    rw [lp_X8_vanishes_51, hl'.1, if_pos (by rw [nI_leI (by have := hl.2.2.1; omega) (by have := hl.2.2.1; omega)]; exact Nat.le_refl _)]; rfl) ks.length N 0 σ (by omega) (by have := hl.2.2.1; omega) ⟨h78, h79, ag.rf⟩
  rw [List.take_length] at a2
  exact ⟨s, e, a2, a3⟩
theorem bit0_A : ∀ k, k < 128 → (if ((nI k >>> ((0 : Int32) &&& (31 : Int32))) &&& (1 : Int32)) = (1 : Int32) then (1 : Int32) else 0) = bI (k.testBit 0) := by decide +kernel
theorem any_snoc (g : Nat → Bool) (l : List Nat) (x : Nat) : (l ++ [x]).any g = (l.any g || g x) := by rw [List.any_append]; simp
theorem real_M {N : Nat} {σ : fS} {ks : List Nat} (hN : 200 ≤ N) (hl : lk σ ks) : g_X8_vanishesReal N σ = some (bI (vz 0 ks), σ) := by
  obtain ⟨s, hs, e⟩ := lpU (fun n x (s : (Int32 × Int32) × fS) => lp_X8_vanishesReal_6 N n s.1.1 s.1.2 x s.2) ks.length (fun i s => s = ((bI ((ks.take i).any (fun k => !k.testBit 0)), bI ((ks.take i).any (fun k => k.testBit 0))), σ)) id (by
    intro n i s hi hs
    subst hs
    refine ⟨_, rfl, ?_⟩
    have hk := getD_lt hl.2.2.2 hi
    have h5 := hl.2.2.1
    show lp_X8_vanishesReal_6 N (n + 1) _ _ (nI i) σ = lp_X8_vanishesReal_6 N n _ _ (nI (i + 1)) σ
    rw [lp_X8_vanishesReal_6, hl.1, if_neg (by rw [nI_leI (by omega) (by omega)]; omega), nI_clamp (show i < 2 ^ 31 by omega), take_snoc hi, any_snoc, any_snoc]
    simp only [Gd_c (fin_nI (show i < 5 by omega) (by omega)), hl.2.1 i hi, v_isIn, Bd_s, bit0_A _ hk, nI_1]
    have t1 : ∀ A B : Bool, (Bd (if bI A = 0 then (if bI B = 0 then some ((1 : Int32), σ) else some ((0 : Int32), σ)) else some ((1 : Int32), σ)) : ((Int32 → fS → Option ((Int32 × Int32) × fS)) → Option ((Int32 × Int32) × fS))) = fun k => k (bI (A || !B)) σ := by
      intro A B
      funext k
      cases A <;> cases B <;> rfl
    rw [t1]
    dsimp only
    simp only [hl.2.1 i hi, bit0_A _ hk]
    cases (ks.take i).any (fun k => !k.testBit 0) <;> cases (ks.take i).any (fun k => k.testBit 0) <;> cases (ks.getD i 0).testBit 0 <;> rfl) (by
    intro n s hs
    subst hs
    show lp_X8_vanishesReal_6 N (n + 1) _ _ (nI ks.length) σ = _
    have h5 := hl.2.2.1
    rw [lp_X8_vanishesReal_6, hl.1, if_pos (by rw [nI_leI (by omega) (by omega)]; exact Nat.le_refl _)]; rfl) ks.length N 0 ((0, 0), σ) (by omega) (by have := hl.2.2.1; omega) (by simp [bI])
  subst hs
  unfold g_X8_vanishesReal
  rw [show lp_X8_vanishesReal_6 N N 0 0 0 σ = _ from e, List.take_length]
  unfold vz
  rw [if_pos rfl]
  show (Bd (some ((_, _), σ)) _ : Option (Int32 × fS)) = _
  rw [Bd_s]
  cases ks.any (fun k => !k.testBit 0) <;> cases ks.any (fun k => k.testBit 0) <;> rfl
theorem v_vanM {N j : Nat} {σ : fS} {ks : List Nat} (hN : 200 ≤ N) (hj : j < 7) (hl : lk σ ks) : ∃ σ', g_X8_vanishes N (nI j) σ = some (bI (vz j ks), σ') ∧ ag [78, 79, 80, 81] σ σ' := by
  have hj0 : (nI j = 0) ↔ j = 0 := by show nI j = nI 0 ↔ _; exact nI_eq (by omega) (by omega)
  by_cases h0 : j = 0
  · subst h0
    refine ⟨σ, ?_, ag.rf⟩
    unfold g_X8_vanishes
    rw [if_pos (hj0.mpr rfl), real_M hN hl, Bd_s, Gd_c (bI_B _)]
  · have hq := qAt_le j
    have hq0 := qAt_pos j
    obtain ⟨s1, e1, a1, a2, a3⟩ := init_M (N := N) (σ := σ) hN hq (nI j)
    obtain ⟨s2, e2, b2, b3⟩ := terms_M hN hj (by omega) (hl.ag a3 (by decide) (by decide)) a1 a2
    refine ⟨s2, ?_, (a3.mono (by decide)).tr b3⟩
    have e4 : s2.1 79 0 = bI (vz j ks) := by
      rw [b2 0 hq0]; unfold vz; rw [if_neg h0]
    unfold g_X8_vanishes
    rw [if_neg (fun z => h0 (hj0.mp z)), v_modAt N hj, Bd_s]
    erw [e1, Bv_s, e2, Bv_s, Gd_c (show fin 0 169 = true by decide)]
    rw [show (0 : Int32).toNatClampNeg = 0 from rfl, e4, Gd_c (bI_B _)]

/-- BARS of a list of CLASSES -/
theorem or0 (n : Nat) : nI n ||| (0 : Int32) = nI n := by show nI n ||| nI 0 = _; rw [orI, Nat.or_zero]
def barsL (ks : List Nat) : Nat := (List.range 7).foldl (fun a j => if vz j ks then a else a ||| 2 ^ j) 0
theorem lpI_7 {j : Nat} (hj : j < 7) : ¬ (7 : Int32) ≤ nI j := by show ¬ nI 7 ≤ nI j; rw [nI_leI (by omega) (by omega)]; omega
theorem v_barsM {N : Nat} {σ : fS} {ks : List Nat} (hN : 200 ≤ N) (hl : lk σ ks) : ∃ σ', g_X8_barsNow N σ = some (nI (barsL ks), σ') ∧ ag [78, 79, 80, 81] σ σ' := by
  obtain ⟨s, ⟨h1, h2⟩, e⟩ := lpU (fun n x (s : Int32 × fS) => lp_X8_barsNow_4 N n s.1 x s.2) 7 (fun i s => s.1 = nI ((List.range i).foldl (fun a j => if vz j ks then a else a ||| 2 ^ j) 0) ∧ ag [78, 79, 80, 81] σ s.2) id (by
    intro n i s hi ⟨h1, h2⟩
    obtain ⟨s', e', b⟩ := v_vanM hN hi (hl.ag h2 (by decide) (by decide))
    refine ⟨(nI ((List.range (i + 1)).foldl (fun a j => if vz j ks then a else a ||| 2 ^ j) 0), s'), ⟨rfl, h2.tr b⟩, ?_⟩
    show lp_X8_barsNow_4 N (n + 1) s.1 (nI i) s.2 = lp_X8_barsNow_4 N n _ (nI (i + 1)) s'
    rw [lp_X8_barsNow_4, if_neg (lpI_7 hi), e', Bd_s, fold_succ, h1, shl_A i hi, orI, nI_1]
    cases vz i ks
    · rfl
    · rw [if_neg (show ¬ bI true = 0 by decide), or0]; rfl) (by
    intro n s ⟨h1, h2⟩
    show lp_X8_barsNow_4 N (n + 1) s.1 (nI 7) s.2 = _
    rw [lp_X8_barsNow_4, if_pos (by decide)]; rfl) 7 N 0 (0, σ) (by omega) (by omega) ⟨rfl, ag.rf⟩
  refine ⟨s.2, ?_, h2⟩
  unfold g_X8_barsNow
  rw [show lp_X8_barsNow_4 N N 0 0 σ = _ from e]
  show (Bd (some (s.1, s.2)) _ : Option (Int32 × fS)) = _
  rw [Bd_s, h1]
  rfl
/-- SYMBOL of two CLASSES -/
def symZ (j a b : Nat) : Bool := vz j [a, b, 1]
theorem v_symM {N j a b : Nat} {σ : fS} (hN : 200 ≤ N) (hj : j < 7) (ha : a < 128) (hb : b < 128) : ∃ σ', g_X8_symbolNow N (nI a) (nI b) (nI j) σ = some (if symZ j a b then 1 else -1, σ') ∧ ag [61, 77, 78, 79, 80, 81] σ σ' ∧ (∀ i, i ≠ 21 → σ'.1 61 i = σ.1 61 i) := by
  have hl : lk (sI (sI (sI (sI σ 61 21 3) 77 0 (nI a)) 77 1 (nI b)) 77 2 1) [a, b, 1] := by
    refine ⟨?_, ?_, by simp, ?_⟩
    · rw [sI_other _ _ (Or.inl (by decide)), sI_other _ _ (Or.inl (by decide)), sI_other _ _ (Or.inl (by decide)), sI_same]; rfl
    · intro i hi
      match i, hi with
      | 0, _ => rw [sI_other _ _ (Or.inr (by decide)), sI_other _ _ (Or.inr (by decide)), sI_same]; rfl
      | 1, _ => rw [sI_other _ _ (Or.inr (by decide)), sI_same]; rfl
      | 2, _ => rw [sI_same]; rfl
      | i + 3, hi => exact absurd hi (by simp)
    · intro k hk
      simp at hk
      omega
  obtain ⟨s, e, h⟩ := v_vanM hN hj hl
  refine ⟨s, ?_, ?_, ?_⟩
  · unfold g_X8_symbolNow
    simp only [Lt_e, Gd_c (show fin 0 5 = true by decide), Gd_c (show fin 1 5 = true by decide), Gd_c (show fin 2 5 = true by decide)]
    rw [show (0 : Int32).toNatClampNeg = 0 from rfl, show (1 : Int32).toNatClampNeg = 1 from rfl, show (2 : Int32).toNatClampNeg = 2 from rfl, e, Bd_s]
    unfold symZ
    cases vz j [a, b, 1] <;> rfl
  · exact ((((ag.sI σ (by decide) _ _).tr (ag.sI _ (by decide) _ _)).tr (ag.sI _ (by decide) _ _)).tr (ag.sI _ (by decide) _ _)).tr (h.mono (by decide))
  · intro i hi
    rw [h.i (by decide), sI_other _ _ (Or.inl (by decide)), sI_other _ _ (Or.inl (by decide)), sI_other _ _ (Or.inl (by decide)), sI_other _ _ (Or.inr hi)]
/-- the PLACES at which the SYMBOL is -1 -/
def symL (a b : Nat) : Nat := barsL [a, b, 1]
theorem v_unlikeM {N a b : Nat} {σ : fS} (hN : 200 ≤ N) (ha : a < 128) (hb : b < 128) : ∃ σ', g_X8_unlike N (nI a) (nI b) σ = some (nI (symL a b), σ') ∧ ag [61, 77, 78, 79, 80, 81] σ σ' ∧ (∀ i, i ≠ 21 → σ'.1 61 i = σ.1 61 i) := by
  obtain ⟨s, ⟨h1, h2, h3⟩, e⟩ := lpU (fun n x (s : Int32 × fS) => lp_X8_unlike_5 N (nI a) (nI b) n s.1 x s.2) 7 (fun i s => s.1 = nI ((List.range i).foldl (fun c j => if vz j [a, b, 1] then c else c ||| 2 ^ j) 0) ∧ ag [61, 77, 78, 79, 80, 81] σ s.2 ∧ (∀ i, i ≠ 21 → s.2.1 61 i = σ.1 61 i)) id (by
    intro n i s hi ⟨h1, h2, h3⟩
    obtain ⟨s', e', b1, b2⟩ := v_symM (σ := s.2) hN hi ha hb
    refine ⟨(nI ((List.range (i + 1)).foldl (fun c j => if vz j [a, b, 1] then c else c ||| 2 ^ j) 0), s'), ⟨rfl, h2.tr b1, fun i hi => by rw [b2 i hi, h3 i hi]⟩, ?_⟩
    show lp_X8_unlike_5 N (nI a) (nI b) (n + 1) s.1 (nI i) s.2 = lp_X8_unlike_5 N (nI a) (nI b) n _ (nI (i + 1)) s'
    rw [lp_X8_unlike_5, if_neg (lpI_7 hi), e', Bd_s, fold_succ, h1, shl_A i hi, orI, nI_1]
    unfold symZ
    cases vz i [a, b, 1]
    · rfl
    · rw [if_pos (show (0 : Int32) ≤ (if true = true then 1 else -1) by decide), or0]; rfl) (by
    intro n s ⟨h1, h2, h3⟩
    show lp_X8_unlike_5 N (nI a) (nI b) (n + 1) s.1 (nI 7) s.2 = _
    rw [lp_X8_unlike_5, if_pos (by decide)]; rfl) 7 N 0 (0, σ) (by omega) (by omega) ⟨rfl, ag.rf, fun _ _ => rfl⟩
  refine ⟨s.2, ?_, h2, h3⟩
  unfold g_X8_unlike
  rw [show lp_X8_unlike_5 N (nI a) (nI b) N 0 0 σ = _ from e]
  show (Bd (some (s.1, s.2)) _ : Option (Int32 × fS)) = _
  rw [Bd_s, h1]
  rfl
