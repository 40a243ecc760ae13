/-! the class's FORMS and its sum -/
def fr0 (σ : fS) (k : Nat) (l : List Nat) : Prop := σ.1 k 1 = nI l.length ∧ (∀ i, i < l.length → σ.1 (k + 1) i = nI (l.getD i 0)) ∧ l.length ≤ 4 ∧ ∀ a ∈ l, a < 128
theorem fr0.ag {S : List Nat} {σ τ : fS} {k : Nat} {l : List Nat} (h : fr0 σ k l) (ha : ag S σ τ) (h1 : k ∉ S) (h2 : k + 1 ∉ S) : fr0 τ k l := ⟨by rw [ha.i h1]; exact h.1, fun i hi => by rw [ha.i h2]; exact h.2.1 i hi, h.2.2⟩
theorem fr0.of {σ τ : fS} {k : Nat} {l : List Nat} (h : fr0 σ k l) (h1 : τ.1 k 1 = σ.1 k 1) (h2 : τ.1 (k + 1) = σ.1 (k + 1)) : fr0 τ k l := ⟨by rw [h1]; exact h.1, fun i hi => by rw [h2]; exact h.2.1 i hi, h.2.2⟩
theorem n_lt0 {a : Nat} (h : a < 2 ^ 31) : ¬ nI a < 0 := nI_pos h
theorem n_le {a b : Nat} (hb : b < 2 ^ 31) (h : a < b) : ¬ nI b ≤ nI a := by rw [nI_leI hb (by omega)]; omega
theorem y_le {a b : Nat} (hb : a < 2 ^ 31) (h : b ≤ a) : nI b ≤ nI a := by rw [nI_leI (by omega) hb]; exact h
theorem v_kindAt {N k i : Nat} {σ : fS} {l : List Nat} (h : fr0 σ k l) (hi : i < l.length) : g_X0_kindAt N k (nI i) σ = some (nI (l.getD i 0), σ) := by
  have h4 := h.2.2.1
  unfold g_X0_kindAt
  rw [if_neg (n_lt0 (by omega)), h.1, if_neg (n_le (by omega) hi), if_neg (show ¬ (4 : Int32) ≤ nI i from n_le (b := 4) (by omega) (by omega)), Gd_c (fin_nI (show i < 4 by omega) (by omega)), nI_clamp (show i < 2 ^ 31 by omega), h.2.1 i hi]
theorem getD_snoc_lt {l : List Nat} {a i : Nat} (h : i < l.length) : (l ++ [a]).getD i 0 = l.getD i 0 := by
  rw [List.getD_eq_getElem?_getD, List.getD_eq_getElem?_getD, List.getElem?_append_left h]
theorem getD_snoc_eq {l : List Nat} {a : Nat} : (l ++ [a]).getD l.length 0 = a := by
  rw [List.getD_eq_getElem?_getD, List.getElem?_append_right (Nat.le_refl _)]
  simp
theorem v_empty {N k : Nat} {σ : fS} : ∃ σ', g_X0_empty N k σ = some σ' ∧ fr0 σ' k [] ∧ ag [k] σ σ' := by
  refine ⟨_, rfl, ⟨?_, fun i hi => absurd hi (by simp), by simp, by simp⟩, ((ag.sI σ (by simp) _ _).tr (ag.sI _ (by simp) _ _)).tr (ag.sI _ (by simp) _ _)⟩
  rw [sI_other _ _ (Or.inr (by decide)), sI_other _ _ (Or.inr (by decide)), sI_same]; rfl
theorem v_add {N k a : Nat} {σ : fS} {l : List Nat} (h : fr0 σ k l) (hl : l.length < 4) (ha : a < 128) : ∃ σ', g_X0_add N k (nI a) σ = some σ' ∧ fr0 σ' k (l ++ [a]) ∧ ag [k, k + 1] σ σ' := by
  have e1 : (sI σ (k + 1) l.length (nI a)).1 k 1 = nI l.length := by rw [sI_other _ _ (Or.inl (by omega))]; exact h.1
  refine ⟨sI (sI σ (k + 1) l.length (nI a)) k 1 (nI (l.length + 1)), ?_, ⟨?_, fun i hi => ?_, ?_, ?_⟩, (ag.sI σ (by simp) _ _).tr (ag.sI _ (by simp) _ _)⟩
  · unfold g_X0_add
    rw [h.1, if_neg (n_lt0 (by omega)), if_neg (show ¬ (4 : Int32) ≤ nI l.length from n_le (b := 4) (by omega) hl), Gd_c (fin_nI hl (by omega)), nI_clamp (show l.length < 2 ^ 31 by omega), Lt_e, Lt_e, e1, nI_1]
  · rw [sI_same, List.length_append]; rfl
  · rw [sI_other _ _ (Or.inl (by omega)), sI_1]
    rw [List.length_append] at hi
    by_cases hx : i = l.length
    · subst hx
      rw [if_pos ⟨rfl, rfl⟩, getD_snoc_eq]
    · rw [if_neg (fun z => hx z.2), getD_snoc_lt (by simp at hi; omega)]
      exact h.2.1 i (by simp at hi; omega)
  · rw [List.length_append]; simp; omega
  · intro b hb
    rcases List.mem_append.mp hb with hb | hb
    · exact h.2.2.2 b hb
    · rw [List.mem_singleton.mp hb]; exact ha
theorem xor_lt7 {a b : Nat} (ha : a < 128) (hb : b < 128) : a ^^^ b < 128 := Nat.xor_lt_two_pow (n := 7) ha hb
theorem v_addTimes {N k k1 c : Nat} {σ : fS} {l m : List Nat} (hN : 200 ≤ N) (h : fr0 σ k l) (h1 : fr0 σ k1 m) (hlm : l.length + m.length ≤ 4) (hc : c < 128) (hk : k1 ≠ k ∧ k1 ≠ k + 1 ∧ k1 + 1 ≠ k) : ∃ σ', g_X0_addTimes N k k1 (nI c) σ = some σ' ∧ fr0 σ' k (l ++ m.map (fun a => a ^^^ c)) ∧ ag [k, k + 1] σ σ' := by
  obtain ⟨s, ⟨a1, a2⟩, e⟩ := lpU (fun n x s => lp_X0_addTimes_2 N k k1 (nI c) n x s) m.length (fun i s => fr0 s k (l ++ (m.take i).map (fun a => a ^^^ c)) ∧ ag [k, k + 1] σ s) id (by
    intro n i s hi ⟨b1, b2⟩
    have hm : fr0 s k1 m := h1.ag b2 (by simp; omega) (by simp; omega)
    have hlen : (l ++ (m.take i).map (fun a => a ^^^ c)).length < 4 := by simp; omega
    obtain ⟨s', e', c1, c2⟩ := v_add (N := N) b1 hlen (xor_lt7 (getD_lt h1.2.2.2 hi) hc)
    refine ⟨s', ⟨?_, b2.tr c2⟩, ?_⟩
    · rw [take_snoc hi, List.map_append, ← List.append_assoc]; exact c1
    · show lp_X0_addTimes_2 N k k1 (nI c) (n + 1) (nI i) s = _
      rw [lp_X0_addTimes_2, hm.1, if_neg (n_le (by omega) hi), v_kindAt hm hi, Bd_s, xorI, e', Bv_s, nI_1]) (by
    intro n s ⟨b1, b2⟩
    have hm : fr0 s k1 m := h1.ag b2 (by simp; omega) (by simp; omega)
    show lp_X0_addTimes_2 N k k1 (nI c) (n + 1) (nI m.length) s = _
    rw [lp_X0_addTimes_2, hm.1, if_pos (y_le (by omega) (Nat.le_refl _))]; rfl) m.length N 0 σ (by omega) (by omega) ⟨by simpa using h, ag.rf⟩
  rw [List.take_length] at a1
  refine ⟨s, ?_, a1, a2⟩
  unfold g_X0_addTimes
  rw [show lp_X0_addTimes_2 N k k1 (nI c) N 0 σ = _ from e]
  rfl
theorem v_copy {N k k1 : Nat} {σ : fS} (hN : 200 ≤ N) (hk : k1 ≠ k ∧ k1 ≠ k + 1 ∧ k1 + 1 ≠ k) : ∃ σ', g_X0_copy N k k1 σ = some σ' ∧ (∀ i, i < 4 → σ'.1 (k + 1) i = σ.1 (k1 + 1) i) ∧ σ'.1 k 1 = σ.1 k1 1 ∧ σ'.1 k 2 = σ.1 k1 2 ∧ σ'.1 k 3 = σ.1 k1 3 ∧ ag [k, k + 1] σ σ' := by
  obtain ⟨s, ⟨a1, a2⟩, e⟩ := lpU (fun n x s => lp_X0_copy_2 N k k1 n x s) 4 (fun i s => (∀ r, r < i → s.1 (k + 1) r = σ.1 (k1 + 1) r) ∧ ag [k + 1] σ s) id (by
    intro n i s hi ⟨b1, b2⟩
    have e1 : s.1 (k1 + 1) i = σ.1 (k1 + 1) i := by rw [b2.i (by simp; omega)]
    refine ⟨sI s (k + 1) i (σ.1 (k1 + 1) i), ⟨fun r hr => ?_, b2.tr (ag.sI s (by simp) _ _)⟩, ?_⟩
    · by_cases hx : r = i
      · subst hx; rw [sI_same]
      · rw [sI_other _ _ (Or.inr hx)]; exact b1 r (by omega)
    · show lp_X0_copy_2 N k k1 (n + 1) (nI i) s = _
      rw [lp_X0_copy_2, if_neg (show ¬ (4 : Int32) ≤ nI i from n_le (b := 4) (by omega) hi), nI_clamp (show i < 2 ^ 31 by omega)]
      simp only [Gd_c (fin_nI hi (show 4 < 2 ^ 31 by omega)), Lt_e, e1, nI_1]) (by
    intro n s _
    show lp_X0_copy_2 N k k1 (n + 1) (nI 4) s = _
    rw [lp_X0_copy_2, if_pos (by decide)]; rfl) 4 N 0 σ (by omega) (by omega) ⟨fun r hr => absurd hr (by omega), ag.rf⟩
  have e0 : ∀ j, s.1 k1 j = σ.1 k1 j := fun j => by rw [a2.i (by simp; omega)]
  refine ⟨sI (sI (sI s k 1 (σ.1 k1 1)) k 2 (σ.1 k1 2)) k 3 (σ.1 k1 3), ?_, fun i hi => ?_, ?_, ?_, ?_, ?_⟩
  · unfold g_X0_copy
    rw [show lp_X0_copy_2 N k k1 N 0 σ = _ from e]
    show (Bv (some s) _ : Option fS) = _
    rw [Bv_s, Lt_e, Lt_e, Lt_e, e0, sI_other _ _ (Or.inl hk.1), e0, sI_other _ _ (Or.inl hk.1), sI_other _ _ (Or.inl hk.1), e0]
  · rw [sI_other _ _ (Or.inl (by omega)), sI_other _ _ (Or.inl (by omega)), sI_other _ _ (Or.inl (by omega))]
    exact a1 i hi
  · rw [sI_other _ _ (Or.inr (by decide)), sI_other _ _ (Or.inr (by decide)), sI_same]
  · rw [sI_other _ _ (Or.inr (by decide)), sI_same]
  · rw [sI_same]
  · exact (a2.mono (by simp)).tr (((ag.sI s (by simp) _ _).tr (ag.sI _ (by simp) _ _)).tr (ag.sI _ (by simp) _ _))
/-! the sum -/
theorem sm.ag {S : List Nat} {σ τ : fS} {ks : List Nat} (h : sm σ ks) (ha : ag S σ τ) (h1 : 16 ∉ S) (h2 : 17 ∉ S) : sm τ ks := ⟨by rw [ha.i h1]; exact h.1, fun i hi => by rw [ha.i h2]; exact h.2.1 i hi, h.2.2⟩
theorem v_start {N : Nat} {σ : fS} : ∃ σ', g_X6_start N σ = some σ' ∧ sm σ' [] ∧ ag [16, 17] σ σ' := ⟨_, rfl, ⟨sI_same _ _ _ _, fun i hi => absurd hi (by simp), by simp, by simp⟩, ag.sI σ (by simp) _ _⟩
theorem v_sadd {N a : Nat} {σ : fS} {ks : List Nat} (hN : 200 ≤ N) (h : sm σ ks) (hl : ks.length < 5) (ha : a < 128) : ∃ σ', g_X6_add N (nI a) σ = some σ' ∧ sm σ' (ks ++ [a]) ∧ ag [16, 17] σ σ' := by
  have e1 : (sI σ 17 ks.length (cr a)).1 16 1 = nI ks.length := by rw [sI_other _ _ (Or.inl (by omega))]; exact h.1
  refine ⟨sI (sI σ 17 ks.length (cr a)) 16 1 (nI (ks.length + 1)), ?_, ⟨?_, fun i hi => ?_, ?_, ?_⟩, (ag.sI σ (by simp) _ _).tr (ag.sI _ (by simp) _ _)⟩
  · unfold g_X6_add
    rw [h.1, if_neg (n_lt0 (by omega)), if_neg (show ¬ (5 : Int32) ≤ nI ks.length from n_le (b := 5) (by omega) hl), v_coreX (by omega) ha, Bd_s, Gd_c (fin_nI hl (by omega)), nI_clamp (show ks.length < 2 ^ 31 by omega), Lt_e, Lt_e, e1, nI_1]
  · rw [sI_same, List.length_append]; rfl
  · rw [sI_other _ _ (Or.inl (by omega)), sI_1]
    rw [List.length_append] at hi
    by_cases hx : i = ks.length
    · subst hx
      rw [if_pos ⟨rfl, rfl⟩, getD_snoc_eq]
    · rw [if_neg (fun z => hx z.2), getD_snoc_lt (by simp at hi; omega)]
      exact h.2.1 i (by simp at hi; omega)
  · rw [List.length_append]; simp; omega
  · intro b hb
    rcases List.mem_append.mp hb with hb | hb
    · exact h.2.2.2 b hb
    · rw [List.mem_singleton.mp hb]; exact ha
theorem v_addAll {N k : Nat} {σ : fS} {l ks : List Nat} (hN : 200 ≤ N) (h : sm σ ks) (h1 : fr0 σ k l) (hl : ks.length + l.length ≤ 5) (hk : k ∉ [16, 17] ∧ k + 1 ∉ [16, 17]) : ∃ σ', g_X6_addAll N k σ = some σ' ∧ sm σ' (ks ++ l) ∧ ag [16, 17] σ σ' := by
  obtain ⟨s, ⟨a1, a2⟩, e⟩ := lpU (fun n x s => lp_X6_addAll_2 N k n x s) l.length (fun i s => sm s (ks ++ l.take i) ∧ ag [16, 17] σ s) id (by
    intro n i s hi ⟨b1, b2⟩
    have hm : fr0 s k l := h1.ag b2 hk.1 hk.2
    have hlen : (ks ++ l.take i).length < 5 := by simp; omega
    obtain ⟨s', e', c1, c2⟩ := v_sadd hN b1 hlen (getD_lt h1.2.2.2 hi)
    refine ⟨s', ⟨?_, b2.tr c2⟩, ?_⟩
    · rw [take_snoc hi, ← List.append_assoc]; exact c1
    · show lp_X6_addAll_2 N k (n + 1) (nI i) s = _
      rw [lp_X6_addAll_2, hm.1, if_neg (n_le (by omega) hi), v_kindAt hm hi, Bd_s, e', Bv_s, nI_1]) (by
    intro n s ⟨b1, b2⟩
    have hm : fr0 s k l := h1.ag b2 hk.1 hk.2
    show lp_X6_addAll_2 N k (n + 1) (nI l.length) s = _
    rw [lp_X6_addAll_2, hm.1, if_pos (y_le (by omega) (Nat.le_refl _))]; rfl) l.length N 0 σ (by omega) (by have := h1.2.2.1; omega) ⟨by simpa using h, ag.rf⟩
  rw [List.take_length] at a1
  refine ⟨s, ?_, a1, a2⟩
  unfold g_X6_addAll
  rw [show lp_X6_addAll_2 N k N 0 σ = _ from e]
  rfl
theorem v_symX {N a b : Nat} {σ : fS} (hN : 200 ≤ N) (ha : a < 128) (hb : b < 128) : ∃ σ', g_X6_symbolBits N (nI a) (nI b) σ = some (nI (symL a b), σ') ∧ ag [16, 17] σ σ' := by
  obtain ⟨s1, e1, a1, g1⟩ := v_start (N := N) (σ := σ)
  obtain ⟨s2, e2, a2, g2⟩ := v_sadd hN a1 (by simp) ha
  obtain ⟨s3, e3, a3, g3⟩ := v_sadd hN a2 (by simp) hb
  obtain ⟨s4, e4, a4, g4⟩ := v_sadd hN a3 (by simp) (show 1 < 128 by omega)
  refine ⟨s4, ?_, ((g1.tr g2).tr g3).tr g4⟩
  unfold g_X6_symbolBits
  rw [e1, Bv_s, e2, Bv_s, e3, Bv_s, show (1 : Int32) = nI 1 from rfl, e4, Bv_s, v_barsX hN a4, Bd_s]
  rfl
def unsL (a : Nat) : Nat := barsL [a, 1]
theorem v_unsX {N a : Nat} {σ : fS} (hN : 200 ≤ N) (ha : a < 128) : ∃ σ', g_X6_unsquareBits N (nI a) σ = some (nI (unsL a), σ') ∧ ag [16, 17] σ σ' := by
  obtain ⟨s1, e1, a1, g1⟩ := v_start (N := N) (σ := σ)
  obtain ⟨s2, e2, a2, g2⟩ := v_sadd hN a1 (by simp) ha
  obtain ⟨s4, e4, a4, g4⟩ := v_sadd hN a2 (by simp) (show 1 < 128 by omega)
  refine ⟨s4, ?_, (g1.tr g2).tr g4⟩
  unfold g_X6_unsquareBits
  rw [e1, Bv_s, e2, Bv_s, show (1 : Int32) = nI 1 from rfl, e4, Bv_s, v_barsX hN a4, Bd_s]
  rfl
/-! HASSE -/
def hasI (l : List Nat) (t a acc : Nat) : Nat := (List.range a).foldl (fun c i => c ^^^ symL (l.getD i 0) (l.getD t 0)) acc
def hasO (l : List Nat) (t : Nat) : Nat := (List.range t).foldl (fun c i => hasI l i i c) 0
def hasL (l : List Nat) : Nat := hasO l l.length
theorem v_settle {N k : Nat} {σ : fS} {l : List Nat} (hN : 200 ≤ N) (h : fr0 σ k l) (hk : k ∉ [16, 17] ∧ k + 1 ∉ [16, 17]) : ∃ σ', g_X0_settle N k σ = some σ' ∧ fr0 σ' k l ∧ σ'.1 k 2 = nI (hasL l) ∧ σ'.1 k 3 = nI (barsL l) ∧ ag [k, 16, 17] σ σ' := by
  have h4 := h.2.2.1
  have hk16 : (16 : Nat) ≠ k ∧ (17 : Nat) ≠ k ∧ k ≠ 16 ∧ k ≠ 17 ∧ k + 1 ≠ 16 ∧ k + 1 ≠ 17 := by
    have h1 := hk.1
    have h2 := hk.2
    simp at h1 h2
    omega
  have inner : ∀ (t acc : Nat) (s : fS), t < l.length → fr0 s k l → s.1 k 2 = nI acc → ∃ s', lp_X0_settle_17 N k (nI t) N (nI 0) s = some s' ∧ fr0 s' k l ∧ s'.1 k 2 = nI (hasI l t t acc) ∧ ag [k, 16, 17] s s' := by
    intro t acc s ht hs ha
    obtain ⟨s', ⟨b1, b2, b3⟩, e⟩ := lpU (fun n x s => lp_X0_settle_17 N k (nI t) n x s) t (fun i u => fr0 u k l ∧ u.1 k 2 = nI (hasI l t i acc) ∧ ag [k, 16, 17] s u) id (by
      intro n i u hi ⟨c1, c2, c3⟩
      obtain ⟨u', e', d1⟩ := v_symX (σ := u) hN (getD_lt h.2.2.2 (show i < l.length by omega)) (getD_lt h.2.2.2 ht)
      have f1 : fr0 u' k l := c1.ag d1 hk.1 hk.2
      refine ⟨sI u' k 2 (nI (hasI l t (i + 1) acc)), ⟨f1.of (sI_other _ _ (Or.inr (by decide))) (by rw [sI_ne _ _ _ (by omega)]), sI_same _ _ _ _, c3.tr ((d1.mono (by simp)).tr (ag.sI _ (by simp) _ _))⟩, ?_⟩
      show lp_X0_settle_17 N k (nI t) (n + 1) (nI i) u = _
      rw [lp_X0_settle_17, if_neg (n_le (by omega) hi), v_kindAt c1 (by omega), Bd_s, v_kindAt c1 ht, Bd_s, e', Bd_s, Lt_e, c2, xorI, nI_1]
      unfold hasI
      rw [fold_succ]) (by
      intro n u _
      show lp_X0_settle_17 N k (nI t) (n + 1) (nI t) u = _
      rw [lp_X0_settle_17, if_pos (y_le (by omega) (Nat.le_refl _))]; rfl) t N 0 s (by omega) (by omega) ⟨hs, ha, ag.rf⟩
    exact ⟨s', e, b1, b2, b3⟩
  have f0 : fr0 (sI σ k 2 0) k l := h.of (sI_other _ _ (Or.inr (by decide))) (by rw [sI_ne _ _ _ (by omega)])
  have outer : ∃ s', lp_X0_settle_7 N k N (nI 1) (sI σ k 2 0) = some s' ∧ fr0 s' k l ∧ s'.1 k 2 = nI (hasL l) ∧ ag [k, 16, 17] (sI σ k 2 0) s' := by
    rcases Nat.eq_zero_or_pos l.length with hz | hz
    · refine ⟨_, ?_, f0, ?_, ag.rf⟩
      · have key : ∀ M, 1 ≤ M → lp_X0_settle_7 N k M (nI 1) (sI σ k 2 0) = some (sI σ k 2 0) := by
          intro M hM
          obtain ⟨m, rfl⟩ : ∃ m, M = m + 1 := ⟨M - 1, by omega⟩
          rw [lp_X0_settle_7, f0.1, if_pos (y_le (by omega) (by omega))]
        exact key N (by omega)
      · rw [sI_same]; unfold hasL hasO; rw [hz]; rfl
    · obtain ⟨s', ⟨b1, b2, b3⟩, e⟩ := lpU (fun n x s => lp_X0_settle_7 N k n x s) l.length (fun i u => fr0 u k l ∧ u.1 k 2 = nI (hasO l i) ∧ ag [k, 16, 17] (sI σ k 2 0) u) id (by
        intro n i u hi ⟨c1, c2, c3⟩
        obtain ⟨u', e', d1, d2, d3⟩ := inner i _ u hi c1 c2
        refine ⟨u', ⟨d1, ?_, c3.tr d3⟩, ?_⟩
        · rw [d2]; unfold hasO; rw [fold_succ]
        · show lp_X0_settle_7 N k (n + 1) (nI i) u = _
          rw [lp_X0_settle_7, c1.1, if_neg (n_le (by omega) hi), show (0 : Int32) = nI 0 from rfl, e', Bv_s, nI_1]) (by
        intro n u ⟨c1, _, _⟩
        show lp_X0_settle_7 N k (n + 1) (nI l.length) u = _
        rw [lp_X0_settle_7, c1.1, if_pos (y_le (by omega) (Nat.le_refl _))]; rfl) (l.length - 1) N 1 (sI σ k 2 0) (by omega) (by omega) ⟨f0, by rw [sI_same]; rfl, ag.rf⟩
      exact ⟨s', e, b1, b2, b3⟩
  obtain ⟨s1, e1, a1, a2, a3⟩ := outer
  obtain ⟨s2, e2, b1, b2⟩ := v_start (N := N) (σ := s1)
  obtain ⟨s3, e3, c1, c2⟩ := v_addAll hN b1 (a1.ag b2 hk.1 hk.2) (by simp; omega) hk
  rw [List.nil_append] at c1
  have f3 : fr0 s3 k l := (a1.ag b2 hk.1 hk.2).ag c2 hk.1 hk.2
  refine ⟨sI s3 k 3 (nI (barsL l)), ?_, f3.of (sI_other _ _ (Or.inr (by decide))) (by rw [sI_ne _ _ _ (by omega)]), ?_, sI_same _ _ _ _, ?_⟩
  · unfold g_X0_settle
    rw [Lt_e]
    erw [e1, Bv_s, e2, Bv_s, e3, Bv_s, v_barsX hN c1, Bd_s]
    rfl
  · rw [sI_other _ _ (Or.inr (by decide)), c2.i hk.1, b2.i hk.1]; exact a2
  · exact (((ag.sI σ (by simp) _ _).tr a3).tr ((b2.tr c2).mono (by simp))).tr (ag.sI _ (by simp) _ _)
