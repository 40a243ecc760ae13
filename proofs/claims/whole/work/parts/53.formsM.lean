/-! the reference's FORMS on SHELVES; what is asked of them changes only what it remembers -/
def mf0 (σ : fS) (i : Nat) (l : List Nat) : Prop := σ.1 62 i = nI l.length ∧ (∀ j, j < l.length → σ.1 63 (4 * i + j) = nI (l.getD j 0)) ∧ l.length ≤ 4 ∧ ∀ a ∈ l, a < 128
def MS (σ : fS) (S : Nat → List Nat) : Prop := ∀ i, i < 8 → mf0 σ i (S i) ∧ (σ.1 64 i = 0 ∨ (σ.1 64 i = 1 ∧ σ.1 65 i = nI (hasL (S i)) ∧ σ.1 66 i = nI (barsL (S i))))
def qS : List Nat := [61, 64, 65, 66, 77, 78, 79, 80, 81]
def qM (σ τ : fS) : Prop := ag qS σ τ ∧ ∀ i, i ≠ 21 → τ.1 61 i = σ.1 61 i
theorem qM.rf {σ : fS} : qM σ σ := ⟨ag.rf, fun _ _ => rfl⟩
theorem qM.tr {σ τ ρ : fS} (h1 : qM σ τ) (h2 : qM τ ρ) : qM σ ρ := ⟨h1.1.tr h2.1, fun i hi => (h2.2 i hi).trans (h1.2 i hi)⟩
theorem MS.ag {S : Nat → List Nat} {T : List Nat} {σ τ : fS} (h : MS σ S) (ha : ag T σ τ) (h1 : 62 ∉ T ∧ 63 ∉ T ∧ 64 ∉ T ∧ 65 ∉ T ∧ 66 ∉ T) : MS τ S := by
  intro i hi
  obtain ⟨⟨a1, a2, a3, a4⟩, a5⟩ := h i hi
  refine ⟨⟨by rw [ha.i h1.1]; exact a1, fun j hj => by rw [ha.i h1.2.1]; exact a2 j hj, a3, a4⟩, ?_⟩
  rw [ha.i h1.2.2.1, ha.i h1.2.2.2.1, ha.i h1.2.2.2.2]
  exact a5
theorem ix4 (i j : Nat) : (4 : Int32) * nI i + nI j = nI (4 * i + j) := by
  show nI 4 * nI i + nI j = _
  rw [pk_mul, nI_add]
theorem v_lookAt {N i : Nat} {σ : fS} {S : Nat → List Nat} (hN : 200 ≤ N) (hi : i < 8) (h : MS σ S) : ∃ σ', g_X8_lookAt N (nI i) σ = some σ' ∧ lk σ' (S i) ∧ ag [61, 77] σ σ' ∧ (∀ j, j ≠ 21 → σ'.1 61 j = σ.1 61 j) := by
  obtain ⟨⟨a1, a2, a3, a4⟩, -⟩ := h i hi
  have e21 : (sI σ 61 21 (nI (S i).length)).1 61 21 = nI (S i).length := sI_same _ _ _ _
  obtain ⟨s, ⟨b1, b2⟩, e⟩ := lpU (fun n x s => lp_X8_lookAt_12 N (nI i) n x s) (S i).length (fun j s => (∀ r, r < j → s.1 77 r = nI ((S i).getD r 0)) ∧ ag [77] (sI σ 61 21 (nI (S i).length)) s) id (by
    intro n j s hj ⟨c1, c2⟩
    have g1 : s.1 61 21 = nI (S i).length := by rw [c2.i (by decide)]; exact e21
    have g2 : s.1 63 (4 * i + j) = nI ((S i).getD j 0) := by rw [c2.i (by decide), sI_other _ _ (Or.inl (by decide))]; exact a2 j hj
    refine ⟨sI s 77 j (nI ((S i).getD j 0)), ⟨fun r hr => ?_, c2.tr (ag.sI s (by simp) _ _)⟩, ?_⟩
    · by_cases hx : r = j
      · subst hx; rw [sI_same]
      · rw [sI_other _ _ (Or.inr hx)]; exact c1 r (by omega)
    · show lp_X8_lookAt_12 N (nI i) (n + 1) (nI j) s = _
      rw [lp_X8_lookAt_12, g1, if_neg (n_le (by omega) hj), ix4, Gd_c (fin_nI (show 4 * i + j < 32 by omega) (by omega)), Gd_c (fin_nI (show j < 5 by omega) (by omega)), nI_clamp (show j < 2 ^ 31 by omega), nI_clamp (show 4 * i + j < 2 ^ 31 by omega), g2, Lt_e, nI_1]) (by
    intro n s ⟨c1, c2⟩
    have g1 : s.1 61 21 = nI (S i).length := by rw [c2.i (by decide)]; exact e21
    show lp_X8_lookAt_12 N (nI i) (n + 1) (nI (S i).length) s = _
    rw [lp_X8_lookAt_12, g1, if_pos (y_le (by omega) (Nat.le_refl _))]; rfl) (S i).length N 0 _ (by omega) (by omega) ⟨fun r hr => absurd hr (by omega), ag.rf⟩
  refine ⟨s, ?_, ⟨by rw [b2.i (by decide)]; exact e21, b1, by omega, a4⟩, (ag.sI σ (by decide) _ _).tr (b2.mono (by decide)), fun j hj => ?_⟩
  · unfold g_X8_lookAt
    rw [Gd_c (fin_nI hi (by omega)), nI_clamp (show i < 2 ^ 31 by omega), a1, Lt_e, show lp_X8_lookAt_12 N (nI i) N 0 _ = _ from e]
    rfl
  · rw [b2.i (by decide), sI_other _ _ (Or.inr hj)]
/-! HASSE the other way round -/
def hasJ (l : List Nat) (i j acc : Nat) : Nat := (List.range j).foldl (fun c t => if i < t then c ^^^ symL (l.getD i 0) (l.getD t 0) else c) acc
def hasP (l : List Nat) (i : Nat) : Nat := (List.range i).foldl (fun c t => hasJ l t l.length c) 0
theorem hasP_eq : ∀ l : List Nat, l.length ≤ 4 → hasP l l.length = hasL l
  | [], _ => rfl
  | [a], _ => rfl
  | [a, b], _ => rfl
  | [a, b, c], _ => by
    show ((0 ^^^ symL a b) ^^^ symL a c) ^^^ symL b c = ((0 ^^^ symL a b) ^^^ symL a c) ^^^ symL b c
    rfl
  | [a, b, c, d], _ => by
    show (((((0 ^^^ symL a b) ^^^ symL a c) ^^^ symL a d) ^^^ symL b c) ^^^ symL b d) ^^^ symL c d = (((((0 ^^^ symL a b) ^^^ symL a c) ^^^ symL b c) ^^^ symL a d) ^^^ symL b d) ^^^ symL c d
    rw [Nat.xor_assoc (((0 ^^^ symL a b) ^^^ symL a c)) (symL a d) (symL b c), Nat.xor_comm (symL a d) (symL b c), ← Nat.xor_assoc]
  | a :: b :: c :: d :: e :: l, h => by simp at h
theorem hasJ_low (l : List Nat) (i acc : Nat) : hasJ l i (i + 1) acc = acc := by
  unfold hasJ
  have : ∀ (n : Nat), n ≤ i + 1 → (List.range n).foldl (fun c t => if i < t then c ^^^ symL (l.getD i 0) (l.getD t 0) else c) acc = acc := by
    intro n
    induction n with
    | zero => intro _; rfl
    | succ n ih => intro h; rw [fold_succ, ih (by omega), if_neg (by omega)]
  exact this _ (Nat.le_refl _)
theorem v_layForm {N i : Nat} {σ : fS} {S : Nat → List Nat} (hN : 200 ≤ N) (hi : i < 8) (h : MS σ S) : ∃ σ', g_X8_layForm N (nI i) σ = some σ' ∧ MS σ' S ∧ qM σ σ' ∧ σ'.1 65 i = nI (hasL (S i)) ∧ σ'.1 66 i = nI (barsL (S i)) := by
  obtain ⟨⟨a1, a2, a3, a4⟩, a5⟩ := h i hi
  rcases a5 with a5 | ⟨a5, a6, a7⟩
  · have hMS0 : ∀ s : fS, ag [61, 77, 78, 79, 80, 81] (sI σ 64 i 1) s → mf0 s i (S i) := fun s hs => ⟨by rw [hs.i (by decide), sI_other _ _ (Or.inl (by decide))]; exact a1, fun j hj => by rw [hs.i (by decide), sI_other _ _ (Or.inl (by decide))]; exact a2 j hj, a3, a4⟩
    have inner : ∀ (t acc : Nat) (s : fS), t < (S i).length → ag [61, 77, 78, 79, 80, 81] (sI σ 64 i 1) s → (∀ j, j ≠ 21 → s.1 61 j = σ.1 61 j) → ∃ s', lp_X8_layForm_36 N (nI i) (nI t) N (nI acc) (nI (t + 1)) s = some (nI (hasJ (S i) t (S i).length acc), s') ∧ ag [61, 77, 78, 79, 80, 81] (sI σ 64 i 1) s' ∧ (∀ j, j ≠ 21 → s'.1 61 j = σ.1 61 j) := by
      intro t acc s ht hs hs2
      obtain ⟨s', ⟨b0, b1, b2⟩, e⟩ := lpU (fun n x (s : Int32 × fS) => lp_X8_layForm_36 N (nI i) (nI t) n s.1 x s.2) (S i).length (fun j u => u.1 = nI (hasJ (S i) t j acc) ∧ ag [61, 77, 78, 79, 80, 81] (sI σ 64 i 1) u.2 ∧ (∀ j, j ≠ 21 → u.2.1 61 j = σ.1 61 j) ∧ t < j) id (by
        intro n j u hj ⟨c0, c1, c2, c3⟩
        obtain ⟨m1, m2, m3, m4⟩ := hMS0 u.2 c1
        obtain ⟨u', e', d1, d2⟩ := v_unlikeM (σ := u.2) hN (getD_lt a4 ht) (getD_lt a4 hj)
        refine ⟨(nI (hasJ (S i) t (j + 1) acc), u'), ⟨rfl, c1.tr d1, fun j hj => (d2 j hj).trans (c2 j hj), by omega⟩, ?_⟩
        show lp_X8_layForm_36 N (nI i) (nI t) (n + 1) u.1 (nI j) u.2 = lp_X8_layForm_36 N (nI i) (nI t) n _ (nI (j + 1)) u'
        rw [lp_X8_layForm_36, Gd_c (fin_nI hi (by omega)), nI_clamp (show i < 2 ^ 31 by omega), m1, if_neg (n_le (by omega) hj), ix4, ix4, Gd_c (fin_nI (show 4 * i + t < 32 by omega) (by omega)), Gd_c (fin_nI (show 4 * i + j < 32 by omega) (by omega)), nI_clamp (show 4 * i + t < 2 ^ 31 by omega), nI_clamp (show 4 * i + j < 2 ^ 31 by omega), m2 t ht, m2 j hj, e', Bd_s, Lt_e, c0, xorI, nI_1]
        unfold hasJ
        rw [fold_succ, if_pos c3]) (by
        intro n u ⟨c0, c1, c2, c3⟩
        obtain ⟨m1, m2, m3, m4⟩ := hMS0 u.2 c1
        show lp_X8_layForm_36 N (nI i) (nI t) (n + 1) u.1 (nI (S i).length) u.2 = _
        rw [lp_X8_layForm_36, Gd_c (fin_nI hi (by omega)), nI_clamp (show i < 2 ^ 31 by omega), m1, if_pos (y_le (by omega) (Nat.le_refl _))]; rfl) ((S i).length - (t + 1)) N (t + 1) (nI acc, s) (by omega) (by omega) ⟨by rw [hasJ_low], hs, hs2, by omega⟩
      exact ⟨s'.2, by rw [show lp_X8_layForm_36 N (nI i) (nI t) N (nI acc) (nI (t + 1)) s = _ from e]; show some (s'.1, s'.2) = _; rw [b0], b1, b2.1⟩
    obtain ⟨s1, ⟨b0, b1, b2⟩, e1⟩ := lpU (fun n x (s : Int32 × fS) => lp_X8_layForm_21 N (nI i) n s.1 x s.2) (S i).length (fun j u => u.1 = nI (hasP (S i) j) ∧ ag [61, 77, 78, 79, 80, 81] (sI σ 64 i 1) u.2 ∧ (∀ j, j ≠ 21 → u.2.1 61 j = σ.1 61 j)) id (by
      intro n j u hj ⟨c0, c1, c2⟩
      obtain ⟨m1, m2, m3, m4⟩ := hMS0 u.2 c1
      obtain ⟨u', e', d1, d2⟩ := inner j (hasP (S i) j) u.2 hj c1 c2
      refine ⟨(nI (hasP (S i) (j + 1)), u'), ⟨rfl, d1, d2⟩, ?_⟩
      show lp_X8_layForm_21 N (nI i) (n + 1) u.1 (nI j) u.2 = lp_X8_layForm_21 N (nI i) n _ (nI (j + 1)) u'
      rw [lp_X8_layForm_21, Gd_c (fin_nI hi (by omega)), nI_clamp (show i < 2 ^ 31 by omega), m1, if_neg (n_le (by omega) hj), Lt_e, nI_1, c0, e', Bd_s]
      unfold hasP
      rw [fold_succ]) (by
      intro n u ⟨c0, c1, c2⟩
      obtain ⟨m1, m2, m3, m4⟩ := hMS0 u.2 c1
      show lp_X8_layForm_21 N (nI i) (n + 1) u.1 (nI (S i).length) u.2 = _
      rw [lp_X8_layForm_21, Gd_c (fin_nI hi (by omega)), nI_clamp (show i < 2 ^ 31 by omega), m1, if_pos (y_le (by omega) (Nat.le_refl _))]; rfl) (S i).length N 0 (0, sI σ 64 i 1) (by omega) (by omega) ⟨rfl, ag.rf, fun j hj => by rw [sI_other _ _ (Or.inl (by decide))]⟩
    rw [hasP_eq _ a3] at b0
    -- what is remembered now
    have hs2 : ag [61, 65, 77, 78, 79, 80, 81] (sI σ 64 i 1) (sI s1.2 65 i (nI (hasL (S i)))) := (b1.mono (by decide)).tr (ag.sI _ (by decide) _ _)
    have hMS2 : ∀ j, j < 8 → mf0 (sI s1.2 65 i (nI (hasL (S i)))) j (S j) := fun j hj => by
      obtain ⟨⟨p1, p2, p3, p4⟩, -⟩ := h j hj
      exact ⟨by rw [hs2.i (by decide), sI_other _ _ (Or.inl (by decide))]; exact p1, fun t ht => by rw [hs2.i (by decide), sI_other _ _ (Or.inl (by decide))]; exact p2 t ht, p3, p4⟩
    obtain ⟨s3, e3, l3, g3, k3⟩ : ∃ σ', g_X8_lookAt N (nI i) (sI s1.2 65 i (nI (hasL (S i)))) = some σ' ∧ lk σ' (S i) ∧ ag [61, 77] (sI s1.2 65 i (nI (hasL (S i)))) σ' ∧ (∀ j, j ≠ 21 → σ'.1 61 j = (sI s1.2 65 i (nI (hasL (S i)))).1 61 j) := by
      -- the same look, with nothing remembered asked
      have hz : MS (sI (sI (sI s1.2 65 i (nI (hasL (S i)))) 0 0 0) 0 0 0) S ∨ True := Or.inr trivial
      clear hz
      obtain ⟨m1, m2, m3, m4⟩ := hMS2 i hi
      have e21 : (sI (sI s1.2 65 i (nI (hasL (S i)))) 61 21 (nI (S i).length)).1 61 21 = nI (S i).length := sI_same _ _ _ _
      obtain ⟨s, ⟨c1, c2⟩, e⟩ := lpU (fun n x s => lp_X8_lookAt_12 N (nI i) n x s) (S i).length (fun j s => (∀ r, r < j → s.1 77 r = nI ((S i).getD r 0)) ∧ ag [77] (sI (sI s1.2 65 i (nI (hasL (S i)))) 61 21 (nI (S i).length)) s) id (by
        intro n j s hj ⟨c1, c2⟩
        have g1 : s.1 61 21 = nI (S i).length := by rw [c2.i (by decide)]; exact e21
        have g2 : s.1 63 (4 * i + j) = nI ((S i).getD j 0) := by rw [c2.i (by decide), sI_other _ _ (Or.inl (by decide))]; exact m2 j hj
        refine ⟨sI s 77 j (nI ((S i).getD j 0)), ⟨fun r hr => ?_, c2.tr (ag.sI s (by simp) _ _)⟩, ?_⟩
        · by_cases hx : r = j
          · subst hx; rw [sI_same]
          · rw [sI_other _ _ (Or.inr hx)]; exact c1 r (by omega)
        · show lp_X8_lookAt_12 N (nI i) (n + 1) (nI j) s = _
          rw [lp_X8_lookAt_12, g1, if_neg (n_le (by omega) hj), ix4, Gd_c (fin_nI (show 4 * i + j < 32 by omega) (by omega)), Gd_c (fin_nI (show j < 5 by omega) (by omega)), nI_clamp (show j < 2 ^ 31 by omega), nI_clamp (show 4 * i + j < 2 ^ 31 by omega), g2, Lt_e, nI_1]) (by
        intro n s ⟨c1, c2⟩
        have g1 : s.1 61 21 = nI (S i).length := by rw [c2.i (by decide)]; exact e21
        show lp_X8_lookAt_12 N (nI i) (n + 1) (nI (S i).length) s = _
        rw [lp_X8_lookAt_12, g1, if_pos (y_le (by omega) (Nat.le_refl _))]; rfl) (S i).length N 0 _ (by omega) (by omega) ⟨fun r hr => absurd hr (by omega), ag.rf⟩
      refine ⟨s, ?_, ⟨by rw [c2.i (by decide)]; exact e21, c1, by omega, m4⟩, (ag.sI _ (by decide) _ _).tr (c2.mono (by decide)), fun j hj => ?_⟩
      · unfold g_X8_lookAt
        rw [Gd_c (fin_nI hi (by omega)), nI_clamp (show i < 2 ^ 31 by omega), m1, Lt_e, show lp_X8_lookAt_12 N (nI i) N 0 _ = _ from e]
        rfl
      · rw [c2.i (by decide), sI_other _ _ (Or.inr hj)]
    obtain ⟨s4, e4, g4⟩ := v_barsM hN l3
    refine ⟨sI s4 66 i (nI (barsL (S i))), ?_, ?_, ⟨?_, ?_⟩, ?_, sI_same _ _ _ _⟩
    · unfold g_X8_layForm
      rw [nI_clamp (show i < 2 ^ 31 by omega), a5]
      simp only [Gd_c (fin_nI hi (show 8 < 2 ^ 31 by omega)), if_true, Lt_e]
      rw [show lp_X8_layForm_21 N (nI i) N 0 0 (sI σ 64 i 1) = _ from e1]
      show (Bd (some (s1.1, s1.2)) _ : Option fS) = _
      rw [Bd_s, b0, e3, Bv_s, e4, Bd_s]
    · intro j hj
      obtain ⟨p1, p2, p3, p4⟩ := hMS2 j hj
      have q : ∀ k, k ∉ [61, 77, 78, 79, 80, 81] → k ≠ 66 → (sI s4 66 i (nI (barsL (S i)))).1 k = (sI s1.2 65 i (nI (hasL (S i)))).1 k := fun k hk hk2 => by rw [sI_ne _ _ _ hk2, g4.i (fun z => hk (List.mem_of_mem_drop (i := 2) z)), g3.i (fun z => hk (by simp at z ⊢; omega))]
      refine ⟨⟨by rw [q 62 (by decide) (by decide)]; exact p1, fun t ht => by rw [q 63 (by decide) (by decide)]; exact p2 t ht, p3, p4⟩, ?_⟩
      by_cases hij : j = i
      · subst hij
        right
        refine ⟨?_, ?_, sI_same _ _ _ _⟩
        · rw [q 64 (by decide) (by decide), sI_other _ _ (Or.inl (by decide)), b1.i (by decide), sI_same]
        · rw [q 65 (by decide) (by decide), sI_same]
      · have z4 : (sI s4 66 i (nI (barsL (S i)))).1 64 j = σ.1 64 j := by rw [q 64 (by decide) (by decide), sI_other _ _ (Or.inl (by decide)), b1.i (by decide), sI_other _ _ (Or.inr hij)]
        have z5 : (sI s4 66 i (nI (barsL (S i)))).1 65 j = σ.1 65 j := by rw [q 65 (by decide) (by decide), sI_other _ _ (Or.inr hij), b1.i (by decide), sI_other _ _ (Or.inl (by decide))]
        have z6 : (sI s4 66 i (nI (barsL (S i)))).1 66 j = σ.1 66 j := by rw [sI_other _ _ (Or.inr hij), g4.i (by decide), g3.i (by decide), sI_other _ _ (Or.inl (by decide)), b1.i (by decide), sI_other _ _ (Or.inl (by decide))]
        rw [z4, z5, z6]
        exact (h j hj).2
    · exact ((((ag.sI σ (by decide) _ _).tr (hs2.mono (by decide))).tr (g3.mono (by decide))).tr (g4.mono (by decide))).tr (ag.sI _ (by decide) _ _)
    · intro j hj
      rw [sI_other _ _ (Or.inl (by decide)), g4.i (by decide), k3 j hj, sI_other _ _ (Or.inl (by decide))]
      exact b2 j hj
    · rw [sI_other _ _ (Or.inl (by decide)), g4.i (by decide), g3.i (by decide), sI_same]
  · refine ⟨σ, ?_, h, qM.rf, a6, a7⟩
    unfold g_X8_layForm
    rw [nI_clamp (show i < 2 ^ 31 by omega), a5, Gd_c (fin_nI hi (by omega)), if_neg (by decide)]
