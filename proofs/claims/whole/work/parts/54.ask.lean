/-! what is told of a FORM -/
def detL (l : List Nat) : Nat := (List.range l.length).foldl (fun c i => c ^^^ l.getD i 0) 0
def abvL (l : List Nat) : Nat := (List.range l.length).foldl (fun c i => if (l.getD i 0).testBit 0 then c else c + 1) 0
def planL (l : List Nat) : Nat := if barsL l = 0 then (if l.length = 4 ∧ detL l = 0 then 2 else 1) else 0
def rDet (l : List Nat) : Nat := if planL l = 1 then detL l ^^^ 1 else detL l
def rHas (l : List Nat) : Nat := if planL l = 0 then hasL l else if l.length = 2 * planL l then 0 else hasL l ^^^ symL 1 (rDet l)
theorem barsL_lt (ks : List Nat) : barsL ks < 128 := by
  unfold barsL
  have : ∀ (n : Nat), n ≤ 7 → (List.range n).foldl (fun a j => if vz j ks then a else a ||| 2 ^ j) 0 < 2 ^ 7 := by
    intro n
    induction n with
    | zero => intro _; show 0 < 2 ^ 7; decide
    | succ n ih =>
      intro h
      rw [fold_succ]
      split
      · exact ih (by omega)
      · exact Nat.or_lt_two_pow (ih (by omega)) (Nat.pow_lt_pow_right (by omega) (by omega))
  exact this 7 (Nat.le_refl _)
theorem fold_lt128 {g : Nat → Nat → Nat} (hg : ∀ c i, c < 128 → g c i < 128) (n : Nat) {a : Nat} (ha : a < 128) : (List.range n).foldl g a < 128 := by
  induction n with
  | zero => exact ha
  | succ n ih => rw [fold_succ]; exact hg _ _ ih
theorem hasI_lt (l : List Nat) (t a : Nat) {acc : Nat} (h : acc < 128) : hasI l t a acc < 128 := fold_lt128 (fun c i hc => xor_lt7 hc (barsL_lt _)) a h
theorem hasL_lt (l : List Nat) : hasL l < 128 := fold_lt128 (fun c i hc => hasI_lt l i i hc) l.length (by omega)
theorem getD_lt' {l : List Nat} (h : ∀ a ∈ l, a < 128) (i : Nat) : l.getD i 0 < 128 := by
  rcases Nat.lt_or_ge i l.length with q | q
  · exact getD_lt h q
  · rw [List.getD_eq_getElem?_getD, List.getElem?_eq_none q]; decide
theorem detL_lt {l : List Nat} (h : ∀ a ∈ l, a < 128) : detL l < 128 := fold_lt128 (fun c i hc => xor_lt7 hc (getD_lt' h i)) l.length (by omega)
theorem rDet_lt {l : List Nat} (h : ∀ a ∈ l, a < 128) : rDet l < 128 := by
  unfold rDet
  split
  · exact xor_lt7 (detL_lt h) (by omega)
  · exact detL_lt h
theorem planL_le (l : List Nat) : planL l ≤ 2 := by unfold planL; split <;> (try split) <;> omega
theorem abvL_le (l : List Nat) : abvL l ≤ l.length := by
  unfold abvL
  have : ∀ n, (List.range n).foldl (fun c i => if (l.getD i 0).testBit 0 then c else c + 1) 0 ≤ n := by
    intro n
    induction n with
    | zero => exact Nat.le_refl _
    | succ n ih => rw [fold_succ]; split <;> omega
  exact this _
theorem n_eq {a b : Nat} (ha : a < 2 ^ 31) (hb : b < 2 ^ 31) : (nI a = nI b) ↔ a = b := nI_eq ha hb
theorem n_eq0 {a : Nat} (ha : a < 2 ^ 31) : (nI a = 0) ↔ a = 0 := by show nI a = nI 0 ↔ _; exact nI_eq ha (by omega)
theorem b0_A : ∀ k, k < 128 → ((nI k &&& (1 : Int32)) = 0 ↔ k.testBit 0 = false) := by decide +kernel
theorem v_detX {N k : Nat} {σ : fS} {l : List Nat} (hN : 200 ≤ N) (h : fr0 σ k l) : g_X0_det N k σ = some (nI (detL l), σ) := by
  have h4 := h.2.2.1
  obtain ⟨s, hs, e⟩ := lpU (fun n x (s : Int32 × fS) => lp_X0_det_4 N k n s.1 x s.2) l.length (fun i s => s = (nI ((List.range i).foldl (fun c i => c ^^^ l.getD i 0) 0), σ)) id (by
    intro n i s hi hs
    subst hs
    refine ⟨_, rfl, ?_⟩
    show lp_X0_det_4 N k (n + 1) _ (nI i) σ = lp_X0_det_4 N k n _ (nI (i + 1)) σ
    rw [lp_X0_det_4, h.1, if_neg (n_le (by omega) hi), v_kindAt h hi, Bd_s, Lt_e, xorI, nI_1, fold_succ]) (by
    intro n s hs
    subst hs
    show lp_X0_det_4 N k (n + 1) _ (nI l.length) σ = _
    rw [lp_X0_det_4, h.1, if_pos (y_le (by omega) (Nat.le_refl _))]; rfl) l.length N 0 (0, σ) (by omega) (by omega) rfl
  subst hs
  unfold g_X0_det
  rw [show lp_X0_det_4 N k N 0 0 σ = _ from e]
  rfl
theorem v_abvX {N k : Nat} {σ : fS} {l : List Nat} (hN : 200 ≤ N) (h : fr0 σ k l) : g_X0_countAbove N k σ = some (nI (abvL l), σ) := by
  have h4 := h.2.2.1
  obtain ⟨s, hs, e⟩ := lpU (fun n x (s : Int32 × fS) => lp_X0_countAbove_4 N k n s.1 x s.2) l.length (fun i s => s = (nI ((List.range i).foldl (fun c i => if (l.getD i 0).testBit 0 then c else c + 1) 0), σ)) id (by
    intro n i s hi hs
    subst hs
    refine ⟨_, rfl, ?_⟩
    show lp_X0_countAbove_4 N k (n + 1) _ (nI i) σ = lp_X0_countAbove_4 N k n _ (nI (i + 1)) σ
    rw [lp_X0_countAbove_4, h.1, if_neg (n_le (by omega) hi), v_kindAt h hi, Bd_s, fold_succ, nI_1]
    have hb := b0_A _ (getD_lt h.2.2.2 hi)
    cases hc : (l.getD i 0).testBit 0
    · rw [if_pos (hb.mpr hc), Lt_e, nI_1]; rfl
    · rw [if_neg (fun z => by rw [hb.mp z] at hc; cases hc), Lt_e, Int32.add_zero, nI_1]; rfl) (by
    intro n s hs
    subst hs
    show lp_X0_countAbove_4 N k (n + 1) _ (nI l.length) σ = _
    rw [lp_X0_countAbove_4, h.1, if_pos (y_le (by omega) (Nat.le_refl _))]; rfl) l.length N 0 (0, σ) (by omega) (by omega) rfl
  subst hs
  unfold g_X0_countAbove
  rw [show lp_X0_countAbove_4 N k N 0 0 σ = _ from e]
  rfl
def frF (σ : fS) (k : Nat) (l : List Nat) : Prop := fr0 σ k l ∧ σ.1 k 2 = nI (hasL l) ∧ σ.1 k 3 = nI (barsL l)
theorem v_planX {N k : Nat} {σ : fS} {l : List Nat} (hN : 200 ≤ N) (h : frF σ k l) : g_X0_planes N k σ = some (nI (planL l), σ) := by
  have h4 := h.1.2.2.1
  unfold g_X0_planes planL
  rw [h.2.2, h.1.1]
  have e1 := n_eq0 (show barsL l < 2 ^ 31 by have := barsL_lt l; omega)
  have e2 : (nI l.length = (4 : Int32)) ↔ l.length = 4 := n_eq (by omega) (show 4 < 2 ^ 31 by omega)
  have e3 := n_eq0 (show detL l < 2 ^ 31 by have := detL_lt h.1.2.2.2; omega)
  by_cases c1 : barsL l = 0
  · rw [if_pos (e1.mpr c1), if_pos c1]
    by_cases c2 : l.length = 4
    · rw [if_pos (e2.mpr c2), v_detX hN h.1, Bd_s]
      by_cases c3 : detL l = 0
      · rw [if_pos (e3.mpr c3), if_pos ⟨c2, c3⟩]; rfl
      · rw [if_neg (fun z => c3 (e3.mp z)), if_neg (fun z => c3 z.2)]; rfl
    · rw [if_neg (fun z => c2 (e2.mp z)), if_neg (fun z => c2 z.1)]; rfl
  · rw [if_neg (fun z => c1 (e1.mp z)), if_neg c1]; rfl
theorem v_rDetX {N k : Nat} {σ : fS} {l : List Nat} (hN : 200 ≤ N) (h : frF σ k l) : g_X0_restDet N k σ = some (nI (rDet l), σ) := by
  have hp := planL_le l
  unfold g_X0_restDet rDet
  rw [v_planX hN h, Bd_s, v_detX hN h.1, Bd_s, Bd_s]
  have e1 : (nI (planL l) = (1 : Int32)) ↔ planL l = 1 := n_eq (by omega) (show 1 < 2 ^ 31 by omega)
  by_cases c1 : planL l = 1
  · rw [if_pos (e1.mpr c1), if_pos c1, show (1 : Int32) = nI 1 from rfl, xorI]
  · rw [if_neg (fun z => c1 (e1.mp z)), if_neg c1]
theorem v_rHasX {N k : Nat} {σ : fS} {l : List Nat} (hN : 200 ≤ N) (h : frF σ k l) : ∃ σ', g_X0_restHasse N k σ = some (nI (rHas l), σ') ∧ ag [16, 17] σ σ' := by
  have hp := planL_le l
  have h4 := h.1.2.2.1
  obtain ⟨s, e, g⟩ := v_symX (σ := σ) hN (show 1 < 128 by omega) (rDet_lt h.1.2.2.2)
  have e1 := n_eq0 (show planL l < 2 ^ 31 by omega)
  have e2 : (nI l.length = (2 : Int32) * nI (planL l)) ↔ l.length = 2 * planL l := by
    show nI l.length = nI 2 * nI (planL l) ↔ _
    rw [pk_mul]
    exact n_eq (by omega) (by omega)
  unfold g_X0_restHasse rHas
  rw [v_planX hN h, Bd_s, v_rDetX hN h, Bd_s]
  by_cases c1 : planL l = 0
  · exact ⟨σ, by rw [if_pos (e1.mpr c1), if_pos c1, h.2.1], ag.rf⟩
  · rw [if_neg (fun z => c1 (e1.mp z)), if_neg c1, h.1.1]
    by_cases c2 : l.length = 2 * planL l
    · exact ⟨σ, by rw [if_pos (e2.mpr c2), if_pos c2]; rfl, ag.rf⟩
    · exact ⟨s, by rw [if_neg (fun z => c2 (e2.mp z)), if_neg c2, show (1 : Int32) = nI 1 from rfl, e, Bd_s, h.2.1, xorI], g⟩
/-! the reference's -/
theorem v_detM {N i : Nat} {σ : fS} {l : List Nat} (hN : 200 ≤ N) (hi : i < 8) (h : mf0 σ i l) : g_X8_det N (nI i) σ = some (nI (detL l), σ) := by
  have h4 := h.2.2.1
  obtain ⟨s, hs, e⟩ := lpU (fun n x (s : Int32 × fS) => lp_X8_det_4 N (nI i) n s.1 x s.2) l.length (fun j s => s = (nI ((List.range j).foldl (fun c i => c ^^^ l.getD i 0) 0), σ)) id (by
    intro n j s hj hs
    subst hs
    refine ⟨_, rfl, ?_⟩
    show lp_X8_det_4 N (nI i) (n + 1) _ (nI j) σ = lp_X8_det_4 N (nI i) n _ (nI (j + 1)) σ
    rw [lp_X8_det_4, Gd_c (fin_nI hi (by omega)), nI_clamp (show i < 2 ^ 31 by omega), h.1, if_neg (n_le (by omega) hj), ix4, Gd_c (fin_nI (show 4 * i + j < 32 by omega) (by omega)), nI_clamp (show 4 * i + j < 2 ^ 31 by omega), h.2.1 j hj, Lt_e, xorI, nI_1, fold_succ]) (by
    intro n s hs
    subst hs
    show lp_X8_det_4 N (nI i) (n + 1) _ (nI l.length) σ = _
    rw [lp_X8_det_4, Gd_c (fin_nI hi (by omega)), nI_clamp (show i < 2 ^ 31 by omega), h.1, if_pos (y_le (by omega) (Nat.le_refl _))]; rfl) l.length N 0 (0, σ) (by omega) (by omega) rfl
  subst hs
  unfold g_X8_det
  rw [show lp_X8_det_4 N (nI i) N 0 0 σ = _ from e]
  rfl
theorem v_abvM {N i : Nat} {σ : fS} {l : List Nat} (hN : 200 ≤ N) (hi : i < 8) (h : mf0 σ i l) : g_X8_above N (nI i) σ = some (nI (abvL l), σ) := by
  have h4 := h.2.2.1
  obtain ⟨s, hs, e⟩ := lpU (fun n x (s : Int32 × fS) => lp_X8_above_4 N (nI i) n s.1 x s.2) l.length (fun j s => s = (nI ((List.range j).foldl (fun c i => if (l.getD i 0).testBit 0 then c else c + 1) 0), σ)) id (by
    intro n j s hj hs
    subst hs
    refine ⟨_, rfl, ?_⟩
    show lp_X8_above_4 N (nI i) (n + 1) _ (nI j) σ = lp_X8_above_4 N (nI i) n _ (nI (j + 1)) σ
    rw [lp_X8_above_4, Gd_c (fin_nI hi (by omega)), nI_clamp (show i < 2 ^ 31 by omega), h.1, if_neg (n_le (by omega) hj), ix4, Gd_c (fin_nI (show 4 * i + j < 32 by omega) (by omega)), nI_clamp (show 4 * i + j < 2 ^ 31 by omega), h.2.1 j hj, v_isIn, Bd_s, bit0_A _ (getD_lt h.2.2.2 hj), fold_succ, nI_1]
    cases (l.getD j 0).testBit 0
    · rw [if_pos (show bI false = 0 from rfl), Lt_e, nI_1]; rfl
    · rw [if_neg (show ¬ bI true = 0 by decide), Lt_e, Int32.add_zero, nI_1]; rfl) (by
    intro n s hs
    subst hs
    show lp_X8_above_4 N (nI i) (n + 1) _ (nI l.length) σ = _
    rw [lp_X8_above_4, Gd_c (fin_nI hi (by omega)), nI_clamp (show i < 2 ^ 31 by omega), h.1, if_pos (y_le (by omega) (Nat.le_refl _))]; rfl) l.length N 0 (0, σ) (by omega) (by omega) rfl
  subst hs
  unfold g_X8_above
  rw [show lp_X8_above_4 N (nI i) N 0 0 σ = _ from e]
  rfl
theorem v_hasM {N i : Nat} {σ : fS} {S : Nat → List Nat} (hN : 200 ≤ N) (hi : i < 8) (h : MS σ S) : ∃ σ', g_X8_hasseOf N (nI i) σ = some (nI (hasL (S i)), σ') ∧ MS σ' S ∧ qM σ σ' := by
  obtain ⟨s, e, a, b, c, d⟩ := v_layForm hN hi h
  refine ⟨s, ?_, a, b⟩
  unfold g_X8_hasseOf
  rw [e, Bv_s, Gd_c (fin_nI hi (by omega)), nI_clamp (show i < 2 ^ 31 by omega), c]
theorem v_brM {N i : Nat} {σ : fS} {S : Nat → List Nat} (hN : 200 ≤ N) (hi : i < 8) (h : MS σ S) : ∃ σ', g_X8_barsOf N (nI i) σ = some (nI (barsL (S i)), σ') ∧ MS σ' S ∧ qM σ σ' := by
  obtain ⟨s, e, a, b, c, d⟩ := v_layForm hN hi h
  refine ⟨s, ?_, a, b⟩
  unfold g_X8_barsOf
  rw [e, Bv_s, Gd_c (fin_nI hi (by omega)), nI_clamp (show i < 2 ^ 31 by omega), d]
theorem v_planM {N i : Nat} {σ : fS} {S : Nat → List Nat} (hN : 200 ≤ N) (hi : i < 8) (h : MS σ S) : ∃ σ', g_X8_planes N (nI i) σ = some (nI (planL (S i)), σ') ∧ MS σ' S ∧ qM σ σ' := by
  obtain ⟨s, e, a, b⟩ := v_brM hN hi h
  refine ⟨s, ?_, a, b⟩
  have m := (a i hi).1
  have h4 := m.2.2.1
  have e1 := n_eq0 (show barsL (S i) < 2 ^ 31 by have := barsL_lt (S i); omega)
  have e2 : (nI (S i).length = (4 : Int32)) ↔ (S i).length = 4 := n_eq (by omega) (show 4 < 2 ^ 31 by omega)
  have e3 := n_eq0 (show detL (S i) < 2 ^ 31 by have := detL_lt m.2.2.2; omega)
  unfold g_X8_planes planL
  rw [e, Bd_s, Gd_c (fin_nI hi (by omega)), nI_clamp (show i < 2 ^ 31 by omega), m.1, v_detM hN hi m, Bd_s]
  by_cases c1 : barsL (S i) = 0
  · rw [if_pos (e1.mpr c1), if_pos c1]
    by_cases c2 : (S i).length = 4
    · rw [if_pos (e2.mpr c2)]
      by_cases c3 : detL (S i) = 0
      · rw [if_pos (e3.mpr c3), if_pos ⟨c2, c3⟩]; rfl
      · rw [if_neg (fun z => c3 (e3.mp z)), if_neg (fun z => c3 z.2)]; rfl
    · rw [if_neg (fun z => c2 (e2.mp z)), if_neg (fun z => c2 z.1)]; rfl
  · rw [if_neg (fun z => c1 (e1.mp z)), if_neg c1]; rfl
theorem v_rDetM {N i : Nat} {σ : fS} {S : Nat → List Nat} (hN : 200 ≤ N) (hi : i < 8) (h : MS σ S) : ∃ σ', g_X8_restDet N (nI i) σ = some (nI (rDet (S i)), σ') ∧ MS σ' S ∧ qM σ σ' := by
  obtain ⟨s, e, a, b⟩ := v_planM hN hi h
  refine ⟨s, ?_, a, b⟩
  have hp := planL_le (S i)
  have e1 : (nI (planL (S i)) = (1 : Int32)) ↔ planL (S i) = 1 := n_eq (by omega) (show 1 < 2 ^ 31 by omega)
  unfold g_X8_restDet rDet
  rw [e, Bd_s, v_detM hN hi (a i hi).1, Bd_s, Bd_s]
  by_cases c1 : planL (S i) = 1
  · rw [if_pos (e1.mpr c1), if_pos c1, show (1 : Int32) = nI 1 from rfl, xorI]
  · rw [if_neg (fun z => c1 (e1.mp z)), if_neg c1]
theorem qS_sub : ∀ k, k ∈ [61, 77, 78, 79, 80, 81] → k ∈ qS := by decide
theorem v_rHasM {N i : Nat} {σ : fS} {S : Nat → List Nat} (hN : 200 ≤ N) (hi : i < 8) (h : MS σ S) : ∃ σ', g_X8_restHasse N (nI i) σ = some (nI (rHas (S i)), σ') ∧ MS σ' S ∧ qM σ σ' := by
  obtain ⟨s, e, a, b⟩ := v_planM hN hi h
  obtain ⟨s1, e1, a1, b1⟩ := v_hasM hN hi a
  obtain ⟨s2, e2, a2, b2⟩ := v_rDetM hN hi a1
  obtain ⟨s3, e3, g3, k3⟩ := v_unlikeM (σ := s2) hN (show 1 < 128 by omega) (rDet_lt (h i hi).1.2.2.2)
  have m := (a i hi).1
  have h4 := m.2.2.1
  have hp := planL_le (S i)
  have c1 := n_eq0 (show planL (S i) < 2 ^ 31 by omega)
  have c2 : (nI (S i).length = (2 : Int32) * nI (planL (S i))) ↔ (S i).length = 2 * planL (S i) := by
    show nI (S i).length = nI 2 * nI (planL (S i)) ↔ _
    rw [pk_mul]
    exact n_eq (by omega) (by omega)
  unfold g_X8_restHasse rHas
  rw [e, Bd_s, Gd_c (fin_nI hi (by omega)), nI_clamp (show i < 2 ^ 31 by omega), m.1]
  by_cases d1 : planL (S i) = 0
  · exact ⟨s1, by rw [if_pos (c1.mpr d1), if_pos d1, e1, Bd_s], a1, b.tr b1⟩
  · rw [if_neg (fun z => d1 (c1.mp z)), if_neg d1]
    by_cases d2 : (S i).length = 2 * planL (S i)
    · exact ⟨s, by rw [if_pos (c2.mpr d2), if_pos d2]; rfl, a, b⟩
    · exact ⟨s3, by rw [if_neg (fun z => d2 (c2.mp z)), if_neg d2, e1, Bd_s, e2, Bd_s, show (1 : Int32) = nI 1 from rfl, e3, Bd_s, xorI], a2.ag g3 (by decide), ((b.tr b1).tr b2).tr ⟨g3.mono qS_sub, k3⟩⟩
