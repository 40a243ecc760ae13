/-! STEPS in the reference -/
theorem ix4m {k e : Nat} (hk : 1 ≤ k) : (4 : Int32) * nI k - 4 + nI e = nI (4 * k - 4 + e) := by
  rw [← zI_nat k, ← zI_nat e, ← zI_nat (4 * k - 4 + e), show (4 : Int32) = zI 4 from rfl, zI_mul, zI_sub, zI_add]
  congr 1
  omega
theorem n_sub1 {k : Nat} (hk : 1 ≤ k) : nI k - (1 : Int32) = nI (k - 1) := by
  rw [n_pred (by omega), ← zI_nat (k - 1)]
  congr 1
  omega
theorem dIn {N k : Nat} {σ : fS} (hN : 200 ≤ N) (h1 : 1 ≤ k) (h2 : k < 12) : ∃ σ', lp_X8_dropOldest_38 N (nI k) N 0 σ = some σ' ∧ (∀ x, σ'.1 70 x = σ.1 70 (if 4 * (k - 1) ≤ x ∧ x < 4 * (k - 1) + 4 then x + 4 else x)) ∧ ag [70] σ σ' := by
  obtain ⟨s, ⟨a1, a2⟩, e⟩ := lpU (fun n x s => lp_X8_dropOldest_38 N (nI k) n x s) 4 (fun i s => (∀ x, s.1 70 x = σ.1 70 (if 4 * (k - 1) ≤ x ∧ x < 4 * (k - 1) + i then x + 4 else x)) ∧ ag [70] σ s) id (by
    intro n i s hi ⟨b1, b2⟩
    refine ⟨sI s 70 (4 * k - 4 + i) (σ.1 70 (4 * k + i)), ⟨fun x => ?_, b2.tr (ag.sI s (by simp) _ _)⟩, ?_⟩
    · by_cases hx : x = 4 * k - 4 + i
      · subst hx; rw [sI_same, if_pos (by omega)]; exact congrArg (σ.1 70) (by omega)
      · rw [sI_other _ _ (Or.inr hx), b1]
        congr 1
        by_cases c : 4 * (k - 1) ≤ x ∧ x < 4 * (k - 1) + i
        · rw [if_pos c, if_pos (by omega)]
        · rw [if_neg c, if_neg (by omega)]
    · show lp_X8_dropOldest_38 N (nI k) (n + 1) (nI i) s = _
      rw [lp_X8_dropOldest_38, if_neg (show ¬ (4 : Int32) ≤ nI i from n_le (b := 4) (by omega) hi), ix4, ix4m h1, Gd_c (fin_nI (by omega) (by omega)), Gd_c (fin_nI (by omega) (by omega)), Lt_e, n_cl (by omega), n_cl (by omega), b1, if_neg (by omega), nI_1]) (by
    intro n s _
    show lp_X8_dropOldest_38 N (nI k) (n + 1) (nI 4) s = _
    rw [lp_X8_dropOldest_38, if_pos (by decide)]; rfl) 4 N 0 σ (by omega) (by omega) ⟨fun x => by rw [if_neg (by omega)], ag.rf⟩
  exact ⟨s, e, a1, a2⟩
theorem v_dropO {N : Nat} {σ : fS} {K : List (Nat × List Nat)} (hN : 200 ≤ N) (h : KM σ K) (hb : KB K) (hl : K.length = 12) : ∃ σ', g_X8_dropOldest N σ = some σ' ∧ KM σ' (K.drop 1) ∧ ag [61, 68, 69, 70] σ σ' ∧ ∀ i, i ≠ 7 → σ'.1 61 i = σ.1 61 i := by
  obtain ⟨s, ⟨a1, a2, a3, a4⟩, e⟩ := lpU (fun n x s => lp_X8_dropOldest_2 N n x s) 12 (fun k s => (∀ x, s.1 68 x = σ.1 68 (if x < k - 1 then x + 1 else x)) ∧ (∀ x, s.1 69 x = σ.1 69 (if x < k - 1 then x + 1 else x)) ∧ (∀ x, s.1 70 x = σ.1 70 (if x < 4 * (k - 1) then x + 4 else x)) ∧ ag [68, 69, 70] σ s ∧ 1 ≤ k) id (by
    intro n k s hk ⟨b1, b2, b3, b4, b5⟩
    obtain ⟨t, f1, f2, f3⟩ := dIn (σ := sI (sI s 68 (k - 1) (σ.1 68 k)) 69 (k - 1) (σ.1 69 k)) hN b5 hk
    refine ⟨t, ⟨fun x => ?_, fun x => ?_, fun x => ?_, ?_, by omega⟩, ?_⟩
    · rw [f3.i (by decide), sI_other _ _ (Or.inl (by decide))]
      by_cases hx : x = k - 1
      · subst hx; rw [sI_same, if_pos (by omega)]; exact congrArg (σ.1 68) (by omega)
      · rw [sI_other _ _ (Or.inr hx), b1]
        congr 1
        by_cases c : x < k - 1
        · rw [if_pos c, if_pos (by omega)]
        · rw [if_neg c, if_neg (by omega)]
    · rw [f3.i (by decide)]
      by_cases hx : x = k - 1
      · subst hx; rw [sI_same, if_pos (by omega)]; exact congrArg (σ.1 69) (by omega)
      · rw [sI_other _ _ (Or.inr hx), sI_other _ _ (Or.inl (by decide)), b2]
        congr 1
        by_cases c : x < k - 1
        · rw [if_pos c, if_pos (by omega)]
        · rw [if_neg c, if_neg (by omega)]
    · rw [f2, sI_other _ _ (Or.inl (by decide)), sI_other _ _ (Or.inl (by decide)), b3]
      refine congrArg (σ.1 70) ?_
      by_cases c : x < 4 * (k - 1)
      · rw [show (if 4 * (k - 1) ≤ x ∧ x < 4 * (k - 1) + 4 then x + 4 else x) = x from if_neg (by omega), if_pos c, if_pos (by omega)]
      · by_cases c2 : x < 4 * (k - 1) + 4
        · rw [show (if 4 * (k - 1) ≤ x ∧ x < 4 * (k - 1) + 4 then x + 4 else x) = x + 4 from if_pos (by omega), if_neg (by omega), if_pos (by omega)]
        · rw [show (if 4 * (k - 1) ≤ x ∧ x < 4 * (k - 1) + 4 then x + 4 else x) = x from if_neg (by omega), if_neg (by omega), if_neg (by omega)]
    · exact ((b4.tr (ag.sI s (by simp) _ _)).tr (ag.sI _ (by simp) _ _)).tr (f3.mono (by simp))
    · show lp_X8_dropOldest_2 N (n + 1) (nI k) s = _
      rw [lp_X8_dropOldest_2, if_neg (show ¬ (12 : Int32) ≤ nI k from n_le (b := 12) (by omega) hk), n_sub1 b5, Gd_c (fin_nI hk (by omega)), Gd_c (fin_nI (by omega) (by omega)), Lt_e, n_cl (by omega), n_cl (by omega), b1, if_neg (by omega), Gd_c (fin_nI hk (by omega)), Gd_c (fin_nI (by omega) (by omega)), Lt_e, sI_other _ _ (Or.inl (by decide)), b2, if_neg (by omega), f1, Bv_s, nI_1]) (by
    intro n s _
    show lp_X8_dropOldest_2 N (n + 1) (nI 12) s = _
    rw [lp_X8_dropOldest_2, if_pos (by decide)]; rfl) 11 N 1 σ (by omega) (by omega) ⟨fun x => by rw [if_neg (by omega)], fun x => by rw [if_neg (by omega)], fun x => by rw [if_neg (by omega)], ag.rf, by omega⟩
  have er : g_X8_dropOldest N σ = some (sI s 61 7 (nI 11)) := by
    unfold g_X8_dropOldest
    rw [show lp_X8_dropOldest_2 N N 1 σ = _ from e]
    show (Bv (some s) _ : Option fS) = _
    rw [Bv_s, Lt_e, a4.1.i (by decide), h.1, hl]; rfl
  have hD : ∀ j, (K.drop 1).getD j (0, []) = K.getD (j + 1) (0, []) := fun j => by
    simp only [List.getD_eq_getElem?_getD]; rw [List.getElem?_drop, Nat.add_comm]
  refine ⟨_, er, ⟨?_, fun j hj => ?_⟩, (a4.1.mono (by simp)).tr (ag.sI _ (by simp) _ _), fun i hi => ?_⟩
  · rw [sI_same]; simp [hl]
  · simp at hj
    obtain ⟨p1, p2, p3⟩ := h.2 (j + 1) (by omega)
    rw [hD, sI_other _ _ (Or.inl (by decide)), sI_other _ _ (Or.inl (by decide)), a1, a2, if_pos (by omega)]
    refine ⟨p1, p2, fun e he => ?_⟩
    have := p3 e he
    have h4 := (hb.d (j + 1)).2
    rw [sI_other _ _ (Or.inl (by decide)), a3]
    by_cases c : 4 * j + e < 4 * (12 - 1)
    · rw [if_pos c]; rw [← this]; exact congrArg (σ.1 70) (by omega)
    · exact absurd he (by omega)
  · rw [sI_other _ _ (Or.inr hi), a4.1.i (by decide)]

theorem kp_M {N i L : Nat} {σ : fS} (hN : 200 ≤ N) (hi : i < 8) (hL : L < 12) (h7 : σ.1 61 7 = nI L) : ∃ σ', lp_X8_keep_40 N (nI i) N 0 σ = some σ' ∧ (∀ x, x < 4 * L → σ'.1 70 x = σ.1 70 x) ∧ (∀ e, e < 4 → σ'.1 70 (4 * L + e) = σ.1 63 (4 * i + e)) ∧ ag [70] σ σ' := by
  obtain ⟨s, ⟨a1, a2, a3⟩, e⟩ := lpU (fun n x s => lp_X8_keep_40 N (nI i) n x s) 4 (fun k s => (∀ x, x < 4 * L → s.1 70 x = σ.1 70 x) ∧ (∀ e, e < k → s.1 70 (4 * L + e) = σ.1 63 (4 * i + e)) ∧ ag [70] σ s) id (by
    intro n k s hk ⟨b1, b2, b3⟩
    refine ⟨sI s 70 (4 * L + k) (σ.1 63 (4 * i + k)), ⟨fun x hx => ?_, fun x hx => ?_, b3.tr (ag.sI s (by simp) _ _)⟩, ?_⟩
    · rw [sI_other _ _ (Or.inr (by omega))]; exact b1 x hx
    · by_cases c : x = k
      · subst c; rw [sI_same]
      · rw [sI_other _ _ (Or.inr (by omega))]; exact b2 x (by omega)
    · show lp_X8_keep_40 N (nI i) (n + 1) (nI k) s = _
      rw [lp_X8_keep_40, if_neg (show ¬ (4 : Int32) ≤ nI k from n_le (b := 4) (by omega) hk), b3.i (by decide), h7, ix4, ix4, Gd_c (fin_nI (by omega) (by omega)), Gd_c (fin_nI (by omega) (by omega)), Lt_e, n_cl (by omega), n_cl (by omega), b3.i (by decide), nI_1]) (by
    intro n s _
    show lp_X8_keep_40 N (nI i) (n + 1) (nI 4) s = _
    rw [lp_X8_keep_40, if_pos (by decide)]; rfl) 4 N 0 σ (by omega) (by omega) ⟨fun x _ => rfl, fun e he => absurd he (by omega), ag.rf⟩
  exact ⟨s, e, a1, a2, a3⟩
theorem v_keepM {N i : Nat} {σ : fS} {S : Nat → List Nat} {K : List (Nat × List Nat)} (hN : 200 ≤ N) (hi : i < 8) (h : KM σ K) (hb : KB K) (hm : mf0 σ i (S i)) : ∃ σ', g_X8_keep N (nI i) σ = some σ' ∧ KM σ' (keepL K (i, S i)) ∧ σ'.1 61 11 = σ.1 61 11 + 1 ∧ (∀ j, j ≠ 7 → j ≠ 11 → σ'.1 61 j = σ.1 61 j) ∧ ag [61, 68, 69, 70] σ σ' := by
  have hlen := hb.1
  have first : ∃ s, (if σ.1 61 7 = (12 : Int32) then (Bv (g_X8_dropOldest N σ) fun σ10 => some σ10) else some σ) = some s ∧ KM s (K.drop (kc K)) ∧ ag [61, 68, 69, 70] σ s ∧ (∀ j, j ≠ 7 → s.1 61 j = σ.1 61 j) := by
    rw [h.1]
    unfold kc
    by_cases c : K.length = 12
    · obtain ⟨s, e, k, g, p⟩ := v_dropO hN h hb c
      exact ⟨s, by rw [if_pos (show nI K.length = (12 : Int32) by rw [c]; rfl), e, Bv_s], by rw [if_pos c]; exact k, g, p⟩
    · exact ⟨σ, by rw [if_neg (show ¬ nI K.length = (12 : Int32) from fun z => c ((n_eq (b := 12) (by omega) (by decide)).mp z))], by rw [if_neg c]; exact h, ag.rf, fun _ _ => rfl⟩
  obtain ⟨s, e0, k0, g0, p0⟩ := first
  have hL : (K.drop (kc K)).length = K.length - kc K := by simp
  have hL12 : K.length - kc K < 12 := by unfold kc; split <;> omega
  have h7 : s.1 61 7 = nI (K.length - kc K) := by rw [k0.1, hL]
  obtain ⟨t, f1, f2, f3, f4⟩ := kp_M (σ := sI (sI s 68 (K.length - kc K) (nI i)) 69 (K.length - kc K) (nI (S i).length)) hN hi hL12 (by rw [sI_other _ _ (Or.inl (by decide)), sI_other _ _ (Or.inl (by decide))]; exact h7)
  have t61 : t.1 61 = s.1 61 := by
    rw [f4.i (by decide)]; funext z; rw [sI_other _ _ (Or.inl (by decide)), sI_other _ _ (Or.inl (by decide))]
  have er : g_X8_keep N (nI i) σ = some (sI (sI t 61 7 (nI (K.length - kc K + 1))) 61 11 (σ.1 61 11 + 1)) := by
    unfold g_X8_keep
    rw [e0, Bv_s, h7, Gd_c (fin_nI hL12 (by omega)), Lt_e, Gd_c (fin_nI hi (by omega)), n_cl (by omega), sI_other _ _ (Or.inl (by decide)), h7, Gd_c (fin_nI hL12 (by omega)), Lt_e, n_cl (by omega), n_cl (by omega), sI_other _ _ (Or.inl (by decide)), g0.i (by decide), hm.1, f1, Bv_s, Lt_e, t61, h7, nI_1, Lt_e, sI_other _ _ (Or.inr (by decide)), t61, p0 11 (by decide)]
  refine ⟨_, er, ⟨?_, fun j hj => ?_⟩, ?_, fun j h1 h2 => ?_, ?_⟩
  · rw [sI_other _ _ (Or.inr (by decide)), sI_same, keepL_len]
  · rw [keepL_len] at hj
    have out : ∀ k, k ≠ 61 → (sI (sI t 61 7 (nI (K.length - kc K + 1))) 61 11 (σ.1 61 11 + 1)).1 k = t.1 k := fun k hk => by
      funext z; rw [sI_other _ _ (Or.inl hk), sI_other _ _ (Or.inl hk)]
    rw [out 68 (by decide), out 69 (by decide), out 70 (by decide)]
    have t68 : ∀ z, t.1 68 z = if z = K.length - kc K then nI i else s.1 68 z := fun z => by
      rw [f4.i (by decide), sI_other _ _ (Or.inl (by decide))]
      by_cases c : z = K.length - kc K
      · subst c; rw [sI_same, if_pos rfl]
      · rw [sI_other _ _ (Or.inr c), if_neg c]
    have t69 : ∀ z, t.1 69 z = if z = K.length - kc K then nI (S i).length else s.1 69 z := fun z => by
      rw [f4.i (by decide)]
      by_cases c : z = K.length - kc K
      · subst c; rw [sI_same, if_pos rfl]
      · rw [sI_other _ _ (Or.inr c), if_neg c, sI_other _ _ (Or.inl (by decide))]
    rw [t68, t69]
    by_cases c : j = K.length - kc K
    · subst c
      rw [if_pos rfl, if_pos rfl, keepL_eq]
      refine ⟨rfl, rfl, fun e he => ?_⟩
      have h4 := hm.2.2.1
      rw [f3 e (by exact Nat.lt_of_lt_of_le he h4), sI_other _ _ (Or.inl (by decide)), sI_other _ _ (Or.inl (by decide)), g0.i (by decide)]
      exact hm.2.1 e he
    · have hj' : j < (K.drop (kc K)).length := by rw [hL]; omega
      rw [if_neg c, if_neg c, keepL_lt (by omega)]
      have hD : (K.drop (kc K)).getD j (0, []) = K.getD (j + kc K) (0, []) := by
        simp only [List.getD_eq_getElem?_getD]; rw [List.getElem?_drop, Nat.add_comm]
      have hk := k0.2 j hj'
      rw [hD] at hk
      refine ⟨hk.1, hk.2.1, fun e he => ?_⟩
      have h4 := (hb.d (j + kc K)).2
      rw [f2 _ (by omega), sI_other _ _ (Or.inl (by decide)), sI_other _ _ (Or.inl (by decide))]
      exact hk.2.2 e he
  · rw [sI_same]
  · rw [sI_other _ _ (Or.inr h2), sI_other _ _ (Or.inr h1), t61, p0 j h1]
  · refine (((g0.tr (ag.sI _ ?_ _ _)).tr (ag.sI _ ?_ _ _)).tr (f4.mono ?_)).tr ((ag.sI _ ?_ _ _).tr (ag.sI _ ?_ _ _)) <;> simp
/-! what was made new comes to a shelf -/
def NW (σ : fS) (d : List Nat) : Prop := σ.1 61 28 = nI d.length ∧ (∀ e, e < d.length → σ.1 82 e = nI (d.getD e 0)) ∧ d.length ≤ 4 ∧ ∀ a ∈ d, a < 128
theorem ln_M {N i : Nat} {σ : fS} {d : List Nat} (hN : 200 ≤ N) (hi : i < 8) (h : NW σ d) : ∃ σ', lp_X8_layNew_17 N (nI i) N 0 σ = some σ' ∧ (∀ e, e < d.length → σ'.1 63 (4 * i + e) = nI (d.getD e 0)) ∧ (∀ x, x < 4 * i ∨ 4 * i + 4 ≤ x → σ'.1 63 x = σ.1 63 x) ∧ ag [63] σ σ' := by
  have h4 := h.2.2.1
  obtain ⟨s, ⟨a1, a2, a3⟩, e⟩ := lpU (fun n x s => lp_X8_layNew_17 N (nI i) n x s) 4 (fun k s => (∀ e, e < d.length → e < k → s.1 63 (4 * i + e) = nI (d.getD e 0)) ∧ (∀ x, x < 4 * i ∨ 4 * i + 4 ≤ x → s.1 63 x = σ.1 63 x) ∧ ag [63] σ s) id (by
    intro n k s hk ⟨b1, b2, b3⟩
    refine ⟨sI s 63 (4 * i + k) (if d.length ≤ k then 0 else nI (d.getD k 0)), ⟨fun x hx hxk => ?_, fun x hx => ?_, b3.tr (ag.sI s (by simp) _ _)⟩, ?_⟩
    · by_cases c : x = k
      · subst c; rw [sI_same, if_neg (by omega)]
      · rw [sI_other _ _ (Or.inr (by omega))]; exact b1 x hx (by omega)
    · rw [sI_other _ _ (Or.inr (by omega))]; exact b2 x hx
    · show lp_X8_layNew_17 N (nI i) (n + 1) (nI k) s = _
      rw [lp_X8_layNew_17, if_neg (show ¬ (4 : Int32) ≤ nI k from n_le (b := 4) (by omega) hk), b3.i (by decide), h.1, Gd_c (fin_nI hk (by omega)), b3.i (by decide), n_cl (by omega), ix4, nI_1]
      by_cases c : d.length ≤ k
      · rw [if_pos (y_le (by omega) c), if_pos c, Bd_s, Gd_c (fin_nI (by omega) (by omega)), Lt_e, n_cl (by omega)]
      · rw [if_neg (n_le (by omega) (by omega)), if_neg c, Bd_s, Gd_c (fin_nI (by omega) (by omega)), Lt_e, n_cl (by omega), h.2.1 k (by omega)]) (by
    intro n s _
    show lp_X8_layNew_17 N (nI i) (n + 1) (nI 4) s = _
    rw [lp_X8_layNew_17, if_pos (by decide)]; rfl) 4 N 0 σ (by omega) (by omega) ⟨fun e _ he => absurd he (by omega), fun x _ => rfl, ag.rf⟩
  exact ⟨s, e, fun e he => a1 e he (by omega), a2, a3⟩
theorem v_layNew {N i : Nat} {σ : fS} {S : Nat → List Nat} {K : List (Nat × List Nat)} {d : List Nat} (hN : 200 ≤ N) (hi : i < 8) (hd : NW σ d) (hS : MS σ S) (hK : KM σ K) (hB : KB K) : ∃ σ', g_X8_layNew N (nI i) σ = some (nI d.length, σ') ∧ MS σ' (updS S i d) ∧ KM σ' (keepL K (i, S i)) ∧ σ'.1 61 11 = σ.1 61 11 + 1 ∧ (∀ j, j ≠ 7 → j ≠ 11 → σ'.1 61 j = σ.1 61 j) ∧ ag [61, 62, 63, 64, 68, 69, 70] σ σ' := by
  obtain ⟨s1, e1, k1, c1, p1, g1⟩ := v_keepM (S := S) hN hi hK hB (hS i hi).1
  have hd1 : NW (sI s1 62 i (nI d.length)) d := by
    refine ⟨?_, fun e he => ?_, hd.2.2⟩
    · rw [sI_other _ _ (Or.inl (by decide)), p1 28 (by decide) (by decide)]; exact hd.1
    · rw [sI_other _ _ (Or.inl (by decide)), g1.i (by decide)]; exact hd.2.1 e he
  obtain ⟨s2, e2, a2, b2, g2⟩ := ln_M hN hi hd1
  have er : g_X8_layNew N (nI i) σ = some (nI d.length, sI s2 64 i 0) := by
    unfold g_X8_layNew
    rw [e1, Bv_s, Gd_c (fin_nI hi (by omega)), Lt_e, n_cl (by omega), p1 28 (by decide) (by decide), hd.1, e2, Bv_s, Gd_c (fin_nI hi (by omega)), Lt_e, sI_other _ _ (Or.inl (by decide)), g2.i (by decide), sI_other _ _ (Or.inl (by decide)), p1 28 (by decide) (by decide), hd.1]
  have s61 : (sI s2 64 i 0).1 61 = s1.1 61 := by
    funext z; rw [sI_other _ _ (Or.inl (by decide)), g2.i (by decide), sI_other _ _ (Or.inl (by decide))]
  refine ⟨_, er, ?_, ?_, ?_, ?_, ?_⟩
  · intro j hj
    have o62 : ∀ z, z ≠ i → (sI s2 64 i 0).1 62 z = σ.1 62 z := fun z hz => by
      rw [sI_other _ _ (Or.inl (by decide)), g2.i (by decide), sI_other _ _ (Or.inr hz), g1.i (by decide)]
    by_cases c : j = i
    · subst c
      rw [updS_i]
      refine ⟨⟨?_, fun e he => ?_, hd.2.2⟩, Or.inl (sI_same _ _ _ _)⟩
      · rw [sI_other _ _ (Or.inl (by decide)), g2.i (by decide), sI_same]
      · rw [sI_other _ _ (Or.inl (by decide))]; exact a2 e he
    · rw [updS_o c]
      obtain ⟨⟨m1, m2, m3⟩, m4⟩ := hS j hj
      refine ⟨⟨?_, fun e he => ?_, m3⟩, ?_⟩
      · rw [o62 j c]; exact m1
      · rw [sI_other _ _ (Or.inl (by decide)), b2 _ (by omega), sI_other _ _ (Or.inl (by decide)), g1.i (by decide)]; exact m2 e he
      · rw [sI_other _ _ (Or.inr c), sI_other _ _ (Or.inl (by decide)), sI_other _ _ (Or.inl (by decide)), g2.i (by decide), g2.i (by decide), g2.i (by decide), sI_other _ _ (Or.inl (by decide)), sI_other _ _ (Or.inl (by decide)), sI_other _ _ (Or.inl (by decide)), g1.i (by decide), g1.i (by decide), g1.i (by decide)]; exact m4
  · refine k1.of (by rw [s61]) ?_ ?_ ?_
    · funext z; rw [sI_other _ _ (Or.inl (by decide)), g2.i (by decide), sI_other _ _ (Or.inl (by decide))]
    · funext z; rw [sI_other _ _ (Or.inl (by decide)), g2.i (by decide), sI_other _ _ (Or.inl (by decide))]
    · funext z; rw [sI_other _ _ (Or.inl (by decide)), g2.i (by decide), sI_other _ _ (Or.inl (by decide))]
  · rw [s61]; exact c1
  · intro j h1 h2; rw [s61]; exact p1 j h1 h2
  · refine (((g1.mono ?_).tr (ag.sI _ ?_ _ _)).tr (g2.mono ?_)).tr (ag.sI _ ?_ _ _) <;> simp
