/-! STEPS: what is kept -/
def kc (K : List (Nat × List Nat)) : Nat := if K.length = 12 then 1 else 0
def keepL (K : List (Nat × List Nat)) (q : Nat × List Nat) : List (Nat × List Nat) := K.drop (kc K) ++ [q]
theorem kc_le (K : List (Nat × List Nat)) : kc K ≤ K.length := by unfold kc; split <;> omega
theorem keepL_len (K : List (Nat × List Nat)) (q : Nat × List Nat) : (keepL K q).length = K.length - kc K + 1 := by unfold keepL; simp
theorem keepL_lt {K : List (Nat × List Nat)} {q : Nat × List Nat} {j : Nat} (h : j < K.length - kc K) : (keepL K q).getD j (0, []) = K.getD (j + kc K) (0, []) := by
  unfold keepL
  simp only [List.getD_eq_getElem?_getD]
  rw [List.getElem?_append_left (by simp; omega), List.getElem?_drop, Nat.add_comm]
theorem keepL_eq {K : List (Nat × List Nat)} {q : Nat × List Nat} : (keepL K q).getD (K.length - kc K) (0, []) = q := by
  unfold keepL
  simp only [List.getD_eq_getElem?_getD]
  rw [List.getElem?_append_right (by simp)]
  simp
theorem keepL_B {K : List (Nat × List Nat)} {q : Nat × List Nat} (h : KB K) (hq : q.1 < 8 ∧ q.2.length ≤ 4) : KB (keepL K q) := by
  refine ⟨?_, ?_⟩
  · rw [keepL_len]; have := h.1; unfold kc; split <;> omega
  · intro a ha
    unfold keepL at ha
    simp only [List.mem_append, List.mem_singleton] at ha
    rcases ha with ha | rfl
    · exact h.2 a (List.mem_of_mem_drop ha)
    · exact hq
theorem KB.d {K : List (Nat × List Nat)} (h : KB K) (j : Nat) : (K.getD j (0, [])).1 < 8 ∧ (K.getD j (0, [])).2.length ≤ 4 := by
  by_cases c : j < K.length
  · rw [List.getD_eq_getElem?_getD, List.getElem?_eq_getElem c]
    exact h.2 _ (List.getElem_mem c)
  · rw [List.getD_eq_getElem?_getD, List.getElem?_eq_none (by omega)]
    exact ⟨by decide, by decide⟩
def updS (S : Nat → List Nat) (i : Nat) (d : List Nat) : Nat → List Nat := fun j => if j = i then d else S j
theorem updS_i {S : Nat → List Nat} {i : Nat} {d : List Nat} : updS S i d i = d := if_pos rfl
theorem updS_o {S : Nat → List Nat} {i j : Nat} {d : List Nat} (h : j ≠ i) : updS S i d j = S j := if_neg h
theorem frK_copy {σ τ : fS} {k k1 : Nat} {l : List Nat} (h : frK σ k1 l) (h1 : ∀ i, i < 4 → τ.1 (k + 1) i = σ.1 (k1 + 1) i) (h2 : τ.1 k 1 = σ.1 k1 1) (h3 : τ.1 k 2 = σ.1 k1 2) (h4 : τ.1 k 3 = σ.1 k1 3) : frK τ k l :=
  ⟨⟨h2.trans h.1.1, fun i hi => (h1 i (by have := h.1.2.2.1; omega)).trans (h.1.2.1 i hi), h.1.2.2⟩, fun hl => ⟨h3.trans (h.2 hl).1, h4.trans (h.2 hl).2⟩⟩
theorem flo_A : ∀ n, n < 12 → (0 : Int32) ≤ (nI n ^^^ 12) := by decide +kernel
theorem v_flo {N n : Nat} {σ : fS} (h : n < 12) : g_J9_floorMod_7cf53 N (nI n) 12 σ = some (nI n, σ) := by
  unfold g_J9_floorMod_7cf53
  rw [Gd_c (by decide), Lt_e, if_pos (flo_A n h), show iR (nI n) (12 : Int32) = nI (n % 12) from nI_rem (d := 12) (by omega) (by decide) (by decide), Nat.mod_eq_of_lt h]
theorem v_min {N a : Nat} {σ : fS} (h : a < 2 ^ 31) : g_J9_min_7cf53 N (nI a) 12 σ = some (nI (min a 12), σ) := by
  unfold g_J9_min_7cf53
  by_cases c : 12 < a
  · rw [if_pos (show (12 : Int32) < nI a from (nI_ltI (a := 12) (by decide) h).mpr c), Nat.min_eq_right (by omega)]; rfl
  · rw [if_neg (show ¬ (12 : Int32) < nI a from fun z => c ((nI_ltI (a := 12) (by decide) h).mp z)), Nat.min_eq_left (by omega)]
theorem er8 (i : Nat) : er 8 i = 37 + 2 * i := rfl
def sKp (r : Nat) : List Nat := [6, 7, 37 + 2 * r, 37 + 2 * r + 1]
theorem v_keepX {N i k : Nat} {σ : fS} {K : List (Nat × List Nat)} {l : List Nat} (hN : 200 ≤ N) (h : KX σ K) (hb : KB K) (hk : 21 ≤ k ∧ k ≤ 35) (hl : frK σ k l) : ∃ r σ', g_X5_keep N (nI i) k σ = some σ' ∧ KX σ' (keepL K (i, l)) ∧ σ'.1 6 4 = σ.1 6 4 + 1 ∧ σ'.1 6 5 = σ.1 6 5 ∧ r < 12 ∧ ag (sKp r) σ σ' := by
  obtain ⟨nx, hn, h2, h3, h4⟩ := h
  have hlen := hb.1
  obtain ⟨s, e, c1, c2, c3, c4, c5⟩ := v_copy (σ := sI σ 7 nx (nI i)) (k := 37 + 2 * nx) (k1 := k) hN (by omega)
  have c6 : ∀ j, s.1 6 j = σ.1 6 j := fun j => by rw [c5.i (by simp; omega), sI_other _ _ (Or.inl (by decide))]
  have hfr : frK s (37 + 2 * nx) l := frK_copy (σ := sI σ 7 nx (nI i)) (hl.of (by funext j; exact sI_other _ _ (Or.inl (by omega))) (by funext j; exact sI_other _ _ (Or.inl (by omega)))) c1 c2 c3 c4
  have er : g_X5_keep N (nI i) k σ = some (sI (sI (sI s 6 2 (nI ((nx + 1) % 12))) 6 3 (nI (min (K.length + 1) 12))) 6 4 (σ.1 6 4 + 1)) := by
    unfold g_X5_keep
    rw [h2, v_flo hn, Bd_s, Gd_c (fin_nI hn (by omega)), Lt_e, Gd_c (fin_nI hn (by omega)), n_cl (by omega), er8, e, Bv_s, nI_1, show iR (nI (nx + 1)) (12 : Int32) = nI ((nx + 1) % 12) from nI_rem (d := 12) (by omega) (by decide) (by decide), Lt_e, sI_other _ _ (Or.inr (by decide)), c6, h3, nI_1, v_min (by omega), Bd_s, Lt_e, Lt_e, sI_other _ _ (Or.inr (by decide)), sI_other _ _ (Or.inr (by decide)), c6]
  have hl1 : min (K.length + 1) 12 = (keepL K (i, l)).length := by
    rw [keepL_len]; unfold kc; split <;> omega
  refine ⟨nx, _, er, ⟨(nx + 1) % 12, Nat.mod_lt _ (by decide), ?_, ?_, ?_⟩, ?_, ?_, hn, ?_⟩
  · rw [sI_other _ _ (Or.inr (by decide)), sI_other _ _ (Or.inr (by decide)), sI_same]
  · rw [sI_other _ _ (Or.inr (by decide)), sI_same, hl1]
  · intro j hj
    rw [keepL_len] at hj
    have hkc : kc K = 0 ∧ K.length < 12 ∨ kc K = 1 ∧ K.length = 12 := by
      unfold kc; by_cases c : K.length = 12
      · rw [if_pos c]; exact Or.inr ⟨rfl, c⟩
      · rw [if_neg c]; exact Or.inl ⟨rfl, by omega⟩
    have out : ∀ k, k ≠ 6 → (sI (sI (sI s 6 2 (nI ((nx + 1) % 12))) 6 3 (nI (min (K.length + 1) 12))) 6 4 (σ.1 6 4 + 1)).1 k = s.1 k := fun k hk => by
      funext z
      rw [sI_other _ _ (Or.inl hk), sI_other _ _ (Or.inl hk), sI_other _ _ (Or.inl hk)]
    have hr : rp ((nx + 1) % 12) (keepL K (i, l)).length j < 12 := rp_lt _ _ _
    rw [out 7 (by decide)]
    by_cases c : j = K.length - kc K
    · have e1 : rp ((nx + 1) % 12) (keepL K (i, l)).length j = nx := by
        rw [keepL_len]; unfold rp; omega
      rw [e1, c, keepL_eq]
      refine ⟨?_, ?_⟩
      · rw [c5.i (by simp; omega), sI_same]
      · exact hfr.of (out _ (by omega)) (out _ (by omega))
    · have e1 : rp ((nx + 1) % 12) (keepL K (i, l)).length j = rp nx K.length (j + kc K) := by
        rw [keepL_len]; unfold rp; omega
      have e2 : rp nx K.length (j + kc K) ≠ nx := by unfold rp; omega
      rw [e1, keepL_lt (by omega)]
      obtain ⟨p1, p2⟩ := h4 (j + kc K) (by omega)
      rw [e1] at hr
      refine ⟨?_, ?_⟩
      · rw [c5.i (by simp; omega), sI_other _ _ (Or.inr e2)]; exact p1
      · refine p2.of ?_ ?_
        · rw [out _ (by omega), c5.i (by simp; omega)]; funext z; exact sI_other _ _ (Or.inl (by omega))
        · rw [out _ (by omega), c5.i (by simp; omega)]; funext z; exact sI_other _ _ (Or.inl (by omega))
  · rw [sI_same]
  · rw [sI_other _ _ (Or.inr (by decide)), sI_other _ _ (Or.inr (by decide)), sI_other _ _ (Or.inr (by decide)), c6]
  · refine (((ag.sI σ ?_ _ _).tr (c5.mono ?_)).tr (ag.sI _ ?_ _ _)).tr ((ag.sI _ ?_ _ _).tr (ag.sI _ ?_ _ _))
    · simp [sKp]
    · intro z hz; simp [sKp] at hz ⊢; omega
    · simp [sKp]
    · simp [sKp]
    · simp [sKp]
/-! the draft comes to a SHELF -/
def sSh (i r : Nat) : List Nat := [4, 16, 17, 6, 7, 37 + 2 * r, 37 + 2 * r + 1, 21 + 2 * i, 21 + 2 * i + 1]
theorem v_shelve {N i : Nat} {σ : fS} {S : Nat → List Nat} {K : List (Nat × List Nat)} {d : List Nat} (hN : 200 ≤ N) (hi : i < 8) (hd : fr0 σ 4 d) (hS : XS σ S) (hK : KX σ K) (hB : KB K) : ∃ r σ', g_X7_shelveDraft N (nI i) σ = some σ' ∧ XS σ' (updS S i d) ∧ KX σ' (keepL K (i, S i)) ∧ σ'.1 6 4 = σ.1 6 4 + 1 ∧ σ'.1 6 5 = σ.1 6 5 ∧ r < 12 ∧ ag (sSh i r) σ σ' := by
  obtain ⟨s1, e1, a1, a2, a3, g1⟩ := v_settle hN hd (by decide)
  have hS1 : XS s1 S := hS.of (fun k p q => g1.i (by simp; omega))
  have hK1 : KX s1 K := hK.of (g1.i (by decide)) (g1.i (by decide)) (fun k p q => g1.i (by simp; omega))
  obtain ⟨r, s2, e2, k2, b2, b3, hr, g2⟩ := v_keepX (i := i) hN hK1 hB (k := 21 + 2 * i) (by omega) (hS1 i hi)
  have h4 : frK s2 4 d := by
    have : frK s1 4 d := ⟨a1, fun _ => ⟨a2, a3⟩⟩
    exact this.of (g2.i (by simp [sKp]; omega)) (g2.i (by simp [sKp]; omega))
  obtain ⟨s3, e3, c1, c2, c3, c4, g3⟩ := v_copy (σ := s2) (k := 21 + 2 * i) (k1 := 4) hN (by omega)
  refine ⟨r, s3, ?_, ?_, ?_, ?_, ?_, hr, ?_⟩
  · unfold g_X7_shelveDraft
    rw [v_shX hi, Bd_s, if_neg (by decide), e1, Bv_s, Gd_c (fin_nI hi (by omega)), n_cl (by omega), er3, e2, Bv_s, Gd_c (fin_nI hi (by omega)), e3, Bv_s]
  · intro j hj
    by_cases c : j = i
    · subst c; rw [updS_i]; exact frK_copy h4 c1 c2 c3 c4
    · rw [updS_o c]
      refine (hS1 j hj).of ?_ ?_
      · rw [g3.i (by simp; omega), g2.i (by simp [sKp]; omega)]
      · rw [g3.i (by simp; omega), g2.i (by simp [sKp]; omega)]
  · exact k2.of (g3.i (by simp; omega)) (g3.i (by simp; omega)) (fun k p q => g3.i (by simp; omega))
  · rw [g3.i (by simp; omega), b2, g1.i (by decide)]
  · rw [g3.i (by simp; omega), b3, g1.i (by decide)]
  · refine ((g1.mono ?_).tr (g2.mono ?_)).tr (g3.mono ?_)
    · intro z hz; simp [sSh] at hz ⊢; omega
    · intro z hz; simp [sSh, sKp] at hz ⊢; omega
    · intro z hz; simp [sSh] at hz ⊢; omega
