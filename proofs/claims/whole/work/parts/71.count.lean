/-! count -/
def snF (S : Nat → List Nat) (w i : Nat) : Nat := if S i = [] then 0 else if w = 0 then 1 else if w = 1 then (S i).length else if lstA S i = i then 1 else 0
def snC (S : Nat → List Nat) (w k : Nat) : Nat := (List.range k).foldl (fun c i => c + snF S w i) 0
theorem snC_s (S : Nat → List Nat) (w k : Nat) : snC S w (k + 1) = snC S w k + snF S w k := fold_succ (fun c i => c + snF S w i) 0 k
theorem n_add0 (a : Nat) : nI a + (0 : Int32) = nI (a + 0) := nI_add a 0
theorem v_cfX {N : Nat} {σ : fS} {S : Nat → List Nat} (hN : 200 ≤ N) (h : XS σ S) : g_X7_countForms N σ = some (nI (snC S 0 8), σ) := by
  obtain ⟨s, h1, e⟩ := lpU (fun n x (s : Int32) => lp_X7_countForms_4 N n s x σ) 8 (fun i s => s = nI (snC S 0 i)) (fun s => (s, σ)) (by
    intro n i s hi (hs : s = nI (snC S 0 i))
    refine ⟨nI (snC S 0 (i + 1)), rfl, ?_⟩
    show lp_X7_countForms_4 N (n + 1) s (nI i) σ = lp_X7_countForms_4 N n (nI (snC S 0 (i + 1))) (nI (i + 1)) σ
    rw [lp_X7_countForms_4, if_neg (show ¬ (8 : Int32) ≤ nI i from n_le (b := 8) (by omega) hi), hfX_i h hi, Bd_s, hs, nI_1, nI_1, n_add0, snC_s, Lt_e, Lt_e]
    unfold snF
    by_cases c : S i = []
    · rw [if_pos (by simp [c, bI]), if_pos c]
    · rw [if_neg (by simp [c, bI]), if_neg c, if_pos rfl]) (by
    intro n s _
    show lp_X7_countForms_4 N (n + 1) s (nI 8) σ = _
    rw [lp_X7_countForms_4, if_pos (by decide)]) 8 N 0 0 (by omega) (by omega) rfl
  unfold g_X7_countForms
  rw [show lp_X7_countForms_4 N N 0 0 σ = _ from e, Bd_s, show s = nI (snC S 0 8) from h1]
theorem snF_1 (S : Nat → List Nat) (i : Nat) : snF S 1 i = (S i).length := by
  unfold snF
  by_cases c : S i = []
  · rw [if_pos c, c]; rfl
  · rw [if_neg c, if_neg (by decide), if_pos rfl]
theorem v_ctX {N : Nat} {σ : fS} {S : Nat → List Nat} (hN : 200 ≤ N) (h : XS σ S) : g_X7_countTerms N σ = some (nI (snC S 1 8), σ) := by
  obtain ⟨s, h1, e⟩ := lpU (fun n x (s : Int32) => lp_X7_countTerms_4 N n s x σ) 8 (fun i s => s = nI (snC S 1 i)) (fun s => (s, σ)) (by
    intro n i s hi (hs : s = nI (snC S 1 i))
    refine ⟨nI (snC S 1 (i + 1)), rfl, ?_⟩
    show lp_X7_countTerms_4 N (n + 1) s (nI i) σ = lp_X7_countTerms_4 N n (nI (snC S 1 (i + 1))) (nI (i + 1)) σ
    rw [lp_X7_countTerms_4, if_neg (show ¬ (8 : Int32) ≤ nI i from n_le (b := 8) (by omega) hi), Gd_c (fin_nI hi (by omega)), n_cl (by omega), er3, (h i hi).1.1, hs, nI_1, nI_add, snC_s, snF_1, Lt_e]) (by
    intro n s _
    show lp_X7_countTerms_4 N (n + 1) s (nI 8) σ = _
    rw [lp_X7_countTerms_4, if_pos (by decide)]) 8 N 0 0 (by omega) (by omega) rfl
  unfold g_X7_countTerms
  rw [show lp_X7_countTerms_4 N N 0 0 σ = _ from e, Bd_s, show s = nI (snC S 1 8) from h1]
theorem v_cuX {N : Nat} {σ : fS} {S : Nat → List Nat} (hN : 200 ≤ N) (h : XS σ S) : g_X7_countUnlike N σ = some (nI (snC S 2 8), σ) := by
  obtain ⟨s, h1, e⟩ := lpU (fun n x (s : Int32) => lp_X7_countUnlike_4 N n s x σ) 8 (fun i s => s = nI (snC S 2 i)) (fun s => (s, σ)) (by
    intro n i s hi (hs : s = nI (snC S 2 i))
    refine ⟨nI (snC S 2 (i + 1)), rfl, ?_⟩
    show lp_X7_countUnlike_4 N (n + 1) s (nI i) σ = lp_X7_countUnlike_4 N n (nI (snC S 2 (i + 1))) (nI (i + 1)) σ
    rw [lp_X7_countUnlike_4, if_neg (show ¬ (8 : Int32) ≤ nI i from n_le (b := 8) (by omega) hi), hfX_i h hi, Bd_s, hs, nI_1, nI_1, n_add0, snC_s, Lt_e]
    unfold snF
    by_cases c : S i = []
    · rw [if_pos (by simp [c, bI]), if_pos c]
    · have hle := lstA_le S i
      rw [if_neg (by simp [c, bI]), if_neg c, if_neg (by decide), if_neg (by decide), v_lstX hN hi c h, Bd_s, Lt_e, Lt_e]
      have e1 : (nI (lstA S i) = nI i) ↔ lstA S i = i := n_eq (by omega) (by omega)
      by_cases c2 : lstA S i = i
      · rw [if_pos (e1.mpr c2), if_pos c2]
      · rw [if_neg (fun z => c2 (e1.mp z)), if_neg c2]) (by
    intro n s _
    show lp_X7_countUnlike_4 N (n + 1) s (nI 8) σ = _
    rw [lp_X7_countUnlike_4, if_pos (by decide)]) 8 N 0 0 (by omega) (by omega) rfl
  unfold g_X7_countUnlike
  rw [show lp_X7_countUnlike_4 N N 0 0 σ = _ from e, Bd_s, show s = nI (snC S 2 8) from h1]
theorem v_slM {N w : Nat} {σ : fS} {S : Nat → List Nat} (hN : 200 ≤ N) (hw : w < 3) (h : MS σ S) : ∃ σ', g_X8_shelves N (nI w) σ = some (nI (snC S w 8), σ') ∧ MS σ' S ∧ qM σ σ' := by
  obtain ⟨s, ⟨h1, h2, h3⟩, e⟩ := lpU (fun n x (s : Int32 × fS) => lp_X8_shelves_4 N (nI w) n s.1 x s.2) 8 (fun i s => s.1 = nI (snC S w i) ∧ MS s.2 S ∧ qM σ s.2) id (by
    intro n i s hi ⟨h1, h2, h3⟩
    show ∃ t : Int32 × fS, (t.1 = nI (snC S w (i + 1)) ∧ MS t.2 S ∧ qM σ t.2) ∧ lp_X8_shelves_4 N (nI w) (n + 1) s.1 (nI i) s.2 = lp_X8_shelves_4 N (nI w) n t.1 (nI (i + 1)) t.2
    have h4 := (h2 i hi).1.2.2.1
    rw [lp_X8_shelves_4, if_neg (show ¬ (8 : Int32) ≤ nI i from n_le (b := 8) (by omega) hi), Gd_c (fin_nI hi (by omega)), Gd_c (fin_nI hi (by omega)), n_cl (by omega), (h2 i hi).1.1, h1, nI_1, nI_1, n_add0, nI_add, snC_s, Lt_e, Lt_e]
    unfold snF
    by_cases c : S i = []
    · rw [if_pos ((n_le0 (by omega)).mpr (by rw [c]; rfl)), if_pos c]
      exact ⟨(nI (snC S w i), s.2), ⟨rfl, h2, h3⟩, rfl⟩
    · rw [if_neg (fun z => c (List.length_eq_zero_iff.mp ((n_le0 (by omega)).mp z))), if_neg c]
      have hc : w = 0 ∨ w = 1 ∨ w = 2 := by omega
      rcases hc with rfl | rfl | rfl
      · rw [if_pos (show nI 0 = (0 : Int32) from rfl), if_pos rfl]
        exact ⟨(nI (snC S 0 i + 1), s.2), ⟨rfl, h2, h3⟩, rfl⟩
      · rw [if_neg (show ¬ nI 1 = (0 : Int32) by decide), if_pos (show nI 1 = (1 : Int32) from rfl), if_neg (by decide), if_pos rfl]
        exact ⟨(nI (snC S 1 i + (S i).length), s.2), ⟨rfl, h2, h3⟩, rfl⟩
      · rw [if_neg (show ¬ nI 2 = (0 : Int32) by decide), if_neg (show ¬ nI 2 = (1 : Int32) by decide), if_neg (show ¬ (2 : Nat) = 0 by decide), if_neg (show ¬ (2 : Nat) = 1 by decide)]
        obtain ⟨s', f, m, q⟩ := v_lstM hN hi h2
        have hle := lstA_le S i
        rw [f, Bd_s, Lt_e, Lt_e]
        have e1 : (nI (lstA S i) = nI i) ↔ lstA S i = i := n_eq (by omega) (by omega)
        by_cases c2 : lstA S i = i
        · rw [if_pos (e1.mpr c2), if_pos c2]
          exact ⟨(nI (snC S 2 i + 1), s'), ⟨rfl, m, h3.tr q⟩, rfl⟩
        · rw [if_neg (fun z => c2 (e1.mp z)), if_neg c2]
          exact ⟨(nI (snC S 2 i + 0), s'), ⟨rfl, m, h3.tr q⟩, rfl⟩) (by
    intro n s _
    show lp_X8_shelves_4 N (nI w) (n + 1) s.1 (nI 8) s.2 = _
    rw [lp_X8_shelves_4, if_pos (by decide)]; rfl) 8 N 0 (0, σ) (by omega) (by omega) ⟨rfl, h, qM.rf⟩
  refine ⟨s.2, ?_, h2, h3⟩
  unfold g_X8_shelves
  rw [show lp_X8_shelves_4 N (nI w) N 0 0 σ = _ from e]
  show (Bd (some (s.1, s.2)) _ : Option (Int32 × fS)) = _
  rw [Bd_s, h1]
/-! GENERA -/
def gnF (σ : fS) (i : Nat) : Nat := if σ.1 74 i = nI i then 1 else 0
def gnC (σ : fS) (k : Nat) : Nat := (List.range k).foldl (fun c i => c + gnF σ i) 0
theorem gnC_s (σ : fS) (k : Nat) : gnC σ (k + 1) = gnC σ k + gnF σ k := fold_succ (fun c i => c + gnF σ i) 0 k
theorem gnC_cg {σ τ : fS} (h : τ.1 74 = σ.1 74) (k : Nat) : gnC τ k = gnC σ k := by unfold gnC gnF; rw [h]
theorem v_gnX {N n m : Nat} {A M : Nat → Nat} {σ : fS} (hN : 200 ≤ N) (h : PS σ n m A M) : g_X4_countGenera N σ = some (nI (gnC σ m), σ) := by
  have hm := h.2.1.2.2
  obtain ⟨s, h1, e⟩ := lpU (fun n x (s : Int32) => lp_X4_countGenera_4 N n s x σ) m (fun i s => s = nI (gnC σ i)) (fun s => (s, σ)) (by
    intro n i s hi (hs : s = nI (gnC σ i))
    refine ⟨nI (gnC σ (i + 1)), rfl, ?_⟩
    show lp_X4_countGenera_4 N (n + 1) s (nI i) σ = lp_X4_countGenera_4 N n (nI (gnC σ (i + 1))) (nI (i + 1)) σ
    rw [lp_X4_countGenera_4, h.2.1.1, if_neg (n_le (by omega) hi), if_neg (show ¬ (56 : Int32) ≤ nI i from n_le (b := 56) (by omega) (by omega)), Gd_c (fin_nI (show i < 56 by omega) (by omega)), n_cl (by omega), ← (h.2.2.2 i hi).2.1.2.2, hs, nI_1, nI_1, n_add0, gnC_s, Lt_e, Lt_e]
    unfold gnF
    by_cases c : σ.1 74 i = nI i
    · rw [if_pos c, if_pos c]
    · rw [if_neg c, if_neg c]) (by
    intro n s _
    show lp_X4_countGenera_4 N (n + 1) s (nI m) σ = _
    rw [lp_X4_countGenera_4, h.2.1.1, if_pos (y_le (by omega) (Nat.le_refl _))]) m N 0 0 (by omega) (by omega) rfl
  unfold g_X4_countGenera
  rw [show lp_X4_countGenera_4 N N 0 0 σ = _ from e, Bd_s, show s = nI (gnC σ m) from h1]
theorem v_gnM {N n m : Nat} {A M : Nat → Nat} {σ : fS} (hN : 200 ≤ N) (h : PS σ n m A M) : g_X8_genera N σ = some (nI (gnC σ m), σ) := by
  have hm := h.2.1.2.2
  obtain ⟨s, h1, e⟩ := lpU (fun n x (s : Int32) => lp_X8_genera_4 N n s x σ) m (fun i s => s = nI (gnC σ i)) (fun s => (s, σ)) (by
    intro n i s hi (hs : s = nI (gnC σ i))
    refine ⟨nI (gnC σ (i + 1)), rfl, ?_⟩
    show lp_X8_genera_4 N (n + 1) s (nI i) σ = lp_X8_genera_4 N n (nI (gnC σ (i + 1))) (nI (i + 1)) σ
    rw [lp_X8_genera_4, h.2.1.2.1, if_neg (n_le (by omega) hi), Gd_c (fin_nI (show i < 56 by omega) (by omega)), n_cl (by omega), hs, nI_1, nI_1, n_add0, gnC_s, Lt_e, Lt_e]
    unfold gnF
    by_cases c : σ.1 74 i = nI i
    · rw [if_pos c, if_pos c]
    · rw [if_neg c, if_neg c]) (by
    intro n s _
    show lp_X8_genera_4 N (n + 1) s (nI m) σ = _
    rw [lp_X8_genera_4, h.2.1.2.1, if_pos (y_le (by omega) (Nat.le_refl _))]) m N 0 0 (by omega) (by omega) rfl
  unfold g_X8_genera
  rw [show lp_X8_genera_4 N N 0 0 σ = _ from e, Bd_s, show s = nI (gnC σ m) from h1]
def cnI (σ : fS) (S : Nat → List Nat) (m w : Nat) : Int32 := if w = 0 then nI (snC S 0 8) else if w = 1 then nI (snC S 1 8) else if w = 2 then nI (snC S 2 8) else if w = 3 then σ.1 61 7 else if w = 4 then σ.1 61 5 else if w = 5 then σ.1 61 13 else if w = 6 then σ.1 61 14 else if w = 7 then nI (gnC σ m) else if w = 8 then σ.1 61 11 else σ.1 61 12
theorem KX.len {σ : fS} {K : List (Nat × List Nat)} (h : KX σ K) : σ.1 6 3 = nI K.length := h.elim (fun _ q => q.2.2.1)
theorem v_cnX {N w : Nat} {pg : List Nat} {S : Nat → List Nat} {K : List (Nat × List Nat)} {n m : Nat} {A M : Nat → Nat} {σ : fS} (hN : 200 ≤ N) (h : INVw pg S K n m A M σ) (hw : w < 10) : g_X7_count N (nI w) σ = some (cnI σ S m w, σ) := by
  obtain ⟨h1, h2, h3, h4, h5, h6, h7, h8⟩ := h
  have e3 : σ.1 6 3 = σ.1 61 7 := h4.len.trans h5.1.symm
  have e4 : σ.1 1 1 = σ.1 61 5 := h1.1.trans h1.2.1.symm
  have e5 : σ.1 9 6 = σ.1 61 13 := h8.1.1.trans h8.1.2.1.symm
  have e6 : σ.1 9 7 = σ.1 61 14 := h8.2.1.1.trans h8.2.1.2.1.symm
  unfold g_X7_count
  rw [v_cfX hN h2, v_ctX hN h2, v_cuX hN h2, v_gnX hN h8, e3, e4, e5, e6, h7.1, h7.2]
  have hc : w = 0 ∨ w = 1 ∨ w = 2 ∨ w = 3 ∨ w = 4 ∨ w = 5 ∨ w = 6 ∨ w = 7 ∨ w = 8 ∨ w = 9 := by omega
  rcases hc with rfl | rfl | rfl | rfl | rfl | rfl | rfl | rfl | rfl | rfl <;> rfl
theorem v_cnM {N w : Nat} {S : Nat → List Nat} {n m : Nat} {A M : Nat → Nat} {σ : fS} (hN : 200 ≤ N) (h3 : MS σ S) (h8 : PS σ n m A M) (hw : w < 10) : ∃ σ', g_X8_howMany N (nI w) σ = some (cnI σ S m w, σ') ∧ MS σ' S ∧ qM σ σ' := by
  unfold g_X8_howMany
  rw [v_gnM hN h8]
  have hc : w = 0 ∨ w = 1 ∨ w = 2 ∨ w = 3 ∨ w = 4 ∨ w = 5 ∨ w = 6 ∨ w = 7 ∨ w = 8 ∨ w = 9 := by omega
  rcases hc with rfl | rfl | rfl | rfl | rfl | rfl | rfl | rfl | rfl | rfl
  · obtain ⟨s, e, a, b⟩ := v_slM hN (show 0 < 3 by decide) h3
    rw [e]; exact ⟨s, rfl, a, b⟩
  · obtain ⟨s, e, a, b⟩ := v_slM hN (show 1 < 3 by decide) h3
    rw [e]; exact ⟨s, rfl, a, b⟩
  · obtain ⟨s, e, a, b⟩ := v_slM hN (show 2 < 3 by decide) h3
    rw [e]; exact ⟨s, rfl, a, b⟩
  · exact ⟨σ, rfl, h3, qM.rf⟩
  · exact ⟨σ, rfl, h3, qM.rf⟩
  · exact ⟨σ, rfl, h3, qM.rf⟩
  · exact ⟨σ, rfl, h3, qM.rf⟩
  · exact ⟨σ, rfl, h3, qM.rf⟩
  · exact ⟨σ, rfl, h3, qM.rf⟩
  · exact ⟨σ, rfl, h3, qM.rf⟩
theorem o25 {N : Nat} (hN : 200 ≤ N) : op_25 INV N := by
  intro x σ hi
  have hi' := hi
  obtain ⟨pg, S, K, n, m, A, M, hw⟩ := hi'
  rcases in_or x 10 (by omega) with ⟨w, hw10, rfl⟩ | ⟨c1, c2⟩
  · obtain ⟨s, e, a, b⟩ := v_cnM hN hw.2.2.1 hw.2.2.2.2.2.2.2 hw10
    refine ⟨cnI σ S m w, σ, s, v_cnX hN hw hw10, ?_, pg, S, K, n, m, A, M, hw.q b.A a⟩
    unfold g_X8_count
    rw [e, Bd_s]
  · have hne : ∀ j, j < 10 → ¬ x = nI j := fun j hj e => c2 (by subst e; exact ⟨n_ge0 (by omega), by rw [← zI_nat, zI_le (by omega) (by omega)]; omega⟩)
    refine ⟨-102, σ, σ, ?_, ?_, hi⟩
    · unfold g_X7_count
      rw [if_neg (show ¬ x = (0 : Int32) from hne 0 (by decide)), if_neg (show ¬ x = (1 : Int32) from hne 1 (by decide)), if_neg (show ¬ x = (2 : Int32) from hne 2 (by decide)), if_neg (show ¬ x = (3 : Int32) from hne 3 (by decide)), if_neg (show ¬ x = (4 : Int32) from hne 4 (by decide)), if_neg (show ¬ x = (5 : Int32) from hne 5 (by decide)), if_neg (show ¬ x = (6 : Int32) from hne 6 (by decide)), if_neg (show ¬ x = (7 : Int32) from hne 7 (by decide)), if_neg (show ¬ x = (8 : Int32) from hne 8 (by decide)), if_neg (show ¬ x = (9 : Int32) from hne 9 (by decide))]
    · unfold g_X8_count g_X8_howMany
      rw [if_neg (show ¬ x = (0 : Int32) from hne 0 (by decide)), if_neg (show ¬ x = (1 : Int32) from hne 1 (by decide)), if_neg (show ¬ x = (2 : Int32) from hne 2 (by decide)), if_neg (show ¬ x = (3 : Int32) from hne 3 (by decide)), if_neg (show ¬ x = (4 : Int32) from hne 4 (by decide)), if_neg (show ¬ x = (5 : Int32) from hne 5 (by decide)), if_neg (show ¬ x = (6 : Int32) from hne 6 (by decide)), if_neg (show ¬ x = (7 : Int32) from hne 7 (by decide)), if_neg (show ¬ x = (8 : Int32) from hne 8 (by decide)), if_neg (show ¬ x = (9 : Int32) from hne 9 (by decide)), Bd_s]
