/-! PAIRS opened by the reference; pairs -/
def bsM (σ : fS) (n k : Nat) (P : List (Nat × Int × Nat)) : Prop := σ.1 61 13 = nI n ∧ n ≤ 160 ∧ 3 ≤ n ∧ cM σ P ∧ P.length ≤ 56 ∧ pAll P ∧ k < P.length
def arP (s : fS) (k r : Nat) (E : Prop) : Prop := (E → s.1 76 (160 * k + r) = 1) ∧ (¬ E → s.1 76 (160 * k + r) = 0)
def rsM (σ s : fS) (n k : Nat) (E : Nat → Prop) : Prop := (∀ q, q ≠ 76 → s.1 q = σ.1 q) ∧ s.2 = σ.2 ∧ (∀ j, j / 160 ≠ k → s.1 76 j = σ.1 76 j) ∧ ∀ r, r < n → arP s k r (E r)
theorem rsM.b {σ s : fS} {n k : Nat} {E : Nat → Prop} {P : List (Nat × Int × Nat)} (h : rsM σ s n k E) (b : bsM σ n k P) : bsM s n k P := by
  unfold bsM cM at *; rw [h.1 61 (by decide), h.1 71 (by decide), h.1 72 (by decide), h.1 73 (by decide)]; exact b
theorem ix160 (k r : Nat) : (160 : Int32) * nI k + nI r = nI (160 * k + r) := by rw [show (160 : Int32) * nI k = nI (160 * k) from pk_mul 160 k, nI_add]
theorem v_lm2 {N n k : Nat} {σ : fS} {P : List (Nat × Int × Nat)} (hN : 200 ≤ N) (b : bsM σ n k P) : ∃ s', lp_X8_layMet_2 N (nI k) N 0 σ = some s' ∧ rsM σ s' n k (fun _ => False) := by
  obtain ⟨h1, h2, h3, h4, h5, h6, h7⟩ := b
  obtain ⟨s', ⟨a1, a2, a3, a4⟩, e⟩ := lpU (fun f x s => lp_X8_layMet_2 N (nI k) f x s) n (fun i s => (∀ q, q ≠ 76 → s.1 q = σ.1 q) ∧ s.2 = σ.2 ∧ (∀ j, j / 160 ≠ k → s.1 76 j = σ.1 76 j) ∧ ∀ r, r < i → s.1 76 (160 * k + r) = 0) id (by
    intro f i u hi ⟨c1, c2, c3, c4⟩
    refine ⟨sI u 76 (160 * k + i) 0, ⟨fun q hq => by rw [sI_ne _ _ _ hq]; exact c1 q hq, c2, fun j hj => by rw [sI_other _ _ (Or.inr (fun z => hj (by omega)))]; exact c3 j hj, fun r hr => ?_⟩, ?_⟩
    · by_cases c : r = i
      · subst c; rw [sI_same]
      · rw [sI_other _ _ (Or.inr (by omega))]; exact c4 r (by omega)
    · show lp_X8_layMet_2 N (nI k) (f + 1) (nI i) u = lp_X8_layMet_2 N (nI k) f (nI (i + 1)) (sI u 76 (160 * k + i) 0)
      rw [lp_X8_layMet_2, c1 61 (by decide), h1, if_neg (n_le (by omega) hi), ix160, Gd_c (fin_nI (show 160 * k + i < 8960 by omega) (by omega)), n_cl (by omega), Lt_e, nI_1]) (by
    intro f u ⟨c1, _⟩
    show lp_X8_layMet_2 N (nI k) (f + 1) (nI n) u = _
    rw [lp_X8_layMet_2, c1 61 (by decide), h1, if_pos (y_le (by omega) (Nat.le_refl _))]; rfl) n N 0 σ (by omega) (by omega) ⟨fun _ _ => rfl, rfl, fun _ _ => rfl, fun r hr => absurd hr (by omega)⟩
  exact ⟨s', e, a1, a2, a3, fun r hr => ⟨fun z => z.elim, fun _ => a4 r hr⟩⟩
theorem v_lm41 {N n k x : Nat} {σ s : fS} {E : Nat → Prop} {P : List (Nat × Int × Nat)} (hN : 200 ≤ N) (b : bsM σ n k P) (h : rsM σ s n k E) (hx : x < n) : ∃ s', lp_X8_layMet_41 N (nI k) (nI x) N 0 s = some s' ∧ rsM σ s' n k (fun r => E r ∨ ∃ y, y < n ∧ pv (P.getD k d0) x y % n = r) := by
  have hb := b
  obtain ⟨h1, h2, h3, h4, h5, h6, h7⟩ := b
  have hp := h6 k h7
  generalize hpe : P.getD k d0 = p at *
  obtain ⟨s', a1, e⟩ := lpU (fun f y s => lp_X8_layMet_41 N (nI k) (nI x) f y s) n (fun i s => rsM σ s n k (fun r => E r ∨ ∃ y, y < i ∧ pv p x y % n = r)) id (by
    intro f i u hi (c : rsM σ u n k (fun r => E r ∨ ∃ y, y < i ∧ pv p x y % n = r))
    have bu := c.b hb
    have hcx := bu.2.2.2.1.2 k h7
    rw [hpe] at hcx
    have hfb := fZ_b hp (x := x) (y := i) (by omega) (by omega)
    have hpz := pv_Z hp (x := x) (y := i) (by omega) (by omega)
    have hpv : pv p x i < 2 ^ 31 := by omega
    have hm : pv p x i % n < n := Nat.mod_lt _ (by omega)
    obtain ⟨c1, c2, c3, c4⟩ := c
    refine ⟨sI u 76 (160 * k + pv p x i % n) 1, ⟨fun q hq => by rw [sI_ne _ _ _ hq]; exact c1 q hq, c2, fun j hj => by rw [sI_other _ _ (Or.inr (fun z => hj (by omega)))]; exact c3 j hj, fun r hr => ?_⟩, ?_⟩
    · unfold arP
      by_cases cr : r = pv p x i % n
      · rw [cr, sI_same]
        exact ⟨fun _ => rfl, fun z => absurd (Or.inr ⟨i, by omega, rfl⟩) z⟩
      · rw [sI_other _ _ (Or.inr (by omega))]
        refine ⟨fun z => (c4 r hr).1 ?_, fun z => (c4 r hr).2 ?_⟩
        · rcases z with z | ⟨y, z1, z2⟩
          · exact Or.inl z
          · by_cases cy : y = i
            · subst cy; exact absurd z2.symm cr
            · exact Or.inr ⟨y, by omega, z2⟩
        · rintro (w | ⟨y, w1, w2⟩)
          · exact z (Or.inl w)
          · exact z (Or.inr ⟨y, by omega, w2⟩)
    · show lp_X8_layMet_41 N (nI k) (nI x) (f + 1) (nI i) u = lp_X8_layMet_41 N (nI k) (nI x) f (nI (i + 1)) (sI u 76 (160 * k + pv p x i % n) 1)
      rw [lp_X8_layMet_41, bu.1, if_neg (n_le (by omega) hi), Gd_c (fin_nI (show k < 56 by omega) (by omega)), Gd_c (fin_nI (show k < 56 by omega) (by omega)), Gd_c (fin_nI (show k < 56 by omega) (by omega)), n_cl (show k < 2 ^ 31 by omega), hcx.1, hcx.2.1, hcx.2.2, fZ_I hp (by omega) (by omega), Lt_e, Gd_c (nz_nI (by omega) (by omega)), nI_rem hpv (by omega) (by omega), Lt_e, ix160, Gd_c (fin_nI (show 160 * k + pv p x i % n < 8960 by omega) (by omega)), n_cl (by omega), Lt_e, nI_1]) (by
    intro f u (c : rsM σ u n k _)
    show lp_X8_layMet_41 N (nI k) (nI x) (f + 1) (nI n) u = _
    rw [lp_X8_layMet_41, (c.b hb).1, if_pos (y_le (by omega) (Nat.le_refl _))]; rfl) n N 0 s (by omega) (by omega) (by
    obtain ⟨c1, c2, c3, c4⟩ := h
    exact ⟨c1, c2, c3, fun r hr => ⟨fun z => (c4 r hr).1 (z.elim id (fun ⟨y, w, _⟩ => by omega)), fun z => (c4 r hr).2 (fun w => z (Or.inl w))⟩⟩)
  exact ⟨s', e, a1⟩
theorem v_lm31 {N n k : Nat} {σ s : fS} {P : List (Nat × Int × Nat)} (hN : 200 ≤ N) (b : bsM σ n k P) (h : rsM σ s n k (fun _ => False)) : ∃ s', lp_X8_layMet_31 N (nI k) N 0 s = some s' ∧ rsM σ s' n k (fun r => ∃ x y, x < n ∧ y < n ∧ pv (P.getD k d0) x y % n = r) := by
  have hb := b
  obtain ⟨h1, h2, h3, h4, h5, h6, h7⟩ := b
  obtain ⟨s', a1, e⟩ := lpU (fun f x s => lp_X8_layMet_31 N (nI k) f x s) n (fun i s => rsM σ s n k (fun r => ∃ x y, x < i ∧ y < n ∧ pv (P.getD k d0) x y % n = r)) id (by
    intro f i u hi (c : rsM σ u n k (fun r => ∃ x y, x < i ∧ y < n ∧ pv (P.getD k d0) x y % n = r))
    have bu := c.b hb
    obtain ⟨u', e1, c1, c2, c3, c4⟩ := v_lm41 hN hb c hi
    refine ⟨u', ⟨c1, c2, c3, fun r hr => ⟨fun z => (c4 r hr).1 ?_, fun z => (c4 r hr).2 ?_⟩⟩, ?_⟩
    · obtain ⟨x, y, z1, z2, z3⟩ := z
      by_cases cx : x = i
      · subst cx; exact Or.inr ⟨y, z2, z3⟩
      · exact Or.inl ⟨x, y, by omega, z2, z3⟩
    · rintro (⟨x, y, z1, z2, z3⟩ | ⟨y, z2, z3⟩)
      · exact z ⟨x, y, by omega, z2, z3⟩
      · exact z ⟨i, y, by omega, z2, z3⟩
    · show lp_X8_layMet_31 N (nI k) (f + 1) (nI i) u = lp_X8_layMet_31 N (nI k) f (nI (i + 1)) u'
      rw [lp_X8_layMet_31, bu.1, if_neg (n_le (by omega) hi), e1, Bv_s, nI_1]) (by
    intro f u (c : rsM σ u n k _)
    show lp_X8_layMet_31 N (nI k) (f + 1) (nI n) u = _
    rw [lp_X8_layMet_31, (c.b hb).1, if_pos (y_le (by omega) (Nat.le_refl _))]; rfl) n N 0 s (by omega) (by omega) (by
    obtain ⟨c1, c2, c3, c4⟩ := h
    exact ⟨c1, c2, c3, fun r hr => ⟨fun ⟨x, _, w, _⟩ => by omega, fun _ => (c4 r hr).2 id⟩⟩)
  exact ⟨s', e, a1⟩
theorem met_E {n r : Nat} {p : Nat × Int × Nat} (hp : pOK p) (hn3 : 3 ≤ n) (hn : n ≤ 160) : (Nat.gcd n r = 1 ∧ ∃ x y, x < n ∧ y < n ∧ pv p x y % n = r) ↔ metP n p r := by
  constructor
  · rintro ⟨h1, x, y, hx, hy, e⟩
    refine ⟨by rw [Nat.gcd_comm]; exact h1, x, y, ?_⟩
    rw [← pv_Z hp (by omega) (by omega), ← Int.natCast_emod, e]
  · rintro ⟨h1, x, y, e⟩
    refine ⟨by rw [Nat.gcd_comm]; exact h1, x % n, y % n, Nat.mod_lt _ (by omega), Nat.mod_lt _ (by omega), ?_⟩
    have hx := Nat.mod_lt x (show n > 0 by omega)
    have hy := Nat.mod_lt y (show n > 0 by omega)
    have ex : (x : Int) = ((x % n : Nat) : Int) + (n : Int) * ((x / n : Nat) : Int) := by
      have := Nat.mod_add_div x n
      have h2 : ((x % n + n * (x / n) : Nat) : Int) = (x : Int) := by rw [this]
      rw [Int.natCast_add, Int.natCast_mul] at h2
      exact h2.symm
    have ey : (y : Int) = ((y % n : Nat) : Int) + (n : Int) * ((y / n : Nat) : Int) := by
      have := Nat.mod_add_div y n
      have h2 : ((y % n + n * (y / n) : Nat) : Int) = (y : Int) := by rw [this]
      rw [Int.natCast_add, Int.natCast_mul] at h2
      exact h2.symm
    rw [ex, ey, fZ_md, Int.add_mul_emod_self_left, ← pv_Z hp (by omega) (by omega), ← Int.natCast_emod] at e
    omega
theorem bI_01 (b : Bool) : bI b = if b then 1 else 0 := rfl
theorem v_lm127 {N n k : Nat} {σ s : fS} {P : List (Nat × Int × Nat)} (hN : 200 ≤ N) (b : bsM σ n k P) (h : rsM σ s n k (fun r => ∃ x y, x < n ∧ y < n ∧ pv (P.getD k d0) x y % n = r)) : ∃ s', lp_X8_layMet_127 N (nI k) N 0 (sI s 75 k 0) = some s' ∧ (∀ q, q ≠ 76 → q ≠ 75 → s'.1 q = σ.1 q) ∧ s'.2 = σ.2 ∧ (∀ j, j / 160 ≠ k → s'.1 76 j = σ.1 76 j) ∧ (∀ j, j ≠ k → s'.1 75 j = σ.1 75 j) ∧ s'.1 75 k = nI (pop n (mskM n (P.getD k d0))) ∧ ∀ r, r < n → s'.1 76 (160 * k + r) = bI ((mskM n (P.getD k d0)).testBit r) := by
  obtain ⟨h1, h2, h3, h4, h5, h6, h7⟩ := b
  have hp := h6 k h7
  generalize hpe : P.getD k d0 = p at *
  obtain ⟨g1, g2, g3, g4⟩ := h
  obtain ⟨s', ⟨a1, a2, a3, a4, a5, a6, _⟩, e⟩ := lpU (fun f x s => lp_X8_layMet_127 N (nI k) f x s) n (fun i u => (∀ q, q ≠ 76 → q ≠ 75 → u.1 q = σ.1 q) ∧ u.2 = σ.2 ∧ (∀ j, j / 160 ≠ k → u.1 76 j = σ.1 76 j) ∧ (∀ j, j ≠ k → u.1 75 j = σ.1 75 j) ∧ u.1 75 k = nI (pop i (mskM n p)) ∧ (∀ r, r < i → u.1 76 (160 * k + r) = bI ((mskM n p).testBit r)) ∧ ∀ r, i ≤ r → r < n → u.1 76 (160 * k + r) = s.1 76 (160 * k + r)) id (by
    intro f i u hi ⟨c1, c2, c3, c4, c5, c6, c7⟩
    have hv : u.1 76 (160 * k + i) = s.1 76 (160 * k + i) := c7 i (Nat.le_refl _) hi
    have hg : g_X8_common N (nI n) (nI i) u = some (nI (Nat.gcd n i), u) := by
      have := v_gcM (N := N) (g := n) (z := (i : Int)) u hN (by omega) (by omega)
      simpa [zI_nat] using this
    have hgn : Nat.gcd n i ≤ n := Nat.gcd_le_left _ (by omega)
    have e1 : (nI (Nat.gcd n i) = (1 : Int32)) ↔ Nat.gcd n i = 1 := n_eq (b := 1) (by omega) (by decide)
    have hE := met_E (n := n) (r := i) hp h3 h2
    have hM := mskM_b (n := n) (q := i) (p := p)
    have hif : (if u.1 76 (160 * k + i) = 0 then some ((0 : Int32), u) else Bd (g_X8_common N (nI n) (nI i) u) fun r166 σ166 => if r166 = (1 : Int32) then some ((1 : Int32), σ166) else some ((0 : Int32), σ166)) = some (bI ((mskM n p).testBit i), u) := by
      rw [hv, hg, Bd_s]
      by_cases cE : ∃ x y, x < n ∧ y < n ∧ pv p x y % n = i
      · rw [(g4 i hi).1 cE, if_neg (by decide)]
        by_cases cg : Nat.gcd n i = 1
        · rw [if_pos (e1.mpr cg), hM.mpr ⟨hi, hE.mp ⟨cg, cE⟩⟩]; rfl
        · have : (mskM n p).testBit i = false := by
            cases cb : (mskM n p).testBit i
            · rfl
            · exact absurd (hE.mpr (hM.mp cb).2).1 cg
          rw [if_neg (fun z => cg (e1.mp z)), this]; rfl
      · have : (mskM n p).testBit i = false := by
          cases cb : (mskM n p).testBit i
          · rfl
          · exact absurd (hE.mpr (hM.mp cb).2).2 cE
        rw [(g4 i hi).2 cE, if_pos rfl, this]; rfl
    obtain ⟨B, hB⟩ : ∃ B, B = (mskM n p).testBit i := ⟨_, rfl⟩
    rw [← hB] at hif
    have hif2 : (if bI B = 0 then some ((0 : Int32), sI u 76 (160 * k + i) (bI B)) else some ((1 : Int32), sI u 76 (160 * k + i) (bI B))) = some (bI B, sI u 76 (160 * k + i) (bI B)) := by cases B <;> rfl
    have hadd : nI (pop i (mskM n p)) + bI B = nI (pop (i + 1) (mskM n p)) := by
      rw [pop_succ, ← hB]
      cases B
      · exact n_add0 _
      · exact nI_1 _
    refine ⟨sI (sI u 76 (160 * k + i) (bI B)) 75 k (nI (pop (i + 1) (mskM n p))), ⟨fun q hq hq2 => ?_, c2, fun j hj => ?_, fun j hj => ?_, sI_same _ _ _ _, fun r hr => ?_, fun r hr hr2 => ?_⟩, ?_⟩
    · rw [sI_ne _ _ _ hq2, sI_ne _ _ _ hq]; exact c1 q hq hq2
    · rw [sI_other _ _ (Or.inl (by decide)), sI_other _ _ (Or.inr (fun z => hj (by omega)))]; exact c3 j hj
    · rw [sI_other _ _ (Or.inr hj), sI_other _ _ (Or.inl (by decide))]; exact c4 j hj
    · rw [sI_other _ _ (Or.inl (by decide))]
      by_cases c : r = i
      · subst c; rw [sI_same, hB]
      · rw [sI_other _ _ (Or.inr (by omega))]; exact c6 r (by omega)
    · rw [sI_other _ _ (Or.inl (by decide)), sI_other _ _ (Or.inr (by omega))]; exact c7 r (by omega) hr2
    · show lp_X8_layMet_127 N (nI k) (f + 1) (nI i) u = lp_X8_layMet_127 N (nI k) f (nI (i + 1)) _
      have hfk : fin (nI k) 56 = true := fin_nI (show k < 56 by omega) (by omega)
      have hfi : fin (nI (160 * k + i)) 8960 = true := fin_nI (show 160 * k + i < 8960 by omega) (by omega)
      rw [lp_X8_layMet_127, c1 61 (by decide) (by decide), h1, if_neg (n_le (by omega) hi), ix160, Gd_c hfi, n_cl (show 160 * k + i < 2 ^ 31 by omega), hif, Bd_s, Gd_c hfi, Gd_c (bI_B _), Lt_e, Gd_c hfk, Gd_c hfi, sI_same, hif2, Bd_s, Gd_c hfk, n_cl (show k < 2 ^ 31 by omega), sI_other _ _ (Or.inl (by decide)), c5, hadd, Lt_e, nI_1]) (by
    intro f u ⟨c1, _⟩
    show lp_X8_layMet_127 N (nI k) (f + 1) (nI n) u = _
    rw [lp_X8_layMet_127, c1 61 (by decide) (by decide), h1, if_pos (y_le (by omega) (Nat.le_refl _))]; rfl) n N 0 (sI s 75 k 0) (by omega) (by omega) ⟨fun q hq hq2 => by rw [sI_ne _ _ _ hq2]; exact g1 q hq, g2, fun j hj => by rw [sI_other _ _ (Or.inl (by decide))]; exact g3 j hj, fun j hj => by rw [sI_other _ _ (Or.inr hj), g1 75 (by decide)], by rw [sI_same]; rfl, fun r hr => absurd hr (by omega), fun r _ _ => by rw [sI_other _ _ (Or.inl (by decide))]⟩
  exact ⟨s', e, a1, a2, a3, a4, a5, a6⟩
theorem v_layMet {N n k : Nat} {σ : fS} {P : List (Nat × Int × Nat)} (hN : 200 ≤ N) (b : bsM σ n k P) : ∃ s', g_X8_layMet N (nI k) σ = some s' ∧ (∀ q, q ≠ 76 → q ≠ 75 → s'.1 q = σ.1 q) ∧ s'.2 = σ.2 ∧ (∀ j, j / 160 ≠ k → s'.1 76 j = σ.1 76 j) ∧ (∀ j, j ≠ k → s'.1 75 j = σ.1 75 j) ∧ s'.1 75 k = nI (pop n (mskM n (P.getD k d0))) ∧ ∀ r, r < n → s'.1 76 (160 * k + r) = bI ((mskM n (P.getD k d0)).testBit r) := by
  obtain ⟨s1, e1, h1⟩ := v_lm2 (N := N) hN b
  obtain ⟨s2, e2, h2⟩ := v_lm31 (N := N) hN b h1
  obtain ⟨s3, e3, h3⟩ := v_lm127 (N := N) hN b h2
  refine ⟨s3, ?_, h3⟩
  have hk := b.2.2.2.2.2.2
  have hP := b.2.2.2.2.1
  unfold g_X8_layMet
  rw [e1, Bv_s, e2, Bv_s, Gd_c (fin_nI (show k < 56 by omega) (by omega)), n_cl (by omega), Lt_e, e3, Bv_s]
theorem v_isSm {N n j k A B : Nat} {σ : fS} (hN : 200 ≤ N) (h : σ.1 61 13 = nI n) (hn : n ≤ 160) (hj : j < 56) (hk : k < 56) (h1 : ∀ r, r < n → σ.1 76 (160 * j + r) = bI (A.testBit r)) (h2 : ∀ r, r < n → σ.1 76 (160 * k + r) = bI (B.testBit r)) (hA : A < 2 ^ n) (hB : B < 2 ^ n) : g_X8_isSame N (nI j) (nI k) σ = some (bI (decide (A = B)), σ) := by
  obtain ⟨v, a1, e⟩ := lpU (fun f x (v : Int32) => lp_X8_isSame_5 N (nI j) (nI k) f v x σ) n (fun i v => v = bI (decide (∀ r, r < i → A.testBit r = B.testBit r))) (fun v => (v, σ)) (by
    intro f i v hi (hv : v = bI (decide (∀ r, r < i → A.testBit r = B.testBit r)))
    show ∃ v', _ ∧ lp_X8_isSame_5 N (nI j) (nI k) (f + 1) v (nI i) σ = lp_X8_isSame_5 N (nI j) (nI k) f v' (nI (i + 1)) σ
    rw [lp_X8_isSame_5, h, if_neg (n_le (by omega) hi), hv, nI_1]
    by_cases c : ∀ r, r < i → A.testBit r = B.testBit r
    · rw [decide_eq_true c, if_neg (show ¬ bI true = 0 by decide), ix160, ix160, Gd_c (fin_nI (show 160 * j + i < 8960 by omega) (by omega)), Gd_c (fin_nI (show 160 * k + i < 8960 by omega) (by omega)), n_cl (show 160 * j + i < 2 ^ 31 by omega), n_cl (show 160 * k + i < 2 ^ 31 by omega), h1 i hi, h2 i hi]
      by_cases c2 : A.testBit i = B.testBit i
      · rw [if_pos (by rw [c2])]
        refine ⟨1, ?_, rfl⟩
        rw [decide_eq_true (show ∀ r, r < i + 1 → A.testBit r = B.testBit r from fun r hr => by
          by_cases cr : r = i
          · rw [cr]; exact c2
          · exact c r (by omega))]
        rfl
      · have hne : ¬ bI (A.testBit i) = bI (B.testBit i) := by
          intro z; apply c2
          cases ha : A.testBit i <;> cases hb : B.testBit i
          · rfl
          · rw [ha, hb] at z; exact absurd z (by decide)
          · rw [ha, hb] at z; exact absurd z (by decide)
          · rfl
        rw [if_neg hne]
        refine ⟨0, ?_, rfl⟩
        rw [decide_eq_false (show ¬ ∀ r, r < i + 1 → A.testBit r = B.testBit r from fun z => c2 (z i (by omega)))]
        rfl
    · rw [decide_eq_false c, if_pos (show bI false = 0 from rfl)]
      refine ⟨0, ?_, rfl⟩
      rw [decide_eq_false (show ¬ ∀ r, r < i + 1 → A.testBit r = B.testBit r from fun z => c (fun r hr => z r (by omega)))]
      rfl) (by
    intro f v _
    show lp_X8_isSame_5 N (nI j) (nI k) (f + 1) v (nI n) σ = _
    rw [lp_X8_isSame_5, h, if_pos (y_le (by omega) (Nat.le_refl _))]) n N 0 1 (by omega) (by omega) (by
    rw [decide_eq_true (show ∀ r, r < 0 → A.testBit r = B.testBit r from fun r hr => absurd hr (by omega))]; rfl)
  have hAB : decide (∀ r, r < n → A.testBit r = B.testBit r) = decide (A = B) := by
    apply decide_eq_decide.mpr
    constructor
    · intro z
      apply Nat.eq_of_testBit_eq
      intro i
      by_cases c : i < n
      · exact z i c
      · rw [Nat.testBit_lt_two_pow (Nat.lt_of_lt_of_le hA (Nat.pow_le_pow_right (by decide) (by omega))), Nat.testBit_lt_two_pow (Nat.lt_of_lt_of_le hB (Nat.pow_le_pow_right (by decide) (by omega)))]
    · intro z r _; rw [z]
  unfold g_X8_isSame
  rw [show lp_X8_isSame_5 N (nI j) (nI k) N 1 0 σ = _ from e, Bd_s, show v = bI (decide (∀ r, r < n → A.testBit r = B.testBit r)) from a1, Gd_c (bI_B _), hAB]
def gnS (σ s : fS) (k : Nat) : Prop := (∀ q, q ≠ 74 → s.1 q = σ.1 q) ∧ s.2 = σ.2 ∧ ∀ j, j ≠ k → s.1 74 j = σ.1 74 j
theorem v_gn98 {N n k : Nat} {σ : fS} {M : Nat → Nat} (hN : 200 ≤ N) (h : σ.1 61 13 = nI n) (hn : n ≤ 160) (hk : k < 56) (hb : ∀ j, j ≤ k → (∀ r, r < n → σ.1 76 (160 * j + r) = bI ((M j).testBit r)) ∧ M j < 2 ^ n) : ∀ (f g F : Nat) (s : fS), f + g = k → f < F → gnS σ s k → s.1 74 k = nI g → ∃ s', lp_X8_pairs_98 N (nI k) F s = some s' ∧ gnS σ s' k ∧ s'.1 74 k = nI (gnL M k f g)
  | 0, g, F, s, he, hF, hs, h74 => by
    obtain ⟨F, rfl⟩ : ∃ m, F = m + 1 := ⟨F - 1, by omega⟩
    have : g = k := by omega
    subst this
    have h76 : s.1 76 = σ.1 76 := hs.1 76 (by decide)
    have hsm := v_isSm (N := N) (σ := s) hN (by rw [hs.1 61 (by decide)]; exact h) hn hk hk (by rw [h76]; exact (hb g (Nat.le_refl _)).1) (by rw [h76]; exact (hb g (Nat.le_refl _)).1) (hb g (Nat.le_refl _)).2 (hb g (Nat.le_refl _)).2
    rw [lp_X8_pairs_98, Gd_c (fin_nI hk (by omega)), n_cl (by omega), h74, hsm, Bd_s, decide_eq_true rfl, if_neg (show ¬ bI true = 0 by decide)]
    exact ⟨s, rfl, hs, h74⟩
  | f + 1, g, F, s, he, hF, hs, h74 => by
    obtain ⟨F, rfl⟩ : ∃ m, F = m + 1 := ⟨F - 1, by omega⟩
    have h76 : s.1 76 = σ.1 76 := hs.1 76 (by decide)
    have hsm := v_isSm (N := N) (σ := s) hN (by rw [hs.1 61 (by decide)]; exact h) hn (show g < 56 by omega) hk (by rw [h76]; exact (hb g (by omega)).1) (by rw [h76]; exact (hb k (Nat.le_refl _)).1) (hb g (by omega)).2 (hb k (Nat.le_refl _)).2
    rw [lp_X8_pairs_98, Gd_c (fin_nI hk (by omega)), n_cl (by omega), h74, hsm, Bd_s]
    unfold gnL
    by_cases c : M g = M k
    · rw [decide_eq_true c, if_neg (show ¬ bI true = 0 by decide), if_pos c]
      exact ⟨s, rfl, hs, h74⟩
    · rw [decide_eq_false c, if_pos (show bI false = 0 from rfl), if_neg c, Gd_c (fin_nI hk (by omega)), Gd_c (fin_nI hk (by omega)), h74, nI_1, Lt_e]
      refine v_gn98 hN h hn hk hb f (g + 1) F _ (by omega) (by omega) ⟨fun q hq => by rw [sI_ne _ _ _ hq]; exact hs.1 q hq, hs.2.1, fun j hj => by rw [sI_other _ _ (Or.inr hj)]; exact hs.2.2 j hj⟩ (sI_same _ _ _ _)
def opJ (n : Nat) (σ s : fS) (k : Nat) : Prop := (∀ q, q ≠ 74 → q ≠ 75 → q ≠ 76 → s.1 q = σ.1 q) ∧ s.2 = σ.2 ∧ ∀ j, j < k → s.1 74 j = nI (gnA (mkK n) j) ∧ s.1 75 j = nI (pop n (mkK n j)) ∧ ∀ r, r < n → s.1 76 (160 * j + r) = bI ((mkK n j).testBit r)
theorem v_op78 {N n : Nat} {σ : fS} (hN : 200 ≤ N) (b : ∀ k, k < (PL n).length → bsM σ n k (PL n)) (h14 : σ.1 61 14 = nI (PL n).length) (hn : n ≤ 160) : ∃ s', lp_X8_pairs_78 N N 0 σ = some s' ∧ opJ n σ s' (PL n).length := by
  have hl := (PL_ok hn).1
  obtain ⟨s', a1, e⟩ := lpU (fun f x s => lp_X8_pairs_78 N f x s) (PL n).length (fun k s => opJ n σ s k) id (by
    intro f k u hk (hi : opJ n σ u k)
    obtain ⟨c1, c2, c3⟩ := hi
    have bu : bsM u n k (PL n) := by
      have := b k hk
      unfold bsM cM at *
      rw [c1 61 (by decide) (by decide) (by decide), c1 71 (by decide) (by decide) (by decide), c1 72 (by decide) (by decide) (by decide), c1 73 (by decide) (by decide) (by decide)]; exact this
    obtain ⟨s1, e1, d1, d2, d3, d4, d5, d6⟩ := v_layMet (N := N) hN bu
    obtain ⟨s2, hs2⟩ : ∃ s, s = sI s1 74 k 0 := ⟨_, rfl⟩
    have q2 : ∀ q, q ≠ 74 → s2.1 q = s1.1 q := fun q hq => by rw [hs2, sI_ne _ _ _ hq]
    have hb2 : ∀ j, j ≤ k → (∀ r, r < n → s2.1 76 (160 * j + r) = bI ((mkK n j).testBit r)) ∧ mkK n j < 2 ^ n := by
      intro j hj
      refine ⟨fun r hr => ?_, mskM_lt _ _⟩
      rw [q2 76 (by decide)]
      by_cases c : j = k
      · subst c; exact d6 r hr
      · rw [d3 (160 * j + r) (by omega)]; exact (c3 j (by omega)).2.2 r hr
    have h13 : s2.1 61 13 = nI n := by rw [q2 61 (by decide), d1 61 (by decide) (by decide)]; exact bu.1
    obtain ⟨s3, e3, g3, k3⟩ := v_gn98 (N := N) (M := mkK n) hN h13 hn (show k < 56 by omega) hb2 k 0 N s2 (by omega) (by omega) ⟨fun _ _ => rfl, rfl, fun _ _ => rfl⟩ (by rw [hs2, sI_same]; rfl)
    refine ⟨s3, ⟨fun q h4 h5 h6 => ?_, ?_, fun j hj => ?_⟩, ?_⟩
    · rw [g3.1 q h4, q2 q h4, d1 q h6 h5]; exact c1 q h4 h5 h6
    · rw [g3.2.1, hs2]; exact d2.trans c2
    · by_cases c : j = k
      · subst c
        exact ⟨k3, by rw [g3.1 75 (by decide), q2 75 (by decide)]; exact d5, fun r hr => by rw [g3.1 76 (by decide)]; exact (hb2 j (Nat.le_refl _)).1 r hr⟩
      · obtain ⟨w1, w2, w3⟩ := c3 j (by omega)
        refine ⟨?_, ?_, fun r hr => by rw [g3.1 76 (by decide)]; exact (hb2 j (by omega)).1 r hr⟩
        · rw [g3.2.2 j c, hs2, sI_other _ _ (Or.inr c), d1 74 (by decide) (by decide)]; exact w1
        · rw [g3.1 75 (by decide), q2 75 (by decide), d4 j c]; exact w2
    · show lp_X8_pairs_78 N (f + 1) (nI k) u = lp_X8_pairs_78 N f (nI (k + 1)) s3
      rw [lp_X8_pairs_78, c1 61 (by decide) (by decide) (by decide), h14, if_neg (n_le (by omega) hk), e1, Bv_s, Gd_c (fin_nI (show k < 56 by omega) (by omega)), n_cl (by omega), Lt_e, ← hs2, e3, Bv_s, nI_1]) (by
    intro f u (hi : opJ n σ u (PL n).length)
    show lp_X8_pairs_78 N (f + 1) (nI (PL n).length) u = _
    rw [lp_X8_pairs_78, hi.1 61 (by decide) (by decide) (by decide), h14, if_pos (y_le (by omega) (Nat.le_refl _))]; rfl) (PL n).length N 0 σ (by omega) (by omega) ⟨fun _ _ _ _ => rfl, rfl, fun j hj => absurd hj (by omega)⟩
  exact ⟨s', e, a1⟩
theorem pairs_or (x : Int32) : (∃ n, 3 ≤ n ∧ n ≤ 160 ∧ x = nI n) ∨ ((x < (3 : Int32) ∨ (¬ x < (3 : Int32) ∧ (160 : Int32) < x)) ∧ ¬ ((3 : Int32) ≤ x ∧ x ≤ 160)) := by
  have hr := zI_rng x
  have e1 : (x < (3 : Int32)) ↔ x.toInt < 3 := by
    conv => lhs; rw [← zI_of x]
    exact zI_lt (b := 3) hr (by omega)
  have e2 : (x ≤ (160 : Int32)) ↔ x.toInt ≤ 160 := by
    conv => lhs; rw [← zI_of x]
    exact zI_le (b := 160) hr (by omega)
  by_cases c1 : x < (3 : Int32)
  · exact Or.inr ⟨Or.inl c1, fun z => absurd c1 (Int32.not_lt.mpr z.1)⟩
  · by_cases c2 : x ≤ (160 : Int32)
    · refine Or.inl ⟨x.toInt.toNat, ?_, ?_, ?_⟩
      · have h3 : ¬ x.toInt < 3 := fun z => c1 (e1.mpr z)
        omega
      · have := e2.mp c2; omega
      · rw [← zI_nat, ← zI_of x]
        congr 1
        rw [zI_of]
        have h3 : ¬ x.toInt < 3 := fun z => c1 (e1.mpr z)
        omega
    · exact Or.inr ⟨Or.inr ⟨c1, Int32.not_le.mp c2⟩, fun z => c2 z.2⟩
theorem o21 {N : Nat} (hN : 200 ≤ N) : op_21 INV N := by
  intro x σ hi
  have hi' := hi
  obtain ⟨pg, S, K, n0, m0, A0, M0, hw⟩ := hi'
  unfold g_X7_pairs g_X8_pairs
  rcases pairs_or x with ⟨n, hn3, hn, rfl⟩ | ⟨c1, c2⟩
  · have hx3 : ¬ nI n < (3 : Int32) := Int32.not_lt.mpr (y_le (b := 3) (by omega) hn3)
    have hx160 : nI n ≤ (160 : Int32) := y_le (a := 160) (by decide) hn
    have hx : ¬ (160 : Int32) < nI n := Int32.not_lt.mpr hx160
    have hwi : ∀ s, g_X8_within N (nI n) 3 160 s = some (1, s) := fun s => by rw [v_within, if_pos ⟨Int32.not_lt.mp hx3, hx160⟩]
    have e4 : iR (nI n) (4 : Int32) = nI (n % 4) := nI_rem (d := 4) (by omega) (by decide) (by decide)
    have h41 : (nI (n % 4) = (1 : Int32)) ↔ n % 4 = 1 := n_eq (b := 1) (by omega) (by decide)
    have h42 : (nI (n % 4) = (2 : Int32)) ↔ n % 4 = 2 := n_eq (b := 2) (by omega) (by decide)
    by_cases d1 : n % 4 = 1
    · refine ⟨-102, σ, σ, ?_, ?_, hi⟩
      · rw [if_neg hx3, if_neg hx, e4, if_pos (h41.mpr d1)]
      · rw [hwi, Bd_s, if_neg (by decide), e4, if_pos (h41.mpr d1)]
    · by_cases d2 : n % 4 = 2
      · refine ⟨-102, σ, σ, ?_, ?_, hi⟩
        · rw [if_neg hx3, if_neg hx, e4, if_neg (fun z => d1 (h41.mp z)), if_pos (h42.mpr d2)]
        · rw [hwi, Bd_s, if_neg (by decide), e4, if_neg (fun z => d1 (h41.mp z)), if_pos (h42.mpr d2)]
      · obtain ⟨hl, hp⟩ := PL_ok hn
        obtain ⟨s1, f1, g1, k1, x1, y1, w1⟩ := v_openX (N := N) (σ := σ) hN hn3 hn
        obtain ⟨t, ht⟩ : ∃ t, t = sI (sI s1 61 13 (nI n)) 61 14 0 := ⟨_, rfl⟩
        have gt : ag [61] s1 t := by rw [ht]; exact (ag.sI _ (by simp) _ _).tr (ag.sI _ (by simp) _ _)
        have pt : ∀ i, i ≠ 13 → i ≠ 14 → t.1 61 i = s1.1 61 i := fun i h1 h2 => by rw [ht, sI_other _ _ (Or.inr h2), sI_other _ _ (Or.inr h1)]
        have t13 : t.1 61 13 = nI n := by rw [ht, sI_other _ _ (Or.inr (by decide)), sI_same]
        obtain ⟨s2, f2, c2, g2, p2⟩ := opM_go (N := N) (n := n) hN hn 7 N 1 [] t (by omega) (by decide) rfl ⟨by rw [ht, sI_same]; rfl, fun k hk => absurd hk (by simp)⟩ t13 (by simp)
        have s13 : s2.1 61 13 = nI n := by rw [p2 13 (by decide)]; exact t13
        obtain ⟨s3, f3, h1, h2, h3⟩ := v_op78 (N := N) (n := n) hN (fun k hk => ⟨s13, hn, hn3, c2, hl, hp, hk⟩) c2.1 hn
        have g3 : ag [74, 75, 76] s2 s3 := ⟨fun k hk => ⟨h1 k (fun z => hk (by rw [z]; decide)) (fun z => hk (by rw [z]; decide)) (fun z => hk (by rw [z]; decide)), by rw [h2]⟩, by rw [h2]⟩
        have gM : ag [61, 71, 72, 73, 74, 75, 76] s1 s3 := ((gt.mono (by decide)).tr (g2.mono (by decide))).tr (g3.mono (by decide))
        have gA : ag (sOX ++ [61, 71, 72, 73, 74, 75, 76]) σ s3 := (g1.mono (by decide)).tr (gM.mono (by decide))
        have p61 : ∀ i, i ≠ 13 → i ≠ 14 → s3.1 61 i = σ.1 61 i := fun i a b => by rw [g3.i (by decide), p2 i b, pt i a b, g1.i (by decide)]
        refine ⟨nI (PL n).length, s1, s3, ?_, ?_, pg, S, K, n, (PL n).length, fun k => ((PL n).getD k d0).1, mkK n, ?_, ?_, ?_, ?_, ?_, hw.2.2.2.2.2.1, ?_, ?_⟩
        · rw [if_neg hx3, if_neg hx, e4, if_neg (fun z => d1 (h41.mp z)), if_neg (fun z => d2 (h42.mp z)), f1, Bv_s, x1.1]
        · rw [hwi, Bd_s, if_neg (by decide), e4, if_neg (fun z => d1 (h41.mp z)), if_neg (fun z => d2 (h42.mp z)), Lt_e, Lt_e, ← ht, show lp_X8_pairs_40 N (nI n) N 1 t = _ from f2, Bv_s, f3, Bv_s, h1 61 (by decide) (by decide) (by decide), c2.1]
          rfl
        · exact hw.1.of (gA.i (by decide)) (gA.i (by decide)) (p61 5 (by decide) (by decide)) (gA.i (by decide))
        · exact hw.2.1.of (fun k a b => gA.i (by simp [sOX]; omega))
        · exact hw.2.2.1.ag gA (by decide)
        · exact hw.2.2.2.1.of (gA.i (by decide)) (gA.i (by decide)) (fun k a b => gA.i (by simp [sOX]; omega))
        · exact hw.2.2.2.2.1.of (p61 7 (by decide) (by decide)) (gA.i (by decide)) (gA.i (by decide)) (gA.i (by decide))
        · exact hw.2.2.2.2.2.2.1.of (gA.i (by decide)) (p61 11 (by decide) (by decide)) (p61 12 (by decide) (by decide))
        · refine ⟨⟨?_, ?_, hn⟩, ⟨?_, ?_, hl⟩, fun _ => hn3, fun k hk => ?_⟩
          · rw [gM.i (by decide)]; exact k1
          · rw [g3.i (by decide)]; exact s13
          · rw [gM.i (by decide)]; exact x1.1
          · rw [g3.i (by decide)]; exact c2.1
          · obtain ⟨u1, u2, u3⟩ := x1.2 k hk
            obtain ⟨v1, v2, v3⟩ := c2.2 k hk
            obtain ⟨q1, q2, q3⟩ := h3 k hk
            obtain ⟨r1, r2, _⟩ := hp k hk
            refine ⟨⟨?_, ?_, r1, r2⟩, ⟨?_, ?_, ?_⟩, mskM_lt _ _, fun w hw' => ?_, q2, q3⟩
            · rw [gM.i (by decide)]; exact u1
            · rw [g3.i (by decide)]; exact v1
            · rw [g3.i (by decide), gM.i (by decide)]; exact v2.trans u2.symm
            · rw [g3.i (by decide), gM.i (by decide)]; exact v3.trans u3.symm
            · rw [gM.i (show 13 ∉ [61, 71, 72, 73, 74, 75, 76] by decide)]; exact q1.trans (y1 k hk).symm
            · rw [gM.l (by decide)]; exact w1 k hk w hw'
  · refine ⟨-102, σ, σ, ?_, ?_, hi⟩
    · rcases c1 with c | ⟨c, c'⟩
      · rw [if_pos c]
      · rw [if_neg c, if_pos c']
    · rw [v_within, if_neg c2, Bd_s, if_pos rfl]
