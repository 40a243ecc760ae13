/-! SHELF, FORM, TERM: what is asked of a call's arguments -/
theorem in_or (x : Int32) (b : Nat) (hb : b < 2 ^ 30) : (∃ i, i < b ∧ x = nI i) ∨ ((x < 0 ∨ (¬ x < 0 ∧ nI b ≤ x)) ∧ ¬ ((0 : Int32) ≤ x ∧ x ≤ zI ((b : Int) - 1))) := by
  have hx := zI_rng x
  rw [← zI_of x, show (0 : Int32) = zI 0 from rfl, ← zI_nat b, zI_lt hx (by omega), zI_le (by omega) hx, zI_le (by omega) hx, zI_le hx (by omega)]
  by_cases h : 0 ≤ x.toInt ∧ x.toInt < b
  · refine Or.inl ⟨x.toInt.toNat, by omega, ?_⟩
    rw [← zI_nat, Int.toNat_of_nonneg h.1]
  · refine Or.inr ⟨by omega, by omega⟩
theorem n_ge0 {i : Nat} (h : i < 2 ^ 31) : (0 : Int32) ≤ nI i := y_le (b := 0) h (Nat.zero_le _)
theorem v_shX {N i : Nat} {σ : fS} (h : i < 8) : g_X7_isShelf N (nI i) σ = some (1, σ) := by
  unfold g_X7_isShelf
  rw [if_neg (n_lt0 (by omega)), if_neg (show ¬ (8 : Int32) ≤ nI i from n_le (b := 8) (by omega) h)]
theorem v_shM {N i : Nat} {σ : fS} (h : i < 8) : g_X8_isShelf N (nI i) σ = some (1, σ) := by
  unfold g_X8_isShelf
  rw [v_within, Bd_s, if_pos ⟨n_ge0 (by omega), show nI i ≤ (7 : Int32) from y_le (a := 7) (by omega) (by omega)⟩]
  rfl
theorem sh_or (x : Int32) : (∃ i, i < 8 ∧ x = nI i) ∨ ((∀ N σ, g_X7_isShelf N x σ = some (0, σ)) ∧ ∀ N σ, g_X8_isShelf N x σ = some (0, σ)) := by
  rcases in_or x 8 (by omega) with h | ⟨h1, h2⟩
  · exact Or.inl h
  · refine Or.inr ⟨fun N σ => ?_, fun N σ => ?_⟩
    · unfold g_X7_isShelf
      rcases h1 with h | ⟨h, h'⟩
      · rw [if_pos h]
      · rw [if_neg h, if_pos (show (8 : Int32) ≤ x from h')]
    · unfold g_X8_isShelf
      rw [v_within, Bd_s, if_neg (show ¬ ((0 : Int32) ≤ x ∧ x ≤ 7) from h2)]; rfl
theorem pl_or (x : Int32) : (∃ i, i < 7 ∧ x = nI i ∧ (∀ N σ, g_X7_isPlace N x σ = some (1, σ)) ∧ ∀ N σ, g_X8_isPlace N x σ = some (1, σ)) ∨ ((∀ N σ, g_X7_isPlace N x σ = some (0, σ)) ∧ ∀ N σ, g_X8_isPlace N x σ = some (0, σ)) := by
  rcases in_or x 7 (by omega) with ⟨i, hi, rfl⟩ | ⟨h1, h2⟩
  · refine Or.inl ⟨i, hi, rfl, fun N σ => ?_, fun N σ => ?_⟩
    · unfold g_X7_isPlace
      rw [if_neg (n_lt0 (by omega)), if_neg (show ¬ (7 : Int32) ≤ nI i from n_le (b := 7) (by omega) hi)]
    · unfold g_X8_isPlace
      rw [v_within, Bd_s, if_pos ⟨n_ge0 (by omega), show nI i ≤ (6 : Int32) from y_le (a := 6) (by omega) (by omega)⟩]
      rfl
  · refine Or.inr ⟨fun N σ => ?_, fun N σ => ?_⟩
    · unfold g_X7_isPlace
      rcases h1 with h | ⟨h, h'⟩
      · rw [if_pos h]
      · rw [if_neg h, if_pos (show (7 : Int32) ≤ x from h')]
    · unfold g_X8_isPlace
      rw [v_within, Bd_s, if_neg (show ¬ ((0 : Int32) ≤ x ∧ x ≤ 6) from h2)]; rfl
theorem kd_or (x : Int32) : (∃ i, i < 128 ∧ x = nI i ∧ (∀ N σ, g_X7_isKind N x σ = some (1, σ)) ∧ ∀ N σ, g_X8_isKind N x σ = some (1, σ)) ∨ ((∀ N σ, g_X7_isKind N x σ = some (0, σ)) ∧ ∀ N σ, g_X8_isKind N x σ = some (0, σ)) := by
  rcases in_or x 128 (by omega) with ⟨i, hi, rfl⟩ | ⟨h1, h2⟩
  · refine Or.inl ⟨i, hi, rfl, fun N σ => ?_, fun N σ => ?_⟩
    · unfold g_X7_isKind
      rw [if_neg (n_lt0 (by omega)), if_neg (show ¬ (128 : Int32) ≤ nI i from n_le (b := 128) (by omega) hi)]
    · unfold g_X8_isKind
      rw [v_within, Bd_s, if_pos ⟨n_ge0 (by omega), show nI i ≤ (127 : Int32) from y_le (a := 127) (by omega) (by omega)⟩]
      rfl
  · refine Or.inr ⟨fun N σ => ?_, fun N σ => ?_⟩
    · unfold g_X7_isKind
      rcases h1 with h | ⟨h, h'⟩
      · rw [if_pos h]
      · rw [if_neg h, if_pos (show (128 : Int32) ≤ x from h')]
    · unfold g_X8_isKind
      rw [v_within, Bd_s, if_neg (show ¬ ((0 : Int32) ≤ x ∧ x ≤ 127) from h2)]; rfl
def frK (σ : fS) (k : Nat) (l : List Nat) : Prop := fr0 σ k l ∧ (l ≠ [] → σ.1 k 2 = nI (hasL l) ∧ σ.1 k 3 = nI (barsL l))
theorem frK.F {σ : fS} {k : Nat} {l : List Nat} (h : frK σ k l) (hl : l ≠ []) : frF σ k l := ⟨h.1, h.2 hl⟩
def XS (σ : fS) (S : Nat → List Nat) : Prop := ∀ i, i < 8 → frK σ (21 + 2 * i) (S i)
theorem er3 (i : Nat) : er 3 i = 21 + 2 * i := by rfl
theorem n_cl {i : Nat} (h : i < 2 ^ 31) : (nI i).toNatClampNeg = i := nI_clamp h
theorem len_pos {l : List Nat} (h : l ≠ []) : 0 < l.length := List.length_pos_iff.mpr h
theorem n_le0 {i : Nat} (h : i < 2 ^ 31) : (nI i ≤ 0) ↔ i = 0 := by
  show nI i ≤ nI 0 ↔ _
  rw [nI_leI h (by omega)]; omega
theorem hfX_i {N i : Nat} {σ : fS} {S : Nat → List Nat} (h : XS σ S) (hi : i < 8) : g_X7_hasForm N (nI i) σ = some (bI (!decide (S i = [])), σ) := by
  have h1 := (h i hi).1.1
  have h4 := (h i hi).1.2.2.1
  unfold g_X7_hasForm
  rw [v_shX hi, Bd_s, if_neg (by decide), Gd_c (fin_nI hi (by omega)), n_cl (by omega), er3, h1]
  by_cases c : S i = []
  · rw [if_pos ((n_le0 (by omega)).mpr (by rw [c]; rfl))]; simp [c, bI]
  · rw [if_neg (fun z => c (List.length_eq_zero_iff.mp ((n_le0 (by omega)).mp z)))]; simp [c, bI]
theorem hfM_i {N i : Nat} {σ : fS} {S : Nat → List Nat} (h : MS σ S) (hi : i < 8) : g_X8_isForm N (nI i) σ = some (bI (!decide (S i = [])), σ) := by
  have h1 := (h i hi).1.1
  have h4 := (h i hi).1.2.2.1
  unfold g_X8_isForm
  rw [v_shM hi, Bd_s, if_neg (by decide), Gd_c (fin_nI hi (by omega)), n_cl (by omega), h1]
  by_cases c : S i = []
  · rw [if_pos ((n_le0 (by omega)).mpr (by rw [c]; rfl))]; simp [c, bI]
  · rw [if_neg (fun z => c (List.length_eq_zero_iff.mp ((n_le0 (by omega)).mp z)))]; simp [c, bI]
theorem hfX_1 {N i : Nat} {σ : fS} {S : Nat → List Nat} (h : XS σ S) (hi : i < 8) (hs : S i ≠ []) : g_X7_hasForm N (nI i) σ = some (1, σ) := by rw [hfX_i h hi]; simp [hs, bI]
theorem hfM_1 {N i : Nat} {σ : fS} {S : Nat → List Nat} (h : MS σ S) (hi : i < 8) (hs : S i ≠ []) : g_X8_isForm N (nI i) σ = some (1, σ) := by rw [hfM_i h hi]; simp [hs, bI]
theorem hf_or (S : Nat → List Nat) (x : Int32) : (∃ i, i < 8 ∧ x = nI i ∧ S i ≠ []) ∨ ((∀ N σ, XS σ S → g_X7_hasForm N x σ = some (0, σ)) ∧ ∀ N σ, MS σ S → g_X8_isForm N x σ = some (0, σ)) := by
  rcases sh_or x with ⟨i, hi, rfl⟩ | ⟨h1, h2⟩
  · by_cases c : S i = []
    · refine Or.inr ⟨fun N σ h => ?_, fun N σ h => ?_⟩
      · rw [hfX_i h hi]; simp [c, bI]
      · rw [hfM_i h hi]; simp [c, bI]
    · exact Or.inl ⟨i, hi, rfl, c⟩
  · refine Or.inr ⟨fun N σ h => ?_, fun N σ h => ?_⟩
    · unfold g_X7_hasForm; rw [h1, Bd_s, if_pos rfl]
    · unfold g_X8_isForm; rw [h2, Bd_s, if_pos rfl]
theorem n_pred {n : Nat} (h : 0 < n) : nI n - (1 : Int32) = zI ((n : Int) - 1) := by
  rw [← zI_nat, show (1 : Int32) = zI 1 from rfl, zI_sub]
theorem htX_1 {N i j : Nat} {σ : fS} {S : Nat → List Nat} (h : XS σ S) (hi : i < 8) (hj : j < (S i).length) : g_X7_hasTerm N (nI i) (nI j) σ = some (1, σ) := by
  have h1 := (h i hi).1.1
  have h4 := (h i hi).1.2.2.1
  unfold g_X7_hasTerm
  rw [v_shX hi, Bd_s, if_neg (by decide), if_neg (n_lt0 (by omega)), Gd_c (fin_nI hi (by omega)), n_cl (by omega), er3, h1, if_neg (n_le (by omega) hj)]
theorem htM_1 {N i j : Nat} {σ : fS} {S : Nat → List Nat} (h : MS σ S) (hi : i < 8) (hj : j < (S i).length) : g_X8_isTerm N (nI i) (nI j) σ = some (1, σ) := by
  have h1 := (h i hi).1.1
  have h4 := (h i hi).1.2.2.1
  have hs : S i ≠ [] := fun z => by rw [z] at hj; exact absurd hj (by simp)
  unfold g_X8_isTerm
  rw [hfM_1 h hi hs, Bd_s, if_neg (by decide), Gd_c (fin_nI hi (by omega)), n_cl (by omega), h1, v_within, n_pred (by omega), if_pos, Bd_s, if_neg (by decide)]
  refine ⟨n_ge0 (by omega), ?_⟩
  rw [← zI_nat, zI_le (by omega) (by omega)]; omega
theorem ht_or (S : Nat → List Nat) (hS : ∀ i, i < 8 → (S i).length ≤ 4) (x t : Int32) : (∃ i j, i < 8 ∧ x = nI i ∧ t = nI j ∧ j < (S i).length) ∨ ((∀ N σ, XS σ S → g_X7_hasTerm N x t σ = some (0, σ)) ∧ ∀ N σ, MS σ S → g_X8_isTerm N x t σ = some (0, σ)) := by
  rcases sh_or x with ⟨i, hi, rfl⟩ | ⟨h1, h2⟩
  · have h4 := hS i hi
    rcases in_or t (S i).length (by omega) with ⟨j, hj, rfl⟩ | ⟨h1, h2⟩
    · exact Or.inl ⟨i, j, hi, rfl, rfl, hj⟩
    · refine Or.inr ⟨fun N σ h => ?_, fun N σ h => ?_⟩
      · unfold g_X7_hasTerm
        rw [v_shX hi, Bd_s, if_neg (by decide), Gd_c (fin_nI hi (by omega)), n_cl (by omega), er3, (h i hi).1.1]
        rcases h1 with c | ⟨c, c'⟩
        · rw [if_pos c]
        · rw [if_neg c, if_pos c']
      · unfold g_X8_isTerm
        by_cases c : S i = []
        · rw [hfM_i h hi]; simp [c, bI, Bd_s]
        · rw [hfM_1 h hi c, Bd_s, if_neg (by decide), Gd_c (fin_nI hi (by omega)), n_cl (by omega), (h i hi).1.1, v_within, n_pred (len_pos c), if_neg h2, Bd_s, if_pos rfl]
  · refine Or.inr ⟨fun N σ h => ?_, fun N σ h => ?_⟩
    · unfold g_X7_hasTerm; rw [h1, Bd_s, if_pos rfl]
    · unfold g_X8_isTerm g_X8_isForm; rw [h2, Bd_s, if_pos rfl, Bd_s, if_pos rfl]
/-! LIKE in the reference -/
theorem fold_bit_lt (f : Nat → Bool) : (List.range 7).foldl (fun c j => if f j then c else c ||| 2 ^ j) 0 < 128 := by
  have : ∀ (n : Nat), n ≤ 7 → (List.range n).foldl (fun c j => if f j then c else c ||| 2 ^ j) 0 < 2 ^ 7 := by
    intro n
    induction n with
    | zero => intro _; exact (show 0 < 2 ^ 7 by decide)
    | succ n ih =>
      intro h
      rw [fold_succ]
      split
      · exact ih (by omega)
      · exact Nat.or_lt_two_pow (ih (by omega)) (Nat.pow_lt_pow_right (by decide) (by omega))
  exact this 7 (Nat.le_refl _)
theorem v_likeAtM {N a b j : Nat} {σ : fS} {S : Nat → List Nat} (hN : 200 ≤ N) (ha : a < 8) (hb : b < 8) (hj : j < 7) (h : MS σ S) : ∃ σ', g_X8_isLikeAt N (nI a) (nI b) (nI j) σ = some (bI (lkA j (S a) (S b)), σ') ∧ MS σ' S ∧ qM σ σ' := by
  have hj0 := n_eq0 (show j < 2 ^ 31 by omega)
  unfold g_X8_isLikeAt lkA
  by_cases h0 : j = 0
  · rw [if_pos (hj0.mpr h0), if_pos h0, v_abvM hN ha (h a ha).1, Bd_s, v_abvM hN hb (h b hb).1, Bd_s]
    have e2 : (nI (abvL (S a)) = nI (abvL (S b))) ↔ abvL (S a) = abvL (S b) := n_eq (by have := abvL_le (S a); have := (h a ha).1.2.2.1; omega) (by have := abvL_le (S b); have := (h b hb).1.2.2.1; omega)
    refine ⟨σ, ?_, h, qM.rf⟩
    by_cases c : abvL (S a) = abvL (S b)
    · rw [if_pos (e2.mpr c)]; simp [c, bI]
    · rw [if_neg (fun z => c (e2.mp z))]; simp [c, bI]
  · obtain ⟨s1, e1, m1, q1⟩ := v_hasM hN ha h
    obtain ⟨s2, e2, m2, q2⟩ := v_hasM hN hb m1
    rw [if_neg (fun z => h0 (hj0.mp z)), if_neg h0, e1, Bd_s, v_isIn, Bd_s, e2, Bd_s, v_isIn, Bd_s, isIn_A _ (hasL_lt _) j hj, isIn_A _ (hasL_lt _) j hj]
    refine ⟨s2, ?_, m2, q1.tr q2⟩
    rw [v_detM hN ha (m2 a ha).1, Bd_s, v_detM hN hb (m2 b hb).1, Bd_s, xorI, v_sqM hN hj (xor_lt7 (detL_lt (m2 a ha).1.2.2.2) (detL_lt (m2 b hb).1.2.2.2)), Bd_s]
    cases (hasL (S a)).testBit j <;> cases (hasL (S b)).testBit j <;> cases vz j [detL (S a) ^^^ detL (S b), 1] <;> rfl
def unlF (a b : List Nat) (j : Nat) : Bool := decide (a.length = b.length) && lkA j a b
theorem v_unlM {N a b : Nat} {σ : fS} {S : Nat → List Nat} (hN : 200 ≤ N) (ha : a < 8) (hb : b < 8) (h : MS σ S) : ∃ σ', g_X8_unlikeOf N (nI a) (nI b) σ = some (nI (unlL (S a) (S b)), σ') ∧ MS σ' S ∧ qM σ σ' := by
  have la := (h a ha).1.2.2.1
  have lb := (h b hb).1.2.2.1
  have e1 : (nI (S a).length = nI (S b).length) ↔ (S a).length = (S b).length := n_eq (by omega) (by omega)
  obtain ⟨s, ⟨h1, h2, h3⟩, e⟩ := lpU (fun n x (s : Int32 × fS) => lp_X8_unlikeOf_5 N (nI a) (nI b) n s.1 x s.2) 7 (fun i s => s.1 = nI ((List.range i).foldl (fun c j => if unlF (S a) (S b) j then c else c ||| 2 ^ j) 0) ∧ MS s.2 S ∧ qM σ s.2) id (by
    intro n i s hi ⟨h1, h2, h3⟩
    obtain ⟨s', e, m, q⟩ := v_likeAtM hN ha hb hi h2
    show ∃ t : Int32 × fS, _ ∧ lp_X8_unlikeOf_5 N (nI a) (nI b) (n + 1) s.1 (nI i) s.2 = lp_X8_unlikeOf_5 N (nI a) (nI b) n t.1 (nI (i + 1)) t.2
    rw [lp_X8_unlikeOf_5, if_neg (lpI_7 hi), Gd_c (fin_nI ha (by omega)), Gd_c (fin_nI hb (by omega)), n_cl (by omega), n_cl (by omega), (h2 a ha).1.1, (h2 b hb).1.1, e, Bd_s, h1, nI_1, fold_succ, Lt_e, Lt_e, Lt_e, shl_A i (by omega), orI, or0]
    by_cases c : (S a).length = (S b).length
    · rw [if_pos (e1.mpr c)]
      cases hv : lkA i (S a) (S b)
      · rw [if_pos (show bI false = 0 from rfl)]
        exact ⟨(_, s'), ⟨(by rw [if_neg (by unfold unlF; simp [hv])]; rfl), m, h3.tr q⟩, rfl⟩
      · rw [if_neg (show ¬ bI true = 0 by decide)]
        exact ⟨(_, s'), ⟨(by rw [if_pos (by unfold unlF; simp [hv, c])]; rfl), m, h3.tr q⟩, rfl⟩
    · rw [if_neg (fun z => c (e1.mp z))]
      refine ⟨(nI ((List.range i).foldl (fun c j => if unlF (S a) (S b) j then c else c ||| 2 ^ j) 0 ||| 2 ^ i), s.2), ⟨(by rw [if_neg (by unfold unlF; simp [c])]), h2, h3⟩, ?_⟩
      first | rfl | (rw [← h1]; rfl)) (by
    intro n s hs
    show lp_X8_unlikeOf_5 N (nI a) (nI b) (n + 1) s.1 (nI 7) s.2 = _
    rw [lp_X8_unlikeOf_5, if_pos (show (7 : Int32) ≤ nI 7 by decide)]; rfl) 7 N 0 (0, σ) (by omega) (by omega) ⟨rfl, h, qM.rf⟩
  refine ⟨s.2, ?_, h2, h3⟩
  unfold g_X8_unlikeOf
  rw [show lp_X8_unlikeOf_5 N (nI a) (nI b) N 0 0 σ = _ from e]
  show (Bd (some (s.1, s.2)) _ : Option (Int32 × fS)) = _
  rw [Bd_s, h1]
  unfold unlL
  by_cases c : (S a).length = (S b).length
  · have hF : unlF (S a) (S b) = fun j => lkA j (S a) (S b) := by funext j; unfold unlF; simp [c]
    rw [if_pos c, hF]
  · have hF : unlF (S a) (S b) = fun j => false := by funext j; unfold unlF; simp [c]
    rw [if_neg c, hF]; rfl
/-! the least SHELF that is LIKE -/
def lstF (S : Nat → List Nat) (k i : Nat) : Bool := !decide (S i = []) && likeL (S i) (S k)
def lstL (S : Nat → List Nat) (k : Nat) : Nat → Nat → Nat
  | 0, i => i
  | f + 1, i => if lstF S k i then i else lstL S k f (i + 1)
def lstA (S : Nat → List Nat) (k : Nat) : Nat := lstL S k k 0
theorem lstL_le (S : Nat → List Nat) (k : Nat) : ∀ f i, lstL S k f i ≤ f + i
  | 0, i => by show i ≤ _; omega
  | f + 1, i => by
    unfold lstL
    split
    · omega
    · have := lstL_le S k f (i + 1); omega
theorem lstA_le (S : Nat → List Nat) (k : Nat) : lstA S k ≤ k := lstL_le S k k 0
theorem lstX {N k : Nat} {σ : fS} {S : Nat → List Nat} (hN : 200 ≤ N) (hk : k < 8) (hs : S k ≠ []) (h : XS σ S) : ∀ f i n, f + i = k → f < n →
    (Bs (lp_X7_leastLike_2 N (nI k) n (nI i) σ) fun _ σ' => some (nI k, σ')) = some (nI (lstL S k f i), σ)
  | 0, i, n, he, hn => by
    obtain ⟨n, rfl⟩ : ∃ m, n = m + 1 := ⟨n - 1, by omega⟩
    have : i = k := by omega
    subst this
    rw [lp_X7_leastLike_2, if_pos (y_le (by omega) (Nat.le_refl _))]; rfl
  | f + 1, i, n, he, hn => by
    obtain ⟨n, rfl⟩ : ∃ m, n = m + 1 := ⟨n - 1, by omega⟩
    have ih := lstX hN hk hs h f (i + 1) n (by omega) (by omega)
    have hi : i < 8 := by omega
    rw [lp_X7_leastLike_2, if_neg (n_le (by omega) (by omega)), if_neg (show ¬ (8 : Int32) ≤ nI k from n_le (b := 8) (by omega) hk), hfX_i h hi, Bd_s, nI_1]
    unfold lstL lstF
    by_cases c : S i = []
    · rw [if_pos (by simp [c, bI]), ih]; simp [c]
    · rw [if_neg (by simp [c, bI]), Gd_c (fin_nI hi (by omega)), Gd_c (fin_nI hk (by omega)), n_cl (by omega), n_cl (by omega), er3, er3, v_likeX hN ((h i hi).F c) ((h k hk).F hs), Bd_s]
      cases likeL (S i) (S k)
      · rw [if_pos (show bI false = 0 from rfl), ih]; simp
      · rw [if_neg (show ¬ bI true = 0 by decide)]; simp [c, Bs_l]
theorem v_lstX {N k : Nat} {σ : fS} {S : Nat → List Nat} (hN : 200 ≤ N) (hk : k < 8) (hs : S k ≠ []) (h : XS σ S) : g_X7_leastLike N (nI k) σ = some (nI (lstA S k), σ) := by
  unfold g_X7_leastLike
  exact lstX hN hk hs h k 0 N rfl (by omega)
theorem lstM {N k : Nat} {S : Nat → List Nat} (hN : 200 ≤ N) (hk : k < 8) : ∀ (f i n : Nat) (σ : fS), MS σ S → f + i = k → f < n →
    ∃ σ', lp_X8_leastLike_2 N (nI k) n (nI i) σ = some (nI (lstL S k f i), σ') ∧ MS σ' S ∧ qM σ σ'
  | 0, i, n, σ, h, he, hn => by
    obtain ⟨n, rfl⟩ : ∃ m, n = m + 1 := ⟨n - 1, by omega⟩
    have : i = k := by omega
    subst this
    rw [lp_X8_leastLike_2, if_pos (y_le (by omega) (Nat.le_refl _))]
    exact ⟨σ, rfl, h, qM.rf⟩
  | f + 1, i, n, σ, h, he, hn => by
    obtain ⟨n, rfl⟩ : ∃ m, n = m + 1 := ⟨n - 1, by omega⟩
    have hi : i < 8 := by omega
    have li := (h i hi).1.2.2.1
    have lk := (h k hk).1.2.2.1
    rw [lp_X8_leastLike_2, if_neg (n_le (by omega) (by omega)), Gd_c (fin_nI hi (by omega)), n_cl (by omega), (h i hi).1.1, nI_1]
    unfold lstL lstF
    by_cases c : S i = []
    · rw [if_pos (by rw [c]; rfl)]
      obtain ⟨s, e, m, q⟩ := lstM hN hk f (i + 1) n σ h (by omega) (by omega)
      exact ⟨s, by rw [e]; simp [c], m, q⟩
    · rw [if_neg (fun z => c (List.length_eq_zero_iff.mp ((n_eq0 (by omega)).mp z)))]
      obtain ⟨s1, e1, m1, q1⟩ := v_unlM hN hi hk h
      rw [e1, Bd_s]
      have hz := like_unl (h i hi).1.2.2.2 (h k hk).1.2.2.2 li lk
      have hlt : unlL (S i) (S k) < 2 ^ 31 := by
        unfold unlL; split
        · exact Nat.lt_of_lt_of_le (fold_bit_lt _) (by decide)
        · decide
      by_cases c2 : likeL (S i) (S k) = true
      · rw [if_pos (by rw [hz.mpr c2]; rfl)]
        exact ⟨s1, by simp [c, c2], m1, q1⟩
      · rw [if_neg (fun z => c2 (hz.mp ((n_eq0 hlt).mp z)))]
        obtain ⟨s, e, m, q⟩ := lstM hN hk f (i + 1) n s1 m1 (by omega) (by omega)
        exact ⟨s, by rw [e]; simp [c2], m, q1.tr q⟩
theorem v_lstM {N k : Nat} {σ : fS} {S : Nat → List Nat} (hN : 200 ≤ N) (hk : k < 8) (h : MS σ S) : ∃ σ', g_X8_leastLike N (nI k) σ = some (nI (lstA S k), σ') ∧ MS σ' S ∧ qM σ σ' := by
  obtain ⟨s, e, m, q⟩ := lstM hN hk k 0 N σ h rfl (by omega)
  refine ⟨s, ?_, m, q⟩
  unfold g_X8_leastLike
  rw [show lp_X8_leastLike_2 N (nI k) N 0 σ = _ from e, Bd_s]; rfl
