/-! SQUARE in the reference, LIKE -/
theorem v_sqM {N j k : Nat} {σ : fS} (hN : 200 ≤ N) (hj : j < 7) (hk : k < 128) : g_X8_isSquare N (nI k) (nI j) σ = some (bI (vz j [k, 1]), σ) := by
  have hj0 := n_eq0 (show j < 2 ^ 31 by omega)
  unfold g_X8_isSquare
  rw [v_coreM (by omega) hk, Bd_s]
  by_cases h0 : j = 0
  · subst h0
    rw [if_pos (hj0.mpr rfl)]
    have h := (crs_A k hk).1
    have hv : vz 0 [k, 1] = !k.testBit 0 := by
      unfold vz
      rw [if_pos rfl]
      simp only [List.any_cons, List.any_nil, Bool.or_false]
      rw [show (1 : Nat).testBit 0 = true from rfl]
      cases k.testBit 0 <;> rfl
    rw [hv]
    cases hb : k.testBit 0
    · rw [hb] at h
      by_cases c : cr k ≤ 0
      · rw [if_pos c] at h; exact absurd h (by decide)
      · rw [if_neg c]; rfl
    · rw [hb] at h
      by_cases c : cr k ≤ 0
      · rw [if_pos c]; rfl
      · rw [if_neg c] at h; exact absurd h (by decide)
  · have hq := qAt_le j
    have hq0 := qAt_pos j
    have hp := pAt_ge j
    have hp2 := pAt_le j
    have hb := cr_bndA k hk
    rw [if_neg (fun z => h0 (hj0.mp z)), v_modAt N hj, Bd_s]
    obtain ⟨s, hs, e⟩ := lpU (fun n x (s : Int32 × fS) => lp_X8_isSquare_30 N (nI j) (cr k) (nI (qAt j)) n s.1 x s.2) (qAt j) (fun i s => s = (bI ((List.range i).any (sqF j k)), σ)) id (by
      intro n i s hi hs
      subst hs
      refine ⟨_, rfl, ?_⟩
      have hii : i * i ≤ 169 * 169 := Nat.mul_le_mul (by omega) (by omega)
      have e1 : iR (nI i) (nI (pAt j)) = nI (i % pAt j) := nI_rem (by omega) (by omega) (by omega)
      have e2 := n_eq0 (show i % pAt j < 2 ^ 31 from Nat.lt_of_le_of_lt (Nat.mod_le _ _) (by omega))
      have e3 : iR ((nI i * nI i) - cr k) (nI (qAt j)) = zI ((((i * i : Nat) : Int) - coreZ k).tmod (qAt j)) := by
        rw [pk_mul, ← zI_nat (i * i), show cr k = zI (coreZ k) from rfl, zI_sub, ← zI_nat (qAt j), zI_rem (by omega) (by omega)]
      have hm : ((((i * i : Nat) : Int) - coreZ k).tmod (qAt j)).natAbs ≤ (((i * i : Nat) : Int) - coreZ k).natAbs := by
        rw [Int.natAbs_tmod]; exact Nat.mod_le _ _
      have e4 : (zI ((((i * i : Nat) : Int) - coreZ k).tmod (qAt j)) = 0) ↔ i * i % qAt j = cq j k := by
        rw [← sq_mod, z0]; exact zI_eq (by omega) (by omega)
      show lp_X8_isSquare_30 N (nI j) (cr k) (nI (qAt j)) (n + 1) _ (nI i) σ = lp_X8_isSquare_30 N (nI j) (cr k) (nI (qAt j)) n _ (nI (i + 1)) σ
      rw [lp_X8_isSquare_30, if_neg (n_le (by omega) hi), v_primeAt N hj, Bd_s, Gd_c (nz_nI (by omega) (by omega)), Gd_c (nz_nI hq0 (by omega)), e1, e3, List.range_succ, List.any_append, nI_1]
      have hone : [i].any (sqF j k) = sqF j k i := by simp
      rw [hone]
      unfold sqF
      cases (List.range i).any (fun x => !decide (x % pAt j = 0) && decide (x * x % qAt j = cq j k))
      · rw [if_pos (show bI false = 0 from rfl)]
        by_cases c1 : i % pAt j = 0
        · rw [if_pos (e2.mpr c1)]; simp [c1, bI]
        · rw [if_neg (fun z => c1 (e2.mp z))]
          by_cases c2 : i * i % qAt j = cq j k
          · rw [if_pos (e4.mpr c2)]; simp [c1, c2, bI]
          · rw [if_neg (fun z => c2 (e4.mp z))]; simp [c1, c2, bI]
      · rw [if_neg (show ¬ bI true = 0 by decide)]; simp [bI]) (by
      intro n s hs
      subst hs
      show lp_X8_isSquare_30 N (nI j) (cr k) (nI (qAt j)) (n + 1) _ (nI (qAt j)) σ = _
      rw [lp_X8_isSquare_30, if_pos (y_le (by omega) (Nat.le_refl _))]; rfl) (qAt j) N 0 (0, σ) (by omega) (by omega) rfl
    subst hs
    rw [show lp_X8_isSquare_30 N (nI j) (cr k) (nI (qAt j)) N 0 0 σ = _ from e]
    show (Bd (some (bI ((List.range (qAt j)).any (sqF j k)), σ)) _ : Option (Int32 × fS)) = _
    rw [Bd_s, sq_vz hj (by omega) hk, Gd_c (bI_B _)]
/-! bits of a fold -/
theorem fold_bit (f : Nat → Bool) : ∀ (n i : Nat), ((List.range n).foldl (fun c j => if f j then c else c ||| 2 ^ j) 0).testBit i = (decide (i < n) && !f i)
  | 0, i => by simp
  | n + 1, i => by
    rw [fold_succ]
    cases hf : f n
    · rw [if_neg (by decide), Nat.testBit_or, fold_bit f n i, Nat.testBit_two_pow]
      by_cases h : i = n
      · subst h; simp [hf]
      · have h' : ¬ n = i := fun z => h z.symm
        by_cases h2 : i < n
        · simp [h2, Nat.lt_succ_of_lt h2, h']
        · have h3 : ¬ i < n + 1 := by omega
          simp [h2, h3, h']
    · rw [if_pos rfl, fold_bit f n i]
      by_cases h : i = n
      · subst h; simp [hf]
      · by_cases h2 : i < n
        · simp [h2, Nat.lt_succ_of_lt h2]
        · have h3 : ¬ i < n + 1 := by omega
          simp [h2, h3]
theorem bars_bit (ks : List Nat) (i : Nat) : (barsL ks).testBit i = (decide (i < 7) && !vz i ks) := fold_bit (fun j => vz j ks) 7 i
def lkA (j : Nat) (a b : List Nat) : Bool := if j = 0 then abvL a == abvL b else ((hasL a).testBit j == (hasL b).testBit j) && vz j [detL a ^^^ detL b, 1]
def unlL (a b : List Nat) : Nat := if a.length = b.length then (List.range 7).foldl (fun c j => if lkA j a b then c else c ||| 2 ^ j) 0 else 127
theorem m2_A : ∀ x, x < 128 → nI x &&& (-2 : Int32) = nI (x &&& 126) := by decide +kernel
theorem unl_eq {a b : List Nat} (ha : ∀ x ∈ a, x < 128) (hb : ∀ x ∈ b, x < 128) (hl : a.length = b.length) : (if abvL a = abvL b then 0 else 1) ||| (((hasL a ^^^ hasL b) ||| unsL (detL a ^^^ detL b)) &&& 126) = unlL a b := by
  unfold unlL
  rw [if_pos hl]
  apply Nat.eq_of_testBit_eq
  intro i
  rw [fold_bit, Nat.testBit_or, Nat.testBit_and, Nat.testBit_or, Nat.testBit_xor, show unsL (detL a ^^^ detL b) = barsL [detL a ^^^ detL b, 1] from rfl, bars_bit]
  have h126 : ∀ i, (126 : Nat).testBit i = (decide (i < 7) && !decide (i = 0)) := by
    intro i
    rcases Nat.lt_or_ge i 7 with h | h
    · have : ∀ i, i < 7 → (126 : Nat).testBit i = (decide (i < 7) && !decide (i = 0)) := by decide
      exact this i h
    · rw [Nat.testBit_lt_two_pow (Nat.lt_of_lt_of_le (show 126 < 2 ^ 7 by decide) (Nat.pow_le_pow_right (by omega) h))]
      have : ¬ i < 7 := by omega
      simp [this]
  have h1 : ∀ i, (if abvL a = abvL b then 0 else 1 : Nat).testBit i = (decide (i = 0) && !(abvL a == abvL b)) := by
    intro i
    by_cases h : abvL a = abvL b
    · rw [if_pos h]; simp [h]
    · rw [if_neg h, show (1 : Nat) = 2 ^ 0 from rfl, Nat.testBit_two_pow]
      by_cases hi : i = 0
      · subst hi; simp [h]
      · have : ¬ 0 = i := fun z => hi z.symm
        simp [hi, this]
  rw [h126, h1]
  unfold lkA
  by_cases hi : i = 0
  · subst hi; simp
  · by_cases h7 : i < 7
    · simp only [hi, h7, decide_false, decide_true, Bool.false_and, Bool.true_and, Bool.not_false, Bool.and_true, Bool.false_or, if_false]
      cases (hasL a).testBit i <;> cases (hasL b).testBit i <;> cases vz i [detL a ^^^ detL b, 1] <;> rfl
    · simp [hi, h7]
theorem v_unlX {N k1 k2 : Nat} {σ : fS} {a b : List Nat} (hN : 200 ≤ N) (h1 : frF σ k1 a) (h2 : frF σ k2 b) : ∃ σ', g_X7_unlikeBits N k1 k2 σ = some (nI (unlL a b), σ') ∧ ag [16, 17] σ σ' := by
  have l1 := h1.1.2.2.1
  have l2 := h2.1.2.2.1
  have hd := xor_lt7 (detL_lt h1.1.2.2.2) (detL_lt h2.1.2.2.2)
  obtain ⟨s, e, g⟩ := v_unsX (σ := σ) hN hd
  have e1 : (nI a.length = nI b.length) ↔ a.length = b.length := n_eq (by omega) (by omega)
  have e2 : (nI (abvL a) = nI (abvL b)) ↔ abvL a = abvL b := n_eq (by have := abvL_le a; omega) (by have := abvL_le b; omega)
  unfold g_X7_unlikeBits
  rw [h1.1.1, h2.1.1, v_abvX hN h1.1, Bd_s, v_abvX hN h2.1, Bd_s, Bd_ite1, v_detX hN h1.1, Bd_s, v_detX hN h2.1, Bd_s, xorI, e, Bd_s, h1.2.1, h2.2.1, xorI, orI, Lt_e]
  by_cases c : a.length = b.length
  · refine ⟨s, ?_, g⟩
    rw [if_pos (e1.mpr c), m2_A _ (show (hasL a ^^^ hasL b) ||| unsL (detL a ^^^ detL b) < 128 from Nat.or_lt_two_pow (n := 7) (xor_lt7 (hasL_lt a) (hasL_lt b)) (barsL_lt _))]
    have e3 : (if nI (abvL a) = nI (abvL b) then (0 : Int32) else 1) = nI (if abvL a = abvL b then 0 else 1) := by
      by_cases z : abvL a = abvL b
      · rw [if_pos (e2.mpr z), if_pos z]; rfl
      · rw [if_neg (fun w => z (e2.mp w)), if_neg z]; rfl
    rw [e3, orI, unl_eq h1.1.2.2.2 h2.1.2.2.2 c]
  · exact ⟨σ, by rw [if_neg (fun z => c (e1.mp z))]; unfold unlL; rw [if_neg c]; rfl, ag.rf⟩
/-! LIKE everywhere: the same RANK, HASSE, DET, ABOVE -/
def likeL (a b : List Nat) : Bool := a.length == b.length && (hasL a == hasL b && (detL a == detL b && abvL a == abvL b))
theorem sym_b0 (a b : Nat) : (symL a b).testBit 0 = (a.testBit 0 && b.testBit 0) := by
  unfold symL
  rw [bars_bit]
  unfold vz
  rw [if_pos rfl]
  simp only [List.any_cons, List.any_nil, Bool.or_false]
  rw [show (1 : Nat).testBit 0 = true from rfl]
  cases a.testBit 0 <;> cases b.testBit 0 <;> rfl
def tri (n : Nat) : Bool := n == 2 || n == 3
theorem has_b0 : ∀ l : List Nat, l.length ≤ 4 → (hasL l).testBit 0 = tri (l.length - abvL l)
  | [], _ => rfl
  | [a], _ => by
    show (0 : Nat).testBit 0 = tri (1 - (if a.testBit 0 then 0 else 0 + 1))
    cases a.testBit 0 <;> rfl
  | [a, b], _ => by
    show (0 ^^^ symL a b).testBit 0 = tri (2 - (if b.testBit 0 then (if a.testBit 0 then 0 else 0 + 1) else (if a.testBit 0 then 0 else 0 + 1) + 1))
    rw [Nat.testBit_xor, sym_b0]
    cases a.testBit 0 <;> cases b.testBit 0 <;> rfl
  | [a, b, c], _ => by
    show (((0 ^^^ symL a b) ^^^ symL a c) ^^^ symL b c).testBit 0 = tri (3 - (if c.testBit 0 then (if b.testBit 0 then (if a.testBit 0 then 0 else 0 + 1) else (if a.testBit 0 then 0 else 0 + 1) + 1) else (if b.testBit 0 then (if a.testBit 0 then 0 else 0 + 1) else (if a.testBit 0 then 0 else 0 + 1) + 1) + 1))
    simp only [Nat.testBit_xor, sym_b0]
    cases a.testBit 0 <;> cases b.testBit 0 <;> cases c.testBit 0 <;> rfl
  | [a, b, c, d], _ => by
    show ((((((0 ^^^ symL a b) ^^^ symL a c) ^^^ symL b c) ^^^ symL a d) ^^^ symL b d) ^^^ symL c d).testBit 0 = tri (4 - (if d.testBit 0 then (if c.testBit 0 then (if b.testBit 0 then (if a.testBit 0 then 0 else 0 + 1) else (if a.testBit 0 then 0 else 0 + 1) + 1) else (if b.testBit 0 then (if a.testBit 0 then 0 else 0 + 1) else (if a.testBit 0 then 0 else 0 + 1) + 1) + 1) else (if c.testBit 0 then (if b.testBit 0 then (if a.testBit 0 then 0 else 0 + 1) else (if a.testBit 0 then 0 else 0 + 1) + 1) else (if b.testBit 0 then (if a.testBit 0 then 0 else 0 + 1) else (if a.testBit 0 then 0 else 0 + 1) + 1) + 1) + 1))
    simp only [Nat.testBit_xor, sym_b0]
    cases a.testBit 0 <;> cases b.testBit 0 <;> cases c.testBit 0 <;> cases d.testBit 0 <;> rfl
  | a :: b :: c :: d :: e :: l, h => by simp at h
def sqd (j k : Nat) : Bool := (sqU j).testBit (cq j k)
theorem sq0_A : ∀ j, j < 7 → 1 ≤ j → sqd j 0 = true := by decide +kernel
theorem sqd_A : ∀ k, k < 128 → (sqd 1 k && (sqd 2 k && (sqd 3 k && (sqd 4 k && (sqd 5 k && sqd 6 k))))) = true → k = 0 := by decide +kernel
theorem xor_z {a b : Nat} (h : a ^^^ b = 0) : a = b := by
  have : (a ^^^ b) ^^^ b = b := by rw [h, Nat.zero_xor]
  rwa [Nat.xor_assoc, Nat.xor_self, Nat.xor_zero] at this
theorem like_unl {a b : List Nat} (ha : ∀ x ∈ a, x < 128) (hb : ∀ x ∈ b, x < 128) (la : a.length ≤ 4) (lb : b.length ≤ 4) : unlL a b = 0 ↔ likeL a b = true := by
  unfold unlL likeL
  by_cases hl : a.length = b.length
  · rw [if_pos hl]
    have hz : ((List.range 7).foldl (fun c j => if lkA j a b then c else c ||| 2 ^ j) 0 = 0) ↔ ∀ j, j < 7 → lkA j a b = true := by
      constructor
      · intro h j hj
        have := fold_bit (fun j => lkA j a b) 7 j
        rw [h] at this
        simpa [hj] using this
      · intro h
        apply Nat.eq_of_testBit_eq
        intro i
        rw [fold_bit]
        by_cases hi : i < 7
        · simp [h i hi]
        · simp [hi]
    rw [hz]
    simp only [hl, beq_self_eq_true, Bool.true_and, Bool.and_eq_true, beq_iff_eq]
    constructor
    · intro h
      have h0 := h 0 (by decide)
      unfold lkA at h0
      rw [if_pos rfl, beq_iff_eq] at h0
      have hj : ∀ j, 1 ≤ j → j < 7 → (hasL a).testBit j = (hasL b).testBit j ∧ vz j [detL a ^^^ detL b, 1] = true := by
        intro j h1 h7
        have := h j h7
        unfold lkA at this
        rw [if_neg (by omega), Bool.and_eq_true, beq_iff_eq] at this
        exact this
      have hd := xor_lt7 (detL_lt ha) (detL_lt hb)
      have hq : ∀ j, 1 ≤ j → j < 7 → sqd j (detL a ^^^ detL b) = true := fun j h1 h7 => by
        unfold sqd; rw [← sqF_U, sq_vz h7 h1 hd]; exact (hj j h1 h7).2
      have hdz := sqd_A _ hd (by rw [hq 1 (by decide) (by decide), hq 2 (by decide) (by decide), hq 3 (by decide) (by decide), hq 4 (by decide) (by decide), hq 5 (by decide) (by decide), hq 6 (by decide) (by decide)]; rfl)
      refine ⟨?_, xor_z hdz, h0⟩
      apply Nat.eq_of_testBit_eq
      intro i
      by_cases hi0 : i = 0
      · subst hi0; rw [has_b0 a la, has_b0 b lb, hl, h0]
      · by_cases hi : i < 7
        · exact (hj i (by omega) hi).1
        · rw [Nat.testBit_lt_two_pow (Nat.lt_of_lt_of_le (hasL_lt a) (Nat.pow_le_pow_right (n := 2) (by decide) (show 7 ≤ i by omega))), Nat.testBit_lt_two_pow (Nat.lt_of_lt_of_le (hasL_lt b) (Nat.pow_le_pow_right (n := 2) (by decide) (show 7 ≤ i by omega)))]
    · intro ⟨h1, h2, h3⟩ j hj
      unfold lkA
      by_cases h0 : j = 0
      · rw [if_pos h0, h3]; simp
      · rw [if_neg h0, h1, h2, Nat.xor_self, ← sq_vz hj (by omega) (by decide), show (List.range (qAt j)).any (sqF j 0) = sqd j 0 from sqF_U j 0, sq0_A j hj (by omega)]; simp
  · rw [if_neg hl]
    have : (a.length == b.length) = false := by simpa using hl
    rw [this]
    simp
theorem v_likeX {N k1 k2 : Nat} {σ : fS} {a b : List Nat} (hN : 200 ≤ N) (h1 : frF σ k1 a) (h2 : frF σ k2 b) : g_X0_isLike N k1 k2 σ = some (bI (likeL a b), σ) := by
  have l1 := h1.1.2.2.1
  have l2 := h2.1.2.2.1
  have e1 : (nI a.length = nI b.length) ↔ a.length = b.length := n_eq (by omega) (by omega)
  have e2 : (nI (abvL a) = nI (abvL b)) ↔ abvL a = abvL b := n_eq (by have := abvL_le a; omega) (by have := abvL_le b; omega)
  have e3 : (nI (hasL a) = nI (hasL b)) ↔ hasL a = hasL b := n_eq (by have := hasL_lt a; omega) (by have := hasL_lt b; omega)
  have e4 : (nI (detL a) = nI (detL b)) ↔ detL a = detL b := n_eq (by have := detL_lt h1.1.2.2.2; omega) (by have := detL_lt h2.1.2.2.2; omega)
  unfold g_X0_isLike likeL
  rw [h1.1.1, h2.1.1, h1.2.1, h2.2.1, v_detX hN h1.1, Bd_s, v_detX hN h2.1, Bd_s, v_abvX hN h1.1, Bd_s, v_abvX hN h2.1, Bd_s]
  by_cases c1 : a.length = b.length
  · rw [if_pos (e1.mpr c1)]
    by_cases c2 : hasL a = hasL b
    · rw [if_pos (e3.mpr c2)]
      by_cases c3 : detL a = detL b
      · rw [if_pos (e4.mpr c3)]
        by_cases c4 : abvL a = abvL b
        · rw [if_pos (e2.mpr c4)]; simp [c1, c2, c3, c4, bI]
        · rw [if_neg (fun z => c4 (e2.mp z))]; simp [c4, bI]
      · rw [if_neg (fun z => c3 (e4.mp z))]; simp [c3, bI]
    · rw [if_neg (fun z => c2 (e3.mp z))]; simp [c2, bI]
  · rw [if_neg (fun z => c1 (e1.mp z))]; simp [c1, bI]
