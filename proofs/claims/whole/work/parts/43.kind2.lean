/-! the class's own loops over the primes, with the sign kept -/
theorem e_rng {e : Int} (he : e = 1 ∨ e = -1) {v : Nat} (h : v < 2 ^ 31) : -2147483648 < e * v ∧ e * v < 2147483648 := by
  rcases he with rfl | rfl <;> omega
theorem e_tmod {e : Int} (he : e = 1 ∨ e = -1) (v p : Nat) : (e * (v : Int)).tmod (p : Int) = e * ((v % p : Nat) : Int) := by
  rcases he with rfl | rfl
  · rw [Int.one_mul, Int.one_mul]; exact (Int.ofNat_tmod v p).symm
  · rw [Int.neg_one_mul, Int.neg_one_mul, Int.neg_tmod]; congr 1
theorem e_tdiv {e : Int} (he : e = 1 ∨ e = -1) (v p : Nat) : (e * (v : Int)).tdiv (p : Int) = e * ((v / p : Nat) : Int) := by
  rcases he with rfl | rfl
  · rw [Int.one_mul, Int.one_mul]; exact (Int.ofNat_tdiv v p).symm
  · rw [Int.neg_one_mul, Int.neg_one_mul, Int.neg_tdiv]; congr 1
theorem e_zero {e : Int} (he : e = 1 ∨ e = -1) {v : Nat} (h : v < 2 ^ 31) : (zI (e * v) = 0) ↔ v = 0 := by
  rw [z0, zI_eq (by have := e_rng he h; omega) (by omega)]
  rcases he with rfl | rfl <;> omega
theorem kindX_in {N : Nat} {σ : fS} {e : Int} (he : e = 1 ∨ e = -1) {j : Nat} (hj : j < 7) : ∀ (f n v k i : Nat), 0 < v → v < 2 ^ f → i + f ≤ 31 → f < n → lp_X2_kindOf_32 N (nI j) (nI (pAt j)) n (nI k) (zI (e * v)) (nI i) σ = some ((nI (k ^^^ (if sB (pAt j) f v then 2 ^ j else 0)), zI (e * (sV (pAt j) f v : Nat))), σ)
  | 0, n, v, k, i, h, h2, _, _ => by simp at h2; omega
  | f + 1, n, v, k, i, h, h2, h3, h4 => by
    obtain ⟨n, rfl⟩ : ∃ m, n = m + 1 := ⟨n - 1, by omega⟩
    have h31 : v < 2 ^ 31 := Nat.lt_of_lt_of_le h2 (Nat.pow_le_pow_right (by omega) (by omega))
    have hp := pAt_ge j
    have hp2 := pAt_le j
    have hr := e_rng he h31
    rw [lp_X2_kindOf_32, if_neg (show ¬ (31 : Int32) ≤ nI i by show ¬ nI 31 ≤ nI i; rw [nI_leI (by omega) (by omega)]; omega), if_neg (fun q => by have := (e_zero he h31).mp q; omega), Gd_c (nz_nI (by omega) (by omega)), ← zI_nat (pAt j), zI_rem hr (by omega), e_tmod he]
    have e0 := e_zero he (v := v % pAt j) (Nat.lt_of_le_of_lt (Nat.mod_le _ _) h31)
    unfold sV sB
    by_cases hd : v % pAt j = 0
    · rw [if_pos (e0.mpr hd), if_pos hd, if_pos hd, zI_nat (pAt j), Gd_c (nz_nI (by omega) (by omega)), Lt_e, Lt_e, ← zI_nat (pAt j), zI_div hr (by omega), e_tdiv he, shl_A j hj, xorI, nI_1, zI_nat]
      rw [kindX_in he hj f n _ _ _ (div_pos' hp h hd) (div_lt2 hp h2) (by omega) (by omega), xor_sB]
    · rw [if_neg (fun q => hd (e0.mp q)), if_neg hd, if_neg hd]
      simp
theorem f_B_A0 : ∀ j, j < 7 → 0 < j → f_B j = nI (pAt j) := by decide +kernel
theorem f_B_A (j : Nat) (h0 : 0 < j) (h : j < 7) : f_B j = nI (pAt j) := f_B_A0 j h h0
theorem kindX_step {N : Nat} (hN : 40 ≤ N) {σ : fS} {e : Int} (he : e = 1 ∨ e = -1) (n j v k : Nat) (hj0 : 0 < j) (hj : j < 7) (h : 0 < v) (h2 : v < 2 ^ 31) : lp_X2_kindOf_14 N (n + 1) (nI k) (zI (e * v)) (nI j) σ = lp_X2_kindOf_14 N n (nI (kStep (k, v) j).1) (zI (e * ((kStep (k, v) j).2 : Nat))) (nI (j + 1)) σ := by
  rw [lp_X2_kindOf_14, if_neg (show ¬ (7 : Int32) ≤ nI j by show ¬ nI 7 ≤ nI j; rw [nI_leI (by omega) (by omega)]; omega), Gd_c (fin_nI hj (by omega)), nI_clamp (show j < 2 ^ 31 by omega), Lt_e, f_B_A j hj0 hj, show (0 : Int32) = nI 0 from rfl, kindX_in he hj 31 N v k 0 h h2 (by omega) (by omega), Bd_s, nI_1]
  rfl
theorem kindX_all {N : Nat} (hN : 40 ≤ N) {σ : fS} {e : Int} (he : e = 1 ∨ e = -1) (s v : Nat) (h : 0 < v) (h2 : v < 2 ^ 31) : lp_X2_kindOf_14 N N (nI s) (zI (e * v)) (nI 1) σ = some (nI (kAll s v).1, σ) := by
  have key : ∀ M, 8 ≤ M → lp_X2_kindOf_14 N M (nI s) (zI (e * v)) (nI 1) σ = some (nI (kAll s v).1, σ) := by
    intro M hM
    obtain ⟨m, rfl⟩ : ∃ m, M = m + 1 + 1 + 1 + 1 + 1 + 1 + 1 := ⟨M - 7, by omega⟩
    have p1 := kStep_pos (q := (s, v)) 1 h
    have l1 := kStep_lt (q := (s, v)) 1 h2
    have p2 := kStep_pos 2 p1
    have l2 := kStep_lt 2 l1
    have p3 := kStep_pos 3 p2
    have l3 := kStep_lt 3 l2
    have p4 := kStep_pos 4 p3
    have l4 := kStep_lt 4 l3
    have p5 := kStep_pos 5 p4
    have l5 := kStep_lt 5 l4
    rw [kindX_step hN he _ 1 _ _ (by decide) (by decide) h h2, kindX_step hN he _ 2 _ _ (by decide) (by decide) p1 l1, kindX_step hN he _ 3 _ _ (by decide) (by decide) p2 l2, kindX_step hN he _ 4 _ _ (by decide) (by decide) p3 l3, kindX_step hN he _ 5 _ _ (by decide) (by decide) p4 l4, kindX_step hN he _ 6 _ _ (by decide) (by decide) p5 l5, lp_X2_kindOf_14, if_pos (by decide)]
    rfl
  exact key N (by omega)
theorem v_kindX {N : Nat} (hN : 40 ≤ N) {z : Int} (h0 : z ≠ 0) (h1 : -2147483648 < z) (h2 : z < 2147483648) (σ : fS) : g_X2_kindOf N (zI z) σ = some (nI (kindZ z), σ) := by
  unfold g_X2_kindOf kindZ
  have hz := zI_0le (z := z) ⟨by omega, h2⟩
  by_cases hs : 0 ≤ z
  · rw [if_pos (hz.mpr hs), Bd_s, if_neg (by omega), show zI z = zI (1 * (z.natAbs : Int)) by congr 1; omega, show (1 : Int32) = nI 1 from rfl]
    erw [kindX_all hN (Or.inl rfl) 0 z.natAbs (by omega) (by omega)]
    rfl
  · rw [if_neg (fun q => hs (hz.mp q)), Bd_s, if_pos (by omega), show zI z = zI (-1 * (z.natAbs : Int)) by congr 1; omega]
    erw [kindX_all hN (Or.inr rfl) 1 z.natAbs (by omega) (by omega)]
    rfl
theorem roughX_in {N : Nat} {σ : fS} {j : Nat} (p2 : Int32) : ∀ (f n v i : Nat), 0 < v → v < 2 ^ f → i + f ≤ 31 → f < n → lp_X2_roughPart_24 N p2 (nI (pAt j)) n (nI v) (nI i) σ = some (nI (sV (pAt j) f v), σ)
  | 0, n, v, i, h, h2, _, _ => by simp at h2; omega
  | f + 1, n, v, i, h, h2, h3, h4 => by
    obtain ⟨n, rfl⟩ : ∃ m, n = m + 1 := ⟨n - 1, by omega⟩
    have h31 : v < 2 ^ 31 := Nat.lt_of_lt_of_le h2 (Nat.pow_le_pow_right (by omega) (by omega))
    have hp := pAt_ge j
    have hp2 := pAt_le j
    rw [lp_X2_roughPart_24, if_neg (show ¬ (31 : Int32) ≤ nI i by show ¬ nI 31 ≤ nI i; rw [nI_leI (by omega) (by omega)]; omega), if_neg (nI_ne0 h h31), Gd_c (nz_nI (by omega) (by omega)), nI_rem h31 (by omega) (by omega)]
    have e0 : (nI (v % pAt j) = 0) ↔ v % pAt j = 0 := by
      show nI (v % pAt j) = nI 0 ↔ _
      exact nI_eq (Nat.lt_of_le_of_lt (Nat.mod_le _ _) h31) (by omega)
    unfold sV
    by_cases hd : v % pAt j = 0
    · rw [if_pos (e0.mpr hd), if_pos hd, Gd_c (nz_nI (by omega) (by omega)), Lt_e, pk_div h31 (by omega) (by omega), nI_1]
      exact roughX_in p2 f n _ _ (div_pos' hp h hd) (div_lt2 hp h2) (by omega) (by omega)
    · rw [if_neg (fun q => hd (e0.mp q)), if_neg hd]
theorem roughX_step {N : Nat} (hN : 40 ≤ N) {σ : fS} (n j v : Nat) (hj0 : 0 < j) (hj : j < 7) (h : 0 < v) (h2 : v < 2 ^ 31) : lp_X2_roughPart_7 N (n + 1) (nI v) (nI j) σ = lp_X2_roughPart_7 N n (nI (sV (pAt j) 31 v)) (nI (j + 1)) σ := by
  rw [lp_X2_roughPart_7, if_neg (show ¬ (7 : Int32) ≤ nI j by show ¬ nI 7 ≤ nI j; rw [nI_leI (by omega) (by omega)]; omega), Gd_c (fin_nI hj (by omega)), nI_clamp (show j < 2 ^ 31 by omega), Lt_e, f_B_A j hj0 hj, show (0 : Int32) = nI 0 from rfl, roughX_in (nI j) 31 N v 0 h h2 (by omega) (by omega), Bd_s, nI_1]
theorem roughX_all {N : Nat} (hN : 40 ≤ N) {σ : fS} (v : Nat) (h : 0 < v) (h2 : v < 2 ^ 31) : lp_X2_roughPart_7 N N (nI v) (nI 1) σ = some (nI (rough v), σ) := by
  have key : ∀ M, 8 ≤ M → lp_X2_roughPart_7 N M (nI v) (nI 1) σ = some (nI (rough v), σ) := by
    intro M hM
    obtain ⟨m, rfl⟩ : ∃ m, M = m + 1 + 1 + 1 + 1 + 1 + 1 + 1 := ⟨M - 7, by omega⟩
    have p1 := kStep_pos (q := (0, v)) 1 h
    have l1 := kStep_lt (q := (0, v)) 1 h2
    have p2 := kStep_pos 2 p1
    have l2 := kStep_lt 2 l1
    have p3 := kStep_pos 3 p2
    have l3 := kStep_lt 3 l2
    have p4 := kStep_pos 4 p3
    have l4 := kStep_lt 4 l3
    have p5 := kStep_pos 5 p4
    have l5 := kStep_lt 5 l4
    rw [roughX_step hN _ 1 _ (by decide) (by decide) h h2]
    erw [roughX_step hN _ 2 _ (by decide) (by decide) p1 l1, roughX_step hN _ 3 _ (by decide) (by decide) p2 l2, roughX_step hN _ 4 _ (by decide) (by decide) p3 l3, roughX_step hN _ 5 _ (by decide) (by decide) p4 l4, roughX_step hN _ 6 _ (by decide) (by decide) p5 l5]
    rw [lp_X2_roughPart_7, if_pos (by decide)]
    rfl
  exact key N (by omega)
theorem v_abs (N : Nat) {z : Int} (h1 : -2147483648 < z) (h2 : z < 2147483648) (σ : fS) : g_J9_abs_0f7a4 N (zI z) σ = some (nI z.natAbs, σ) := by
  unfold g_J9_abs_0f7a4
  have hz := zI_0le (z := z) ⟨by omega, h2⟩
  by_cases hs : 0 ≤ z
  · rw [if_pos (hz.mpr hs), show zI z = nI z.natAbs by rw [← zI_nat]; congr 1; omega]
  · rw [if_neg (fun q => hs (hz.mp q)), zI_neg, show zI (-z) = nI z.natAbs by rw [← zI_nat]; congr 1; omega]
theorem v_roughX {N : Nat} (hN : 40 ≤ N) {z : Int} (h0 : z ≠ 0) (h1 : -2147483648 < z) (h2 : z < 2147483648) (σ : fS) : g_X2_roughPart N (zI z) σ = some (nI (rough z.natAbs), σ) := by
  unfold g_X2_roughPart
  rw [v_abs N h1 h2, Bd_s, show (1 : Int32) = nI 1 from rfl, roughX_all hN z.natAbs (by omega) (by omega)]
  rfl
/-- of 0 the class's loop leaves 0 -/
theorem roughX_0 {N : Nat} (hN : 40 ≤ N) (σ : fS) : g_X2_roughPart N 0 σ = some (0, σ) := by
  have inn : ∀ (p2 p3 : Int32) (n : Nat), lp_X2_roughPart_24 N p2 p3 (n + 1) 0 0 σ = some (0, σ) := by
    intro p2 p3 n
    rw [lp_X2_roughPart_24, if_neg (by decide), if_pos rfl]
  have inN : ∀ (p2 p3 : Int32), lp_X2_roughPart_24 N p2 p3 N 0 0 σ = some (0, σ) := by
    intro p2 p3
    have key : ∀ M, 1 ≤ M → lp_X2_roughPart_24 N p2 p3 M 0 0 σ = some (0, σ) := by
      intro M hM
      obtain ⟨m, rfl⟩ : ∃ m, M = m + 1 := ⟨M - 1, by omega⟩
      exact inn p2 p3 m
    exact key N (by omega)
  have st : ∀ (n j : Nat), j < 7 → lp_X2_roughPart_7 N (n + 1) 0 (nI j) σ = lp_X2_roughPart_7 N n 0 (nI (j + 1)) σ := by
    intro n j hj
    rw [lp_X2_roughPart_7, if_neg (show ¬ (7 : Int32) ≤ nI j by show ¬ nI 7 ≤ nI j; rw [nI_leI (by omega) (by omega)]; omega), Gd_c (fin_nI hj (by omega)), Lt_e, inN, Bd_s, nI_1]
  have key : ∀ M, 8 ≤ M → lp_X2_roughPart_7 N M 0 (nI 1) σ = some (0, σ) := by
    intro M hM
    obtain ⟨m, rfl⟩ : ∃ m, M = m + 1 + 1 + 1 + 1 + 1 + 1 + 1 := ⟨M - 7, by omega⟩
    rw [st _ 1 (by decide), st _ 2 (by decide), st _ 3 (by decide), st _ 4 (by decide), st _ 5 (by decide), st _ 6 (by decide), lp_X2_roughPart_7, if_pos (by decide)]
  unfold g_X2_roughPart
  have h0 : g_J9_abs_0f7a4 N 0 σ = some (0, σ) := by unfold g_J9_abs_0f7a4; rw [if_pos (by decide)]
  rw [h0, Bd_s]
  erw [key N (by omega)]
  rfl
def isNum (z : Int) : Prop := -99 ≤ z ∧ z ≤ 99 ∧ z ≠ 0 ∧ rough z.natAbs = 1
def numB (x : Int32) : Bool := decide (-99 ≤ x.toInt ∧ x.toInt ≤ 99 ∧ x.toInt ≠ 0 ∧ rough x.toInt.natAbs = 1)
theorem rough_pos {v : Nat} (h : 0 < v) : 0 < rough v := by
  unfold rough
  rw [kAll_e]
  exact kStep_pos 6 (kStep_pos 5 (kStep_pos 4 (kStep_pos 3 (kStep_pos 2 (kStep_pos 1 h)))))
theorem rough_lt {v : Nat} (h : v < 2 ^ 31) : rough v < 2 ^ 31 := by
  unfold rough
  rw [kAll_e]
  exact kStep_lt 6 (kStep_lt 5 (kStep_lt 4 (kStep_lt 3 (kStep_lt 2 (kStep_lt 1 h)))))
theorem v_isNumX {N : Nat} (hN : 40 ≤ N) (x : Int32) (σ : fS) : g_X2_isNumber N x σ = some (if numB x then 1 else 0, σ) := by
  have hr := zI_rng x
  have hx := zI_of x
  generalize hz : x.toInt = z at hr hx
  subst hx
  have e1 : (zI z < (-99 : Int32)) ↔ z < -99 := by show zI z < zI (-99) ↔ _; exact zI_lt hr (by omega)
  have e2 : ((99 : Int32) < zI z) ↔ 99 < z := by show zI 99 < zI z ↔ _; exact zI_lt (by omega) hr
  unfold g_X2_isNumber numB
  rw [zI_toInt hr.1 hr.2]
  by_cases h1 : z < -99
  · rw [if_pos (e1.mpr h1), if_neg (by simp; omega)]
  · rw [if_neg (fun q => h1 (e1.mp q))]
    by_cases h2 : 99 < z
    · rw [if_pos (e2.mpr h2), if_neg (by simp; omega)]
    · rw [if_neg (fun q => h2 (e2.mp q))]
      by_cases h0 : z = 0
      · subst h0
        rw [show zI 0 = (0 : Int32) from rfl, roughX_0 hN, Bd_s, if_neg (by decide), if_neg (by simp)]
      · rw [v_roughX hN h0 (by omega) (by omega), Bd_s]
        have e3 : (nI (rough z.natAbs) = (1 : Int32)) ↔ rough z.natAbs = 1 := by show nI _ = nI 1 ↔ _; exact nI_eq (rough_lt (by omega)) (by omega)
        by_cases h3 : rough z.natAbs = 1
        · rw [if_pos (e3.mpr h3), if_pos (by simp [h3, h0]; omega)]
        · rw [if_neg (fun q => h3 (e3.mp q)), if_neg (by simp [h3])]
theorem v_within (N : Nat) (x a b : Int32) (σ : fS) : g_X8_within N x a b σ = some (if a ≤ x ∧ x ≤ b then 1 else 0, σ) := by
  unfold g_X8_within
  by_cases h1 : x < a
  · rw [if_pos h1, if_neg (fun q => by have := Int32.lt_of_lt_of_le h1 q.1; exact Int32.lt_irrefl this)]
  · rw [if_neg h1]
    by_cases h2 : b < x
    · rw [if_pos h2, if_neg (fun q => by have := Int32.lt_of_lt_of_le h2 q.2; exact Int32.lt_irrefl this)]
    · rw [if_neg h2, if_pos ⟨Int32.not_lt.mp h1, Int32.not_lt.mp h2⟩]
theorem v_isNumM {N : Nat} (hN : 40 ≤ N) (x : Int32) (σ : fS) : g_X8_isNumber N x σ = some (if numB x then 1 else 0, σ) := by
  have hr := zI_rng x
  have hx := zI_of x
  generalize hz : x.toInt = z at hr hx
  subst hx
  have e1 : ((-99 : Int32) ≤ zI z) ↔ -99 ≤ z := by show zI (-99) ≤ zI z ↔ _; exact zI_le (by omega) hr
  have e2 : (zI z ≤ (99 : Int32)) ↔ z ≤ 99 := by show zI z ≤ zI 99 ↔ _; exact zI_le hr (by omega)
  unfold g_X8_isNumber numB
  rw [zI_toInt hr.1 hr.2, v_within, Bd_s]
  by_cases h1 : -99 ≤ z ∧ z ≤ 99
  · rw [if_pos (show (-99 : Int32) ≤ zI z ∧ zI z ≤ 99 from ⟨e1.mpr h1.1, e2.mpr h1.2⟩), if_neg (by decide)]
    by_cases h0 : z = 0
    · subst h0
      rw [if_pos (show zI 0 = (0 : Int32) from rfl), if_neg (by simp)]
    · rw [if_neg (fun q => h0 ((zI_eq hr (by omega)).mp (q.trans z0))), v_leftM hN h0 (by omega) (by omega), Bd_s]
      have e3 : (nI (rough z.natAbs) = (1 : Int32)) ↔ rough z.natAbs = 1 := by show nI _ = nI 1 ↔ _; exact nI_eq (rough_lt (by omega)) (by omega)
      by_cases h3 : rough z.natAbs = 1
      · rw [if_pos (e3.mpr h3), if_pos (by simp [h3, h0]; omega)]
      · rw [if_neg (fun q => h3 (e3.mp q)), if_neg (by simp [h3])]
  · rw [if_neg (fun q : (-99 : Int32) ≤ zI z ∧ zI z ≤ 99 => h1 ⟨e1.mp q.1, e2.mp q.2⟩), if_pos rfl, if_neg (by simp; omega)]
