/-! the primes taken out of a number: what is left, and how often, odd or even -/
theorem xorI (a b : Nat) : nI a ^^^ nI b = nI (a ^^^ b) := by
  apply Int32.toBitVec_inj.1
  show BitVec.ofNat 32 a ^^^ BitVec.ofNat 32 b = BitVec.ofNat 32 (a ^^^ b)
  apply BitVec.eq_of_getLsbD_eq
  intro i hi
  simp [hi]
theorem andI (a b : Nat) : nI a &&& nI b = nI (a &&& b) := by
  apply Int32.toBitVec_inj.1
  show BitVec.ofNat 32 a &&& BitVec.ofNat 32 b = BitVec.ofNat 32 (a &&& b)
  apply BitVec.eq_of_getLsbD_eq
  intro i hi
  simp [hi]
theorem orI (a b : Nat) : nI a ||| nI b = nI (a ||| b) := by
  apply Int32.toBitVec_inj.1
  show BitVec.ofNat 32 a ||| BitVec.ofNat 32 b = BitVec.ofNat 32 (a ||| b)
  apply BitVec.eq_of_getLsbD_eq
  intro i hi
  simp [hi]
def sV (p : Nat) : Nat → Nat → Nat
  | 0, v => v
  | f + 1, v => if v % p = 0 then sV p f (v / p) else v
def sB (p : Nat) : Nat → Nat → Bool
  | 0, _ => false
  | f + 1, v => if v % p = 0 then !(sB p f (v / p)) else false
theorem div_pos' {p v : Nat} (hp : 2 ≤ p) (hv : 0 < v) (h : v % p = 0) : 0 < v / p := by
  rcases Nat.eq_zero_or_pos (v / p) with q | q
  · have := Nat.div_add_mod v p
    rw [q, h] at this
    omega
  · exact q
theorem div_lt2 {p v f : Nat} (hp : 2 ≤ p) (hv : v < 2 ^ (f + 1)) : v / p < 2 ^ f := by
  have h1 : v / p ≤ v / 2 := Nat.div_le_div_left hp (by omega)
  have h2 : 2 ^ (f + 1) = 2 * 2 ^ f := by rw [Nat.pow_succ]; omega
  omega
theorem sV_pos {p : Nat} (hp : 2 ≤ p) : ∀ (f v : Nat), 0 < v → 0 < sV p f v
  | 0, v, h => h
  | f + 1, v, h => by
    unfold sV
    split
    · exact sV_pos hp f _ (div_pos' hp h (by assumption))
    · exact h
theorem sV_le {p : Nat} : ∀ (f v : Nat), sV p f v ≤ v
  | 0, v => Nat.le_refl v
  | f + 1, v => by
    unfold sV
    split
    · exact Nat.le_trans (sV_le f _) (Nat.div_le_self v p)
    · exact Nat.le_refl v
theorem sV_fuel {p : Nat} (hp : 2 ≤ p) : ∀ (f g v : Nat), 0 < v → v < 2 ^ f → f ≤ g → sV p f v = sV p g v
  | 0, g, v, h, h2, _ => by simp at h2; omega
  | f + 1, 0, v, h, h2, h3 => by omega
  | f + 1, g + 1, v, h, h2, h3 => by
    unfold sV
    split
    · exact sV_fuel hp f g _ (div_pos' hp h (by assumption)) (div_lt2 hp h2) (by omega)
    · rfl
theorem sB_fuel {p : Nat} (hp : 2 ≤ p) : ∀ (f g v : Nat), 0 < v → v < 2 ^ f → f ≤ g → sB p f v = sB p g v
  | 0, g, v, h, h2, _ => by simp at h2; omega
  | f + 1, 0, v, h, h2, h3 => by omega
  | f + 1, g + 1, v, h, h2, h3 => by
    unfold sB
    split
    · rw [sB_fuel hp f g _ (div_pos' hp h (by assumption)) (div_lt2 hp h2) (by omega)]
    · rfl
def kS (j : Nat) (v : Nat) : Nat := if sB (pAt j) 31 v then 2 ^ j else 0
def kStep (q : Nat × Nat) (j : Nat) : Nat × Nat := (q.1 ^^^ kS j q.2, sV (pAt j) 31 q.2)
def kAll (s v : Nat) : Nat × Nat := [1, 2, 3, 4, 5, 6].foldl kStep (s, v)
def kindZ (z : Int) : Nat := (kAll (if z < 0 then 1 else 0) z.natAbs).1
def rough (v : Nat) : Nat := (kAll 0 v).2
theorem pAt_ge : ∀ j, 2 ≤ pAt j := by
  intro j
  unfold pAt
  split <;> omega
theorem pAt_le (j : Nat) : pAt j ≤ 13 := by
  unfold pAt
  split <;> omega
theorem shl_A : ∀ j, j < 7 → (1 : Int32) <<< (nI j &&& (31 : Int32)) = nI (2 ^ j) := by decide +kernel
theorem xor_sB (k j : Nat) (b : Bool) : (k ^^^ 2 ^ j) ^^^ (if b then 2 ^ j else 0) = k ^^^ (if !b then 2 ^ j else 0) := by
  cases b
  · simp
  · simp [Nat.xor_assoc]
/-! the reference's loops -/
theorem leftM_in {N : Nat} {σ : fS} {j : Nat} (hj : j < 7) : ∀ (f n v : Nat), 0 < v → v < 2 ^ f → f ≤ 31 → f < n → lp_X8_leftOf_19 N (nI j) n (nI v) σ = some (nI (sV (pAt j) f v), σ)
  | 0, n, v, h, h2, _, _ => by simp at h2; omega
  | f + 1, n, v, h, h2, h3, h4 => by
    obtain ⟨n, rfl⟩ : ∃ m, n = m + 1 := ⟨n - 1, by omega⟩
    have h31 : v < 2 ^ 31 := Nat.lt_of_lt_of_le h2 (Nat.pow_le_pow_right (by omega) h3)
    have hp := pAt_ge j
    have hp2 := pAt_le j
    rw [lp_X8_leftOf_19, v_primeAt N hj, Bd_s, Gd_c (nz_nI (by omega) (by omega)), nI_rem h31 (by omega) (by omega)]
    have e0 : (nI (v % pAt j) = 0) ↔ v % pAt j = 0 := by
      show nI (v % pAt j) = nI 0 ↔ _
      exact nI_eq (Nat.lt_of_le_of_lt (Nat.mod_le _ _) h31) (by omega)
    unfold sV
    by_cases hd : v % pAt j = 0
    · rw [if_pos (e0.mpr hd), if_pos hd, v_primeAt N hj, Bd_s, Gd_c (nz_nI (by omega) (by omega)), Lt_e, pk_div h31 (by omega) (by omega)]
      exact leftM_in hj f n _ (div_pos' hp h hd) (div_lt2 hp h2) (by omega) (by omega)
    · rw [if_neg (fun q => hd (e0.mp q)), if_neg hd]
theorem kindM_in {N : Nat} {σ : fS} {j : Nat} (hj : j < 7) : ∀ (f n v k : Nat), 0 < v → v < 2 ^ f → f ≤ 31 → f < n → lp_X8_kindOf_29 N (nI j) n (nI k) (nI v) σ = some ((nI (k ^^^ (if sB (pAt j) f v then 2 ^ j else 0)), nI (sV (pAt j) f v)), σ)
  | 0, n, v, k, h, h2, _, _ => by simp at h2; omega
  | f + 1, n, v, k, h, h2, h3, h4 => by
    obtain ⟨n, rfl⟩ : ∃ m, n = m + 1 := ⟨n - 1, by omega⟩
    have h31 : v < 2 ^ 31 := Nat.lt_of_lt_of_le h2 (Nat.pow_le_pow_right (by omega) h3)
    have hp := pAt_ge j
    have hp2 := pAt_le j
    rw [lp_X8_kindOf_29, v_primeAt N hj, Bd_s, Gd_c (nz_nI (by omega) (by omega)), nI_rem h31 (by omega) (by omega)]
    have e0 : (nI (v % pAt j) = 0) ↔ v % pAt j = 0 := by
      show nI (v % pAt j) = nI 0 ↔ _
      exact nI_eq (Nat.lt_of_le_of_lt (Nat.mod_le _ _) h31) (by omega)
    unfold sV sB
    by_cases hd : v % pAt j = 0
    · rw [if_pos (e0.mpr hd), if_pos hd, if_pos hd, v_primeAt N hj, Bd_s, Gd_c (nz_nI (by omega) (by omega)), Lt_e, Lt_e, pk_div h31 (by omega) (by omega), shl_A j hj, xorI]
      rw [kindM_in hj f n _ _ (div_pos' hp h hd) (div_lt2 hp h2) (by omega) (by omega), xor_sB]
    · rw [if_neg (fun q => hd (e0.mp q)), if_neg hd, if_neg hd]
      simp
theorem leftM_step {N : Nat} (hN : 40 ≤ N) {σ : fS} (n j v : Nat) (hj : j < 7) (h : 0 < v) (h2 : v < 2 ^ 31) : lp_X8_leftOf_13 N (n + 1) (nI v) (nI j) σ = lp_X8_leftOf_13 N n (nI (sV (pAt j) 31 v)) (nI (j + 1)) σ := by
  rw [lp_X8_leftOf_13, if_neg (show ¬ (7 : Int32) ≤ nI j by show ¬ nI 7 ≤ nI j; rw [nI_leI (by omega) (by omega)]; omega), leftM_in hj 31 N v h h2 (by omega) (by omega), Bd_s, nI_1]
theorem kindM_step {N : Nat} (hN : 40 ≤ N) {σ : fS} (n j v k : Nat) (hj : j < 7) (h : 0 < v) (h2 : v < 2 ^ 31) : lp_X8_kindOf_23 N (n + 1) (nI k) (nI v) (nI j) σ = lp_X8_kindOf_23 N n (nI (kStep (k, v) j).1) (nI (kStep (k, v) j).2) (nI (j + 1)) σ := by
  rw [lp_X8_kindOf_23, if_neg (show ¬ (7 : Int32) ≤ nI j by show ¬ nI 7 ≤ nI j; rw [nI_leI (by omega) (by omega)]; omega), kindM_in hj 31 N v k h h2 (by omega) (by omega), Bd_s, nI_1]
  rfl
theorem kStep_pos {q : Nat × Nat} (j : Nat) (h : 0 < q.2) : 0 < (kStep q j).2 := sV_pos (pAt_ge j) 31 _ h
theorem kStep_lt {q : Nat × Nat} (j : Nat) (h : q.2 < 2 ^ 31) : (kStep q j).2 < 2 ^ 31 := Nat.lt_of_le_of_lt (sV_le 31 _) h
theorem kAll_e (s v : Nat) : kAll s v = kStep (kStep (kStep (kStep (kStep (kStep (s, v) 1) 2) 3) 4) 5) 6 := rfl
theorem kindM_all {N : Nat} (hN : 40 ≤ N) {σ : fS} (s v : Nat) (h : 0 < v) (h2 : v < 2 ^ 31) : lp_X8_kindOf_23 N N (nI s) (nI v) (nI 1) σ = some (nI (kAll s v).1, σ) := by
  have key : ∀ M, 8 ≤ M → lp_X8_kindOf_23 N M (nI s) (nI v) (nI 1) σ = some (nI (kAll s v).1, σ) := by
    intro M hM
    obtain ⟨m, rfl⟩ : ∃ m, M = m + 1 + 1 + 1 + 1 + 1 + 1 + 1 := ⟨M - 7, by omega⟩
    have p1 := kStep_pos (q := (s, v)) 1 h
    have l1 := kStep_lt (q := (s, v)) 1 h2
    have p2 := kStep_pos 2 p1
    have l2 := kStep_lt 2 l1
    have p3 := kStep_pos 3 p2
    have l3 := kStep_lt 3 l2
    have p4 := kStep_pos 4 p3
    have l4 := kStep_lt 4 l3
    have p5 := kStep_pos 5 p4
    have l5 := kStep_lt 5 l4
    rw [kindM_step hN _ 1 _ _ (by decide) h h2, kindM_step hN _ 2 _ _ (by decide) p1 l1, kindM_step hN _ 3 _ _ (by decide) p2 l2, kindM_step hN _ 4 _ _ (by decide) p3 l3, kindM_step hN _ 5 _ _ (by decide) p4 l4, kindM_step hN _ 6 _ _ (by decide) p5 l5, lp_X8_kindOf_23, if_pos (by decide)]
    rfl
  exact key N (by omega)
theorem kAll_2 (s t v : Nat) : (kAll s v).2 = (kAll t v).2 := rfl
theorem leftM_all {N : Nat} (hN : 40 ≤ N) {σ : fS} (v : Nat) (h : 0 < v) (h2 : v < 2 ^ 31) : lp_X8_leftOf_13 N N (nI v) (nI 1) σ = some (nI (rough v), σ) := by
  have key : ∀ M, 8 ≤ M → lp_X8_leftOf_13 N M (nI v) (nI 1) σ = some (nI (rough v), σ) := by
    intro M hM
    obtain ⟨m, rfl⟩ : ∃ m, M = m + 1 + 1 + 1 + 1 + 1 + 1 + 1 := ⟨M - 7, by omega⟩
    have p1 := kStep_pos (q := (0, v)) 1 h
    have l1 := kStep_lt (q := (0, v)) 1 h2
    have p2 := kStep_pos 2 p1
    have l2 := kStep_lt 2 l1
    have p3 := kStep_pos 3 p2
    have l3 := kStep_lt 3 l2
    have p4 := kStep_pos 4 p3
    have l4 := kStep_lt 4 l3
    have p5 := kStep_pos 5 p4
    have l5 := kStep_lt 5 l4
    rw [leftM_step hN _ 1 _ (by decide) h h2]
    erw [leftM_step hN _ 2 _ (by decide) p1 l1, leftM_step hN _ 3 _ (by decide) p2 l2, leftM_step hN _ 4 _ (by decide) p3 l3, leftM_step hN _ 5 _ (by decide) p4 l4, leftM_step hN _ 6 _ (by decide) p5 l5]
    rw [lp_X8_leftOf_13, if_pos (by decide)]
    rfl
  exact key N (by omega)
theorem z0 : (0 : Int32) = zI 0 := rfl
theorem zI_0le {z : Int} (h : -2147483648 ≤ z ∧ z < 2147483648) : (0 : Int32) ≤ zI z ↔ 0 ≤ z := by rw [z0, zI_le (by omega) h]
theorem v_kindM {N : Nat} (hN : 40 ≤ N) {z : Int} (h0 : z ≠ 0) (h1 : -2147483648 < z) (h2 : z < 2147483648) (σ : fS) : g_X8_kindOf N (zI z) σ = some (nI (kindZ z), σ) := by
  unfold g_X8_kindOf kindZ
  have hz := zI_0le (z := z) ⟨by omega, h2⟩
  by_cases hs : 0 ≤ z
  · rw [if_pos (hz.mpr hs), Bd_s, if_pos (hz.mpr hs), Bd_s, if_neg (by omega), show zI z = nI z.natAbs by rw [← zI_nat]; congr 1; omega, show (1 : Int32) = nI 1 from rfl]
    erw [kindM_all hN 0 z.natAbs (by omega) (by omega)]
    rfl
  · rw [if_neg (fun q => hs (hz.mp q)), Bd_s, if_neg (fun q => hs (hz.mp q)), Bd_s, if_pos (by omega), zI_neg, show zI (-z) = nI z.natAbs by rw [← zI_nat]; congr 1; omega]
    erw [kindM_all hN 1 z.natAbs (by omega) (by omega)]
    rfl
theorem v_leftM {N : Nat} (hN : 40 ≤ N) {z : Int} (h0 : z ≠ 0) (h1 : -2147483648 < z) (h2 : z < 2147483648) (σ : fS) : g_X8_leftOf N (zI z) σ = some (nI (rough z.natAbs), σ) := by
  unfold g_X8_leftOf
  have hz := zI_0le (z := z) ⟨by omega, h2⟩
  by_cases hs : 0 ≤ z
  · rw [if_pos (hz.mpr hs), Bd_s, show zI z = nI z.natAbs by rw [← zI_nat]; congr 1; omega, show (1 : Int32) = nI 1 from rfl]
    erw [leftM_all hN z.natAbs (by omega) (by omega)]
    rfl
  · rw [if_neg (fun q => hs (hz.mp q)), Bd_s, zI_neg, show zI (-z) = nI z.natAbs by rw [← zI_nat]; congr 1; omega]
    erw [leftM_all hN z.natAbs (by omega) (by omega)]
    rfl
