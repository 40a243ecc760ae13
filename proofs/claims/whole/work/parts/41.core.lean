/-! COREs, by the class and by the reference -/
def cPr (j : Nat) : Int := match j with
  | 0 => -1
  | 1 => 2
  | 2 => 3
  | 3 => 5
  | 4 => 7
  | 5 => 11
  | _ => 13
def coreZ (k : Nat) : Int := (List.range 7).foldl (fun acc j => if k.testBit j then acc * cPr j else acc) 1
def cr (k : Nat) : Int32 := zI (coreZ k)
def cbit (x : Int32) (j : Nat) : Prop := ((x >>> (nI j &&& (31 : Int32))) &&& (1 : Int32)) = (1 : Int32)
theorem cbit_nIA : ∀ k, k < 128 → ∀ j, j < 7 → (cbit (nI k) j ↔ k.testBit j = true) := by
  unfold cbit
  decide +kernel
theorem coreX_step {N : Nat} {p0 x1 : Int32} {σ : fS} (n j : Nat) (hj : j < 7) : lp_X2_coreOf_4 N p0 (n + 1) x1 (nI j) σ = lp_X2_coreOf_4 N p0 n (if ((p0 >>> (nI j &&& (31 : Int32))) &&& (1 : Int32)) = (1 : Int32) then x1 * f_B j else x1) (nI (j + 1)) σ := by
  rw [lp_X2_coreOf_4, if_neg (show ¬ (7 : Int32) ≤ nI j by show ¬ nI 7 ≤ nI j; rw [nI_leI (by omega) (by omega)]; omega)]
  simp only [nI_clamp (show j < 2 ^ 31 by omega), Gd_c (fin_nI hj (by omega)), Lt_e, nI_1]
  split <;> rfl
theorem coreX_end {N : Nat} {p0 x1 : Int32} {σ : fS} (n : Nat) : lp_X2_coreOf_4 N p0 (n + 1) x1 (nI 7) σ = some (x1, σ) := by
  rw [lp_X2_coreOf_4, if_pos (by decide)]
def coreF (x : Int32) (f : Nat → Int32) (js : List Nat) (a : Int32) : Int32 := js.foldl (fun acc j => if ((x >>> (nI j &&& (31 : Int32))) &&& (1 : Int32)) = (1 : Int32) then acc * f j else acc) a
theorem coreX_all {N : Nat} (hN : 8 ≤ N) (x : Int32) (σ : fS) : g_X2_coreOf N x σ = some (coreF x f_B [0, 1, 2, 3, 4, 5, 6] 1, σ) := by
  have key : lp_X2_coreOf_4 N x N 1 (nI 0) σ = some (coreF x f_B [0, 1, 2, 3, 4, 5, 6] 1, σ) := by
    generalize hM : N = M
    obtain ⟨m, rfl⟩ : ∃ m, M = m + 1 + 1 + 1 + 1 + 1 + 1 + 1 + 1 := ⟨M - 8, by omega⟩
    rw [coreX_step _ 0 (by decide), coreX_step _ 1 (by decide), coreX_step _ 2 (by decide), coreX_step _ 3 (by decide), coreX_step _ 4 (by decide), coreX_step _ 5 (by decide), coreX_step _ 6 (by decide), coreX_end]
    rfl
  unfold g_X2_coreOf
  rw [show (0 : Int32) = nI 0 from rfl, key]
  rfl
theorem coreF_A : ∀ k, k < 128 → coreF (nI k) f_B [0, 1, 2, 3, 4, 5, 6] 1 = cr k := by decide +kernel
theorem v_coreX {N : Nat} (hN : 8 ≤ N) {k : Nat} (hk : k < 128) (σ : fS) : g_X2_coreOf N (nI k) σ = some (cr k, σ) := by
  rw [coreX_all hN, coreF_A k hk]
/-! the reference's -/
def pAt (j : Nat) : Nat := match j with
  | 1 => 2
  | 2 => 3
  | 3 => 5
  | 4 => 7
  | 5 => 11
  | _ => 13
theorem pAt_A : ∀ j, j < 7 → (if nI j = 1 then (2 : Int32) else if nI j = 2 then 3 else if nI j = 3 then 5 else if nI j = 4 then 7 else if nI j = 5 then 11 else 13) = nI (pAt j) := by decide +kernel
theorem v_primeAt (N : Nat) {j : Nat} (hj : j < 7) (σ : fS) : g_X8_primeAt N (nI j) σ = some (nI (pAt j), σ) := by
  have h := pAt_A j hj
  rw [← h]
  unfold g_X8_primeAt
  split
  · rfl
  · split
    · rfl
    · split
      · rfl
      · split
        · rfl
        · split
          · rfl
          · rfl
def qAt (j : Nat) : Nat := if j = 1 then 16 else pAt j * pAt j
theorem v_modAt (N : Nat) {j : Nat} (hj : j < 7) (σ : fS) : g_X8_modAt N (nI j) σ = some (nI (qAt j), σ) := by
  unfold g_X8_modAt qAt
  have h1 : (nI j = (1 : Int32)) ↔ j = 1 := by show nI j = nI 1 ↔ _; exact nI_eq (by omega) (by omega)
  by_cases h : j = 1
  · rw [if_pos (h1.mpr h), if_pos h]; rfl
  · rw [if_neg (fun q => h (h1.mp q)), if_neg h, v_primeAt N hj, Bd_s, v_primeAt N hj, Bd_s, pk_mul]
theorem v_isIn (N : Nat) (x : Int32) (y : Int32) (σ : fS) : g_X8_isIn N x y σ = some (if ((x >>> (y &&& (31 : Int32))) &&& (1 : Int32)) = (1 : Int32) then 1 else 0, σ) := by
  unfold g_X8_isIn
  split <;> rfl
theorem coreM_step {N : Nat} {p0 x1 : Int32} {σ : fS} (n j : Nat) (hj : j < 7) : lp_X8_coreOf_16 N p0 (n + 1) x1 (nI j) σ = lp_X8_coreOf_16 N p0 n (if ((p0 >>> (nI j &&& (31 : Int32))) &&& (1 : Int32)) = (1 : Int32) then x1 * nI (pAt j) else x1) (nI (j + 1)) σ := by
  rw [lp_X8_coreOf_16, if_neg (show ¬ (7 : Int32) ≤ nI j by show ¬ nI 7 ≤ nI j; rw [nI_leI (by omega) (by omega)]; omega), v_isIn, Bd_s]
  by_cases h : ((p0 >>> (nI j &&& (31 : Int32))) &&& (1 : Int32)) = (1 : Int32)
  · rw [if_pos h, if_pos h, if_neg (by decide), v_primeAt N hj, Bd_s, Lt_e, nI_1]
  · rw [if_neg h, if_neg h, if_pos rfl, Lt_e, nI_1, Int32.mul_one]
theorem coreM_end {N : Nat} {p0 x1 : Int32} {σ : fS} (n : Nat) : lp_X8_coreOf_16 N p0 (n + 1) x1 (nI 7) σ = some (x1, σ) := by
  rw [lp_X8_coreOf_16, if_pos (by decide)]
theorem coreM_all {N : Nat} (hN : 8 ≤ N) (x : Int32) (σ : fS) : g_X8_coreOf N x σ = some (coreF x (fun j => nI (pAt j)) [1, 2, 3, 4, 5, 6] (if ((x >>> ((0 : Int32) &&& (31 : Int32))) &&& (1 : Int32)) = (1 : Int32) then -1 else 1), σ) := by
  have key : ∀ a, lp_X8_coreOf_16 N x N a (nI 1) σ = some (coreF x (fun j => nI (pAt j)) [1, 2, 3, 4, 5, 6] a, σ) := by
    intro a
    generalize hM : N = M
    obtain ⟨m, rfl⟩ : ∃ m, M = m + 1 + 1 + 1 + 1 + 1 + 1 + 1 := ⟨M - 7, by omega⟩
    rw [coreM_step _ 1 (by decide), coreM_step _ 2 (by decide), coreM_step _ 3 (by decide), coreM_step _ 4 (by decide), coreM_step _ 5 (by decide), coreM_step _ 6 (by decide), coreM_end]
    rfl
  unfold g_X8_coreOf
  rw [v_isIn, Bd_s]
  by_cases h : ((x >>> ((0 : Int32) &&& (31 : Int32))) &&& (1 : Int32)) = (1 : Int32)
  · rw [if_pos h, if_pos h, if_neg (by decide), Bd_s, show (1 : Int32) = nI 1 from rfl, key]; rfl
  · rw [if_neg h, if_neg h, if_pos rfl, Bd_s, show (1 : Int32) = nI 1 from rfl, key]; rfl
theorem coreF_B : ∀ k, k < 128 → coreF (nI k) (fun j => nI (pAt j)) [1, 2, 3, 4, 5, 6] (if ((nI k >>> ((0 : Int32) &&& (31 : Int32))) &&& (1 : Int32)) = (1 : Int32) then -1 else 1) = cr k := by decide +kernel
theorem v_coreM {N : Nat} (hN : 8 ≤ N) {k : Nat} (hk : k < 128) (σ : fS) : g_X8_coreOf N (nI k) σ = some (cr k, σ) := by
  rw [coreM_all hN, coreF_B k hk]
theorem cr_bndA : ∀ k, k < 128 → -30030 ≤ coreZ k ∧ coreZ k ≤ 30030 ∧ coreZ k ≠ 0 := by decide +kernel
theorem cr_toInt {k : Nat} (hk : k < 128) : (cr k).toInt = coreZ k := by
  have h := cr_bndA k hk
  exact zI_toInt (by omega) (by omega)
