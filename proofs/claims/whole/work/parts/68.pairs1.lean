/-! PAIRS that are open -/
theorem pr_or (m : Nat) (hm : m ≤ 56) (x : Int32) : (∃ k, k < m ∧ x = nI k ∧ (∀ N σ, σ.1 9 7 = nI m → g_X4_has N x σ = some (1, σ)) ∧ ∀ N σ, σ.1 61 14 = nI m → g_X8_isPair N x σ = some (1, σ)) ∨ ((∀ N σ, σ.1 9 7 = nI m → g_X4_has N x σ = some (0, σ)) ∧ ∀ N σ, σ.1 61 14 = nI m → g_X8_isPair N x σ = some (0, σ)) := by
  have hp : nI m - (1 : Int32) = zI ((m : Int) - 1) := by rw [← zI_nat, show (1 : Int32) = zI 1 from rfl, zI_sub]
  rcases in_or x m (by omega) with ⟨k, hk, rfl⟩ | ⟨h1, h2⟩
  · refine Or.inl ⟨k, hk, rfl, fun N σ h => ?_, fun N σ h => ?_⟩
    · unfold g_X4_has
      rw [if_neg (n_lt0 (by omega)), h, if_neg (n_le (by omega) hk), if_neg (show ¬ (56 : Int32) ≤ nI k from n_le (b := 56) (by omega) (by omega))]
    · unfold g_X8_isPair
      rw [h, hp, v_within, if_pos ⟨n_ge0 (by omega), by rw [← zI_nat, zI_le (by omega) (by omega)]; omega⟩]; rfl
  · refine Or.inr ⟨fun N σ h => ?_, fun N σ h => ?_⟩
    · unfold g_X4_has
      rcases h1 with c | ⟨c, c'⟩
      · rw [if_pos c]
      · rw [if_neg c, h, if_pos c']
    · unfold g_X8_isPair
      rw [h, hp, v_within, if_neg h2]; rfl
theorem lg_0 {a b : Int64} : (lg_cmp a b = 0) ↔ a = b := by
  unfold lg_cmp
  constructor
  · intro h
    by_cases c : a = b
    · exact c
    · exfalso
      revert h
      simp only [c]
      split <;> decide
  · intro h
    subst h
    simp
theorem sh64_A : ∀ r, r < 64 → ((nI r).toInt64 &&& (63 : Int64)) = Int64.ofNat r ∧ ((BitVec.ofNat 64 r).smod 64#64).toNat = r := by decide +kernel
theorem bt64 {w r : Nat} (hr : r < 64) : (((Int64.ofNat w >>> ((nI r).toInt64 &&& (63 : Int64))) &&& (1 : Int64)) = 1) ↔ w.testBit r = true := by
  obtain ⟨h1, h2⟩ := sh64_A r hr
  have hk : ((BitVec.ofNat 64 w).sshiftRight ((BitVec.ofNat 64 r).smod 64#64).toNat)[0] = w.testBit r := by
    rw [BitVec.getElem_sshiftRight]
    simp only [h2, hr, Nat.add_zero, dite_true]
    rw [← BitVec.getLsbD_eq_getElem, BitVec.getLsbD_ofNat]
    simp [hr]
  rw [h1, ← Int64.toBitVec_inj, Int64.toBitVec_and, Int64.toBitVec_shiftRight]
  constructor
  · intro h
    have := congrArg (fun b => b.getLsbD 0) h
    rw [← hk]
    simpa using this
  · intro h
    apply BitVec.eq_of_getLsbD_eq
    intro i hi
    by_cases c : i = 0
    · subst c
      rw [← hk] at h
      simpa using h
    · simp [c]
theorem wd_bit (M r : Nat) : (M >>> (64 * (r / 64)) % 2 ^ 64).testBit (r % 64) = M.testBit r := by
  rw [Nat.testBit_mod_two_pow, Nat.testBit_shiftRight, show 64 * (r / 64) + r % 64 = r from Nat.div_add_mod r 64]
  simp [Nat.mod_lt r (show 0 < 64 by decide)]
theorem v_metX {N k r n m : Nat} {A M : Nat → Nat} {σ : fS} (h : PS σ n m A M) (hk : k < m) (hr : r < n) : g_X4_isMet N (nI k) (nI r) σ = some (bI ((M k).testBit r), σ) := by
  obtain ⟨⟨h1, h2, h3⟩, ⟨h4, h5, h6⟩, h7, h8⟩ := h
  obtain ⟨_, _, _, hw, _, _⟩ := h8 k hk
  have hq : r / 64 < 3 := by omega
  have e1 : nI k * (3 : Int32) + nI r / (64 : Int32) = nI (3 * k + r / 64) := by
    rw [show nI k * (3 : Int32) = nI (k * 3) from pk_mul k 3, show nI r / (64 : Int32) = nI (r / 64) from n_div (d := 64) (by omega) (by decide) (by decide), nI_add, Nat.mul_comm]
  have e2 : iR (nI r) (64 : Int32) = nI (r % 64) := nI_rem (d := 64) (by omega) (by decide) (by decide)
  have hh : g_X4_has N (nI k) σ = some (1, σ) := by
    unfold g_X4_has
    rw [if_neg (n_lt0 (by omega)), h4, if_neg (n_le (by omega) hk), if_neg (show ¬ (56 : Int32) ≤ nI k from n_le (b := 56) (by omega) (by omega))]
  unfold g_X4_isMet
  rw [hh, Bd_s, if_neg (by decide), if_neg (n_lt0 (by omega)), h1, if_pos ((nI_ltI (by omega) (by omega)).mpr hr), e1, e2, Gd_c (fin_nI (by omega) (by omega)), n_cl (by omega), hw _ hq]
  have hb := bt64 (w := M k >>> (64 * (r / 64)) % 2 ^ 64) (Nat.mod_lt r (show 0 < 64 by decide))
  rw [wd_bit] at hb
  cases c : (M k).testBit r
  · rw [if_neg (fun z => by have := hb.mp (lg_0.mp z); rw [c] at this; exact absurd this (by decide))]; rfl
  · rw [if_pos (lg_0.mpr (hb.mpr c))]; rfl
theorem o23 {N : Nat} : op_23 INV N := by
  intro x y σ hi
  have hi' := hi
  obtain ⟨pg, S, K, n, m, A, M, hw⟩ := hi'
  have hS := hw.2.2.2.2.2.2.2
  have h1 := hS.1
  have h2 := hS.2.1
  unfold g_X7_met g_X8_met
  rcases pr_or m h2.2.2 x with ⟨k, hk, rfl, e1, e2⟩ | ⟨e1, e2⟩
  · have hp : nI n - (1 : Int32) = zI ((n : Int) - 1) := by rw [← zI_nat, show (1 : Int32) = zI 1 from rfl, zI_sub]
    rcases in_or y n (by omega) with ⟨r, hr, rfl⟩ | ⟨c1, c2⟩
    · refine ⟨bI ((M k).testBit r), σ, σ, ?_, ?_, hi⟩
      · rw [e1 N σ h2.1, Bd_s, if_neg (by decide), if_neg (n_lt0 (by omega)), h1.1, if_pos ((nI_ltI (by omega) (by omega)).mpr hr), v_metX hS hk hr, Bd_s]
        cases (M k).testBit r <;> rfl
      · have e3 : (160 : Int32) * nI k + nI r = nI (160 * k + r) := by
          rw [show (160 : Int32) * nI k = nI (160 * k) from pk_mul 160 k, nI_add]
        rw [e2 N σ h2.2.1, Bd_s, if_neg (by decide), h1.2.1, hp, v_within, if_pos ⟨n_ge0 (by omega), by rw [← zI_nat, zI_le (by omega) (by omega)]; omega⟩, Bd_s, if_neg (by decide), e3, Gd_c (fin_nI (by omega) (by omega)), n_cl (by omega), (hS.2.2.2 k hk).2.2.2.2.2 r hr]
        cases (M k).testBit r <;> rfl
    · refine ⟨-102, σ, σ, ?_, ?_, hi⟩
      · rw [e1 N σ h2.1, Bd_s, if_neg (by decide), h1.1]
        rcases c1 with c | ⟨c, c'⟩
        · rw [if_pos c]
        · rw [if_neg c, if_neg (Int32.not_lt.mpr c')]
      · rw [e2 N σ h2.2.1, Bd_s, if_neg (by decide), h1.2.1, hp, v_within, if_neg c2, Bd_s, if_pos rfl]
  · refine ⟨-101, σ, σ, ?_, ?_, hi⟩
    · rw [e1 N σ h2.1, Bd_s, if_pos rfl]
    · rw [e2 N σ h2.2.1, Bd_s, if_pos rfl]
