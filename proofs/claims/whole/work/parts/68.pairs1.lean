/-! PAIRS that are open -/
theorem pr_or (m : Nat) (hm : m ≤ 56) (x : Int32) : (∃ k, k < m ∧ x = nI k ∧ (∀ N σ, σ.1 9 7 = nI m → g_X4_has N x σ = some (1, σ)) ∧ ∀ N σ, σ.1 61 14 = nI m → g_X8_isPair N x σ = some (1, σ)) ∨ ((∀ N σ, σ.1 9 7 = nI m → g_X4_has N x σ = some (0, σ)) ∧ ∀ N σ, σ.1 61 14 = nI m → g_X8_isPair N x σ = some (0, σ)) := by
  have hp : nI m - (1 : Int32) = zI ((m : Int) - 1) := by rw [← zI_nat, show (1 : Int32) = zI 1 from rfl, zI_sub]
  rcases in_or x m (by omega) with ⟨k, hk, rfl⟩ | ⟨h1, h2⟩
  · refine Or.inl ⟨k, hk, rfl, fun N σ h => ?_, fun N σ h => ?_⟩
    · unfold g_X4_has
      rw [if_neg (n_lt0 (by omega)), h, if_neg (n_le (by omega) hk), if_neg (show ¬ (56 : Int32) ≤ nI k from n_le (b := 56) (by omega) (by omega))]
    · unfold g_X8_isPair
      rw [h, hp, v_within, if_pos ⟨n_ge0 (by omega), by rw [← zI_nat, zI_le (by omega) (by omega)]; omega⟩]; rfl
  · refine Or.inr ⟨fun N σ h => ?_, fun N σ h => ?_⟩
    · unfold g_X4_has
      rcases h1 with c | ⟨c, c'⟩
      · rw [if_pos c]
      · rw [if_neg c, h, if_pos c']
    · unfold g_X8_isPair
      rw [h, hp, v_within, if_neg h2]; rfl
theorem lg_0 {a b : Int64} : (lg_cmp a b = 0) ↔ a = b := by
  unfold lg_cmp
  constructor
  · intro h
    by_cases c : a = b
    · exact c
    · exfalso
      revert h
      simp only [c]
      split <;> decide
  · intro h
    subst h
    simp
theorem sh64_A : ∀ r, r < 64 → ((nI r).toInt64 &&& (63 : Int64)) = Int64.ofNat r ∧ ((BitVec.ofNat 64 r).smod 64#64).toNat = r := by decide +kernel
theorem bt64 {w r : Nat} (hr : r < 64) : (((Int64.ofNat w >>> ((nI r).toInt64 &&& (63 : Int64))) &&& (1 : Int64)) = 1) ↔ w.testBit r = true := by
  obtain ⟨h1, h2⟩ := sh64_A r hr
  have hk : ((BitVec.ofNat 64 w).sshiftRight ((BitVec.ofNat 64 r).smod 64#64).toNat)[0] = w.testBit r := by
    rw [BitVec.getElem_sshiftRight]
    simp only [h2, hr, Nat.add_zero, dite_true]
    rw [← BitVec.getLsbD_eq_getElem, BitVec.getLsbD_ofNat]
    simp [hr]
  rw [h1, ← Int64.toBitVec_inj, Int64.toBitVec_and, Int64.toBitVec_shiftRight]
  constructor
  · intro h
    have := congrArg (fun b => b.getLsbD 0) h
    rw [← hk]
    simpa using this
  · intro h
    apply BitVec.eq_of_getLsbD_eq
    intro i hi
    by_cases c : i = 0
    · subst c
      rw [← hk] at h
      simpa using h
    · simp [c]
