/-! PAIRS that are open -/
theorem pr_or (m : Nat) (hm : m ≤ 56) (x : Int32) : (∃ k, k < m ∧ x = nI k ∧ (∀ N σ, σ.1 9 7 = nI m → g_X4_has N x σ = some (1, σ)) ∧ ∀ N σ, σ.1 61 14 = nI m → g_X8_isPair N x σ = some (1, σ)) ∨ ((∀ N σ, σ.1 9 7 = nI m → g_X4_has N x σ = some (0, σ)) ∧ ∀ N σ, σ.1 61 14 = nI m → g_X8_isPair N x σ = some (0, σ)) := by
  have hp : nI m - (1 : Int32) = zI ((m : Int) - 1) := by rw [← zI_nat, show (1 : Int32) = zI 1 from rfl, zI_sub]
  rcases in_or x m (by omega) with ⟨k, hk, rfl⟩ | ⟨h1, h2⟩
  · refine Or.inl ⟨k, hk, rfl, fun N σ h => ?_, fun N σ h => ?_⟩
    · unfold g_X4_has
      rw [if_neg (n_lt0 (by omega)), h, if_neg (n_le (by omega) hk), if_neg (show ¬ (56 : Int32) ≤ nI k from n_le (b := 56) (by omega) (by omega))]
    · unfold g_X8_isPair
      rw [h, hp, v_within, if_pos ⟨n_ge0 (by omega), by rw [← zI_nat, zI_le (by omega) (by omega)]; omega⟩]; rfl
  · refine Or.inr ⟨fun N σ h => ?_, fun N σ h => ?_⟩
    · unfold g_X4_has
      rcases h1 with c | ⟨c, c'⟩
      · rw [if_pos c]
      · rw [if_neg c, h, if_pos c']
    · unfold g_X8_isPair
      rw [h, hp, v_within, if_neg h2]; rfl
theorem lg_0 {a b : Int64} : (lg_cmp a b = 0) ↔ a = b := by
  unfold lg_cmp
  constructor
  · intro h
    by_cases c : a = b
    · exact c
    · exfalso
      revert h
      simp only [c]
      split <;> decide
  · intro h
    subst h
    simp
