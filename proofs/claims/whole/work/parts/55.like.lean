/-! SQUARE by trying all, LIKE, the least like SHELF -/
theorem isIn_A : ∀ k, k < 128 → ∀ j, j < 7 → (if ((nI k >>> (nI j &&& (31 : Int32))) &&& (1 : Int32)) = (1 : Int32) then (1 : Int32) else 0) = bI (k.testBit j) := by decide +kernel
def sqF (j k x : Nat) : Bool := !decide (x % pAt j = 0) && decide (x * x % qAt j = cq j k)
def sqU (j : Nat) : Nat := (List.range (qAt j)).foldl (fun acc x => if x % pAt j = 0 then acc else acc ||| 2 ^ (x * x % qAt j)) 0
theorem sqU_bit (j c : Nat) : (sqU j).testBit c = true ↔ ∃ x, x < qAt j ∧ ¬ x % pAt j = 0 ∧ x * x % qAt j = c := by
  have key : ∀ (l : List Nat) (a : Nat), (l.foldl (fun acc x => if x % pAt j = 0 then acc else acc ||| 2 ^ (x * x % qAt j)) a).testBit c = true ↔ (a.testBit c = true ∨ ∃ x ∈ l, ¬ x % pAt j = 0 ∧ x * x % qAt j = c) := by
    intro l
    induction l with
    | nil => intro a; simp
    | cons x l ih =>
      intro a
      simp only [List.foldl_cons]
      rw [ih]
      by_cases hx : x % pAt j = 0
      · rw [if_pos hx]
        constructor
        · rintro (h | ⟨y, hy, h⟩)
          · exact Or.inl h
          · exact Or.inr ⟨y, List.mem_cons_of_mem _ hy, h⟩
        · rintro (h | ⟨y, hy, h⟩)
          · exact Or.inl h
          · rcases List.mem_cons.mp hy with rfl | hy
            · exact absurd hx h.1
            · exact Or.inr ⟨y, hy, h⟩
      · rw [if_neg hx, Nat.testBit_or, Bool.or_eq_true, Nat.testBit_two_pow, decide_eq_true_eq]
        constructor
        · rintro ((h | h) | ⟨y, hy, h⟩)
          · exact Or.inl h
          · exact Or.inr ⟨x, List.mem_cons_self, hx, h⟩
          · exact Or.inr ⟨y, List.mem_cons_of_mem _ hy, h⟩
        · rintro (h | ⟨y, hy, h⟩)
          · exact Or.inl (Or.inl h)
          · rcases List.mem_cons.mp hy with rfl | hy
            · exact Or.inl (Or.inr h.2)
            · exact Or.inr ⟨y, hy, h⟩
  unfold sqU
  rw [key]
  simp
theorem sqF_U (j k : Nat) : (List.range (qAt j)).any (sqF j k) = (sqU j).testBit (cq j k) := by
  rw [Bool.eq_iff_iff, sqU_bit, List.any_eq_true]
  constructor
  · rintro ⟨x, hx, h⟩
    unfold sqF at h
    simp only [Bool.and_eq_true, Bool.not_eq_true', decide_eq_false_iff_not, decide_eq_true_eq] at h
    exact ⟨x, List.mem_range.mp hx, h⟩
  · rintro ⟨x, hx, h⟩
    refine ⟨x, List.mem_range.mpr hx, ?_⟩
    unfold sqF
    simp only [Bool.and_eq_true, Bool.not_eq_true', decide_eq_false_iff_not, decide_eq_true_eq]
    exact h
theorem sqOdd_A : ∀ j, j < 7 → 2 ≤ j → ∀ k, k < 128 → (sqU j).testBit (cq j k) = (dp j (ab j [k, 1]).1 || dp j (ab j [k, 1]).2) := by decide +kernel
theorem sqTwo_A : ∀ k, k < 128 → (sqU 1).testBit (cq 1 k) = (foM 1 [k, 1]).2.testBit 0 := by decide +kernel
theorem sq_vz {j k : Nat} (hj : j < 7) (h1 : 1 ≤ j) (hk : k < 128) : (List.range (qAt j)).any (sqF j k) = vz j [k, 1] := by
  rw [sqF_U]
  rcases Nat.eq_or_lt_of_le h1 with h | h
  · subst h
    unfold vz
    rw [if_neg (by decide)]
    exact sqTwo_A k hk
  · rw [vz_odd hj h (by intro x hx; simp at hx; omega)]
    exact sqOdd_A j hj h k hk
theorem sq_mod {j k x : Nat} : (((x * x : Nat) : Int) - coreZ k).tmod (qAt j) = 0 ↔ x * x % qAt j = cq j k := by
  have h1 := qAt_pos j
  have e1 : (((x * x : Nat) : Int) - coreZ k).tmod (qAt j) = 0 ↔ (((x * x : Nat) : Int) - coreZ k) % (qAt j : Int) = 0 :=
    ⟨fun h => Int.emod_eq_zero_of_dvd (Int.dvd_of_tmod_eq_zero h), fun h => Int.tmod_eq_zero_of_dvd (Int.dvd_of_emod_eq_zero h)⟩
  rw [e1, ← Int.emod_eq_emod_iff_emod_sub_eq_zero]
  unfold cq
  have h2 : 0 ≤ coreZ k % (qAt j : Int) := Int.emod_nonneg _ (by omega)
  have h3 : ((x * x : Nat) : Int) % (qAt j : Int) = ((x * x % qAt j : Nat) : Int) := rfl
  rw [h3]
  omega
