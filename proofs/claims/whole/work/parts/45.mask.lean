/-! sets of rests by Q as masks; what a TERM adds to them -/
def rot (q m t : Nat) : Nat := ((m <<< t) ||| (m >>> (q - t))) % 2 ^ q
theorem rot_bit {q m t r : Nat} (hm : m < 2 ^ q) (ht : t < q) (hr : r < q) : (rot q m t).testBit r = m.testBit (if t ≤ r then r - t else r + q - t) := by
  unfold rot
  rw [Nat.testBit_mod_two_pow, Nat.testBit_or, Nat.testBit_shiftLeft, Nat.testBit_shiftRight]
  by_cases h : t ≤ r
  · rw [if_pos h, Nat.testBit_lt_two_pow (x := m) (i := q - t + r) (Nat.lt_of_lt_of_le hm (Nat.pow_le_pow_right (by omega) (by omega)))]
    simp [hr, h]
  · rw [if_neg h, show q - t + r = r + q - t by omega]
    simp [hr, h]
theorem rot_lt (q m t : Nat) : rot q m t < 2 ^ q := Nat.mod_lt _ (Nat.two_pow_pos q)
def conv (q m T : Nat) : Nat := (List.range q).foldl (fun acc t => if T.testBit t then acc ||| rot q m t else acc) 0
theorem conv_lt (q m T : Nat) : conv q m T < 2 ^ q := by
  have key : ∀ (l : List Nat) (a : Nat), a < 2 ^ q → l.foldl (fun acc t => if T.testBit t then acc ||| rot q m t else acc) a < 2 ^ q := by
    intro l
    induction l with
    | nil => intro a h; exact h
    | cons t l ih =>
      intro a h
      simp only [List.foldl_cons]
      apply ih
      split
      · exact Nat.or_lt_two_pow h (rot_lt q m t)
      · exact h
  exact key _ _ (Nat.two_pow_pos q)
theorem conv_bit {q m T r : Nat} (hm : m < 2 ^ q) (hr : r < q) : (conv q m T).testBit r = true ↔ ∃ t, t < q ∧ T.testBit t = true ∧ m.testBit (if t ≤ r then r - t else r + q - t) = true := by
  have key : ∀ (l : List Nat) (a : Nat), (∀ t ∈ l, t < q) → ((l.foldl (fun acc t => if T.testBit t then acc ||| rot q m t else acc) a).testBit r = true ↔ (a.testBit r = true ∨ ∃ t ∈ l, T.testBit t = true ∧ m.testBit (if t ≤ r then r - t else r + q - t) = true)) := by
    intro l
    induction l with
    | nil => intro a _; simp
    | cons t l ih =>
      intro a hl
      have ht : t < q := hl t List.mem_cons_self
      simp only [List.foldl_cons]
      rw [ih _ (fun x hx => hl x (List.mem_cons_of_mem _ hx))]
      by_cases hT : T.testBit t = true
      · rw [if_pos hT, Nat.testBit_or, Bool.or_eq_true, rot_bit hm ht hr]
        constructor
        · rintro ((h | h) | ⟨x, hx, h⟩)
          · exact Or.inl h
          · exact Or.inr ⟨t, List.mem_cons_self, hT, h⟩
          · exact Or.inr ⟨x, List.mem_cons_of_mem _ hx, h⟩
        · rintro (h | ⟨x, hx, h⟩)
          · exact Or.inl (Or.inl h)
          · rcases List.mem_cons.mp hx with rfl | hx
            · exact Or.inl (Or.inr h.2)
            · exact Or.inr ⟨x, hx, h⟩
      · rw [if_neg hT]
        constructor
        · rintro (h | ⟨x, hx, h⟩)
          · exact Or.inl h
          · exact Or.inr ⟨x, List.mem_cons_of_mem _ hx, h⟩
        · rintro (h | ⟨x, hx, h⟩)
          · exact Or.inl h
          · rcases List.mem_cons.mp hx with rfl | hx
            · exact absurd h.1 hT
            · exact Or.inr ⟨x, hx, h⟩
  unfold conv
  rw [key _ _ (fun t h => List.mem_range.mp h)]
  simp only [Nat.zero_testBit, Bool.false_eq_true, false_or, List.mem_range]
/-- the CORE as a rest by Q -/
def cq (j k : Nat) : Nat := (coreZ k % (qAt j : Int)).toNat
def tmF (j k : Nat) (w : Bool) : Nat := (List.range (qAt j / 2 + 1)).foldl (fun acc x => if decide (x % pAt j = 0) == w then acc ||| 2 ^ ((cq j k * (x * x % qAt j)) % qAt j) else acc) 0
theorem tm_bit (j k : Nat) (w : Bool) (t : Nat) : (tmF j k w).testBit t = true ↔ ∃ x, x ≤ qAt j / 2 ∧ decide (x % pAt j = 0) = w ∧ (cq j k * (x * x % qAt j)) % qAt j = t := by
  have key : ∀ (l : List Nat) (a : Nat), ((l.foldl (fun acc x => if decide (x % pAt j = 0) == w then acc ||| 2 ^ ((cq j k * (x * x % qAt j)) % qAt j) else acc) a).testBit t = true ↔ (a.testBit t = true ∨ ∃ x ∈ l, decide (x % pAt j = 0) = w ∧ (cq j k * (x * x % qAt j)) % qAt j = t)) := by
    intro l
    induction l with
    | nil => intro a; simp
    | cons x l ih =>
      intro a
      simp only [List.foldl_cons]
      rw [ih]
      by_cases hw : decide (x % pAt j = 0) = w
      · rw [if_pos (by simp [hw]), Nat.testBit_or, Bool.or_eq_true, Nat.testBit_two_pow]
        constructor
        · rintro ((h | h) | ⟨y, hy, h⟩)
          · exact Or.inl h
          · exact Or.inr ⟨x, List.mem_cons_self, hw, of_decide_eq_true h⟩
          · exact Or.inr ⟨y, List.mem_cons_of_mem _ hy, h⟩
        · rintro (h | ⟨y, hy, h⟩)
          · exact Or.inl (Or.inl h)
          · rcases List.mem_cons.mp hy with rfl | hy
            · exact Or.inl (Or.inr (decide_eq_true h.2))
            · exact Or.inr ⟨y, hy, h⟩
      · rw [if_neg (by simp [hw])]
        constructor
        · rintro (h | ⟨y, hy, h⟩)
          · exact Or.inl h
          · exact Or.inr ⟨y, List.mem_cons_of_mem _ hy, h⟩
        · rintro (h | ⟨y, hy, h⟩)
          · exact Or.inl h
          · rcases List.mem_cons.mp hy with rfl | hy
            · exact absurd h.1 hw
            · exact Or.inr ⟨y, hy, h⟩
  unfold tmF
  rw [key]
  simp only [Nat.zero_testBit, Bool.false_eq_true, false_or, List.mem_range]
  constructor
  · rintro ⟨x, h1, h2⟩; exact ⟨x, by omega, h2⟩
  · rintro ⟨x, h1, h2⟩; exact ⟨x, by omega, h2⟩
/-- one TERM more: rests by multiples alone, and rests with one that is none -/
def stM (j k : Nat) (s : Nat × Nat) : Nat × Nat := (conv (qAt j) s.1 (tmF j k true), conv (qAt j) s.2 (tmF j k true) ||| (conv (qAt j) s.2 (tmF j k false) ||| conv (qAt j) s.1 (tmF j k false)))
def foM (j : Nat) (ks : List Nat) : Nat × Nat := ks.foldl (fun s k => stM j k s) (1, 0)
def vz (j : Nat) (ks : List Nat) : Bool := if j = 0 then ks.any (fun k => !k.testBit 0) && ks.any (fun k => k.testBit 0) else (foM j ks).2.testBit 0
theorem qAt_pos (j : Nat) : 0 < qAt j := by
  unfold qAt
  have := pAt_ge j
  split
  · omega
  · exact Nat.mul_pos (by omega) (by omega)
theorem qAt_le : ∀ j, qAt j ≤ 169 := by
  intro j
  unfold qAt
  split
  · omega
  · have h := pAt_le j
    exact Nat.mul_le_mul h h
theorem stM_lt {j k : Nat} {s : Nat × Nat} : (stM j k s).1 < 2 ^ qAt j ∧ (stM j k s).2 < 2 ^ qAt j := ⟨conv_lt _ _ _, Nat.or_lt_two_pow (conv_lt _ _ _) (Nat.or_lt_two_pow (conv_lt _ _ _) (conv_lt _ _ _))⟩
theorem foM_lt {j : Nat} : ∀ (ks : List Nat), (foM j ks).1 < 2 ^ qAt j ∧ (foM j ks).2 < 2 ^ qAt j := by
  have key : ∀ (ks : List Nat) (s : Nat × Nat), s.1 < 2 ^ qAt j ∧ s.2 < 2 ^ qAt j → (ks.foldl (fun s k => stM j k s) s).1 < 2 ^ qAt j ∧ (ks.foldl (fun s k => stM j k s) s).2 < 2 ^ qAt j := by
    intro ks
    induction ks with
    | nil => intro s h; exact h
    | cons k ks ih => intro s _; exact ih _ stM_lt
  intro ks
  exact key ks _ ⟨Nat.one_lt_two_pow (Nat.pos_iff_ne_zero.mp (qAt_pos j)), Nat.two_pow_pos _⟩
theorem foM_snoc (j : Nat) (ks : List Nat) (k : Nat) : foM j (ks ++ [k]) = stM j k (foM j ks) := by
  unfold foM
  rw [List.foldl_append]
  rfl
