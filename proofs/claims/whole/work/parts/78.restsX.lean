/-! the class finds the rests that a PAIR MEETS -/
def wdK (σ : fS) (k M : Nat) : Prop := ∀ w, w < 3 → σ.2 14 (3 * k + w) = Int64.ofNat (M >>> (64 * w) % 2 ^ 64)
def rsX (σ s : fS) (k M : Nat) : Prop := s.1 = σ.1 ∧ (∀ q, q ≠ 14 → s.2 q = σ.2 q) ∧ (∀ j, j / 3 ≠ k → s.2 14 j = σ.2 14 j) ∧ wdK s k M
def bsX (σ : fS) (n k : Nat) (P : List (Nat × Int × Nat)) : Prop := σ.1 9 6 = nI n ∧ n ≤ 160 ∧ 3 ≤ n ∧ cX σ P ∧ P.length ≤ 56 ∧ pAll P ∧ k < P.length ∧ ∀ r, r < n → σ.1 15 r = bI (decide (Nat.gcd r n = 1))
theorem rsX.b {σ s : fS} {n k M : Nat} {P : List (Nat × Int × Nat)} (h : rsX σ s k M) (b : bsX σ n k P) : bsX s n k P := by
  unfold bsX cX at *; rw [h.1]; exact b
theorem has_X {N n k : Nat} {σ : fS} {P : List (Nat × Int × Nat)} (b : bsX σ n k P) : g_X4_has N (nI k) σ = some (1, σ) := by
  obtain ⟨_, _, _, h4, h5, _, h7, _⟩ := b
  unfold g_X4_has
  rw [if_neg (n_lt0 (by omega)), h4.1, if_neg (n_le (by omega) h7), if_neg (show ¬ (56 : Int32) ≤ nI k from n_le (b := 56) (by omega) (by omega))]
theorem wd_or (M r w : Nat) : ((M ||| 2 ^ r) >>> (64 * w)) % 2 ^ 64 = if w = r / 64 then (M >>> (64 * w) % 2 ^ 64) ||| 2 ^ (r % 64) else M >>> (64 * w) % 2 ^ 64 := by
  apply Nat.eq_of_testBit_eq
  intro i
  rw [Nat.testBit_mod_two_pow, Nat.testBit_shiftRight, Nat.testBit_or, Nat.testBit_two_pow]
  by_cases c : w = r / 64
  · rw [if_pos c, Nat.testBit_or, Nat.testBit_mod_two_pow, Nat.testBit_shiftRight, Nat.testBit_two_pow]
    by_cases c2 : i < 64
    · have : decide (r = 64 * w + i) = decide (r % 64 = i) := decide_eq_decide.mpr (by omega)
      simp [c2, this]
    · have : decide (r % 64 = i) = false := decide_eq_false (by omega)
      simp [c2, this]
  · rw [if_neg c, Nat.testBit_mod_two_pow, Nat.testBit_shiftRight]
    by_cases c2 : i < 64
    · have : decide (r = 64 * w + i) = false := decide_eq_false (by omega)
      simp [c2, this]
    · simp [c2]
theorem bit_or {a s : Nat} (ha : a < 2 ^ 64) (hs : s < 64) : Int64.ofNat a ||| ((1 : Int64) <<< ((nI s).toInt64 &&& (63 : Int64))) = Int64.ofNat (a ||| 2 ^ s) := by
  have h1 : (1 : Int64) <<< ((nI s).toInt64 &&& (63 : Int64)) = lN (1 * 2 ^ s) := wb_shl 1 hs
  rw [h1, Nat.one_mul]
  exact wb_or ha (Nat.pow_lt_pow_right (by decide) hs)
theorem wdK_or {σ : fS} {k M r : Nat} (h : wdK σ k M) (hr : r < 192) : wdK (sL σ 14 (3 * k + r / 64) (σ.2 14 (3 * k + r / 64) ||| ((1 : Int64) <<< ((nI (r % 64)).toInt64 &&& (63 : Int64))))) k (M ||| 2 ^ r) := by
  intro w hw
  rw [wd_or, sL_2]
  by_cases c : w = r / 64
  · subst c
    rw [if_pos ⟨rfl, rfl⟩, if_pos rfl, h _ hw, bit_or (Nat.mod_lt _ (by decide)) (Nat.mod_lt _ (by decide))]
  · rw [if_neg (fun z => c (by have := z.2; omega)), if_neg c, h w hw]
theorem rsX_or {σ s : fS} {k M r : Nat} (h : rsX σ s k M) (hr : r < 192) : rsX σ (sL s 14 (3 * k + r / 64) (s.2 14 (3 * k + r / 64) ||| ((1 : Int64) <<< ((nI (r % 64)).toInt64 &&& (63 : Int64))))) k (M ||| 2 ^ r) := by
  refine ⟨h.1, fun q hq => ?_, fun j hj => ?_, wdK_or h.2.2.2 hr⟩
  · rw [sL_ne _ _ _ hq]; exact h.2.1 q hq
  · rw [sL_2, if_neg (fun z => hj (by have := z.2; omega))]; exact h.2.2.1 j hj
theorem v_isMt {N n k r M : Nat} {σ : fS} {P : List (Nat × Int × Nat)} (b : bsX σ n k P) (h : wdK σ k M) (hr : r < n) : g_X4_isMet N (nI k) (nI r) σ = some (bI (M.testBit r), σ) := by
  have hh := has_X (N := N) b
  obtain ⟨h1, h2, h3, h4, h5, h6, h7, h8⟩ := b
  have hq : r / 64 < 3 := by omega
  have e1 : nI k * (3 : Int32) + nI r / (64 : Int32) = nI (3 * k + r / 64) := by
    rw [show nI k * (3 : Int32) = nI (k * 3) from pk_mul k 3, show nI r / (64 : Int32) = nI (r / 64) from n_div (d := 64) (by omega) (by decide) (by decide), nI_add, Nat.mul_comm]
  have e2 : iR (nI r) (64 : Int32) = nI (r % 64) := nI_rem (d := 64) (by omega) (by decide) (by decide)
  unfold g_X4_isMet
  rw [hh, Bd_s, if_neg (by decide), if_neg (n_lt0 (by omega)), h1, if_pos ((nI_ltI (by omega) (by omega)).mpr hr), e1, e2, Gd_c (fin_nI (by omega) (by omega)), n_cl (by omega), h _ hq]
  have hb := bt64 (w := M >>> (64 * (r / 64)) % 2 ^ 64) (Nat.mod_lt r (show 0 < 64 by decide))
  rw [wd_bit] at hb
  cases c : M.testBit r
  · rw [if_neg (fun z => by have := hb.mp (lg_0.mp z); rw [c] at this; exact absurd this (by decide))]; rfl
  · rw [if_pos (lg_0.mpr (hb.mpr c))]; rfl
theorem or_tb (M r q : Nat) : (M ||| 2 ^ r).testBit q = true ↔ M.testBit q = true ∨ r = q := by
  rw [Nat.testBit_or, Nat.testBit_two_pow, Bool.or_eq_true, decide_eq_true_eq]
theorem v_aws {N n k r M : Nat} {σ s : fS} {P : List (Nat × Int × Nat)} (hN : 200 ≤ N) (b : bsX σ n k P) (h : rsX σ s k M) (hr : r < n) : ∃ s' M', g_X4_addWithSquares N (nI k) (nI r) s = some s' ∧ rsX σ s' k M' ∧ ∀ q, M'.testBit q = true ↔ (M.testBit q = true ∨ ∃ t, 1 ≤ t ∧ t < n ∧ Nat.gcd t n = 1 ∧ r * t * t % n = q) := by
  have hn3 := b.2.2.1
  have hn160 := b.2.1
  obtain ⟨s', ⟨M', a1, a2, _⟩, e⟩ := lpU (fun f x s => lp_X4_addWithSquares_2 N (nI k) (nI r) f x s) n (fun i s => ∃ M', rsX σ s k M' ∧ (∀ q, M'.testBit q = true ↔ (M.testBit q = true ∨ ∃ t, 1 ≤ t ∧ t < i ∧ Nat.gcd t n = 1 ∧ r * t * t % n = q)) ∧ 1 ≤ i) id (by
    intro f i u hi ⟨M', c1, c2, c3⟩
    have bu := c1.b b
    show ∃ u', _ ∧ lp_X4_addWithSquares_2 N (nI k) (nI r) (f + 1) (nI i) u = lp_X4_addWithSquares_2 N (nI k) (nI r) f (nI (i + 1)) u'
    rw [lp_X4_addWithSquares_2, bu.1, if_neg (n_le (by omega) hi), has_X bu, Bd_s, if_neg (by decide), Gd_c (fin_nI (show i < 160 by omega) (by omega)), n_cl (by omega), bu.2.2.2.2.2.2.2 i hi, nI_1]
    by_cases c : Nat.gcd i n = 1
    · have hi2 : r * i * i ≤ 160 * 160 * 160 := Nat.mul_le_mul (Nat.mul_le_mul (by omega) (by omega)) (by omega)
      have hm : r * i * i % n < n := Nat.mod_lt _ (by omega)
      rw [decide_eq_true c, if_neg (show ¬ bI true = 0 by decide), bu.1, Gd_c (nz_nI (by omega) (by omega)), pk_mul, pk_mul, nI_rem (by omega) (by omega) (by omega), Lt_e]
      have e1 : nI k * (3 : Int32) + nI (r * i * i % n) / (64 : Int32) = nI (3 * k + (r * i * i % n) / 64) := by
        rw [show nI k * (3 : Int32) = nI (k * 3) from pk_mul k 3, show nI (r * i * i % n) / (64 : Int32) = nI (r * i * i % n / 64) from n_div (d := 64) (by omega) (by decide) (by decide), nI_add, Nat.mul_comm]
      have e2 : iR (nI (r * i * i % n)) (64 : Int32) = nI (r * i * i % n % 64) := nI_rem (d := 64) (by omega) (by decide) (by decide)
      have hk := bu.2.2.2.2.2.2.1
      have hP := bu.2.2.2.2.1
      rw [e1, e2, Gd_c (fin_nI (show 3 * k + r * i * i % n / 64 < 168 by omega) (by omega)), Gd_c (fin_nI (show 3 * k + r * i * i % n / 64 < 168 by omega) (by omega)), n_cl (by omega), Lt_e]
      refine ⟨_, ⟨M' ||| 2 ^ (r * i * i % n), rsX_or c1 (by omega), fun q => ?_, by omega⟩, rfl⟩
      rw [or_tb, c2 q]
      constructor
      · rintro ((z | ⟨t, q1, q2, q3, q4⟩) | z)
        · exact Or.inl z
        · exact Or.inr ⟨t, q1, by omega, q3, q4⟩
        · exact Or.inr ⟨i, c3, by omega, c, z⟩
      · rintro (z | ⟨t, q1, q2, q3, q4⟩)
        · exact Or.inl (Or.inl z)
        · by_cases ct : t = i
          · subst ct; exact Or.inr q4
          · exact Or.inl (Or.inr ⟨t, q1, by omega, q3, q4⟩)
    · rw [decide_eq_false c, if_pos (show bI false = 0 from rfl)]
      refine ⟨u, ⟨M', c1, fun q => ?_, by omega⟩, rfl⟩
      rw [c2 q]
      constructor
      · rintro (z | ⟨t, q1, q2, q3, q4⟩)
        · exact Or.inl z
        · exact Or.inr ⟨t, q1, by omega, q3, q4⟩
      · rintro (z | ⟨t, q1, q2, q3, q4⟩)
        · exact Or.inl z
        · by_cases ct : t = i
          · subst ct; exact absurd q3 c
          · exact Or.inr ⟨t, q1, by omega, q3, q4⟩) (by
    intro f u ⟨M', c1, _⟩
    have bu := c1.b b
    show lp_X4_addWithSquares_2 N (nI k) (nI r) (f + 1) (nI n) u = _
    rw [lp_X4_addWithSquares_2, bu.1, if_pos (y_le (by omega) (Nat.le_refl _))]; rfl) (n - 1) N 1 s (by omega) (by omega) ⟨M, h, fun q => ⟨Or.inl, fun z => z.elim id (fun ⟨t, q1, q2, _⟩ => by omega)⟩, Nat.le_refl _⟩
  refine ⟨s', M', ?_, a1, a2⟩
  unfold g_X4_addWithSquares
  rw [show lp_X4_addWithSquares_2 N (nI k) (nI r) N 1 s = _ from e]
  rfl
def gdM (n : Nat) (p : Nat × Int × Nat) (M : Nat) : Prop := (∀ q, M.testBit q = true → metP n p q) ∧ ∀ q t, M.testBit q = true → 1 ≤ t → t < n → Nat.gcd t n = 1 → M.testBit (q * t * t % n) = true
theorem gdM_add {n r M M' : Nat} {p : Nat × Int × Nat} (hn : 3 ≤ n) (g : gdM n p M) (hr : metP n p r) (h : ∀ q, M'.testBit q = true ↔ (M.testBit q = true ∨ ∃ t, 1 ≤ t ∧ t < n ∧ Nat.gcd t n = 1 ∧ r * t * t % n = q)) : gdM n p M' ∧ M'.testBit r = true := by
  refine ⟨⟨fun q hq => ?_, fun q t hq h1 h2 h3 => ?_⟩, ?_⟩
  · rcases (h q).mp hq with z | ⟨t, q1, q2, q3, q4⟩
    · exact g.1 q z
    · rw [← q4]; exact metP_sq hr q3
  · rcases (h q).mp hq with z | ⟨s, q1, q2, q3, q4⟩
    · exact (h _).mpr (Or.inl (g.2 q t z h1 h2 h3))
    · have hst : Nat.gcd (s * t % n) n = 1 := by rw [gcd_md]; exact Nat.Coprime.mul_left q3 h3
      refine (h _).mpr (Or.inr ⟨s * t % n, ?_, Nat.mod_lt _ (by omega), hst, ?_⟩)
      · rcases Nat.eq_zero_or_pos (s * t % n) with z | z
        · rw [z, Nat.gcd_zero_left] at hst; omega
        · exact z
      · rw [← q4]
        have e1 : r * (s * t % n) * (s * t % n) % n = r * (s * t) * (s * t) % n := by
          rw [Nat.mul_mod, Nat.mul_mod r (s * t % n) n, Nat.mod_mod, ← Nat.mul_mod r (s * t) n, ← Nat.mul_mod]
        have e2 : r * s * s % n * t * t % n = r * s * s * t * t % n := by
          rw [Nat.mul_mod, Nat.mul_mod (r * s * s % n) t n, Nat.mod_mod, ← Nat.mul_mod (r * s * s) t n, ← Nat.mul_mod]
        rw [e1, e2]
        congr 1
        simp only [Nat.mul_comm, Nat.mul_left_comm, Nat.mul_assoc]
  · refine (h r).mpr (Or.inr ⟨1, Nat.le_refl _, by omega, Nat.gcd_one_left n, ?_⟩)
    rw [Nat.mul_one, Nat.mul_one]
    exact Nat.mod_eq_of_lt (metP_lt (by omega) hr)
