/-! which rests a PAIR MEETS: what is true of them -/
def fZ (p : Nat × Int × Nat) (x y : Int) : Int := (p.1 : Int) * x * x + p.2.1 * x * y + (p.2.2 : Int) * y * y
theorem fZ_sc (p : Nat × Int × Nat) (t x y : Int) : fZ p (t * x) (t * y) = fZ p x y * t * t := by unfold fZ; grind
theorem fZ_md (p : Nat × Int × Nat) (n x y i j : Int) : fZ p (x + n * i) (y + n * j) = fZ p x y + n * ((p.1 : Int) * (2 * x * i + n * i * i) + p.2.1 * (x * j + y * i + n * i * j) + (p.2.2 : Int) * (2 * y * j + n * j * j)) := by unfold fZ; grind
theorem fZ_b {p : Nat × Int × Nat} (hp : pOK p) {x y : Nat} (hx : x ≤ 160) (hy : y ≤ 160) : 0 ≤ fZ p x y ∧ fZ p x y ≤ 1894400 := by
  obtain ⟨h1, h2, h3, h4, h5, h6⟩ := hp
  have e0 : fZ p x y = (p.1 : Int) * ((x * x : Nat) : Int) + p.2.1 * ((x * y : Nat) : Int) + (p.2.2 : Int) * ((y * y : Nat) : Int) := by
    unfold fZ
    rw [Int.natCast_mul, Int.natCast_mul, Int.natCast_mul]
    grind
  rw [e0]
  clear e0
  have hX : x * x ≤ 160 * 160 := Nat.mul_le_mul hx hx
  have hY : y * y ≤ 160 * 160 := Nat.mul_le_mul hy hy
  have hZ : x * y ≤ 160 * 160 := Nat.mul_le_mul hx hy
  have hZ2 : x * y ≤ x * x + y * y := by
    rcases Nat.le_total x y with c | c
    · have := Nat.mul_le_mul_right y c; omega
    · have := Nat.mul_le_mul_left x c; omega
  generalize x * x = X at *
  generalize y * y = Y at *
  generalize x * y = Z at *
  have e1 : (-(p.1 : Int)) * (Z : Int) ≤ p.2.1 * (Z : Int) := Int.mul_le_mul_of_nonneg_right h3 (by omega)
  have e2 : p.2.1 * (Z : Int) ≤ (p.1 : Int) * (Z : Int) := Int.mul_le_mul_of_nonneg_right h4 (by omega)
  have e3 : (p.1 : Int) * (Y : Int) ≤ (p.2.2 : Int) * (Y : Int) := Int.mul_le_mul_of_nonneg_right (by omega) (by omega)
  have e4 : (p.1 : Int) * (Z : Int) ≤ (p.1 : Int) * ((X : Int) + (Y : Int)) := Int.mul_le_mul_of_nonneg_left (by omega) (by omega)
  have e5 : (p.1 : Int) * (X : Int) ≤ 7 * 25600 := by
    have : p.1 * X ≤ 7 * 25600 := Nat.mul_le_mul h2 hX
    rw [← Int.natCast_mul]; omega
  have e6 : (p.2.2 : Int) * (Y : Int) ≤ 60 * 25600 := by
    have : p.2.2 * Y ≤ 60 * 25600 := Nat.mul_le_mul h6 hY
    rw [← Int.natCast_mul]; omega
  have e7 : (p.1 : Int) * (Z : Int) ≤ 7 * 25600 := by
    have : p.1 * Z ≤ 7 * 25600 := Nat.mul_le_mul h2 hZ
    rw [← Int.natCast_mul]; omega
  rw [Int.mul_add] at e4
  rw [Int.neg_mul] at e1
  generalize (p.1 : Int) * (X : Int) = aX at *
  generalize (p.1 : Int) * (Y : Int) = aY at *
  generalize (p.1 : Int) * (Z : Int) = aZ at *
  generalize p.2.1 * (Z : Int) = bZ at *
  generalize (p.2.2 : Int) * (Y : Int) = cY at *
  omega
def pv (p : Nat × Int × Nat) (x y : Nat) : Nat := (fZ p x y).toNat
theorem pv_Z {p : Nat × Int × Nat} (hp : pOK p) {x y : Nat} (hx : x ≤ 160) (hy : y ≤ 160) : ((pv p x y : Nat) : Int) = fZ p x y := by
  have := fZ_b hp hx hy
  unfold pv; omega
def metP (n : Nat) (p : Nat × Int × Nat) (r : Nat) : Prop := Nat.gcd r n = 1 ∧ ∃ x y : Nat, fZ p x y % (n : Int) = (r : Int)
theorem metP_lt {n r : Nat} {p : Nat × Int × Nat} (hn : 0 < n) (h : metP n p r) : r < n := by
  obtain ⟨_, x, y, e⟩ := h
  have := Int.emod_lt_of_pos (fZ p x y) (show (0 : Int) < n by omega)
  omega
theorem gcd_md (m n : Nat) : Nat.gcd (m % n) n = Nat.gcd m n := by rw [Nat.gcd_comm m n, Nat.gcd_rec n m]
theorem emod_e {a n : Int} : ∃ k, a = a % n + n * k := ⟨a / n, (Int.emod_add_mul_ediv a n).symm⟩
theorem metP_sq {n r t : Nat} {p : Nat × Int × Nat} (h : metP n p r) (ht : Nat.gcd t n = 1) : metP n p (r * t * t % n) := by
  obtain ⟨h1, x, y, e⟩ := h
  refine ⟨?_, t * x, t * y, ?_⟩
  · rw [gcd_md]
    exact Nat.Coprime.mul_left (Nat.Coprime.mul_left h1 ht) ht
  · obtain ⟨k, hk⟩ := emod_e (a := fZ p x y) (n := (n : Int))
    rw [e] at hk
    rw [Int.natCast_mul, Int.natCast_mul, fZ_sc, hk, Int.natCast_emod, Int.natCast_mul, Int.natCast_mul]
    rw [show ((r : Int) + (n : Int) * k) * (t : Int) * (t : Int) = (r : Int) * t * t + (n : Int) * (k * t * t) by grind, Int.add_mul_emod_self_left]
/-! a number by N is one apart from N times one that goes into N -/
def egN (n : Nat) : Nat → Nat → Nat → Nat → Nat → Nat
  | 0, _, _, s0, _ => s0
  | f + 1, r0, r1, s0, s1 => if r1 = 0 then s0 else egN n f r1 (r0 % r1) s1 ((s0 + n * n - (r0 / r1) * s1) % n)
def utF (n y d : Nat) : Nat → Nat → Nat
  | 0, k => y / d + k * (n / d)
  | f + 1, k => if Nat.gcd (y / d + k * (n / d)) n = 1 then y / d + k * (n / d) else utF n y d f (k + 1)
def utT (n y : Nat) : Nat := utF n y (Nat.gcd y n) 20 0
def utI (n y : Nat) : Nat := egN n 14 (utT n y) n 1 0
def utB (n y : Nat) : Bool := decide (Nat.gcd (utT n y) n = 1) && decide (utT n y * Nat.gcd y n % n = y) && decide (utT n y * utI n y % n = 1) && decide (utT n y < n) && decide (1 ≤ utT n y)
theorem utB_A : ∀ n, n < 161 → 3 ≤ n → ∀ y, y < n → utB n y = true := by decide +kernel
theorem met_all {n r : Nat} {p : Nat × Int × Nat} (hn : n < 161) (hn3 : 3 ≤ n) (hp : pOK p) (M : Nat) (hcl : ∀ q t, M.testBit q = true → 1 ≤ t → t < n → Nat.gcd t n = 1 → M.testBit (q * t * t % n) = true) (hin : ∀ d, 1 ≤ d → d ≤ n → n % d = 0 → ∀ x, x < n → Nat.gcd (pv p x d % n) n = 1 → M.testBit (pv p x d % n) = true) (h : metP n p r) : M.testBit r = true := by
  obtain ⟨h1, X, Y, e⟩ := h
  have hy := utB_A n hn hn3 (Y % n) (Nat.mod_lt _ (by omega))
  unfold utB at hy
  simp only [Bool.and_eq_true, decide_eq_true_eq] at hy
  obtain ⟨⟨⟨⟨t1, t2⟩, t3⟩, t4⟩, t5⟩ := hy
  generalize utT n (Y % n) = t at *
  generalize utI n (Y % n) = s at *
  have hd1 : 1 ≤ Nat.gcd (Y % n) n := Nat.gcd_pos_of_pos_right _ (by omega)
  have hd2 : Nat.gcd (Y % n) n ≤ n := Nat.gcd_le_right _ (by omega)
  have hd3 : n % Nat.gcd (Y % n) n = 0 := Nat.mod_eq_zero_of_dvd (Nat.gcd_dvd_right _ _)
  generalize Nat.gcd (Y % n) n = d at *
  -- x' with t x' = X by n
  obtain ⟨x, hx⟩ : ∃ x, x = s * X % n := ⟨_, rfl⟩
  have hxn : x < n := by rw [hx]; exact Nat.mod_lt _ (by omega)
  have hX : ∃ i : Int, (X : Int) = (t : Int) * (x : Int) + (n : Int) * i := by
    have a1 : (x : Int) = (s : Int) * X - n * ((s * X / n : Nat) : Int) := by
      have := Nat.div_add_mod (s * X) n
      rw [← hx] at this
      have h2 : ((n * (s * X / n) + x : Nat) : Int) = ((s * X : Nat) : Int) := by rw [this]
      rw [Int.natCast_add, Int.natCast_mul, Int.natCast_mul] at h2
      omega
    have a2 : (t : Int) * (s : Int) = 1 + n * ((t * s / n : Nat) : Int) := by
      have := Nat.div_add_mod (t * s) n
      rw [t3] at this
      have h2 : ((n * (t * s / n) + 1 : Nat) : Int) = ((t * s : Nat) : Int) := by rw [this]
      rw [Int.natCast_add, Int.natCast_mul, Int.natCast_mul] at h2
      omega
    generalize ((s * X / n : Nat) : Int) = k1 at a1
    generalize ((t * s / n : Nat) : Int) = k2 at a2
    refine ⟨(t : Int) * k1 - k2 * X, ?_⟩
    rw [a1]
    have a3 : (t : Int) * ((s : Int) * X - n * k1) = ((t : Int) * s) * X - n * (t * k1) := by grind
    rw [a3, a2]
    grind
  have hY : ∃ j : Int, (Y : Int) = (t : Int) * (d : Int) + (n : Int) * j := by
    have b1 := Nat.div_add_mod Y n
    have b2 := Nat.div_add_mod (t * d) n
    rw [t2] at b2
    have h1 : ((n * (Y / n) + Y % n : Nat) : Int) = (Y : Int) := by rw [b1]
    have h2 : ((n * (t * d / n) + Y % n : Nat) : Int) = ((t * d : Nat) : Int) := by rw [b2]
    rw [Int.natCast_add, Int.natCast_mul] at h1 h2
    rw [Int.natCast_mul] at h2
    generalize ((Y / n : Nat) : Int) = k1 at h1
    generalize ((t * d / n : Nat) : Int) = k2 at h2
    refine ⟨k1 - k2, ?_⟩
    rw [Int.mul_sub]
    omega
  obtain ⟨i, hX⟩ := hX
  obtain ⟨j, hY⟩ := hY
  rw [hX, hY, fZ_md, Int.add_mul_emod_self_left, fZ_sc] at e
  have hz := pv_Z hp (x := x) (y := d) (by omega) (by omega)
  rw [← hz] at e
  have hr : r = pv p x d % n * t * t % n := by
    have e' : ((pv p x d * t * t % n : Nat) : Int) = (r : Int) := by rw [Int.natCast_emod, Int.natCast_mul, Int.natCast_mul]; exact e
    have e2 : pv p x d * t * t % n = r := by omega
    rw [← e2, Nat.mul_mod, Nat.mul_mod (pv p x d) t n, Nat.mul_mod (pv p x d % n * t) t n, Nat.mul_mod (pv p x d % n) t n, Nat.mod_mod]
  have hg : Nat.gcd (pv p x d % n) n = 1 := by
    have g1 : Nat.gcd (pv p x d % n * t * t) n = 1 := by rw [← gcd_md, ← hr]; exact h1
    exact Nat.Coprime.coprime_mul_right (Nat.Coprime.coprime_mul_right g1)
  rw [hr]
  exact hcl _ t (hin d hd1 hd2 hd3 x hxn hg) t5 t4 t1
/-! the mask of all that are met -/
def mskO (f : Nat → Bool) : Nat → Nat
  | 0 => 0
  | n + 1 => if f n then mskO f n ||| 2 ^ n else mskO f n
theorem mskO_b (f : Nat → Bool) : ∀ n q, (mskO f n).testBit q = (decide (q < n) && f q)
  | 0, q => by simp [mskO]
  | n + 1, q => by
    have ih := mskO_b f n q
    unfold mskO
    by_cases c : f n = true
    · rw [if_pos c, Nat.testBit_or, ih, Nat.testBit_two_pow]
      by_cases c2 : n = q
      · subst c2; simp [c]
      · have : decide (q < n + 1) = decide (q < n) := decide_eq_decide.mpr (by omega)
        simp [c2, this]
    · rw [if_neg c, ih]
      by_cases c2 : q = n
      · subst c2; simp [c]
      · have : decide (q < n + 1) = decide (q < n) := decide_eq_decide.mpr (by omega)
        rw [this]
noncomputable def mskM (n : Nat) (p : Nat × Int × Nat) : Nat := mskO (fun r => @decide (metP n p r) (Classical.propDecidable _)) n
theorem mskM_b {n q : Nat} {p : Nat × Int × Nat} : (mskM n p).testBit q = true ↔ (q < n ∧ metP n p q) := by
  unfold mskM
  rw [mskO_b, Bool.and_eq_true, decide_eq_true_eq]
  simp only [decide_eq_true_eq]
theorem mskM_lt (n : Nat) (p : Nat × Int × Nat) : mskM n p < 2 ^ n := by
  apply Nat.lt_pow_two_of_testBit
  intro i hi
  cases c : (mskM n p).testBit i
  · rfl
  · have := (mskM_b.mp c).1; omega
theorem mskM_eq {n M : Nat} {p : Nat × Int × Nat} (hn : 0 < n) (h : ∀ q, M.testBit q = true ↔ metP n p q) : M = mskM n p := by
  apply Nat.eq_of_testBit_eq
  intro i
  have h1 := h i
  have h2 : (mskM n p).testBit i = true ↔ metP n p i := ⟨fun z => (mskM_b.mp z).2, fun z => mskM_b.mpr ⟨metP_lt hn z, z⟩⟩
  exact Bool.eq_iff_iff.mpr (h1.trans h2.symm)
