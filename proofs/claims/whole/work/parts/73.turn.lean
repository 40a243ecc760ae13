/-! turn -/
def isSq (v : Nat) : Prop := ∃ t, t * t = v
theorem sq_mul {r s : Nat} (hs : 0 < s) : isSq (r * (s * s)) ↔ isSq r := by
  constructor
  · intro ⟨t, ht⟩
    have h1 : s ^ 2 ∣ t ^ 2 := ⟨r, by rw [Nat.pow_two, Nat.pow_two, ht, Nat.mul_comm]⟩
    obtain ⟨u, hu⟩ := (Nat.pow_dvd_pow_iff (by decide)).mp h1
    refine ⟨u, ?_⟩
    have h2 : (s * s) * (u * u) = (s * s) * r := by
      rw [Nat.mul_comm (s * s) r, ← ht, hu]
      exact Nat.mul_mul_mul_comm s s u u
    exact Nat.eq_of_mul_eq_mul_left (Nat.mul_pos hs hs) h2
  · intro ⟨t, ht⟩
    exact ⟨t * s, by rw [← ht]; exact Nat.mul_mul_mul_comm t s t s⟩
def pm (p : Nat) (b : Bool) : Nat := if b then p else 1
theorem sV_dec {p : Nat} (hp : 2 ≤ p) : ∀ (f v : Nat), 0 < v → ∃ s, 0 < s ∧ v = sV p f v * pm p (sB p f v) * (s * s)
  | 0, v, h => ⟨1, by decide, by show v = v * 1 * (1 * 1); omega⟩
  | f + 1, v, h => by
    unfold sV sB
    by_cases c : v % p = 0
    · obtain ⟨s, hs, e⟩ := sV_dec hp f (v / p) (div_pos' hp h c)
      rw [if_pos c, if_pos c]
      have hv : v = p * (v / p) := by have := Nat.div_add_mod v p; omega
      generalize v / p = w at e hv
      cases hb : sB p f w
      · rw [hb] at e
        refine ⟨s, hs, ?_⟩
        rw [hv]
        show p * w = sV p f w * p * (s * s)
        conv => lhs; rw [e]
        show p * (sV p f w * 1 * (s * s)) = _
        rw [Nat.mul_one, ← Nat.mul_assoc, Nat.mul_comm p]
      · rw [hb] at e
        refine ⟨p * s, Nat.mul_pos (by omega) hs, ?_⟩
        rw [hv]
        show p * w = sV p f w * 1 * (p * s * (p * s))
        conv => lhs; rw [e]
        show p * (sV p f w * p * (s * s)) = _
        rw [Nat.mul_one, Nat.mul_mul_mul_comm p s p s]
        simp only [Nat.mul_comm, Nat.mul_left_comm, Nat.mul_assoc]
    · rw [if_neg c, if_neg c]
      exact ⟨1, by decide, by show v = v * 1 * (1 * 1); omega⟩
def bt2 (j : Nat) (b : Bool) : Nat := if b then 2 ^ j else 0
theorem mul4 (a b c d e : Nat) : a * b * (d * d) * c * (e * e) = a * (c * b) * (e * d * (e * d)) := by
  rw [Nat.mul_mul_mul_comm e d e d]
  simp only [Nat.mul_comm, Nat.mul_left_comm, Nat.mul_assoc]
theorem dec1 {j m v w s : Nat} (hw : 0 < w) (hs : 0 < s) (e : v = w * m * (s * s)) : ∃ s', 0 < s' ∧ v = sV (pAt j) 31 w * (m * pm (pAt j) (sB (pAt j) 31 w)) * (s' * s') := by
  obtain ⟨t, ht, e'⟩ := sV_dec (pAt_ge j) 31 w hw
  refine ⟨s * t, Nat.mul_pos hs ht, ?_⟩
  generalize hx : sV (pAt j) 31 w = x at e'
  generalize hy : pm (pAt j) (sB (pAt j) 31 w) = y at e'
  rw [e, e', Nat.mul_mul_mul_comm s t s t]
  simp only [Nat.mul_comm, Nat.mul_left_comm, Nat.mul_assoc]
theorem dec6 {v : Nat} (h : 0 < v) : ∃ (b1 b2 b3 b4 b5 b6 : Bool) (s : Nat), 0 < s ∧ v = rough v * (1 * pm 2 b1 * pm 3 b2 * pm 5 b3 * pm 7 b4 * pm 11 b5 * pm 13 b6) * (s * s) ∧ ∀ t, (kAll t v).1 = t ^^^ bt2 1 b1 ^^^ bt2 2 b2 ^^^ bt2 3 b3 ^^^ bt2 4 b4 ^^^ bt2 5 b5 ^^^ bt2 6 b6 := by
  have p1 := kStep_pos (q := (0, v)) 1 h
  have p2 := kStep_pos 2 p1
  have p3 := kStep_pos 3 p2
  have p4 := kStep_pos 4 p3
  have p5 := kStep_pos 5 p4
  obtain ⟨s1, h1, e1⟩ := dec1 (j := 1) (m := 1) (v := v) (w := v) (s := 1) h (by decide) (by omega)
  obtain ⟨s2, h2, e2⟩ := dec1 (j := 2) p1 h1 e1
  obtain ⟨s3, h3, e3⟩ := dec1 (j := 3) p2 h2 e2
  obtain ⟨s4, h4, e4⟩ := dec1 (j := 4) p3 h3 e3
  obtain ⟨s5, h5, e5⟩ := dec1 (j := 5) p4 h4 e4
  obtain ⟨s6, h6, e6⟩ := dec1 (j := 6) p5 h5 e5
  exact ⟨_, _, _, _, _, _, s6, h6, e6, fun t => rfl⟩
theorem core_B : ∀ b0 b1 b2 b3 b4 b5 b6 : Bool, coreZ ((if b0 then 1 else 0) ^^^ bt2 1 b1 ^^^ bt2 2 b2 ^^^ bt2 3 b3 ^^^ bt2 4 b4 ^^^ bt2 5 b5 ^^^ bt2 6 b6) = (if b0 then -1 else 1) * ((1 * pm 2 b1 * pm 3 b2 * pm 5 b3 * pm 7 b4 * pm 11 b5 * pm 13 b6 : Nat) : Int) := by decide +kernel
theorem z_dec {z : Int} (h : z ≠ 0) : ∃ s q, 0 < s ∧ q = rough z.natAbs * (s * s) ∧ z = coreZ (kindZ z) * (q : Int) := by
  obtain ⟨b1, b2, b3, b4, b5, b6, s, hs, e, hk⟩ := dec6 (v := z.natAbs) (by omega)
  refine ⟨s, rough z.natAbs * (s * s), hs, rfl, ?_⟩
  unfold kindZ
  rw [hk]
  have hb := core_B (decide (z < 0)) b1 b2 b3 b4 b5 b6
  generalize (1 * pm 2 b1 * pm 3 b2 * pm 5 b3 * pm 7 b4 * pm 11 b5 * pm 13 b6) = m at e hb
  have hm : z.natAbs = m * (rough z.natAbs * (s * s)) := by
    conv => lhs; rw [e]
    rw [Nat.mul_comm (rough z.natAbs) m, Nat.mul_assoc]
  generalize rough z.natAbs * (s * s) = q at hm
  have hq : ((z.natAbs : Nat) : Int) = (m : Int) * (q : Int) := by rw [hm]; exact Int.natCast_mul m q
  by_cases c : z < 0
  · simp only [c, decide_true, if_true] at hb ⊢
    rw [hb, Int.neg_one_mul, Int.neg_mul, ← hq]; omega
  · simp only [c, decide_false, if_false, Bool.false_eq_true] at hb ⊢
    rw [hb, Int.one_mul, ← hq]; omega
/-! roots -/
theorem shl30 : ∀ j, j < 30 → (1 : Int32) <<< (nI j &&& (31 : Int32)) = nI (2 ^ j) := by decide +kernel
theorem n_m1 (b : Nat) : nI b + (-1 : Int32) = zI ((b : Int) - 1) := by
  rw [← zI_nat, show (-1 : Int32) = zI (-1) from rfl, zI_add]; rfl
theorem root_lp {N w : Nat} {σ : fS} (hw : w < 2 ^ 30) : ∀ (b n x : Nat), b < n → b ≤ 15 → x % 2 ^ b = 0 → x + 2 ^ b ≤ 2 ^ 15 → x * x ≤ w → w < (x + 2 ^ b) * (x + 2 ^ b) → ∃ r, lp_X2_rootOf_5 N (nI w) n (nI x) (zI ((b : Int) - 1)) σ = some (nI r, σ) ∧ r * r ≤ w ∧ w < (r + 1) * (r + 1) ∧ r < 2 ^ 15
  | 0, n, x, hn, _, _, h2, h3, h4 => by
    obtain ⟨n, rfl⟩ : ∃ m, n = m + 1 := ⟨n - 1, by omega⟩
    refine ⟨x, ?_, h3, by simpa using h4, by omega⟩
    rw [lp_X2_rootOf_5, if_pos (show zI (((0 : Nat) : Int) - 1) < (0 : Int32) by decide)]
  | b + 1, n, x, hn, hb, h1, h2, h3, h4 => by
    obtain ⟨n, rfl⟩ : ∃ m, n = m + 1 := ⟨n - 1, by omega⟩
    have e2 : 2 ^ (b + 1) = 2 * 2 ^ b := by rw [Nat.pow_succ]; omega
    have hpos : 0 < 2 ^ b := Nat.pow_pos (by decide)
    have hxb : zI (((b + 1 : Nat) : Int) - 1) = nI b := by rw [← zI_nat]; congr 1; omega
    obtain ⟨y, hy⟩ := Nat.dvd_of_mod_eq_zero h1
    have hor : x ||| 2 ^ b = x + 2 ^ b := by
      rw [hy]; exact (Nat.two_pow_add_eq_or_of_lt (by omega) y).symm
    have hsq : (x + 2 ^ b) * (x + 2 ^ b) < 2 ^ 15 * 2 ^ 15 := Nat.mul_self_lt_mul_self (by omega)
    have hx0 : x % 2 ^ b = 0 := Nat.mod_eq_zero_of_dvd ⟨2 * y, by rw [hy, e2, Nat.mul_comm 2 (2 ^ b), Nat.mul_assoc]⟩
    have hlt : (nI w < nI ((x + 2 ^ b) * (x + 2 ^ b))) ↔ w < (x + 2 ^ b) * (x + 2 ^ b) := nI_ltI (by omega) (by omega)
    rw [lp_X2_rootOf_5, hxb, if_neg (n_lt0 (by omega)), shl30 b (by omega), orI, hor, Lt_e, pk_mul, n_m1]
    by_cases c : w < (x + 2 ^ b) * (x + 2 ^ b)
    · rw [if_pos (hlt.mpr c)]
      exact root_lp hw b n x (by omega) (by omega) hx0 (by omega) h3 c
    · rw [if_neg (fun z => c (hlt.mp z))]
      refine root_lp hw b n (x + 2 ^ b) (by omega) (by omega) (by rw [Nat.add_mod_right]; exact hx0) (by omega) (Nat.not_lt.mp c) ?_
      rw [Nat.add_assoc, show 2 ^ b + 2 ^ b = 2 ^ (b + 1) by omega]; exact h4
theorem v_root {N w : Nat} (σ : fS) (hN : 200 ≤ N) (hw : w < 2 ^ 30) : ∃ r, g_X2_rootOf N (nI w) σ = some (nI r, σ) ∧ r * r ≤ w ∧ w < (r + 1) * (r + 1) ∧ r < 2 ^ 15 := by
  obtain ⟨r, e, h⟩ := root_lp (N := N) (σ := σ) hw 15 N 0 (by omega) (by omega) (by decide) (by decide) (by omega) (by omega)
  refine ⟨r, ?_, h⟩
  unfold g_X2_rootOf
  rw [show lp_X2_rootOf_5 N (nI w) N 0 14 σ = _ from e, Bd_s]
theorem root_iff {r w : Nat} (h1 : r * r ≤ w) (h2 : w < (r + 1) * (r + 1)) : r * r = w ↔ isSq w := by
  constructor
  · intro h; exact ⟨r, h⟩
  · intro ⟨t, ht⟩
    have a : r ≤ t := Nat.mul_self_le_mul_self_iff.mp (by omega)
    have b : t < r + 1 := Nat.mul_self_lt_mul_self_iff.mp (by omega)
    have : r = t := by omega
    rw [this, ht]
theorem sqT_X {N : Nat} {z : Int} (σ : fS) (hN : 200 ≤ N) (h0 : z ≠ 0) (h1 : z.natAbs < 2 ^ 30) : (isSq (rough z.natAbs) → g_X2_isSquareTimesCore N (zI z) σ = some (1, σ)) ∧ (¬ isSq (rough z.natAbs) → g_X2_isSquareTimesCore N (zI z) σ = some (0, σ)) := by
  have hr : rough z.natAbs ≤ z.natAbs := by
    obtain ⟨s, q, hs, hq, e⟩ := z_dec h0
    have hm : z.natAbs = (coreZ (kindZ z)).natAbs * q := by
      conv => lhs; rw [e]
      rw [Int.natAbs_mul]; rfl
    have hc := cr_bndA (kindZ z) (kindZ_lt z)
    have a : q ≤ z.natAbs := by rw [hm]; exact Nat.le_mul_of_pos_left q (by omega)
    have b : rough z.natAbs ≤ q := by rw [hq]; exact Nat.le_mul_of_pos_right _ (Nat.mul_pos hs hs)
    omega
  obtain ⟨r, e, a, b, c⟩ := v_root (N := N) (w := rough z.natAbs) σ hN (by omega)
  have hi := root_iff a b
  have hrr : r * r < 2 ^ 15 * 2 ^ 15 := Nat.mul_self_lt_mul_self c
  have he : (nI (r * r) = nI (rough z.natAbs)) ↔ r * r = rough z.natAbs := n_eq (by omega) (by omega)
  unfold g_X2_isSquareTimesCore
  rw [v_roughX (by omega) h0 (by omega) (by omega), Bd_s, e, Bd_s, pk_mul]
  exact ⟨fun h => by rw [if_pos (he.mpr (hi.mpr h))], fun h => by rw [if_neg (fun q => h (hi.mp (he.mp q)))]⟩
theorem sqd_lp {N v : Nat} {σ : fS} (hv : v ≤ 16000000) : ∀ (d n x : Nat), x + d = 4000 → d < n → (∀ y, y < x → y * y < v) → ∃ r, lp_X8_isSquared_2 N (nI v) n (nI x) σ = some (nI r, σ) ∧ v ≤ r * r ∧ (∀ y, y < r → y * y < v) ∧ r ≤ 4000
  | 0, n, x, he, hn, h => by
    obtain ⟨n, rfl⟩ : ∃ m, n = m + 1 := ⟨n - 1, by omega⟩
    have : x = 4000 := by omega
    subst this
    refine ⟨4000, ?_, by omega, h, by omega⟩
    rw [lp_X8_isSquared_2, if_pos (show (4000 : Int32) ≤ nI 4000 by decide)]
  | d + 1, n, x, he, hn, h => by
    obtain ⟨n, rfl⟩ : ∃ m, n = m + 1 := ⟨n - 1, by omega⟩
    have hxx : x * x ≤ 4000 * 4000 := Nat.mul_self_le_mul_self (by omega)
    have hle : (nI v ≤ nI (x * x)) ↔ v ≤ x * x := nI_leI (by omega) (by omega)
    rw [lp_X8_isSquared_2, if_neg (show ¬ (4000 : Int32) ≤ nI x from n_le (b := 4000) (by omega) (by omega)), pk_mul, nI_1]
    by_cases c : v ≤ x * x
    · rw [if_pos (hle.mpr c)]
      exact ⟨x, rfl, c, h, by omega⟩
    · rw [if_neg (fun z => c (hle.mp z))]
      refine sqd_lp hv d n (x + 1) (by omega) (by omega) (fun y hy => ?_)
      by_cases c2 : y = x
      · subst c2; omega
      · exact h y (by omega)
theorem sqT_M {N v : Nat} (σ : fS) (hN : 5000 ≤ N) (hv : v ≤ 16000000) : (isSq v → g_X8_isSquared N (nI v) σ = some (1, σ)) ∧ (¬ isSq v → g_X8_isSquared N (nI v) σ = some (0, σ)) := by
  obtain ⟨r, e, a, b, c⟩ := sqd_lp (N := N) (σ := σ) hv 4000 N 0 (by omega) (by omega) (fun y hy => absurd hy (by omega))
  have hrr : r * r ≤ 4000 * 4000 := Nat.mul_self_le_mul_self c
  have hi : r * r = v ↔ isSq v := by
    constructor
    · intro h; exact ⟨r, h⟩
    · intro ⟨t, ht⟩
      have h1 : t ≤ r := Nat.mul_self_le_mul_self_iff.mp (by omega)
      rcases Nat.lt_or_ge t r with h2 | h2
      · have := b t h2; omega
      · have : r = t := by omega
        rw [this, ht]
  have he : (nI (r * r) = nI v) ↔ r * r = v := n_eq (by omega) (by omega)
  unfold g_X8_isSquared
  rw [show lp_X8_isSquared_2 N (nI v) N 0 σ = _ from e, Bd_s, pk_mul]
  exact ⟨fun h => by rw [if_pos (he.mpr (hi.mpr h))], fun h => by rw [if_neg (fun q => h (hi.mp (he.mp q)))]⟩
/-! a TERM changed -/
theorem set_128 {l : List Nat} {i a : Nat} (h : ∀ b ∈ l, b < 128) (ha : a < 128) : ∀ b ∈ l.set i a, b < 128 := by
  intro b hb
  rcases List.mem_or_eq_of_mem_set hb with h1 | h1
  · exact h b h1
  · rw [h1]; exact ha
theorem getD_set {l : List Nat} {i j a : Nat} (hi : i < l.length) : (l.set i a).getD j 0 = if j = i then a else l.getD j 0 := by
  simp only [List.getD_eq_getElem?_getD, List.getElem?_set]
  by_cases c : j = i
  · subst c; simp [hi]
  · rw [if_neg (fun q => c q.symm), if_neg c]
theorem v_change {N k i a : Nat} {σ : fS} {l : List Nat} (h : fr0 σ k l) (hi : i < l.length) (ha : a < 128) : ∃ σ', g_X0_change N k (nI i) (nI a) σ = some σ' ∧ fr0 σ' k (l.set i a) ∧ ag [k + 1] σ σ' := by
  have h4 := h.2.2.1
  refine ⟨sI σ (k + 1) i (nI a), ?_, ⟨?_, fun j hj => ?_, by simpa using h4, set_128 h.2.2.2 ha⟩, ag.sI _ (by simp) _ _⟩
  · unfold g_X0_change
    rw [if_neg (n_lt0 (by omega)), h.1, if_neg (n_le (by omega) hi), if_neg (show ¬ (4 : Int32) ≤ nI i from n_le (b := 4) (by omega) (by omega)), Gd_c (fin_nI (show i < 4 by omega) (by omega)), n_cl (by omega), Lt_e]
  · rw [sI_other _ _ (Or.inl (by omega)), h.1, List.length_set]
  · rw [List.length_set] at hj
    rw [getD_set hi]
    by_cases c : j = i
    · subst c; rw [sI_same, if_pos rfl]
    · rw [sI_other _ _ (Or.inr c), if_neg c]; exact h.2.1 j hj
theorem NW.set {σ : fS} {l : List Nat} {i a : Nat} (h : NW σ l) (hi : i < l.length) (ha : a < 128) : NW (sI σ 82 i (nI a)) (l.set i a) := by
  refine ⟨?_, fun j hj => ?_, by simpa using h.2.2.1, set_128 h.2.2.2 ha⟩
  · rw [sI_other _ _ (Or.inl (by decide)), h.1, List.length_set]
  · rw [List.length_set] at hj
    rw [getD_set hi]
    by_cases c : j = i
    · subst c; rw [sI_same, if_pos rfl]
    · rw [sI_other _ _ (Or.inr c), if_neg c]; exact h.2.1 j hj
theorem tn_b {c p : Int} (h1 : -30030 ≤ c) (h2 : c ≤ 30030) (h3 : 0 ≤ p) (h4 : p ≤ 15) : -6756750 ≤ c * p * p ∧ c * p * p ≤ 6756750 := by
  have e : (c * p * p).natAbs ≤ 30030 * 15 * 15 := by
    rw [Int.natAbs_mul, Int.natAbs_mul]
    exact Nat.mul_le_mul (Nat.mul_le_mul (by omega) (by omega)) (by omega)
  omega
theorem o18 {N : Nat} (hN : 5000 ≤ N) : op_18 INV N := by
  intro x a b y w σ hi
  have hN2 : 200 ≤ N := by omega
  have hi' := hi
  obtain ⟨pg, S, K, n, m, A, M, hw⟩ := hi'
  have hX := hw.2.1
  have hM := hw.2.2.1
  unfold g_X7_turn g_X8_turn
  rcases ht_or S (fun i hi => (hX i hi).1.2.2.1) x a with ⟨i, t, hi8, rfl, rfl, ht⟩ | ⟨e1, e2⟩
  · rcases ht_or S (fun i hi => (hX i hi).1.2.2.1) (nI i) b with ⟨i2, u, hi2, hii, rfl, hu⟩ | ⟨e1, e2⟩
    · have hie : i = i2 := (n_eq (by omega) (by omega)).mp hii
      subst hie
      have h4 := (hX i hi8).1.2.2.1
      rcases in_or y 16 (by omega) with ⟨p, hp, rfl⟩ | ⟨c1, c2⟩
      · rcases in_or w 16 (by omega) with ⟨q, hq, rfl⟩ | ⟨c1, c2⟩
        · have k1 := getD_lt' (hX i hi8).1.2.2.2 t
          have k2 := getD_lt' (hX i hi8).1.2.2.2 u
          have hxx3 : ∀ e, e < (S i).length → (S i).getD e 0 < 128 := fun e _ => getD_lt' (hX i hi8).1.2.2.2 e
          generalize hk1 : (S i).getD t 0 = f1 at k1
          generalize hk2 : (S i).getD u 0 = f2 at k2
          obtain ⟨z, hz⟩ : ∃ z : Int, z = coreZ f1 * p * p + coreZ f2 * q * q := ⟨_, rfl⟩
          have hb1 := cr_bndA f1 k1
          have hb2 := cr_bndA f2 k2
          have hB1 := tn_b (p := (p : Int)) hb1.1 hb1.2.1 (by omega) (by omega)
          have hB2 := tn_b (p := (q : Int)) hb2.1 hb2.2.1 (by omega) (by omega)
          have hzb : z.natAbs ≤ 13513500 := by omega
          have hv : cr f1 * nI p * nI p + cr f2 * nI q * nI q = zI z := by
            unfold cr
            rw [← zI_nat p, ← zI_nat q, zI_mul, zI_mul, zI_mul, zI_mul, zI_add, hz]
          have het : (nI t = nI u) ↔ t = u := n_eq (by omega) (by omega)
          have hez : (zI z = 0) ↔ z = 0 := by rw [z0]; exact zI_eq (by omega) (by omega)
          by_cases ct : t = u
          · refine ⟨-103, σ, σ, ?_, ?_, hi⟩
            · rw [htX_1 hX hi8 ht, Bd_s, if_neg (by decide), htX_1 hX hi8 hu, Bd_s, if_neg (by decide), if_neg (n_lt0 (by omega)), if_neg (show ¬ (15 : Int32) < nI p from Int32.not_lt.mpr (y_le (a := 15) (by omega) (by omega))), if_neg (n_lt0 (by omega)), if_pos (show nI q ≤ (15 : Int32) from y_le (a := 15) (by omega) (by omega)), Gd_c (fin_nI hi8 (by omega)), n_cl (show i < 2 ^ 31 by omega), er3, v_kindAt (hX i hi8).1 ht, Bd_s, hk1, Gd_c (fin_nI hi8 (by omega)), v_kindAt (hX i hi8).1 hu, Bd_s, hk2, v_coreX (by omega) k1, Bd_s, v_coreX (by omega) k2, Bd_s, hv, Lt_e, if_pos (het.mpr ct)]
            · rw [htM_1 hM hi8 ht, Bd_s, if_neg (by decide), htM_1 hM hi8 hu, Bd_s, if_neg (by decide), v_within, if_pos ⟨n_ge0 (by omega), show nI p ≤ (15 : Int32) from y_le (a := 15) (by omega) (by omega)⟩, Bd_s, if_neg (by decide), v_within, if_pos ⟨n_ge0 (by omega), show nI q ≤ (15 : Int32) from y_le (a := 15) (by omega) (by omega)⟩, Bd_s, if_neg (by decide), ix4, Gd_c (fin_nI (show 4 * i + t < 32 by omega) (by omega)), n_cl (show 4 * i + t < 2 ^ 31 by omega), (hM i hi8).1.2.1 t ht, hk1, Lt_e, ix4, Gd_c (fin_nI (show 4 * i + u < 32 by omega) (by omega)), n_cl (show 4 * i + u < 2 ^ 31 by omega), (hM i hi8).1.2.1 u hu, hk2, Lt_e, v_coreM (by omega) k1, Bd_s, v_coreM (by omega) k2, Bd_s, hv, Lt_e, if_pos (het.mpr ct)]
          · have hne : ¬ nI t = nI u := fun z => ct (het.mp z)
            by_cases cz : z = 0
            · refine ⟨-103, σ, σ, ?_, ?_, hi⟩
              · rw [htX_1 hX hi8 ht, Bd_s, if_neg (by decide), htX_1 hX hi8 hu, Bd_s, if_neg (by decide), if_neg (n_lt0 (by omega)), if_neg (show ¬ (15 : Int32) < nI p from Int32.not_lt.mpr (y_le (a := 15) (by omega) (by omega))), if_neg (n_lt0 (by omega)), if_pos (show nI q ≤ (15 : Int32) from y_le (a := 15) (by omega) (by omega)), Gd_c (fin_nI hi8 (by omega)), n_cl (show i < 2 ^ 31 by omega), er3, v_kindAt (hX i hi8).1 ht, Bd_s, hk1, Gd_c (fin_nI hi8 (by omega)), v_kindAt (hX i hi8).1 hu, Bd_s, hk2, v_coreX (by omega) k1, Bd_s, v_coreX (by omega) k2, Bd_s, hv, Lt_e, if_neg hne, if_pos (hez.mpr cz)]
              · rw [htM_1 hM hi8 ht, Bd_s, if_neg (by decide), htM_1 hM hi8 hu, Bd_s, if_neg (by decide), v_within, if_pos ⟨n_ge0 (by omega), show nI p ≤ (15 : Int32) from y_le (a := 15) (by omega) (by omega)⟩, Bd_s, if_neg (by decide), v_within, if_pos ⟨n_ge0 (by omega), show nI q ≤ (15 : Int32) from y_le (a := 15) (by omega) (by omega)⟩, Bd_s, if_neg (by decide), ix4, Gd_c (fin_nI (show 4 * i + t < 32 by omega) (by omega)), n_cl (show 4 * i + t < 2 ^ 31 by omega), (hM i hi8).1.2.1 t ht, hk1, Lt_e, ix4, Gd_c (fin_nI (show 4 * i + u < 32 by omega) (by omega)), n_cl (show 4 * i + u < 2 ^ 31 by omega), (hM i hi8).1.2.1 u hu, hk2, Lt_e, v_coreM (by omega) k1, Bd_s, v_coreM (by omega) k2, Bd_s, hv, Lt_e, if_neg hne, if_pos (hez.mpr cz)]
            · have hzn : ¬ zI z = 0 := fun q => cz (hez.mp q)
              obtain ⟨s, Q, hs, hQ, hzd⟩ := z_dec cz
              have hkl := kindZ_lt z
              have hcb := cr_bndA (kindZ z) hkl
              have hQb : Q ≤ 16000000 := by
                have hm : z.natAbs = (coreZ (kindZ z)).natAbs * Q := by
                  conv => lhs; rw [hzd]
                  rw [Int.natAbs_mul]; rfl
                have : Q ≤ z.natAbs := by rw [hm]; exact Nat.le_mul_of_pos_left Q (by omega)
                omega
              have hkX : ∀ s, g_X2_kindOf N (zI z) s = some (nI (kindZ z), s) := fun s => v_kindX (by omega) cz (by omega) (by omega) s
              have hkM : ∀ s, g_X8_kindOf N (zI z) s = some (nI (kindZ z), s) := fun s => v_kindM (by omega) cz (by omega) (by omega) s
              have hnz : nz (cr (kindZ z)) = true := by
                have h1 : cr (kindZ z) ≠ 0 := fun q => hcb.2.2 ((zI_eq (by omega) (by omega)).mp (q.trans z0))
                simpa [nz] using h1
              have hdv : zI z / cr (kindZ z) = nI Q := by
                unfold cr
                rw [zI_div (by omega) (by omega), ← zI_nat]
                congr 1
                have h1 := hcb.2.2
                generalize coreZ (kindZ z) = c at hzd h1
                rw [hzd]; exact Int.mul_tdiv_cancel_left _ h1
              have hst := sqT_X (N := N) (z := z) (hN := hN2) (h0 := cz) (h1 := by omega)
              have hsm := sqT_M (N := N) (v := Q) (hN := hN) (hv := hQb)
              have hiff : isSq Q ↔ isSq (rough z.natAbs) := by rw [hQ]; exact sq_mul hs
              by_cases cs : isSq (rough z.natAbs)
              · obtain ⟨s1, g1, c1, c2, c3, c4, a1⟩ := v_copy (N := N) (σ := σ) (k := 4) (k1 := 21 + 2 * i) hN2 (by omega)
                have d1 := (frK_copy (hX i hi8) c1 c2 c3 c4).1
                obtain ⟨s2, g2, d2, a2⟩ := v_change (N := N) d1 ht hkl
                have hx2 : f1 ^^^ f2 ^^^ kindZ z < 128 := xor_lt7 (xor_lt7 k1 k2) hkl
                obtain ⟨s3, g3, d3, a3⟩ := v_change (N := N) d2 (by rw [List.length_set]; exact hu) hx2
                have a13 : ag [4, 5] σ s3 := (a1.tr (a2.mono (by simp))).tr (a3.mono (by simp))
                obtain ⟨s4, g4, x4, m4, f⟩ := stepN hN2 hi8 hw (qA.x a13 (by decide) (by decide)) (hM.ag a13 (by decide)) d3
                obtain ⟨t1, j1, n1, b1, p1⟩ := v_take hN2 hi8 m4
                have n2 := n1.set ht hkl
                have n3 := n2.set (by rw [List.length_set]; exact hu) hx2
                have b2 : ag [61, 82] t1 (sI t1 82 t (nI (kindZ z))) := ag.sI _ (by simp) _ _
                have b3 : ag [61, 82] (sI t1 82 t (nI (kindZ z))) (sI (sI t1 82 t (nI (kindZ z))) 82 u (nI (f1 ^^^ f2 ^^^ kindZ z))) := ag.sI _ (by simp) _ _
                have b13 := (b1.tr b2).tr b3
                have p3 : ∀ j, j ≠ 28 → (sI (sI t1 82 t (nI (kindZ z))) 82 u (nI (f1 ^^^ f2 ^^^ kindZ z))).1 61 j = s4.1 61 j := fun j hj => by
                  rw [sI_other _ _ (Or.inl (by decide)), sI_other _ _ (Or.inl (by decide))]; exact p1 j hj
                obtain ⟨s6, g6, i6, m6⟩ := f _ (qA.w b13 p3) n3 (msW m4 b13)
                refine ⟨cr (kindZ z), s4, s6, ?_, ?_, i6⟩
                · rw [htX_1 hX hi8 ht, Bd_s, if_neg (by decide), htX_1 hX hi8 hu, Bd_s, if_neg (by decide), if_neg (n_lt0 (by omega)), if_neg (show ¬ (15 : Int32) < nI p from Int32.not_lt.mpr (y_le (a := 15) (by omega) (by omega))), if_neg (n_lt0 (by omega)), if_pos (show nI q ≤ (15 : Int32) from y_le (a := 15) (by omega) (by omega)), Gd_c (fin_nI hi8 (by omega)), n_cl (show i < 2 ^ 31 by omega), er3, v_kindAt (hX i hi8).1 ht, Bd_s, hk1, Gd_c (fin_nI hi8 (by omega)), v_kindAt (hX i hi8).1 hu, Bd_s, hk2, v_coreX (by omega) k1, Bd_s, v_coreX (by omega) k2, Bd_s, hv, Lt_e, if_neg hne, if_neg hzn, (hst σ).1 cs, Bd_s, if_neg (by decide), hkX, Bd_s, Gd_c (fin_nI hi8 (by omega)), g1, Bv_s, g2, Bv_s, xorI, xorI, g3, Bv_s, g4, Bv_s, v_coreX (by omega) hkl, Bd_s]
                · rw [htM_1 m4 hi8 ht, Bd_s, if_neg (by decide), htM_1 m4 hi8 hu, Bd_s, if_neg (by decide), v_within, if_pos ⟨n_ge0 (by omega), show nI p ≤ (15 : Int32) from y_le (a := 15) (by omega) (by omega)⟩, Bd_s, if_neg (by decide), v_within, if_pos ⟨n_ge0 (by omega), show nI q ≤ (15 : Int32) from y_le (a := 15) (by omega) (by omega)⟩, Bd_s, if_neg (by decide), ix4, Gd_c (fin_nI (show 4 * i + t < 32 by omega) (by omega)), n_cl (show 4 * i + t < 2 ^ 31 by omega), (m4 i hi8).1.2.1 t ht, hk1, Lt_e, ix4, Gd_c (fin_nI (show 4 * i + u < 32 by omega) (by omega)), n_cl (show 4 * i + u < 2 ^ 31 by omega), (m4 i hi8).1.2.1 u hu, hk2, Lt_e, v_coreM (by omega) k1, Bd_s, v_coreM (by omega) k2, Bd_s, hv, Lt_e, if_neg hne, if_neg hzn, hkM, Bd_s, v_coreM (by omega) hkl, Bd_s, Gd_c hnz, hdv, (hsm s4).1 (hiff.mpr cs), Bd_s, if_neg (by decide), j1, Bv_s, hkM, Bd_s, Gd_c (fin_nI (show t < 4 by omega) (by omega)), n_cl (show t < 2 ^ 31 by omega), Lt_e, hkM, Bd_s, Gd_c (fin_nI (show u < 4 by omega) (by omega)), n_cl (show u < 2 ^ 31 by omega), xorI, xorI, Lt_e, g6, Bd_s, hkM, Bd_s, v_coreM (by omega) hkl, Bd_s]
              · refine ⟨-103, σ, σ, ?_, ?_, hi⟩
                · rw [htX_1 hX hi8 ht, Bd_s, if_neg (by decide), htX_1 hX hi8 hu, Bd_s, if_neg (by decide), if_neg (n_lt0 (by omega)), if_neg (show ¬ (15 : Int32) < nI p from Int32.not_lt.mpr (y_le (a := 15) (by omega) (by omega))), if_neg (n_lt0 (by omega)), if_pos (show nI q ≤ (15 : Int32) from y_le (a := 15) (by omega) (by omega)), Gd_c (fin_nI hi8 (by omega)), n_cl (show i < 2 ^ 31 by omega), er3, v_kindAt (hX i hi8).1 ht, Bd_s, hk1, Gd_c (fin_nI hi8 (by omega)), v_kindAt (hX i hi8).1 hu, Bd_s, hk2, v_coreX (by omega) k1, Bd_s, v_coreX (by omega) k2, Bd_s, hv, Lt_e, if_neg hne, if_neg hzn, (hst σ).2 cs, Bd_s, if_pos rfl]
                · rw [htM_1 hM hi8 ht, Bd_s, if_neg (by decide), htM_1 hM hi8 hu, Bd_s, if_neg (by decide), v_within, if_pos ⟨n_ge0 (by omega), show nI p ≤ (15 : Int32) from y_le (a := 15) (by omega) (by omega)⟩, Bd_s, if_neg (by decide), v_within, if_pos ⟨n_ge0 (by omega), show nI q ≤ (15 : Int32) from y_le (a := 15) (by omega) (by omega)⟩, Bd_s, if_neg (by decide), ix4, Gd_c (fin_nI (show 4 * i + t < 32 by omega) (by omega)), n_cl (show 4 * i + t < 2 ^ 31 by omega), (hM i hi8).1.2.1 t ht, hk1, Lt_e, ix4, Gd_c (fin_nI (show 4 * i + u < 32 by omega) (by omega)), n_cl (show 4 * i + u < 2 ^ 31 by omega), (hM i hi8).1.2.1 u hu, hk2, Lt_e, v_coreM (by omega) k1, Bd_s, v_coreM (by omega) k2, Bd_s, hv, Lt_e, if_neg hne, if_neg hzn, hkM, Bd_s, v_coreM (by omega) hkl, Bd_s, Gd_c hnz, hdv, (hsm σ).2 (fun q => cs (hiff.mp q)), Bd_s, if_pos rfl]
        · refine ⟨-102, σ, σ, ?_, ?_, hi⟩
          · rw [htX_1 hX hi8 ht, Bd_s, if_neg (by decide), htX_1 hX hi8 hu, Bd_s, if_neg (by decide), if_neg (n_lt0 (by omega)), if_neg (show ¬ (15 : Int32) < nI p from Int32.not_lt.mpr (y_le (a := 15) (by omega) (by omega)))]
            rcases c1 with c | ⟨c, c'⟩
            · rw [if_pos c]
            · rw [if_neg c, if_neg (show ¬ w ≤ (15 : Int32) from fun z => c2 ⟨Int32.not_lt.mp c, z⟩)]
          · rw [htM_1 hM hi8 ht, Bd_s, if_neg (by decide), htM_1 hM hi8 hu, Bd_s, if_neg (by decide), v_within, if_pos ⟨n_ge0 (by omega), show nI p ≤ (15 : Int32) from y_le (a := 15) (by omega) (by omega)⟩, Bd_s, if_neg (by decide), v_within, if_neg (show ¬ ((0 : Int32) ≤ w ∧ w ≤ 15) from c2), Bd_s, if_pos rfl]
      · refine ⟨-102, σ, σ, ?_, ?_, hi⟩
        · rw [htX_1 hX hi8 ht, Bd_s, if_neg (by decide), htX_1 hX hi8 hu, Bd_s, if_neg (by decide)]
          rcases c1 with c | ⟨c, c'⟩
          · rw [if_pos c]
          · rw [if_neg c, if_pos (show (15 : Int32) < y from Int32.not_le.mp (fun z => c2 ⟨Int32.not_lt.mp c, z⟩))]
        · rw [htM_1 hM hi8 ht, Bd_s, if_neg (by decide), htM_1 hM hi8 hu, Bd_s, if_neg (by decide), v_within, if_neg (show ¬ ((0 : Int32) ≤ y ∧ y ≤ 15) from c2), Bd_s, if_pos rfl]
    · refine ⟨-101, σ, σ, ?_, ?_, hi⟩
      · rw [htX_1 hX hi8 ht, Bd_s, if_neg (by decide), e1 N σ hX, Bd_s, if_pos rfl]
      · rw [htM_1 hM hi8 ht, Bd_s, if_neg (by decide), e2 N σ hM, Bd_s, if_pos rfl]
  · refine ⟨-101, σ, σ, ?_, ?_, hi⟩
    · rw [e1 N σ hX, Bd_s, if_pos rfl]
    · rw [e2 N σ hM, Bd_s, if_pos rfl]
