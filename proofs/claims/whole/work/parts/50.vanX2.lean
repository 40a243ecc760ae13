/-! the class at an odd PRIME: counting, and the product by the PRIME -/
def rs (j i : Nat) : Int := (i : Int) - (pAt j - 1 : Nat)
def rOk (j : Nat) (r : Int) : Prop := -(pAt j : Int) < r ∧ r < pAt j ∧ r % (pAt j : Int) ≠ 0
def mulB (j : Nat) : Bool := (List.range (2 * pAt j - 1)).all fun i => decide (rs j i % (pAt j : Int) = 0) || (List.range 128).all fun k => decide (-(pAt j : Int) < (rs j i * cpz j k).tmod (pAt j) ∧ (rs j i * cpz j k).tmod (pAt j) < pAt j ∧ (rs j i * cpz j k).tmod (pAt j) % (pAt j : Int) ≠ 0) && (chi j ((rs j i * cpz j k).tmod (pAt j)) == (chi j (rs j i) == chi j (cpz j k)))
theorem mulB_A : ∀ j, j < 7 → 2 ≤ j → mulB j = true := by decide +kernel
theorem mul_A (j : Nat) (hj : j < 7) (h2 : 2 ≤ j) (i : Nat) (hi : i < 2 * pAt j - 1) (h0 : rs j i % (pAt j : Int) ≠ 0) (k : Nat) (hk : k < 128) : (-(pAt j : Int) < (rs j i * cpz j k).tmod (pAt j) ∧ (rs j i * cpz j k).tmod (pAt j) < pAt j ∧ (rs j i * cpz j k).tmod (pAt j) % (pAt j : Int) ≠ 0) ∧ chi j ((rs j i * cpz j k).tmod (pAt j)) = (chi j (rs j i) == chi j (cpz j k)) := by
  have h := List.all_eq_true.mp (mulB_A j hj h2) i (List.mem_range.mpr hi)
  rw [Bool.or_eq_true] at h
  rcases h with h | h
  · exact absurd (of_decide_eq_true h) h0
  · have h1 := List.all_eq_true.mp h k (List.mem_range.mpr hk)
    rw [Bool.and_eq_true] at h1
    exact ⟨of_decide_eq_true h1.1, eq_of_beq h1.2⟩
theorem rs_of {j : Nat} {r : Int} (h : rOk j r) : ∃ i, i < 2 * pAt j - 1 ∧ r = rs j i := by
  have hp := pAt_ge j
  refine ⟨(r + (pAt j - 1 : Nat)).toNat, ?_, ?_⟩
  · have := h.1; have := h.2.1; omega
  · unfold rs; have := h.1; omega
theorem mul_chi {j : Nat} (hj : j < 7) (h2 : 2 ≤ j) {r : Int} (h : rOk j r) {k : Nat} (hk : k < 128) : rOk j ((r * cpz j k).tmod (pAt j)) ∧ chi j ((r * cpz j k).tmod (pAt j)) = (chi j r == chi j (cpz j k)) := by
  obtain ⟨i, hi, rfl⟩ := rs_of h
  exact mul_A j hj h2 i hi h.2.2 k hk
theorem sq_A : ∀ j, j < 7 → 2 ≤ j → ∀ i, i < 2 * pAt j - 1 → rs j i % (pAt j : Int) ≠ 0 → ((((f_Sq j) >>> (iR (nI (pAt j) - zI (rs j i)) (nI (pAt j)) &&& (31 : Int32))) &&& (1 : Int32)) = (1 : Int32) ↔ (chi j (rs j i) == chi j (-1)) = true) := by decide +kernel
theorem in_A1 : ∀ j, j < 7 → 2 ≤ j → ∀ k, k < 128 → (iR (cr k) (nI (pAt j)) = 0 ↔ k.testBit j = true) := by decide +kernel
theorem in_A2 : ∀ j, j < 7 → 2 ≤ j → ∀ k, k < 128 → (if k.testBit j then cr k / nI (pAt j) else cr k) = zI (cpz j k) := by decide +kernel
theorem in_A3 : ∀ j, j < 7 → 2 ≤ j → ∀ k, k < 128 → -30030 ≤ cpz j k ∧ cpz j k ≤ 30030 := by decide +kernel
theorem in_A (j : Nat) (hj : j < 7) (h2 : 2 ≤ j) (k : Nat) (hk : k < 128) : (iR (cr k) (nI (pAt j)) = 0 ↔ k.testBit j = true) ∧ (k.testBit j = true → cr k / nI (pAt j) = zI (cpz j k)) ∧ (k.testBit j = false → cr k = zI (cpz j k)) ∧ (-30030 ≤ cpz j k ∧ cpz j k ≤ 30030) := by
  have h := in_A2 j hj h2 k hk
  refine ⟨in_A1 j hj h2 k hk, fun z => ?_, fun z => ?_, in_A3 j hj h2 k hk⟩
  · rw [if_pos z] at h; exact h
  · rw [if_neg (by rw [z]; decide)] at h; exact h
def pick (w : Bool) (a : (Nat × Bool) × (Nat × Bool)) : Nat × Bool := if w then a.2 else a.1
theorem pick_dlt (j k : Nat) (w : Bool) (a : (Nat × Bool) × (Nat × Bool)) : pick w (dlt j k a) = if k.testBit j = w then adp (pick w a) (chi j (cpz j k)) else pick w a := by
  unfold pick dlt
  cases w <;> cases k.testBit j <;> simp
def pJ (j c : Nat) (r : Int) (a : Nat × Bool) : Prop := a.1 = min c 3 ∧ (c ≤ 2 → a.2 = chi j r) ∧ rOk j r ∧ c ≤ 5
theorem ab_snoc (j : Nat) (ks : List Nat) (k : Nat) : ab j (ks ++ [k]) = dlt j k (ab j ks) := by
  unfold ab; rw [List.foldl_append]; rfl
theorem chi_1 : ∀ j, j < 7 → 2 ≤ j → chi j 1 = true := by decide +kernel
theorem adp_1 (q : Nat × Bool) (t : Bool) (c : Nat) (h : q.1 = min c 3) (hs : c = 0 → q.2 = true) : (adp q t).1 = min (c + 1) 3 ∧ (c ≤ 1 → (adp q t).2 = (q.2 == t)) := by
  obtain ⟨q1, q2⟩ := q
  dsimp only at h hs
  subst h
  match c with
  | 0 => rw [hs rfl]; cases t <;> exact ⟨rfl, fun _ => rfl⟩
  | 1 => exact ⟨rfl, fun _ => rfl⟩
  | 2 => exact ⟨rfl, fun z => absurd z (by omega)⟩
  | c + 3 =>
    have e1 : min (c + 3) 3 = 3 := by omega
    have e2 : min (c + 3 + 1) 3 = 3 := by omega
    rw [e1, e2]
    exact ⟨rfl, fun z => absurd z (by omega)⟩
set_option maxHeartbeats 4000000 in
theorem part_step {N n j i c : Nat} {r : Int} {σ : fS} {ks : List Nat} (w : Bool) (p1 : Int32) (hj : j < 7) (h2 : 2 ≤ j) (hl : sm σ ks) (hi : i < ks.length) (hr : rOk j r) (hc : c ≤ 5) :
    lp_X6_partVanishes_38 N p1 (bI w) (nI (pAt j)) (n + 1) (nI c) (zI r) (nI i) σ = lp_X6_partVanishes_38 N p1 (bI w) (nI (pAt j)) n (nI (if (ks.getD i 0).testBit j = w then c + 1 else c)) (zI (if (ks.getD i 0).testBit j = w then (r * cpz j (ks.getD i 0)).tmod (pAt j) else r)) (nI (i + 1)) σ := by
  have h5 := hl.2.2.1
  have hk := getD_lt hl.2.2.2 hi
  obtain ⟨a1, a2, a3, a4⟩ := in_A j hj h2 _ hk
  have hp := pAt_ge j
  have hp2 := pAt_le j
  have hnz : nz (nI (pAt j)) = true := nz_nI (by omega) (by omega)
  rw [lp_X6_partVanishes_38, hl.1, if_neg (by rw [nI_leI (by omega) (by omega)]; omega), if_neg (show ¬ (5 : Int32) ≤ nI i by show ¬ nI 5 ≤ nI i; rw [nI_leI (by omega) (by omega)]; omega), nI_clamp (show i < 2 ^ 31 by omega), Gd_c (fin_nI (show i < 5 by omega) (by omega)), hl.2.1 i hi, Lt_e]
  simp only [Gd_c hnz]
  have hrz : ∀ z : Int, -30030 ≤ z ∧ z ≤ 30030 → -2147483648 < r * z ∧ r * z < 2147483648 := by
    intro z hz
    have h1 := hr.1
    have h3 := hr.2.1
    have b1 : r.natAbs ≤ 13 := by omega
    have b2 : z.natAbs ≤ 30030 := by omega
    have b3 : (r * z).natAbs ≤ 13 * 30030 := by rw [Int.natAbs_mul]; exact Nat.mul_le_mul b1 b2
    omega
  have er : iR (zI r * zI (cpz j (ks.getD i 0))) (nI (pAt j)) = zI ((r * cpz j (ks.getD i 0)).tmod (pAt j)) := by
    rw [zI_mul, ← zI_nat, zI_rem (hrz _ a4) (by omega)]
  have hn1 : nI c + (1 : Int32) = nI (c + 1) := nI_1 c
  cases hb : (ks.getD i 0).testBit j
  · have n0 : ¬ iR (cr (ks.getD i 0)) (nI (pAt j)) = 0 := fun z => by have := a1.mp z; rw [hb] at this; cases this
    cases w
    · rw [if_pos (show bI false = 0 from rfl), if_neg n0, Bd_s, if_neg (by decide), if_pos (show bI false = 0 from rfl), if_pos rfl, if_pos rfl, a3 hb, er, Lt_e, hn1, nI_1]
    · rw [if_neg (show ¬ bI true = 0 by decide), if_neg n0, Bd_s, if_pos rfl, if_neg (by decide), if_neg (by decide), nI_1]
  · have y0 : iR (cr (ks.getD i 0)) (nI (pAt j)) = 0 := a1.mpr hb
    cases w
    · rw [if_pos (show bI false = 0 from rfl), if_pos y0, Bd_s, if_pos rfl, if_neg (by decide), if_neg (by decide), nI_1]
    · rw [if_neg (show ¬ bI true = 0 by decide), if_pos y0, Bd_s, if_neg (by decide), if_neg (show ¬ bI true = 0 by decide), if_pos rfl, if_pos rfl, a2 hb, er, Lt_e, hn1, nI_1]
theorem part_X {N j : Nat} {σ : fS} {ks : List Nat} (w : Bool) (hN : 200 ≤ N) (hj : j < 7) (h2 : 2 ≤ j) (hl : sm σ ks) : g_X6_partVanishes N (nI j) (bI w) σ = some (bI (dp j (pick w (ab j ks))), σ) := by
  have h5 := hl.2.2.1
  have hp := pAt_ge j
  have hp2 := pAt_le j
  obtain ⟨s, ⟨c, r, hs, hJ⟩, e⟩ := lpU (fun n x (s : (Int32 × Int32) × fS) => lp_X6_partVanishes_38 N (nI j) (bI w) (nI (pAt j)) n s.1.1 s.1.2 x s.2) ks.length (fun i s => ∃ (c : Nat) (r : Int), s = ((nI c, zI r), σ) ∧ pJ j c r (pick w (ab j (ks.take i))) ∧ (c = 0 → (pick w (ab j (ks.take i))).2 = true) ∧ c ≤ i) id (by
    intro n i s hi ⟨c, r, hs, ⟨q1, q2, q3, q4⟩, q5, q6⟩
    subst hs
    have hk := getD_lt hl.2.2.2 hi
    refine ⟨((nI (if (ks.getD i 0).testBit j = w then c + 1 else c), zI (if (ks.getD i 0).testBit j = w then (r * cpz j (ks.getD i 0)).tmod (pAt j) else r)), σ), ⟨_, _, rfl, ?_⟩, part_step w (nI j) hj h2 hl hi q3 q4⟩
    rw [take_snoc hi, ab_snoc, pick_dlt]
    by_cases hw : (ks.getD i 0).testBit j = w
    · rw [if_pos hw, if_pos hw, if_pos hw]
      obtain ⟨m1, m2⟩ := mul_chi hj h2 q3 hk
      obtain ⟨d1, d2⟩ := adp_1 (pick w (ab j (ks.take i))) (chi j (cpz j (ks.getD i 0))) c q1 q5
      refine ⟨⟨d1, fun hc => ?_, m1, by omega⟩, fun hc => absurd hc (by omega), by omega⟩
      rw [d2 (by omega), m2, q2 (by omega)]
    · rw [if_neg hw, if_neg hw, if_neg hw]
      exact ⟨⟨q1, q2, q3, q4⟩, q5, by omega⟩) (by
    intro n s ⟨c, r, hs, _⟩
    subst hs
    show lp_X6_partVanishes_38 N (nI j) (bI w) (nI (pAt j)) (n + 1) _ _ (nI ks.length) σ = _
    rw [lp_X6_partVanishes_38, hl.1, if_pos (by rw [nI_leI (by omega) (by omega)]; exact Nat.le_refl _)]; rfl) ks.length N 0 ((0, 1), σ) (by omega) (by omega) ⟨0, 1, rfl, ⟨by cases w <;> rfl, fun _ => by rw [chi_1 j hj h2]; cases w <;> rfl, ⟨by omega, by omega, by rw [Int.emod_eq_of_lt (by omega) (by omega)]; decide⟩, by omega⟩, fun _ => by cases w <;> rfl, by omega⟩
  subst hs
  obtain ⟨⟨q1, q2, q3, q4⟩, q5, q6⟩ := hJ
  rw [List.take_length] at q1 q2 q5
  have hlt : ∀ m : Nat, m < 7 → 2 ≤ m → ¬ nI m < (2 : Int32) ∧ ¬ (7 : Int32) ≤ nI m ∧ nI m < (7 : Int32) := by decide +kernel
  obtain ⟨l1, l2, l3⟩ := hlt j hj h2
  unfold g_X6_partVanishes
  rw [if_neg l1, if_neg l2, if_pos l3, nI_clamp (show j < 2 ^ 31 by omega), Gd_c (fin_nI hj (by omega)), Lt_e, f_B_A j (by omega) hj, show lp_X6_partVanishes_38 N (nI j) (bI w) (nI (pAt j)) N 0 1 0 σ = some ((nI c, zI r), σ) from e, Bd_s]
  simp only [Gd_c (nz_nI (show 0 < pAt j by omega) (show pAt j < 2 ^ 31 by omega)), Gd_c (fin_nI hj (show 7 < 2 ^ 31 by omega)), Lt_e]
  obtain ⟨i, hi, hri⟩ := rs_of q3
  have hsq := sq_A j hj h2 i hi (by rw [← hri]; exact q3.2.2)
  rw [← hri] at hsq
  have c2 : ((2 : Int32) < nI c) ↔ 2 < c := by show nI 2 < nI c ↔ _; exact nI_ltI (by omega) (by omega)
  have c3 : (nI c = (2 : Int32)) ↔ c = 2 := by show nI c = nI 2 ↔ _; exact nI_eq (by omega) (by omega)
  unfold dp
  rw [q1]
  by_cases h3 : 2 < c
  · rw [if_pos (c2.mpr h3), show min c 3 = 3 by omega]; rfl
  · rw [if_neg (fun z => h3 (c2.mp z))]
    by_cases h4 : c = 2
    · rw [if_pos (c3.mpr h4), q2 (by omega), h4]
      by_cases h6 : (chi j r == chi j (-1)) = true
      · rw [if_pos (hsq.mpr h6), h6]; rfl
      · rw [if_neg (fun z => h6 (hsq.mp z))]
        have h7 : (chi j r == chi j (-1)) = false := by cases hx : (chi j r == chi j (-1)) with
          | true => exact absurd hx h6
          | false => rfl
        rw [h7]; rfl
    · rw [if_neg (fun z => h4 (c3.mp z))]
      have : min c 3 = 0 ∨ min c 3 = 1 := by omega
      rcases this with h | h <;> rw [h] <;> rfl
theorem v_barsX {N : Nat} {σ : fS} {ks : List Nat} (hN : 200 ≤ N) (hl : sm σ ks) : g_X6_bars N σ = some (nI (barsL ks), σ) := by
  have st : ∀ (n i m : Nat), 2 ≤ i → i < 7 → lp_X6_bars_30 N (n + 1) (nI m) (nI i) σ = lp_X6_bars_30 N n (nI (if vz i ks then m else m ||| 2 ^ i)) (nI (i + 1)) σ := by
    intro n i m h2 hi
    rw [lp_X6_bars_30, if_neg (lpI_7 hi), show (0 : Int32) = bI false from rfl, part_X false hN hi h2 hl, Bd_s, show (1 : Int32) = bI true from rfl, part_X true hN hi h2 hl, Bd_s, show bI true <<< (nI i &&& (31 : Int32)) = nI (2 ^ i) from shl_A i hi, orI, show bI false = (0 : Int32) from rfl, or0, show nI i + bI true = nI (i + 1) from nI_1 i, vz_odd hi h2 hl.2.2.2]
    show _ = lp_X6_bars_30 N n (nI (if (dp i (pick false (ab i ks)) || dp i (pick true (ab i ks))) then m else m ||| 2 ^ i)) (nI (i + 1)) σ
    cases dp i (pick false (ab i ks)) <;> cases dp i (pick true (ab i ks)) <;> rfl
  have key : ∀ (M m : Nat), 8 ≤ M → lp_X6_bars_30 N M (nI m) (nI 2) σ = some (nI ([2, 3, 4, 5, 6].foldl (fun a j => if vz j ks then a else a ||| 2 ^ j) m), σ) := by
    intro M m hM
    obtain ⟨x, rfl⟩ : ∃ x, M = x + 1 + 1 + 1 + 1 + 1 + 1 := ⟨M - 6, by omega⟩
    rw [st _ 2 _ (by decide) (by decide), st _ 3 _ (by decide) (by decide), st _ 4 _ (by decide) (by decide), st _ 5 _ (by decide) (by decide), st _ 6 _ (by decide) (by decide), lp_X6_bars_30, if_pos (by decide)]
    rfl
  unfold g_X6_bars
  rw [real_X hN hl, Bd_s]
  have t0 : (Bd (if bI (vz 0 ks) = 0 then some ((1 : Int32), σ) else some ((0 : Int32), σ)) : ((Int32 → fS → Option (Int32 × fS)) → Option (Int32 × fS))) = fun k => k (nI (if vz 0 ks then 0 else 1)) σ := by
    funext k; cases vz 0 ks <;> rfl
  rw [t0]
  dsimp only
  rw [two_X hN hl, Bd_s]
  have t1 : (Bd (if bI (vz 1 ks) = 0 then some ((2 : Int32), σ) else some ((0 : Int32), σ)) : ((Int32 → fS → Option (Int32 × fS)) → Option (Int32 × fS))) = fun k => k (nI (if vz 1 ks then 0 else 2)) σ := by
    funext k; cases vz 1 ks <;> rfl
  rw [t1]
  dsimp only
  rw [Lt_e, orI, show (2 : Int32) = nI 2 from rfl, key N _ (by omega), Bd_s]
  have hb : [2, 3, 4, 5, 6].foldl (fun a j => if vz j ks then a else a ||| 2 ^ j) ((if vz 0 ks then 0 else 1) ||| (if vz 1 ks then 0 else 2)) = barsL ks := by
    unfold barsL
    rw [show List.range 7 = [0, 1, 2, 3, 4, 5, 6] from rfl]
    simp only [List.foldl_cons, List.foldl_nil]
    cases vz 0 ks <;> cases vz 1 ks <;> rfl
  rw [hb]
