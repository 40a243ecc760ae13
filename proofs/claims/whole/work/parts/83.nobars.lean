/-! where a row comes to nothing there are no BARS -/
theorem sgn_A : ∀ k, k < 128 → (k.testBit 0 = true → coreZ k < 0) ∧ (k.testBit 0 = false → 0 < coreZ k) := by decide +kernel
theorem sq_pos {c : Int} {x : Nat} (hc : 0 < c) : 0 ≤ c * (x : Int) * (x : Int) ∧ (c * (x : Int) * (x : Int) = 0 → x = 0) := by
  have h1 : 0 ≤ c * (x : Int) := Int.mul_nonneg (by omega) (by omega)
  refine ⟨Int.mul_nonneg h1 (by omega), fun h => ?_⟩
  rcases Int.mul_eq_zero.mp h with z | z
  · rcases Int.mul_eq_zero.mp z with w | w <;> omega
  · omega
theorem smF_pos {c : Nat → Int} {s : Nat → Nat} : ∀ {n : Nat}, (∀ i, i < n → 0 < c i) → 0 ≤ smF c n s ∧ (smF c n s = 0 → ∀ i, i < n → s i = 0)
  | 0, _ => ⟨by show (0 : Int) ≤ 0; omega, fun _ i hi => absurd hi (by omega)⟩
  | n + 1, h => by
    obtain ⟨h1, h2⟩ := smF_pos (c := c) (s := s) (n := n) (fun i hi => h i (by omega))
    obtain ⟨h3, h4⟩ := sq_pos (x := s n) (h n (by omega))
    show 0 ≤ smF c n s + c n * (s n : Int) * (s n : Int) ∧ (smF c n s + c n * (s n : Int) * (s n : Int) = 0 → _)
    refine ⟨by omega, fun h5 i hi => ?_⟩
    by_cases ci : i = n
    · rw [ci]; exact h4 (by omega)
    · exact h2 (by omega) i (by omega)
theorem smF_neg (c : Nat → Int) (s : Nat → Nat) : ∀ n, smF (fun i => -c i) n s = -smF c n s
  | 0 => rfl
  | n + 1 => by
    show smF (fun i => -c i) n s + -c n * (s n : Int) * (s n : Int) = -(smF c n s + c n * (s n : Int) * (s n : Int))
    rw [smF_neg c s n, Int.neg_mul, Int.neg_mul]; omega
theorem real_vz {ks : List Nat} {s : Nat → Nat} (h : ∀ k ∈ ks, k < 128) (h0 : smF (cL ks) ks.length s = 0) (h1 : ∃ i, i < ks.length ∧ s i ≠ 0) : vz 0 ks = true := by
  obtain ⟨i, hi, hs⟩ := h1
  unfold vz
  rw [if_pos rfl, Bool.and_eq_true]
  constructor
  · cases hb : ks.any (fun k => !k.testBit 0)
    · exfalso
      have hall : ∀ k ∈ ks, k.testBit 0 = true := by
        intro k hk
        have := List.any_eq_false.mp hb k hk
        simpa using this
      have hc : ∀ i, i < ks.length → 0 < (fun i => -cL ks i) i := fun j hj => by
        have := (sgn_A _ (getD_lt' h j)).1 (hall _ (gd_mem hj))
        show 0 < -coreZ (ks.getD j 0)
        omega
      have := (smF_pos (s := s) hc).2 (by rw [smF_neg, h0]; rfl) i hi
      exact hs this
    · rfl
  · cases hb : ks.any (fun k => k.testBit 0)
    · exfalso
      have hall : ∀ k ∈ ks, k.testBit 0 = false := by
        intro k hk
        have := List.any_eq_false.mp hb k hk
        simpa using this
      have hc : ∀ i, i < ks.length → 0 < cL ks i := fun j hj => (sgn_A _ (getD_lt' h j)).2 (hall _ (gd_mem hj))
      have := (smF_pos (s := s) hc).2 h0 i hi
      exact hs this
    · rfl
/-! at a PRIME -/
theorem smF_sc (c : Nat → Int) (p : Nat) (s r : Nat → Nat) : ∀ n, (∀ i, i < n → s i = p * r i) → smF c n s = (p : Int) * (p : Int) * smF c n r
  | 0, _ => by show (0 : Int) = (p : Int) * (p : Int) * 0; rw [Int.mul_zero]
  | n + 1, h => by
    show smF c n s + c n * (s n : Int) * (s n : Int) = (p : Int) * (p : Int) * (smF c n r + c n * (r n : Int) * (r n : Int))
    rw [smF_sc c p s r n (fun i hi => h i (by omega)), h n (by omega), Int.natCast_mul]
    grind
theorem red_p {L p : Nat} {c : Nat → Int} (hp : 2 ≤ p) : ∀ (M : Nat) (s : Nat → Nat), mxF L s ≤ M → smF c L s = 0 → (∃ i, i < L ∧ s i ≠ 0) → ∃ r, smF c L r = 0 ∧ ∃ i, i < L ∧ r i % p ≠ 0 := by
  intro M
  induction M with
  | zero =>
    intro s hm h0 ⟨i, hi, hs⟩
    have := mxF_le.mp hm i hi
    omega
  | succ M ih =>
    intro s hm h0 ⟨i, hi, hs⟩
    by_cases c1 : ∃ i, i < L ∧ s i % p ≠ 0
    · exact ⟨s, h0, c1⟩
    · have hall : ∀ i, i < L → s i = p * (s i / p) := by
        intro i hi
        have h1 : s i % p = 0 := by
          rcases Nat.eq_zero_or_pos (s i % p) with z | z
          · exact z
          · exact absurd ⟨i, hi, by omega⟩ c1
        have := Nat.div_add_mod (s i) p
        omega
      have hpp : (p : Int) * (p : Int) ≠ 0 := by
        intro z
        rcases Int.mul_eq_zero.mp z with w | w <;> omega
      have h2 : smF c L (fun i => s i / p) = 0 := by
        have := smF_sc c p s (fun i => s i / p) L hall
        rw [h0] at this
        rcases Int.mul_eq_zero.mp this.symm with w | w
        · exact absurd w hpp
        · exact w
      refine ih (fun i => s i / p) (mxF_le.mpr (fun i hi => ?_)) h2 ⟨i, hi, fun z => hs ?_⟩
      · have h3 := mxF_le.mp hm i hi
        show s i / p ≤ M
        rcases Nat.eq_zero_or_pos (s i) with z | z
        · rw [z, Nat.zero_div]; omega
        · have := Nat.div_lt_self z (show 1 < p by omega); omega
      · have h4 := hall i hi
        have h5 : s i / p = 0 := z
        rw [h5] at h4; omega
def hfX (j x : Nat) : Nat := if x ≤ qAt j / 2 then x else qAt j - x
theorem hfX_A : ∀ j, j < 7 → 1 ≤ j → qAt j % pAt j = 0 ∧ ∀ x, x < qAt j → hfX j x ≤ qAt j / 2 ∧ hfX j x * hfX j x % qAt j = x * x % qAt j ∧ decide (hfX j x % pAt j = 0) = decide (x % pAt j = 0) := by decide +kernel
theorem tm_x {j k : Nat} (hj : j < 7) (hj1 : 1 ≤ j) (x : Nat) : (tmF j k (decide (x % pAt j = 0))).testBit ((coreZ k * (x : Int) * (x : Int) % (qAt j : Int)).toNat) = true := by
  have hq := qAt_pos j
  obtain ⟨hd, hA⟩ := hfX_A j hj hj1
  obtain ⟨a1, a2, a3⟩ := hA (x % qAt j) (Nat.mod_lt _ hq)
  rw [tm_bit]
  refine ⟨hfX j (x % qAt j), a1, ?_, ?_⟩
  · rw [a3, Nat.mod_mod_of_dvd _ (Nat.dvd_of_mod_eq_zero hd)]
  · rw [a2, ← Nat.mul_mod]
    have h1 : ((cq j k : Nat) : Int) = coreZ k % (qAt j : Int) := by
      have := Int.emod_nonneg (coreZ k) (show (qAt j : Int) ≠ 0 by omega)
      unfold cq; omega
    have h2 := Int.emod_nonneg (coreZ k * (x : Int) * (x : Int)) (show (qAt j : Int) ≠ 0 by omega)
    have h3 : ((cq j k * (x * x % qAt j) % qAt j : Nat) : Int) = coreZ k * (x : Int) * (x : Int) % (qAt j : Int) := by
      rw [Int.natCast_emod, Int.natCast_mul, Int.natCast_emod, h1, ← Int.mul_emod, Int.natCast_mul, Int.mul_assoc]
    omega
theorem conv_st {q m T : Nat} {S C : Int} (hq : 0 < q) (hm : m < 2 ^ q) (h1 : T.testBit ((C % (q : Int)).toNat) = true) (h2 : m.testBit ((S % (q : Int)).toNat) = true) : (conv q m T).testBit (((S + C) % (q : Int)).toNat) = true := by
  have a1 := Int.emod_nonneg S (show (q : Int) ≠ 0 by omega)
  have a2 := Int.emod_lt_of_pos S (show (0 : Int) < q by omega)
  have b1 := Int.emod_nonneg C (show (q : Int) ≠ 0 by omega)
  have b2 := Int.emod_lt_of_pos C (show (0 : Int) < q by omega)
  have c1 := Int.emod_nonneg (S + C) (show (q : Int) ≠ 0 by omega)
  have c2 := Int.emod_lt_of_pos (S + C) (show (0 : Int) < q by omega)
  have e : (S + C) % (q : Int) = (S % (q : Int) + C % (q : Int)) % (q : Int) := Int.add_emod S C q
  have e2 : (S + C) % (q : Int) = S % (q : Int) + C % (q : Int) ∨ (S + C) % (q : Int) = S % (q : Int) + C % (q : Int) - q := by
    rcases Int.lt_or_le (S % (q : Int) + C % (q : Int)) q with z | z
    · left; rw [e]; exact Int.emod_eq_of_lt (by omega) z
    · right
      rw [e, ← Int.sub_emod_right]
      exact Int.emod_eq_of_lt (by omega) (by omega)
  generalize (S + C) % (q : Int) = r at c1 c2 e2 ⊢
  generalize S % (q : Int) = a at a1 a2 e2 h2
  generalize C % (q : Int) = t at b1 b2 e2 h1
  rw [conv_bit hm (by omega)]
  refine ⟨t.toNat, by omega, h1, ?_⟩
  have : (if t.toNat ≤ r.toNat then r.toNat - t.toNat else r.toNat + q - t.toNat) = a.toNat := by
    by_cases c : t.toNat ≤ r.toNat
    · rw [if_pos c]; omega
    · rw [if_neg c]; omega
  rw [this]; exact h2
theorem foM_row {j : Nat} {ks : List Nat} (hj : j < 7) (hj1 : 1 ≤ j) (s : Nat → Nat) : ∀ n, n ≤ ks.length → ((∀ i, i < n → s i % pAt j = 0) → (foM j (ks.take n)).1.testBit ((smF (cL ks) n s % (qAt j : Int)).toNat) = true) ∧ ((¬ ∀ i, i < n → s i % pAt j = 0) → (foM j (ks.take n)).2.testBit ((smF (cL ks) n s % (qAt j : Int)).toNat) = true)
  | 0, _ => by
    refine ⟨fun _ => ?_, fun h => absurd (fun i hi => absurd hi (by omega)) h⟩
    show (1 : Nat).testBit (((0 : Int) % (qAt j : Int)).toNat) = true
    rw [Int.zero_emod]; rfl
  | n + 1, hn => by
    have hq := qAt_pos j
    obtain ⟨ih1, ih2⟩ := foM_row (ks := ks) hj hj1 s n (by omega)
    have hl := foM_lt (j := j) (ks.take n)
    have htm := tm_x (k := ks.getD n 0) hj hj1 (s n)
    have hsm : smF (cL ks) (n + 1) s = smF (cL ks) n s + coreZ (ks.getD n 0) * (s n : Int) * (s n : Int) := rfl
    rw [take_snoc (by omega), foM_snoc, hsm]
    generalize foM j (ks.take n) = bf at *
    show (_ → (conv (qAt j) bf.1 (tmF j (ks.getD n 0) true)).testBit _ = true) ∧ (_ → (conv (qAt j) bf.2 (tmF j (ks.getD n 0) true) ||| (conv (qAt j) bf.2 (tmF j (ks.getD n 0) false) ||| conv (qAt j) bf.1 (tmF j (ks.getD n 0) false))).testBit _ = true)
    constructor
    · intro h
      rw [decide_eq_true (h n (by omega))] at htm
      exact conv_st hq hl.1 htm (ih1 (fun i hi => h i (by omega)))
    · intro h
      rw [Nat.testBit_or, Nat.testBit_or, Bool.or_eq_true, Bool.or_eq_true]
      by_cases c1 : ∀ i, i < n → s i % pAt j = 0
      · have c2 : ¬ s n % pAt j = 0 := fun z => h (fun i hi => by
          by_cases ci : i = n
          · rw [ci]; exact z
          · exact c1 i (by omega))
        rw [decide_eq_false c2] at htm
        exact Or.inr (Or.inr (conv_st hq hl.1 htm (ih1 c1)))
      · by_cases c2 : s n % pAt j = 0
        · rw [decide_eq_true c2] at htm
          exact Or.inl (conv_st hq hl.2 htm (ih2 c1))
        · rw [decide_eq_false c2] at htm
          exact Or.inr (Or.inl (conv_st hq hl.2 htm (ih2 c1)))
theorem no_bars {ks : List Nat} {s : Nat → Nat} (h : ∀ k ∈ ks, k < 128) (h0 : smF (cL ks) ks.length s = 0) (h1 : ∃ i, i < ks.length ∧ s i ≠ 0) : barsL ks = 0 := by
  have hv : ∀ j, j < 7 → vz j ks = true := by
    intro j hj
    by_cases c : j = 0
    · subst c; exact real_vz h h0 h1
    · obtain ⟨r, r0, i, hi, hr⟩ := red_p (p := pAt j) (pAt_ge j) (mxF ks.length s) s (Nat.le_refl _) h0 h1
      have := (foM_row (ks := ks) hj (by omega) r ks.length (Nat.le_refl _)).2 (fun z => hr (z i hi))
      rw [r0, List.take_length, Int.zero_emod] at this
      unfold vz
      rw [if_neg c]; exact this
  apply Nat.eq_of_testBit_eq
  intro i
  rw [bars_bit, Nat.zero_testBit]
  by_cases c : i < 7
  · rw [hv i c]; simp
  · simp [c]
/-! row, way -/
theorem fd_both {N B : Nat} {wl : Bool} {ks : List Nat} {σ τ : fS} (hN : 2000000 ≤ N) (hB : B ≤ 15) (hs : sm σ ks) (hl : lk τ ks) (hL : 0 < ks.length) : ∃ σ' τ', ag [18, 19, 20] σ σ' ∧ ag [83, 84] τ τ' ∧ ((g_X1_find N (nI B) (bI wl) σ = some (0, σ') ∧ g_X8_find N (nI B) (bI wl) τ = some (0, τ')) ∨ (g_X1_find N (nI B) (bI wl) σ = some (1, σ') ∧ g_X8_find N (nI B) (bI wl) τ = some (1, τ') ∧ ∀ i, i < ks.length → σ'.1 20 i = τ'.1 83 i)) := by
  obtain ⟨s1, g1, r1⟩ := v_findX (N := N) (wl := wl) (by omega) hB hs hL
  obtain ⟨s2, g2, r2⟩ := v_findM (N := N) (wl := wl) hN hB hl hL
  refine ⟨s1, s2, g1, g2, ?_⟩
  rcases r1 with ⟨e1, r, q1, q2⟩ | ⟨e1, q1⟩
  · rcases r2 with ⟨e2, t, p1, p2⟩ | ⟨e2, p1⟩
    · refine Or.inr ⟨e1, e2, fun i hi => ?_⟩
      rw [q1 i hi, p1 i hi, bst.u q2 p2 i hi]
    · have := p1 r q2.1
      have := q2.2.1
      omega
  · rcases r2 with ⟨e2, t, p1, p2⟩ | ⟨e2, p1⟩
    · exfalso
      rcases q1 with z | z
      · exact z (no_bars hs.2.2.2 p2.1.1 p2.1.2.1)
      · have := z t p2.1
        have := p2.2.1
        omega
    · exact Or.inl ⟨e1, e2⟩
theorem v_numAt {N i : Nat} {σ : fS} (hi : i < 5) : g_X1_numberAt N (nI i) σ = some (σ.1 20 i, σ) := by
  unfold g_X1_numberAt
  rw [if_neg (n_lt0 (by omega)), if_neg (show ¬ (5 : Int32) ≤ nI i from n_le (b := 5) (by omega) hi), Gd_c (fin_nI hi (by omega)), n_cl (by omega)]
theorem o12 {N : Nat} (hN : 2000000 ≤ N) : op_12 INV N := by
  intro x y σ hi
  have hN2 : 200 ≤ N := by omega
  have hi' := hi
  obtain ⟨pg, S, K, n, m, A, M, hw⟩ := hi'
  have hX := hw.2.1
  have hM := hw.2.2.1
  unfold g_X7_row g_X8_row
  rcases ht_or S (fun i hi => (hX i hi).1.2.2.1) x y with ⟨i, t, hi8, rfl, rfl, ht⟩ | ⟨e1, e2⟩
  · have h4 := (hX i hi8).1.2.2.1
    obtain ⟨s1, f1, a1, g1⟩ := v_start (N := N) (σ := σ)
    obtain ⟨s2, f2, a2, g2⟩ := v_addAll hN2 a1 ((hX i hi8).1.ag g1 sh_out.1 sh_out.2) (by simp; omega) sh_out
    rw [List.nil_append] at a2
    have g12 := g1.tr g2
    have hM2 := hM.ag g12 (by decide)
    obtain ⟨t1, k1, b1, c1, p1⟩ := v_lookAt hN2 hi8 hM2
    -- the two searches
    have hlen : 0 < (S i).length := by omega
    obtain ⟨s3, _, g3, _, r3⟩ := fd_both (N := N) (B := 15) (wl := false) hN (by decide) a2 b1 hlen
    have hM3 := hM2.ag g3 (by decide)
    obtain ⟨t2, k2, b2, c2, p2⟩ := v_lookAt hN2 hi8 hM3
    obtain ⟨s3', t3, g3', c3, r3'⟩ := fd_both (N := N) (B := 15) (wl := false) hN (by decide) a2 b2 hlen
    have hq : qA σ s3' := qA.x ((g12.mono (T := [16, 17, 18, 19, 20]) (by simp)).tr (g3'.mono (by simp))) (by decide) (by decide)
    have hss : s3' = s3 := by
      rcases r3 with ⟨u, _⟩ | ⟨u, _⟩ <;> rcases r3' with ⟨v, _⟩ | ⟨v, _⟩ <;> (rw [u] at v; first | exact (Prod.mk.inj (Option.some.inj v)).2.symm | exact absurd (Prod.mk.inj (Option.some.inj v)).1 (by decide))
    rw [hss] at hq r3' g3'
    have hq2 : qA s3 t3 := (qA.m c2 (by decide) p2).tr (qA.x c3 (by decide) (by decide))
    have hMt : MS t3 S := (hM3.ag c2 (by decide)).ag c3 (by decide)
    have hinv : INV t3 := ⟨pg, S, K, n, m, A, M, hw.q (hq.tr hq2) hMt⟩
    rcases r3' with ⟨u, v⟩ | ⟨u, v, w⟩
    · refine ⟨-1, s3, t3, ?_, ?_, hinv⟩
      · rw [htX_1 hX hi8 ht, Bd_s, if_neg (by decide), f1, Bv_s, Gd_c (fin_nI hi8 (by omega)), n_cl (by omega), er3, f2, Bv_s, show g_X1_find N 15 0 s2 = _ from u, Bd_s, if_pos rfl]
      · rw [htM_1 hM3 hi8 ht, Bd_s, if_neg (by decide), k2, Bv_s, show g_X8_find N 15 0 t2 = _ from v, Bd_s, if_pos rfl]
    · refine ⟨s3.1 20 t, s3, t3, ?_, ?_, hinv⟩
      · rw [htX_1 hX hi8 ht, Bd_s, if_neg (by decide), f1, Bv_s, Gd_c (fin_nI hi8 (by omega)), n_cl (by omega), er3, f2, Bv_s, show g_X1_find N 15 0 s2 = _ from u, Bd_s, if_neg (by decide), v_numAt (by omega), Bd_s]
      · rw [htM_1 hM3 hi8 ht, Bd_s, if_neg (by decide), k2, Bv_s, show g_X8_find N 15 0 t2 = _ from v, Bd_s, if_neg (by decide), Gd_c (fin_nI (show t < 5 by omega) (by omega)), n_cl (by omega), w t ht]
  · refine ⟨-101, σ, σ, ?_, ?_, hi⟩
    · rw [e1 N σ hX, Bd_s, if_pos rfl]
    · rw [e2 N σ hM, Bd_s, if_pos rfl]
theorem o13 {N : Nat} (hN : 2000000 ≤ N) : op_13 INV N := by
  intro x y z σ hi
  have hN2 : 200 ≤ N := by omega
  have hi' := hi
  obtain ⟨pg, S, K, n, m, A, M, hw⟩ := hi'
  have hX := hw.2.1
  have hM := hw.2.2.1
  unfold g_X7_way g_X8_way
  rcases hf_or S x with ⟨i, hi8, rfl, hs⟩ | ⟨e1, e2⟩
  · have h4 := (hX i hi8).1.2.2.1
    have hzl : zI (((S i).length + 1 : Nat) - 1 : Int) = nI (S i).length := by rw [← zI_nat]; congr 1; omega
    rcases in_or z ((S i).length + 1) (by omega) with ⟨t, ht, rfl⟩ | ⟨c1, c2⟩
    · have hle : nI t ≤ nI (S i).length := y_le (by omega) (by omega)
      have hwi : ∀ s, g_X8_within N (nI t) 0 (nI (S i).length) s = some (1, s) := fun s => by rw [v_within, if_pos ⟨n_ge0 (by omega), hle⟩]
      by_cases c : numB y = true
      · obtain ⟨s2, f2, a2, g12⟩ := v_agX hN2 (hX i hi8).1 c sh_out
        have hM2 := hM.ag g12 (by decide)
        have hal : (agn (S i) y).length = (S i).length + 1 := by unfold agn; simp
        have hlen : 0 < (agn (S i) y).length := by omega
        obtain ⟨t1, t1', k1, k1', k1'', b1, c1, p1⟩ := v_agM hN2 hi8 hM2 c
        obtain ⟨s3, _, g3, _, r3⟩ := fd_both (N := N) (B := 9) (wl := true) hN (by decide) a2 b1 hlen
        have hM3 := hM2.ag g3 (by decide)
        obtain ⟨u1, u2, j1, j2, j3, b2, c2, p2⟩ := v_agM hN2 hi8 hM3 c
        obtain ⟨s3', t3, g3', c3, r3'⟩ := fd_both (N := N) (B := 9) (wl := true) hN (by decide) a2 b2 hlen
        have hq : qA σ s3' := qA.x ((g12.mono (T := [16, 17, 18, 19, 20]) (by simp)).tr (g3'.mono (by simp))) (by decide) (by decide)
        have hss : s3' = s3 := by
          rcases r3 with ⟨u, _⟩ | ⟨u, _⟩ <;> rcases r3' with ⟨v, _⟩ | ⟨v, _⟩ <;> (rw [u] at v; first | exact (Prod.mk.inj (Option.some.inj v)).2.symm | exact absurd (Prod.mk.inj (Option.some.inj v)).1 (by decide))
        rw [hss] at hq r3' g3'
        have hq2 : qA s3 t3 := (qA.m c2 (by decide) p2).tr (qA.x c3 (by decide) (by decide))
        have hMt : MS t3 S := (hM3.ag c2 (by decide)).ag c3 (by decide)
        have hinv : INV t3 := ⟨pg, S, K, n, m, A, M, hw.q (hq.tr hq2) hMt⟩
        rcases r3' with ⟨u, v⟩ | ⟨u, v, w⟩
        · refine ⟨-1, s3, t3, ?_, ?_, hinv⟩
          · rw [hfX_1 hX hi8 hs, Bd_s, if_neg (by decide), if_neg (n_lt0 (by omega)), Gd_c (fin_nI hi8 (by omega)), n_cl (by omega), er3, (hX i hi8).1.1, if_pos hle, v_isNumX (by omega), if_pos c, Bd_s, if_neg (by decide), Gd_c (fin_nI hi8 (by omega)), f2, Bv_s, show g_X1_find N 9 1 s2 = _ from u, Bd_s, if_pos rfl]
          · rw [hfM_1 hM3 hi8 hs, Bd_s, if_neg (by decide), Gd_c (fin_nI hi8 (by omega)), n_cl (by omega), (hM3 i hi8).1.1, hwi, Bd_s, if_neg (by decide), v_isNumM (by omega), if_pos c, Bd_s, if_neg (by decide), j1, Bv_s, j2, Bd_s, j3, Bv_s, show g_X8_find N 9 1 u2 = _ from v, Bd_s, if_pos rfl]
        · refine ⟨s3.1 20 t, s3, t3, ?_, ?_, hinv⟩
          · rw [hfX_1 hX hi8 hs, Bd_s, if_neg (by decide), if_neg (n_lt0 (by omega)), Gd_c (fin_nI hi8 (by omega)), n_cl (by omega), er3, (hX i hi8).1.1, if_pos hle, v_isNumX (by omega), if_pos c, Bd_s, if_neg (by decide), Gd_c (fin_nI hi8 (by omega)), f2, Bv_s, show g_X1_find N 9 1 s2 = _ from u, Bd_s, if_neg (by decide), v_numAt (by omega), Bd_s]
          · rw [hfM_1 hM3 hi8 hs, Bd_s, if_neg (by decide), Gd_c (fin_nI hi8 (by omega)), n_cl (show i < 2 ^ 31 by omega), (hM3 i hi8).1.1, hwi, Bd_s, if_neg (by decide), v_isNumM (by omega), if_pos c, Bd_s, if_neg (by decide), j1, Bv_s, j2, Bd_s, j3, Bv_s, show g_X8_find N 9 1 u2 = _ from v, Bd_s, if_neg (by decide), Gd_c (fin_nI (show t < 5 by omega) (by omega)), n_cl (by omega), w t (by omega)]
      · refine ⟨-102, σ, σ, ?_, ?_, hi⟩
        · rw [hfX_1 hX hi8 hs, Bd_s, if_neg (by decide), if_neg (n_lt0 (by omega)), Gd_c (fin_nI hi8 (by omega)), n_cl (by omega), er3, (hX i hi8).1.1, if_pos hle, v_isNumX (by omega), if_neg c, Bd_s, if_pos rfl]
        · rw [hfM_1 hM hi8 hs, Bd_s, if_neg (by decide), Gd_c (fin_nI hi8 (by omega)), n_cl (by omega), (hM i hi8).1.1, hwi, Bd_s, if_neg (by decide), v_isNumM (by omega), if_neg c, Bd_s, if_pos rfl]
    · rw [hzl] at c2
      refine ⟨-101, σ, σ, ?_, ?_, hi⟩
      · rw [hfX_1 hX hi8 hs, Bd_s, if_neg (by decide)]
        rcases c1 with c | ⟨c, c'⟩
        · rw [if_pos c]
        · rw [if_neg c, Gd_c (fin_nI hi8 (by omega)), n_cl (by omega), er3, (hX i hi8).1.1, if_neg (fun q => c2 ⟨Int32.not_lt.mp c, q⟩)]
      · rw [hfM_1 hM hi8 hs, Bd_s, if_neg (by decide), Gd_c (fin_nI hi8 (by omega)), n_cl (by omega), (hM i hi8).1.1, v_within, if_neg c2, Bd_s, if_pos rfl]
  · refine ⟨-101, σ, σ, ?_, ?_, hi⟩
    · rw [e1 N σ hX, Bd_s, if_pos rfl]
    · rw [e2 N σ hM, Bd_s, if_pos rfl]
