/-! PAIRS opened by the class -/
theorem v_flo2 {N v n : Nat} {σ : fS} (hv : v < 2 ^ 31) (h0 : 0 < n) (hn : n < 2 ^ 31) : g_J9_floorMod_7cf53 N (nI v) (nI n) σ = some (nI (v % n), σ) := by
  unfold g_J9_floorMod_7cf53
  rw [Gd_c (nz_nI h0 hn), Lt_e, nI_rem hv h0 hn, xorI, if_pos (n_ge0 (Nat.xor_lt_two_pow hv hn))]
theorem fZ_I {p : Nat × Int × Nat} (hp : pOK p) {x y : Nat} (hx : x ≤ 160) (hy : y ≤ 160) : nI p.1 * nI x * nI x + zI p.2.1 * nI x * nI y + nI p.2.2 * nI y * nI y = nI (pv p x y) := by
  rw [← zI_nat p.1, ← zI_nat p.2.2, ← zI_nat x, ← zI_nat y, zI_mul, zI_mul, zI_mul, zI_mul, zI_mul, zI_mul, zI_add, zI_add, ← zI_nat (pv p x y), pv_Z hp hx hy]
  rfl
theorem v_fr64 {N n k d M : Nat} {σ s : fS} {P : List (Nat × Int × Nat)} (hN : 200 ≤ N) (b : bsX σ n k P) (h : rsX σ s k M) (g : gdM n (P.getD k d0) M) (hd1 : 1 ≤ d) (hd2 : d ≤ n) : ∃ s' M', lp_X4_findRests_64 N (nI k) (nI d) N 0 s = some s' ∧ rsX σ s' k M' ∧ gdM n (P.getD k d0) M' ∧ (∀ q, M.testBit q = true → M'.testBit q = true) ∧ ∀ x, x < n → Nat.gcd (pv (P.getD k d0) x d % n) n = 1 → M'.testBit (pv (P.getD k d0) x d % n) = true := by
  have hn3 := b.2.2.1
  have hn160 := b.2.1
  have hp := b.2.2.2.2.2.1 k b.2.2.2.2.2.2.1
  have hkP := b.2.2.2.2.2.2.1
  have hP56 := b.2.2.2.2.1
  generalize hpe : P.getD k d0 = p at *
  obtain ⟨s', ⟨M', a1, a2, a3, a4⟩, e⟩ := lpU (fun f x s => lp_X4_findRests_64 N (nI k) (nI d) f x s) n (fun i s => ∃ M', rsX σ s k M' ∧ gdM n p M' ∧ (∀ q, M.testBit q = true → M'.testBit q = true) ∧ ∀ x, x < i → Nat.gcd (pv p x d % n) n = 1 → M'.testBit (pv p x d % n) = true) id (by
    intro f i u hi ⟨M', c1, c2, c3, c4⟩
    have bu := c1.b b
    have hcx := bu.2.2.2.1.2 k hkP
    rw [hpe] at hcx
    have hfb := fZ_b hp (x := i) (y := d) (by omega) (by omega)
    have hpz := pv_Z hp (x := i) (y := d) (by omega) (by omega)
    have hpv : pv p i d < 2 ^ 31 := by omega
    obtain ⟨r, hr⟩ : ∃ r, r = pv p i d % n := ⟨_, rfl⟩
    have hrn : r < n := by rw [hr]; exact Nat.mod_lt _ (by omega)
    show ∃ u', _ ∧ lp_X4_findRests_64 N (nI k) (nI d) (f + 1) (nI i) u = lp_X4_findRests_64 N (nI k) (nI d) f (nI (i + 1)) u'
    rw [lp_X4_findRests_64, bu.1, if_neg (n_le (by omega) hi), Gd_c (fin_nI (show k < 56 by omega) (by omega)), Gd_c (fin_nI (show k < 56 by omega) (by omega)), Gd_c (fin_nI (show k < 56 by omega) (by omega)), n_cl (show k < 2 ^ 31 by omega), hcx.1, hcx.2.1, hcx.2.2, fZ_I hp (by omega) (by omega), Lt_e, v_flo2 hpv (by omega) (by omega), Bd_s, ← hr, Gd_c (fin_nI (show r < 160 by omega) (by omega)), n_cl (show r < 2 ^ 31 by omega), bu.2.2.2.2.2.2.2 r hrn, nI_1]
    by_cases c : Nat.gcd r n = 1
    · have hmet : metP n p r := ⟨c, i, d, by rw [← hpz, ← Int.natCast_emod, ← hr]⟩
      rw [decide_eq_true c, if_neg (show ¬ bI true = 0 by decide), v_isMt bu c1.2.2.2 hrn, Bd_s]
      cases hb : M'.testBit r
      · rw [if_pos (show bI false = 0 from rfl)]
        obtain ⟨u', M2, e1, e2, e3⟩ := v_aws hN b c1 hrn
        obtain ⟨g2, g3⟩ := gdM_add hn3 c2 hmet e3
        rw [e1, Bv_s]
        refine ⟨u', ⟨M2, e2, g2, fun q hq => (e3 q).mpr (Or.inl (c3 q hq)), fun x hx hg => ?_⟩, rfl⟩
        by_cases cx : x = i
        · subst cx; rw [← hr]; exact g3
        · exact (e3 _).mpr (Or.inl (c4 x (by omega) hg))
      · rw [if_neg (show ¬ bI true = 0 by decide)]
        refine ⟨u, ⟨M', c1, c2, c3, fun x hx hg => ?_⟩, rfl⟩
        by_cases cx : x = i
        · subst cx; rw [← hr]; exact hb
        · exact c4 x (by omega) hg
    · rw [decide_eq_false c, if_pos (show bI false = 0 from rfl)]
      refine ⟨u, ⟨M', c1, c2, c3, fun x hx hg => ?_⟩, rfl⟩
      by_cases cx : x = i
      · subst cx; rw [← hr] at hg; exact absurd hg c
      · exact c4 x (by omega) hg) (by
    intro f u ⟨M', c1, _⟩
    have bu := c1.b b
    show lp_X4_findRests_64 N (nI k) (nI d) (f + 1) (nI n) u = _
    rw [lp_X4_findRests_64, bu.1, if_pos (y_le (by omega) (Nat.le_refl _))]; rfl) n N 0 s (by omega) (by omega) ⟨M, h, g, fun _ z => z, fun x hx => absurd hx (by omega)⟩
  exact ⟨s', M', e, a1, a2, a3, a4⟩
theorem v_fr34 {N n k M : Nat} {σ s : fS} {P : List (Nat × Int × Nat)} (hN : 200 ≤ N) (b : bsX σ n k P) (h : rsX σ s k M) (g : gdM n (P.getD k d0) M) : ∃ s' M', lp_X4_findRests_34 N (nI k) N 1 s = some s' ∧ rsX σ s' k M' ∧ gdM n (P.getD k d0) M' ∧ ∀ d, 1 ≤ d → d ≤ n → n % d = 0 → ∀ x, x < n → Nat.gcd (pv (P.getD k d0) x d % n) n = 1 → M'.testBit (pv (P.getD k d0) x d % n) = true := by
  have hn3 := b.2.2.1
  have hn160 := b.2.1
  obtain ⟨s', ⟨M', a1, a2, a3, _⟩, e⟩ := lpU (fun f x s => lp_X4_findRests_34 N (nI k) f x s) (n + 1) (fun i s => ∃ M', rsX σ s k M' ∧ gdM n (P.getD k d0) M' ∧ (∀ d, 1 ≤ d → d < i → n % d = 0 → ∀ x, x < n → Nat.gcd (pv (P.getD k d0) x d % n) n = 1 → M'.testBit (pv (P.getD k d0) x d % n) = true) ∧ 1 ≤ i) id (by
    intro f i u hi ⟨M', c1, c2, c3, c4⟩
    have bu := c1.b b
    show ∃ u', _ ∧ lp_X4_findRests_34 N (nI k) (f + 1) (nI i) u = lp_X4_findRests_34 N (nI k) f (nI (i + 1)) u'
    rw [lp_X4_findRests_34, bu.1, if_neg (show ¬ nI n < nI i from Int32.not_lt.mpr (y_le (by omega) (by omega))), has_X bu, Bd_s, if_neg (by decide), bu.1, Gd_c (nz_nI (by omega) (by omega)), nI_rem (by omega) (by omega) (by omega), nI_1]
    have e0 : (nI (n % i) = 0) ↔ n % i = 0 := n_eq0 (by have := Nat.mod_le n i; omega)
    by_cases c : n % i = 0
    · rw [if_pos (e0.mpr c)]
      obtain ⟨u', M2, e1, e2, e3, e4, e5⟩ := v_fr64 (N := N) hN b c1 c2 c4 (show i ≤ n by omega)
      rw [e1, Bv_s]
      refine ⟨u', ⟨M2, e2, e3, fun d hd1 hd2 hd3 x hx hg => ?_, by omega⟩, rfl⟩
      by_cases cd : d = i
      · subst cd; exact e5 x hx hg
      · exact e4 _ (c3 d hd1 (by omega) hd3 x hx hg)
    · rw [if_neg (fun z => c (e0.mp z))]
      refine ⟨u, ⟨M', c1, c2, fun d hd1 hd2 hd3 x hx hg => ?_, by omega⟩, rfl⟩
      by_cases cd : d = i
      · subst cd; exact absurd hd3 c
      · exact c3 d hd1 (by omega) hd3 x hx hg) (by
    intro f u ⟨M', c1, _⟩
    have bu := c1.b b
    show lp_X4_findRests_34 N (nI k) (f + 1) (nI (n + 1)) u = _
    rw [lp_X4_findRests_34, bu.1, if_pos ((nI_ltI (by omega) (by omega)).mpr (by omega))]; rfl) n N 1 s (by omega) (by omega) ⟨M, h, g, fun d h1 h2 => absurd h2 (by omega), Nat.le_refl _⟩
  exact ⟨s', M', e, a1, a2, fun d h1 h2 => a3 d h1 (by omega)⟩
theorem v_fr2 {N n k : Nat} {σ : fS} {P : List (Nat × Int × Nat)} (hN : 200 ≤ N) (b : bsX σ n k P) : ∃ s', lp_X4_findRests_2 N (nI k) N 0 σ = some s' ∧ rsX σ s' k 0 := by
  have hkP := b.2.2.2.2.2.2.1
  have hP56 := b.2.2.2.2.1
  obtain ⟨s', ⟨a1, a2, a3, a4⟩, e⟩ := lpU (fun f x s => lp_X4_findRests_2 N (nI k) f x s) 3 (fun i s => s.1 = σ.1 ∧ (∀ q, q ≠ 14 → s.2 q = σ.2 q) ∧ (∀ j, j / 3 ≠ k → s.2 14 j = σ.2 14 j) ∧ ∀ w, w < i → s.2 14 (3 * k + w) = 0) id (by
    intro f i u hi ⟨c1, c2, c3, c4⟩
    have bu : bsX u n k P := by unfold bsX cX at *; rw [c1]; exact b
    have e1 : nI k * (3 : Int32) + nI i = nI (3 * k + i) := by
      rw [show nI k * (3 : Int32) = nI (k * 3) from pk_mul k 3, nI_add, Nat.mul_comm]
    refine ⟨sL u 14 (3 * k + i) 0, ⟨c1, fun q hq => by rw [sL_ne _ _ _ hq]; exact c2 q hq, fun j hj => by rw [sL_2, if_neg (fun z => hj (by have := z.2; omega))]; exact c3 j hj, fun w hw => ?_⟩, ?_⟩
    · rw [sL_2]
      by_cases c : w = i
      · subst c; rw [if_pos ⟨rfl, rfl⟩]
      · rw [if_neg (fun z => c (by have := z.2; omega))]; exact c4 w (by omega)
    · show lp_X4_findRests_2 N (nI k) (f + 1) (nI i) u = lp_X4_findRests_2 N (nI k) f (nI (i + 1)) (sL u 14 (3 * k + i) 0)
      rw [lp_X4_findRests_2, if_neg (show ¬ (3 : Int32) ≤ nI i from n_le (b := 3) (by omega) hi), has_X bu, Bd_s, if_neg (by decide), e1, Gd_c (fin_nI (show 3 * k + i < 168 by omega) (by omega)), n_cl (by omega), Lt_e, nI_1]) (by
    intro f u _
    show lp_X4_findRests_2 N (nI k) (f + 1) (nI 3) u = _
    rw [lp_X4_findRests_2, if_pos (by decide)]; rfl) 3 N 0 σ (by omega) (by omega) ⟨rfl, fun _ _ => rfl, fun _ _ => rfl, fun w hw => absurd hw (by omega)⟩
  refine ⟨s', e, a1, a2, a3, fun w hw => ?_⟩
  rw [a4 w hw, Nat.zero_shiftRight]; rfl
theorem v_fr {N n k : Nat} {σ : fS} {P : List (Nat × Int × Nat)} (hN : 200 ≤ N) (b : bsX σ n k P) : ∃ s', g_X4_findRests N (nI k) σ = some s' ∧ rsX σ s' k (mskM n (P.getD k d0)) := by
  obtain ⟨s1, e1, h1⟩ := v_fr2 (N := N) hN b
  have g0 : gdM n (P.getD k d0) 0 := ⟨fun q hq => absurd hq (by simp), fun q t hq => absurd hq (by simp)⟩
  obtain ⟨s2, M, e2, h2, g2, k2⟩ := v_fr34 (N := N) hN b h1 g0
  have hp := b.2.2.2.2.2.1 k b.2.2.2.2.2.2.1
  have hn3 := b.2.2.1
  have hn160 := b.2.1
  have hM : M = mskM n (P.getD k d0) := mskM_eq (by omega) (fun q => ⟨g2.1 q, fun z => met_all (by omega) hn3 hp M g2.2 k2 z⟩)
  refine ⟨s2, ?_, hM ▸ h2⟩
  unfold g_X4_findRests
  rw [e1, Bv_s, e2, Bv_s]
/-! GENERA -/
theorem i64_eq {a b : Nat} (ha : a < 2 ^ 64) (hb : b < 2 ^ 64) : (Int64.ofNat a = Int64.ofNat b) ↔ a = b := by
  constructor
  · intro h
    have h1 : (lN a).toBitVec.toNat = (lN b).toBitVec.toNat := congrArg (fun x : Int64 => x.toBitVec.toNat) h
    rwa [wb_tn ha, wb_tn hb] at h1
  · intro h; rw [h]
theorem wd_ext {A B : Nat} (hA : A < 2 ^ 192) (hB : B < 2 ^ 192) (h : ∀ w, w < 3 → A >>> (64 * w) % 2 ^ 64 = B >>> (64 * w) % 2 ^ 64) : A = B := by
  apply Nat.eq_of_testBit_eq
  intro i
  by_cases c : i < 192
  · rw [← wd_bit A i, ← wd_bit B i, h (i / 64) (by omega)]
  · rw [Nat.testBit_lt_two_pow (Nat.lt_of_lt_of_le hA (Nat.pow_le_pow_right (by decide) (by omega))), Nat.testBit_lt_two_pow (Nat.lt_of_lt_of_le hB (Nat.pow_le_pow_right (by decide) (by omega)))]
theorem has_2 {N m k : Nat} {σ : fS} (h : σ.1 9 7 = nI m) (hk : k < m) (hm : m ≤ 56) : g_X4_has N (nI k) σ = some (1, σ) := by
  unfold g_X4_has
  rw [if_neg (n_lt0 (by omega)), h, if_neg (n_le (by omega) hk), if_neg (show ¬ (56 : Int32) ≤ nI k from n_le (b := 56) (by omega) (by omega))]
theorem v_mSame {N m j k A B : Nat} {σ : fS} (hN : 200 ≤ N) (h : σ.1 9 7 = nI m) (hj : j < m) (hk : k < m) (hm : m ≤ 56) (h1 : wdK σ j A) (h2 : wdK σ k B) (hA : A < 2 ^ 192) (hB : B < 2 ^ 192) : g_X4_meetSame N (nI j) (nI k) σ = some (bI (decide (A = B)), σ) := by
  have st : ∀ (f w : Nat), w < 3 → lp_X4_meetSame_2 N (nI j) (nI k) (f + 1) (nI w) σ = if A >>> (64 * w) % 2 ^ 64 = B >>> (64 * w) % 2 ^ 64 then lp_X4_meetSame_2 N (nI j) (nI k) f (nI (w + 1)) σ else some (.inl ((0 : Int32), σ)) := by
    intro f w hw
    have e1 : nI j * (3 : Int32) + nI w = nI (3 * j + w) := by rw [show nI j * (3 : Int32) = nI (j * 3) from pk_mul j 3, nI_add, Nat.mul_comm]
    have e2 : nI k * (3 : Int32) + nI w = nI (3 * k + w) := by rw [show nI k * (3 : Int32) = nI (k * 3) from pk_mul k 3, nI_add, Nat.mul_comm]
    rw [lp_X4_meetSame_2, if_neg (show ¬ (3 : Int32) ≤ nI w from n_le (b := 3) (by omega) hw), has_2 h hj hm, Bd_s, if_neg (by decide), has_2 h hk hm, Bd_s, if_neg (by decide), e1, e2, Gd_c (fin_nI (show 3 * j + w < 168 by omega) (by omega)), Gd_c (fin_nI (show 3 * k + w < 168 by omega) (by omega)), n_cl (show 3 * j + w < 2 ^ 31 by omega), n_cl (show 3 * k + w < 2 ^ 31 by omega), h1 w hw, h2 w hw, nI_1]
    have hi := i64_eq (Nat.mod_lt (A >>> (64 * w)) (show 0 < 2 ^ 64 by decide)) (Nat.mod_lt (B >>> (64 * w)) (show 0 < 2 ^ 64 by decide))
    by_cases c : A >>> (64 * w) % 2 ^ 64 = B >>> (64 * w) % 2 ^ 64
    · rw [if_pos (lg_0.mpr (hi.mpr c)), if_pos c]
    · rw [if_neg (fun z => c (hi.mp (lg_0.mp z))), if_neg c]
  have key : ∀ F, 4 ≤ F → (Bs (lp_X4_meetSame_2 N (nI j) (nI k) F (nI 0) σ) fun _ σl => some ((1 : Int32), σl)) = some (bI (decide (A = B)), σ) := by
    intro F hF
    obtain ⟨f, rfl⟩ : ∃ f, F = f + 1 + 1 + 1 + 1 := ⟨F - 4, by omega⟩
    rw [st _ 0 (by decide)]
    by_cases c0 : A >>> (64 * 0) % 2 ^ 64 = B >>> (64 * 0) % 2 ^ 64
    · rw [if_pos c0, st _ (0 + 1) (by decide)]
      by_cases c1 : A >>> (64 * (0 + 1)) % 2 ^ 64 = B >>> (64 * (0 + 1)) % 2 ^ 64
      · rw [if_pos c1, st _ (0 + 1 + 1) (by decide)]
        by_cases c2 : A >>> (64 * (0 + 1 + 1)) % 2 ^ 64 = B >>> (64 * (0 + 1 + 1)) % 2 ^ 64
        · have hAB : A = B := wd_ext hA hB (fun w hw => by
            have hc : w = 0 ∨ w = 1 ∨ w = 2 := by omega
            rcases hc with rfl | rfl | rfl
            · exact c0
            · exact c1
            · exact c2)
          rw [if_pos c2, lp_X4_meetSame_2, if_pos (show (3 : Int32) ≤ nI (0 + 1 + 1 + 1) by decide), Bs_r, decide_eq_true hAB]; rfl
        · rw [if_neg c2, Bs_l, decide_eq_false (fun z => c2 (by rw [z]))]; rfl
      · rw [if_neg c1, Bs_l, decide_eq_false (fun z => c1 (by rw [z]))]; rfl
    · rw [if_neg c0, Bs_l, decide_eq_false (fun z => c0 (by rw [z]))]; rfl
  unfold g_X4_meetSame
  exact key N (by omega)
def gnL (M : Nat → Nat) (k : Nat) : Nat → Nat → Nat
  | 0, i => i
  | f + 1, i => if M i = M k then i else gnL M k f (i + 1)
def gnA (M : Nat → Nat) (k : Nat) : Nat := gnL M k k 0
theorem v_lSame {N m k : Nat} {σ : fS} {M : Nat → Nat} (hN : 200 ≤ N) (h : σ.1 9 7 = nI m) (hk : k < m) (hm : m ≤ 56) (hw : ∀ j, j ≤ k → wdK σ j (M j) ∧ M j < 2 ^ 192) : ∀ f i n, f + i = k → f < n → (Bs (lp_X4_leastSame_2 N (nI k) n (nI i) σ) fun _ σl => some (nI k, σl)) = some (nI (gnL M k f i), σ)
  | 0, i, n, he, hn => by
    obtain ⟨n, rfl⟩ : ∃ m, n = m + 1 := ⟨n - 1, by omega⟩
    have : i = k := by omega
    subst this
    rw [lp_X4_leastSame_2, if_pos (y_le (by omega) (Nat.le_refl _)), Bs_r]; rfl
  | f + 1, i, n, he, hn => by
    obtain ⟨n, rfl⟩ : ∃ m, n = m + 1 := ⟨n - 1, by omega⟩
    have ih := v_lSame hN h hk hm hw f (i + 1) n (by omega) (by omega)
    rw [lp_X4_leastSame_2, if_neg (n_le (by omega) (by omega)), v_mSame hN h (show i < m by omega) hk hm (hw i (by omega)).1 (hw k (Nat.le_refl _)).1 (hw i (by omega)).2 (hw k (Nat.le_refl _)).2, Bd_s, nI_1]
    unfold gnL
    by_cases c : M i = M k
    · rw [decide_eq_true c, if_neg (show ¬ bI true = 0 by decide), if_pos c, Bs_l]
    · rw [decide_eq_false c, if_pos (show bI false = 0 from rfl), if_neg c]; exact ih
noncomputable def mkK (n : Nat) (k : Nat) : Nat := mskM n ((PL n).getD k d0)
theorem mkK_lt {n : Nat} (hn : n ≤ 160) (k : Nat) : mkK n k < 2 ^ 192 := Nat.lt_of_lt_of_le (mskM_lt n _) (Nat.pow_le_pow_right (by decide) (by omega))
theorem v_op101 {N n : Nat} {σ : fS} (hN : 200 ≤ N) (h : σ.1 9 6 = nI n) (hn : n ≤ 160) : ∃ s', lp_X4_open_101 N N 0 σ = some s' ∧ ag [15] σ s' ∧ ∀ r, r < n → s'.1 15 r = bI (decide (Nat.gcd r n = 1)) := by
  obtain ⟨s', ⟨a1, a2⟩, e⟩ := lpU (fun f x s => lp_X4_open_101 N f x s) n (fun i s => ag [15] σ s ∧ ∀ r, r < i → s.1 15 r = bI (decide (Nat.gcd r n = 1))) id (by
    intro f i u hi ⟨c1, c2⟩
    have hg : g_X2_commonPart N (nI i) (nI n) u = some (nI (Nat.gcd i n), u) := by
      have := v_gcX (N := N) (g := i) (z := (n : Int)) u hN (by omega) (by omega)
      simpa [zI_nat] using this
    have hgn : Nat.gcd i n ≤ n := Nat.gcd_le_right _ (by omega)
    have e1 : (nI (Nat.gcd i n) = (1 : Int32)) ↔ Nat.gcd i n = 1 := n_eq (b := 1) (by omega) (by decide)
    have hif : (if nI (Nat.gcd i n) = (1 : Int32) then some ((1 : Int32), u) else some ((0 : Int32), u)) = some (bI (decide (Nat.gcd i n = 1)), u) := by
      by_cases c : Nat.gcd i n = 1
      · rw [if_pos (e1.mpr c), decide_eq_true c]; rfl
      · rw [if_neg (fun z => c (e1.mp z)), decide_eq_false c]; rfl
    refine ⟨sI u 15 i (bI (decide (Nat.gcd i n = 1))), ⟨c1.tr (ag.sI _ (by simp) _ _), fun r hr => ?_⟩, ?_⟩
    · by_cases c : r = i
      · subst c; rw [sI_same]
      · rw [sI_other _ _ (Or.inr c)]; exact c2 r (by omega)
    · show lp_X4_open_101 N (f + 1) (nI i) u = lp_X4_open_101 N f (nI (i + 1)) _
      rw [lp_X4_open_101, c1.i (by decide), h, if_neg (n_le (by omega) hi), hg, Bd_s, hif, Bd_s, Gd_c (fin_nI (show i < 160 by omega) (by omega)), Gd_c (bI_B _), n_cl (by omega), Lt_e, nI_1]) (by
    intro f u ⟨c1, _⟩
    show lp_X4_open_101 N (f + 1) (nI n) u = _
    rw [lp_X4_open_101, c1.i (by decide), h, if_pos (y_le (by omega) (Nat.le_refl _))]; rfl) n N 0 σ (by omega) (by omega) ⟨ag.rf, fun r hr => absurd hr (by omega)⟩
  exact ⟨s', e, a1, a2⟩
def opI (n : Nat) (σ s : fS) (k : Nat) : Prop := (∀ q, q ≠ 13 → s.1 q = σ.1 q) ∧ (∀ q, q ≠ 14 → s.2 q = σ.2 q) ∧ (∀ j, j < k → s.1 13 j = nI (gnA (mkK n) j)) ∧ ∀ j, j < k → wdK s j (mkK n j)
theorem v_op140 {N n : Nat} {σ : fS} (hN : 200 ≤ N) (b : ∀ k, k < (PL n).length → bsX σ n k (PL n)) (h7 : σ.1 9 7 = nI (PL n).length) (hn : n ≤ 160) : ∃ s', lp_X4_open_140 N N 0 σ = some s' ∧ opI n σ s' (PL n).length := by
  have hl := (PL_ok hn).1
  obtain ⟨s', a1, e⟩ := lpU (fun f x s => lp_X4_open_140 N f x s) (PL n).length (fun k s => opI n σ s k) id (by
    intro f k u hk (hi : opI n σ u k)
    obtain ⟨c1, c2, c3, c4⟩ := hi
    have bu : bsX u n k (PL n) := by
      have := b k hk
      unfold bsX cX at *
      rw [c1 9 (by decide), c1 10 (by decide), c1 11 (by decide), c1 12 (by decide), c1 15 (by decide)]; exact this
    obtain ⟨s1, e1, h1, h2, h3, h4⟩ := v_fr (N := N) hN bu
    have hw : ∀ j, j ≤ k → wdK s1 j (mkK n j) ∧ mkK n j < 2 ^ 192 := by
      intro j hj
      refine ⟨?_, mkK_lt hn j⟩
      by_cases c : j = k
      · subst c; exact h4
      · intro w hw
        rw [h3 (3 * j + w) (by omega)]; exact c4 j (by omega) w hw
    have h97 : s1.1 9 7 = nI (PL n).length := by rw [h1, c1 9 (by decide)]; exact h7
    have hls := v_lSame hN h97 hk hl hw k 0 N (by omega) (by omega)
    refine ⟨sI s1 13 k (nI (gnA (mkK n) k)), ⟨fun q hq => ?_, fun q hq => ?_, fun j hj => ?_, fun j hj => ?_⟩, ?_⟩
    · rw [sI_ne _ _ _ hq, h1]; exact c1 q hq
    · show s1.2 q = _
      rw [h2 q hq]; exact c2 q hq
    · by_cases c : j = k
      · subst c; rw [sI_same]
      · rw [sI_other _ _ (Or.inr c), h1]; exact c3 j (by omega)
    · exact (hw j (by omega)).1
    · show lp_X4_open_140 N (f + 1) (nI k) u = lp_X4_open_140 N f (nI (k + 1)) _
      rw [lp_X4_open_140, c1 9 (by decide), h7, if_neg (n_le (by omega) hk), if_neg (show ¬ (56 : Int32) ≤ nI k from n_le (b := 56) (by omega) (by omega)), e1, Bv_s, show g_X4_leastSame N (nI k) s1 = some (nI (gnA (mkK n) k), s1) from hls, Bd_s, Gd_c (fin_nI (show k < 56 by omega) (by omega)), n_cl (by omega), Lt_e, nI_1]) (by
    intro f u (hi : opI n σ u (PL n).length)
    show lp_X4_open_140 N (f + 1) (nI (PL n).length) u = _
    rw [lp_X4_open_140, hi.1 9 (by decide), h7, if_pos (y_le (by omega) (Nat.le_refl _))]; rfl) (PL n).length N 0 σ (by omega) (by omega) ⟨fun _ _ => rfl, fun _ _ => rfl, fun j hj => absurd hj (by omega), fun j hj => absurd hj (by omega)⟩
  exact ⟨s', e, a1⟩
def sOX : List Nat := [9, 10, 11, 12, 13, 14, 15]
theorem v_openX {N n : Nat} {σ : fS} (hN : 200 ≤ N) (hn3 : 3 ≤ n) (hn : n ≤ 160) : ∃ s', g_X4_open N (nI n) σ = some s' ∧ ag sOX σ s' ∧ s'.1 9 6 = nI n ∧ cX s' (PL n) ∧ (∀ j, j < (PL n).length → s'.1 13 j = nI (gnA (mkK n) j)) ∧ ∀ j, j < (PL n).length → wdK s' j (mkK n j) := by
  obtain ⟨hl, hp⟩ := PL_ok hn
  obtain ⟨t, ht⟩ : ∃ t, t = sI (sI σ 9 6 (nI n)) 9 7 0 := ⟨_, rfl⟩
  have g0 : ag sOX σ t := by rw [ht]; exact (ag.sI _ (by decide) _ _).tr (ag.sI _ (by decide) _ _)
  have t6 : t.1 9 6 = nI n := by rw [ht, sI_other _ _ (Or.inr (by decide)), sI_same]
  obtain ⟨s1, e1, c1, g1, k1, _, _⟩ := opX_go (N := N) (n := n) hN hn 7 N 1 [] t (by omega) (by decide) rfl ⟨by rw [ht, sI_same]; rfl, fun k hk => absurd hk (by simp)⟩ t6 (by simp) (fun k hk => absurd hk (by simp))
  obtain ⟨s2, e2, g2, k2⟩ := v_op101 (N := N) hN k1 hn
  have c2 : cX s2 (PL n) := by
    unfold cX at *
    rw [g2.i (by decide), g2.i (by decide), g2.i (by decide), g2.i (by decide)]; exact c1
  have k16 : s2.1 9 6 = nI n := by rw [g2.i (by decide)]; exact k1
  obtain ⟨s3, e3, h1, h2, h3, h4⟩ := v_op140 (N := N) (n := n) hN (fun k hk => ⟨k16, hn, hn3, c2, hl, hp, hk, k2⟩) c2.1 hn
  refine ⟨s3, ?_, ?_, ?_, ?_, h3, h4⟩
  · unfold g_X4_open
    rw [if_neg (show ¬ nI n < (3 : Int32) from Int32.not_lt.mpr (y_le (b := 3) (by omega) hn3)), if_pos (show nI n ≤ (160 : Int32) from y_le (a := 160) (by decide) hn), Lt_e, Lt_e, ← ht, show lp_X4_open_25 N N 1 t = _ from e1, Bv_s, e2, Bv_s, e3, Bv_s]
  · refine ((g0.tr (g1.mono (by decide))).tr (g2.mono (by decide))).tr ⟨fun k hk => ⟨h1 k (fun z => hk (by rw [z]; decide)), h2 k (fun z => hk (by rw [z]; decide))⟩, h2 61 (by decide)⟩
  · rw [h1 9 (by decide)]; exact k16
  · unfold cX at *
    rw [h1 9 (by decide), h1 10 (by decide), h1 11 (by decide), h1 12 (by decide)]; exact c2
