/-! the greatest number that goes into both -/
theorem gcd_st (g s : Nat) : Nat.gcd g s = Nat.gcd s (g % s) := by rw [Nat.gcd_comm g s, Nat.gcd_rec s g, Nat.gcd_comm]
theorem half_md {s t e : Nat} (ht : 0 < t) (hs : t < s) (he : s < 2 ^ (e + 1)) : s % t < 2 ^ e := by
  have e2 : 2 ^ (e + 1) = 2 * 2 ^ e := by rw [Nat.pow_succ]; omega
  have h1 : s % t < t := Nat.mod_lt _ ht
  have h2 : s % t ≤ s - t := by rw [Nat.mod_eq_sub_mod (Nat.le_of_lt hs)]; exact Nat.mod_le _ _
  omega
theorem gcX {N : Nat} {σ : fS} : ∀ (e n g s k : Nat), s < 2 ^ e → g < 2 ^ 31 → s < 2 ^ 31 → k + 2 * e ≤ 63 → 2 * e < n → lp_X2_commonPart_13 N n (nI g) (nI s) (nI k) σ = some (nI (Nat.gcd g s), σ)
  | 0, n, g, s, k, h1, h2, h3, h4, h5 => by
    obtain ⟨n, rfl⟩ : ∃ m, n = m + 1 := ⟨n - 1, by omega⟩
    have hs : s = 0 := by simpa using h1
    subst hs
    rw [lp_X2_commonPart_13, if_neg (show ¬ (64 : Int32) ≤ nI k from n_le (b := 64) (by omega) (by omega)), if_pos (show nI 0 = (0 : Int32) from rfl), Nat.gcd_zero_right]
  | e + 1, n, g, s, k, h1, h2, h3, h4, h5 => by
    obtain ⟨n, rfl⟩ : ∃ m, n = m + 1 + 1 := ⟨n - 2, by omega⟩
    rcases Nat.eq_zero_or_pos s with hs | hs
    · subst hs
      rw [lp_X2_commonPart_13, if_neg (show ¬ (64 : Int32) ≤ nI k from n_le (b := 64) (by omega) (by omega)), if_pos (show nI 0 = (0 : Int32) from rfl), Nat.gcd_zero_right]
    · rw [lp_X2_commonPart_13, if_neg (show ¬ (64 : Int32) ≤ nI k from n_le (b := 64) (by omega) (by omega)), if_neg (nI_ne0 hs h3), Gd_c (nz_nI hs h3), nI_rem h2 hs h3, Lt_e, nI_1, gcd_st g s]
      have hm : g % s < s := Nat.mod_lt _ hs
      rcases Nat.eq_zero_or_pos (g % s) with ht | ht
      · rw [ht, lp_X2_commonPart_13, if_neg (show ¬ (64 : Int32) ≤ nI (k + 1) from n_le (b := 64) (by omega) (by omega)), if_pos (show nI 0 = (0 : Int32) from rfl), Nat.gcd_zero_right]
      · rw [lp_X2_commonPart_13, if_neg (show ¬ (64 : Int32) ≤ nI (k + 1) from n_le (b := 64) (by omega) (by omega)), if_neg (nI_ne0 ht (by omega)), Gd_c (nz_nI ht (by omega)), nI_rem h3 ht (by omega), Lt_e, nI_1, gcd_st s (g % s)]
        exact gcX e n _ _ _ (half_md ht hm h1) (by omega) (by have := Nat.mod_lt s ht; omega) (by omega) (by omega)
theorem gcM {N : Nat} {σ : fS} : ∀ (e n g s : Nat), s < 2 ^ e → g < 2 ^ 31 → s < 2 ^ 31 → 2 * e < n → lp_X8_common_13 N n (nI g) (nI s) σ = some (nI (Nat.gcd g s), σ)
  | 0, n, g, s, h1, h2, h3, h5 => by
    obtain ⟨n, rfl⟩ : ∃ m, n = m + 1 := ⟨n - 1, by omega⟩
    have hs : s = 0 := by simpa using h1
    subst hs
    rw [lp_X8_common_13, if_pos (show nI 0 = (0 : Int32) from rfl), Nat.gcd_zero_right]
  | e + 1, n, g, s, h1, h2, h3, h5 => by
    obtain ⟨n, rfl⟩ : ∃ m, n = m + 1 + 1 := ⟨n - 2, by omega⟩
    rcases Nat.eq_zero_or_pos s with hs | hs
    · subst hs
      rw [lp_X8_common_13, if_pos (show nI 0 = (0 : Int32) from rfl), Nat.gcd_zero_right]
    · rw [lp_X8_common_13, if_neg (nI_ne0 hs h3), Gd_c (nz_nI hs h3), nI_rem h2 hs h3, Lt_e, gcd_st g s]
      have hm : g % s < s := Nat.mod_lt _ hs
      rcases Nat.eq_zero_or_pos (g % s) with ht | ht
      · rw [ht, lp_X8_common_13, if_pos (show nI 0 = (0 : Int32) from rfl), Nat.gcd_zero_right]
      · rw [lp_X8_common_13, if_neg (nI_ne0 ht (by omega)), Gd_c (nz_nI ht (by omega)), nI_rem h3 ht (by omega), Lt_e, gcd_st s (g % s)]
        exact gcM e n _ _ (half_md ht hm h1) (by omega) (by have := Nat.mod_lt s ht; omega) (by omega)
theorem v_gcX {N g : Nat} {z : Int} (σ : fS) (hN : 200 ≤ N) (hg : g < 2 ^ 31) (hz : z.natAbs < 256) : g_X2_commonPart N (nI g) (zI z) σ = some (nI (Nat.gcd g z.natAbs), σ) := by
  unfold g_X2_commonPart
  have h1 : g_J9_abs_0f7a4 N (nI g) σ = some (nI g, σ) := by
    have := v_abs N (z := (g : Int)) (by omega) (by omega) σ
    simpa [zI_nat] using this
  rw [h1, Bd_s, v_abs N (by omega) (by omega), Bd_s, show (0 : Int32) = nI 0 from rfl, gcX 8 N g z.natAbs 0 (by omega) hg (by omega) (by omega) (by omega), Bd_s]
theorem v_gcM {N g : Nat} {z : Int} (σ : fS) (hN : 200 ≤ N) (hg : g < 2 ^ 31) (hz : z.natAbs < 256) : g_X8_common N (nI g) (zI z) σ = some (nI (Nat.gcd g z.natAbs), σ) := by
  unfold g_X8_common
  have h0 := zI_0le (z := z) ⟨by omega, by omega⟩
  have hn : (if (0 : Int32) ≤ zI z then some (zI z, σ) else some (-zI z, σ)) = some (nI z.natAbs, σ) := by
    by_cases hs : 0 ≤ z
    · rw [if_pos (h0.mpr hs), show zI z = nI z.natAbs by rw [← zI_nat]; congr 1; omega]
    · rw [if_neg (fun q => hs (h0.mp q)), zI_neg, show zI (-z) = nI z.natAbs by rw [← zI_nat]; congr 1; omega]
  rw [hn, Bd_s, gcM 8 N g z.natAbs (by omega) hg (by omega) (by omega), Bd_s]
/-! PAIRS in order -/
def sqN (b : Int) : Nat := b.natAbs * b.natAbs
def cOf (n a : Nat) (b : Int) : Nat := (n + sqN b) / (4 * a)
def inO (n a : Nat) (b : Int) : Bool := decide (a < cOf n a b ∨ (a = cOf n a b ∧ 0 ≤ b))
def okP (n a : Nat) (b : Int) : Bool := decide ((n + sqN b) % (4 * a) = 0) && inO n a b && decide (Nat.gcd (Nat.gcd a b.natAbs) (cOf n a b) = 1)
def adP (n a : Nat) (b : Int) (P : List (Nat × Int × Nat)) : List (Nat × Int × Nat) := if okP n a b then P ++ [(a, b, cOf n a b)] else P
def rwP (n a : Nat) : Nat → Int → List (Nat × Int × Nat) → List (Nat × Int × Nat)
  | 0, _, P => P
  | d + 1, b, P => rwP n a d (b + 1) (adP n a b P)
def goP (n : Nat) : Nat → Nat → List (Nat × Int × Nat) → List (Nat × Int × Nat)
  | 0, _, P => P
  | f + 1, a, P => if 3 * a * a ≤ n then goP n f (a + 1) (rwP n a (2 * a) (1 - (a : Int)) P) else P
def d0 : Nat × Int × Nat := (0, 0, 0)
def pOK (p : Nat × Int × Nat) : Prop := 1 ≤ p.1 ∧ p.1 ≤ 7 ∧ -(p.1 : Int) ≤ p.2.1 ∧ p.2.1 ≤ p.1 ∧ p.1 ≤ p.2.2 ∧ p.2.2 ≤ 60
def cX (σ : fS) (P : List (Nat × Int × Nat)) : Prop := σ.1 9 7 = nI P.length ∧ ∀ k, k < P.length → σ.1 10 k = nI (P.getD k d0).1 ∧ σ.1 11 k = zI (P.getD k d0).2.1 ∧ σ.1 12 k = nI (P.getD k d0).2.2
def cM (σ : fS) (P : List (Nat × Int × Nat)) : Prop := σ.1 61 14 = nI P.length ∧ ∀ k, k < P.length → σ.1 71 k = nI (P.getD k d0).1 ∧ σ.1 72 k = zI (P.getD k d0).2.1 ∧ σ.1 73 k = nI (P.getD k d0).2.2
def pAll (P : List (Nat × Int × Nat)) : Prop := ∀ k, k < P.length → pOK (P.getD k d0)
theorem gS_lt {P : List (Nat × Int × Nat)} {p : Nat × Int × Nat} {i : Nat} (h : i < P.length) : (P ++ [p]).getD i d0 = P.getD i d0 := by
  rw [List.getD_eq_getElem?_getD, List.getD_eq_getElem?_getD, List.getElem?_append_left h]
theorem gS_eq {P : List (Nat × Int × Nat)} {p : Nat × Int × Nat} : (P ++ [p]).getD P.length d0 = p := by
  rw [List.getD_eq_getElem?_getD, List.getElem?_append_right (Nat.le_refl _)]
  simp
theorem pAll.add {P : List (Nat × Int × Nat)} {p : Nat × Int × Nat} (h : pAll P) (hp : pOK p) : pAll (P ++ [p]) := by
  intro k hk
  simp at hk
  by_cases c : k = P.length
  · subst c; rw [gS_eq]; exact hp
  · rw [gS_lt (by omega)]; exact h k (by omega)
theorem sqN_le {b : Int} (h1 : -7 ≤ b) (h2 : b ≤ 7) : sqN b ≤ 49 := Nat.mul_le_mul (show b.natAbs ≤ 7 by omega) (show b.natAbs ≤ 7 by omega)
theorem cOf_le {n a : Nat} {b : Int} (hn : n ≤ 160) (ha : 1 ≤ a) (h1 : -7 ≤ b) (h2 : b ≤ 7) : cOf n a b ≤ 52 := by
  have := sqN_le h1 h2
  unfold cOf
  have h3 : (n + sqN b) / (4 * a) ≤ (n + sqN b) / 4 := Nat.div_le_div_left (by omega) (by decide)
  omega
theorem adP_ok {n a : Nat} {b : Int} (hn : n ≤ 160) (ha : 1 ≤ a) (ha7 : a ≤ 7) (h1 : -(a : Int) ≤ b) (h2 : b ≤ a) (h : okP n a b = true) : pOK (a, b, cOf n a b) := by
  have hc := cOf_le (b := b) hn ha (by omega) (by omega)
  unfold okP inO at h
  simp only [Bool.and_eq_true, decide_eq_true_eq] at h
  exact ⟨ha, ha7, h1, h2, by show a ≤ cOf n a b; omega, by show cOf n a b ≤ 60; omega⟩
theorem adP_len (n a : Nat) (b : Int) (P : List (Nat × Int × Nat)) : (adP n a b P).length ≤ P.length + 1 := by unfold adP; split <;> simp
theorem adP_all {n a : Nat} {b : Int} {P : List (Nat × Int × Nat)} (hn : n ≤ 160) (ha : 1 ≤ a) (ha7 : a ≤ 7) (h1 : -(a : Int) ≤ b) (h2 : b ≤ a) (h : pAll P) : pAll (adP n a b P) := by
  unfold adP
  by_cases c : okP n a b = true
  · rw [if_pos c]; exact h.add (adP_ok hn ha ha7 h1 h2 c)
  · rw [if_neg c]; exact h
theorem rwP_len (n a : Nat) : ∀ (d : Nat) (b : Int) (P : List (Nat × Int × Nat)), (rwP n a d b P).length ≤ P.length + d
  | 0, _, P => Nat.le_refl _
  | d + 1, b, P => by
    show (rwP n a d (b + 1) (adP n a b P)).length ≤ _
    have h1 := rwP_len n a d (b + 1) (adP n a b P)
    have h2 := adP_len n a b P
    omega
theorem rwP_all {n a : Nat} (hn : n ≤ 160) (ha : 1 ≤ a) (ha7 : a ≤ 7) : ∀ (d : Nat) (b : Int) (P : List (Nat × Int × Nat)), -(a : Int) ≤ b → b + d = a + 1 → pAll P → pAll (rwP n a d b P)
  | 0, _, P, _, _, h => h
  | d + 1, b, P, h1, h2, h => rwP_all hn ha ha7 d (b + 1) (adP n a b P) (by omega) (by omega) (adP_all hn ha ha7 h1 (by omega) h)
def sPX : List Nat := [9, 10, 11, 12]
theorem cX_add {σ : fS} {P : List (Nat × Int × Nat)} (h : cX σ P) (p : Nat × Int × Nat) : cX (sI (sI (sI (sI σ 10 P.length (nI p.1)) 11 P.length (zI p.2.1)) 12 P.length (nI p.2.2)) 9 7 (nI (P.length + 1))) (P ++ [p]) := by
  refine ⟨by rw [sI_same]; simp, fun k hk => ?_⟩
  simp at hk
  by_cases c : k = P.length
  · subst c
    rw [gS_eq]
    refine ⟨?_, ?_, ?_⟩
    · rw [sI_other _ _ (Or.inl (by decide)), sI_other _ _ (Or.inl (by decide)), sI_other _ _ (Or.inl (by decide)), sI_same]
    · rw [sI_other _ _ (Or.inl (by decide)), sI_other _ _ (Or.inl (by decide)), sI_same]
    · rw [sI_other _ _ (Or.inl (by decide)), sI_same]
  · rw [gS_lt (by omega)]
    obtain ⟨a1, a2, a3⟩ := h.2 k (by omega)
    refine ⟨?_, ?_, ?_⟩
    · rw [sI_other _ _ (Or.inl (by decide)), sI_other _ _ (Or.inl (by decide)), sI_other _ _ (Or.inl (by decide)), sI_other _ _ (Or.inr c)]; exact a1
    · rw [sI_other _ _ (Or.inl (by decide)), sI_other _ _ (Or.inl (by decide)), sI_other _ _ (Or.inr c), sI_other _ _ (Or.inl (by decide))]; exact a2
    · rw [sI_other _ _ (Or.inl (by decide)), sI_other _ _ (Or.inr c), sI_other _ _ (Or.inl (by decide)), sI_other _ _ (Or.inl (by decide))]; exact a3
theorem cM_add {σ : fS} {P : List (Nat × Int × Nat)} (h : cM σ P) (p : Nat × Int × Nat) : cM (sI (sI (sI (sI σ 71 P.length (nI p.1)) 72 P.length (zI p.2.1)) 73 P.length (nI p.2.2)) 61 14 (nI (P.length + 1))) (P ++ [p]) := by
  refine ⟨by rw [sI_same]; simp, fun k hk => ?_⟩
  simp at hk
  by_cases c : k = P.length
  · subst c
    rw [gS_eq]
    refine ⟨?_, ?_, ?_⟩
    · rw [sI_other _ _ (Or.inl (by decide)), sI_other _ _ (Or.inl (by decide)), sI_other _ _ (Or.inl (by decide)), sI_same]
    · rw [sI_other _ _ (Or.inl (by decide)), sI_other _ _ (Or.inl (by decide)), sI_same]
    · rw [sI_other _ _ (Or.inl (by decide)), sI_same]
  · rw [gS_lt (by omega)]
    obtain ⟨a1, a2, a3⟩ := h.2 k (by omega)
    refine ⟨?_, ?_, ?_⟩
    · rw [sI_other _ _ (Or.inl (by decide)), sI_other _ _ (Or.inl (by decide)), sI_other _ _ (Or.inl (by decide)), sI_other _ _ (Or.inr c)]; exact a1
    · rw [sI_other _ _ (Or.inl (by decide)), sI_other _ _ (Or.inl (by decide)), sI_other _ _ (Or.inr c), sI_other _ _ (Or.inl (by decide))]; exact a2
    · rw [sI_other _ _ (Or.inl (by decide)), sI_other _ _ (Or.inr c), sI_other _ _ (Or.inl (by decide)), sI_other _ _ (Or.inl (by decide))]; exact a3
theorem sq_I (n : Nat) (b : Int) : nI n + zI b * zI b = nI (n + sqN b) := by
  rw [zI_mul, ← zI_nat n, zI_add, ← zI_nat (n + sqN b)]
  congr 1
  unfold sqN
  rw [Int.natCast_add, Int.natAbs_mul_self]
/-! by the class -/
theorem adX {N n a : Nat} {b : Int} {σ : fS} {P : List (Nat × Int × Nat)} (hN : 200 ≤ N) (hn : n ≤ 160) (ha : 1 ≤ a) (ha7 : a ≤ 7) (h1 : -(a : Int) ≤ b) (h2 : b ≤ a) (hm : (n + sqN b) % (4 * a) = 0) (h : cX σ P) (hl : P.length < 56) : ∃ σ', g_X4_addIfReduced N (nI a) (zI b) (nI (cOf n a b)) σ = some σ' ∧ cX σ' (adP n a b P) ∧ ag sPX σ σ' ∧ σ'.1 9 6 = σ.1 9 6 := by
  have hc := cOf_le (b := b) hn ha (by omega) (by omega)
  have e1 : (nI a < nI (cOf n a b)) ↔ a < cOf n a b := nI_ltI (by omega) (by omega)
  have e2 : (nI a = nI (cOf n a b)) ↔ a = cOf n a b := n_eq (by omega) (by omega)
  have e3 : (zI b < (0 : Int32)) ↔ b < 0 := by rw [z0]; exact zI_lt (by omega) (by omega)
  have ho : (if nI a < nI (cOf n a b) then some ((1 : Int32), σ) else (if nI a = nI (cOf n a b) then (if zI b < 0 then some ((0 : Int32), σ) else some ((1 : Int32), σ)) else some ((0 : Int32), σ))) = some (bI (inO n a b), σ) := by
    unfold inO
    by_cases c1 : a < cOf n a b
    · rw [if_pos (e1.mpr c1), decide_eq_true (Or.inl c1)]; rfl
    · rw [if_neg (fun z => c1 (e1.mp z))]
      by_cases c2 : a = cOf n a b
      · rw [if_pos (e2.mpr c2)]
        by_cases c3 : b < 0
        · rw [if_pos (e3.mpr c3), decide_eq_false (by omega)]; rfl
        · rw [if_neg (fun z => c3 (e3.mp z)), decide_eq_true (Or.inr ⟨c2, by omega⟩)]; rfl
      · rw [if_neg (fun z => c2 (e2.mp z)), decide_eq_false (by omega)]; rfl
  have hg1 : Nat.gcd a b.natAbs ≤ a := Nat.gcd_le_left _ (by omega)
  have hg2 : Nat.gcd (Nat.gcd a b.natAbs) (cOf n a b) ≤ Nat.gcd a b.natAbs := Nat.gcd_le_left _ (Nat.gcd_pos_of_pos_left _ (by omega))
  have hgc : g_X2_commonPart N (nI (Nat.gcd a b.natAbs)) (nI (cOf n a b)) σ = some (nI (Nat.gcd (Nat.gcd a b.natAbs) (cOf n a b)), σ) := by
    have := v_gcX (N := N) (g := Nat.gcd a b.natAbs) (z := (cOf n a b : Int)) σ hN (by omega) (by omega)
    simpa [zI_nat] using this
  have eg : (nI (Nat.gcd (Nat.gcd a b.natAbs) (cOf n a b)) = (1 : Int32)) ↔ Nat.gcd (Nat.gcd a b.natAbs) (cOf n a b) = 1 := n_eq (b := 1) (by omega) (by decide)
  unfold g_X4_addIfReduced adP okP
  rw [ho, Bd_s, v_gcX _ hN (by omega) (by omega), Bd_s, hgc, Bd_s, decide_eq_true hm]
  cases hi : inO n a b
  · rw [if_pos (show bI false = 0 from rfl)]
    exact ⟨σ, rfl, h, ag.rf, rfl⟩
  · rw [if_neg (show ¬ bI true = 0 by decide)]
    by_cases c : Nat.gcd (Nat.gcd a b.natAbs) (cOf n a b) = 1
    · rw [if_pos (eg.mpr c), h.1, if_neg (show ¬ (56 : Int32) ≤ nI P.length from n_le (b := 56) (by omega) hl), Gd_c (fin_nI hl (by omega)), n_cl (by omega), Lt_e, sI_other _ _ (Or.inl (by decide)), h.1, Gd_c (fin_nI hl (by omega)), n_cl (by omega), Lt_e, sI_other _ _ (Or.inl (by decide)), sI_other _ _ (Or.inl (by decide)), h.1, Gd_c (fin_nI hl (by omega)), n_cl (by omega), Lt_e, sI_other _ _ (Or.inl (by decide)), sI_other _ _ (Or.inl (by decide)), sI_other _ _ (Or.inl (by decide)), h.1, nI_1, Lt_e, decide_eq_true c]
      refine ⟨_, rfl, cX_add h (a, b, cOf n a b), ?_, ?_⟩
      · exact (((ag.sI _ (by decide) _ _).tr (ag.sI _ (by decide) _ _)).tr (ag.sI _ (by decide) _ _)).tr (ag.sI _ (by decide) _ _)
      · rw [sI_other _ _ (Or.inr (by decide)), sI_other _ _ (Or.inl (by decide)), sI_other _ _ (Or.inl (by decide)), sI_other _ _ (Or.inl (by decide))]
    · rw [if_neg (fun z => c (eg.mp z)), decide_eq_false c]
      exact ⟨σ, rfl, h, ag.rf, rfl⟩
theorem opX_in {N n a : Nat} (hN : 200 ≤ N) (hn : n ≤ 160) (ha : 1 ≤ a) (ha7 : a ≤ 7) : ∀ (d f : Nat) (b : Int) (P : List (Nat × Int × Nat)) (σ : fS), d < f → -(a : Int) ≤ b → b + d = a + 1 → cX σ P → σ.1 9 6 = nI n → P.length + d ≤ 56 → ∃ σ', lp_X4_open_49 N (nI a) f (zI b) σ = some σ' ∧ cX σ' (rwP n a d b P) ∧ ag sPX σ σ' ∧ σ'.1 9 6 = nI n
  | 0, f, b, P, σ, hf, h1, h2, h, h6, hl => by
    obtain ⟨f, rfl⟩ : ∃ m, f = m + 1 := ⟨f - 1, by omega⟩
    rw [lp_X4_open_49, if_pos (show nI a < zI b by rw [← zI_nat, zI_lt (by omega) (by omega)]; omega)]
    exact ⟨σ, rfl, h, ag.rf, h6⟩
  | d + 1, f, b, P, σ, hf, h1, h2, h, h6, hl => by
    obtain ⟨f, rfl⟩ : ∃ m, f = m + 1 := ⟨f - 1, by omega⟩
    have hs := sqN_le (b := b) (by omega) (by omega)
    have h4a : (4 : Int32) * nI a = nI (4 * a) := pk_mul 4 a
    have hb1 : zI b + (1 : Int32) = zI (b + 1) := by rw [show (1 : Int32) = zI 1 from rfl, zI_add]
    have hl2 := adP_len n a b P
    rw [lp_X4_open_49, if_neg (show ¬ nI a < zI b by rw [← zI_nat, zI_lt (by omega) (by omega)]; omega), h4a, h6, sq_I, Gd_c (nz_nI (by omega) (by omega)), nI_rem (by omega) (by omega) (by omega), hb1]
    have e0 : (nI ((n + sqN b) % (4 * a)) = 0) ↔ (n + sqN b) % (4 * a) = 0 := n_eq0 (by have := Nat.mod_le (n + sqN b) (4 * a); omega)
    by_cases c : (n + sqN b) % (4 * a) = 0
    · rw [if_pos (e0.mpr c), Gd_c (nz_nI (by omega) (by omega)), pk_div (by omega) (by omega) (by omega)]
      obtain ⟨s1, f1, c1, g1, k1⟩ := adX (N := N) (b := b) hN hn ha ha7 h1 (by omega) c h (by omega)
      rw [show nI ((n + sqN b) / (4 * a)) = nI (cOf n a b) from rfl, f1, Bv_s]
      obtain ⟨s2, f2, c2, g2, k2⟩ := opX_in hN hn ha ha7 d f (b + 1) (adP n a b P) s1 (by omega) (by omega) (by omega) c1 (k1.trans h6) (by omega)
      exact ⟨s2, f2, c2, g1.tr g2, k2⟩
    · rw [if_neg (fun z => c (e0.mp z))]
      have hno : adP n a b P = P := by unfold adP okP; rw [decide_eq_false c]; rfl
      obtain ⟨s2, f2, c2, g2, k2⟩ := opX_in hN hn ha ha7 d f (b + 1) P σ (by omega) (by omega) (by omega) h h6 (by omega)
      refine ⟨s2, f2, ?_, g2, k2⟩
      show cX s2 (rwP n a d (b + 1) (adP n a b P))
      rw [hno]; exact c2
theorem aa_A : ∀ a, a < 8 → 1 ≤ a → a ≤ 7 ∧ a * (a - 1) + 2 * a = (a + 1) * (a + 1 - 1) ∧ a * (a - 1) + 2 * a ≤ 56 ∧ 3 * a * a ≤ 147 ∧ a ≤ 3 * a * a := by decide +kernel
theorem opX_go {N n : Nat} (hN : 200 ≤ N) (hn : n ≤ 160) : ∀ (d f a : Nat) (P : List (Nat × Int × Nat)) (σ : fS), d < f → 1 ≤ a → a + d = 8 → cX σ P → σ.1 9 6 = nI n → P.length ≤ a * (a - 1) → pAll P → ∃ σ', lp_X4_open_25 N f (nI a) σ = some σ' ∧ cX σ' (goP n d a P) ∧ ag sPX σ σ' ∧ σ'.1 9 6 = nI n ∧ (goP n d a P).length ≤ 56 ∧ pAll (goP n d a P)
  | 0, f, a, P, σ, hf, h1, h2, h, h6, hl, hp => by
    obtain ⟨f, rfl⟩ : ∃ m, f = m + 1 := ⟨f - 1, by omega⟩
    have : a = 8 := by omega
    subst this
    have h3 : (3 : Int32) * nI 8 * nI 8 = nI 192 := by decide
    rw [lp_X4_open_25, h6]
    refine ⟨σ, ?_, h, ag.rf, h6, hl, hp⟩
    by_cases c : nI n < nI 8
    · rw [if_pos c]
    · rw [if_neg c, h3, if_pos ((nI_ltI (by omega) (by omega)).mpr (by omega))]
  | d + 1, f, a, P, σ, hf, h1, h2, h, h6, hl, hp => by
    obtain ⟨f, rfl⟩ : ∃ m, f = m + 1 := ⟨f - 1, by omega⟩
    obtain ⟨q1, q2, q3, q4, q5⟩ := aa_A a (by omega) h1
    have h3 : (3 : Int32) * nI a * nI a = nI (3 * a * a) := by rw [show (3 : Int32) * nI a = nI (3 * a) from pk_mul 3 a, pk_mul]
    have e3 : (nI n < nI (3 * a * a)) ↔ n < 3 * a * a := nI_ltI (by omega) (by omega)
    have e1 : (nI n < nI a) ↔ n < a := nI_ltI (by omega) (by omega)
    have hb : (1 : Int32) - nI a = zI (1 - (a : Int)) := by rw [← zI_nat, show (1 : Int32) = zI 1 from rfl, zI_sub]
    rw [lp_X4_open_25, h6, h3]
    unfold goP
    by_cases c : 3 * a * a ≤ n
    · rw [if_neg (fun z => by have := e1.mp z; omega), if_neg (fun z => by have := e3.mp z; omega), if_pos c, hb, Lt_e, nI_1]
      obtain ⟨s1, f1, c1, g1, k1⟩ := opX_in (n := n) hN hn h1 q1 (2 * a) N (1 - (a : Int)) P σ (by omega) (by omega) (by omega) h h6 (by omega)
      rw [f1, Bv_s]
      have hl1 := rwP_len n a (2 * a) (1 - (a : Int)) P
      obtain ⟨s2, f2, c2, g2, k2, l2, p2⟩ := opX_go hN hn d f (a + 1) _ s1 (by omega) (by omega) (by omega) c1 k1 (by omega) (rwP_all hn h1 q1 (2 * a) _ P (by omega) (by omega) hp)
      exact ⟨s2, f2, c2, g1.tr g2, k2, l2, p2⟩
    · rw [if_neg c]
      refine ⟨σ, ?_, h, ag.rf, h6, by omega, hp⟩
      by_cases c1 : n < a
      · rw [if_pos (e1.mpr c1)]
      · rw [if_neg (fun z => c1 (e1.mp z)), if_pos (e3.mpr (by omega))]
def PL (n : Nat) : List (Nat × Int × Nat) := goP n 7 1 []
theorem PL_ok {n : Nat} (hn : n ≤ 160) : (PL n).length ≤ 56 ∧ pAll (PL n) := by
  obtain ⟨_, _, _, _, _, l, p⟩ := opX_go (N := 200) (Nat.le_refl _) hn 7 200 1 [] (sI (sI σ0 9 6 (nI n)) 9 7 0) (by decide) (by decide) rfl ⟨by rw [sI_same]; rfl, fun k hk => absurd hk (by simp)⟩ (by rw [sI_other _ _ (Or.inr (by decide)), sI_same]) (by simp) (fun k hk => absurd hk (by simp))
  exact ⟨l, p⟩
/-! by the reference -/
def sPM : List Nat := [61, 71, 72, 73]
theorem adM {N n a : Nat} {b : Int} {σ : fS} {P : List (Nat × Int × Nat)} (hN : 200 ≤ N) (hn : n ≤ 160) (ha : 1 ≤ a) (ha7 : a ≤ 7) (h1 : -(a : Int) ≤ b) (h2 : b ≤ a) (h : cM σ P) (h6 : σ.1 61 13 = nI n) (hl : P.length < 56) : ∃ σ', g_X8_addPair N (nI a) (zI b) σ = some σ' ∧ cM σ' (adP n a b P) ∧ ag sPM σ σ' ∧ ∀ i, i ≠ 14 → σ'.1 61 i = σ.1 61 i := by
  have hs := sqN_le (b := b) (by omega) (by omega)
  have hc := cOf_le (b := b) hn ha (by omega) (by omega)
  have h4a : (4 : Int32) * nI a = nI (4 * a) := pk_mul 4 a
  have e0 : (nI ((n + sqN b) % (4 * a)) = 0) ↔ (n + sqN b) % (4 * a) = 0 := n_eq0 (by have := Nat.mod_le (n + sqN b) (4 * a); omega)
  have e1 : (nI (cOf n a b) < nI a) ↔ cOf n a b < a := nI_ltI (by omega) (by omega)
  have e2 : (nI a < nI (cOf n a b)) ↔ a < cOf n a b := nI_ltI (by omega) (by omega)
  have e3 : (zI b < (0 : Int32)) ↔ b < 0 := by rw [z0]; exact zI_lt (by omega) (by omega)
  have ho : (if nI ((n + sqN b) % (4 * a)) = 0 then (if nI (cOf n a b) < nI a then some ((0 : Int32), σ) else (if nI a < nI (cOf n a b) then some ((1 : Int32), σ) else (if zI b < 0 then some ((0 : Int32), σ) else some ((1 : Int32), σ)))) else some ((0 : Int32), σ)) = some (bI (decide ((n + sqN b) % (4 * a) = 0) && inO n a b), σ) := by
    unfold inO
    by_cases c0 : (n + sqN b) % (4 * a) = 0
    · rw [if_pos (e0.mpr c0), decide_eq_true c0]
      by_cases c1 : cOf n a b < a
      · rw [if_pos (e1.mpr c1), decide_eq_false (by omega)]; rfl
      · rw [if_neg (fun z => c1 (e1.mp z))]
        by_cases c2 : a < cOf n a b
        · rw [if_pos (e2.mpr c2), decide_eq_true (Or.inl c2)]; rfl
        · rw [if_neg (fun z => c2 (e2.mp z))]
          by_cases c3 : b < 0
          · rw [if_pos (e3.mpr c3), decide_eq_false (by omega)]; rfl
          · rw [if_neg (fun z => c3 (e3.mp z)), decide_eq_true (Or.inr ⟨by omega, by omega⟩)]; rfl
    · rw [if_neg (fun z => c0 (e0.mp z)), decide_eq_false c0]; rfl
  have hg1 : Nat.gcd a b.natAbs ≤ a := Nat.gcd_le_left _ (by omega)
  have hg2 : Nat.gcd (Nat.gcd a b.natAbs) (cOf n a b) ≤ Nat.gcd a b.natAbs := Nat.gcd_le_left _ (Nat.gcd_pos_of_pos_left _ (by omega))
  have hgc : g_X8_common N (nI (Nat.gcd a b.natAbs)) (nI (cOf n a b)) σ = some (nI (Nat.gcd (Nat.gcd a b.natAbs) (cOf n a b)), σ) := by
    have := v_gcM (N := N) (g := Nat.gcd a b.natAbs) (z := (cOf n a b : Int)) σ hN (by omega) (by omega)
    simpa [zI_nat] using this
  have eg : (nI (Nat.gcd (Nat.gcd a b.natAbs) (cOf n a b)) = (1 : Int32)) ↔ Nat.gcd (Nat.gcd a b.natAbs) (cOf n a b) = 1 := n_eq (b := 1) (by omega) (by decide)
  unfold g_X8_addPair adP okP
  rw [h6, sq_I, Lt_e, h4a, Gd_c (nz_nI (by omega) (by omega)), pk_div (by omega) (by omega) (by omega), Lt_e, Gd_c (nz_nI (by omega) (by omega)), nI_rem (by omega) (by omega) (by omega), show nI ((n + sqN b) / (4 * a)) = nI (cOf n a b) from rfl, ho, Bd_s]
  cases hi : (decide ((n + sqN b) % (4 * a) = 0) && inO n a b)
  · rw [if_pos (show bI false = 0 from rfl)]
    exact ⟨σ, rfl, h, ag.rf, fun _ _ => rfl⟩
  · rw [if_neg (show ¬ bI true = 0 by decide), v_gcM _ hN (by omega) (by omega), Bd_s, hgc, Bd_s]
    by_cases c : Nat.gcd (Nat.gcd a b.natAbs) (cOf n a b) = 1
    · rw [if_pos (eg.mpr c), h.1, Gd_c (fin_nI hl (by omega)), n_cl (by omega), Lt_e, sI_other _ _ (Or.inl (by decide)), h.1, Gd_c (fin_nI hl (by omega)), n_cl (by omega), Lt_e, sI_other _ _ (Or.inl (by decide)), sI_other _ _ (Or.inl (by decide)), h.1, Gd_c (fin_nI hl (by omega)), n_cl (by omega), Lt_e, sI_other _ _ (Or.inl (by decide)), sI_other _ _ (Or.inl (by decide)), sI_other _ _ (Or.inl (by decide)), h.1, nI_1, Lt_e, decide_eq_true c]
      refine ⟨_, rfl, cM_add h (a, b, cOf n a b), ?_, fun i hi => ?_⟩
      · exact (((ag.sI _ (by decide) _ _).tr (ag.sI _ (by decide) _ _)).tr (ag.sI _ (by decide) _ _)).tr (ag.sI _ (by decide) _ _)
      · rw [sI_other _ _ (Or.inr hi), sI_other _ _ (Or.inl (by decide)), sI_other _ _ (Or.inl (by decide)), sI_other _ _ (Or.inl (by decide))]
    · rw [if_neg (fun z => c (eg.mp z)), decide_eq_false c]
      exact ⟨σ, rfl, h, ag.rf, fun _ _ => rfl⟩
theorem opM_in {N n a : Nat} (p1 : Int32) (hN : 200 ≤ N) (hn : n ≤ 160) (ha : 1 ≤ a) (ha7 : a ≤ 7) : ∀ (d f : Nat) (b : Int) (P : List (Nat × Int × Nat)) (σ : fS), d < f → -(a : Int) ≤ b → b + d = a + 1 → cM σ P → σ.1 61 13 = nI n → P.length + d ≤ 56 → ∃ σ', lp_X8_pairs_53 N p1 (nI a) f (zI b) σ = some σ' ∧ cM σ' (rwP n a d b P) ∧ ag sPM σ σ' ∧ ∀ i, i ≠ 14 → σ'.1 61 i = σ.1 61 i
  | 0, f, b, P, σ, hf, h1, h2, h, h6, hl => by
    obtain ⟨f, rfl⟩ : ∃ m, f = m + 1 := ⟨f - 1, by omega⟩
    rw [lp_X8_pairs_53, if_pos (show nI a < zI b by rw [← zI_nat, zI_lt (by omega) (by omega)]; omega)]
    exact ⟨σ, rfl, h, ag.rf, fun _ _ => rfl⟩
  | d + 1, f, b, P, σ, hf, h1, h2, h, h6, hl => by
    obtain ⟨f, rfl⟩ : ∃ m, f = m + 1 := ⟨f - 1, by omega⟩
    have hb1 : zI b + (1 : Int32) = zI (b + 1) := by rw [show (1 : Int32) = zI 1 from rfl, zI_add]
    have hl2 := adP_len n a b P
    obtain ⟨s1, f1, c1, g1, k1⟩ := adM (N := N) (b := b) hN hn ha ha7 h1 (by omega) h h6 (by omega)
    rw [lp_X8_pairs_53, if_neg (show ¬ nI a < zI b by rw [← zI_nat, zI_lt (by omega) (by omega)]; omega), f1, Bv_s, hb1]
    obtain ⟨s2, f2, c2, g2, k2⟩ := opM_in p1 hN hn ha ha7 d f (b + 1) (adP n a b P) s1 (by omega) (by omega) (by omega) c1 ((k1 13 (by decide)).trans h6) (by omega)
    exact ⟨s2, f2, c2, g1.tr g2, fun i hi => (k2 i hi).trans (k1 i hi)⟩
theorem opM_go {N n : Nat} (hN : 200 ≤ N) (hn : n ≤ 160) : ∀ (d f a : Nat) (P : List (Nat × Int × Nat)) (σ : fS), d < f → 1 ≤ a → a + d = 8 → cM σ P → σ.1 61 13 = nI n → P.length ≤ a * (a - 1) → ∃ σ', lp_X8_pairs_40 N (nI n) f (nI a) σ = some σ' ∧ cM σ' (goP n d a P) ∧ ag sPM σ σ' ∧ ∀ i, i ≠ 14 → σ'.1 61 i = σ.1 61 i
  | 0, f, a, P, σ, hf, h1, h2, h, h6, hl => by
    obtain ⟨f, rfl⟩ : ∃ m, f = m + 1 := ⟨f - 1, by omega⟩
    have : a = 8 := by omega
    subst this
    have h3 : (3 : Int32) * nI 8 * nI 8 = nI 192 := by decide
    rw [lp_X8_pairs_40, h3, if_pos ((nI_ltI (by omega) (by omega)).mpr (by omega))]
    exact ⟨σ, rfl, h, ag.rf, fun _ _ => rfl⟩
  | d + 1, f, a, P, σ, hf, h1, h2, h, h6, hl => by
    obtain ⟨f, rfl⟩ : ∃ m, f = m + 1 := ⟨f - 1, by omega⟩
    obtain ⟨q1, q2, q3, q4, q5⟩ := aa_A a (by omega) h1
    have h3 : (3 : Int32) * nI a * nI a = nI (3 * a * a) := by rw [show (3 : Int32) * nI a = nI (3 * a) from pk_mul 3 a, pk_mul]
    have e3 : (nI n < nI (3 * a * a)) ↔ n < 3 * a * a := nI_ltI (by omega) (by omega)
    have hb : (1 : Int32) - nI a = zI (1 - (a : Int)) := by rw [← zI_nat, show (1 : Int32) = zI 1 from rfl, zI_sub]
    rw [lp_X8_pairs_40, h3]
    unfold goP
    by_cases c : 3 * a * a ≤ n
    · rw [if_neg (fun z => by have := e3.mp z; omega), if_pos c, hb, Lt_e, nI_1]
      obtain ⟨s1, f1, c1, g1, k1⟩ := opM_in (n := n) (nI n) hN hn h1 q1 (2 * a) N (1 - (a : Int)) P σ (by omega) (by omega) (by omega) h h6 (by omega)
      rw [f1, Bv_s]
      have hl1 := rwP_len n a (2 * a) (1 - (a : Int)) P
      obtain ⟨s2, f2, c2, g2, k2⟩ := opM_go hN hn d f (a + 1) _ s1 (by omega) (by omega) (by omega) c1 ((k1 13 (by decide)).trans h6) (by omega)
      exact ⟨s2, f2, c2, g1.tr g2, fun i hi => (k2 i hi).trans (k1 i hi)⟩
    · rw [if_neg c, if_pos (e3.mpr (by omega))]
      exact ⟨σ, rfl, h, ag.rf, fun _ _ => rfl⟩
