/-! THE PAGE read: one automaton for both -/
def isN (v : Nat) : Bool := numB (nI v)
def kdm (mn : Bool) (v : Nat) : Nat := kindZ (if mn then -(v : Int) else (v : Int))
theorem kdm_lt (mn : Bool) (v : Nat) : kdm mn v < 128 := kindZ_lt _
def stp (c sz : Nat) (mn : Bool) (d : List Nat) : Option (Nat × Bool × List Nat) :=
  if 48 ≤ c ∧ c ≤ 57 ∧ isN (10 * sz + c - 48) = true then some (10 * sz + c - 48, mn, d)
  else if c = 45 ∧ sz = 0 ∧ mn = false then some (0, true, d)
  else if c = 44 ∧ sz ≠ 0 ∧ d.length < 3 then some (0, false, d ++ [kdm mn sz])
  else none
def rnP (pg : List Nat) : Nat → Nat → Nat → Bool → List Nat → Nat × Nat × Bool × List Nat
  | 0, i, sz, mn, d => (i, sz, mn, d)
  | f + 1, i, sz, mn, d => match stp (pg.getD i 0) sz mn d with
    | some (a, b, e) => rnP pg f (i + 1) a b e
    | none => (i, sz, mn, d)
theorem rnP_s {pg d e : List Nat} {f i sz a : Nat} {mn b : Bool} (h : stp (pg.getD i 0) sz mn d = some (a, b, e)) : rnP pg (f + 1) i sz mn d = rnP pg f (i + 1) a b e := by rw [rnP, h]
theorem rnP_n {pg d : List Nat} {f i sz : Nat} {mn : Bool} (h : stp (pg.getD i 0) sz mn d = none) : rnP pg (f + 1) i sz mn d = (i, sz, mn, d) := by rw [rnP, h]
theorem stp_d {c sz : Nat} {mn : Bool} {d : List Nat} (h1 : 48 ≤ c) (h2 : c ≤ 57) (h3 : isN (10 * sz + c - 48) = true) : stp c sz mn d = some (10 * sz + c - 48, mn, d) := by unfold stp; rw [if_pos ⟨h1, h2, h3⟩]
theorem stp_m {d : List Nat} : stp 45 0 false d = some (0, true, d) := by unfold stp; rw [if_neg (by omega), if_pos ⟨rfl, rfl, rfl⟩]
theorem stp_c {sz : Nat} {mn : Bool} {d : List Nat} (h : sz ≠ 0) (hd : d.length < 3) : stp 44 sz mn d = some (0, false, d ++ [kdm mn sz]) := by unfold stp; rw [if_neg (by omega), if_neg (by omega), if_pos ⟨rfl, h, hd⟩]
theorem stp_n {c sz : Nat} {mn : Bool} {d : List Nat} (h1 : ¬ (48 ≤ c ∧ c ≤ 57 ∧ isN (10 * sz + c - 48) = true)) (h2 : ¬ (c = 45 ∧ sz = 0 ∧ mn = false)) (h3 : ¬ (c = 44 ∧ sz ≠ 0 ∧ d.length < 3)) : stp c sz mn d = none := by unfold stp; rw [if_neg h1, if_neg h2, if_neg h3]
theorem isN_b {v : Nat} (hv : v < 2 ^ 31) (h : isN v = true) : 1 ≤ v ∧ v ≤ 99 := by
  obtain ⟨_, h1, h2, h3⟩ := num_z h
  rw [nI_toInt hv] at h1 h2 h3
  omega
theorem isN_19 : ∀ v, v < 10 → 1 ≤ v → isN v = true := by decide +kernel
theorem isN_0 : isN 0 = false := by decide +kernel
theorem gd_big {pg : List Nat} {k : Nat} (h : pg.length ≤ k) : pg.getD k 0 = 0 := by
  rw [List.getD_eq_getElem?_getD, List.getElem?_eq_none h]; rfl
theorem gd_mem {pg : List Nat} {k : Nat} (h : k < pg.length) : pg.getD k 0 ∈ pg := by
  rw [List.getD_eq_getElem?_getD, List.getElem?_eq_getElem h]; exact List.getElem_mem h
theorem gd_lt {pg : List Nat} {k : Nat} (h : pg.getD k 0 ≠ 0) : k < pg.length := by
  rcases Nat.lt_or_ge k pg.length with c | c
  · exact c
  · exact absurd (gd_big c) h
theorem ten_v {sz c : Nat} (h : 48 ≤ c) : (10 : Int32) * nI sz + nI c - 48 = nI (10 * sz + c - 48) := by
  show nI 10 * nI sz + nI c - nI 48 = _
  rw [pk_mul, nI_add, pk_sub (by omega)]
/-! the class's -/
theorem kdm_X {N sz : Nat} {mn : Bool} {α : Type} (s : fS) (hN : 200 ≤ N) (h0 : sz ≠ 0) (h9 : sz ≤ 99) (f : Int32 → fS → Option α) : (Bd (if bI mn = 0 then some (nI sz, s) else some (-nI sz, s)) fun o σj => Bd (g_X2_kindOf N o σj) f) = f (nI (kdm mn sz)) s := by
  cases mn
  · rw [if_pos (show bI false = 0 from rfl), Bd_s, ← zI_nat, v_kindX (by omega) (by omega) (by omega) (by omega), Bd_s]; rfl
  · rw [if_neg (show ¬ bI true = 0 by decide), Bd_s, ← zI_nat, zI_neg, v_kindX (by omega) (by omega) (by omega) (by omega), Bd_s]; rfl
theorem dig_X {N c : Nat} (s : fS) (hc : c < 2 ^ 31) : g_X3_isDigit N (nI c) s = some (bI (decide (48 ≤ c ∧ c ≤ 57)), s) := by
  unfold g_X3_isDigit
  have e1 : (nI c < (48 : Int32)) ↔ c < 48 := nI_ltI (b := 48) hc (by decide)
  have e2 : ((57 : Int32) < nI c) ↔ 57 < c := nI_ltI (a := 57) (by decide) hc
  by_cases h1 : c < 48
  · rw [if_pos (e1.mpr h1)]; simp [bI]; omega
  · rw [if_neg (fun z => h1 (e1.mp z))]
    by_cases h2 : 57 < c
    · rw [if_pos (e2.mpr h2)]; simp [bI]; omega
    · rw [if_neg (fun z => h2 (e2.mp z))]; simp [bI]; omega
theorem go_X {N c sz : Nat} (s : fS) (hN : 200 ≤ N) (hc : 48 ≤ c) : g_X3_goesOn N (nI sz) (nI c) s = some (bI (isN (10 * sz + c - 48)), s) := by
  unfold g_X3_goesOn
  rw [ten_v hc, v_isNumX (by omega), Bd_s]
  show Gd (isB (bI (isN (10 * sz + c - 48)))) _ = _
  rw [Gd_c (bI_B _)]; rfl
def PX (σ : fS) (pg : List Nat) : Prop := σ.1 1 1 = nI pg.length ∧ ∀ j, j < pg.length → σ.1 2 j = nI (pg.getD j 0)
theorem code_X {N i : Nat} {pg : List Nat} {σ : fS} (h : PX σ pg) (hp : pg.length ≤ 18) (hi : i < pg.length) : g_X3_codeAt N (nI i) σ = some (nI (pg.getD i 0), σ) := by
  unfold g_X3_codeAt
  rw [if_neg (n_lt0 (by omega)), h.1, if_neg (n_le (by omega) hi), if_neg (show ¬ (18 : Int32) ≤ nI i from n_le (b := 18) (by omega) (by omega)), Gd_c (fin_nI (show i < 18 by omega) (by omega)), n_cl (by omega), h.2 i hi]
theorem rdX {N : Nat} {pg : List Nat} (hN : 200 ≤ N) (hp : pg.length ≤ 18) (hc : ∀ c ∈ pg, 32 ≤ c ∧ c ≤ 126) : ∀ (f i n sz : Nat) (mn : Bool) (d : List Nat) (σ : fS), f + i = pg.length → f < n → sz ≤ 99 → d.length ≤ 3 → fr0 σ 4 d → PX σ pg →
    ∃ σ', lp_X3_readInto_11 N 4 n (nI sz) (bI mn) (nI i) σ = some (if (rnP pg f i sz mn d).1 < pg.length then .inl (nI (rnP pg f i sz mn d).1, σ') else .inr ((nI (rnP pg f i sz mn d).2.1, bI (rnP pg f i sz mn d).2.2.1), σ')) ∧ fr0 σ' 4 (rnP pg f i sz mn d).2.2.2 ∧ ag [4, 5] σ σ' ∧ (rnP pg f i sz mn d).2.1 ≤ 99 ∧ (rnP pg f i sz mn d).2.2.2.length ≤ 3 ∧ (rnP pg f i sz mn d).1 ≤ pg.length
  | 0, i, n, sz, mn, d, σ, he, hn, h9, h3, hfr, hP => by
    obtain ⟨n, rfl⟩ : ∃ m, n = m + 1 := ⟨n - 1, by omega⟩
    rw [lp_X3_readInto_11, hP.1, if_pos (y_le (by omega) (by omega))]
    refine ⟨σ, ?_, hfr, ag.rf, h9, h3, by show i ≤ pg.length; omega⟩
    rw [if_neg (by show ¬ i < pg.length; omega)]; rfl
  | f + 1, i, n, sz, mn, d, σ, he, hn, h9, h3, hfr, hP => by
    obtain ⟨n, rfl⟩ : ∃ m, n = m + 1 := ⟨n - 1, by omega⟩
    have hi : i < pg.length := by omega
    have hcb := hc _ (gd_mem hi)
    have hcode := code_X (N := N) hP hp hi
    obtain ⟨c, hcc⟩ : ∃ c, c = pg.getD i 0 := ⟨_, rfl⟩
    rw [← hcc] at hcb hcode
    have e45 : (nI c = (45 : Int32)) ↔ c = 45 := n_eq (b := 45) (by omega) (by decide)
    have e44 : (nI c = (44 : Int32)) ↔ c = 44 := n_eq (b := 44) (by omega) (by decide)
    have es0 : (nI sz = 0) ↔ sz = 0 := n_eq0 (by omega)
    have nope : stp c sz mn d = none → ∃ σ', (some (Sum.inl (nI i, σ)) : Option ((Int32 × fS) ⊕ ((Int32 × Int32) × fS))) = some (if (rnP pg (f + 1) i sz mn d).1 < pg.length then .inl (nI (rnP pg (f + 1) i sz mn d).1, σ') else .inr ((nI (rnP pg (f + 1) i sz mn d).2.1, bI (rnP pg (f + 1) i sz mn d).2.2.1), σ')) ∧ fr0 σ' 4 (rnP pg (f + 1) i sz mn d).2.2.2 ∧ ag [4, 5] σ σ' ∧ (rnP pg (f + 1) i sz mn d).2.1 ≤ 99 ∧ (rnP pg (f + 1) i sz mn d).2.2.2.length ≤ 3 ∧ (rnP pg (f + 1) i sz mn d).1 ≤ pg.length := by
      intro hst
      rw [hcc] at hst
      rw [rnP_n hst]
      exact ⟨σ, by rw [if_pos hi], hfr, ag.rf, h9, h3, by show i ≤ pg.length; omega⟩
    rw [lp_X3_readInto_11, hP.1, if_neg (n_le (by omega) hi), hcode, Bd_s, dig_X _ (by omega), Bd_s]
    by_cases hd : 48 ≤ c ∧ c ≤ 57
    · rw [if_neg (by simp [hd, bI]), go_X _ hN hd.1, Bd_s]
      cases hb : isN (10 * sz + c - 48)
      · rw [if_pos (show bI false = 0 from rfl), if_neg (fun z => by have := e45.mp z; omega), if_neg (fun z => by have := e44.mp z; omega)]
        exact nope (stp_n (fun q => by rw [hb] at q; exact absurd q.2.2 (by decide)) (by omega) (by omega))
      · rw [if_neg (show ¬ bI true = 0 by decide), ten_v hd.1, Lt_e, nI_1]
        have hst : stp (pg.getD i 0) sz mn d = some (10 * sz + c - 48, mn, d) := by rw [← hcc]; exact stp_d hd.1 hd.2 hb
        rw [rnP_s hst]
        exact rdX hN hp hc f (i + 1) n _ mn d σ (by omega) (by omega) (isN_b (by omega) hb).2 h3 hfr hP
    · rw [if_pos (by simp [hd, bI])]
      by_cases h45 : c = 45
      · rw [if_pos (e45.mpr h45)]
        by_cases h0 : sz = 0
        · rw [if_pos (es0.mpr h0)]
          cases mn
          · rw [if_pos (show bI false = 0 from rfl), nI_1]
            have hst : stp (pg.getD i 0) sz false d = some (0, true, d) := by rw [← hcc, h45, h0]; exact stp_m
            rw [rnP_s hst, h0]
            exact rdX hN hp hc f (i + 1) n 0 true d σ (by omega) (by omega) (by omega) h3 hfr hP
          · rw [if_neg (show ¬ bI true = 0 by decide), if_neg (fun z => by have := e44.mp z; omega)]
            exact nope (stp_n (fun q => hd ⟨q.1, q.2.1⟩) (fun q => absurd q.2.2 (by decide)) (by omega))
        · rw [if_neg (fun z => h0 (es0.mp z)), if_neg (fun z => by have := e44.mp z; omega)]
          exact nope (stp_n (fun q => hd ⟨q.1, q.2.1⟩) (fun q => h0 q.2.1) (by omega))
      · rw [if_neg (fun z => h45 (e45.mp z))]
        by_cases h44 : c = 44
        · rw [if_pos (e44.mpr h44)]
          by_cases h0 : sz = 0
          · rw [if_pos (es0.mpr h0)]
            exact nope (stp_n (fun q => hd ⟨q.1, q.2.1⟩) (fun q => h45 q.1) (fun q => q.2.1 h0))
          · rw [if_neg (fun z => h0 (es0.mp z)), hfr.1]
            by_cases h33 : d.length < 3
            · rw [if_neg (show ¬ (3 : Int32) ≤ nI d.length from n_le (b := 3) (by omega) h33), kdm_X _ hN h0 h9]
              obtain ⟨s', e', f', g'⟩ := v_add (N := N) hfr (by omega) (kdm_lt mn sz)
              rw [e', Bv_s, nI_1]
              have hst : stp (pg.getD i 0) sz mn d = some (0, false, d ++ [kdm mn sz]) := by rw [← hcc, h44]; exact stp_c h0 h33
              rw [rnP_s hst]
              obtain ⟨s2, q1, q2, q3, q4⟩ := rdX hN hp hc f (i + 1) n 0 false (d ++ [kdm mn sz]) s' (by omega) (by omega) (by omega) (by simp; omega) f' ⟨by rw [g'.i (by decide)]; exact hP.1, fun j hj => by rw [g'.i (by decide)]; exact hP.2 j hj⟩
              exact ⟨s2, q1, q2, g'.tr q3, q4⟩
            · rw [if_pos (show (3 : Int32) ≤ nI d.length from y_le (b := 3) (by omega) (by omega))]
              exact nope (stp_n (fun q => hd ⟨q.1, q.2.1⟩) (fun q => h45 q.1) (fun q => h33 q.2.2))
        · rw [if_neg (fun z => h44 (e44.mp z))]
          exact nope (stp_n (fun q => hd ⟨q.1, q.2.1⟩) (fun q => h45 q.1) (fun q => h44 q.1))
def rnA (pg : List Nat) : Nat × Nat × Bool × List Nat := rnP pg pg.length 0 0 false []
def rdD (pg : List Nat) : List Nat := (rnA pg).2.2.2 ++ [kdm (rnA pg).2.2.1 (rnA pg).2.1]
theorem v_rdX {N : Nat} {pg : List Nat} {σ : fS} (hN : 200 ≤ N) (hp : pg.length ≤ 18) (hc : ∀ c ∈ pg, 32 ≤ c ∧ c ≤ 126) (hP : PX σ pg) : ∃ σ', g_X3_readInto N 4 σ = some (nI (rnA pg).1, σ') ∧ ag [4, 5] σ σ' ∧ (rnA pg).1 ≤ pg.length ∧ ((rnA pg).1 = pg.length → (rnA pg).2.1 ≠ 0 → fr0 σ' 4 (rdD pg)) := by
  obtain ⟨s1, e1, f1, g1⟩ := v_empty (N := N) (k := 4) (σ := σ)
  have g1' : ag [4, 5] σ s1 := g1.mono (by simp)
  have hP1 : PX s1 pg := ⟨by rw [g1.i (by decide)]; exact hP.1, fun j hj => by rw [g1.i (by decide)]; exact hP.2 j hj⟩
  obtain ⟨s2, e2, f2, g2, h9, h3, hle⟩ := rdX hN hp hc pg.length 0 N 0 false [] s1 (by omega) (by omega) (by omega) (by simp) f1 hP1
  change (rnA pg).2.1 ≤ 99 at h9
  change (rnA pg).2.2.2.length ≤ 3 at h3
  change (rnA pg).1 ≤ pg.length at hle
  change fr0 s2 4 (rnA pg).2.2.2 at f2
  have e2' : lp_X3_readInto_11 N 4 N 0 0 0 s1 = some (if (rnA pg).1 < pg.length then .inl (nI (rnA pg).1, s2) else .inr ((nI (rnA pg).2.1, bI (rnA pg).2.2.1), s2)) := e2
  have h11 : s2.1 1 1 = nI pg.length := by rw [g2.i (by decide)]; exact hP1.1
  unfold g_X3_readInto
  rw [e1, Bv_s, e2']
  by_cases c : (rnA pg).1 < pg.length
  · rw [if_pos c, Bs_l]
    exact ⟨s2, rfl, g1'.tr g2, hle, fun h => absurd h (by omega)⟩
  · rw [if_neg c, Bs_r]
    have hpe : (rnA pg).1 = pg.length := by omega
    show ∃ σ', (if nI (rnA pg).2.1 = 0 then some (s2.1 1 1, s2) else Bd (if bI (rnA pg).2.2.1 = 0 then some (nI (rnA pg).2.1, s2) else some (-nI (rnA pg).2.1, s2)) fun o137 σj137 => Bd (g_X2_kindOf N o137 σj137) fun r146 σ146 => Bv (g_X0_add N 4 r146 σ146) fun σ149 => some (σ149.1 1 1, σ149)) = some (nI (rnA pg).1, σ') ∧ _
    by_cases h0 : (rnA pg).2.1 = 0
    · rw [if_pos ((n_eq0 (by omega)).mpr h0), h11, hpe]
      exact ⟨s2, rfl, g1'.tr g2, Nat.le_refl _, fun _ h => absurd h0 h⟩
    · rw [if_neg (fun z => h0 ((n_eq0 (by omega)).mp z)), kdm_X _ hN h0 h9]
      obtain ⟨s', e', f', g'⟩ := v_add (N := N) f2 (by omega) (kdm_lt (rnA pg).2.2.1 (rnA pg).2.1)
      rw [e', Bv_s]
      exact ⟨s', by rw [g'.i (by decide), h11, hpe], (g1'.tr g2).tr g', hle, fun _ _ => f'⟩
theorem rnP_last {pg : List Nat} : ∀ (f i sz : Nat) (mn : Bool) (d : List Nat), f + 1 + i = pg.length → sz ≤ 99 → (∀ c ∈ pg, c ≤ 126) → (rnP pg (f + 1) i sz mn d).1 = pg.length → ((48 ≤ pg.getD (pg.length - 1) 0 ∧ pg.getD (pg.length - 1) 0 ≤ 57) ↔ (rnP pg (f + 1) i sz mn d).2.1 ≠ 0) := by
  intro f
  induction f with
  | zero =>
    intro i sz mn d he h9 hc
    have hc1 := hc _ (gd_mem (show i < pg.length by omega))
    rw [show pg.length - 1 = i by omega]
    generalize hx : pg.getD i 0 = c at hc1
    by_cases h1 : 48 ≤ c ∧ c ≤ 57 ∧ isN (10 * sz + c - 48) = true
    · have hst : stp (pg.getD i 0) sz mn d = some (10 * sz + c - 48, mn, d) := by rw [hx]; exact stp_d h1.1 h1.2.1 h1.2.2
      rw [rnP_s hst]
      intro _
      have hb := isN_b (by omega) h1.2.2
      show _ ↔ 10 * sz + c - 48 ≠ 0
      omega
    · by_cases h2 : c = 45 ∧ sz = 0 ∧ mn = false
      · have hst : stp (pg.getD i 0) sz mn d = some (0, true, d) := by rw [hx, h2.1, h2.2.1, h2.2.2]; exact stp_m
        rw [rnP_s hst]
        intro _
        show _ ↔ 0 ≠ 0
        omega
      · by_cases h3 : c = 44 ∧ sz ≠ 0 ∧ d.length < 3
        · have hst : stp (pg.getD i 0) sz mn d = some (0, false, d ++ [kdm mn sz]) := by rw [hx, h3.1]; exact stp_c h3.2.1 h3.2.2
          rw [rnP_s hst]
          intro _
          show _ ↔ 0 ≠ 0
          omega
        · have hst : stp (pg.getD i 0) sz mn d = none := by rw [hx]; exact stp_n h1 h2 h3
          rw [rnP_n hst]
          intro h
          change i = pg.length at h
          omega
  | succ f ih =>
    intro i sz mn d he h9 hc hl
    have hc1 := hc _ (gd_mem (show i < pg.length by omega))
    generalize hx : pg.getD i 0 = c at hc1
    by_cases h1 : 48 ≤ c ∧ c ≤ 57 ∧ isN (10 * sz + c - 48) = true
    · have hst : stp (pg.getD i 0) sz mn d = some (10 * sz + c - 48, mn, d) := by rw [hx]; exact stp_d h1.1 h1.2.1 h1.2.2
      rw [rnP_s hst] at hl ⊢
      exact ih _ _ _ _ (by omega) (isN_b (by omega) h1.2.2).2 hc hl
    · by_cases h2 : c = 45 ∧ sz = 0 ∧ mn = false
      · have hst : stp (pg.getD i 0) sz mn d = some (0, true, d) := by rw [hx, h2.1, h2.2.1, h2.2.2]; exact stp_m
        rw [rnP_s hst] at hl ⊢
        exact ih _ _ _ _ (by omega) (by omega) hc hl
      · by_cases h3 : c = 44 ∧ sz ≠ 0 ∧ d.length < 3
        · have hst : stp (pg.getD i 0) sz mn d = some (0, false, d ++ [kdm mn sz]) := by rw [hx, h3.1]; exact stp_c h3.2.1 h3.2.2
          rw [rnP_s hst] at hl ⊢
          exact ih _ _ _ _ (by omega) (by omega) hc hl
        · have hst : stp (pg.getD i 0) sz mn d = none := by rw [hx]; exact stp_n h1 h2 h3
          rw [rnP_n hst] at hl
          change i = pg.length at hl
          omega
theorem v_endX {N : Nat} {pg : List Nat} {σ : fS} (hp : pg.length ≤ 18) (hc : ∀ c ∈ pg, 32 ≤ c ∧ c ≤ 126) (hP : PX σ pg) (hl : (rnA pg).1 = pg.length) : g_X3_endsInDigit N σ = some (bI (decide ((rnA pg).2.1 ≠ 0)), σ) := by
  unfold g_X3_endsInDigit
  rw [hP.1]
  rcases Nat.eq_zero_or_pos pg.length with h0 | h0
  · have hz : (rnA pg).2.1 = 0 := by unfold rnA; rw [h0]; rfl
    have hcode : g_X3_codeAt N (nI pg.length - 1) σ = some (0, σ) := by
      unfold g_X3_codeAt
      rw [h0, if_pos (by decide)]
    rw [hcode, Bd_s, show g_X3_isDigit N 0 σ = some (bI false, σ) from by unfold g_X3_isDigit; rw [if_pos (by decide)]; rfl, Bd_s, Gd_c (bI_B _), hz]
    rfl
  · obtain ⟨f, hf⟩ : ∃ f, pg.length = f + 1 := ⟨pg.length - 1, by omega⟩
    have hr := rnP_last (pg := pg) f 0 0 false [] (by omega) (by omega) (fun c h => (hc c h).2)
    rw [← hf] at hr
    have hr' := hr hl
    have hcb := hc _ (gd_mem (show pg.length - 1 < pg.length by omega))
    rw [n_sub1 h0, code_X hP hp (by omega), Bd_s, dig_X _ (by omega), Bd_s, Gd_c (bI_B _)]
    rw [show decide (48 ≤ pg.getD (pg.length - 1) 0 ∧ pg.getD (pg.length - 1) 0 ≤ 57) = decide ((rnA pg).2.1 ≠ 0) from decide_eq_decide.mpr hr']
