/-! THE PAGE read by the reference; fault, put -/
def PM (σ : fS) (pg : List Nat) : Prop := σ.1 61 5 = nI pg.length ∧ ∀ j, j < pg.length → σ.1 67 j = nI (pg.getD j 0)
theorem lt_M {N k : Nat} {pg : List Nat} {σ : fS} (h : PM σ pg) (hp : pg.length ≤ 18) (hk : k < 2 ^ 31) : g_X8_letterAt N (nI k) σ = some (nI (pg.getD k 0), σ) := by
  unfold g_X8_letterAt
  rw [h.1]
  by_cases c : pg.length ≤ k
  · rw [if_pos (y_le hk c), gd_big c]; rfl
  · rw [if_neg (n_le (by omega) (by omega)), Gd_c (fin_nI (show k < 18 by omega) (by omega)), n_cl hk, h.2 k (by omega)]
theorem wi_M {N c a b : Nat} (s : fS) (hc : c < 2 ^ 31) (ha : a < 2 ^ 31) (hb : b < 2 ^ 31) : g_X8_within N (nI c) (nI a) (nI b) s = some (bI (decide (a ≤ c ∧ c ≤ b)), s) := by
  rw [v_within]
  have e : (nI a ≤ nI c ∧ nI c ≤ nI b) ↔ (a ≤ c ∧ c ≤ b) := by rw [nI_leI ha hc, nI_leI hc hb]
  by_cases h : a ≤ c ∧ c ≤ b
  · rw [if_pos (e.mpr h)]; simp [h, bI]
  · rw [if_neg (fun z => h (e.mp z))]; simp only [h, decide_false]; rfl
def neA (σ : fS) (d : List Nat) (a : Nat) : fS := sI (sI σ 82 d.length (nI a)) 61 28 (nI (d.length + 1))
theorem NW.add {σ : fS} {d : List Nat} {a : Nat} (h : NW σ d) (h3 : d.length ≤ 3) (ha : a < 128) : NW (neA σ d a) (d ++ [a]) := by
  refine ⟨?_, fun e he => ?_, by simp; omega, ?_⟩
  · unfold neA; rw [sI_same]; simp
  · unfold neA
    rw [sI_other _ _ (Or.inl (by decide))]
    simp at he
    by_cases c : e = d.length
    · subst c; rw [sI_same, getD_snoc_eq]
    · rw [sI_other _ _ (Or.inr c), getD_snoc_lt (by omega)]; exact h.2.1 e (by omega)
  · intro b hb
    rcases List.mem_append.mp hb with hb | hb
    · exact h.2.2.2 b hb
    · rw [List.mem_singleton.mp hb]; exact ha
theorem neA_ag (σ : fS) (d : List Nat) (a : Nat) : ag [61, 82] σ (neA σ d a) := (ag.sI _ (by simp) _ _).tr (ag.sI _ (by simp) _ _)
theorem neA_61 (σ : fS) (d : List Nat) (a : Nat) : ∀ i, i ≠ 28 → (neA σ d a).1 61 i = σ.1 61 i := fun i hi => by
  unfold neA; rw [sI_other _ _ (Or.inr hi), sI_other _ _ (Or.inl (by decide))]
theorem PM.ag {σ τ : fS} {pg : List Nat} (h : PM σ pg) (g : ag [61, 82] σ τ) (p : τ.1 61 5 = σ.1 61 5) : PM τ pg := ⟨p.trans h.1, fun j hj => by rw [g.i (by decide)]; exact h.2 j hj⟩
theorem kdm_M {N v c : Nat} {s : fS} {d : List Nat} {α : Type} (hN : 200 ≤ N) (hc : c < 2 ^ 31) (h0 : v ≠ 0) (h9 : v ≤ 99) (hd : NW s d) (h3 : d.length ≤ 3) (f : fS → Option α) :
    (Bd (if nI c = (45 : Int32) then some (-nI v, s) else some (nI v, s)) fun o107 σj107 => Bd (g_X8_kindOf N o107 σj107) fun r116 σ116 => Gd (fin (s.1 61 28) 4) (Lt (sI σ116 82 (s.1 61 28).toNatClampNeg r116) fun σ119 => Lt (sI σ119 61 28 (σ119.1 61 28 + (1 : Int32))) fun σ127 => f σ127)) = f (neA s d (kdm (decide (c = 45)) v)) := by
  have e45 : (nI c = (45 : Int32)) ↔ c = 45 := n_eq (b := 45) hc (by decide)
  have hk : (Bd (if nI c = (45 : Int32) then some (-nI v, s) else some (nI v, s)) fun o107 σj107 => Bd (g_X8_kindOf N o107 σj107) fun r116 σ116 => Gd (fin (s.1 61 28) 4) (Lt (sI σ116 82 (s.1 61 28).toNatClampNeg r116) fun σ119 => Lt (sI σ119 61 28 (σ119.1 61 28 + (1 : Int32))) fun σ127 => f σ127)) = Gd (fin (s.1 61 28) 4) (Lt (sI s 82 (s.1 61 28).toNatClampNeg (nI (kdm (decide (c = 45)) v))) fun σ119 => Lt (sI σ119 61 28 (σ119.1 61 28 + (1 : Int32))) fun σ127 => f σ127) := by
    by_cases h : c = 45
    · rw [if_pos (e45.mpr h), Bd_s, ← zI_nat, zI_neg, v_kindM (by omega) (by omega) (by omega) (by omega), Bd_s]
      unfold kdm
      simp only [h, decide_true, if_true]
    · rw [if_neg (fun z => h (e45.mp z)), Bd_s, ← zI_nat, v_kindM (by omega) (by omega) (by omega) (by omega), Bd_s]
      unfold kdm
      simp only [h, decide_false, if_false, Bool.false_eq_true]
  rw [hk, hd.1, Gd_c (fin_nI (show d.length < 4 by omega) (by omega)), n_cl (by omega), Lt_e, sI_other _ _ (Or.inl (by decide)), hd.1, nI_1, Lt_e]
  rfl
theorem v_rdN {N k : Nat} {pg d : List Nat} {σ : fS} (hN : 200 ≤ N) (hp : pg.length ≤ 18) (hc : ∀ c ∈ pg, 32 ≤ c ∧ c ≤ 126) (hk : k ≤ pg.length) (hM : PM σ pg) (hd : NW σ d) (h3 : d.length ≤ 3) :
    (∃ j, j ≤ pg.length ∧ g_X8_readNumber N (nI k) σ = some (zI (-1 - (j : Int)), σ) ∧ ∃ sz mn, rnP pg (pg.length - k) k 0 false d = (j, sz, mn, d) ∧ (j < pg.length ∨ sz = 0)) ∨
    (∃ j v mn σ', k < j ∧ j ≤ pg.length ∧ g_X8_readNumber N (nI k) σ = some (nI j, σ') ∧ NW σ' (d ++ [kdm mn v]) ∧ ag [61, 82] σ σ' ∧ (∀ i, i ≠ 28 → σ'.1 61 i = σ.1 61 i) ∧ rnP pg (pg.length - k) k 0 false d = rnP pg (pg.length - j) j v mn d ∧ 1 ≤ v ∧ v ≤ 99 ∧ ¬ (48 ≤ pg.getD j 0 ∧ pg.getD j 0 ≤ 57 ∧ isN (10 * v + pg.getD j 0 - 48) = true)) := by
  have hb : ∀ k, pg.getD k 0 ≤ 126 := fun k => by
    rcases Nat.lt_or_ge k pg.length with c | c
    · exact (hc _ (gd_mem c)).2
    · rw [gd_big c]; decide
  obtain ⟨c0, hc0⟩ : ∃ c, c = pg.getD k 0 := ⟨_, rfl⟩
  have hb0 := hb k
  rw [← hc0] at hb0
  have e45 : (nI c0 = (45 : Int32)) ↔ c0 = 45 := n_eq (b := 45) (by omega) (by decide)
  obtain ⟨j, hkj, hjl, hjk, hrun, hno⟩ : ∃ j, k ≤ j ∧ j ≤ pg.length ∧ (if nI c0 = (45 : Int32) then some (nI k + (1 : Int32), σ) else some (nI k, σ)) = some (nI j, σ) ∧ rnP pg (pg.length - k) k 0 false d = rnP pg (pg.length - j) j 0 (decide (c0 = 45)) d ∧ (c0 ≠ 45 → pg.getD j 0 ≠ 45) := by
    by_cases h : c0 = 45
    · have hkl : k < pg.length := gd_lt (by omega)
      refine ⟨k + 1, by omega, by omega, by rw [if_pos (e45.mpr h), nI_1], ?_, fun z => absurd h z⟩
      rw [show pg.length - k = (pg.length - (k + 1)) + 1 by omega, rnP_s (show stp (pg.getD k 0) 0 false d = some (0, true, d) by rw [← hc0, h]; exact stp_m)]
      simp only [h, decide_true]
    · refine ⟨k, Nat.le_refl _, hk, by rw [if_neg (fun z => h (e45.mp z))], ?_, fun z => by rw [← hc0]; exact z⟩
      simp only [h, decide_false]
  obtain ⟨c1, hc1⟩ : ∃ c, c = pg.getD j 0 := ⟨_, rfl⟩
  have hb1 := hb j
  rw [← hc1] at hb1 hno
  unfold g_X8_readNumber
  rw [lt_M hM hp (by omega), Bd_s, ← hc0, hjk, Bd_s, lt_M hM hp (by omega), Bd_s, ← hc1, show g_X8_within N (nI c1) 49 57 σ = some (bI (decide (49 ≤ c1 ∧ c1 ≤ 57)), σ) from wi_M (a := 49) (b := 57) σ (by omega) (by decide) (by decide), Bd_s]
  by_cases hw : 49 ≤ c1 ∧ c1 ≤ 57
  · rw [if_neg (by simp [hw, bI])]
    have hjl' : j < pg.length := gd_lt (by omega)
    have hv : nI c1 - (48 : Int32) = nI (c1 - 48) := by show nI c1 - nI 48 = _; rw [pk_sub (by omega)]
    have hr1 : rnP pg (pg.length - j) j 0 (decide (c0 = 45)) d = rnP pg (pg.length - (j + 1)) (j + 1) (c1 - 48) (decide (c0 = 45)) d := by
      have hn := isN_19 (c1 - 48) (by omega) (by omega)
      have hst : stp (pg.getD j 0) 0 (decide (c0 = 45)) d = some (c1 - 48, decide (c0 = 45), d) := by
        have := stp_d (c := c1) (sz := 0) (mn := decide (c0 = 45)) (d := d) (by omega) (by omega) (by rw [show 10 * 0 + c1 - 48 = c1 - 48 by omega]; exact hn)
        rw [show 10 * 0 + c1 - 48 = c1 - 48 by omega] at this
        rw [← hc1]; exact this
      rw [show pg.length - j = (pg.length - (j + 1)) + 1 by omega, rnP_s hst]
    obtain ⟨c2, hc2⟩ : ∃ c, c = pg.getD (j + 1) 0 := ⟨_, rfl⟩
    have hb2 := hb (j + 1)
    rw [← hc2] at hb2
    rw [lt_M hM hp (show j < 2 ^ 31 by omega), Bd_s, ← hc1, hv, Lt_e, nI_1, lt_M hM hp (show j + 1 < 2 ^ 31 by omega), Bd_s, ← hc2, show g_X8_within N (nI c2) 48 57 σ = some (bI (decide (48 ≤ c2 ∧ c2 ≤ 57)), σ) from wi_M (a := 48) (b := 57) σ (by omega) (by decide) (by decide), Bd_s]
    by_cases hw2 : 48 ≤ c2 ∧ c2 ≤ 57
    · rw [if_neg (by simp [hw2, bI]), lt_M hM hp (show j + 1 < 2 ^ 31 by omega), Bd_s, ← hc2, ten_v hw2.1, Lt_e, v_isNumM (by omega), Bd_s]
      have hjl2 : j + 1 < pg.length := gd_lt (by omega)
      obtain ⟨v2, hv2⟩ : ∃ v, v = 10 * (c1 - 48) + c2 - 48 := ⟨_, rfl⟩
      rw [← hv2]
      cases hn : isN v2
      · left
        refine ⟨j + 1, by omega, ?_, c1 - 48, decide (c0 = 45), ?_, Or.inl hjl2⟩
        · rw [show numB (nI v2) = false from hn, if_pos (by decide), ← zI_nat, show (-1 : Int32) = zI (-1) from rfl, zI_sub]
        · rw [hrun, hr1, show pg.length - (j + 1) = (pg.length - (j + 2)) + 1 by omega, rnP_n]
          rw [← hc2]
          exact stp_n (fun q => by rw [← hv2, hn] at q; exact absurd q.2.2 (by decide)) (by omega) (by omega)
      · right
        have hb2' := isN_b (by omega) hn
        refine ⟨j + 2, v2, decide (c0 = 45), neA σ d (kdm (decide (c0 = 45)) v2), by omega, by omega, ?_, hd.add h3 (kdm_lt _ _), neA_ag _ _ _, neA_61 _ _ _, ?_, hb2'.1, hb2'.2, ?_⟩
        · rw [show numB (nI v2) = true from hn, if_neg (by decide), lt_M hM hp (by omega), Bd_s, ← hc0, nI_1]
          exact kdm_M hN (by omega) (by omega) hb2'.2 hd h3 _
        · have hst : stp (pg.getD (j + 1) 0) (c1 - 48) (decide (c0 = 45)) d = some (v2, decide (c0 = 45), d) := by
            rw [← hc2, hv2]
            exact stp_d hw2.1 hw2.2 (by rw [← hv2]; exact hn)
          rw [hrun, hr1, show pg.length - (j + 1) = (pg.length - (j + 2)) + 1 by omega, rnP_s hst]
        · intro q
          have := (isN_b (by have := hb (j + 2); omega) q.2.2).2
          omega
    · rw [if_pos (by simp only [hw2, decide_false]; rfl)]
      right
      refine ⟨j + 1, c1 - 48, decide (c0 = 45), neA σ d (kdm (decide (c0 = 45)) (c1 - 48)), by omega, by omega, ?_, hd.add h3 (kdm_lt _ _), neA_ag _ _ _, neA_61 _ _ _, hrun.trans hr1, by omega, by omega, ?_⟩
      · rw [lt_M hM hp (by omega), Bd_s, ← hc0]
        exact kdm_M hN (by omega) (by omega) (by omega) hd h3 _
      · rw [← hc2]; exact fun q => hw2 ⟨q.1, q.2.1⟩
  · rw [if_pos (by simp only [hw, decide_false]; rfl)]
    left
    refine ⟨j, hjl, by rw [← zI_nat, show (-1 : Int32) = zI (-1) from rfl, zI_sub], 0, decide (c0 = 45), ?_, ?_⟩
    · rw [hrun]
      rcases Nat.lt_or_ge j pg.length with h | h
      · rw [show pg.length - j = (pg.length - (j + 1)) + 1 by omega, rnP_n]
        rw [← hc1]
        refine stp_n (fun q => ?_) (fun q => ?_) (fun q => q.2.1 rfl)
        · have : c1 = 48 := by omega
          rw [this] at q
          exact absurd q.2.2 (by rw [show 10 * 0 + 48 - 48 = 0 from rfl, isN_0]; decide)
        · have h1 := of_decide_eq_false q.2.2
          exact hno h1 q.1
      · rw [show pg.length - j = 0 by omega]; rfl
    · exact Or.inr rfl
def rdG (pg : List Nat) (r : Nat × Nat × Bool × List Nat) (o : Int32) (s : fS) : Prop := r.1 ≤ pg.length ∧ ((o = zI (-1 - (r.1 : Int)) ∧ (r.1 < pg.length ∨ r.2.1 = 0)) ∨ (o = nI r.1 ∧ r.1 < pg.length) ∨ (o = nI r.1 ∧ r.1 = pg.length ∧ r.2.1 ≠ 0 ∧ NW s (r.2.2.2 ++ [kdm r.2.2.1 r.2.1])))
theorem zneg {j : Nat} (h : j ≤ 18) : zI (-1 - (j : Int)) < (0 : Int32) := by rw [z0, zI_lt (by omega) (by omega)]; omega
theorem rdL {N : Nat} {pg : List Nat} (hN : 200 ≤ N) (hp : pg.length ≤ 18) (hc : ∀ c ∈ pg, 32 ≤ c ∧ c ≤ 126) : ∀ (F f j n v : Nat) (mn : Bool) (d : List Nat) (σ : fS), f ≤ F → f + j = pg.length → f + 1 < n → PM σ pg → NW σ (d ++ [kdm mn v]) → d.length ≤ 3 → 1 ≤ v → ¬ (48 ≤ pg.getD j 0 ∧ pg.getD j 0 ≤ 57 ∧ isN (10 * v + pg.getD j 0 - 48) = true) → ∃ o σ', lp_X8_read_16 N n (nI j) σ = some (o, σ') ∧ ag [61, 82] σ σ' ∧ (∀ i, i ≠ 28 → σ'.1 61 i = σ.1 61 i) ∧ rdG pg (rnP pg f j v mn d) o σ' := by
  intro F
  induction F with
  | zero =>
    intro f j n v mn d σ hF he hn hM hd h3 hv hno
    obtain ⟨n, rfl⟩ : ∃ m, n = m + 1 := ⟨n - 1, by omega⟩
    have hf : f = 0 := by omega
    subst hf
    rw [lp_X8_read_16, if_neg (n_lt0 (by omega)), lt_M hM hp (by omega), Bd_s, gd_big (by omega), if_neg (by decide)]
    exact ⟨nI j, σ, rfl, ag.rf, fun _ _ => rfl, by show j ≤ pg.length; omega, Or.inr (Or.inr ⟨rfl, by show j = pg.length; omega, by show v ≠ 0; omega, hd⟩)⟩
  | succ F ih =>
    intro f j n v mn d σ hF he hn hM hd h3 hv hno
    obtain ⟨n, rfl⟩ : ∃ m, n = m + 1 := ⟨n - 1, by omega⟩
    rw [lp_X8_read_16, if_neg (n_lt0 (by omega)), lt_M hM hp (by omega), Bd_s]
    have hb : pg.getD j 0 ≤ 126 := by
      rcases Nat.lt_or_ge j pg.length with c | c
      · exact (hc _ (gd_mem c)).2
      · rw [gd_big c]; decide
    obtain ⟨c, hcc⟩ : ∃ c, c = pg.getD j 0 := ⟨_, rfl⟩
    rw [← hcc] at hb hno ⊢
    have e44 : (nI c = (44 : Int32)) ↔ c = 44 := n_eq (b := 44) (by omega) (by decide)
    by_cases h44 : c = 44
    · have hjl : j < pg.length := gd_lt (by omega)
      obtain ⟨f, rfl⟩ : ∃ g, f = g + 1 := ⟨f - 1, by omega⟩
      rw [if_pos (e44.mpr h44), hd.1, List.length_append, show ([kdm mn v] : List Nat).length = 1 from rfl]
      by_cases h33 : d.length < 3
      · rw [if_neg (show ¬ (4 : Int32) ≤ nI (d.length + 1) from n_le (b := 4) (by omega) (by omega)), nI_1]
        have hst : stp (pg.getD j 0) v mn d = some (0, false, d ++ [kdm mn v]) := by rw [← hcc, h44]; exact stp_c (by omega) h33
        rw [rnP_s hst]
        have hfl : pg.length - (j + 1) = f := by omega
        rcases v_rdN (k := j + 1) hN hp hc (by omega) hM hd (by simp; omega) with ⟨j2, q1, q2, sz, mn2, q3, q4⟩ | ⟨j2, v2, mn2, s', q0, q1, q2, q3, q4, q5, q6, q7, q8, q9⟩
        · rw [hfl] at q3
          rw [q2, Bd_s, q3]
          obtain ⟨n, rfl⟩ : ∃ m, n = m + 1 := ⟨n - 1, by omega⟩
          rw [lp_X8_read_16, if_pos (zneg (by omega))]
          exact ⟨_, σ, rfl, ag.rf, fun _ _ => rfl, q1, Or.inl ⟨rfl, q4⟩⟩
        · rw [hfl] at q6
          rw [q2, Bd_s, q6]
          obtain ⟨o, s2, r1, r2, r3, r4⟩ := ih (pg.length - j2) j2 n v2 mn2 (d ++ [kdm mn v]) s' (by omega) (by omega) (by omega) (hM.ag q4 (q5 5 (by decide))) q3 (by simp; omega) q7 q9
          exact ⟨o, s2, r1, q4.tr r2, fun i hi => (r3 i hi).trans (q5 i hi), r4⟩
      · rw [if_pos (show (4 : Int32) ≤ nI (d.length + 1) from y_le (b := 4) (by omega) (by omega))]
        have hst : stp (pg.getD j 0) v mn d = none := by rw [← hcc]; exact stp_n hno (by omega) (fun q => h33 q.2.2)
        rw [rnP_n hst]
        exact ⟨nI j, σ, rfl, ag.rf, fun _ _ => rfl, by show j ≤ pg.length; omega, Or.inr (Or.inl ⟨rfl, hjl⟩)⟩
    · rw [if_neg (fun z => h44 (e44.mp z))]
      rcases Nat.eq_zero_or_pos f with h0 | h0
      · subst h0
        exact ⟨nI j, σ, rfl, ag.rf, fun _ _ => rfl, by show j ≤ pg.length; omega, Or.inr (Or.inr ⟨rfl, by show j = pg.length; omega, by show v ≠ 0; omega, hd⟩)⟩
      · obtain ⟨f, rfl⟩ : ∃ g, f = g + 1 := ⟨f - 1, by omega⟩
        have hst : stp (pg.getD j 0) v mn d = none := by rw [← hcc]; exact stp_n hno (by omega) (fun q => h44 q.1)
        rw [rnP_n hst]
        exact ⟨nI j, σ, rfl, ag.rf, fun _ _ => rfl, by show j ≤ pg.length; omega, Or.inr (Or.inl ⟨rfl, by show j < pg.length; omega⟩)⟩
def whB (pg : List Nat) : Bool := decide ((rnA pg).1 = pg.length ∧ (rnA pg).2.1 ≠ 0)
theorem v_rdM {N : Nat} {pg : List Nat} {σ : fS} (hN : 200 ≤ N) (hp : pg.length ≤ 18) (hc : ∀ c ∈ pg, 32 ≤ c ∧ c ≤ 126) (hM : PM σ pg) : ∃ σ', g_X8_read N σ = some (nI (rnA pg).1, σ') ∧ ag [61, 82] σ σ' ∧ (∀ i, i ≠ 27 → i ≠ 28 → σ'.1 61 i = σ.1 61 i) ∧ σ'.1 61 27 = bI (whB pg) ∧ (whB pg = true → NW σ' (rdD pg)) := by
  obtain ⟨s0, hs0⟩ : ∃ s, s = sI (sI σ 61 28 0) 61 27 0 := ⟨_, rfl⟩
  have g0 : ag [61, 82] σ s0 := by rw [hs0]; exact (ag.sI _ (by simp) _ _).tr (ag.sI _ (by simp) _ _)
  have p0 : ∀ i, i ≠ 27 → i ≠ 28 → s0.1 61 i = σ.1 61 i := fun i h1 h2 => by rw [hs0, sI_other _ _ (Or.inr h1), sI_other _ _ (Or.inr h2)]
  have n0 : NW s0 [] := ⟨by rw [hs0, sI_other _ _ (Or.inr (by decide)), sI_same]; rfl, fun e he => absurd he (by simp), by simp, by simp⟩
  have hM0 : PM s0 pg := hM.ag g0 (p0 5 (by decide) (by decide))
  obtain ⟨o, s1, e1, g1, p1, r1⟩ : ∃ o s1, (Bd (g_X8_readNumber N 0 s0) fun r12 σ12 => lp_X8_read_16 N N r12 σ12) = some (o, s1) ∧ ag [61, 82] s0 s1 ∧ (∀ i, i ≠ 28 → s1.1 61 i = s0.1 61 i) ∧ rdG pg (rnA pg) o s1 := by
    have hfl : pg.length - 0 = pg.length := by omega
    rcases v_rdN (k := 0) hN hp hc (by omega) hM0 n0 (by simp) with ⟨j2, q1, q2, sz, mn2, q3, q4⟩ | ⟨j2, v2, mn2, s', q0, q1, q2, q3, q4, q5, q6, q7, q8, q9⟩
    · rw [show g_X8_readNumber N 0 s0 = _ from q2, Bd_s]
      rw [hfl] at q3
      have key : ∀ F, 1 ≤ F → lp_X8_read_16 N F (zI (-1 - (j2 : Int))) s0 = some (zI (-1 - (j2 : Int)), s0) := by
        intro F hF
        obtain ⟨n, rfl⟩ : ∃ m, F = m + 1 := ⟨F - 1, by omega⟩
        rw [lp_X8_read_16, if_pos (zneg (by omega))]
      refine ⟨_, s0, key N (by omega), ag.rf, fun _ _ => rfl, ?_⟩
      unfold rnA; rw [q3]
      exact ⟨q1, Or.inl ⟨rfl, q4⟩⟩
    · rw [show g_X8_readNumber N 0 s0 = _ from q2, Bd_s]
      rw [hfl] at q6
      obtain ⟨o, s2, r1, r2, r3, r4⟩ := rdL hN hp hc (pg.length - j2) (pg.length - j2) j2 N v2 mn2 [] s' (Nat.le_refl _) (by omega) (by omega) (hM0.ag q4 (q5 5 (by decide))) q3 (by simp) q7 q9
      refine ⟨o, s2, r1, q4.tr r2, fun i hi => (r3 i hi).trans (q5 i hi), ?_⟩
      unfold rnA; rw [q6]; exact r4
  have h61 : s1.1 61 5 = nI pg.length := by rw [p1 5 (by decide)]; exact hM0.1
  obtain ⟨hle, hr⟩ := r1
  have hle' : ((rnA pg).1 : Int) ≤ 18 := by omega
  have hz : (-1 : Int32) - zI (-1 - ((rnA pg).1 : Int)) = nI (rnA pg).1 := by
    rw [show (-1 : Int32) = zI (-1) from rfl, zI_sub, ← zI_nat]; congr 1; omega
  have fin' : ∀ (b : Bool), ag [61, 82] σ (sI s1 61 27 (bI b)) ∧ (∀ i, i ≠ 27 → i ≠ 28 → (sI s1 61 27 (bI b)).1 61 i = σ.1 61 i) ∧ (sI s1 61 27 (bI b)).1 61 27 = bI b := fun b => ⟨(g0.tr g1).tr (ag.sI _ (by simp) _ _), fun i h1 h2 => by rw [sI_other _ _ (Or.inr h1), p1 i h2, p0 i h1 h2], sI_same _ _ _ _⟩
  unfold g_X8_read
  rw [Lt_e, Lt_e, ← hs0]
  have hB : ∀ (f : Int32 → fS → Option (Int32 × fS)), (Bd (g_X8_readNumber N 0 s0) fun r12 σ12 => Bd (lp_X8_read_16 N N r12 σ12) f) = f o s1 := by
    intro f
    cases hh : g_X8_readNumber N 0 s0 with
    | none => rw [hh] at e1; exact absurd e1 (by simp [Bd])
    | some q =>
      obtain ⟨q1, q2⟩ := q
      rw [hh, Bd_s] at e1
      rw [Bd_s, e1, Bd_s]
  rw [hB]
  rcases hr with ⟨ho, hq⟩ | ⟨ho, hq⟩ | ⟨ho, hq1, hq2, hq3⟩
  · have hw : whB pg = false := by unfold whB; rw [decide_eq_false]; omega
    rw [ho, if_pos (zneg (by omega)), Bd_s, Gd_c (by decide), Lt_e, if_pos (zneg (by omega)), hz, hw]
    exact ⟨_, rfl, (fin' false).1, (fin' false).2.1, (fin' false).2.2, fun h => absurd h (by decide)⟩
  · have hw : whB pg = false := by unfold whB; rw [decide_eq_false]; omega
    rw [ho, if_neg (n_lt0 (by omega)), h61, if_neg (fun z => by have := (n_eq (by omega) (by omega)).mp z; omega), Bd_s, Gd_c (by decide), Lt_e, if_neg (n_lt0 (by omega)), hw]
    exact ⟨_, rfl, (fin' false).1, (fin' false).2.1, (fin' false).2.2, fun h => absurd h (by decide)⟩
  · have hw : whB pg = true := by unfold whB; rw [decide_eq_true]; exact ⟨hq1, hq2⟩
    rw [ho, if_neg (n_lt0 (by omega)), h61, if_pos (by rw [hq1]), Bd_s, Gd_c (by decide), Lt_e, if_neg (n_lt0 (by omega)), hw]
    refine ⟨_, rfl, (fin' true).1, (fin' true).2.1, (fin' true).2.2, fun _ => ?_⟩
    exact ⟨by rw [show (1 : Int32) = bI true from rfl, sI_other _ _ (Or.inr (by decide))]; exact hq3.1, fun e he => by rw [sI_other _ _ (Or.inl (by decide))]; exact hq3.2.1 e he, hq3.2.2⟩
theorem PG.X {σ : fS} {pg : List Nat} (h : PG σ pg) : PX σ pg := ⟨h.1, fun j hj => (h.2.2.2.1 j hj).1⟩
theorem PG.M {σ : fS} {pg : List Nat} (h : PG σ pg) : PM σ pg := ⟨h.2.1, fun j hj => (h.2.2.2.1 j hj).2⟩
theorem qA.r {σ τ : fS} (g : ag [61, 82] σ τ) (p : ∀ i, i ≠ 27 → i ≠ 28 → τ.1 61 i = σ.1 61 i) : qA σ τ := ⟨g.mono (by decide), fun i _ b c => p i b c⟩
theorem o2 {N : Nat} (hN : 200 ≤ N) : op_2 INV N := by
  intro σ hi
  obtain ⟨pg, S, K, n, m, A, M, hw⟩ := hi
  have hG := hw.1
  obtain ⟨s1, e1, g1, l1, _⟩ := v_rdX hN hG.2.2.1 hG.2.2.2.2 hG.X
  have q1 : qA σ s1 := qA.x g1 (by decide) (by decide)
  have hw1 := hw.q q1 (hw.2.2.1.ag g1 (by decide))
  have hG1 := hw1.1
  obtain ⟨s2, e2, g2, p2, _, _⟩ := v_rdM hN hG1.2.2.1 hG1.2.2.2.2 hG1.M
  refine ⟨nI (rnA pg).1, s1, s2, ?_, ?_, pg, S, K, n, m, A, M, hw1.q (qA.r g2 p2) (hw1.2.2.1.ag g2 (by decide))⟩
  · unfold g_X7_fault; rw [e1, Bd_s]
  · unfold g_X8_fault; rw [e2, Bd_s]
theorem o3 {N : Nat} (hN : 200 ≤ N) : op_3 INV N := by
  intro x σ hi
  have hi' := hi
  obtain ⟨pg, S, K, n, m, A, M, hw⟩ := hi'
  have hX := hw.2.1
  have hM := hw.2.2.1
  have hG := hw.1
  have h18 := hG.2.2.1
  unfold g_X7_put g_X8_put
  rcases sh_or x with ⟨i, hi8, rfl⟩ | ⟨e1, e2⟩
  · obtain ⟨s1, e1, g1, l1, d1⟩ := v_rdX hN hG.2.2.1 hG.2.2.2.2 hG.X
    have q1 : qA σ s1 := qA.x g1 (by decide) (by decide)
    have hm1 : MS s1 S := hM.ag g1 (by decide)
    have hw1 := hw.q q1 hm1
    have hG1 := hw1.1
    have hlt : (nI (rnA pg).1 < nI pg.length) ↔ (rnA pg).1 < pg.length := nI_ltI (by omega) (by omega)
    by_cases c : (rnA pg).1 = pg.length ∧ (rnA pg).2.1 ≠ 0
    · have hwh : whB pg = true := by unfold whB; exact decide_eq_true c
      have hfr := d1 c.1 c.2
      obtain ⟨t1, ht1⟩ : ∃ t, t = sI s1 1 1 0 := ⟨_, rfl⟩
      have a1 : ag [1] s1 t1 := by rw [ht1]; exact ag.sI _ (by simp) _ _
      have hc1 : INVc S K n m A M t1 := INVc.pg (show INVc S K n m A M s1 from hw1.2) (a1.mono (by simp)) (fun j _ => by rw [a1.i (by decide)])
      obtain ⟨r, s2, f2, x2, m2, hr, g2, f⟩ := step hN hi8 hc1 (hfr.ag a1 (by decide) (by decide))
      have c61 : s2.1 61 = s1.1 61 := by rw [g2.i (by simp [sSh]; omega), a1.i (by decide)]
      have c67 : s2.1 67 = s1.1 67 := by rw [g2.i (by simp [sSh]; omega), a1.i (by decide)]
      have hPM2 : PM s2 pg := ⟨by rw [c61]; exact hG1.2.1, fun j hj => by rw [c67]; exact (hG1.2.2.2.1 j hj).2⟩
      obtain ⟨s3, e3, g3, p3, w3, n3⟩ := v_rdM hN hG.2.2.1 hG.2.2.2.2 hPM2
      have n3' := n3 hwh
      obtain ⟨t3, ht3⟩ : ∃ t, t = sI s3 61 5 0 := ⟨_, rfl⟩
      have a3 : ag [61] s3 t3 := by rw [ht3]; exact ag.sI _ (by simp) _ _
      have n4 : NW t3 (rdD pg) := ⟨by rw [ht3, sI_other _ _ (Or.inr (by decide))]; exact n3'.1, fun e he => by rw [a3.i (by decide)]; exact n3'.2.1 e he, n3'.2.2⟩
      have q3 : qB s2 t3 := ⟨(g3.mono (by decide)).tr (a3.mono (by decide)), fun i _ h27 h28 h5 => by rw [ht3, sI_other _ _ (Or.inr h5)]; exact p3 i h27 h28⟩
      obtain ⟨s4, e4, i4, y1, y2, y3, y4⟩ := f t3 q3 n4 ((m2.ag g3 (by decide)).ag a3 (by decide))
      have hx2 := (x2 i hi8).1.1
      rw [updS_i] at hx2
      refine ⟨nI (rdD pg).length, s2, s4, ?_, ?_, [], updS S i (rdD pg), keepL K (i, S i), n, m, A, M, ⟨?_, ?_, by simp, fun j hj => absurd hj (by simp), by simp⟩, i4⟩
      · rw [v_shX hi8, Bd_s, if_neg (by decide), e1, Bd_s, hG1.1, if_neg (fun z => by have := hlt.mp z; omega), v_endX hG.2.2.1 hG.2.2.2.2 hG1.X c.1, Bd_s, if_neg (by simp [c.2, bI]), Lt_e, ← ht1, f2, Bv_s, Gd_c (fin_nI hi8 (by omega)), n_cl (by omega), er3, hx2]
      · rw [v_shM hi8, Bd_s, if_neg (by decide), e3, Bd_s, w3, hwh, if_neg (by decide), Lt_e, ← ht3, e4, Bd_s]
      · rw [y1, ht1, sI_same]; rfl
      · rw [y3, ht3, sI_same]; rfl
    · have hwh : whB pg = false := by unfold whB; exact decide_eq_false c
      obtain ⟨s2, e2, g2, p2, w2, _⟩ := v_rdM hN hG1.2.2.1 hG1.2.2.2.2 hG1.M
      refine ⟨-103, s1, s2, ?_, ?_, pg, S, K, n, m, A, M, hw1.q (qA.r g2 p2) (hm1.ag g2 (by decide))⟩
      · rw [v_shX hi8, Bd_s, if_neg (by decide), e1, Bd_s, hG1.1]
        by_cases c2 : (rnA pg).1 < pg.length
        · rw [if_pos (hlt.mpr c2)]
        · have hpe : (rnA pg).1 = pg.length := by omega
          have hz : (rnA pg).2.1 = 0 := by
            rcases Nat.eq_zero_or_pos (rnA pg).2.1 with h | h
            · exact h
            · exact absurd ⟨hpe, by omega⟩ c
          rw [if_neg (fun z => c2 (hlt.mp z)), v_endX hG.2.2.1 hG.2.2.2.2 hG1.X hpe, Bd_s, if_pos (by simp [hz, bI])]
      · rw [v_shM hi8, Bd_s, if_neg (by decide), e2, Bd_s, w2, hwh, if_pos (by decide)]
  · refine ⟨-101, σ, σ, ?_, ?_, hi⟩
    · rw [e1, Bd_s, if_pos rfl]
    · rw [e2, Bd_s, if_pos rfl]
