/-! digest -/
def mx (h : Int64) (v : Int32) : Int64 := (31 : Int64) * h + v.toInt64
def fH (f : Nat → Int32) (k : Nat) (h : Int64) : Int64 := (List.range k).foldl (fun h i => mx h (f i)) h
theorem fH_s (f : Nat → Int32) (k : Nat) (h : Int64) : fH f (k + 1) h = mx (fH f k h) (f k) := fold_succ (fun h i => mx h (f i)) h k
def hS (S : Nat → List Nat) (k : Nat) (h : Int64) : Int64 := if S k = [] then mx h 0 else fH (fun t => cr ((S k).getD t 0)) (S k).length (fH (fun w => nI (abL S k w)) 9 h)
def hB (S : Nat → List Nat) (k : Nat) (h : Int64) : Int64 := (List.range k).foldl (fun h i => hS S i h) h
theorem hB_s (S : Nat → List Nat) (k : Nat) (h : Int64) : hB S (k + 1) h = hS S k (hB S k h) := fold_succ (fun h i => hS S i h) h k
/-! by the class -/
theorem v_atX {N i j : Nat} {σ : fS} {S : Nat → List Nat} (hN : 200 ≤ N) (hX : XS σ S) (hi8 : i < 8) (hj : j < (S i).length) : g_X7_at N (nI i) (nI j) σ = some (cr ((S i).getD j 0), σ) := by
  have hl := getD_lt' (hX i hi8).1.2.2.2 j
  unfold g_X7_at
  rw [htX_1 hX hi8 hj, Bd_s, if_neg (by decide), Gd_c (fin_nI hi8 (by omega)), n_cl (by omega), er3, v_kindAt (hX i hi8).1 hj, Bd_s, v_coreX (by omega) hl, Bd_s]
theorem XS.a {σ τ : fS} {S : Nat → List Nat} (h : XS σ S) (g : ag [16, 17] σ τ) : XS τ S := h.of (fun k a b => g.i (by simp; omega))
theorem v_msX {N k : Nat} {σ : fS} {S : Nat → List Nat} (hN : 200 ≤ N) (hX : XS σ S) (hk : k < 8) (h : Int64) : ∃ σ', (∀ n, lp_X7_digest_6 N (n + 1) h (nI k) σ = lp_X7_digest_6 N n (hS S k h) (nI (k + 1)) σ') ∧ ag [16, 17] σ σ' := by
  have h0 : ¬ (8 : Int32) ≤ nI k := n_le (b := 8) (by omega) hk
  unfold hS
  by_cases c : S k = []
  · refine ⟨σ, fun n => ?_, ag.rf⟩
    rw [lp_X7_digest_6, if_neg h0, hfX_i hX hk, Bd_s, if_pos (by simp [c, bI]), if_pos c, nI_1]
    rfl
  · have h4 := (hX k hk).1.2.2.1
    obtain ⟨s, ⟨a1, a2⟩, e⟩ := lpU (fun n x (s : Int64 × fS) => lp_X7_digest_32 N (nI k) n s.1 x s.2) 9 (fun i s => s.1 = fH (fun w => nI (abL S k w)) i h ∧ ag [16, 17] σ s.2) id (by
      intro n i s hi ⟨b1, b2⟩
      obtain ⟨s', f, g⟩ := v_abX hN (hX.a b2) hk c hi
      refine ⟨(fH (fun w => nI (abL S k w)) (i + 1) h, s'), ⟨rfl, b2.tr g⟩, ?_⟩
      show lp_X7_digest_32 N (nI k) (n + 1) s.1 (nI i) s.2 = lp_X7_digest_32 N (nI k) n (fH (fun w => nI (abL S k w)) (i + 1) h) (nI (i + 1)) s'
      rw [lp_X7_digest_32, if_neg (show ¬ (8 : Int32) < nI i from Int32.not_lt.mpr (y_le (a := 8) (by omega) (by omega))), f, Bd_s, b1, nI_1, fH_s]
      rfl) (by
      intro n s _
      show lp_X7_digest_32 N (nI k) (n + 1) s.1 (nI 9) s.2 = _
      rw [lp_X7_digest_32, if_pos (by decide)]; rfl) 9 N 0 (h, σ) (by omega) (by omega) ⟨rfl, ag.rf⟩
    obtain ⟨u, ⟨c1, c2⟩, e'⟩ := lpU (fun n x (s : Int64 × fS) => lp_X7_digest_60 N (nI k) n s.1 x s.2) (S k).length (fun i u => u.1 = fH (fun t => cr ((S k).getD t 0)) i s.1 ∧ ag [16, 17] σ u.2) id (by
      intro n i u hi ⟨b1, b2⟩
      refine ⟨(fH (fun t => cr ((S k).getD t 0)) (i + 1) s.1, u.2), ⟨rfl, b2⟩, ?_⟩
      show lp_X7_digest_60 N (nI k) (n + 1) u.1 (nI i) u.2 = lp_X7_digest_60 N (nI k) n (fH (fun t => cr ((S k).getD t 0)) (i + 1) s.1) (nI (i + 1)) u.2
      rw [lp_X7_digest_60, Gd_c (fin_nI hk (by omega)), n_cl (show k < 2 ^ 31 by omega), er3, ((hX.a b2) k hk).1.1, if_neg (n_le (by omega) hi), v_atX hN (hX.a b2) hk hi, Bd_s, b1, nI_1, fH_s]
      rfl) (by
      intro n u ⟨b1, b2⟩
      show lp_X7_digest_60 N (nI k) (n + 1) u.1 (nI (S k).length) u.2 = _
      rw [lp_X7_digest_60, Gd_c (fin_nI hk (by omega)), n_cl (show k < 2 ^ 31 by omega), er3, ((hX.a b2) k hk).1.1, if_pos (y_le (by omega) (Nat.le_refl _))]; rfl) (S k).length N 0 (s.1, s.2) (by omega) (by omega) ⟨rfl, a2⟩
    refine ⟨u.2, fun n => ?_, c2⟩
    rw [lp_X7_digest_6, if_neg h0, hfX_i hX hk, Bd_s, if_neg (by simp [c, bI]), if_neg c, show lp_X7_digest_32 N (nI k) N h 0 σ = some (s.1, s.2) from e, Bd_s, show lp_X7_digest_60 N (nI k) N s.1 0 s.2 = some (u.1, u.2) from e', Bd_s, c1, a1, nI_1]
def prF (σ : fS) (n : Nat) (M : Nat → Nat) (t : Nat) : Int32 := prI σ n M (t / 5) (t % 5)
theorem prI_cg {σ τ : fS} (n : Nat) (M : Nat → Nat) (h : ∀ k, 71 ≤ k → k ≤ 74 → τ.1 k = σ.1 k) (k w : Nat) : prI τ n M k w = prI σ n M k w := by
  unfold prI
  rw [h 71 (by decide) (by decide), h 72 (by decide) (by decide), h 73 (by decide) (by decide), h 74 (by decide) (by decide)]
theorem cnI_cg {σ τ : fS} (S : Nat → List Nat) (m : Nat) (h : τ.1 74 = σ.1 74) (h2 : ∀ i, i ≠ 21 → i ≠ 27 → i ≠ 28 → τ.1 61 i = σ.1 61 i) (w : Nat) : cnI τ S m w = cnI σ S m w := by
  unfold cnI
  rw [gnC_cg h, h2 7 (by decide) (by decide) (by decide), h2 5 (by decide) (by decide) (by decide), h2 13 (by decide) (by decide) (by decide), h2 14 (by decide) (by decide) (by decide), h2 11 (by decide) (by decide) (by decide), h2 12 (by decide) (by decide) (by decide)]
def dgV (σ : fS) (pg : List Nat) (S : Nat → List Nat) (n m : Nat) (M : Nat → Nat) : Int64 := fH (cnI σ S m) 10 (fH (fun i => nI (pg.getD i 0)) pg.length (fH (prF σ n M) (5 * m) (hB S 8 1487)))
theorem v_dgX {N : Nat} {pg : List Nat} {S : Nat → List Nat} {K : List (Nat × List Nat)} {n m : Nat} {A M : Nat → Nat} {σ : fS} (hN : 200 ≤ N) (h : INVw pg S K n m A M σ) : ∃ σ', g_X7_digest N σ = some (dgV σ pg S n m M, σ') ∧ ag [16, 17] σ σ' := by
  obtain ⟨s, ⟨a1, a2⟩, e⟩ := lpU (fun n x (s : Int64 × fS) => lp_X7_digest_6 N n s.1 x s.2) 8 (fun i s => s.1 = hB S i 1487 ∧ ag [16, 17] σ s.2) id (by
    intro n i s hi ⟨b1, b2⟩
    obtain ⟨s', f, g⟩ := v_msX hN (h.2.1.a b2) hi s.1
    refine ⟨(hB S (i + 1) 1487, s'), ⟨rfl, b2.tr g⟩, ?_⟩
    show lp_X7_digest_6 N (n + 1) s.1 (nI i) s.2 = lp_X7_digest_6 N n (hB S (i + 1) 1487) (nI (i + 1)) s'
    rw [f n, b1, hB_s]) (by
    intro n s _
    show lp_X7_digest_6 N (n + 1) s.1 (nI 8) s.2 = _
    rw [lp_X7_digest_6, if_pos (by decide)]; rfl) 8 N 0 (1487, σ) (by omega) (by omega) ⟨rfl, ag.rf⟩
  obtain ⟨s, s2⟩ := s
  change s = hB S 8 1487 at a1
  change ag [16, 17] σ s2 at a2
  have hw : INVw pg S K n m A M s2 := h.q (qA.x a2 (by decide) (by decide)) (h.2.2.1.ag a2 (by decide))
  have hP := hw.2.2.2.2.2.2.2
  have hm := hP.2.1.2.2
  have hpr : ∀ k w, prI s2 n M k w = prI σ n M k w := prI_cg n M (fun k p q => a2.i (by simp; omega))
  have inner : ∀ (k : Nat) (x : Int64), k < m → x = fH (prF σ n M) (5 * k) s → lp_X7_digest_114 N (nI k) N x 0 s2 = some (fH (prF σ n M) (5 * (k + 1)) s, s2) := by
    intro k x hk hx
    obtain ⟨u, b1, e'⟩ := lpU (fun n x (u : Int64) => lp_X7_digest_114 N (nI k) n u x s2) 5 (fun i u => u = fH (prF σ n M) (5 * k + i) s) (fun u => (u, s2)) (by
      intro n' i u hi (b1 : u = fH (prF σ n M) (5 * k + i) s)
      refine ⟨fH (prF σ n M) (5 * k + (i + 1)) s, rfl, ?_⟩
      show lp_X7_digest_114 N (nI k) (n' + 1) u (nI i) s2 = lp_X7_digest_114 N (nI k) n' (fH (prF σ n M) (5 * k + (i + 1)) s) (nI (i + 1)) s2
      have hf : prF σ n M (5 * k + i) = prI σ n M k i := by
        unfold prF
        rw [show (5 * k + i) / 5 = k by omega, show (5 * k + i) % 5 = i by omega]
      rw [lp_X7_digest_114, if_neg (show ¬ (4 : Int32) < nI i from Int32.not_lt.mpr (y_le (a := 4) (by omega) (by omega))), v_prX hN hP hk hi, Bd_s, b1, nI_1, ← Nat.add_assoc, fH_s, hf, hpr]
      rfl) (by
      intro n' u _
      show lp_X7_digest_114 N (nI k) (n' + 1) u (nI 5) s2 = _
      rw [lp_X7_digest_114, if_pos (by decide)]) 5 N 0 x (by omega) (by omega) hx
    rw [show lp_X7_digest_114 N (nI k) N x 0 s2 = _ from e', show u = fH (prF σ n M) (5 * k + 5) s from b1]
    rfl
  obtain ⟨v, b1, e2⟩ := lpU (fun n x (u : Int64) => lp_X7_digest_100 N n u x s2) m (fun i u => u = fH (prF σ n M) (5 * i) s) (fun u => (u, s2)) (by
    intro n' i u hi (b1 : u = fH (prF σ n M) (5 * i) s)
    refine ⟨fH (prF σ n M) (5 * (i + 1)) s, rfl, ?_⟩
    show lp_X7_digest_100 N (n' + 1) u (nI i) s2 = lp_X7_digest_100 N n' (fH (prF σ n M) (5 * (i + 1)) s) (nI (i + 1)) s2
    rw [lp_X7_digest_100, hP.2.1.1, if_neg (n_le (by omega) hi), inner i u hi b1, Bd_s, nI_1]) (by
    intro n' u _
    show lp_X7_digest_100 N (n' + 1) u (nI m) s2 = _
    rw [lp_X7_digest_100, hP.2.1.1, if_pos (y_le (by omega) (Nat.le_refl _))]) m N 0 s (by omega) (by omega) rfl
  change v = fH (prF σ n M) (5 * m) s at b1
  have hG := hw.1
  have hpl := hG.2.2.1
  obtain ⟨v2, b2, e3⟩ := lpU (fun n x (u : Int64) => lp_X7_digest_146 N n u x s2) pg.length (fun i u => u = fH (fun i => nI (pg.getD i 0)) i v) (fun u => (u, s2)) (by
    intro n' i u hi (b1 : u = fH (fun i => nI (pg.getD i 0)) i v)
    refine ⟨fH (fun i => nI (pg.getD i 0)) (i + 1) v, rfl, ?_⟩
    show lp_X7_digest_146 N (n' + 1) u (nI i) s2 = lp_X7_digest_146 N n' (fH (fun i => nI (pg.getD i 0)) (i + 1) v) (nI (i + 1)) s2
    have hc : g_X3_codeAt N (nI i) s2 = some (nI (pg.getD i 0), s2) := by
      unfold g_X3_codeAt
      rw [if_neg (n_lt0 (by omega)), hG.1, if_neg (n_le (by omega) hi), if_neg (show ¬ (18 : Int32) ≤ nI i from n_le (b := 18) (by omega) (by omega)), Gd_c (fin_nI (show i < 18 by omega) (by omega)), n_cl (by omega), (hG.2.2.2.1 i hi).1]
    rw [lp_X7_digest_146, hG.1, if_neg (n_le (by omega) hi), hc, Bd_s, b1, nI_1, fH_s]
    rfl) (by
    intro n' u _
    show lp_X7_digest_146 N (n' + 1) u (nI pg.length) s2 = _
    rw [lp_X7_digest_146, hG.1, if_pos (y_le (by omega) (Nat.le_refl _))]) pg.length N 0 v (by omega) (by omega) rfl
  change v2 = fH (fun i => nI (pg.getD i 0)) pg.length v at b2
  obtain ⟨v3, b3, e4⟩ := lpU (fun n x (u : Int64) => lp_X7_digest_178 N n u x s2) 10 (fun i u => u = fH (cnI σ S m) i v2) (fun u => (u, s2)) (by
    intro n' i u hi (b1 : u = fH (cnI σ S m) i v2)
    refine ⟨fH (cnI σ S m) (i + 1) v2, rfl, ?_⟩
    show lp_X7_digest_178 N (n' + 1) u (nI i) s2 = lp_X7_digest_178 N n' (fH (cnI σ S m) (i + 1) v2) (nI (i + 1)) s2
    rw [lp_X7_digest_178, if_neg (show ¬ (9 : Int32) < nI i from Int32.not_lt.mpr (y_le (a := 9) (by omega) (by omega))), v_cnX hN hw hi, Bd_s, b1, nI_1, fH_s, cnI_cg S m (a2.i (by decide)) (fun i _ _ _ => by rw [a2.i (by decide)])]
    rfl) (by
    intro n' u _
    show lp_X7_digest_178 N (n' + 1) u (nI 10) s2 = _
    rw [lp_X7_digest_178, if_pos (by decide)]) 10 N 0 v2 (by omega) (by omega) rfl
  change v3 = fH (cnI σ S m) 10 v2 at b3
  refine ⟨s2, ?_, a2⟩
  unfold g_X7_digest
  rw [show lp_X7_digest_6 N N 1487 0 σ = some (s, s2) from e, Bd_s, show lp_X7_digest_100 N N s 0 s2 = some (v, s2) from e2, Bd_s, show lp_X7_digest_146 N N v 0 s2 = some (v2, s2) from e3, Bd_s, show lp_X7_digest_178 N N v2 0 s2 = some (v3, s2) from e4, Bd_s, b3, b2, b1, a1]
  rfl
/-! by the reference -/
def qH (σ τ : fS) : Prop := (∀ k, k ∉ sQ → τ.1 k = σ.1 k ∧ τ.2 k = σ.2 k) ∧ ∀ i, i ≠ 21 → i ≠ 27 → i ≠ 28 → τ.1 61 i = σ.1 61 i
theorem qH.rf {σ : fS} : qH σ σ := ⟨fun _ _ => ⟨rfl, rfl⟩, fun _ _ _ _ => rfl⟩
theorem qH.A {σ τ ρ : fS} (h : qH σ τ) (q : qA τ ρ) : qH σ ρ := ⟨fun k hk => ⟨(q.1.i hk).trans (h.1 k hk).1, (q.1.l hk).trans (h.1 k hk).2⟩, fun i a b c => (q.2 i a b c).trans (h.2 i a b c)⟩
theorem qH.m {σ τ : fS} (h : qH σ τ) (v : Int64) : qH σ (sL τ 61 32 v) := ⟨fun k hk => ⟨(h.1 k hk).1, by have hz : k ≠ 61 := fun z => hk (by rw [z]; decide); rw [sL_ne _ _ _ hz]; exact (h.1 k hk).2⟩, h.2⟩
theorem sL_s (σ : fS) (v : Int64) : (sL σ 61 32 v).2 61 32 = v := by rw [sL_2, if_pos ⟨rfl, rfl⟩]
theorem INVw.H {pg : List Nat} {S : Nat → List Nat} {K : List (Nat × List Nat)} {n m : Nat} {A M : Nat → Nat} {σ τ : fS} (h : INVw pg S K n m A M σ) (q : qH σ τ) (hm : MS τ S) : INVw pg S K n m A M τ := by
  obtain ⟨h1, h2, h3, h4, h5, h6, h7, h8⟩ := h
  have qi : ∀ k, k ∉ sQ → τ.1 k = σ.1 k := fun k hk => (q.1 k hk).1
  refine ⟨?_, h2.of (fun k a b => qi k (by simp [sQ]; omega)), hm, ?_, ?_, h6, ?_, ?_⟩
  · exact h1.of (qi 1 (by decide)) (qi 2 (by decide)) (q.2 5 (by decide) (by decide) (by decide)) (qi 67 (by decide))
  · exact h4.of (qi 6 (by decide)) (qi 7 (by decide)) (fun k a b => qi k (by simp [sQ]; omega))
  · exact h5.of (q.2 7 (by decide) (by decide) (by decide)) (qi 68 (by decide)) (qi 69 (by decide)) (qi 70 (by decide))
  · exact h7.of (qi 6 (by decide)) (q.2 11 (by decide) (by decide) (by decide)) (q.2 12 (by decide) (by decide) (by decide))
  · exact h8.of (fun k a b => qi k (by simp [sQ]; omega)) (q.1 14 (by decide)).2 (q.2 13 (by decide) (by decide) (by decide)) (q.2 14 (by decide) (by decide) (by decide)) (fun k a b => qi k (by simp [sQ]; omega))
theorem v_mix {N : Nat} (v : Int32) (σ : fS) : g_X8_mix N v.toInt64 σ = some (sL σ 61 32 (mx (σ.2 61 32) v)) := rfl
theorem MS.m {S : Nat → List Nat} {σ : fS} (h : MS σ S) (v : Int64) : MS (sL σ 61 32 v) S := h
def iH (σ : fS) (S : Nat → List Nat) (h : Int64) (s : fS) : Prop := qH σ s ∧ MS s S ∧ s.2 61 32 = h
theorem iH.mk {σ s s' : fS} {S : Nat → List Nat} {h : Int64} (i : iH σ S h s) (m : MS s' S) (q : qA s s') (v : Int32) : iH σ S (mx h v) (sL s' 61 32 (mx (s'.2 61 32) v)) := by
  refine ⟨(i.1.A q).m _, m.m _, ?_⟩
  rw [sL_s, q.1.2, i.2.2]
theorem iH.mk2 {σ s s' : fS} {S : Nat → List Nat} {h : Int64} {f : Nat → Int32} {k : Nat} (i : iH σ S (fH f k h) s) (m : MS s' S) (q : qA s s') (v : Int32) (hv : f k = v) : iH σ S (fH f (k + 1) h) (sL s' 61 32 (mx (s'.2 61 32) v)) := by
  rw [fH_s, hv]
  exact i.mk m q v
theorem fH_0 (f : Nat → Int32) (h : Int64) : fH f 0 h = h := rfl
theorem hB_0 (S : Nat → List Nat) (h : Int64) : hB S 0 h = h := rfl
theorem v_mfM {N k : Nat} {σ s : fS} {S : Nat → List Nat} {h : Int64} (hN : 200 ≤ N) (hk : k < 8) (c : S k ≠ []) (hs : iH σ S h s) : ∃ s', g_X8_mixForm N (nI k) s = some s' ∧ iH σ S (hS S k h) s' := by
  have h4 := (hs.2.1 k hk).1.2.2.1
  obtain ⟨u, a1, e⟩ := lpU (fun n x s => lp_X8_mixForm_2 N (nI k) n x s) 9 (fun i s => iH σ S (fH (fun w => nI (abL S k w)) i h) s) id (by
    intro n i s hi (b : iH σ S (fH (fun w => nI (abL S k w)) i h) s)
    obtain ⟨s', f, m, q⟩ := v_abM hN b.2.1 hk hi
    refine ⟨sL s' 61 32 (mx (s'.2 61 32) (nI (abL S k i))), b.mk2 m q.A _ rfl, ?_⟩
    show lp_X8_mixForm_2 N (nI k) (n + 1) (nI i) s = lp_X8_mixForm_2 N (nI k) n (nI (i + 1)) (sL s' 61 32 (mx (s'.2 61 32) (nI (abL S k i))))
    rw [lp_X8_mixForm_2, if_neg (show ¬ (9 : Int32) ≤ nI i from n_le (b := 9) (by omega) hi), f, Bd_s, v_mix, Bv_s, nI_1]) (by
    intro n s _
    show lp_X8_mixForm_2 N (nI k) (n + 1) (nI 9) s = _
    rw [lp_X8_mixForm_2, if_pos (by decide)]; rfl) 9 N 0 s (by omega) (by omega) (by rw [fH_0]; exact hs)
  change iH σ S (fH (fun w => nI (abL S k w)) 9 h) u at a1
  obtain ⟨v, b1, e'⟩ := lpU (fun n x s => lp_X8_mixForm_27 N (nI k) n x s) (S k).length (fun i s => iH σ S (fH (fun t => cr ((S k).getD t 0)) i (fH (fun w => nI (abL S k w)) 9 h)) s) id (by
    intro n i s hi (b : iH σ S (fH (fun t => cr ((S k).getD t 0)) i (fH (fun w => nI (abL S k w)) 9 h)) s)
    have hmf := (b.2.1 k hk).1
    have hl := getD_lt' hmf.2.2.2 i
    refine ⟨sL s 61 32 (mx (s.2 61 32) (cr ((S k).getD i 0))), b.mk2 b.2.1 qA.rf _ rfl, ?_⟩
    show lp_X8_mixForm_27 N (nI k) (n + 1) (nI i) s = lp_X8_mixForm_27 N (nI k) n (nI (i + 1)) (sL s 61 32 (mx (s.2 61 32) (cr ((S k).getD i 0))))
    rw [lp_X8_mixForm_27, Gd_c (fin_nI hk (by omega)), n_cl (show k < 2 ^ 31 by omega), hmf.1, if_neg (n_le (by omega) hi), ix4, Gd_c (fin_nI (by omega) (by omega)), n_cl (by omega), hmf.2.1 i hi, v_coreM (by omega) hl, Bd_s, v_mix, Bv_s, nI_1]) (by
    intro n s (b : iH σ S (fH (fun t => cr ((S k).getD t 0)) (S k).length (fH (fun w => nI (abL S k w)) 9 h)) s)
    show lp_X8_mixForm_27 N (nI k) (n + 1) (nI (S k).length) s = _
    rw [lp_X8_mixForm_27, Gd_c (fin_nI hk (by omega)), n_cl (show k < 2 ^ 31 by omega), (b.2.1 k hk).1.1, if_pos (y_le (by omega) (Nat.le_refl _))]; rfl) (S k).length N 0 u (by omega) (by omega) (by rw [fH_0]; exact a1)
  change iH σ S (fH (fun t => cr ((S k).getD t 0)) (S k).length (fH (fun w => nI (abL S k w)) 9 h)) v at b1
  refine ⟨v, ?_, ?_⟩
  · unfold g_X8_mixForm
    rw [show lp_X8_mixForm_2 N (nI k) N 0 s = some u from e, Bv_s, show lp_X8_mixForm_27 N (nI k) N 0 u = some v from e', Bv_s]
  · unfold hS; rw [if_neg c]; exact b1
theorem z_64 : (0 : Int64) = (0 : Int32).toInt64 := by decide
theorem v_d9M {N : Nat} {S : Nat → List Nat} {σ s : fS} {h : Int64} (hN : 200 ≤ N) (hs : iH σ S h s) : ∃ s', lp_X8_digest_9 N N 0 s = some s' ∧ iH σ S (hB S 8 h) s' := by
  obtain ⟨s1, a1, e1⟩ := lpU (fun n x s => lp_X8_digest_9 N n x s) 8 (fun i s => iH σ S (hB S i h) s) id (by
    intro n i s hi (b : iH σ S (hB S i h) s)
    have h4 := (b.2.1 i hi).1.2.2.1
    by_cases c : S i = []
    · have b' := b.mk b.2.1 qA.rf 0
      have hh : hB S (i + 1) h = mx (hB S i h) 0 := by rw [hB_s]; unfold hS; rw [if_pos c]
      rw [← hh] at b'
      refine ⟨sL s 61 32 (mx (s.2 61 32) 0), b', ?_⟩
      show lp_X8_digest_9 N (n + 1) (nI i) s = lp_X8_digest_9 N n (nI (i + 1)) (sL s 61 32 (mx (s.2 61 32) 0))
      rw [lp_X8_digest_9, if_neg (show ¬ (8 : Int32) ≤ nI i from n_le (b := 8) (by omega) hi), Gd_c (fin_nI hi (by omega)), n_cl (by omega), (b.2.1 i hi).1.1, if_pos ((n_le0 (by omega)).mpr (by rw [c]; rfl)), z_64, v_mix, Bv_s, nI_1]
    · obtain ⟨s', f, b'⟩ := v_mfM hN hi c b
      rw [← hB_s] at b'
      refine ⟨s', b', ?_⟩
      show lp_X8_digest_9 N (n + 1) (nI i) s = lp_X8_digest_9 N n (nI (i + 1)) s'
      rw [lp_X8_digest_9, if_neg (show ¬ (8 : Int32) ≤ nI i from n_le (b := 8) (by omega) hi), Gd_c (fin_nI hi (by omega)), n_cl (by omega), (b.2.1 i hi).1.1, if_neg (fun z => c (List.length_eq_zero_iff.mp ((n_le0 (by omega)).mp z))), f, Bv_s, nI_1]) (by
    intro n s _
    show lp_X8_digest_9 N (n + 1) (nI 8) s = _
    rw [lp_X8_digest_9, if_pos (by decide)]; rfl) 8 N 0 s (by omega) (by omega) (by rw [hB_0]; exact hs)
  exact ⟨s1, e1, a1⟩
theorem v_d45M {N : Nat} {pg : List Nat} {S : Nat → List Nat} {K : List (Nat × List Nat)} {n m : Nat} {A M : Nat → Nat} {σ s : fS} {h : Int64} (hN : 400 ≤ N) (hi : INVw pg S K n m A M σ) (hs : iH σ S h s) : ∃ s', lp_X8_digest_45 N N 0 s = some s' ∧ iH σ S (fH (prF σ n M) (5 * m) h) s' := by
  have hP0 := hi.2.2.2.2.2.2.2
  have hm := hP0.2.1.2.2
  have h61 : ∀ {s : fS}, qH σ s → s.1 61 14 = nI m := fun q => (q.2 14 (by decide) (by decide) (by decide)).trans hP0.2.1.2.1
  have e5 : (5 : Int32) * nI m = nI (5 * m) := pk_mul 5 m
  obtain ⟨s2, a2, e2⟩ := lpU (fun n x s => lp_X8_digest_45 N n x s) (5 * m) (fun i s => iH σ S (fH (prF σ n M) i h) s) id (by
    intro n' i s hi' (b : iH σ S (fH (prF σ n M) i h) s)
    have hP := (hi.H b.1 b.2.1).2.2.2.2.2.2.2
    refine ⟨sL s 61 32 (mx (s.2 61 32) (prF σ n M i)), b.mk2 b.2.1 qA.rf _ rfl, ?_⟩
    show lp_X8_digest_45 N (n' + 1) (nI i) s = lp_X8_digest_45 N n' (nI (i + 1)) (sL s 61 32 (mx (s.2 61 32) (prF σ n M i)))
    have hpr : prI s n M (i / 5) (i % 5) = prF σ n M i := prI_cg n M (fun k p q => (b.1.1 k (by simp [sQ]; omega)).1) _ _
    rw [lp_X8_digest_45, h61 b.1, e5, if_neg (n_le (by omega) hi'), show nI i / (5 : Int32) = nI (i / 5) from n_div (d := 5) (by omega) (by decide) (by decide), show iR (nI i) (5 : Int32) = nI (i % 5) from nI_rem (d := 5) (by omega) (by decide) (by decide), v_prM hP (by omega) (Nat.mod_lt _ (by decide)), Bd_s, hpr, v_mix, Bv_s, nI_1]) (by
    intro n' s (b : iH σ S (fH (prF σ n M) (5 * m) h) s)
    show lp_X8_digest_45 N (n' + 1) (nI (5 * m)) s = _
    rw [lp_X8_digest_45, h61 b.1, e5, if_pos (y_le (by omega) (Nat.le_refl _))]; rfl) (5 * m) N 0 s (by omega) (by omega) (by rw [fH_0]; exact hs)
  exact ⟨s2, e2, a2⟩
theorem v_d78M {N : Nat} {pg : List Nat} {S : Nat → List Nat} {K : List (Nat × List Nat)} {n m : Nat} {A M : Nat → Nat} {σ s : fS} {h : Int64} (hN : 200 ≤ N) (hi : INVw pg S K n m A M σ) (hs : iH σ S h s) : ∃ s', lp_X8_digest_78 N N 0 s = some s' ∧ iH σ S (fH (fun i => nI (pg.getD i 0)) pg.length h) s' := by
  have hpl := hi.1.2.2.1
  obtain ⟨s3, a3, e3⟩ := lpU (fun n x s => lp_X8_digest_78 N n x s) pg.length (fun i s => iH σ S (fH (fun i => nI (pg.getD i 0)) i h) s) id (by
    intro n' i s hi' (b : iH σ S (fH (fun i => nI (pg.getD i 0)) i h) s)
    have hG := (hi.H b.1 b.2.1).1
    refine ⟨sL s 61 32 (mx (s.2 61 32) (nI (pg.getD i 0))), b.mk2 b.2.1 qA.rf _ rfl, ?_⟩
    show lp_X8_digest_78 N (n' + 1) (nI i) s = lp_X8_digest_78 N n' (nI (i + 1)) (sL s 61 32 (mx (s.2 61 32) (nI (pg.getD i 0))))
    rw [lp_X8_digest_78, hG.2.1, if_neg (n_le (by omega) hi'), Gd_c (fin_nI (show i < 18 by omega) (by omega)), n_cl (by omega), (hG.2.2.2.1 i hi').2, v_mix, Bv_s, nI_1]) (by
    intro n' s (b : iH σ S (fH (fun i => nI (pg.getD i 0)) pg.length h) s)
    show lp_X8_digest_78 N (n' + 1) (nI pg.length) s = _
    rw [lp_X8_digest_78, (hi.H b.1 b.2.1).1.2.1, if_pos (y_le (by omega) (Nat.le_refl _))]; rfl) pg.length N 0 s (by omega) (by omega) (by rw [fH_0]; exact hs)
  exact ⟨s3, e3, a3⟩
theorem v_d105M {N : Nat} {pg : List Nat} {S : Nat → List Nat} {K : List (Nat × List Nat)} {n m : Nat} {A M : Nat → Nat} {σ s : fS} {h : Int64} (hN : 200 ≤ N) (hi : INVw pg S K n m A M σ) (hs : iH σ S h s) : ∃ s', lp_X8_digest_105 N N 0 s = some s' ∧ iH σ S (fH (cnI σ S m) 10 h) s' := by
  obtain ⟨s4, a4, e4⟩ := lpU (fun n x s => lp_X8_digest_105 N n x s) 10 (fun i s => iH σ S (fH (cnI σ S m) i h) s) id (by
    intro n' i s hi' (b : iH σ S (fH (cnI σ S m) i h) s)
    obtain ⟨s', f, mm, q⟩ := v_cnM hN b.2.1 (hi.H b.1 b.2.1).2.2.2.2.2.2.2 hi'
    refine ⟨sL s' 61 32 (mx (s'.2 61 32) (cnI σ S m i)), b.mk2 mm q.A _ rfl, ?_⟩
    show lp_X8_digest_105 N (n' + 1) (nI i) s = lp_X8_digest_105 N n' (nI (i + 1)) (sL s' 61 32 (mx (s'.2 61 32) (cnI σ S m i)))
    rw [lp_X8_digest_105, if_neg (show ¬ (10 : Int32) ≤ nI i from n_le (b := 10) (by omega) hi'), f, Bd_s, cnI_cg S m (b.1.1 74 (by decide)).1 b.1.2, v_mix, Bv_s, nI_1]) (by
    intro n' s _
    show lp_X8_digest_105 N (n' + 1) (nI 10) s = _
    rw [lp_X8_digest_105, if_pos (by decide)]; rfl) 10 N 0 s (by omega) (by omega) (by rw [fH_0]; exact hs)
  exact ⟨s4, e4, a4⟩
theorem v_dgM {N : Nat} {pg : List Nat} {S : Nat → List Nat} {K : List (Nat × List Nat)} {n m : Nat} {A M : Nat → Nat} {σ : fS} (hN : 400 ≤ N) (h : INVw pg S K n m A M σ) : ∃ σ', g_X8_digest N σ = some (dgV σ pg S n m M, σ') ∧ INVw pg S K n m A M σ' := by
  have h0 : iH σ S 1487 (sL σ 61 32 1487) := ⟨qH.rf.m _, h.2.2.1, sL_s _ _⟩
  unfold g_X8_digest dgV
  generalize (1487 : Int64) = c at h0 ⊢
  obtain ⟨s1, e1, a1⟩ := v_d9M (N := N) (by omega) h0
  obtain ⟨s2, e2, a2⟩ := v_d45M hN h a1
  obtain ⟨s3, e3, a3⟩ := v_d78M (N := N) (by omega) h a2
  obtain ⟨s4, e4, a4⟩ := v_d105M (N := N) (by omega) h a3
  refine ⟨s4, ?_, h.H a4.1 a4.2.1⟩
  rw [Lt_e, e1, Bv_s, e2, Bv_s, e3, Bv_s, e4, Bv_s, a4.2.2]
theorem o26 {N : Nat} (hN : 400 ≤ N) : op_26 INV N := by
  intro σ hi
  obtain ⟨pg, S, K, n, m, A, M, hw⟩ := hi
  obtain ⟨s1, f1, g1⟩ := v_dgX (N := N) (by omega) hw
  have hw1 : INVw pg S K n m A M s1 := hw.q (qA.x g1 (by decide) (by decide)) (hw.2.2.1.ag g1 (by decide))
  obtain ⟨s2, f2, i2⟩ := v_dgM hN hw1
  have hd : dgV s1 pg S n m M = dgV σ pg S n m M := by
    unfold dgV
    have e1 : prF s1 n M = prF σ n M := by funext t; exact prI_cg n M (fun k p q => g1.i (by simp; omega)) _ _
    have e2 : cnI s1 S m = cnI σ S m := by funext w; exact cnI_cg S m (g1.i (by decide)) (fun i _ _ _ => by rw [g1.i (by decide)]) w
    rw [e1, e2]
  rw [hd] at f2
  exact ⟨_, s1, s2, f1, f2, pg, S, K, n, m, A, M, i2⟩
