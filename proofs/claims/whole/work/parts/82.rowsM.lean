/-! rows: the reference's search -/
def rwM (σ : fS) (L : Nat) (R : Nat → Nat) : Prop := ∀ i, i < L → σ.1 83 i = nI (R i)
def leF (L g : Nat) (s : Nat → Nat) : Prop := ∀ i, i < L → s i ≤ g
theorem gon_lp {N L g : Nat} {R : Nat → Nat} (hg : g ≤ 15) (hL : L ≤ 5) (hR : leF L g R) : ∀ (k n : Nat) (σ : fS), k ≤ L → k < n → (∀ j, j < k → σ.1 83 j = nI (R j)) → (∀ j, k ≤ j → j < L → R j = g ∧ σ.1 83 j = 0) → ∃ s', ag [83] σ s' ∧ ((lp_X8_goesOn_7 N (nI g) n (zI ((k : Int) - 1)) σ = some (zI (-1), s') ∧ (∀ j, j < L → R j = g)) ∨ (∃ q, q < L ∧ lp_X8_goesOn_7 N (nI g) n (zI ((k : Int) - 1)) σ = some (nI q, s') ∧ R q < g ∧ (∀ j, j ≤ q → s'.1 83 j = nI (R j)) ∧ ∀ j, q < j → j < L → R j = g ∧ s'.1 83 j = 0))
  | 0, n, σ, hk, hn, h1, h2 => by
    obtain ⟨n, rfl⟩ : ∃ m, n = m + 1 := ⟨n - 1, by omega⟩
    refine ⟨σ, ag.rf, Or.inl ⟨?_, fun j hj => (h2 j (by omega) hj).1⟩⟩
    rw [show (((0 : Nat) : Int) - 1) = -1 from rfl, lp_X8_goesOn_7, if_pos (by decide)]
  | k + 1, n, σ, hk, hn, h1, h2 => by
    obtain ⟨n, rfl⟩ : ∃ m, n = m + 1 := ⟨n - 1, by omega⟩
    have hRk := hR k (by omega)
    have hxb : zI (((k + 1 : Nat) : Int) - 1) = nI k := by rw [← zI_nat]; congr 1; omega
    have ek : (nI (R k) = nI g) ↔ R k = g := n_eq (by omega) (by omega)
    rw [hxb, lp_X8_goesOn_7, if_neg (n_lt0 (by omega)), Gd_c (fin_nI (show k < 5 by omega) (by omega)), n_cl (by omega), h1 k (by omega)]
    by_cases c : R k = g
    · rw [if_pos (ek.mpr c), Gd_c (fin_nI (show k < 5 by omega) (by omega)), Lt_e, n_m1]
      obtain ⟨s', g1, r1⟩ := gon_lp (N := N) hg hL hR k n (sI σ 83 k 0) (by omega) (by omega) (fun j hj => by rw [sI_other _ _ (Or.inr (by omega))]; exact h1 j (by omega)) (fun j hj hj2 => by
        by_cases cj : j = k
        · subst cj; exact ⟨c, sI_same _ _ _ _⟩
        · rw [sI_other _ _ (Or.inr cj)]; exact h2 j (by omega) hj2)
      exact ⟨s', (ag.sI _ (by simp) _ _).tr g1, r1⟩
    · rw [if_neg (fun z => c (ek.mp z))]
      exact ⟨σ, ag.rf, Or.inr ⟨k, by omega, rfl, by omega, fun j hj => h1 j (by omega), fun j hj hj2 => h2 j (by omega) hj2⟩⟩
theorem v_gon {N L g : Nat} {R : Nat → Nat} {σ : fS} (hN : 200 ≤ N) (hg : g ≤ 15) (hL : L ≤ 5) (hL1 : 1 ≤ L) (h21 : σ.1 61 21 = nI L) (hR : leF L g R) (h : rwM σ L R) : ∃ s', ag [83] σ s' ∧ ((g_X8_goesOn N (nI g) σ = some (0, s') ∧ ∀ j, j < L → R j = g) ∨ (g_X8_goesOn N (nI g) σ = some (1, s') ∧ ∃ R', rwM s' L R' ∧ leF L g R' ∧ ltF L R R' ∧ ∀ s, leF L g s → ltF L s R' → ltF L s R ∨ eqF L s R)) := by
  obtain ⟨s1, g1, r1⟩ := gon_lp (N := N) hg hL hR L N σ (Nat.le_refl _) (by omega) h (fun j h1 h2 => by omega)
  have hp : nI L - (1 : Int32) = zI ((L : Int) - 1) := n_pred (by omega)
  rcases r1 with ⟨e1, a1⟩ | ⟨q, hq, e1, a1, a2, a3⟩
  · refine ⟨s1, g1, Or.inl ⟨?_, a1⟩⟩
    unfold g_X8_goesOn
    rw [h21, hp, Lt_e, e1, Bd_s, if_pos (by decide), Bv_s, if_pos (by decide)]
  · refine ⟨sI s1 83 q (nI (R q + 1)), g1.tr (ag.sI _ (by simp) _ _), Or.inr ⟨?_, fun j => if j < q then R j else if j = q then R q + 1 else 0, fun j hj => ?_, fun j hj => ?_, ⟨q, hq, ?_, fun j hj => ?_⟩, fun s hs hl => ?_⟩⟩
    · unfold g_X8_goesOn
      rw [h21, hp, Lt_e, e1, Bd_s, if_neg (n_lt0 (by omega)), Gd_c (fin_nI (show q < 5 by omega) (by omega)), Gd_c (fin_nI (show q < 5 by omega) (by omega)), n_cl (by omega), a2 q (Nat.le_refl _), nI_1, Lt_e, Bv_s, if_neg (n_lt0 (by omega))]
    · show (sI s1 83 q (nI (R q + 1))).1 83 j = nI (if j < q then R j else if j = q then R q + 1 else 0)
      by_cases c1 : j < q
      · rw [if_pos c1, sI_other _ _ (Or.inr (by omega))]; exact a2 j (by omega)
      · rw [if_neg c1]
        by_cases c2 : j = q
        · subst c2; rw [sI_same, if_pos rfl]
        · rw [if_neg c2, sI_other _ _ (Or.inr c2)]; exact (a3 j (by omega) hj).2
    · show (if j < q then R j else if j = q then R q + 1 else 0) ≤ g
      by_cases c1 : j < q
      · rw [if_pos c1]; exact hR j hj
      · rw [if_neg c1]
        by_cases c2 : j = q
        · rw [if_pos c2]; omega
        · rw [if_neg c2]; omega
    · show R q < (if q < q then R q else if q = q then R q + 1 else 0)
      rw [if_neg (by omega), if_pos rfl]; omega
    · show R j = (if j < q then R j else if j = q then R q + 1 else 0)
      rw [if_pos hj]
    · obtain ⟨i, i1, i2, i3⟩ := hl
      have pe : ∀ j, j < i → j < q → s j = R j := fun j hj hjq => by
        have := i3 j hj
        simp only [hjq, if_true] at this
        exact this
      by_cases c1 : i < q
      · left
        refine ⟨i, i1, ?_, fun j hj => pe j hj (by omega)⟩
        simp only [c1, if_true] at i2
        exact i2
      · by_cases c2 : i = q
        · subst c2
          simp only [Nat.lt_irrefl, if_false, if_true] at i2
          rcases tri3 L s R with z | z | ⟨i', w1, w2, w3⟩
          · exact Or.inr z
          · exact Or.inl z
          · exfalso
            rcases Nat.lt_trichotomy i' i with y | y | y
            · have := pe i' y y; omega
            · subst y; omega
            · have h1 := (a3 i' y w1).1
              have h2 := hs i' w1
              omega
        · exfalso
          simp only [c1, c2, if_false] at i2
          omega
def hgF (g : Nat) : Nat → (Nat → Nat) → Bool
  | 0, _ => false
  | n + 1, s => hgF g n s || decide (s n = g)
theorem hgF_i {g : Nat} : ∀ {n : Nat} {s : Nat → Nat}, hgF g n s = true ↔ ∃ i, i < n ∧ s i = g
  | 0, s => ⟨fun h => absurd h (by simp [hgF]), fun ⟨i, hi, _⟩ => absurd hi (by omega)⟩
  | n + 1, s => by
    show (hgF g n s || decide (s n = g)) = true ↔ _
    rw [Bool.or_eq_true, hgF_i (n := n), decide_eq_true_eq]
    constructor
    · rintro (⟨i, h1, h2⟩ | h)
      · exact ⟨i, by omega, h2⟩
      · exact ⟨n, by omega, h⟩
    · rintro ⟨i, h1, h2⟩
      by_cases c : i = n
      · subst c; exact Or.inr h2
      · exact Or.inl ⟨i, by omega, h2⟩
def coM (σ : fS) (L : Nat) (c : Nat → Int) : Prop := ∀ i, i < L → σ.1 84 i = zI (c i)
theorem v_com {N L g : Nat} {R : Nat → Nat} {c : Nat → Int} {σ : fS} (hN : 200 ≤ N) (hc : cB c) (hg : g ≤ 15) (hL : L ≤ 5) (h21 : σ.1 61 21 = nI L) (hR : leF L g R) (h : rwM σ L R) (h84 : coM σ L c) : g_X8_comesToNothing N (nI g) σ = some (bI (hgF g L R && decide (smF c L R = 0)), σ) := by
  obtain ⟨s, hs, e⟩ := lpU (fun n x (s : Int32 × Int32) => lp_X8_comesToNothing_7 N (nI g) n s.1 s.2 x σ) L (fun i s => s = (zI (smF c i R), bI (hgF g i R))) (fun s => (s, σ)) (by
    intro n i s hi (hs : s = (zI (smF c i R), bI (hgF g i R)))
    subst hs
    refine ⟨(zI (smF c (i + 1) R), bI (hgF g (i + 1) R)), rfl, ?_⟩
    show lp_X8_comesToNothing_7 N (nI g) (n + 1) (zI (smF c i R)) (bI (hgF g i R)) (nI i) σ = lp_X8_comesToNothing_7 N (nI g) n (zI (smF c (i + 1) R)) (bI (hgF g (i + 1) R)) (nI (i + 1)) σ
    have hRi := hR i hi
    have hf5 : fin (nI i) 5 = true := fin_nI (show i < 5 by omega) (by omega)
    have ei : (nI (R i) = nI g) ↔ R i = g := n_eq (by omega) (by omega)
    have hval : zI (smF c i R) + zI (c i) * nI (R i) * nI (R i) = zI (smF c (i + 1) R) := by
      show _ = zI (smF c i R + c i * (R i : Int) * (R i : Int))
      rw [← zI_nat (R i), zI_mul, zI_mul, zI_add]
    rw [lp_X8_comesToNothing_7, h21, if_neg (n_le (by omega) hi), Gd_c hf5, Gd_c hf5, Gd_c hf5, n_cl (by omega), h84 i hi, h i hi, hval, Lt_e, Gd_c hf5, nI_1]
    show _ = lp_X8_comesToNothing_7 N (nI g) n (zI (smF c (i + 1) R)) (bI (hgF g i R || decide (R i = g))) (nI (i + 1)) σ
    cases hgF g i R
    · rw [if_pos (show bI false = 0 from rfl)]
      by_cases cg : R i = g
      · rw [if_pos (ei.mpr cg), decide_eq_true cg]; rfl
      · rw [if_neg (fun z => cg (ei.mp z)), decide_eq_false cg]; rfl
    · rw [if_neg (show ¬ bI true = 0 by decide)]; rfl) (by
    intro n s _
    show lp_X8_comesToNothing_7 N (nI g) (n + 1) s.1 s.2 (nI L) σ = _
    rw [lp_X8_comesToNothing_7, h21, if_pos (y_le (by omega) (Nat.le_refl _))]) L N 0 (0, 0) (by omega) (by omega) rfl
  change s = (zI (smF c L R), bI (hgF g L R)) at hs
  subst hs
  have hb := smF_b hc (t := L) (X := R) (fun i hi => by have := hR i hi; omega)
  have e0 : (zI (smF c L R) = 0) ↔ smF c L R = 0 := by rw [z0]; exact zI_eq (by omega) (by omega)
  unfold g_X8_comesToNothing
  rw [show lp_X8_comesToNothing_7 N (nI g) N 0 0 0 σ = _ from e, Bd_s]
  show (if bI (hgF g L R) = 0 then some ((0 : Int32), σ) else if zI (smF c L R) = 0 then some ((1 : Int32), σ) else some ((0 : Int32), σ)) = _
  cases hgF g L R
  · rw [if_pos (show bI false = 0 from rfl)]; rfl
  · rw [if_neg (show ¬ bI true = 0 by decide)]
    by_cases cs : smF c L R = 0
    · rw [if_pos (e0.mpr cs), decide_eq_true cs]; rfl
    · rw [if_neg (fun z => cs (e0.mp z)), decide_eq_false cs]; rfl
def goodF (L g : Nat) (c : Nat → Int) (wl : Bool) (s : Nat → Nat) : Prop := hgF g L s = true ∧ smF c L s = 0 ∧ (wl = true → s (L - 1) ≠ 0)
theorem hgF_e {g : Nat} {n : Nat} {s r : Nat → Nat} (h : eqF n s r) (h2 : hgF g n s = true) : hgF g n r = true := by
  obtain ⟨i, h1, h3⟩ := hgF_i.mp h2
  exact hgF_i.mpr ⟨i, h1, by rw [← h i h1]; exact h3⟩
theorem goodF.e {L g : Nat} {c : Nat → Int} {wl : Bool} {s r : Nat → Nat} (hL : 1 ≤ L) (e : eqF L s r) (h : goodF L g c wl s) : goodF L g c wl r := ⟨hgF_e e h.1, by rw [← smF_e e]; exact h.2.1, fun w => by rw [← e (L - 1) (by omega)]; exact h.2.2 w⟩
def cdF : Nat → (Nat → Nat) → Nat
  | 0, _ => 0
  | n + 1, s => cdF n s * 16 + s n
theorem cdF_e : ∀ {n : Nat} {s r : Nat → Nat}, eqF n s r → cdF n s = cdF n r
  | 0, _, _, _ => rfl
  | n + 1, s, r, h => by
    obtain ⟨h1, h2⟩ := eqF_s.mp h
    show cdF n s * 16 + s n = cdF n r * 16 + r n
    rw [cdF_e h1, h2]
theorem cdF_lt : ∀ {n : Nat} {s : Nat → Nat}, leF n 15 s → cdF n s < 16 ^ n
  | 0, _, _ => by show 0 < 16 ^ 0; decide
  | n + 1, s, h => by
    have ih := cdF_lt (n := n) (s := s) (fun i hi => h i (by omega))
    have := h n (by omega)
    show cdF n s * 16 + s n < 16 ^ (n + 1)
    rw [Nat.pow_succ]; omega
theorem cdF_m : ∀ {n : Nat} {s r : Nat → Nat}, leF n 15 s → ltF n s r → cdF n s < cdF n r
  | 0, _, _, _, ⟨i, hi, _⟩ => absurd hi (by omega)
  | n + 1, s, r, h, hl => by
    show cdF n s * 16 + s n < cdF n r * 16 + r n
    rcases ltF_s.mp hl with z | ⟨z, w⟩
    · have ih := cdF_m (fun i hi => h i (by omega)) z
      have := h n (by omega)
      omega
    · rw [cdF_e z]; omega
theorem fb_lp {N L g : Nat} {c : Nat → Int} {wl : Bool} (hN : 200 ≤ N) (hc : cB c) (hg : g ≤ 15) (hL : L ≤ 5) (hL1 : 1 ≤ L) : ∀ (e n : Nat) (R : Nat → Nat) (σ : fS), 16 ^ L ≤ cdF L R + e → e < n → σ.1 61 21 = nI L → coM σ L c → leF L g R → rwM σ L R → (∀ s, leF L g s → (ltF L s R ∨ eqF L s R) → ¬ goodF L g c wl s) → ∃ s', ag [83] σ s' ∧ ((lp_X8_findBy_23 N (nI g) (bI wl) n σ = some (.inr ((), s')) ∧ ∀ s, leF L g s → ¬ goodF L g c wl s) ∨ (lp_X8_findBy_23 N (nI g) (bI wl) n σ = some (.inl (1, s')) ∧ ∃ r, rwM s' L r ∧ leF L g r ∧ goodF L g c wl r ∧ ∀ s, leF L g s → ltF L s r → ¬ goodF L g c wl s)) := by
  intro e
  induction e with
  | zero =>
    intro n R σ he hn h21 h84 hR hr hno
    have := cdF_lt (n := L) (s := R) (fun i hi => by have := hR i hi; omega)
    omega
  | succ e ih =>
    intro n R σ he hn h21 h84 hR hr hno
    obtain ⟨n, rfl⟩ : ∃ m, n = m + 1 := ⟨n - 1, by omega⟩
    obtain ⟨s1, g1, r1⟩ := v_gon (N := N) hN hg hL hL1 h21 hR hr
    rcases r1 with ⟨e1, a1⟩ | ⟨e1, R', a1, a2, a3, a4⟩
    · refine ⟨s1, g1, Or.inl ⟨?_, fun s hs => ?_⟩⟩
      · rw [lp_X8_findBy_23, e1, Bd_s, if_pos rfl]
      · refine hno s hs ?_
        rcases tri3 L s R with z | z | ⟨i, w1, w2, w3⟩
        · exact Or.inr z
        · exact Or.inl z
        · have h1 := a1 i w1
          have h2 := hs i w1
          omega
    · have h21' : s1.1 61 21 = nI L := by rw [g1.i (by decide)]; exact h21
      have h84' : coM s1 L c := fun i hi => by rw [g1.i (by decide)]; exact h84 i hi
      have hcm := v_com (N := N) hN hc hg hL h21' a2 a1 h84'
      have hcd := cdF_m (n := L) (s := R) (r := R') (fun i hi => by have := hR i hi; omega) a3
      have rest : ¬ goodF L g c wl R' → ∃ s', ag [83] σ s' ∧ ((lp_X8_findBy_23 N (nI g) (bI wl) n s1 = some (.inr ((), s')) ∧ ∀ s, leF L g s → ¬ goodF L g c wl s) ∨ (lp_X8_findBy_23 N (nI g) (bI wl) n s1 = some (.inl (1, s')) ∧ ∃ r, rwM s' L r ∧ leF L g r ∧ goodF L g c wl r ∧ ∀ s, leF L g s → ltF L s r → ¬ goodF L g c wl s)) := by
        intro hng
        obtain ⟨s2, g2, r2⟩ := ih n R' s1 (by omega) (by omega) h21' h84' a2 a1 (fun s hs hl => by
          rcases hl with z | z
          · exact hno s hs (a4 s hs z)
          · exact fun q => hng (q.e hL1 z))
        exact ⟨s2, g1.tr g2, r2⟩
      rw [lp_X8_findBy_23, e1, Bd_s, if_neg (by decide), hcm, Bd_s]
      cases hb : (hgF g L R' && decide (smF c L R' = 0))
      · rw [if_pos (show bI false = 0 from rfl)]
        exact rest (fun q => by rw [q.1, decide_eq_true q.2.1] at hb; exact absurd hb (by decide))
      · rw [if_neg (show ¬ bI true = 0 by decide)]
        rw [Bool.and_eq_true, decide_eq_true_eq] at hb
        cases wl
        · rw [if_pos (show bI false = 0 from rfl)]
          exact ⟨s1, g1, Or.inr ⟨rfl, R', a1, a2, ⟨hb.1, hb.2, fun z => absurd z (by decide)⟩, fun s hs hl => hno s hs (a4 s hs hl)⟩⟩
        · have hp : nI L - (1 : Int32) = nI (L - 1) := n_sub1 hL1
          have hRl := a2 (L - 1) (by omega)
          rw [if_neg (show ¬ bI true = 0 by decide), h21', hp, Gd_c (fin_nI (show L - 1 < 5 by omega) (by omega)), n_cl (by omega), a1 (L - 1) (by omega)]
          have e0 := n_le0 (i := R' (L - 1)) (by omega)
          by_cases c0 : R' (L - 1) = 0
          · rw [if_pos (e0.mpr c0)]
            exact rest (fun q => q.2.2 rfl c0)
          · rw [if_neg (fun z => c0 (e0.mp z))]
            exact ⟨s1, g1, Or.inr ⟨rfl, R', a1, a2, ⟨hb.1, hb.2, fun _ => c0⟩, fun s hs hl => hno s hs (a4 s hs hl)⟩⟩
theorem v_fb {N L g : Nat} {c : Nat → Int} {wl : Bool} {σ : fS} (hN : 2000000 ≤ N) (hc : cB c) (hg : g ≤ 15) (hg1 : 1 ≤ g) (hL : L ≤ 5) (hL1 : 1 ≤ L) (h21 : σ.1 61 21 = nI L) (h84 : coM σ L c) : ∃ s', ag [83] σ s' ∧ ((g_X8_findBy N (nI g) (bI wl) σ = some (0, s') ∧ ∀ s, leF L g s → ¬ goodF L g c wl s) ∨ (g_X8_findBy N (nI g) (bI wl) σ = some (1, s') ∧ ∃ r, rwM s' L r ∧ leF L g r ∧ goodF L g c wl r ∧ ∀ s, leF L g s → ltF L s r → ¬ goodF L g c wl s)) := by
  obtain ⟨s1, ⟨a1, a2⟩, e1⟩ := lpU (fun n x s => lp_X8_findBy_2 N (nI g) (bI wl) n x s) L (fun i s => (∀ j, j < i → s.1 83 j = 0) ∧ ag [83] σ s) id (by
    intro n i s hi ⟨b1, b2⟩
    refine ⟨sI s 83 i 0, ⟨fun j hj => ?_, b2.tr (ag.sI _ (by simp) _ _)⟩, ?_⟩
    · by_cases c : j = i
      · subst c; exact sI_same _ _ _ _
      · rw [sI_other _ _ (Or.inr c)]; exact b1 j (by omega)
    · show lp_X8_findBy_2 N (nI g) (bI wl) (n + 1) (nI i) s = _
      rw [lp_X8_findBy_2, b2.i (by decide), h21, if_neg (n_le (by omega) hi), Gd_c (fin_nI (show i < 5 by omega) (by omega)), n_cl (by omega), Lt_e, nI_1]) (by
    intro n s ⟨b1, b2⟩
    show lp_X8_findBy_2 N (nI g) (bI wl) (n + 1) (nI L) s = _
    rw [lp_X8_findBy_2, b2.i (by decide), h21, if_pos (y_le (by omega) (Nat.le_refl _))]; rfl) L N 0 σ (by omega) (by omega) ⟨fun j hj => absurd hj (by omega), ag.rf⟩
  have h16 : 16 ^ L ≤ 16 ^ 5 := Nat.pow_le_pow_right (by decide) hL
  obtain ⟨s2, g2, r2⟩ := fb_lp (N := N) (wl := wl) (by omega) hc hg hL hL1 (16 ^ 5) N (fun _ => 0) s1 (by omega) (by omega) (by rw [a2.i (by decide)]; exact h21) (fun i hi => by rw [a2.i (by decide)]; exact h84 i hi) (fun i _ => Nat.zero_le _) (fun i hi => a1 i hi) (by
    intro s hs hl hgd
    have hz : eqF L s (fun _ => 0) := by
      rcases hl with ⟨i, _, h1, _⟩ | z
      · exact absurd h1 (Nat.not_lt_zero _)
      · exact z
    obtain ⟨i, h1, h2⟩ := hgF_i.mp hgd.1
    have h3 : s i = 0 := hz i h1
    omega)
  refine ⟨s2, a2.tr g2, ?_⟩
  unfold g_X8_findBy
  rw [show lp_X8_findBy_2 N (nI g) (bI wl) N 0 σ = some s1 from e1, Bv_s]
  rcases r2 with ⟨e2, q⟩ | ⟨e2, q⟩
  · exact Or.inl ⟨by rw [e2, Bs_r], q⟩
  · exact Or.inr ⟨by rw [e2, Bs_l], q⟩
theorem sol_good {L : Nat} {c : Nat → Int} {wl : Bool} {s : Nat → Nat} (h : sol L c wl s) : leF L (mxF L s) s ∧ goodF L (mxF L s) c wl s := by
  refine ⟨fun i hi => mxF_ge hi, ?_, h.1, h.2.2⟩
  obtain ⟨i, h1, h2⟩ := mxF_at h.p
  exact hgF_i.mpr ⟨i, h1, h2⟩
theorem fd_lp {N L B : Nat} {c : Nat → Int} {wl : Bool} (hN : 2000000 ≤ N) (hc : cB c) (hB : B ≤ 15) (hL : L ≤ 5) (hL1 : 1 ≤ L) : ∀ (d n g : Nat) (σ : fS), g + d = B + 1 → d < n → 1 ≤ g → σ.1 61 21 = nI L → coM σ L c → (∀ s, sol L c wl s → g ≤ mxF L s) → ∃ s', ag [83] σ s' ∧ ((lp_X8_find_33 N (nI B) (bI wl) n (nI g) σ = some (.inr ((), s')) ∧ ∀ s, sol L c wl s → B < mxF L s) ∨ (lp_X8_find_33 N (nI B) (bI wl) n (nI g) σ = some (.inl (1, s')) ∧ ∃ r, rwM s' L r ∧ bst L c wl B r (fun _ => True))) := by
  intro d
  induction d with
  | zero =>
    intro n g σ he hn hg h21 h84 hno
    obtain ⟨n, rfl⟩ : ∃ m, n = m + 1 := ⟨n - 1, by omega⟩
    refine ⟨σ, ag.rf, Or.inl ⟨?_, fun s hs => by have := hno s hs; omega⟩⟩
    rw [lp_X8_find_33, if_pos ((nI_ltI (by omega) (by omega)).mpr (by omega))]
  | succ d ih =>
    intro n g σ he hn hg h21 h84 hno
    obtain ⟨n, rfl⟩ : ∃ m, n = m + 1 := ⟨n - 1, by omega⟩
    obtain ⟨s1, g1, r1⟩ := v_fb (N := N) (g := g) (wl := wl) hN hc (by omega) hg hL hL1 h21 h84
    rw [lp_X8_find_33, if_neg (fun z => by have := (nI_ltI (by omega) (by omega)).mp z; omega)]
    rcases r1 with ⟨e1, q⟩ | ⟨e1, r, q1, q2, q3, q4⟩
    · rw [e1, Bd_s, if_pos rfl, nI_1]
      obtain ⟨s2, g2, r2⟩ := ih n (g + 1) s1 (by omega) (by omega) (by omega) (by rw [g1.i (by decide)]; exact h21) (fun i hi => by rw [g1.i (by decide)]; exact h84 i hi) (fun s hs => by
        have h1 := hno s hs
        rcases Nat.lt_or_ge g (mxF L s) with z | z
        · exact z
        · have hm : mxF L s = g := by omega
          have h2 := sol_good hs
          rw [hm] at h2
          exact absurd h2.2 (q s h2.1))
      exact ⟨s2, g1.tr g2, r2⟩
    · rw [e1, Bd_s, if_neg (by decide)]
      refine ⟨s1, g1, Or.inr ⟨rfl, r, q1, ?_⟩⟩
      obtain ⟨i, i1, i2⟩ := hgF_i.mp q3.1
      have hmr : mxF L r = g := by
        have h1 : mxF L r ≤ g := mxF_le.mpr q2
        have h2 := mxF_ge (s := r) i1
        omega
      refine ⟨⟨q3.2.1, ⟨i, i1, by omega⟩, q3.2.2⟩, by omega, trivial, fun s _ hs hm => ?_⟩
      have h1 := hno s hs
      rcases Nat.lt_or_ge g (mxF L s) with z | z
      · exact Or.inl (by omega)
      · have hms : mxF L s = g := by omega
        have h2 := sol_good hs
        rw [hms] at h2
        refine Or.inr ⟨by omega, ?_⟩
        rcases tri3 L s r with w | w | w
        · exact Or.inl w
        · exact absurd h2.2 (q4 s h2.1 w)
        · exact Or.inr w
theorem v_findM {N B : Nat} {wl : Bool} {ks : List Nat} {σ : fS} (hN : 2000000 ≤ N) (hB : B ≤ 15) (hs : lk σ ks) (hL : 0 < ks.length) : ∃ σ', ag [83, 84] σ σ' ∧ ((g_X8_find N (nI B) (bI wl) σ = some (1, σ') ∧ ∃ r, rwM σ' ks.length r ∧ bst ks.length (cL ks) wl B r (fun _ => True)) ∨ (g_X8_find N (nI B) (bI wl) σ = some (0, σ') ∧ ∀ s, sol ks.length (cL ks) wl s → B < mxF ks.length s)) := by
  have h5 := hs.2.2.1
  obtain ⟨s1, ⟨a1, a2⟩, e1⟩ := lpU (fun n x s => lp_X8_find_2 N (nI B) (bI wl) n x s) ks.length (fun i s => (∀ j, j < i → s.1 84 j = zI (cL ks j)) ∧ ag [84] σ s) id (by
    intro n i s hi ⟨b1, b2⟩
    have hk := getD_lt hs.2.2.2 hi
    refine ⟨sI s 84 i (zI (cL ks i)), ⟨fun j hj => ?_, b2.tr (ag.sI _ (by simp) _ _)⟩, ?_⟩
    · by_cases c : j = i
      · subst c; exact sI_same _ _ _ _
      · rw [sI_other _ _ (Or.inr c)]; exact b1 j (by omega)
    · show lp_X8_find_2 N (nI B) (bI wl) (n + 1) (nI i) s = _
      rw [lp_X8_find_2, b2.i (by decide), hs.1, if_neg (n_le (by omega) hi), Gd_c (fin_nI (show i < 5 by omega) (by omega)), n_cl (by omega), b2.i (by decide), hs.2.1 i hi, v_coreM (by omega) hk, Bd_s, Gd_c (fin_nI (show i < 5 by omega) (by omega)), Lt_e, nI_1]
      rfl) (by
    intro n s ⟨b1, b2⟩
    show lp_X8_find_2 N (nI B) (bI wl) (n + 1) (nI ks.length) s = _
    rw [lp_X8_find_2, b2.i (by decide), hs.1, if_pos (y_le (by omega) (Nat.le_refl _))]; rfl) ks.length N 0 σ (by omega) (by omega) ⟨fun j hj => absurd hj (by omega), ag.rf⟩
  obtain ⟨s2, g2, r2⟩ := fd_lp (N := N) (wl := wl) hN (cL_b hs.2.2.2) hB h5 hL B N 1 s1 (by omega) (by omega) (by omega) (by rw [a2.i (by decide)]; exact hs.1) a1 (fun s hl => hl.p)
  refine ⟨s2, (a2.mono (by simp)).tr (g2.mono (by simp)), ?_⟩
  unfold g_X8_find
  rw [show lp_X8_find_2 N (nI B) (bI wl) N 0 σ = some s1 from e1, Bv_s]
  rcases r2 with ⟨e2, q⟩ | ⟨e2, q⟩
  · exact Or.inr ⟨by rw [show lp_X8_find_33 N (nI B) (bI wl) N 1 s1 = _ from e2, Bs_r], q⟩
  · exact Or.inl ⟨by rw [show lp_X8_find_33 N (nI B) (bI wl) N 1 s1 = _ from e2, Bs_l], q⟩
