/-! what both sides hold in common -/
def PG (σ : fS) (pg : List Nat) : Prop := σ.1 1 1 = nI pg.length ∧ σ.1 61 5 = nI pg.length ∧ pg.length ≤ 18 ∧ (∀ i, i < pg.length → σ.1 2 i = nI (pg.getD i 0) ∧ σ.1 67 i = nI (pg.getD i 0)) ∧ ∀ c ∈ pg, 32 ≤ c ∧ c ≤ 126
def KB (K : List (Nat × List Nat)) : Prop := K.length ≤ 12 ∧ ∀ q ∈ K, q.1 < 8 ∧ q.2.length ≤ 4
def rp (nx len j : Nat) : Nat := (nx + 12 - len + j) % 12
def KX (σ : fS) (K : List (Nat × List Nat)) : Prop := ∃ nx, nx < 12 ∧ σ.1 6 2 = nI nx ∧ σ.1 6 3 = nI K.length ∧ ∀ j, j < K.length → σ.1 7 (rp nx K.length j) = nI (K.getD j (0, [])).1 ∧ frK σ (37 + 2 * rp nx K.length j) (K.getD j (0, [])).2
def KM (σ : fS) (K : List (Nat × List Nat)) : Prop := σ.1 61 7 = nI K.length ∧ ∀ j, j < K.length → σ.1 68 j = nI (K.getD j (0, [])).1 ∧ σ.1 69 j = nI (K.getD j (0, [])).2.length ∧ ∀ e, e < (K.getD j (0, [])).2.length → σ.1 70 (4 * j + e) = nI ((K.getD j (0, [])).2.getD e 0)
def pop (n M : Nat) : Nat := ((List.range n).filter (fun r => M.testBit r)).length
def PS (σ : fS) (n m : Nat) (A M : Nat → Nat) : Prop := (σ.1 9 6 = nI n ∧ σ.1 61 13 = nI n ∧ n ≤ 160) ∧ (σ.1 9 7 = nI m ∧ σ.1 61 14 = nI m ∧ m ≤ 56) ∧ (m ≠ 0 → 3 ≤ n) ∧ ∀ k, k < m → (σ.1 10 k = nI (A k) ∧ σ.1 71 k = nI (A k) ∧ 1 ≤ A k ∧ A k ≤ 7) ∧ (σ.1 72 k = σ.1 11 k ∧ σ.1 73 k = σ.1 12 k ∧ σ.1 74 k = σ.1 13 k) ∧ M k < 2 ^ n ∧ (∀ w, w < 3 → σ.2 14 (3 * k + w) = Int64.ofNat (M k >>> (64 * w) % 2 ^ 64)) ∧ σ.1 75 k = nI (pop n (M k)) ∧ ∀ r, r < n → σ.1 76 (160 * k + r) = bI ((M k).testBit r)
def CT (σ : fS) : Prop := σ.1 6 4 = σ.1 61 11 ∧ σ.1 6 5 = σ.1 61 12
def INVw (pg : List Nat) (S : Nat → List Nat) (K : List (Nat × List Nat)) (n m : Nat) (A M : Nat → Nat) (σ : fS) : Prop := PG σ pg ∧ XS σ S ∧ MS σ S ∧ KX σ K ∧ KM σ K ∧ KB K ∧ CT σ ∧ PS σ n m A M
def INV (σ : fS) : Prop := ∃ pg S K n m A M, INVw pg S K n m A M σ
theorem fr_0 (k : Nat) : frK σ0 k [] := ⟨⟨rfl, fun i hi => absurd hi (by simp), by simp, by simp⟩, fun h => absurd rfl h⟩
theorem inv0 : INV σ0 := by
  refine ⟨[], fun _ => [], [], 0, 0, fun _ => 1, fun _ => 0, ?_, ?_, ?_, ?_, ?_, ?_, ?_, ?_⟩
  · exact ⟨rfl, rfl, by simp, fun i hi => absurd hi (by simp), by simp⟩
  · exact fun i _ => fr_0 _
  · exact fun i _ => ⟨⟨rfl, fun j hj => absurd hj (by simp), by simp, by simp⟩, Or.inl rfl⟩
  · exact ⟨0, by decide, rfl, rfl, fun j hj => absurd hj (by simp)⟩
  · exact ⟨rfl, fun j hj => absurd hj (by simp)⟩
  · exact ⟨by simp, by simp⟩
  · exact ⟨rfl, rfl⟩
  · exact ⟨⟨rfl, rfl, by decide⟩, ⟨rfl, rfl, by decide⟩, fun h => absurd rfl h, fun k hk => absurd hk (by omega)⟩
/-! what leaves it -/
theorem PG.of {σ τ : fS} {pg : List Nat} (h : PG σ pg) (h1 : τ.1 1 = σ.1 1) (h2 : τ.1 2 = σ.1 2) (h3 : τ.1 61 5 = σ.1 61 5) (h4 : τ.1 67 = σ.1 67) : PG τ pg := by
  unfold PG at *; rw [h1, h2, h3, h4]; exact h
theorem frK.of {σ τ : fS} {k : Nat} {l : List Nat} (h : frK σ k l) (h1 : τ.1 k = σ.1 k) (h2 : τ.1 (k + 1) = σ.1 (k + 1)) : frK τ k l := by
  unfold frK fr0 at *; rw [h1, h2]; exact h
theorem XS.of {σ τ : fS} {S : Nat → List Nat} (h : XS σ S) (h1 : ∀ k, 21 ≤ k → k ≤ 36 → τ.1 k = σ.1 k) : XS τ S := fun i hi => (h i hi).of (h1 _ (by omega) (by omega)) (h1 _ (by omega) (by omega))
theorem rp_lt (nx len j : Nat) : rp nx len j < 12 := Nat.mod_lt _ (by decide)
theorem KX.of {σ τ : fS} {K : List (Nat × List Nat)} (h : KX σ K) (h6 : τ.1 6 = σ.1 6) (h7 : τ.1 7 = σ.1 7) (h1 : ∀ k, 37 ≤ k → k ≤ 60 → τ.1 k = σ.1 k) : KX τ K := by
  obtain ⟨nx, a, b, c, d⟩ := h
  refine ⟨nx, a, by rw [h6]; exact b, by rw [h6]; exact c, fun j hj => ⟨by rw [h7]; exact (d j hj).1, (d j hj).2.of (h1 _ (by omega) ?_) (h1 _ (by omega) ?_)⟩⟩
  · have := rp_lt nx K.length j; omega
  · have := rp_lt nx K.length j; omega
theorem KM.of {σ τ : fS} {K : List (Nat × List Nat)} (h : KM σ K) (h1 : τ.1 61 7 = σ.1 61 7) (h2 : τ.1 68 = σ.1 68) (h3 : τ.1 69 = σ.1 69) (h4 : τ.1 70 = σ.1 70) : KM τ K := by
  unfold KM at *; rw [h1, h2, h3, h4]; exact h
theorem CT.of {σ τ : fS} (h : CT σ) (h1 : τ.1 6 = σ.1 6) (h2 : τ.1 61 11 = σ.1 61 11) (h3 : τ.1 61 12 = σ.1 61 12) : CT τ := by
  unfold CT at *; rw [h1, h2, h3]; exact h
theorem PS.of {σ τ : fS} {n m : Nat} {A M : Nat → Nat} (h : PS σ n m A M) (h1 : ∀ k, 9 ≤ k → k ≤ 13 → τ.1 k = σ.1 k) (h14 : τ.2 14 = σ.2 14) (h2 : τ.1 61 13 = σ.1 61 13) (h3 : τ.1 61 14 = σ.1 61 14) (h4 : ∀ k, 71 ≤ k → k ≤ 76 → τ.1 k = σ.1 k) : PS τ n m A M := by
  unfold PS at *
  rw [h1 9 (by decide) (by decide), h1 10 (by decide) (by decide), h1 11 (by decide) (by decide), h1 12 (by decide) (by decide), h1 13 (by decide) (by decide), h14, h2, h3, h4 71 (by decide) (by decide), h4 72 (by decide) (by decide), h4 73 (by decide) (by decide), h4 74 (by decide) (by decide), h4 75 (by decide) (by decide), h4 76 (by decide) (by decide)]
  exact h
def sQ : List Nat := [4, 5, 16, 17, 18, 19, 20, 61, 64, 65, 66, 77, 78, 79, 80, 81, 82, 83, 84]
def qA (σ τ : fS) : Prop := ag sQ σ τ ∧ ∀ i, i ≠ 21 → i ≠ 27 → i ≠ 28 → τ.1 61 i = σ.1 61 i
theorem qA.rf {σ : fS} : qA σ σ := ⟨ag.rf, fun _ _ _ _ => rfl⟩
theorem qA.tr {σ τ ρ : fS} (h1 : qA σ τ) (h2 : qA τ ρ) : qA σ ρ := ⟨h1.1.tr h2.1, fun i a b c => (h2.2 i a b c).trans (h1.2 i a b c)⟩
theorem qA.x {T : List Nat} {σ τ : fS} (h : ag T σ τ) (hT : ∀ k, k ∈ T → k ∈ sQ) (h61 : 61 ∉ T) : qA σ τ := ⟨h.mono hT, fun i _ _ _ => by rw [h.i h61]⟩
theorem qA.m {T : List Nat} {σ τ : fS} (h : ag T σ τ) (hT : ∀ k, k ∈ T → k ∈ sQ) (h61 : ∀ i, i ≠ 21 → τ.1 61 i = σ.1 61 i) : qA σ τ := ⟨h.mono hT, fun i a _ _ => h61 i a⟩
theorem qM.A {σ τ : fS} (h : qM σ τ) : qA σ τ := qA.m h.1 (by decide) h.2
theorem XS.q {σ τ : fS} {S : Nat → List Nat} (h : XS σ S) (q : qA σ τ) : XS τ S := h.of (fun k h1 h2 => q.1.i (by simp [sQ]; omega))
theorem INVw.q {pg : List Nat} {S : Nat → List Nat} {K : List (Nat × List Nat)} {n m : Nat} {A M : Nat → Nat} {σ τ : fS} (h : INVw pg S K n m A M σ) (q : qA σ τ) (hm : MS τ S) : INVw pg S K n m A M τ := by
  obtain ⟨h1, h2, h3, h4, h5, h6, h7, h8⟩ := h
  refine ⟨?_, h2.q q, hm, ?_, ?_, h6, ?_, ?_⟩
  · exact h1.of (q.1.i (by decide)) (q.1.i (by decide)) (q.2 5 (by decide) (by decide) (by decide)) (q.1.i (by decide))
  · exact h4.of (q.1.i (by decide)) (q.1.i (by decide)) (fun k a b => q.1.i (by simp [sQ]; omega))
  · exact h5.of (q.2 7 (by decide) (by decide) (by decide)) (q.1.i (by decide)) (q.1.i (by decide)) (q.1.i (by decide))
  · exact h7.of (q.1.i (by decide)) (q.2 11 (by decide) (by decide) (by decide)) (q.2 12 (by decide) (by decide) (by decide))
  · exact h8.of (fun k a b => q.1.i (by simp [sQ]; omega)) (q.1.l (by decide)) (q.2 13 (by decide) (by decide) (by decide)) (q.2 14 (by decide) (by decide) (by decide)) (fun k a b => q.1.i (by simp [sQ]; omega))
theorem opk_0 {α : Type} {f g : fS → Option (α × fS)} (h : ∀ σ, ∃ r, f σ = some (r, σ) ∧ g σ = some (r, σ)) : opk INV f g := by
  intro σ hi
  obtain ⟨r, a, b⟩ := h σ
  exact ⟨r, σ, σ, a, b, hi⟩
/-! classOf, core, symbol, square -/
theorem num_z {x : Int32} (h : numB x = true) : x = zI x.toInt ∧ x.toInt ≠ 0 ∧ -99 ≤ x.toInt ∧ x.toInt ≤ 99 := by
  unfold numB at h
  rw [decide_eq_true_eq] at h
  exact ⟨(zI_of x).symm, h.2.2.1, h.1, h.2.1⟩
theorem o4 {N : Nat} (hN : 200 ≤ N) : op_4 INV N := by
  intro x
  apply opk_0
  intro σ
  unfold g_X7_classOf g_X8_classOf
  rw [v_isNumX (by omega), v_isNumM (by omega), Bd_s, Bd_s]
  by_cases c : numB x = true
  · obtain ⟨hx, h0, h1, h2⟩ := num_z c
    rw [if_pos c, if_neg (by decide), if_neg (by decide), hx, v_kindX (by omega) h0 (by omega) (by omega), v_kindM (by omega) h0 (by omega) (by omega), Bd_s]
    exact ⟨_, rfl, rfl⟩
  · rw [if_neg c, if_pos rfl, if_pos rfl]
    exact ⟨_, rfl, rfl⟩
theorem o5 {N : Nat} (hN : 200 ≤ N) : op_5 INV N := by
  intro x
  apply opk_0
  intro σ
  unfold g_X7_core g_X8_core
  rcases kd_or x with ⟨i, hi, rfl, e1, e2⟩ | ⟨e1, e2⟩
  · rw [e1, e2, Bd_s, Bd_s, if_neg (by decide), if_neg (by decide), v_coreX (by omega) hi, v_coreM (by omega) hi, Bd_s]
    exact ⟨_, rfl, rfl⟩
  · rw [e1, e2, Bd_s, Bd_s, if_pos rfl, if_pos rfl]
    exact ⟨_, rfl, rfl⟩
theorem bit_A : ∀ k, k < 128 → ∀ j, j < 7 → (((nI k >>> (nI j &&& (31 : Int32))) &&& (1 : Int32)) = 0 ↔ k.testBit j = false) := by decide +kernel
theorem o6 {N : Nat} (hN : 200 ≤ N) : op_6 INV N := by
  intro x y p σ hi
  unfold g_X7_symbol g_X8_symbol
  rcases pl_or p with ⟨j, hj, rfl, e1, e2⟩ | ⟨e1, e2⟩
  · rcases kd_or x with ⟨a, ha, rfl, e3, e4⟩ | ⟨e3, e4⟩
    · rcases kd_or y with ⟨b, hb, rfl, e5, e6⟩ | ⟨e5, e6⟩
      · obtain ⟨s1, f1, g1⟩ := v_symX (σ := σ) hN ha hb
        obtain ⟨s2, f2, g2, g3⟩ := v_symM (σ := s1) hN hj ha hb
        refine ⟨if symZ j a b then 1 else -1, s1, s2, ?_, ?_, ?_⟩
        · rw [e1, Bd_s, if_neg (by decide), e3, Bd_s, if_neg (by decide), e5, Bd_s, if_neg (by decide), f1, Bd_s]
          have hb := bit_A (symL a b) (barsL_lt _) j hj
          have hv : (symL a b).testBit j = !symZ j a b := by
            unfold symL symZ; rw [bars_bit]; simp [hj]
          rw [hv] at hb
          cases hc : symZ j a b
          · rw [if_neg (fun z => absurd (hb.mp z) (by simp [hc]))]; rfl
          · rw [if_pos (hb.mpr (by simp [hc]))]; rfl
        · rw [e2, Bd_s, if_neg (by decide), e4, Bd_s, if_neg (by decide), e6, Bd_s, if_neg (by decide), f2, Bd_s]
        · obtain ⟨pg, S, K, n, m, A, M, hw⟩ := hi
          exact ⟨pg, S, K, n, m, A, M, hw.q ((qA.x g1 (by decide) (by decide)).tr (qA.m g2 (by decide) g3)) ((hw.2.2.1.ag g1 (by decide)).ag g2 (by decide))⟩
      · refine ⟨-102, σ, σ, ?_, ?_, hi⟩
        · rw [e1, Bd_s, if_neg (by decide), e3, Bd_s, if_neg (by decide), e5, Bd_s, if_pos rfl]
        · rw [e2, Bd_s, if_neg (by decide), e4, Bd_s, if_neg (by decide), e6, Bd_s, if_pos rfl]
    · refine ⟨-102, σ, σ, ?_, ?_, hi⟩
      · rw [e1, Bd_s, if_neg (by decide), e3, Bd_s, if_pos rfl]
      · rw [e2, Bd_s, if_neg (by decide), e4, Bd_s, if_pos rfl]
  · refine ⟨-101, σ, σ, ?_, ?_, hi⟩
    · rw [e1, Bd_s, if_pos rfl]
    · rw [e2, Bd_s, if_pos rfl]
theorem o7 {N : Nat} (hN : 200 ≤ N) : op_7 INV N := by
  intro x p σ hi
  unfold g_X7_square g_X8_square
  rcases pl_or p with ⟨j, hj, rfl, e1, e2⟩ | ⟨e1, e2⟩
  · rcases kd_or x with ⟨a, ha, rfl, e3, e4⟩ | ⟨e3, e4⟩
    · obtain ⟨s1, f1, g1⟩ := v_unsX (σ := σ) hN ha
      refine ⟨bI (vz j [a, 1]), s1, s1, ?_, ?_, ?_⟩
      · rw [e1, Bd_s, if_neg (by decide), e3, Bd_s, if_neg (by decide), f1, Bd_s]
        have hb := bit_A (unsL a) (barsL_lt _) j hj
        have hv : (unsL a).testBit j = !vz j [a, 1] := by
          unfold unsL; rw [bars_bit]; simp [hj]
        rw [hv] at hb
        cases hc : vz j [a, 1]
        · rw [if_neg (fun z => absurd (hb.mp z) (by simp [hc]))]; rfl
        · rw [if_pos (hb.mpr (by simp [hc]))]; rfl
      · rw [e2, Bd_s, if_neg (by decide), e4, Bd_s, if_neg (by decide), v_sqM hN hj ha, Bd_s]
        cases vz j [a, 1] <;> rfl
      · obtain ⟨pg, S, K, n, m, A, M, hw⟩ := hi
        exact ⟨pg, S, K, n, m, A, M, hw.q (qA.x g1 (by decide) (by decide)) (hw.2.2.1.ag g1 (by decide))⟩
    · refine ⟨-102, σ, σ, ?_, ?_, hi⟩
      · rw [e1, Bd_s, if_neg (by decide), e3, Bd_s, if_pos rfl]
      · rw [e2, Bd_s, if_neg (by decide), e4, Bd_s, if_pos rfl]
  · refine ⟨-101, σ, σ, ?_, ?_, hi⟩
    · rw [e1, Bd_s, if_pos rfl]
    · rw [e2, Bd_s, if_pos rfl]
