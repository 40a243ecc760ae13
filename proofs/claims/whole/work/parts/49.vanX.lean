/-! the class's way: the REAL place by signs, 2 by masks, the others by what is odd of the PRIME -/
def sm (σ : fS) (ks : List Nat) : Prop := σ.1 16 1 = nI ks.length ∧ (∀ i, i < ks.length → σ.1 17 i = cr (ks.getD i 0)) ∧ ks.length ≤ 5 ∧ ∀ k ∈ ks, k < 128
theorem bI_or (a b : Bool) : bI a ||| bI b = bI (a || b) := by cases a <;> cases b <;> decide
theorem crs_A : ∀ k, k < 128 → ((if cr k ≤ 0 then (0 : Int32) else 1) = bI (!k.testBit 0)) ∧ ((if 0 ≤ cr k then (0 : Int32) else 1) = bI (k.testBit 0)) := by decide +kernel
theorem real_X {N : Nat} {σ : fS} {ks : List Nat} (hN : 200 ≤ N) (hl : sm σ ks) : g_X6_vanishesAtReal N σ = some (bI (vz 0 ks), σ) := by
  have h5 := hl.2.2.1
  obtain ⟨s, hs, e⟩ := lpU (fun n x (s : (Int32 × Int32) × fS) => lp_X6_vanishesAtReal_6 N n s.1.1 s.1.2 x s.2) ks.length (fun i s => s = ((bI ((ks.take i).any (fun k => !k.testBit 0)), bI ((ks.take i).any (fun k => k.testBit 0))), σ)) id (by
    intro n i s hi hs
    subst hs
    refine ⟨_, rfl, ?_⟩
    have hk := getD_lt hl.2.2.2 hi
    show lp_X6_vanishesAtReal_6 N (n + 1) _ _ (nI i) σ = lp_X6_vanishesAtReal_6 N n _ _ (nI (i + 1)) σ
    rw [lp_X6_vanishesAtReal_6, hl.1, if_neg (by rw [nI_leI (by omega) (by omega)]; omega), if_neg (show ¬ (5 : Int32) ≤ nI i by show ¬ nI 5 ≤ nI i; rw [nI_leI (by omega) (by omega)]; omega), nI_clamp (show i < 2 ^ 31 by omega), take_snoc hi, any_snoc, any_snoc]
    simp only [Gd_c (fin_nI (show i < 5 by omega) (by omega)), hl.2.1 i hi]
    rw [Bd_ite1, (crs_A _ hk).1, bI_or, Lt_e]
    rw [hl.2.1 i hi]
    have t : ∀ z : Int32, (if 0 ≤ cr (ks.getD i 0) then (Lt (z ||| (0 : Int32)) fun v52 => lp_X6_vanishesAtReal_6 N n (bI ((ks.take i).any (fun k => !k.testBit 0) || !(ks.getD i 0).testBit 0)) v52 (nI i + 1) σ) else (Lt (z ||| (1 : Int32)) fun v52 => lp_X6_vanishesAtReal_6 N n (bI ((ks.take i).any (fun k => !k.testBit 0) || !(ks.getD i 0).testBit 0)) v52 (nI i + 1) σ)) = lp_X6_vanishesAtReal_6 N n (bI ((ks.take i).any (fun k => !k.testBit 0) || !(ks.getD i 0).testBit 0)) (z ||| (if 0 ≤ cr (ks.getD i 0) then (0 : Int32) else 1)) (nI i + 1) σ := by
      intro z
      split <;> rfl
    rw [t, (crs_A _ hk).2, bI_or, nI_1]) (by
    intro n s hs
    subst hs
    show lp_X6_vanishesAtReal_6 N (n + 1) _ _ (nI ks.length) σ = _
    rw [lp_X6_vanishesAtReal_6, hl.1, if_pos (by rw [nI_leI (by omega) (by omega)]; exact Nat.le_refl _)]; rfl) ks.length N 0 ((0, 0), σ) (by omega) (by omega) (by simp [bI])
  subst hs
  unfold g_X6_vanishesAtReal
  rw [show lp_X6_vanishesAtReal_6 N N 0 0 0 σ = _ from e, List.take_length]
  unfold vz
  rw [if_pos rfl]
  show (Bd (some ((_, _), σ)) _ : Option (Int32 × fS)) = _
  rw [Bd_s]
  cases ks.any (fun k => !k.testBit 0) <;> cases ks.any (fun k => k.testBit 0) <;> rfl
/-! at 2 -/
def trn (m b : Int32) : Int32 := ((m <<< (b &&& (31 : Int32))) ||| (m >>> (((16 : Int32) - b) &&& (31 : Int32)))) &&& (65535 : Int32)
theorem v_turned (N : Nat) (x b : Int32) (σ : fS) : g_X6_turned N x b σ = some (trn x (b &&& (15 : Int32)), σ) := rfl
def cst (x1 x2 b4 b1 b9 : Int32) : Int32 × Int32 := (x1 ||| trn x1 b4, ((x2 ||| trn x2 b4) ||| trn (x1 ||| x2) b1) ||| trn (x1 ||| x2) b9)
def R2 : List (Nat × Nat) := [(1, 0), (17, 514), (4097, 32896), (257, 4), (257, 16384), (4097, 2056), (17, 8224), (257, 64), (257, 1024), (273, 9766), (4113, 43947), (4369, 2638), (4369, 49798), (4113, 47802), (273, 25186), (4369, 34498), (4369, 19978), (4353, 51400), (4369, 58528), (4353, 35980), (4369, 41188), (257, 1044), (257, 17477), (4369, 26668), (257, 17732), (257, 5124), (257, 20544), (257, 16464), (4369, 11368), (4369, 28270), (4369, 65535), (4369, 48894), (4369, 61423), (4369, 59110), (4369, 65214), (4369, 28542), (4369, 52959), (4369, 64254), (4369, 57294), (4369, 32367), (4369, 63207), (4369, 59382), (4369, 65274), (4369, 60652), (4369, 52942), (4369, 65004), (4369, 60669), (257, 5204), (257, 21845), (257, 21524), (257, 21584), (257, 20564), (4369, 65278), (4369, 65534), (4369, 65279), (257, 21844), (257, 21589)]
def rep2 (k : Nat) : Nat := ([0, 0, 2, 4, 0, 8, 6, 16, 0, 17, 7, 9, 0, 5, 3, 1] : List Nat).getD (cq 1 k) 0
theorem rep2_A : ∀ k, k < 128 → (tmF 1 k true = tmF 1 (rep2 k) true ∧ tmF 1 k false = tmF 1 (rep2 k) false) ∧ ((4 : Int32) * cr k) &&& (15 : Int32) = ((4 : Int32) * cr (rep2 k)) &&& (15 : Int32) ∧ cr k &&& (15 : Int32) = cr (rep2 k) &&& (15 : Int32) ∧ ((9 : Int32) * cr k) &&& (15 : Int32) = ((9 : Int32) * cr (rep2 k)) &&& (15 : Int32) := by decide +kernel
theorem rep2_in : ∀ k, k < 128 → rep2 k ∈ [0, 1, 2, 3, 4, 5, 6, 7, 8, 9, 16, 17] := by decide +kernel
def cl2B (k : Nat) : Bool := R2.all fun s => R2.contains (stM 1 k s) && decide (cst (nI s.1) (nI s.2) (((4 : Int32) * cr k) &&& (15 : Int32)) (cr k &&& (15 : Int32)) (((9 : Int32) * cr k) &&& (15 : Int32)) = (nI (stM 1 k s).1, nI (stM 1 k s).2))
theorem cl2_0 : cl2B 0 = true := by decide +kernel
theorem cl2_1 : cl2B 1 = true := by decide +kernel
theorem cl2_2 : cl2B 2 = true := by decide +kernel
theorem cl2_3 : cl2B 3 = true := by decide +kernel
theorem cl2_4 : cl2B 4 = true := by decide +kernel
theorem cl2_5 : cl2B 5 = true := by decide +kernel
theorem cl2_6 : cl2B 6 = true := by decide +kernel
theorem cl2_7 : cl2B 7 = true := by decide +kernel
theorem cl2_8 : cl2B 8 = true := by decide +kernel
theorem cl2_9 : cl2B 9 = true := by decide +kernel
theorem cl2_16 : cl2B 16 = true := by decide +kernel
theorem cl2_17 : cl2B 17 = true := by decide +kernel
theorem cl2 : ∀ k ∈ [0, 1, 2, 3, 4, 5, 6, 7, 8, 9, 16, 17], cl2B k = true := by
  intro k hk
  rcases (show k = 0 ∨ k = 1 ∨ k = 2 ∨ k = 3 ∨ k = 4 ∨ k = 5 ∨ k = 6 ∨ k = 7 ∨ k = 8 ∨ k = 9 ∨ k = 16 ∨ k = 17 by simpa using hk) with rfl | rfl | rfl | rfl | rfl | rfl | rfl | rfl | rfl | rfl | rfl | rfl
  · exact cl2_0
  · exact cl2_1
  · exact cl2_2
  · exact cl2_3
  · exact cl2_4
  · exact cl2_5
  · exact cl2_6
  · exact cl2_7
  · exact cl2_8
  · exact cl2_9
  · exact cl2_16
  · exact cl2_17
theorem st2 {k : Nat} (hk : k < 128) {s : Nat × Nat} (hs : s ∈ R2) : stM 1 k s ∈ R2 ∧ cst (nI s.1) (nI s.2) (((4 : Int32) * cr k) &&& (15 : Int32)) (cr k &&& (15 : Int32)) (((9 : Int32) * cr k) &&& (15 : Int32)) = (nI (stM 1 k s).1, nI (stM 1 k s).2) := by
  have h := List.all_eq_true.mp (cl2 _ (rep2_in k hk)) s hs
  obtain ⟨h1, h2, h3, h4⟩ := rep2_A k hk
  rw [h2, h3, h4, stM_cg h1]
  rw [Bool.and_eq_true, decide_eq_true_eq] at h
  exact ⟨List.contains_iff_mem.mp h.1, h.2⟩
theorem foM2 {ks : List Nat} (hk : ∀ k ∈ ks, k < 128) : ∀ i, i ≤ ks.length → foM 1 (ks.take i) ∈ R2 := by
  intro i
  induction i with
  | zero => intro _; show foM 1 [] ∈ R2; decide
  | succ i ih =>
    intro hi
    rw [take_snoc (by omega), foM_snoc]
    exact (st2 (getD_lt hk (by omega)) (ih (by omega))).1
theorem two_X {N : Nat} {σ : fS} {ks : List Nat} (hN : 200 ≤ N) (hl : sm σ ks) : g_X6_vanishesAtTwo N σ = some (bI (vz 1 ks), σ) := by
  have h5 := hl.2.2.1
  obtain ⟨s, hs, e⟩ := lpU (fun n x (s : (Int32 × Int32) × fS) => lp_X6_vanishesAtTwo_6 N n s.1.1 s.1.2 x s.2) ks.length (fun i s => s = ((nI (foM 1 (ks.take i)).1, nI (foM 1 (ks.take i)).2), σ)) (fun s => (s.1.2, s.2)) (by
    intro n i s hi hs
    subst hs
    refine ⟨_, rfl, ?_⟩
    have hk := getD_lt hl.2.2.2 hi
    show lp_X6_vanishesAtTwo_6 N (n + 1) _ _ (nI i) σ = lp_X6_vanishesAtTwo_6 N n _ _ (nI (i + 1)) σ
    rw [lp_X6_vanishesAtTwo_6, hl.1, if_neg (by rw [nI_leI (by omega) (by omega)]; omega), if_neg (show ¬ (5 : Int32) ≤ nI i by show ¬ nI 5 ≤ nI i; rw [nI_leI (by omega) (by omega)]; omega), nI_clamp (show i < 2 ^ 31 by omega), take_snoc hi, foM_snoc]
    simp only [Gd_c (fin_nI (show i < 5 by omega) (by omega)), hl.2.1 i hi, Lt_e, v_turned, Bd_s]
    have h := (st2 hk (foM2 hl.2.2.2 i (by omega))).2
    have h1 := congrArg Prod.fst h
    have h2 := congrArg Prod.snd h
    dsimp only [cst] at h1 h2
    rw [h1, h2, nI_1]) (by
    intro n s hs
    subst hs
    show lp_X6_vanishesAtTwo_6 N (n + 1) _ _ (nI ks.length) σ = _
    rw [lp_X6_vanishesAtTwo_6, hl.1, if_pos (by rw [nI_leI (by omega) (by omega)]; exact Nat.le_refl _)]) ks.length N 0 ((1, 0), σ) (by omega) (by omega) rfl
  subst hs
  unfold g_X6_vanishesAtTwo
  rw [show lp_X6_vanishesAtTwo_6 N N 1 0 0 σ = _ from e, List.take_length]
  unfold vz
  rw [if_neg (by decide)]
  show (Bd (some (nI (foM 1 ks).2, σ)) _ : Option (Int32 × fS)) = _
  rw [Bd_s, show (1 : Int32) = nI 1 from rfl, andI]
  have h16 := (foM_lt (j := 1) ks).2
  have hb : (foM 1 ks).2 &&& 1 = if (foM 1 ks).2.testBit 0 then 1 else 0 := by
    rw [Nat.and_one_is_mod, Nat.testBit_zero]
    have := Nat.mod_two_eq_zero_or_one (foM 1 ks).2
    rcases this with h | h <;> simp [h]
  rw [hb]
  cases (foM 1 ks).2.testBit 0 <;> rfl
