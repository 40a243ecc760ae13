/-! the reference's way: rests one by one, as rows of booleans -/
def bI (b : Bool) : Int32 := if b then 1 else 0
theorem bI_z (b : Bool) : (bI b = 0) ↔ b = false := by cases b <;> decide
theorem bI_B (b : Bool) : isB (bI b) = true := by cases b <;> decide
def arr (σ : fS) (k q m : Nat) : Prop := ∀ r, r < q → σ.1 k r = bI (m.testBit r)
def vv (q c rest x : Nat) : Nat := (rest + c * (x * x % q)) % q
def inB (q p c b rest nb x : Nat) : Nat := if b.testBit rest && decide (x % p = 0) then nb ||| 2 ^ vv q c rest x else nb
def inF (q p c b f rest nf x : Nat) : Nat := if f.testBit rest || (b.testBit rest && !decide (x % p = 0)) then nf ||| 2 ^ vv q c rest x else nf
theorem or_bit (m v r : Nat) (B : Bool) : (if B then m ||| 2 ^ v else m).testBit r = if r = v then (m.testBit v || B) else m.testBit r := by
  cases B
  · by_cases h : r = v
    · simp [h]
    · simp [h]
  · rw [if_pos rfl, Nat.testBit_or, Nat.testBit_two_pow]
    by_cases h : r = v
    · simp [h]
    · rw [if_neg h]
      have : v ≠ r := fun z => h z.symm
      simp [this]
set_option maxHeartbeats 4000000 in
theorem addR_step {N q p c b f nb nf rest x n : Nat} {σ : fS} (hq : q ≤ 169) (hr : rest < q) (hc : c < q) (hp : 0 < p) (hp2 : p ≤ 13) (hx : x ≤ q / 2) (h78 : σ.1 78 rest = bI (b.testBit rest)) (h79 : σ.1 79 rest = bI (f.testBit rest)) (h80 : arr σ 80 q nb) (h81 : arr σ 81 q nf) :
    ∃ σ', lp_X8_addRests_3 N (nI rest) (nI c) (nI q) (nI p) (n + 1) (nI x) σ = lp_X8_addRests_3 N (nI rest) (nI c) (nI q) (nI p) n (nI (x + 1)) σ' ∧ arr σ' 80 q (inB q p c b rest nb x) ∧ arr σ' 81 q (inF q p c b f rest nf x) ∧ ag [80, 81] σ σ' := by
  have hxx : x * x ≤ 84 * 84 := Nat.mul_le_mul (by omega) (by omega)
  have hm : x * x % q < q := Nat.mod_lt _ (by omega)
  have hcm : c * (x * x % q) ≤ 169 * 169 := Nat.mul_le_mul (by omega) (by omega)
  have hv : vv q c rest x < q := Nat.mod_lt _ (by omega)
  have e80 := h80 _ hv
  have e81 := h81 _ hv
  have hdq : nI q / (2 : Int32) = nI (q / 2) := by show nI q / nI 2 = _; exact pk_div (by omega) (by omega) (by omega)
  have hlp : ∀ z : Option fS, lp_X8_addRests_3 N (nI rest) (nI c) (nI q) (nI p) (n + 1) (nI x) σ = z ↔ lp_X8_addRests_3 N (nI rest) (nI c) (nI q) (nI p) (n + 1) (nI x) σ = z := fun _ => Iff.rfl
  have e3 : iR (nI rest + nI c * iR (nI x * nI x) (nI q)) (nI q) = nI (vv q c rest x) := by
    rw [pk_mul, nI_rem (by omega) (by omega) (by omega), pk_mul, nI_add, nI_rem (by omega) (by omega) (by omega)]
    rfl
  have e4 : (if iR (nI x) (nI p) = 0 then (1 : Int32) else 0) = bI (decide (x % p = 0)) := by
    rw [nI_rem (by omega) (by omega) (by omega)]
    have : (nI (x % p) = 0) ↔ x % p = 0 := by show nI (x % p) = nI 0 ↔ _; exact nI_eq (Nat.lt_of_le_of_lt (Nat.mod_le _ _) (by omega)) (by omega)
    by_cases h : x % p = 0
    · rw [if_pos (this.mpr h)]; simp [bI, h]
    · rw [if_neg (fun z => h (this.mp z))]; simp [bI, h]
  refine ⟨sI (sI σ 80 (vv q c rest x) (bI (nb.testBit (vv q c rest x) || (b.testBit rest && decide (x % p = 0))))) 81 (vv q c rest x) (bI (nf.testBit (vv q c rest x) || (f.testBit rest || (b.testBit rest && !decide (x % p = 0))))), ?_, ?_, ?_, ?_⟩
  · rw [lp_X8_addRests_3, hdq, if_neg (by rw [nI_ltI (by omega) (by omega)]; omega), Gd_c (nz_nI (by omega) (by omega)), Gd_c (nz_nI (by omega) (by omega)), e3, Lt_e, Gd_c (nz_nI hp (by omega)), Bd_ite1, e4, nI_clamp (show vv q c rest x < 2 ^ 31 by omega), nI_clamp (show rest < 2 ^ 31 by omega), Gd_c (fin_nI (show vv q c rest x < 169 by omega) (by omega)), Gd_c (fin_nI (show rest < 169 by omega) (by omega)), e80, h78]
    have t1 : (Bd (if bI (nb.testBit (vv q c rest x)) = 0 then (if bI (b.testBit rest) = 0 then some ((0 : Int32), σ) else if bI (decide (x % p = 0)) = 0 then some ((0 : Int32), σ) else some ((1 : Int32), σ)) else some ((1 : Int32), σ)) : ((Int32 → fS → Option fS) → Option fS)) = fun k => k (bI (nb.testBit (vv q c rest x) || (b.testBit rest && decide (x % p = 0)))) σ := by
      funext k
      cases nb.testBit (vv q c rest x) <;> cases b.testBit rest <;> cases decide (x % p = 0) <;> rfl
    rw [t1]
    dsimp only
    rw [Gd_c (bI_B _), Lt_e]
    have g1 : (sI σ 80 (vv q c rest x) (bI (nb.testBit (vv q c rest x) || (b.testBit rest && decide (x % p = 0))))).1 81 (vv q c rest x) = bI (nf.testBit (vv q c rest x)) := by rw [sI_other _ _ (Or.inl (by decide))]; exact e81
    have g2 : (sI σ 80 (vv q c rest x) (bI (nb.testBit (vv q c rest x) || (b.testBit rest && decide (x % p = 0))))).1 79 rest = bI (f.testBit rest) := by rw [sI_other _ _ (Or.inl (by decide))]; exact h79
    have g3 : (sI σ 80 (vv q c rest x) (bI (nb.testBit (vv q c rest x) || (b.testBit rest && decide (x % p = 0))))).1 78 rest = bI (b.testBit rest) := by rw [sI_other _ _ (Or.inl (by decide))]; exact h78
    rw [g1, g2, g3]
    generalize sI σ 80 (vv q c rest x) (bI (nb.testBit (vv q c rest x) || (b.testBit rest && decide (x % p = 0)))) = σ2
    have t2 : (Bd (if bI (nf.testBit (vv q c rest x)) = 0 then (if bI (f.testBit rest) = 0 then (if bI (b.testBit rest) = 0 then some ((0 : Int32), σ2) else if bI (decide (x % p = 0)) = 0 then some ((1 : Int32), σ2) else some ((0 : Int32), σ2)) else some ((1 : Int32), σ2)) else some ((1 : Int32), σ2)) : ((Int32 → fS → Option fS) → Option fS)) = fun k => k (bI (nf.testBit (vv q c rest x) || (f.testBit rest || (b.testBit rest && !decide (x % p = 0))))) σ2 := by
      funext k
      cases nf.testBit (vv q c rest x) <;> cases f.testBit rest <;> cases b.testBit rest <;> cases decide (x % p = 0) <;> rfl
    simp only [Gd_c (fin_nI (show vv q c rest x < 169 by omega) (by omega)), Gd_c (fin_nI (show rest < 169 by omega) (by omega))]
    rw [t2]
    dsimp only
    rw [Gd_c (bI_B _), Lt_e, nI_1]
  · intro r hr2
    rw [sI_other _ _ (Or.inl (by decide)), sI_1]
    unfold inB
    rw [or_bit]
    by_cases h : r = vv q c rest x
    · rw [if_pos ⟨rfl, h⟩, if_pos h]
    · rw [if_neg (fun z => h z.2), if_neg h, h80 r hr2]
  · intro r hr2
    rw [sI_1]
    unfold inF
    rw [or_bit]
    by_cases h : r = vv q c rest x
    · rw [if_pos ⟨rfl, h⟩, if_pos h]
    · rw [if_neg (fun z => h z.2), if_neg h, sI_other _ _ (Or.inl (by decide)), h81 r hr2]
  · exact (ag.sI σ (by decide) _ _).tr (ag.sI _ (by decide) _ _)
def rowB (q p c b rest nb : Nat) : Nat := (List.range (q / 2 + 1)).foldl (inB q p c b rest) nb
def rowF (q p c b f rest nf : Nat) : Nat := (List.range (q / 2 + 1)).foldl (inF q p c b f rest) nf
theorem fold_succ {α : Type} (g : α → Nat → α) (a : α) (i : Nat) : (List.range (i + 1)).foldl g a = g ((List.range i).foldl g a) i := by
  rw [List.range_succ, List.foldl_append]; rfl
theorem addR_all {N q p c b f nb nf rest : Nat} {σ : fS} (hN : 200 ≤ N) (hq : q ≤ 169) (hr : rest < q) (hc : c < q) (hp : 0 < p) (hp2 : p ≤ 13) (h78 : σ.1 78 rest = bI (b.testBit rest)) (h79 : σ.1 79 rest = bI (f.testBit rest)) (h80 : arr σ 80 q nb) (h81 : arr σ 81 q nf) :
    ∃ σ', g_X8_addRests N (nI rest) (nI c) (nI q) (nI p) σ = some σ' ∧ arr σ' 80 q (rowB q p c b rest nb) ∧ arr σ' 81 q (rowF q p c b f rest nf) ∧ ag [80, 81] σ σ' := by
  have key := lpU (fun n x s => lp_X8_addRests_3 N (nI rest) (nI c) (nI q) (nI p) n x s) (q / 2 + 1) (fun i s => arr s 80 q ((List.range i).foldl (inB q p c b rest) nb) ∧ arr s 81 q ((List.range i).foldl (inF q p c b f rest) nf) ∧ ag [80, 81] σ s) id ?_ ?_ (q / 2 + 1) N 0 σ (by omega) (by omega) ⟨h80, h81, ag.rf⟩
  · obtain ⟨σ', ⟨a1, a2, a3⟩, e⟩ := key
    refine ⟨σ', ?_, a1, a2, a3⟩
    unfold g_X8_addRests
    rw [show (0 : Int32) = nI 0 from rfl, e]
    rfl
  · intro n i s hi ⟨a1, a2, a3⟩
    obtain ⟨s', e, b1, b2, b3⟩ := addR_step (N := N) (n := n) (b := b) (f := f) hq hr hc hp hp2 (show i ≤ q / 2 by omega) (by rw [a3.i (by decide)]; exact h78) (by rw [a3.i (by decide)]; exact h79) a1 a2
    exact ⟨s', ⟨by rw [fold_succ]; exact b1, by rw [fold_succ]; exact b2, a3.tr b3⟩, e⟩
  · intro n s _
    show lp_X8_addRests_3 N (nI rest) (nI c) (nI q) (nI p) (n + 1) (nI (q / 2 + 1)) s = some s
    have hdq : nI q / (2 : Int32) = nI (q / 2) := by show nI q / nI 2 = _; exact pk_div (by omega) (by omega) (by omega)
    rw [lp_X8_addRests_3, hdq, if_pos (by rw [nI_ltI (by omega) (by omega)]; omega)]
theorem rowB_skip {q p c b rest nb : Nat} (h : b.testBit rest = false) : rowB q p c b rest nb = nb := by
  unfold rowB
  have : ∀ (l : List Nat) (a : Nat), l.foldl (inB q p c b rest) a = a := by
    intro l
    induction l with
    | nil => intro a; rfl
    | cons x l ih => intro a; simp only [List.foldl_cons, inB, h, Bool.false_and, Bool.false_eq_true, if_false]; exact ih a
  exact this _ _
theorem rowF_skip {q p c b f rest nf : Nat} (h : b.testBit rest = false) (h2 : f.testBit rest = false) : rowF q p c b f rest nf = nf := by
  unfold rowF
  have : ∀ (l : List Nat) (a : Nat), l.foldl (inF q p c b f rest) a = a := by
    intro l
    induction l with
    | nil => intro a; rfl
    | cons x l ih => intro a; simp only [List.foldl_cons, inF, h, h2, Bool.false_and, Bool.or_false, Bool.false_eq_true, if_false]; exact ih a
  exact this _ _

def allB (q p c b : Nat) : Nat := (List.range q).foldl (fun nb rest => rowB q p c b rest nb) 0
def allF (q p c b f : Nat) : Nat := (List.range q).foldl (fun nf rest => rowF q p c b f rest nf) 0
theorem allB_bit (q p c b r : Nat) : (allB q p c b).testBit r = true ↔ ∃ rest, rest < q ∧ ∃ x, x ≤ q / 2 ∧ b.testBit rest = true ∧ x % p = 0 ∧ vv q c rest x = r := by
  have k1 : ∀ (rest : Nat) (l : List Nat) (a : Nat), (l.foldl (inB q p c b rest) a).testBit r = true ↔ (a.testBit r = true ∨ ∃ x ∈ l, b.testBit rest = true ∧ x % p = 0 ∧ vv q c rest x = r) := by
    intro rest l
    induction l with
    | nil => intro a; simp
    | cons x l ih =>
      intro a
      simp only [List.foldl_cons]
      rw [ih]
      unfold inB
      rw [or_bit]
      constructor
      · rintro (h | ⟨y, hy, h⟩)
        · by_cases hv : r = vv q c rest x
          · rw [if_pos hv, Bool.or_eq_true] at h
            rcases h with h | h
            · rw [hv]; exact Or.inl h
            · rw [Bool.and_eq_true, decide_eq_true_eq] at h
              exact Or.inr ⟨x, List.mem_cons_self, h.1, h.2, hv.symm⟩
          · rw [if_neg hv] at h; exact Or.inl h
        · exact Or.inr ⟨y, List.mem_cons_of_mem _ hy, h⟩
      · rintro (h | ⟨y, hy, h⟩)
        · left
          by_cases hv : r = vv q c rest x
          · rw [if_pos hv, ← hv, h]; rfl
          · rw [if_neg hv]; exact h
        · rcases List.mem_cons.mp hy with rfl | hy
          · left
            rw [if_pos h.2.2.symm, h.1]; simp [h.2.1]
          · exact Or.inr ⟨y, hy, h⟩
  have k2 : ∀ (l : List Nat) (a : Nat), (l.foldl (fun nb rest => rowB q p c b rest nb) a).testBit r = true ↔ (a.testBit r = true ∨ ∃ rest ∈ l, ∃ x, x ≤ q / 2 ∧ b.testBit rest = true ∧ x % p = 0 ∧ vv q c rest x = r) := by
    intro l
    induction l with
    | nil => intro a; simp
    | cons rest l ih =>
      intro a
      simp only [List.foldl_cons]
      rw [ih]
      unfold rowB
      rw [k1]
      constructor
      · rintro ((h | ⟨x, hx, h⟩) | ⟨y, hy, h⟩)
        · exact Or.inl h
        · exact Or.inr ⟨rest, List.mem_cons_self, x, by have := List.mem_range.mp hx; omega, h⟩
        · exact Or.inr ⟨y, List.mem_cons_of_mem _ hy, h⟩
      · rintro (h | ⟨y, hy, x, hx, h⟩)
        · exact Or.inl (Or.inl h)
        · rcases List.mem_cons.mp hy with rfl | hy
          · exact Or.inl (Or.inr ⟨x, List.mem_range.mpr (by omega), h⟩)
          · exact Or.inr ⟨y, hy, x, hx, h⟩
  unfold allB
  rw [k2]
  simp
theorem allF_bit (q p c b f r : Nat) : (allF q p c b f).testBit r = true ↔ ∃ rest, rest < q ∧ ∃ x, x ≤ q / 2 ∧ (f.testBit rest = true ∨ (b.testBit rest = true ∧ ¬ x % p = 0)) ∧ vv q c rest x = r := by
  have k1 : ∀ (rest : Nat) (l : List Nat) (a : Nat), (l.foldl (inF q p c b f rest) a).testBit r = true ↔ (a.testBit r = true ∨ ∃ x ∈ l, (f.testBit rest = true ∨ (b.testBit rest = true ∧ ¬ x % p = 0)) ∧ vv q c rest x = r) := by
    intro rest l
    induction l with
    | nil => intro a; simp
    | cons x l ih =>
      intro a
      simp only [List.foldl_cons]
      rw [ih]
      unfold inF
      rw [or_bit]
      constructor
      · rintro (h | ⟨y, hy, h⟩)
        · by_cases hv : r = vv q c rest x
          · rw [if_pos hv, Bool.or_eq_true] at h
            rcases h with h | h
            · rw [hv]; exact Or.inl h
            · simp only [Bool.or_eq_true, Bool.and_eq_true, Bool.not_eq_true', decide_eq_false_iff_not] at h
              exact Or.inr ⟨x, List.mem_cons_self, h, hv.symm⟩
          · rw [if_neg hv] at h; exact Or.inl h
        · exact Or.inr ⟨y, List.mem_cons_of_mem _ hy, h⟩
      · rintro (h | ⟨y, hy, h⟩)
        · left
          by_cases hv : r = vv q c rest x
          · rw [if_pos hv, ← hv, h]; rfl
          · rw [if_neg hv]; exact h
        · rcases List.mem_cons.mp hy with rfl | hy
          · left
            rw [if_pos h.2.symm]
            simp only [Bool.or_eq_true, Bool.and_eq_true, Bool.not_eq_true', decide_eq_false_iff_not]
            exact Or.inr h.1
          · exact Or.inr ⟨y, hy, h⟩
  have k2 : ∀ (l : List Nat) (a : Nat), (l.foldl (fun nf rest => rowF q p c b f rest nf) a).testBit r = true ↔ (a.testBit r = true ∨ ∃ rest ∈ l, ∃ x, x ≤ q / 2 ∧ (f.testBit rest = true ∨ (b.testBit rest = true ∧ ¬ x % p = 0)) ∧ vv q c rest x = r) := by
    intro l
    induction l with
    | nil => intro a; simp
    | cons rest l ih =>
      intro a
      simp only [List.foldl_cons]
      rw [ih]
      unfold rowF
      rw [k1]
      constructor
      · rintro ((h | ⟨x, hx, h⟩) | ⟨y, hy, h⟩)
        · exact Or.inl h
        · exact Or.inr ⟨rest, List.mem_cons_self, x, by have := List.mem_range.mp hx; omega, h⟩
        · exact Or.inr ⟨y, List.mem_cons_of_mem _ hy, h⟩
      · rintro (h | ⟨y, hy, x, hx, h⟩)
        · exact Or.inl (Or.inl h)
        · rcases List.mem_cons.mp hy with rfl | hy
          · exact Or.inl (Or.inr ⟨x, List.mem_range.mpr (by omega), h⟩)
          · exact Or.inr ⟨y, hy, x, hx, h⟩
  unfold allF
  rw [k2]
  simp
/-- the rest that came before -/
theorem vv_back {q c rest x r : Nat} (hr : r < q) (hrest : rest < q) : vv q c rest x = r ↔ rest = (if (c * (x * x % q)) % q ≤ r then r - (c * (x * x % q)) % q else r + q - (c * (x * x % q)) % q) := by
  unfold vv
  have ht : (c * (x * x % q)) % q < q := Nat.mod_lt _ (by omega)
  rw [Nat.add_mod, Nat.mod_eq_of_lt hrest]
  generalize (c * (x * x % q)) % q = t at ht ⊢
  constructor
  · intro h
    rcases Nat.lt_or_ge (rest + t) q with z | z
    · rw [Nat.mod_eq_of_lt z] at h; split <;> omega
    · rw [Nat.mod_eq_sub_mod z, Nat.mod_eq_of_lt (by omega)] at h; split <;> omega
  · intro h
    subst h
    split
    · rw [Nat.mod_eq_of_lt (by omega)]; omega
    · rw [Nat.mod_eq_sub_mod (by omega), Nat.mod_eq_of_lt (by omega)]; omega
theorem allB_conv {j k b f r : Nat} (hb : b < 2 ^ qAt j) (hr : r < qAt j) : (allB (qAt j) (pAt j) (cq j k) b).testBit r = (stM j k (b, f)).1.testBit r := by
  rw [Bool.eq_iff_iff, allB_bit]
  show _ ↔ (conv (qAt j) b (tmF j k true)).testBit r = true
  rw [conv_bit hb hr]
  constructor
  · rintro ⟨rest, hrest, x, hx, h1, h2, h3⟩
    refine ⟨(cq j k * (x * x % qAt j)) % qAt j, Nat.mod_lt _ (qAt_pos j), (tm_bit j k true _).mpr ⟨x, hx, by simp [h2], rfl⟩, ?_⟩
    rw [← (vv_back hr hrest).mp h3]; exact h1
  · rintro ⟨t, ht, h1, h2⟩
    obtain ⟨x, hx, hw, rfl⟩ := (tm_bit j k true t).mp h1
    have hlt : (if (cq j k * (x * x % qAt j)) % qAt j ≤ r then r - (cq j k * (x * x % qAt j)) % qAt j else r + qAt j - (cq j k * (x * x % qAt j)) % qAt j) < qAt j := by split <;> omega
    exact ⟨_, hlt, x, hx, h2, of_decide_eq_true hw, (vv_back hr hlt).mpr rfl⟩
theorem allF_conv {j k b f r : Nat} (hb : b < 2 ^ qAt j) (hf : f < 2 ^ qAt j) (hr : r < qAt j) : (allF (qAt j) (pAt j) (cq j k) b f).testBit r = (stM j k (b, f)).2.testBit r := by
  rw [Bool.eq_iff_iff, allF_bit]
  show _ ↔ (conv (qAt j) f (tmF j k true) ||| (conv (qAt j) f (tmF j k false) ||| conv (qAt j) b (tmF j k false))).testBit r = true
  rw [Nat.testBit_or, Nat.testBit_or, Bool.or_eq_true, Bool.or_eq_true, conv_bit hf hr, conv_bit hf hr, conv_bit hb hr]
  have lt' : ∀ t, t < qAt j → (if t ≤ r then r - t else r + qAt j - t) < qAt j := fun t ht => by split <;> omega
  constructor
  · rintro ⟨rest, hrest, x, hx, h1, h3⟩
    have e := (vv_back hr hrest).mp h3
    by_cases hw : x % pAt j = 0
    · rcases h1 with h1 | h1
      · exact Or.inl ⟨_, Nat.mod_lt _ (qAt_pos j), (tm_bit j k true _).mpr ⟨x, hx, by simp [hw], rfl⟩, by rw [← e]; exact h1⟩
      · exact absurd hw h1.2
    · rcases h1 with h1 | h1
      · exact Or.inr (Or.inl ⟨_, Nat.mod_lt _ (qAt_pos j), (tm_bit j k false _).mpr ⟨x, hx, by simp [hw], rfl⟩, by rw [← e]; exact h1⟩)
      · exact Or.inr (Or.inr ⟨_, Nat.mod_lt _ (qAt_pos j), (tm_bit j k false _).mpr ⟨x, hx, by simp [hw], rfl⟩, by rw [← e]; exact h1.1⟩)
  · rintro (⟨t, ht, h1, h2⟩ | ⟨t, ht, h1, h2⟩ | ⟨t, ht, h1, h2⟩)
    · obtain ⟨x, hx, hw, rfl⟩ := (tm_bit j k true t).mp h1
      exact ⟨_, lt' _ ht, x, hx, Or.inl h2, (vv_back hr (lt' _ ht)).mpr rfl⟩
    · obtain ⟨x, hx, hw, rfl⟩ := (tm_bit j k false t).mp h1
      exact ⟨_, lt' _ ht, x, hx, Or.inl h2, (vv_back hr (lt' _ ht)).mpr rfl⟩
    · obtain ⟨x, hx, hw, rfl⟩ := (tm_bit j k false t).mp h1
      exact ⟨_, lt' _ ht, x, hx, Or.inr ⟨h2, of_decide_eq_false hw⟩, (vv_back hr (lt' _ ht)).mpr rfl⟩
