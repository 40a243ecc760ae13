/-! rows of numbers: their sums, their greatest, their order -/
def smF (c : Nat → Int) : Nat → (Nat → Nat) → Int
  | 0, _ => 0
  | n + 1, s => smF c n s + c n * (s n : Int) * (s n : Int)
def mxF : Nat → (Nat → Nat) → Nat
  | 0, _ => 0
  | n + 1, s => max (mxF n s) (s n)
def eqF (n : Nat) (s r : Nat → Nat) : Prop := ∀ j, j < n → s j = r j
def ltF (n : Nat) (s r : Nat → Nat) : Prop := ∃ i, i < n ∧ s i < r i ∧ ∀ j, j < i → s j = r j
theorem eqF.rf {n : Nat} {s : Nat → Nat} : eqF n s s := fun _ _ => rfl
theorem eqF.sy {n : Nat} {s r : Nat → Nat} (h : eqF n s r) : eqF n r s := fun j hj => (h j hj).symm
theorem eqF.tr {n : Nat} {s r t : Nat → Nat} (h : eqF n s r) (h2 : eqF n r t) : eqF n s t := fun j hj => (h j hj).trans (h2 j hj)
theorem eqF_s {n : Nat} {s r : Nat → Nat} : eqF (n + 1) s r ↔ (eqF n s r ∧ s n = r n) := by
  constructor
  · intro h; exact ⟨fun j hj => h j (by omega), h n (by omega)⟩
  · intro ⟨h, h2⟩ j hj
    by_cases c : j = n
    · rw [c]; exact h2
    · exact h j (by omega)
theorem ltF_s {n : Nat} {s r : Nat → Nat} : ltF (n + 1) s r ↔ (ltF n s r ∨ (eqF n s r ∧ s n < r n)) := by
  constructor
  · rintro ⟨i, h1, h2, h3⟩
    by_cases c : i = n
    · subst c; exact Or.inr ⟨h3, h2⟩
    · exact Or.inl ⟨i, by omega, h2, h3⟩
  · rintro (⟨i, h1, h2, h3⟩ | ⟨h1, h2⟩)
    · exact ⟨i, by omega, h2, h3⟩
    · exact ⟨n, by omega, h2, h1⟩
theorem smF_e {c : Nat → Int} : ∀ {n : Nat} {s r : Nat → Nat}, eqF n s r → smF c n s = smF c n r
  | 0, _, _, _ => rfl
  | n + 1, s, r, h => by
    obtain ⟨h1, h2⟩ := eqF_s.mp h
    show smF c n s + c n * (s n : Int) * (s n : Int) = smF c n r + c n * (r n : Int) * (r n : Int)
    rw [smF_e h1, h2]
theorem mxF_e : ∀ {n : Nat} {s r : Nat → Nat}, eqF n s r → mxF n s = mxF n r
  | 0, _, _, _ => rfl
  | n + 1, s, r, h => by
    obtain ⟨h1, h2⟩ := eqF_s.mp h
    show max (mxF n s) (s n) = max (mxF n r) (r n)
    rw [mxF_e h1, h2]
theorem mxF_le {b : Nat} : ∀ {n : Nat} {s : Nat → Nat}, mxF n s ≤ b ↔ ∀ i, i < n → s i ≤ b
  | 0, s => ⟨fun _ i hi => absurd hi (by omega), fun _ => Nat.zero_le _⟩
  | n + 1, s => by
    show max (mxF n s) (s n) ≤ b ↔ _
    rw [Nat.max_le, mxF_le (n := n)]
    constructor
    · intro ⟨h1, h2⟩ i hi
      by_cases c : i = n
      · rw [c]; exact h2
      · exact h1 i (by omega)
    · intro h; exact ⟨fun i hi => h i (by omega), h n (by omega)⟩
theorem mxF_ge {n i : Nat} {s : Nat → Nat} (h : i < n) : s i ≤ mxF n s := mxF_le.mp (Nat.le_refl _) i h
theorem mxF_at : ∀ {n : Nat} {s : Nat → Nat}, 0 < mxF n s → ∃ i, i < n ∧ s i = mxF n s
  | 0, s, h => absurd h (by show ¬ 0 < 0; omega)
  | n + 1, s, h => by
    show ∃ i, i < n + 1 ∧ s i = max (mxF n s) (s n)
    rcases Nat.le_total (mxF n s) (s n) with c | c
    · exact ⟨n, by omega, by rw [Nat.max_eq_right c]⟩
    · rw [Nat.max_eq_left c]
      have h' : 0 < mxF n s := by
        have : 0 < max (mxF n s) (s n) := h
        rw [Nat.max_eq_left c] at this; exact this
      obtain ⟨i, h1, h2⟩ := mxF_at (n := n) (s := s) h'
      exact ⟨i, by omega, h2⟩
theorem tri3 : ∀ (n : Nat) (s r : Nat → Nat), eqF n s r ∨ ltF n s r ∨ ltF n r s
  | 0, s, r => Or.inl (fun j hj => absurd hj (by omega))
  | n + 1, s, r => by
    rcases tri3 n s r with h | h | h
    · rcases Nat.lt_trichotomy (s n) (r n) with c | c | c
      · exact Or.inr (Or.inl (ltF_s.mpr (Or.inr ⟨h, c⟩)))
      · exact Or.inl (eqF_s.mpr ⟨h, c⟩)
      · exact Or.inr (Or.inr (ltF_s.mpr (Or.inr ⟨h.sy, c⟩)))
    · exact Or.inr (Or.inl (ltF_s.mpr (Or.inl h)))
    · exact Or.inr (Or.inr (ltF_s.mpr (Or.inl h)))
theorem ltF.as {n : Nat} {s r : Nat → Nat} (h : ltF n s r) (h2 : ltF n r s) : False := by
  obtain ⟨i, a1, a2, a3⟩ := h
  obtain ⟨j, b1, b2, b3⟩ := h2
  rcases Nat.lt_trichotomy i j with c | c | c
  · have := b3 i c; omega
  · subst c; omega
  · have := a3 j c; omega
theorem ltF.ne {n : Nat} {s r : Nat → Nat} (h : ltF n s r) (h2 : eqF n s r) : False := by
  obtain ⟨i, a1, a2, a3⟩ := h
  have := h2 i a1; omega
theorem ltF.mo {t n : Nat} {s r : Nat → Nat} (h : ltF t s r) (hn : t ≤ n) : ltF n s r := by
  obtain ⟨i, a1, a2, a3⟩ := h
  exact ⟨i, by omega, a2, a3⟩
theorem ltF.er {n : Nat} {s r t : Nat → Nat} (h : ltF n s r) (h2 : eqF n t r) : ltF n s t := by
  obtain ⟨i, a1, a2, a3⟩ := h
  refine ⟨i, a1, by rw [h2 i a1]; exact a2, fun j hj => by rw [h2 j (by omega)]; exact a3 j hj⟩
theorem ltF.el {n : Nat} {s r t : Nat → Nat} (h : ltF n s r) (h2 : eqF n t s) : ltF n t r := by
  obtain ⟨i, a1, a2, a3⟩ := h
  refine ⟨i, a1, by rw [h2 i a1]; exact a2, fun j hj => by rw [h2 j (by omega)]; exact a3 j hj⟩
/-! what is sought -/
def sol (L : Nat) (c : Nat → Int) (wl : Bool) (s : Nat → Nat) : Prop := smF c L s = 0 ∧ (∃ i, i < L ∧ s i ≠ 0) ∧ (wl = true → s (L - 1) ≠ 0)
theorem sol.e {L : Nat} {c : Nat → Int} {wl : Bool} {s r : Nat → Nat} (hL : 0 < L) (h : sol L c wl s) (e : eqF L s r) : sol L c wl r := by
  obtain ⟨h1, ⟨i, h2, h3⟩, h4⟩ := h
  refine ⟨by rw [← smF_e e]; exact h1, ⟨i, h2, by rw [← e i h2]; exact h3⟩, fun w => by rw [← e (L - 1) (by omega)]; exact h4 w⟩
theorem sol.p {L : Nat} {c : Nat → Int} {wl : Bool} {s : Nat → Nat} (h : sol L c wl s) : 0 < mxF L s := by
  obtain ⟨_, ⟨i, h2, h3⟩, _⟩ := h
  have := mxF_ge (s := s) h2
  omega
def bst (L : Nat) (c : Nat → Int) (wl : Bool) (B : Nat) (r : Nat → Nat) (D : (Nat → Nat) → Prop) : Prop := sol L c wl r ∧ mxF L r ≤ B ∧ D r ∧ ∀ s, D s → sol L c wl s → mxF L s ≤ B → mxF L r < mxF L s ∨ (mxF L r = mxF L s ∧ (eqF L s r ∨ ltF L r s))
theorem bst.u {L B : Nat} {c : Nat → Int} {wl : Bool} {r s : Nat → Nat} (h : bst L c wl B r (fun _ => True)) (h2 : bst L c wl B s (fun _ => True)) : eqF L s r := by
  have a := h.2.2.2 s trivial h2.1 h2.2.1
  have b := h2.2.2.2 r trivial h.1 h.2.1
  rcases a with a | ⟨a1, a2⟩
  · omega
  · rcases b with b | ⟨b1, b2⟩
    · omega
    · rcases a2 with a2 | a2
      · exact a2
      · rcases b2 with b2 | b2
        · exact b2.sy
        · exact (a2.as b2).elim
/-! the class's search -/
def SI (σ : fS) (L : Nat) (c : Nat → Int) (wl : Bool) (B : Nat) (D : (Nat → Nat) → Prop) (b : Nat) : Prop := σ.1 18 4 = bI wl ∧ σ.1 18 3 = nI b ∧ b ≤ B ∧ ((σ.1 18 5 = 0 ∧ b = B ∧ ∀ s, D s → sol L c wl s → B < mxF L s) ∨ (σ.1 18 5 = 1 ∧ ∃ r, b + 1 = mxF L r ∧ (∀ i, i < L → σ.1 20 i = nI (r i)) ∧ bst L c wl B r D))
theorem SI.ext {σ : fS} {L B b : Nat} {c : Nat → Int} {wl : Bool} {D E : (Nat → Nat) → Prop} (h : SI σ L c wl B D b) (h1 : ∀ s, D s → E s) (h2 : ∀ s, E s → sol L c wl s → D s ∨ (b < mxF L s ∧ ∀ r, D r → ltF L r s)) : SI σ L c wl B E b := by
  obtain ⟨a1, a2, a3, a4⟩ := h
  refine ⟨a1, a2, a3, ?_⟩
  rcases a4 with ⟨b1, b2, b3⟩ | ⟨b1, r, b2, b3, b4⟩
  · refine Or.inl ⟨b1, b2, fun s hs hl => ?_⟩
    rcases h2 s hs hl with z | ⟨z, _⟩
    · exact b3 s z hl
    · omega
  · refine Or.inr ⟨b1, r, b2, b3, b4.1, b4.2.1, h1 r b4.2.2.1, fun s hs hl hm => ?_⟩
    rcases h2 s hs hl with z | ⟨z, w⟩
    · exact b4.2.2.2 s z hl hm
    · rcases Nat.lt_or_ge (mxF L r) (mxF L s) with q | q
      · exact Or.inl q
      · exact Or.inr ⟨by omega, Or.inr (w r b4.2.2.1)⟩
theorem SI.fr {σ τ : fS} {L B b : Nat} {c : Nat → Int} {wl : Bool} {D : (Nat → Nat) → Prop} (h : SI σ L c wl B D b) (h1 : τ.1 18 = σ.1 18) (h2 : τ.1 20 = σ.1 20) : SI τ L c wl B D b := by
  unfold SI at *; rw [h1, h2]; exact h
theorem v_max {N a b : Nat} {σ : fS} (ha : a < 2 ^ 31) (hb : b < 2 ^ 31) : g_J9_max_7cf53 N (nI a) (nI b) σ = some (nI (max a b), σ) := by
  unfold g_J9_max_7cf53
  by_cases c : a < b
  · rw [if_pos ((nI_ltI ha hb).mpr c), Nat.max_eq_right (by omega)]
  · rw [if_neg (fun z => c ((nI_ltI ha hb).mp z)), Nat.max_eq_left (by omega)]
def upF (X : Nat → Nat) (t x : Nat) : Nat → Nat := fun i => if i = t then x else X i
theorem upF_e {X : Nat → Nat} {t x : Nat} : eqF t (upF X t x) X := fun j hj => if_neg (by omega)
theorem upF_t {X : Nat → Nat} {t x : Nat} : upF X t x t = x := if_pos rfl
theorem smF_up (c : Nat → Int) (X : Nat → Nat) (t x : Nat) : smF c (t + 1) (upF X t x) = smF c t X + c t * (x : Int) * (x : Int) := by
  show smF c t (upF X t x) + c t * (upF X t x t : Int) * (upF X t x t : Int) = _
  rw [smF_e upF_e, upF_t]
theorem mxF_up (X : Nat → Nat) (t x : Nat) : mxF (t + 1) (upF X t x) = max (mxF t X) x := by
  show max (mxF t (upF X t x)) (upF X t x t) = _
  rw [mxF_e upF_e, upF_t]
theorem mul_15 {c : Int} {x : Nat} (h1 : -30030 ≤ c) (h2 : c ≤ 30030) (hx : x ≤ 15) : -6756750 ≤ c * (x : Int) * (x : Int) ∧ c * (x : Int) * (x : Int) ≤ 6756750 := tn_b h1 h2 (by omega) (by omega)
def cB (c : Nat → Int) : Prop := ∀ i, -30030 ≤ c i ∧ c i ≤ 30030 ∧ c i ≠ 0
theorem smF_b {c : Nat → Int} (hc : cB c) : ∀ {t : Nat} {X : Nat → Nat}, (∀ i, i < t → X i ≤ 15) → -6756750 * (t : Int) ≤ smF c t X ∧ smF c t X ≤ 6756750 * (t : Int)
  | 0, X, _ => by show -6756750 * ((0 : Nat) : Int) ≤ 0 ∧ (0 : Int) ≤ 6756750 * ((0 : Nat) : Int); omega
  | t + 1, X, h => by
    have ih := smF_b hc (t := t) (X := X) (fun i hi => h i (by omega))
    have h2 := mul_15 (hc t).1 (hc t).2.1 (h t (by omega))
    show -6756750 * ((t + 1 : Nat) : Int) ≤ smF c t X + c t * (X t : Int) * (X t : Int) ∧ smF c t X + c t * (X t : Int) * (X t : Int) ≤ 6756750 * ((t + 1 : Nat) : Int)
    omega
def smC (σ : fS) (L : Nat) (c : Nat → Int) : Prop := σ.1 16 1 = nI L ∧ L ≤ 5 ∧ ∀ i, i < L → σ.1 17 i = zI (c i)
theorem smC.ag {σ τ : fS} {L : Nat} {c : Nat → Int} (h : smC σ L c) (g : ag [18, 19, 20] σ τ) : smC τ L c := by
  unfold smC at *; rw [g.i (by decide), g.i (by decide)]; exact h
theorem sC_20 {σ : fS} {i : Nat} (h : i < 5) : (sC σ).1 20 i = σ.1 19 i := by
  show (if (20 : Nat) = 20 then va_cpy (σ.1 19) (σ.1 20) 0 0 5 else σ.1 20) i = _
  rw [if_pos rfl]; exact sb_cpy0 h
theorem sC_o {σ : fS} {a : Nat} (h : a ≠ 20) : (sC σ).1 a = σ.1 a := if_neg h
theorem sq_eq {a b : Nat} (h : a * a = b * b) : a = b := Nat.mul_self_inj.mp h
theorem c_sol {c v : Int} {x : Nat} (hc : c ≠ 0) (h : v + c * (x : Int) * (x : Int) = 0) : v.tmod c = 0 ∧ ((x * x : Nat) : Int) = -(v.tdiv c) := by
  have e : v = c * (-((x * x : Nat) : Int)) := by rw [Int.natCast_mul, Int.mul_neg, ← Int.mul_assoc]; omega
  refine ⟨by rw [e]; exact Int.mul_tmod_right _ _, ?_⟩
  rw [e, Int.mul_tdiv_cancel_left _ hc]; omega
theorem c_sol2 {c v : Int} {x : Nat} (h : v.tmod c = 0) (h2 : ((x * x : Nat) : Int) = -(v.tdiv c)) : v + c * (x : Int) * (x : Int) = 0 := by
  have := Int.mul_tdiv_add_tmod v c
  rw [h] at this
  rw [Int.mul_assoc, ← Int.natCast_mul, h2, Int.mul_neg]
  omega
theorem v_fin {N L t b B : Nat} {c : Nat → Int} {wl : Bool} {X : Nat → Nat} {σ : fS} (hN : 200 ≤ N) (hc : cB c) (hB : B ≤ 15) (ht : t + 1 = L) (hs : smC σ L c) (hX : ∀ i, i < t → X i ≤ 15) (h19 : ∀ i, i < t → σ.1 19 i = nI (X i)) (h : SI σ L c wl B (fun s => ltF t s X) b) :
    ∃ σ' b', g_X1_finish N (nI t) (zI (smF c t X)) (nI (mxF t X)) σ = some σ' ∧ SI σ' L c wl B (fun s => ltF t s X ∨ eqF t s X) b' ∧ (∀ i, i < t → σ'.1 19 i = nI (X i)) ∧ ag [18, 19, 20] σ σ' := by
  obtain ⟨hs1, hs2, hs3⟩ := hs
  have hb := smF_b hc hX
  have hct := hc t
  have hm15 : mxF t X ≤ 15 := mxF_le.mpr hX
  have hbB := h.2.2.1
  generalize hv : smF c t X = v at *
  generalize hq : -(v.tdiv (c t)) = q
  have hzc : ¬ zI (c t) = 0 := fun z => hct.2.2 ((zI_eq (by omega) (by omega)).mp (z.trans z0))
  have hnz : nz (zI (c t)) = true := by simpa [nz] using hzc
  have hqb : -33783750 ≤ v.tdiv (c t) ∧ v.tdiv (c t) ≤ 33783750 := by
    have := Int.natAbs_tdiv_le_natAbs v (c t); omega
  have hrem : iR (zI v) (zI (c t)) = zI (v.tmod (c t)) := zI_rem (by omega) (by omega)
  have htm : -33783750 ≤ v.tmod (c t) ∧ v.tmod (c t) ≤ 33783750 := by
    have h1 := Int.natAbs_tmod v (c t)
    have h2 := Nat.mod_le v.natAbs (c t).natAbs
    omega
  have e0 : (zI (v.tmod (c t)) = 0) ↔ v.tmod (c t) = 0 := by rw [z0]; exact zI_eq (by omega) (by omega)
  have hdiv : -(zI v / zI (c t)) = zI q := by rw [zI_div (by omega) (by omega), zI_neg, hq]
  have eq0 : (zI q < (0 : Int32)) ↔ q < 0 := by rw [z0]; exact zI_lt (by omega) (by omega)
  have hbb : b * b ≤ 15 * 15 := Nat.mul_le_mul (by omega) (by omega)
  have eqb : (zI q ≤ nI (b * b)) ↔ q ≤ ((b * b : Nat) : Int) := by rw [← zI_nat (b * b)]; exact zI_le (by omega) (by omega)
  have hlast : ∀ s, eqF t s X → sol L c wl s → v + c t * (s t : Int) * (s t : Int) = 0 := by
    intro s he hl
    have := hl.1
    rw [← ht] at this
    have e : smF c (t + 1) s = smF c t s + c t * (s t : Int) * (s t : Int) := rfl
    rw [e, smF_e he, hv] at this
    exact this
  have hpre : ∀ s, eqF t s X → ∀ r, ltF t r X → ltF L r s := fun s he r hr => (hr.er he).mo (by omega)
  -- nothing more is found
  have stay : (∀ s, eqF t s X → sol L c wl s → b < mxF L s) → ∃ σ' b', (some σ : Option fS) = some σ' ∧ SI σ' L c wl B (fun s => ltF t s X ∨ eqF t s X) b' ∧ (∀ i, i < t → σ'.1 19 i = nI (X i)) ∧ ag [18, 19, 20] σ σ' := by
    intro hh
    refine ⟨σ, b, rfl, h.ext (fun s => Or.inl) (fun s hs hl => ?_), h19, ag.rf⟩
    rcases hs with z | z
    · exact Or.inl z
    · exact Or.inr ⟨hh s z hl, hpre s z⟩
  unfold g_X1_finish
  rw [Gd_c (fin_nI (show t < 5 by omega) (by omega)), n_cl (by omega), hs3 t (by omega), Lt_e, if_neg hzc, Gd_c hnz, hrem]
  by_cases c1 : v.tmod (c t) = 0
  · rw [if_pos (e0.mpr c1), Gd_c hnz, hdiv, Lt_e]
    by_cases c2 : q < 0
    · rw [if_pos (eq0.mpr c2)]
      exact stay (fun s he hl => by have := (c_sol hct.2.2 (hlast s he hl)).2; rw [hq] at this; omega)
    · rw [if_neg (fun z => c2 (eq0.mp z)), h.2.1, pk_mul]
      by_cases c3 : q ≤ ((b * b : Nat) : Int)
      · rw [if_pos (eqb.mpr c3)]
        obtain ⟨Q, hQ⟩ : ∃ Q : Nat, q = (Q : Int) := ⟨q.toNat, by omega⟩
        rw [hQ, zI_nat]
        obtain ⟨x, e1, x1, x2, x3⟩ := v_root (N := N) (w := Q) σ hN (by omega)
        have hx15 : x ≤ 15 := by
          rcases Nat.lt_or_ge 15 x with z | z
          · have := Nat.mul_self_lt_mul_self z; omega
          · exact z
        have exx : (nI (x * x) = nI Q) ↔ x * x = Q := n_eq (by omega) (by omega)
        rw [e1, Bd_s, v_max (by omega) (by omega), Bd_s, pk_mul]
        have huni : ∀ s, eqF t s X → sol L c wl s → s t * s t = Q := fun s he hl => by
          have := (c_sol hct.2.2 (hlast s he hl)).2
          rw [hq, hQ] at this; omega
        by_cases c4 : x * x = Q
        · have hst : ∀ s, eqF t s X → sol L c wl s → s t = x := fun s he hl => sq_eq ((huni s he hl).trans c4.symm)
          have hmx : ∀ s, eqF t s X → sol L c wl s → mxF L s = max (mxF t X) x := fun s he hl => by
            rw [← ht]
            show max (mxF t s) (s t) = _
            rw [mxF_e he, hst s he hl]
          rw [if_pos (exx.mpr c4)]
          have em0 : (nI (max (mxF t X) x) = 0) ↔ max (mxF t X) x = 0 := n_eq0 (by omega)
          by_cases c5 : max (mxF t X) x = 0
          · rw [if_pos (em0.mpr c5)]
            exact stay (fun s he hl => by have h1 := hl.p; rw [hmx s he hl, c5] at h1; omega)
          · have emb : (nI b < nI (max (mxF t X) x)) ↔ b < max (mxF t X) x := nI_ltI (by omega) (by omega)
            rw [if_neg (fun z => c5 (em0.mp z)), h.2.1]
            by_cases c6 : b < max (mxF t X) x
            · rw [if_pos (emb.mpr c6)]
              exact stay (fun s he hl => by rw [hmx s he hl]; exact c6)
            · rw [if_neg (fun z => c6 (emb.mp z)), h.1]
              -- it is taken
              have take : (wl = true → x ≠ 0) → ∃ σ' b', (Gd (fin (nI t) 5) (Lt (sI σ 19 t (nI x)) fun σ110 => Lt (sC σ110) fun σ126 => Lt (sI σ126 18 3 (nI (max (mxF t X) x) - (1 : Int32))) fun σ134 => Lt (sI σ134 18 5 (1 : Int32)) fun σ139 => some σ139) : Option fS) = some σ' ∧ SI σ' L c wl B (fun s => ltF t s X ∨ eqF t s X) b' ∧ (∀ i, i < t → σ'.1 19 i = nI (X i)) ∧ ag [18, 19, 20] σ σ' := by
                intro hwx
                rw [Gd_c (fin_nI (show t < 5 by omega) (by omega)), Lt_e, Lt_e, Lt_e, Lt_e, n_sub1 (by omega)]
                obtain ⟨s1, hs1'⟩ : ∃ s, s = sI σ 19 t (nI x) := ⟨_, rfl⟩
                rw [← hs1']
                have a19 : ∀ i, i < L → s1.1 19 i = nI (upF X t x i) := by
                  intro i hi
                  rw [hs1']
                  by_cases ci : i = t
                  · subst ci; rw [sI_same, upF_t]
                  · rw [sI_other _ _ (Or.inr ci), h19 i (by omega), upF_e i (by omega)]
                have g1 : ag [18, 19, 20] σ s1 := by rw [hs1']; exact ag.sI _ (by simp) _ _
                have g2 : ag [18, 19, 20] s1 (sC s1) := ⟨fun k hk => ⟨sC_o (fun z => hk (by rw [z]; simp)), rfl⟩, rfl⟩
                have hsm : smF c L (upF X t x) = 0 := by
                  rw [← ht, smF_up, hv]
                  exact c_sol2 c1 (by rw [hq, hQ, c4])
                have hmr : mxF L (upF X t x) = max (mxF t X) x := by rw [← ht, mxF_up]
                have hsol : sol L c wl (upF X t x) := by
                  refine ⟨hsm, ?_, fun w => ?_⟩
                  · obtain ⟨i, i1, i2⟩ := mxF_at (n := L) (s := upF X t x) (by omega)
                    exact ⟨i, i1, by omega⟩
                  · rw [show L - 1 = t by omega, upF_t]; exact hwx w
                refine ⟨_, max (mxF t X) x - 1, rfl, ⟨?_, ?_, by omega, Or.inr ⟨sI_same _ _ _ _, upF X t x, by omega, fun i hi => ?_, hsol, by omega, Or.inr upF_e, ?_⟩⟩, fun i hi => ?_, ?_⟩
                · rw [sI_other _ _ (Or.inr (by decide)), sI_other _ _ (Or.inr (by decide)), sC_o (by decide), hs1', sI_other _ _ (Or.inl (by decide))]; exact h.1
                · rw [sI_other _ _ (Or.inr (by decide)), sI_same]
                · rw [sI_other _ _ (Or.inl (by decide)), sI_other _ _ (Or.inl (by decide)), sC_20 (by omega)]; exact a19 i hi
                · intro s hs hl hm
                  rcases hs with z | z
                  · left
                    rcases h.2.2.2 with ⟨_, _, q3⟩ | ⟨_, r0, q2, _, q4⟩
                    · have := q3 s z hl; omega
                    · rcases q4.2.2.2 s z hl hm with w | ⟨w, _⟩ <;> omega
                  · right
                    refine ⟨by rw [hmr, hmx s z hl], Or.inl ?_⟩
                    rw [← ht]
                    exact eqF_s.mpr ⟨z.tr upF_e.sy, (hst s z hl).trans upF_t.symm⟩
                · rw [sI_other _ _ (Or.inl (by decide)), sI_other _ _ (Or.inl (by decide)), sC_o (by decide), a19 i (by omega), upF_e i hi]
                · exact ((g1.tr g2).tr (ag.sI _ (by simp) _ _)).tr (ag.sI _ (by simp) _ _)
              cases wl
              · rw [if_pos (show bI false = 0 from rfl)]
                exact take (fun z => absurd z (by decide))
              · rw [if_neg (show ¬ bI true = 0 by decide)]
                have ex0 : (nI x = 0) ↔ x = 0 := n_eq0 (by omega)
                by_cases c7 : x = 0
                · rw [if_pos (ex0.mpr c7)]
                  exact stay (fun s he hl => by
                    have h1 := hl.2.2 rfl
                    rw [show L - 1 = t by omega, hst s he hl] at h1
                    exact absurd c7 h1)
                · rw [if_neg (fun z => c7 (ex0.mp z))]
                  exact take (fun _ => c7)
        · rw [if_neg (fun z => c4 (exx.mp z))]
          have hnsq := root_iff x1 x2
          exact stay (fun s he hl => absurd (hnsq.mpr ⟨s t, huni s he hl⟩) c4)
      · rw [if_neg (fun z => c3 (eqb.mp z))]
        refine stay (fun s he hl => ?_)
        have h1 := (c_sol hct.2.2 (hlast s he hl)).2
        rw [hq] at h1
        have h2 : b * b < s t * s t := by omega
        have h3 : b < s t := Nat.mul_self_lt_mul_self_iff.mp h2
        have h4 := mxF_ge (s := s) (show t < L by omega)
        omega
  · rw [if_neg (fun z => c1 (e0.mp z))]
    exact stay (fun s he hl => absurd (c_sol hct.2.2 (hlast s he hl)).1 c1)
theorem D_up {t x : Nat} {X s : Nat → Nat} : ltF (t + 1) s (upF X t x) ↔ (ltF t s X ∨ (eqF t s X ∧ s t < x)) := by
  rw [ltF_s, upF_t]
  constructor
  · rintro (z | ⟨z, w⟩)
    · exact Or.inl (z.er upF_e.sy)
    · exact Or.inr ⟨z.tr upF_e, w⟩
  · rintro (z | ⟨z, w⟩)
    · exact Or.inl (z.er upF_e)
    · exact Or.inr ⟨z.tr upF_e.sy, w⟩
theorem D_eq {t x : Nat} {X s : Nat → Nat} : eqF (t + 1) s (upF X t x) ↔ (eqF t s X ∧ s t = x) := by
  rw [eqF_s, upF_t]
  exact ⟨fun z => ⟨z.1.tr upF_e, z.2⟩, fun z => ⟨z.1.tr upF_e.sy, z.2⟩⟩
theorem SI.cg {σ : fS} {L B b : Nat} {c : Nat → Int} {wl : Bool} {D E : (Nat → Nat) → Prop} (h : SI σ L c wl B D b) (he : ∀ s, D s ↔ E s) : SI σ L c wl B E b := h.ext (fun s => (he s).mp) (fun s hs _ => Or.inl ((he s).mpr hs))
theorem v_seek {N L B : Nat} {c : Nat → Int} {wl : Bool} (hN : 200 ≤ N) (hc : cB c) (hB : B ≤ 15) : ∀ (d fu t b : Nat) (X : Nat → Nat) (σ : fS), t + d + 1 = L → d < fu → smC σ L c → (∀ i, i < t → X i ≤ 15) → (∀ i, i < t → σ.1 19 i = nI (X i)) → SI σ L c wl B (fun s => ltF t s X) b → ∃ σ' b', g_X1_seek N fu (nI t) (zI (smF c t X)) (nI (mxF t X)) σ = some σ' ∧ SI σ' L c wl B (fun s => ltF t s X ∨ eqF t s X) b' ∧ (∀ i, i < t → σ'.1 19 i = nI (X i)) ∧ ag [18, 19, 20] σ σ' := by
  intro d
  induction d with
  | zero =>
    intro fu t b X σ ht hf hs hX h19 h
    obtain ⟨fu, rfl⟩ : ∃ m, fu = m + 1 := ⟨fu - 1, by omega⟩
    have h5 := hs.2.1
    obtain ⟨s1, b1, e1, r1⟩ := v_fin (N := N) hN hc hB (by omega) hs hX h19 h
    refine ⟨s1, b1, ?_, r1⟩
    show b_X1_seek N (g_X1_seek N fu) (nI t) (zI (smF c t X)) (nI (mxF t X)) σ = some s1
    unfold b_X1_seek
    rw [if_neg (n_lt0 (by omega)), if_pos (show nI t < (5 : Int32) from (nI_ltI (b := 5) (by omega) (by decide)).mpr (by omega)), hs.1, n_sub1 (by omega), if_neg (fun z => by have := (nI_ltI (by omega) (by omega)).mp z; omega), e1, Bv_s]
  | succ d ih =>
    intro fu t b X σ ht hf hs hX h19 h
    obtain ⟨fu, rfl⟩ : ∃ m, fu = m + 1 := ⟨fu - 1, by omega⟩
    have h5 := hs.2.1
    have hm15 : mxF t X ≤ 15 := mxF_le.mpr hX
    have inner : ∀ (e n x b : Nat) (u : fS), x + e = 16 → e < n → smC u L c → (∀ i, i < t → u.1 19 i = nI (X i)) → SI u L c wl B (fun s => ltF t s X ∨ (eqF t s X ∧ s t < x)) b → ∃ u' b', lp_X1_seek_34 N (g_X1_seek N fu) (nI t) (zI (smF c t X)) (nI (mxF t X)) n (nI x) u = some u' ∧ SI u' L c wl B (fun s => ltF t s X ∨ eqF t s X) b' ∧ (∀ i, i < t → u'.1 19 i = nI (X i)) ∧ ag [18, 19, 20] u u' := by
      intro e
      induction e with
      | zero =>
        intro n x b u hx hn hs h19 h
        obtain ⟨n, rfl⟩ : ∃ m, n = m + 1 := ⟨n - 1, by omega⟩
        have hbB := h.2.2.1
        rw [lp_X1_seek_34, if_pos (show (15 : Int32) < nI x from (nI_ltI (a := 15) (by decide) (by omega)).mpr (by omega))]
        refine ⟨u, b, rfl, h.ext (fun s z => z.elim Or.inl (fun w => Or.inr w.1)) (fun s z hl => ?_), h19, ag.rf⟩
        rcases z with z | z
        · exact Or.inl (Or.inl z)
        · by_cases cx : s t < x
          · exact Or.inl (Or.inr ⟨z, cx⟩)
          · refine Or.inr ⟨by have := mxF_ge (s := s) (show t < L by omega); omega, fun r hr => ?_⟩
            rcases hr with w | ⟨w1, w2⟩
            · exact (w.er z).mo (by omega)
            · exact ⟨t, by omega, by omega, fun j hj => (w1 j hj).trans (z j hj).symm⟩
      | succ e ihe =>
        intro n x b u hx hn hs h19 h
        obtain ⟨n, rfl⟩ : ∃ m, n = m + 1 := ⟨n - 1, by omega⟩
        have hbB := h.2.2.1
        rw [lp_X1_seek_34, if_neg (show ¬ (15 : Int32) < nI x from fun z => by have := (nI_ltI (a := 15) (by decide) (by omega)).mp z; omega), h.2.1]
        have ebx : (nI b < nI x) ↔ b < x := nI_ltI (by omega) (by omega)
        by_cases cb : b < x
        · rw [if_pos (ebx.mpr cb)]
          refine ⟨u, b, rfl, h.ext (fun s z => z.elim Or.inl (fun w => Or.inr w.1)) (fun s z hl => ?_), h19, ag.rf⟩
          rcases z with z | z
          · exact Or.inl (Or.inl z)
          · by_cases cx : s t < x
            · exact Or.inl (Or.inr ⟨z, cx⟩)
            · refine Or.inr ⟨by have := mxF_ge (s := s) (show t < L by omega); omega, fun r hr => ?_⟩
              rcases hr with w | ⟨w1, w2⟩
              · exact (w.er z).mo (by omega)
              · exact ⟨t, by omega, by omega, fun j hj => (w1 j hj).trans (z j hj).symm⟩
        · obtain ⟨u1, hu1⟩ : ∃ s, s = sI u 19 t (nI x) := ⟨_, rfl⟩
          have g1 : ag [18, 19, 20] u u1 := by rw [hu1]; exact ag.sI _ (by simp) _ _
          have a19 : ∀ i, i < t + 1 → u1.1 19 i = nI (upF X t x i) := by
            intro i hi
            rw [hu1]
            by_cases ci : i = t
            · subst ci; rw [sI_same, upF_t]
            · rw [sI_other _ _ (Or.inr ci), h19 i (by omega), upF_e i (by omega)]
          have hs1 := hs.ag g1
          have hSI1 : SI u1 L c wl B (fun s => ltF (t + 1) s (upF X t x)) b := (h.fr (τ := u1) (by rw [hu1]; funext z; exact sI_other _ _ (Or.inl (by decide))) (by rw [hu1]; funext z; exact sI_other _ _ (Or.inl (by decide)))).cg (fun s => D_up.symm)
          obtain ⟨u2, b2, e2, r2, k2, g2⟩ := ih fu (t + 1) b (upF X t x) u1 (by omega) (by omega) hs1 (fun i hi => by
            by_cases ci : i = t
            · subst ci; rw [upF_t]; omega
            · rw [upF_e i (by omega)]; exact hX i (by omega)) a19 hSI1
          have hval : zI (smF c t X) + zI (c t) * nI x * nI x = zI (smF c (t + 1) (upF X t x)) := by
            rw [smF_up, ← zI_nat x, zI_mul, zI_mul, zI_add]
          have h17 : u1.1 17 t = zI (c t) := hs1.2.2 t (by omega)
          rw [if_neg (fun z => cb (ebx.mp z)), Gd_c (fin_nI (show t < 5 by omega) (by omega)), n_cl (show t < 2 ^ 31 by omega), Lt_e, ← hu1, Gd_c (fin_nI (show t < 5 by omega) (by omega)), v_max (by omega) (by omega), Bd_s, h17, hval, nI_1, nI_1, ← mxF_up, e2, Bv_s]
          have hSI2 : SI u2 L c wl B (fun s => ltF t s X ∨ (eqF t s X ∧ s t < x + 1)) b2 := r2.cg (fun s => by
            rw [D_up, D_eq]
            constructor
            · rintro ((z | ⟨z1, z2⟩) | ⟨z1, z2⟩)
              · exact Or.inl z
              · exact Or.inr ⟨z1, by omega⟩
              · exact Or.inr ⟨z1, by omega⟩
            · rintro (z | ⟨z1, z2⟩)
              · exact Or.inl (Or.inl z)
              · by_cases cx : s t = x
                · exact Or.inr ⟨z1, cx⟩
                · exact Or.inl (Or.inr ⟨z1, by omega⟩))
          obtain ⟨u3, b3, e3, r3, k3, g3⟩ := ihe n (x + 1) b2 u2 (by omega) (by omega) (hs1.ag g2) (fun i hi => by rw [k2 i (by omega), upF_e i hi]) hSI2
          exact ⟨u3, b3, e3, r3, k3, (g1.tr g2).tr g3⟩
    obtain ⟨u', b', e1, r1, k1, g1⟩ := inner 16 N 0 b σ (by omega) (by omega) hs h19 (h.cg (fun s => ⟨Or.inl, fun z => z.elim id (fun w => absurd w.2 (by omega))⟩))
    refine ⟨u', b', ?_, r1, k1, g1⟩
    show b_X1_seek N (g_X1_seek N fu) (nI t) (zI (smF c t X)) (nI (mxF t X)) σ = some u'
    unfold b_X1_seek
    rw [if_neg (n_lt0 (by omega)), if_pos (show nI t < (5 : Int32) from (nI_ltI (b := 5) (by omega) (by decide)).mpr (by omega)), hs.1, n_sub1 (by omega), if_pos ((nI_ltI (by omega) (by omega)).mpr (by omega)), show lp_X1_seek_34 N (g_X1_seek N fu) (nI t) (zI (smF c t X)) (nI (mxF t X)) N 0 σ = _ from e1, Bv_s]
def cL (ks : List Nat) (i : Nat) : Int := coreZ (ks.getD i 0)
theorem cL_b {ks : List Nat} (h : ∀ k ∈ ks, k < 128) : cB (cL ks) := fun i => cr_bndA _ (getD_lt' h i)
theorem v_findX {N B : Nat} {wl : Bool} {ks : List Nat} {σ : fS} (hN : 200 ≤ N) (hB : B ≤ 15) (hs : sm σ ks) (hL : 0 < ks.length) : ∃ σ', ag [18, 19, 20] σ σ' ∧ ((g_X1_find N (nI B) (bI wl) σ = some (1, σ') ∧ ∃ r, (∀ i, i < ks.length → σ'.1 20 i = nI (r i)) ∧ bst ks.length (cL ks) wl B r (fun _ => True)) ∨ (g_X1_find N (nI B) (bI wl) σ = some (0, σ') ∧ (barsL ks ≠ 0 ∨ ∀ s, sol ks.length (cL ks) wl s → B < mxF ks.length s))) := by
  obtain ⟨t, ht⟩ : ∃ t, t = sI (sI (sI σ 18 3 (nI B)) 18 4 (bI wl)) 18 5 0 := ⟨_, rfl⟩
  have g0 : ag [18, 19, 20] σ t := by rw [ht]; exact ((ag.sI _ (by simp) _ _).tr (ag.sI _ (by simp) _ _)).tr (ag.sI _ (by simp) _ _)
  have hs1 : sm t ks := hs.ag g0 (by decide) (by decide)
  have h5 := hs.2.2.1
  have t5 : t.1 18 5 = 0 := by rw [ht, sI_same]
  have t4 : t.1 18 4 = bI wl := by rw [ht, sI_other _ _ (Or.inr (by decide)), sI_same]
  have t3 : t.1 18 3 = nI B := by rw [ht, sI_other _ _ (Or.inr (by decide)), sI_other _ _ (Or.inr (by decide)), sI_same]
  have hsc : smC t ks.length (cL ks) := ⟨hs1.1, h5, fun i hi => hs1.2.1 i hi⟩
  have hSI : SI t ks.length (cL ks) wl B (fun s => ltF 0 s (fun _ => 0)) B := ⟨t4, t3, Nat.le_refl _, Or.inl ⟨t5, rfl, fun s ⟨i, hi, _⟩ => absurd hi (by omega)⟩⟩
  have hblt : barsL ks < 128 := barsL_lt ks
  have eb : (nI (barsL ks) = 0) ↔ barsL ks = 0 := n_eq0 (by omega)
  have hbars := v_barsX (N := N) hN hs1
  have pre : g_X1_find N (nI B) (bI wl) σ = if nI (barsL ks) = 0 then (Bv (g_X1_seek N 6 (0 : Int32) (0 : Int32) (0 : Int32) t) fun σ39 => Gd (isB (σ39.1 18 5)) (some ((σ39.1 18 5), σ39))) else some (0, t) := by
    unfold g_X1_find
    rw [Lt_e, Gd_c (bI_B _), Lt_e, Lt_e, ← ht, hs1.1, if_neg (fun z => by have := (n_le0 (by omega)).mp z; omega), hbars, Bd_s, t5, Gd_c (by decide)]
  by_cases c : barsL ks = 0
  · obtain ⟨s2, b2, e2, r2, _, g2⟩ := v_seek (N := N) (wl := wl) hN (cL_b hs.2.2.2) hB (ks.length - 1) 6 0 B (fun _ => 0) t (by omega) (by omega) hsc (fun i hi => absurd hi (by omega)) (fun i hi => absurd hi (by omega)) hSI
    have hall : ∀ s, (ltF 0 s (fun _ => 0) ∨ eqF 0 s (fun _ => 0)) ↔ True := fun s => ⟨fun _ => trivial, fun _ => Or.inr (fun j hj => absurd hj (by omega))⟩
    obtain ⟨q1, q2, q3, q4⟩ := r2.cg hall
    rw [if_pos (eb.mpr c), show g_X1_seek N 6 0 0 0 t = _ from e2, Bv_s] at pre
    refine ⟨s2, g0.tr g2, ?_⟩
    rcases q4 with ⟨p1, p2, p3⟩ | ⟨p1, r, p2, p3, p4⟩
    · exact Or.inr ⟨by rw [pre, p1, Gd_c (by decide)], Or.inr (fun s hl => p3 s trivial hl)⟩
    · exact Or.inl ⟨by rw [pre, p1, Gd_c (by decide)], r, p3, p4⟩
  · rw [if_neg (fun z => c (eb.mp z))] at pre
    exact ⟨t, g0, Or.inr ⟨pre, Or.inl c⟩⟩
