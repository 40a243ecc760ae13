/-! pure tools: the words of a value, agreeing states, loops that count up, ints as whole numbers -/
theorem Bd_s {α β : Type} (a : α) (σ : fS) (f : α → fS → Option β) : Bd (some (a, σ)) f = f a σ := rfl
theorem Bv_s {β : Type} (σ : fS) (f : fS → Option β) : Bv (some σ) f = f σ := rfl
theorem Lt_e {α β : Type} (e : α) (f : α → β) : Lt e f = f e := rfl
theorem Gd_t {α : Type} (x : Option α) : Gd true x = x := rfl
theorem Gd_c {α : Type} {c : Bool} {x : Option α} (h : c = true) : Gd c x = x := by rw [h]; rfl
theorem Bs_l {α ρ : Type} (q : ρ) (f : α → fS → Option ρ) : Bs (some (.inl q)) f = some q := rfl
theorem Bs_r {α ρ : Type} (a : α) (σ : fS) (f : α → fS → Option ρ) : Bs (some (.inr (a, σ))) f = f a σ := rfl
theorem Bd_ite {α β : Type} {c : Prop} {inst : Decidable c} (x y : Option (α × fS)) (f : α → fS → Option β) : Bd (if c then x else y) f = if c then Bd x f else Bd y f := by split <;> rfl
theorem Bd_ite1 {α β : Type} {c : Prop} {inst : Decidable c} (a b : α) (σ : fS) (f : α → fS → Option β) : Bd (if c then some (a, σ) else some (b, σ)) f = f (if c then a else b) σ := by split <;> rfl
def ag (S : List Nat) (σ τ : fS) : Prop := (∀ k, k ∉ S → τ.1 k = σ.1 k ∧ τ.2 k = σ.2 k) ∧ τ.2 61 = σ.2 61
theorem ag.rf {S : List Nat} {σ : fS} : ag S σ σ := ⟨fun _ _ => ⟨rfl, rfl⟩, rfl⟩
theorem ag.tr {S : List Nat} {σ τ ρ : fS} (h1 : ag S σ τ) (h2 : ag S τ ρ) : ag S σ ρ := ⟨fun k hk => ⟨(h2.1 k hk).1.trans (h1.1 k hk).1, (h2.1 k hk).2.trans (h1.1 k hk).2⟩, h2.2.trans h1.2⟩
theorem ag.mono {S T : List Nat} {σ τ : fS} (h : ag S σ τ) (hST : ∀ k, k ∈ S → k ∈ T) : ag T σ τ := ⟨fun k hk => h.1 k (fun q => hk (hST k q)), h.2⟩
theorem ag.sI {S : List Nat} (σ : fS) {k : Nat} (hk : k ∈ S) (j : Nat) (v : Int32) : ag S σ (sI σ k j v) := ⟨fun a ha => ⟨sI_ne σ j v (fun q => ha (q ▸ hk)), rfl⟩, rfl⟩
theorem ag.sL {S : List Nat} (σ : fS) {k : Nat} (hk : k ∈ S) (h6 : 61 ≠ k) (j : Nat) (v : Int64) : ag S σ (sL σ k j v) := ⟨fun a ha => ⟨rfl, sL_ne σ j v (fun q => ha (q ▸ hk))⟩, sL_ne σ j v h6⟩
theorem ag.i {S : List Nat} {σ τ : fS} (h : ag S σ τ) {k : Nat} (hk : k ∉ S) : τ.1 k = σ.1 k := (h.1 k hk).1
theorem ag.l {S : List Nat} {σ τ : fS} (h : ag S σ τ) {k : Nat} (hk : k ∉ S) : τ.2 k = σ.2 k := (h.1 k hk).2
theorem sI_1 (σ : fS) (k j : Nat) (v : Int32) (a b : Nat) : (sI σ k j v).1 a b = if a = k ∧ b = j then v else σ.1 a b := by
  unfold sI
  by_cases h : a = k
  · subst h
    by_cases h2 : b = j
    · subst h2; simp [upd]
    · simp [upd, h2]
  · simp [h]
theorem sI_same (σ : fS) (k j : Nat) (v : Int32) : (sI σ k j v).1 k j = v := by rw [sI_1, if_pos ⟨rfl, rfl⟩]
theorem sI_other (σ : fS) {k j a b : Nat} (v : Int32) (h : a ≠ k ∨ b ≠ j) : (sI σ k j v).1 a b = σ.1 a b := by rw [sI_1, if_neg (fun q => h.elim (fun z => z q.1) (fun z => z q.2))]
theorem sI_2 (σ : fS) (k j : Nat) (v : Int32) : (sI σ k j v).2 = σ.2 := rfl
theorem sL_1 (σ : fS) (k j : Nat) (v : Int64) : (sL σ k j v).1 = σ.1 := rfl
theorem sL_2 (σ : fS) (k j : Nat) (v : Int64) (a b : Nat) : (sL σ k j v).2 a b = if a = k ∧ b = j then v else σ.2 a b := by
  unfold sL
  by_cases h : a = k
  · subst h
    by_cases h2 : b = j
    · subst h2; simp [vp_updL]
    · simp [vp_updL, h2]
  · simp [h]
/-- a loop that counts up to e -/
theorem lpU {S T : Type} (F : Nat → Int32 → S → Option T) (e : Nat) (I : Nat → S → Prop) (out : S → T)
    (hstep : ∀ n i s, i < e → I i s → ∃ s', I (i + 1) s' ∧ F (n + 1) (nI i) s = F n (nI (i + 1)) s')
    (hend : ∀ n s, I e s → F (n + 1) (nI e) s = some (out s)) :
    ∀ (d n i : Nat) (s : S), i + d = e → d < n → I i s → ∃ s', I e s' ∧ F n (nI i) s = some (out s') := by
  intro d
  induction d with
  | zero =>
    intro n i s hi hn h
    obtain ⟨n, rfl⟩ : ∃ m, n = m + 1 := ⟨n - 1, by omega⟩
    have : i = e := by omega
    subst this
    exact ⟨s, h, hend n s h⟩
  | succ d ih =>
    intro n i s hi hn h
    obtain ⟨n, rfl⟩ : ∃ m, n = m + 1 := ⟨n - 1, by omega⟩
    obtain ⟨s', h', he⟩ := hstep n i s (by omega) h
    rw [he]
    exact ih n (i + 1) s' (by omega) (by omega) h'
theorem nI_lit (n : Nat) : (OfNat.ofNat n : Int32) = nI n := rfl
theorem fin_nI {i n : Nat} (h : i < n) (hn : n < 2 ^ 31) : fin (nI i) n = true := by
  have : (nI i).toInt = (i : Int) := nI_toInt (by omega)
  simp [fin, this]; omega
theorem nz_nI {i : Nat} (h : 0 < i) (hn : i < 2 ^ 31) : nz (nI i) = true := by
  simpa [nz] using nI_ne0 h hn
theorem isB_0 : isB 0 = true := by decide
theorem isB_1 : isB 1 = true := by decide
theorem isB_c {c : Prop} {inst : Decidable c} : isB (if c then 1 else 0) = true := by split <;> decide
theorem isB_d {c : Prop} {inst : Decidable c} : isB (if c then 0 else 1) = true := by split <;> decide
/-- whole numbers as ints -/
def zI (z : Int) : Int32 := Int32.ofInt z
theorem zI_nat (n : Nat) : zI (n : Int) = nI n := rfl
theorem zI_add (a b : Int) : zI a + zI b = zI (a + b) := (Int32.ofInt_add a b).symm
theorem zI_mul (a b : Int) : zI a * zI b = zI (a * b) := (Int32.ofInt_mul a b).symm
theorem zI_sub (a b : Int) : zI a - zI b = zI (a - b) := (Int32.ofInt_sub a b).symm
theorem zI_neg (a : Int) : -zI a = zI (-a) := (Int32.ofInt_neg a).symm
theorem zI_toInt {z : Int} (h1 : -2147483648 ≤ z) (h2 : z < 2147483648) : (zI z).toInt = z := by
  unfold zI
  rw [Int32.toInt_ofInt]
  have e : ((Int32.size : Nat) : Int) = 4294967296 := rfl
  exact Int.bmod_eq_of_le (by omega) (by omega)
theorem zI_of (x : Int32) : zI x.toInt = x := Int32.ofInt_toInt x
theorem zI_rng (x : Int32) : -2147483648 ≤ x.toInt ∧ x.toInt < 2147483648 := by
  have h1 := Int32.minValue_le_toInt x
  have h2 := Int32.toInt_le x
  have e1 : Int32.minValue.toInt = -2147483648 := by decide
  have e2 : Int32.maxValue.toInt = 2147483647 := by decide
  omega
theorem zI_le {a b : Int} (ha : -2147483648 ≤ a ∧ a < 2147483648) (hb : -2147483648 ≤ b ∧ b < 2147483648) : zI a ≤ zI b ↔ a ≤ b := by
  rw [Int32.le_iff_toInt_le, zI_toInt ha.1 ha.2, zI_toInt hb.1 hb.2]
theorem zI_lt {a b : Int} (ha : -2147483648 ≤ a ∧ a < 2147483648) (hb : -2147483648 ≤ b ∧ b < 2147483648) : zI a < zI b ↔ a < b := by
  rw [Int32.lt_iff_toInt_lt, zI_toInt ha.1 ha.2, zI_toInt hb.1 hb.2]
theorem zI_eq {a b : Int} (ha : -2147483648 ≤ a ∧ a < 2147483648) (hb : -2147483648 ≤ b ∧ b < 2147483648) : zI a = zI b ↔ a = b := by
  rw [← Int32.toInt_inj, zI_toInt ha.1 ha.2, zI_toInt hb.1 hb.2]
theorem zI_div {a b : Int} (ha : -2147483648 < a ∧ a < 2147483648) (hb : -2147483648 ≤ b ∧ b < 2147483648) : zI a / zI b = zI (a.tdiv b) := by
  rw [← zI_of (zI a / zI b)]
  congr 1
  rw [Int32.toInt_div, zI_toInt (by omega) ha.2, zI_toInt hb.1 hb.2]
  have h1 : (a.tdiv b).natAbs ≤ a.natAbs := Int.natAbs_tdiv_le_natAbs a b
  exact Int.bmod_eq_of_le (by omega) (by omega)
theorem zI_rem {a b : Int} (ha : -2147483648 < a ∧ a < 2147483648) (hb : -2147483648 ≤ b ∧ b < 2147483648) : iR (zI a) (zI b) = zI (a.tmod b) := by
  unfold iR
  rw [zI_div ha hb, zI_mul, zI_sub]
  congr 1
  have := Int.mul_tdiv_add_tmod a b
  rw [Int.mul_comm] at this
  omega
theorem zI_clamp {z : Int} (h1 : 0 ≤ z) (h2 : z < 2147483648) : (zI z).toNatClampNeg = z.toNat := by
  show (zI z).toInt.toNat = z.toNat
  rw [zI_toInt (by omega) h2]
theorem nI_rem {a d : Nat} (ha : a < 2 ^ 31) (h0 : 0 < d) (hd : d < 2 ^ 31) : iR (nI a) (nI d) = nI (a % d) := pk_rem ha h0 hd
