/-! the cells that a run holds, 85 of them, made by the two constructors; their ints and longs as two tables; references never change -/
abbrev fS : Type := (Nat → Nat → Int32) × (Nat → Nat → Int64)
def sI (σ : fS) (k j : Nat) (v : Int32) : fS := (fun a => if a = k then upd (σ.1 a) j v else σ.1 a, σ.2)
def sL (σ : fS) (k j : Nat) (v : Int64) : fS := (σ.1, fun a => if a = k then vp_updL (σ.2 a) j v else σ.2 a)
def fTb : List Cond := lw_tbl.filter goodWord
theorem fTb_in {w : Cond} (h : w ∈ lw_tbl) (g : goodWord w = true) : w ∈ fTb := List.mem_filter.mpr ⟨h, g⟩
theorem fTb_of {w : Cond} (h : w ∈ fTb) : w ∈ lw_tbl := (List.mem_filter.mp h).1
theorem fTb_good {w : Cond} (h : w ∈ fTb) : goodWord w = true := (List.mem_filter.mp h).2
theorem f_good {y : Cond} (h : y ∈ fTb) : GoodIn fTb (y :: fTb) := fun w hw => by
  rcases List.mem_cons.mp hw with rfl | h2
  · exact ⟨h, good_of_word (fTb_good h)⟩
  · exact ⟨h2, good_of_word (fTb_good h2)⟩
abbrev fEv : Type := va_G × (Nat → Nat) × (Nat → ClassId) × Nat × Nat
def f_cl : List vw_C := [(RX0, TX0, 4), (RX1, TX1, 6), (RX3, TX3, 2), (RX4, TX4, 8), (RX5, TX5, 6), (RX6, TX6, 2), (RX7, TX7, 7), (RX8, TX8, 33)]
def f_kdT : List Nat := [6, 2, 10, 14, 0, 10, 4, 10, 14, 3, 10, 10, 10, 10, 13, 11, 5, 10, 1, 10, 10, 0, 10, 0, 10, 0, 10, 0, 10, 0, 10, 0, 10, 0, 10, 0, 10, 0, 10, 0, 10, 0, 10, 0, 10, 0, 10, 0, 10, 0, 10, 0, 10, 0, 10, 0, 10, 0, 10, 0, 10, 7, 10, 10, 11, 10, 10, 12, 10, 10, 10, 10, 10, 10, 10, 10, 11, 10, 11, 11, 11, 11, 10, 10, 10]
def f_lnT : List Nat := [0, 0, 18, 8, 0, 4, 0, 12, 12, 0, 56, 56, 56, 56, 168, 160, 0, 5, 0, 5, 5, 0, 4, 0, 4, 0, 4, 0, 4, 0, 4, 0, 4, 0, 4, 0, 4, 0, 4, 0, 4, 0, 4, 0, 4, 0, 4, 0, 4, 0, 4, 0, 4, 0, 4, 0, 4, 0, 4, 0, 4, 0, 8, 32, 8, 8, 8, 18, 12, 12, 48, 56, 56, 56, 56, 56, 8960, 5, 169, 169, 169, 169, 4, 5, 5]
def kd (k : Nat) : Nat := f_kdT.getD k 99
def ln (k : Nat) : Nat := f_lnT.getD k 0
def nf (c : Nat) : Nat := ([4, 6, 2, 8, 6, 2, 7, 33] : List Nat).getD c 0
def f_ftT : List (List Nat) := [[2, 0, 0, 0], [2, 2, 2, 0, 0, 0], [2, 0], [2, 2, 2, 2, 2, 2, 0, 0], [2, 2, 0, 0, 0, 0], [2, 0], [2, 2, 2, 2, 2, 2, 2], [2, 2, 2, 2, 2, 0, 2, 0, 2, 2, 2, 0, 0, 0, 0, 2, 2, 2, 2, 2, 2, 0, 2, 2, 2, 2, 2, 0, 0, 2, 2, 2, 1]]
def ft (c j : Nat) : Nat := (f_ftT.getD c []).getD j 0
def f_srT : List (List Nat) := [[], [16, 19, 20], [2], [10, 11, 12, 13, 14, 15], [7, 8], [17], [1, 3, 4, 6, 9, 16, 18], [62, 63, 64, 65, 66, 0, 67, 0, 68, 69, 70, 0, 0, 0, 0, 71, 72, 73, 74, 75, 76, 0, 77, 78, 79, 80, 81, 0, 0, 82, 83, 84, 0]]
def sr (k j : Nat) : Nat := if kd k = 0 then k + 1 else (f_srT.getD (kd k) []).getD j 0
def er (k i : Nat) : Nat := if k = 3 then 21 + 2 * i else 37 + 2 * i
def fv (E : fEv) (σ : fS) (k c j : Nat) : Value := match ft c j with
  | 0 => .int (σ.1 k j)
  | 1 => .long (σ.2 k j)
  | _ => .ref (E.2.1 (sr k j))
def f_ent (E : fEv) (σ : fS) (k : Nat) : va_E := match kd k with
  | 10 => .inl (E.2.2.1 0, ln k, .inl (σ.1 k))
  | 11 => .inl (E.2.2.1 1, ln k, .inl (σ.1 k))
  | 12 => .inl (E.2.2.1 2, ln k, .inl (σ.1 k))
  | 13 => .inl (E.2.2.1 3, ln k, .inr (.inl (σ.2 k)))
  | 14 => .inl (E.2.2.1 4, ln k, .inr (.inr (.inr (.inr (fun i => some (E.2.1 (er k i)))))))
  | c => .inr (c, (List.range (nf c)).map (fv E σ k c))
def f_w (E : fEv) (σ : fS) : va_W := (List.range 85).map (fun k => (E.2.1 k, f_ent E σ k))
def f_A (E : fEv) : Nat → Prop := fun q => ∃ k, k < 85 ∧ q = E.2.1 k
def f_ty (E : fEv) : List (ClassId × FieldType) := [(E.2.2.1 0, .int), (E.2.2.1 1, .boolean), (E.2.2.1 2, .byte), (E.2.2.1 3, .long), (E.2.2.1 4, .object "FormPlaces$Form")]
def f_B (j : Nat) : Int32 := match j with
  | 0 => -1
  | 1 => 2
  | 2 => 3
  | 3 => 5
  | 4 => 7
  | 5 => 11
  | _ => 13
def f_Sq (j : Nat) : Int32 := match j with
  | 0 => 0
  | 1 => 0
  | 2 => 2
  | 3 => 18
  | 4 => 22
  | 5 => 570
  | _ => 5658
def f_nj (E : fEv) : Prop := ∀ i j, i < 85 → j < 85 → E.2.1 i = E.2.1 j → i = j
def f_stat (E : fEv) (nm : String) (z : Nat) (f : Nat → Int32) (U : State) : Prop := va_Z "FormPlaces" nm "[I" (.ref z) (f_A E) U U.heap ∧ va_T .int z 7 (fun j => .int (f j)) (f_A E) U U.heap
def f_ok (E : fEv) (U : State) : Prop := va_K E.1 f_cl (f_ty E) U ∧ f_nj E ∧ f_stat E "BASES" E.2.2.2.1 f_B U ∧ f_stat E "SQUARE_RESTS" E.2.2.2.2 f_Sq U ∧ va_Nw (.fieldLinkNest RX2 9 "FormPlaces" "BASES" "[I" "FormPlaces") U ∧ va_Nw (.fieldLinkNest RX6 51 "FormPlaces" "BASES" "[I" "FormPlaces") U ∧ va_Nw (.fieldLinkNest RX6 63 "FormPlaces" "SQUARE_RESTS" "[I" "FormPlaces") U
def f_h (E : fEv) (σ : fS) (H : Heap) : Prop := va_P E.1 f_cl (f_w E σ) H
theorem f_stat.calling {E : fEv} {nm : String} {z : Nat} {f : Nat → Int32} {U : State} {g : JFrame} {mk : MethodId} {a : Array Value} (h : f_stat E nm z f U) : f_stat E nm z f (U.calling g mk a) := by
  obtain ⟨h1, h2⟩ := h
  exact ⟨va_Z.moved (u := U) (U := U.calling g mk a) (Vm.Alike.refl U.vm) h1, va_T.moved (u := U) (U := U.calling g mk a) (Vm.Alike.refl U.vm) h2⟩
theorem f_stat.go {E : fEv} {nm : String} {z : Nat} {f : Nat → Int32} {s U : State} {H : Heap} {locs : List Loc} (h : f_stat E nm z f s) (hS : va_S (f_A E) s.heap H locs) (hU : U.heap = H) (hW : s.WarmedH U.vm) : f_stat E nm z f U := by
  obtain ⟨h1, h2⟩ := h
  rw [← hU] at hS
  exact ⟨(va_Z.moved hW.alike h1).kept hS.2.1, (va_T.moved hW.alike h2).kept hS.2.1⟩
theorem f_ok.calling {E : fEv} {U : State} {g : JFrame} {mk : MethodId} {a : Array Value} (h : f_ok E U) : f_ok E (U.calling g mk a) := by
  obtain ⟨h1, h2, h3, h4, h5, h6, h7⟩ := h
  exact ⟨va_K.moved (u := U) (U := U.calling g mk a) (Vm.Alike.refl U.vm) h1, h2, h3.calling, h4.calling, va_Nw.same rfl rfl h5, va_Nw.same rfl rfl h6, va_Nw.same rfl rfl h7⟩
theorem f_ok.go {E : fEv} {s U : State} {H : Heap} {locs : List Loc} (h : f_ok E s) (hS : va_S (f_A E) s.heap H locs) (hU : U.heap = H) (hW : s.WarmedH U.vm) : f_ok E U := by
  obtain ⟨h1, h2, h3, h4, h5, h6, h7⟩ := h
  exact ⟨va_K.moved hW.alike h1, h2, h3.go hS hU hW, h4.go hS hU hW, va_Nw.warmF hW h5, va_Nw.warmF hW h6, va_Nw.warmF hW h7⟩
theorem f_wat {E : fEv} {σ : fS} {k : Nat} (hk : k < 85) : (f_w E σ)[k]? = some (E.2.1 k, f_ent E σ k) := by
  simp [f_w, hk]
theorem f_wof {E : fEv} {σ : fS} {i : Nat} {q : Nat × va_E} (h : (f_w E σ)[i]? = some q) : i < 85 ∧ q = (E.2.1 i, f_ent E σ i) := by
  have hl : i < 85 := by
    have h1 := (List.getElem?_eq_some_iff.mp h).1
    simpa [f_w] using h1
  rw [f_wat hl] at h
  exact ⟨hl, (Option.some.inj h).symm⟩
theorem f_hD {E : fEv} (σ : fS) (h : f_nj E) : va_D (f_A E) (f_w E σ) := by
  refine ⟨fun i j p q hi hj hpq => ?_, fun k q hk => ?_⟩
  · obtain ⟨l1, rfl⟩ := f_wof hi
    obtain ⟨l2, rfl⟩ := f_wof hj
    exact h i j l1 l2 hpq
  · obtain ⟨l1, rfl⟩ := f_wof hk
    exact ⟨k, l1, rfl⟩
theorem f_ent_cg {E : fEv} {σ τ : fS} {a : Nat} (h1 : σ.1 a = τ.1 a) (h2 : σ.2 a = τ.2 a) : f_ent E σ a = f_ent E τ a := by
  have h3 : fv E σ a = fv E τ a := by
    funext c j
    simp only [fv, h1, h2]
  simp only [f_ent, h1, h2, h3]
theorem f_set {E : fEv} {σ τ : fS} {k : Nat} {e : va_E} (he : e = f_ent E τ k) (h : ∀ a, a ≠ k → σ.1 a = τ.1 a ∧ σ.2 a = τ.2 a) : (f_w E σ).set k (E.2.1 k, e) = f_w E τ := by
  subst he
  apply List.ext_getElem?
  intro i
  by_cases hi : i < 85
  · rw [f_wat hi]
    by_cases hk : k = i
    · subst hk
      rw [List.getElem?_set_self (by simp [f_w]; exact hi)]
    · rw [List.getElem?_set_ne hk, f_wat hi, f_ent_cg (h i (Ne.symm hk)).1 (h i (Ne.symm hk)).2]
  · rw [List.getElem?_eq_none (by simp [f_w]; omega), List.getElem?_eq_none (by simp [f_w]; omega)]
theorem kd_lt {k c : Nat} (h : kd k = c) (hc : c < 99) : k < 85 := by
  rcases Nat.lt_or_ge k 85 with q | q
  · exact q
  · have h1 : kd k = 99 := by
      unfold kd
      rw [List.getD_eq_getElem?_getD, List.getElem?_eq_none (by simp [f_kdT]; omega)]; rfl
    omega
theorem f_ent_o {E : fEv} {σ : fS} {k c : Nat} (h : kd k = c) (hc : c < 8) : f_ent E σ k = .inr (c, (List.range (nf c)).map (fv E σ k c)) := by
  unfold f_ent
  rw [h]
  match c, hc with
  | 0, _ => rfl
  | 1, _ => rfl
  | 2, _ => rfl
  | 3, _ => rfl
  | 4, _ => rfl
  | 5, _ => rfl
  | 6, _ => rfl
  | 7, _ => rfl
theorem f_ent_i {E : fEv} {σ : fS} {k : Nat} (h : kd k = 10) : f_ent E σ k = .inl (E.2.2.1 0, ln k, .inl (σ.1 k)) := by simp only [f_ent, h]
theorem f_ent_z {E : fEv} {σ : fS} {k : Nat} (h : kd k = 11) : f_ent E σ k = .inl (E.2.2.1 1, ln k, .inl (σ.1 k)) := by simp only [f_ent, h]
theorem f_ent_b {E : fEv} {σ : fS} {k : Nat} (h : kd k = 12) : f_ent E σ k = .inl (E.2.2.1 2, ln k, .inl (σ.1 k)) := by simp only [f_ent, h]
theorem f_ent_l {E : fEv} {σ : fS} {k : Nat} (h : kd k = 13) : f_ent E σ k = .inl (E.2.2.1 3, ln k, .inr (.inl (σ.2 k))) := by simp only [f_ent, h]
theorem f_ent_r {E : fEv} {σ : fS} {k : Nat} (h : kd k = 14) : f_ent E σ k = .inl (E.2.2.1 4, ln k, .inr (.inr (.inr (.inr (fun i => some (E.2.1 (er k i))))))) := by simp only [f_ent, h]
theorem sI_at (σ : fS) (k j : Nat) (v : Int32) : (sI σ k j v).1 k = upd (σ.1 k) j v := by simp [sI]
theorem sI_ne (σ : fS) {k a : Nat} (j : Nat) (v : Int32) (h : a ≠ k) : (sI σ k j v).1 a = σ.1 a := by simp [sI, h]
theorem sL_at (σ : fS) (k j : Nat) (v : Int64) : (sL σ k j v).2 k = vp_updL (σ.2 k) j v := by simp [sL]
theorem sL_ne (σ : fS) {k a : Nat} (j : Nat) (v : Int64) (h : a ≠ k) : (sL σ k j v).2 a = σ.2 a := by simp [sL, h]
/-! the words of a method's value: guards, names, binds -/
def Gd {α : Type} (c : Bool) (x : Option α) : Option α := match c with
  | true => x
  | false => none
theorem f_gd {α : Type} {c : Bool} {x : Option α} {r : α} (h : Gd c x = some r) : c = true ∧ x = some r := by
  cases c with
  | true => exact ⟨rfl, h⟩
  | false => cases h
def Lt {α β : Type} (e : α) (f : α → β) : β := f e
theorem f_lt {α β : Type} {e x : α} {f : α → β} {r : β} (h : Lt e f = r) (ex : x = e) : f x = r := by subst ex; exact h
def Bd {α β : Type} (x : Option (α × fS)) (f : α → fS → Option β) : Option β := match x with
  | none => none
  | some q => f q.1 q.2
theorem f_bd {α β : Type} {x : Option (α × fS)} {f : α → fS → Option β} {r : β} (h : Bd x f = some r) : ∃ (a : α) (σ : fS), x = some (a, σ) ∧ f a σ = some r := by
  cases x with
  | none => cases h
  | some q => exact ⟨q.1, q.2, rfl, h⟩
def Bv {β : Type} (x : Option fS) (f : fS → Option β) : Option β := match x with
  | none => none
  | some q => f q
theorem f_bv {β : Type} {x : Option fS} {f : fS → Option β} {r : β} (h : Bv x f = some r) : ∃ (σ : fS), x = some σ ∧ f σ = some r := by
  cases x with
  | none => cases h
  | some q => exact ⟨q, rfl, h⟩
def Bs {α ρ : Type} (x : Option (ρ ⊕ (α × fS))) (f : α → fS → Option ρ) : Option ρ := match x with
  | none => none
  | some (.inl q) => some q
  | some (.inr q) => f q.1 q.2
theorem f_bs {α ρ : Type} {x : Option (ρ ⊕ (α × fS))} {f : α → fS → Option ρ} {r : ρ} (h : Bs x f = some r) : ∃ z : ρ ⊕ (α × fS), x = some z ∧ Bs (some z) f = some r := by
  cases x with
  | none => cases h
  | some q => exact ⟨q, rfl, h⟩
theorem f_bs_l {α ρ : Type} {z : ρ ⊕ (α × fS)} {f : α → fS → Option ρ} {r q : ρ} (h : Bs (some z) f = some r) (hz : some (Sum.inl q) = some z) : some q = some r := by
  cases hz; exact h
theorem f_ip {α : Type} {c : Prop} {inst : Decidable c} {A B : α} {r : α} (hc : c) (h : (if c then A else B) = r) : A = r := by rwa [if_pos hc] at h
theorem f_in {α : Type} {c : Prop} {inst : Decidable c} {A B : α} {r : α} (hc : ¬ c) (h : (if c then A else B) = r) : B = r := by rwa [if_neg hc] at h
def fin (i : Int32) (n : Nat) : Bool := decide (0 ≤ i.toInt ∧ i.toInt < (n : Int))
theorem f_fin {i : Int32} {n : Nat} (h : fin i n = true) : vp_in i n := vp_in_iff.mpr (by simpa [fin] using h)
theorem f_cl_lt {i : Int32} {n : Nat} (h : vp_in i n) : i.toNatClampNeg < n := Nat.not_le.mp fun q => h (Or.inr q)
def nz (i : Int32) : Bool := decide (¬ i = 0)
theorem f_nz {i : Int32} (h : nz i = true) : ¬ i = 0 := by simpa [nz] using h
def isB (i : Int32) : Bool := decide (i = 0 ∨ i = 1)
theorem f_isB {i : Int32} (h : isB i = true) : i = 0 ∨ i = 1 := by simpa [isB] using h
def iR (x y : Int32) : Int32 := x - x / y * y
/-! contracts -/
def fQ (E : fEv) (τ : fS) (o : Option Value) : Array Value → State → Outcome → State → Prop := fun _ st oc t => oc = .returned o ∧ f_h E τ t.heap ∧ va_F (f_A E) st t
def fP (E : fEv) (σ : fS) (av : List Value) : Array Value → State → Prop := va_Pc av (fun U => f_ok E U ∧ f_h E σ U.heap)
def fM (l : Launch) (E : fEv) (y : MethodName) (w : Cond) (rm : Room) (av : List Value) (σ τ : fS) (o : Option Value) : Prop := Met l y (w :: fTb) rm (fP E σ av) (fQ E τ o) 0 0 (f_A E)
theorem fP_blind {E : fEv} {σ : fS} {av : List Value} : FrameBlind (fP E σ av) := fun _ _ _ _ q => ⟨q.1, q.2.1.calling, q.2.2⟩
def fX (p : Program) (m : MethodId) (c : Code) (s : State) (args : Array Value) (E : fEv) (own : String) (cc : ByteArray) (nL : Nat) : Prop := CallFix p m c cc nL s args fTb own ∧ f_ok E s
theorem f_open {l : Launch} {E : fEv} {y : MethodName} {cc : ByteArray} {maxL : Nat} {ret : Option FieldType} {rm : Room} {av : List Value} {σ τ : fS} {o : Option Value} (hy : plainName y.cls = true) (hlen : (lg_sl av).length ≤ maxL)
    (body : ∀ (p : Program) (e : Env) (s : State) (m : MethodId) (below : List Frame) (meth : Method) (c : Code), fX p m c s av.toArray E y.cls cc maxL → meth.sig.returnType = ret → meth.locks = false → f_h E σ s.heap → ∀ ls : Array Slot, lv_has ls maxL (lv_args 0 av) → W p l e rm s m av.toArray below meth c s.heap [] 0 0 (MQ below (fQ E τ o) av.toArray s 0 0 (f_A E)) (F0 m 0 ls [])) : fM l E y (.code y cc maxL ret) rm av σ τ o := by
  refine Met.ofW (cc := cc) (maxL := maxL) (ret := ret) hy rfl ?_
  intro p e s m args below meth c s₁ B hml hv
  obtain ⟨rfl, hok, hP⟩ := hv
  have hts := atoms_spec (ws := Cond.code y cc maxL ret :: fTb) B.pre
  have hl := lv_entry av (n := maxL) hlen
  rw [lg_entry_eq]
  exact body p e s m below meth c ⟨⟨B.exec, B.bytes, hml, findClass_of_methodNamed B.named, fun w hw => hts w (List.mem_cons_of_mem _ hw)⟩, hok⟩ B.returns B.notSynchronized hP _ hl
section FROWS
variable {p : Program} {l : Launch} {e : Env} {R : Room} {s : State} {m : MethodId} {args : Array Value} {below : List Frame} {meth : Method} {c : Code} {H : Heap} {locs : List Loc} {cells slots : Nat} {Q : State → Prop}
variable {cc : ByteArray} {pc nL : Nat} {ls : Array Slot} {rest : List Value} {E : fEv} {own : String} {σ τ : fS} {k : Nat}
theorem x_get (F : fX p m c s args E own cc nL) (hP : f_h E σ H) {ci index : Nat} {C : String} {T : u_T} {N : Nat} {v : Value} (hk : kd k = ci) (hci : ci < 8) (hc : f_cl[ci]? = some (C, T, N)) (hN : nf ci = N) (hin : ∀ w ∈ u_ws C T N, w ∈ fTb) (j : Nat) (hj : j < N) (hlink : Cond.fieldLink own index (T j).1 (T j).2.1 (T j).2.2.1 ∈ fTb) (hv : fv E σ k ci j = v) (hdg : decode cc pc = .ok (.getfield index, 3))
    (kk : W p l e R s m args below meth c H locs cells slots Q (F0 m (pc + 3) ls (v :: rest))) : W p l e R s m args below meth c H locs cells slots Q (F0 m pc ls (.ref (E.2.1 k) :: rest)) := by
  obtain ⟨⟨hx, hb, hml, hown, hts⟩, hok⟩ := F
  exact va_get hx hb hts hin hown hok.1 hP k (fs := (List.range (nf ci)).map (fv E σ k ci)) (by rw [f_wat (kd_lt hk (by omega)), f_ent_o hk hci]) hc j hj (hts _ hlink) (fun _ h => h) (by rw [List.getElem?_map, List.getElem?_range (by omega), ← hv]; rfl) hdg kk
theorem x_put (F : fX p m c s args E own cc nL) (hS : va_S (f_A E) s.heap H locs) (hP : f_h E σ H) {ci index : Nat} {C : String} {T : u_T} {N : Nat} {x : Int32} {ty : FieldType} (ty0 : Nat → FieldType) (hty : ∀ k, k < N → parseFieldDescriptor (T k).2.2.1 = some (ty0 k)) (hnm : ∀ a, a < N → ∀ b, b < N → a ≠ b → (T a).2.1 ≠ (T b).2.1) (hk : kd k = ci) (hci : ci < 8) (hc : f_cl[ci]? = some (C, T, N)) (hN : nf ci = N) (hin : ∀ w ∈ u_ws C T N, w ∈ fTb) (j : Nat) (hj : j < N) (hft : ft ci j = 0) (hlink : Cond.fieldLink own index (T j).1 (T j).2.1 (T j).2.2.1 ∈ fTb) (hfin : (T j).2.2.2 = false) (hd : parseFieldDescriptor (T j).2.2.1 = some ty) (hn : narrow ty (.int x) = .int x) (hfit : fits ty (.int x) = true) (hdg : decode cc pc = .ok (.putfield index, 3))
    (kk : ∀ (H1 : Heap) (locs1 : List Loc), f_h E (sI σ k j x) H1 → va_S (f_A E) s.heap H1 locs1 → W p l e R s m args below meth c H1 locs1 cells slots Q (F0 m (pc + 3) ls rest)) : W p l e R s m args below meth c H locs cells slots Q (F0 m pc ls (.int x :: .ref (E.2.1 k) :: rest)) := by
  obtain ⟨⟨hx, hb, hml, hown, hts⟩, hok⟩ := F
  refine va_put hx hb hts hin ty0 hty hnm hown hok.1 hP (f_hD σ hok.2.1) hS k (fs := (List.range (nf ci)).map (fv E σ k ci)) (by rw [f_wat (kd_lt hk (by omega)), f_ent_o hk hci]) hc j hj (hts _ hlink) (fun _ h => h) hfin hd hn hfit (by simp; omega) hdg (fun H1 locs1 h1 _ h3 => kk H1 locs1 ?_ h3)
  have e1 : (f_w E σ).set k (E.2.1 k, .inr (ci, ((List.range (nf ci)).map (fv E σ k ci)).set j (.int x))) = f_w E (sI σ k j x) := by
    refine f_set ?_ (fun a ha => ⟨(sI_ne σ j x ha).symm, rfl⟩)
    rw [f_ent_o hk hci]
    congr 2
    apply List.ext_getElem?
    intro i
    by_cases hi : i < nf ci
    · by_cases hji : j = i
      · subst hji
        rw [List.getElem?_set_self (by simp; exact hi), List.getElem?_map, List.getElem?_range hi]
        simp only [fv, hft, sI_at, Option.map_some, upd, if_true]
      · rw [List.getElem?_set_ne hji, List.getElem?_map, List.getElem?_map, List.getElem?_range hi]
        simp only [fv, sI_at, Option.map_some, upd, if_neg (Ne.symm hji)]
        rfl
    · rw [List.getElem?_eq_none (by simp; omega), List.getElem?_eq_none (by simp; omega)]
  rw [e1] at h1
  exact h1
theorem x_putL (F : fX p m c s args E own cc nL) (hS : va_S (f_A E) s.heap H locs) (hP : f_h E σ H) {ci index : Nat} {C : String} {T : u_T} {N : Nat} {x : Int64} (ty0 : Nat → FieldType) (hty : ∀ k, k < N → parseFieldDescriptor (T k).2.2.1 = some (ty0 k)) (hnm : ∀ a, a < N → ∀ b, b < N → a ≠ b → (T a).2.1 ≠ (T b).2.1) (hk : kd k = ci) (hci : ci < 8) (hc : f_cl[ci]? = some (C, T, N)) (hN : nf ci = N) (hin : ∀ w ∈ u_ws C T N, w ∈ fTb) (j : Nat) (hj : j < N) (hft : ft ci j = 1) (hlink : Cond.fieldLink own index (T j).1 (T j).2.1 (T j).2.2.1 ∈ fTb) (hfin : (T j).2.2.2 = false) (hd : parseFieldDescriptor (T j).2.2.1 = some .long) (hdg : decode cc pc = .ok (.putfield index, 3))
    (kk : ∀ (H1 : Heap) (locs1 : List Loc), f_h E (sL σ k j x) H1 → va_S (f_A E) s.heap H1 locs1 → W p l e R s m args below meth c H1 locs1 cells slots Q (F0 m (pc + 3) ls rest)) : W p l e R s m args below meth c H locs cells slots Q (F0 m pc ls (.long x :: .ref (E.2.1 k) :: rest)) := by
  obtain ⟨⟨hx, hb, hml, hown, hts⟩, hok⟩ := F
  refine va_put hx hb hts hin ty0 hty hnm hown hok.1 hP (f_hD σ hok.2.1) hS k (fs := (List.range (nf ci)).map (fv E σ k ci)) (by rw [f_wat (kd_lt hk (by omega)), f_ent_o hk hci]) hc j hj (hts _ hlink) (fun _ h => h) hfin hd rfl rfl (by simp; omega) hdg (fun H1 locs1 h1 _ h3 => kk H1 locs1 ?_ h3)
  have e1 : (f_w E σ).set k (E.2.1 k, .inr (ci, ((List.range (nf ci)).map (fv E σ k ci)).set j (.long x))) = f_w E (sL σ k j x) := by
    refine f_set ?_ (fun a ha => ⟨rfl, (sL_ne σ j x ha).symm⟩)
    rw [f_ent_o hk hci]
    congr 2
    apply List.ext_getElem?
    intro i
    by_cases hi : i < nf ci
    · by_cases hji : j = i
      · subst hji
        rw [List.getElem?_set_self (by simp; exact hi), List.getElem?_map, List.getElem?_range hi]
        simp only [fv, hft, sL_at, Option.map_some, vp_updL, if_true]
      · rw [List.getElem?_set_ne hji, List.getElem?_map, List.getElem?_map, List.getElem?_range hi]
        simp only [fv, sL_at, Option.map_some, vp_updL, if_neg (Ne.symm hji)]
        rfl
    · rw [List.getElem?_eq_none (by simp; omega), List.getElem?_eq_none (by simp; omega)]
  rw [e1] at h1
  exact h1
theorem x_iald (F : fX p m c s args E own cc nL) (hP : f_h E σ H) {n : Nat} (hk : kd k = 10) (hn : ln k = n) {i : Int32} (hi : vp_in i n) (hdg : decode cc pc = .ok (.iaload, 1))
    (kk : W p l e R s m args below meth c H locs cells slots Q (F0 m (pc + 1) ls (.int (σ.1 k i.toNatClampNeg) :: rest))) : W p l e R s m args below meth c H locs cells slots Q (F0 m pc ls (.int i :: .ref (E.2.1 k) :: rest)) := by
  obtain ⟨⟨hx, hb, hml, hown, hts⟩, hok⟩ := F
  subst hn
  exact va_iald hx hb hok.1 hP k 0 (by rw [f_wat (kd_lt hk (by omega)), f_ent_i hk]) rfl hi hdg kk
theorem x_zald (F : fX p m c s args E own cc nL) (hP : f_h E σ H) {n : Nat} (hk : kd k = 11) (hn : ln k = n) {i : Int32} (hi : vp_in i n) (hdg : decode cc pc = .ok (.baload, 1))
    (kk : W p l e R s m args below meth c H locs cells slots Q (F0 m (pc + 1) ls (.int (σ.1 k i.toNatClampNeg) :: rest))) : W p l e R s m args below meth c H locs cells slots Q (F0 m pc ls (.int i :: .ref (E.2.1 k) :: rest)) := by
  obtain ⟨⟨hx, hb, hml, hown, hts⟩, hok⟩ := F
  subst hn
  exact va_zald hx hb hok.1 hP k 1 (by rw [f_wat (kd_lt hk (by omega)), f_ent_z hk]) rfl hi hdg kk
theorem x_bald (F : fX p m c s args E own cc nL) (hP : f_h E σ H) {n : Nat} (hk : kd k = 12) (hn : ln k = n) {i : Int32} (hi : vp_in i n) (hdg : decode cc pc = .ok (.baload, 1))
    (kk : W p l e R s m args below meth c H locs cells slots Q (F0 m (pc + 1) ls (.int (σ.1 k i.toNatClampNeg) :: rest))) : W p l e R s m args below meth c H locs cells slots Q (F0 m pc ls (.int i :: .ref (E.2.1 k) :: rest)) := by
  obtain ⟨⟨hx, hb, hml, hown, hts⟩, hok⟩ := F
  subst hn
  exact va_bald hx hb hok.1 hP k 2 (by rw [f_wat (kd_lt hk (by omega)), f_ent_b hk]) rfl hi hdg kk
theorem x_lald (F : fX p m c s args E own cc nL) (hP : f_h E σ H) {n : Nat} (hk : kd k = 13) (hn : ln k = n) {i : Int32} (hi : vp_in i n) (hdg : decode cc pc = .ok (.laload, 1))
    (kk : W p l e R s m args below meth c H locs cells slots Q (F0 m (pc + 1) ls (.long (σ.2 k i.toNatClampNeg) :: rest))) : W p l e R s m args below meth c H locs cells slots Q (F0 m pc ls (.int i :: .ref (E.2.1 k) :: rest)) := by
  obtain ⟨⟨hx, hb, hml, hown, hts⟩, hok⟩ := F
  subst hn
  exact va_lald hx hb hok.1 hP k 3 (by rw [f_wat (kd_lt hk (by omega)), f_ent_l hk]) rfl hi hdg kk
theorem x_aald (F : fX p m c s args E own cc nL) (hP : f_h E σ H) {n : Nat} (hk : kd k = 14) (hn : ln k = n) {i : Int32} (hi : vp_in i n) (hdg : decode cc pc = .ok (.aaload, 1))
    (kk : W p l e R s m args below meth c H locs cells slots Q (F0 m (pc + 1) ls (.ref (E.2.1 (er k i.toNatClampNeg)) :: rest))) : W p l e R s m args below meth c H locs cells slots Q (F0 m pc ls (.int i :: .ref (E.2.1 k) :: rest)) := by
  obtain ⟨⟨hx, hb, hml, hown, hts⟩, hok⟩ := F
  subst hn
  exact va_aldq hx hb hok.1 hP k 4 (f := fun i => some (E.2.1 (er k i))) (by rw [f_wat (kd_lt hk (by omega)), f_ent_r hk]) rfl hi hdg kk
theorem x_iast (F : fX p m c s args E own cc nL) (hS : va_S (f_A E) s.heap H locs) (hP : f_h E σ H) {n : Nat} (hk : kd k = 10) (hn : ln k = n) {i : Int32} {x : Int32} (hi : vp_in i n) (hdg : decode cc pc = .ok (.iastore, 1))
    (kk : ∀ (H1 : Heap) (locs1 : List Loc), f_h E (sI σ k i.toNatClampNeg x) H1 → va_S (f_A E) s.heap H1 locs1 → W p l e R s m args below meth c H1 locs1 cells slots Q (F0 m (pc + 1) ls rest)) : W p l e R s m args below meth c H locs cells slots Q (F0 m pc ls (.int x :: .int i :: .ref (E.2.1 k) :: rest)) := by
  obtain ⟨⟨hx, hb, hml, hown, hts⟩, hok⟩ := F
  subst hn
  refine va_iast hx hb hok.1 hP (f_hD σ hok.2.1) hS k 0 (by rw [f_wat (kd_lt hk (by omega)), f_ent_i hk]) rfl hi hdg (fun H1 locs1 h1 _ h3 => kk H1 locs1 ?_ h3)
  skip
  rw [f_set (σ := σ) (τ := sI σ k i.toNatClampNeg x) (by rw [f_ent_i hk, sI_at]) (fun a ha => ⟨(sI_ne σ _ _ ha).symm, rfl⟩)] at h1
  exact h1
theorem x_zast (F : fX p m c s args E own cc nL) (hS : va_S (f_A E) s.heap H locs) (hP : f_h E σ H) {n : Nat} (hk : kd k = 11) (hn : ln k = n) {i : Int32} {x : Int32} (hz : vp_nar .boolean x = x) (hi : vp_in i n) (hdg : decode cc pc = .ok (.bastore, 1))
    (kk : ∀ (H1 : Heap) (locs1 : List Loc), f_h E (sI σ k i.toNatClampNeg x) H1 → va_S (f_A E) s.heap H1 locs1 → W p l e R s m args below meth c H1 locs1 cells slots Q (F0 m (pc + 1) ls rest)) : W p l e R s m args below meth c H locs cells slots Q (F0 m pc ls (.int x :: .int i :: .ref (E.2.1 k) :: rest)) := by
  obtain ⟨⟨hx, hb, hml, hown, hts⟩, hok⟩ := F
  subst hn
  refine va_zast hx hb hok.1 hP (f_hD σ hok.2.1) hS k 1 (by rw [f_wat (kd_lt hk (by omega)), f_ent_z hk]) rfl hi hdg (fun H1 locs1 h1 _ h3 => kk H1 locs1 ?_ h3)
  rw [hz] at h1
  rw [f_set (σ := σ) (τ := sI σ k i.toNatClampNeg x) (by rw [f_ent_z hk, sI_at]) (fun a ha => ⟨(sI_ne σ _ _ ha).symm, rfl⟩)] at h1
  exact h1
theorem x_bast (F : fX p m c s args E own cc nL) (hS : va_S (f_A E) s.heap H locs) (hP : f_h E σ H) {n : Nat} (hk : kd k = 12) (hn : ln k = n) {i : Int32} {x : Int32} (hi : vp_in i n) (hdg : decode cc pc = .ok (.bastore, 1))
    (kk : ∀ (H1 : Heap) (locs1 : List Loc), f_h E (sI σ k i.toNatClampNeg (vp_nar .byte x)) H1 → va_S (f_A E) s.heap H1 locs1 → W p l e R s m args below meth c H1 locs1 cells slots Q (F0 m (pc + 1) ls rest)) : W p l e R s m args below meth c H locs cells slots Q (F0 m pc ls (.int x :: .int i :: .ref (E.2.1 k) :: rest)) := by
  obtain ⟨⟨hx, hb, hml, hown, hts⟩, hok⟩ := F
  subst hn
  refine va_bast hx hb hok.1 hP (f_hD σ hok.2.1) hS k 2 (by rw [f_wat (kd_lt hk (by omega)), f_ent_b hk]) rfl hi hdg (fun H1 locs1 h1 _ h3 => kk H1 locs1 ?_ h3)
  skip
  rw [f_set (σ := σ) (τ := sI σ k i.toNatClampNeg (vp_nar .byte x)) (by rw [f_ent_b hk, sI_at]) (fun a ha => ⟨(sI_ne σ _ _ ha).symm, rfl⟩)] at h1
  exact h1
theorem x_last (F : fX p m c s args E own cc nL) (hS : va_S (f_A E) s.heap H locs) (hP : f_h E σ H) {n : Nat} (hk : kd k = 13) (hn : ln k = n) {i : Int32} {x : Int64} (hi : vp_in i n) (hdg : decode cc pc = .ok (.lastore, 1))
    (kk : ∀ (H1 : Heap) (locs1 : List Loc), f_h E (sL σ k i.toNatClampNeg x) H1 → va_S (f_A E) s.heap H1 locs1 → W p l e R s m args below meth c H1 locs1 cells slots Q (F0 m (pc + 1) ls rest)) : W p l e R s m args below meth c H locs cells slots Q (F0 m pc ls (.long x :: .int i :: .ref (E.2.1 k) :: rest)) := by
  obtain ⟨⟨hx, hb, hml, hown, hts⟩, hok⟩ := F
  subst hn
  refine va_last hx hb hok.1 hP (f_hD σ hok.2.1) hS k 3 (by rw [f_wat (kd_lt hk (by omega)), f_ent_l hk]) rfl hi hdg (fun H1 locs1 h1 _ h3 => kk H1 locs1 ?_ h3)
  skip
  rw [f_set (σ := σ) (τ := sL σ k i.toNatClampNeg x) (by rw [f_ent_l hk, sL_at]) (fun a ha => ⟨rfl, (sL_ne σ _ _ ha).symm⟩)] at h1
  exact h1
theorem x_alen (F : fX p m c s args E own cc nL) (hP : f_h E σ H) {n : Nat} (hk : kd k = 10) (hn : ln k = n) {v : Int32} (hv : Int32.ofNat n = v) (hdg : decode cc pc = .ok (.arraylength, 1))
    (kk : W p l e R s m args below meth c H locs cells slots Q (F0 m (pc + 1) ls (.int v :: rest))) : W p l e R s m args below meth c H locs cells slots Q (F0 m pc ls (.ref (E.2.1 k) :: rest)) := by
  obtain ⟨⟨hx, hb, hml, hown, hts⟩, hok⟩ := F
  subst hn
  exact va_alen hx hb hok.1 hP k 0 (x := (ln k, .inl (σ.1 k))) (by rw [f_wat (kd_lt hk (by omega)), f_ent_i hk]) (ty := .int) rfl hv hdg kk
theorem x_zB (x : Int32) (h : x = 0 ∨ x = 1) : vp_nar .boolean x = x := by
  rcases h with rfl | rfl <;> rfl
theorem x_zN (x : Int32) (h : x = 0 ∨ x = 1) : narrow .boolean (.int x) = .int x := by
  rcases h with rfl | rfl <;> rfl
theorem x_zF (x : Int32) (h : x = 0 ∨ x = 1) : fits .boolean (.int x) = true := by
  rcases h with rfl | rfl <;> rfl
theorem x_irem (F : fX p m c s args E own cc nL) {x y : Int32} (hdg : decode cc pc = .ok (.irem, 1)) (hne : ¬ y = 0) (kk : W p l e R s m args below meth c H locs cells slots Q (F0 m (pc + 1) ls (.int (iR x y) :: rest))) : W p l e R s m args below meth c H locs cells slots Q (F0 m pc ls (.int y :: .int x :: rest)) := lv_irem F.1.1 F.1.2.1 hdg hne kk
theorem x_gsB (F : fX p m c s args E "FormPlaces" cc nL) (hS : va_S (f_A E) s.heap H locs) {index : Nat} (hlink : Cond.fieldLink "FormPlaces" index "FormPlaces" "BASES" "[I" ∈ fTb) (hdg : decode cc pc = .ok (.getstatic index, 3)) (kk : W p l e R s m args below meth c H locs cells slots Q (F0 m (pc + 3) ls (.ref E.2.2.2.1 :: rest))) : W p l e R s m args below meth c H locs cells slots Q (F0 m pc ls rest) := va_gets F.1.1 F.1.2.1 F.2.2.2.1.1 hS F.1.2.2.2.1 (F.1.2.2.2.2 _ hlink) (fun _ h => h) hdg kk
theorem x_gnB2 (F : fX p m c s args E RX2 cc nL) (hS : va_S (f_A E) s.heap H locs) (hdg : decode cc pc = .ok (.getstatic 9, 3)) (kk : W p l e R s m args below meth c H locs cells slots Q (F0 m (pc + 3) ls (.ref E.2.2.2.1 :: rest))) : W p l e R s m args below meth c H locs cells slots Q (F0 m pc ls rest) := va_getsN F.1.1 F.1.2.1 F.2.2.2.1.1 hS F.1.2.2.2.1 (va_Nw.use rfl F.2.2.2.2.2.1) (fun _ h => h) hdg kk
theorem x_gnB6 (F : fX p m c s args E RX6 cc nL) (hS : va_S (f_A E) s.heap H locs) (hdg : decode cc pc = .ok (.getstatic 51, 3)) (kk : W p l e R s m args below meth c H locs cells slots Q (F0 m (pc + 3) ls (.ref E.2.2.2.1 :: rest))) : W p l e R s m args below meth c H locs cells slots Q (F0 m pc ls rest) := va_getsN F.1.1 F.1.2.1 F.2.2.2.1.1 hS F.1.2.2.2.1 (va_Nw.use rfl F.2.2.2.2.2.2.1) (fun _ h => h) hdg kk
theorem x_gnS6 (F : fX p m c s args E RX6 cc nL) (hS : va_S (f_A E) s.heap H locs) (hdg : decode cc pc = .ok (.getstatic 63, 3)) (kk : W p l e R s m args below meth c H locs cells slots Q (F0 m (pc + 3) ls (.ref E.2.2.2.2 :: rest))) : W p l e R s m args below meth c H locs cells slots Q (F0 m pc ls rest) := va_getsN F.1.1 F.1.2.1 F.2.2.2.2.1.1 hS F.1.2.2.2.1 (va_Nw.use rfl F.2.2.2.2.2.2.2) (fun _ h => h) hdg kk
theorem x_slB (F : fX p m c s args E own cc nL) (hS : va_S (f_A E) s.heap H locs) (hdg : decode cc pc = .ok (.arraylength, 1)) (kk : W p l e R s m args below meth c H locs cells slots Q (F0 m (pc + 1) ls (.int 7 :: rest))) : W p l e R s m args below meth c H locs cells slots Q (F0 m pc ls (.ref E.2.2.2.1 :: rest)) := va_tlen F.1.1 F.1.2.1 F.2.2.2.1.2 hS rfl hdg kk
theorem x_slS (F : fX p m c s args E own cc nL) (hS : va_S (f_A E) s.heap H locs) (hdg : decode cc pc = .ok (.arraylength, 1)) (kk : W p l e R s m args below meth c H locs cells slots Q (F0 m (pc + 1) ls (.int 7 :: rest))) : W p l e R s m args below meth c H locs cells slots Q (F0 m pc ls (.ref E.2.2.2.2 :: rest)) := va_tlen F.1.1 F.1.2.1 F.2.2.2.2.1.2 hS rfl hdg kk
theorem x_sdB (F : fX p m c s args E own cc nL) (hS : va_S (f_A E) s.heap H locs) {i : Int32} (hi : vp_in i 7) (hdg : decode cc pc = .ok (.iaload, 1)) (kk : W p l e R s m args below meth c H locs cells slots Q (F0 m (pc + 1) ls (.int (f_B i.toNatClampNeg) :: rest))) : W p l e R s m args below meth c H locs cells slots Q (F0 m pc ls (.int i :: .ref E.2.2.2.1 :: rest)) := va_ti F.1.1 F.1.2.1 F.2.2.2.1.2 hS hi rfl hdg kk
theorem x_sdS (F : fX p m c s args E own cc nL) (hS : va_S (f_A E) s.heap H locs) {i : Int32} (hi : vp_in i 7) (hdg : decode cc pc = .ok (.iaload, 1)) (kk : W p l e R s m args below meth c H locs cells slots Q (F0 m (pc + 1) ls (.int (f_Sq i.toNatClampNeg) :: rest))) : W p l e R s m args below meth c H locs cells slots Q (F0 m pc ls (.int i :: .ref E.2.2.2.2 :: rest)) := va_ti F.1.1 F.1.2.1 F.2.2.2.2.1.2 hS hi rfl hdg kk
theorem x_iret (F : fX p m c s args E own cc nL) (hS : va_S (f_A E) s.heap H locs) (hP : f_h E σ H) (hr : meth.sig.returnType = some .int) (hlk : meth.locks = false) {v r : Int32} (hG : some (v, σ) = some (r, τ)) (hdg : decode cc pc = .ok (.ireturn, 1)) : W p l e R s m args below meth c H locs cells slots (MQ below (fQ E τ (some (.int r))) args s cells slots (f_A E)) (F0 m pc ls [.int v]) := by
  cases hG
  exact W.iret F.1.1 F.1.2.1 hr (fun t ht _ => ⟨rfl, by rw [ht]; exact hP, hS.F ht⟩) hS.2.2 hdg hlk
theorem x_zret (F : fX p m c s args E own cc nL) (hS : va_S (f_A E) s.heap H locs) (hP : f_h E σ H) (hr : meth.sig.returnType = some .boolean) (hlk : meth.locks = false) {v r : Int32} (hv : v = 0 ∨ v = 1) (hG : some (v, σ) = some (r, τ)) (hdg : decode cc pc = .ok (.ireturn, 1)) : W p l e R s m args below meth c H locs cells slots (MQ below (fQ E τ (some (.int r))) args s cells slots (f_A E)) (F0 m pc ls [.int v]) := by
  cases hG
  exact W.zret F.1.1 F.1.2.1 hr (x_zN v hv) (fun t ht _ => ⟨rfl, by rw [ht]; exact hP, hS.F ht⟩) hS.2.2 hdg hlk
theorem x_lret (F : fX p m c s args E own cc nL) (hS : va_S (f_A E) s.heap H locs) (hP : f_h E σ H) (hr : meth.sig.returnType = some .long) (hlk : meth.locks = false) {v r : Int64} (hG : some (v, σ) = some (r, τ)) (hdg : decode cc pc = .ok (.lreturn, 1)) : W p l e R s m args below meth c H locs cells slots (MQ below (fQ E τ (some (.long r))) args s cells slots (f_A E)) (F0 m pc ls [.long v]) := by
  cases hG
  exact W.lret F.1.1 F.1.2.1 hr (fun t ht _ => ⟨rfl, by rw [ht]; exact hP, hS.F ht⟩) hS.2.2 hdg hlk
theorem x_vret (F : fX p m c s args E own cc nL) (hS : va_S (f_A E) s.heap H locs) (hP : f_h E σ H) (hr : meth.sig.returnType = none) (hlk : meth.locks = false) (hG : some σ = some τ) (hdg : decode cc pc = .ok (.return_, 1)) : W p l e R s m args below meth c H locs cells slots (MQ below (fQ E τ none) args s cells slots (f_A E)) (F0 m pc ls []) := by
  cases hG
  exact W.vret F.1.1 F.1.2.1 hr (fun t ht _ => ⟨rfl, by rw [ht]; exact hP, hS.F ht⟩) hS.2.2 hdg hlk
theorem f_call {st0 : List Value} {o : Option Value} {a : Array Value} (hr : va_Run p l e R s m args below meth c H locs cells slots 0 0 (F0 m pc ls st0) rest (fQ E τ o a) (f_A E)) (hS : va_S (f_A E) s.heap H locs)
    (kk : ∀ (H1 : Heap) (locs1 : List Loc), f_h E τ H1 → va_S (f_A E) s.heap H1 locs1 → W p l e R s m args below meth c H1 locs1 cells slots Q (F0 m (pc + 3) ls (o.toList ++ rest))) : W p l e R s m args below meth c H locs cells slots Q (F0 m pc ls st0) := by
  intro T hT X
  obtain ⟨v, st₀, t, T', L, h0, X', hL, e1, e2, ⟨hv, hh, hz, hk⟩, st⟩ := hr T hT X
  cases hv
  rw [h0] at hz hk
  obtain ⟨t2, a1, b1⟩ := kk T'.heap (locs ++ L) (by rw [e1]; exact hh)
    ⟨Nat.le_trans hS.1 (by rw [e1]; exact hz), fun q h1 h2 => by rw [e1, hk q (Nat.lt_of_lt_of_le h1 hS.1) h2]; exact hS.2.1 q h1 h2, fun q hq => by
      rcases List.mem_append.mp hq with h | h
      · exact hS.2.2 q h
      · exact hL q h⟩ T' rfl X'
  exact ⟨t2, st t2 a1, b1⟩
theorem x_callS (F : fX p m c s args E own cc nL) (hS : va_S (f_A E) s.heap H locs) (hP : f_h E σ H) {y : MethodName} {bytes : ByteArray} {maxL n index : Nat} {ret : Option FieldType} {rm : Room} {o : Option Value} {As : List Value} (hM : fM l E y (.code y bytes maxL ret) rm As σ τ o) (hcode : Cond.code y bytes maxL ret ∈ fTb) (hlink : Cond.methodLink own index y ∈ fTb) (hst : Cond.static y ∈ fTb) (hini : Cond.initialized y.cls ∈ fTb) (hrc : rm.cells = 0) (hrs : rm.slots = 0)
    (hd : y.cls ≠ "java/lang/invoke/MethodHandle" ∧ y.cls ≠ "java/lang/invoke/VarHandle" ∧ (parseMethodDescriptor y.desc).map (fun d => d.parameters.length) = some n) (hR : rm.frames + 1 ≤ R.frames ∧ 8 + (maxL + 11) + rm.locals ≤ R.locals) (hn : As.length = n) (hsz : ls.size = nL) {st0 : List Value} (hstack : st0 = As.reverse ++ rest) (hroom : (rest.map fun v => v.category).sum ≤ 8) (hdg : decode cc pc = .ok (.invokestatic index, 3)) (hf : cells ≤ R.cells ∧ slots ≤ R.slots)
    (kk : ∀ (H1 : Heap) (locs1 : List Loc), f_h E τ H1 → va_S (f_A E) s.heap H1 locs1 → W p l e R s m args below meth c H1 locs1 cells slots Q (F0 m (pc + 3) ls (o.toList ++ rest))) : W p l e R s m args below meth c H locs cells slots Q (F0 m pc ls st0) := by
  have hok := F.2
  have hts := F.1.2.2.2.2
  refine f_call (va_runS (As := As) (rest := rest) F.1 hM ⟨callB_of n hts (f_good hcode) rfl hrc hrs (hts _ hini) (hts _ hlink) hd hR, hts _ hst⟩ ⟨fP_blind, fun U hU hW => ⟨rfl, hok.go hS hU hW, by rw [hU]; exact hP⟩⟩ rfl hn hsz hstack (lv_room hroom) hdg hf) hS kk
theorem x_callV (F : fX p m c s args E own cc nL) (hS : va_S (f_A E) s.heap H locs) (hP : f_h E σ H) {y : MethodName} {bytes : ByteArray} {maxL n index ci : Nat} {ret : Option FieldType} {rm : Room} {o : Option Value} {As : List Value} {C : String} {T : u_T} {NN : Nat} (hM : fM l E y (.code y bytes maxL ret) rm (.ref (E.2.1 k) :: As) σ τ o) (hk : kd k = ci) (hci : ci < 8) (hc : f_cl[ci]? = some (C, T, NN)) (hcode : Cond.code y bytes maxL ret ∈ fTb) (hlink : Cond.methodLink own index y ∈ fTb) (hin : Cond.instanceMethod y ∈ fTb) (hsel : Cond.selects C y y ∈ fTb) (hini : Cond.initialized y.cls ∈ fTb) (hrc : rm.cells = 0) (hrs : rm.slots = 0)
    (hd : y.cls ≠ "java/lang/invoke/MethodHandle" ∧ y.cls ≠ "java/lang/invoke/VarHandle" ∧ (parseMethodDescriptor y.desc).map (fun d => d.parameters.length) = some n) (hR : rm.frames + 1 ≤ R.frames ∧ 8 + (maxL + 11) + rm.locals ≤ R.locals) (hn : As.length = n) (hsz : ls.size = nL) {st0 : List Value} (hstack : st0 = As.reverse ++ .ref (E.2.1 k) :: rest) (hroom : (rest.map fun v => v.category).sum ≤ 8) (hdg : decode cc pc = .ok (.invokevirtual index, 3)) (hf : cells ≤ R.cells ∧ slots ≤ R.slots)
    (kk : ∀ (H1 : Heap) (locs1 : List Loc), f_h E τ H1 → va_S (f_A E) s.heap H1 locs1 → W p l e R s m args below meth c H1 locs1 cells slots Q (F0 m (pc + 3) ls (o.toList ++ rest))) : W p l e R s m args below meth c H locs cells slots Q (F0 m pc ls st0) := by
  have hok := F.2
  have hts := F.1.2.2.2.2
  refine f_call (va_runV (As := As) (rest := rest) F.1 hM ⟨callB_of n hts (f_good hcode) rfl hrc hrs (hts _ hini) (hts _ hlink) hd hR, hts _ hin, hts _ hsel⟩ ⟨fP_blind, va_recv hok.1 hP (ci := ci) (q0 := k) hc (by rw [f_wat (kd_lt hk (by omega)), f_ent_o hk hci]), fun U hU hW => ⟨rfl, hok.go hS hU hW, by rw [hU]; exact hP⟩⟩ rfl hn hsz hstack (lv_room hroom) hdg hf) hS kk
end FROWS
