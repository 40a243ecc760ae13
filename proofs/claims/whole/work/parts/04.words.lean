def fRi (p : Program) (l : Launch) (e : Env) (R : Room) (s : State) (m : MethodId) (args : Array Value) (below : List Frame) (meth : Method) (c : Code) (Q : State → Prop) (E : fEv) (cc : ByteArray) (τ : fS) (r : Int32) : Prop := ∀ (H : Heap) (locs : List Loc) (ls : Array Slot) (pc : Nat), va_S (f_A E) s.heap H locs → f_h E τ H → decode cc pc = .ok (.ireturn, 1) → W p l e R s m args below meth c H locs 0 0 Q (F0 m pc ls [.int r])
def fRz (p : Program) (l : Launch) (e : Env) (R : Room) (s : State) (m : MethodId) (args : Array Value) (below : List Frame) (meth : Method) (c : Code) (Q : State → Prop) (E : fEv) (cc : ByteArray) (τ : fS) (r : Int32) : Prop := ∀ (H : Heap) (locs : List Loc) (ls : Array Slot) (pc : Nat), va_S (f_A E) s.heap H locs → f_h E τ H → (r = 0 ∨ r = 1) → decode cc pc = .ok (.ireturn, 1) → W p l e R s m args below meth c H locs 0 0 Q (F0 m pc ls [.int r])
def fRl (p : Program) (l : Launch) (e : Env) (R : Room) (s : State) (m : MethodId) (args : Array Value) (below : List Frame) (meth : Method) (c : Code) (Q : State → Prop) (E : fEv) (cc : ByteArray) (τ : fS) (r : Int64) : Prop := ∀ (H : Heap) (locs : List Loc) (ls : Array Slot) (pc : Nat), va_S (f_A E) s.heap H locs → f_h E τ H → decode cc pc = .ok (.lreturn, 1) → W p l e R s m args below meth c H locs 0 0 Q (F0 m pc ls [.long r])
def fRv (p : Program) (l : Launch) (e : Env) (R : Room) (s : State) (m : MethodId) (args : Array Value) (below : List Frame) (meth : Method) (c : Code) (Q : State → Prop) (E : fEv) (cc : ByteArray) (τ : fS) : Prop := ∀ (H : Heap) (locs : List Loc) (ls : Array Slot) (pc : Nat), va_S (f_A E) s.heap H locs → f_h E τ H → decode cc pc = .ok (.return_, 1) → W p l e R s m args below meth c H locs 0 0 Q (F0 m pc ls [])
theorem f_openI {l : Launch} {E : fEv} {y : MethodName} {cc : ByteArray} {maxL : Nat} {rm : Room} {av : List Value} {σ τ : fS} {r : Int32} (hy : plainName y.cls = true) (hlen : (lg_sl av).length ≤ maxL)
    (body : ∀ (p : Program) (e : Env) (s : State) (m : MethodId) (below : List Frame) (meth : Method) (c : Code) (args : Array Value) (Q : State → Prop), fX p m c s args E y.cls cc maxL → fRi p l e rm s m args below meth c Q E cc τ r → f_h E σ s.heap → ∀ ls : Array Slot, lv_has ls maxL (lv_args 0 av) → W p l e rm s m args below meth c s.heap [] 0 0 Q (F0 m 0 ls [])) : fM l E y (.code y cc maxL (some .int)) rm av σ τ (some (.int r)) := by
  refine f_open hy hlen ?_
  intro p e s m below meth c F hr hlk hP ls hl
  exact body p e s m below meth c _ _ F (fun H locs ls pc hS hP hd => x_iret F hS hP hr hlk rfl hd) hP ls hl
theorem f_openZ {l : Launch} {E : fEv} {y : MethodName} {cc : ByteArray} {maxL : Nat} {rm : Room} {av : List Value} {σ τ : fS} {r : Int32} (hy : plainName y.cls = true) (hlen : (lg_sl av).length ≤ maxL)
    (body : ∀ (p : Program) (e : Env) (s : State) (m : MethodId) (below : List Frame) (meth : Method) (c : Code) (args : Array Value) (Q : State → Prop), fX p m c s args E y.cls cc maxL → fRz p l e rm s m args below meth c Q E cc τ r → f_h E σ s.heap → ∀ ls : Array Slot, lv_has ls maxL (lv_args 0 av) → W p l e rm s m args below meth c s.heap [] 0 0 Q (F0 m 0 ls [])) : fM l E y (.code y cc maxL (some .boolean)) rm av σ τ (some (.int r)) := by
  refine f_open hy hlen ?_
  intro p e s m below meth c F hr hlk hP ls hl
  exact body p e s m below meth c _ _ F (fun H locs ls pc hS hP hz hd => x_zret F hS hP hr hlk hz rfl hd) hP ls hl
theorem f_openL {l : Launch} {E : fEv} {y : MethodName} {cc : ByteArray} {maxL : Nat} {rm : Room} {av : List Value} {σ τ : fS} {r : Int64} (hy : plainName y.cls = true) (hlen : (lg_sl av).length ≤ maxL)
    (body : ∀ (p : Program) (e : Env) (s : State) (m : MethodId) (below : List Frame) (meth : Method) (c : Code) (args : Array Value) (Q : State → Prop), fX p m c s args E y.cls cc maxL → fRl p l e rm s m args below meth c Q E cc τ r → f_h E σ s.heap → ∀ ls : Array Slot, lv_has ls maxL (lv_args 0 av) → W p l e rm s m args below meth c s.heap [] 0 0 Q (F0 m 0 ls [])) : fM l E y (.code y cc maxL (some .long)) rm av σ τ (some (.long r)) := by
  refine f_open hy hlen ?_
  intro p e s m below meth c F hr hlk hP ls hl
  exact body p e s m below meth c _ _ F (fun H locs ls pc hS hP hd => x_lret F hS hP hr hlk rfl hd) hP ls hl
theorem f_openV {l : Launch} {E : fEv} {y : MethodName} {cc : ByteArray} {maxL : Nat} {rm : Room} {av : List Value} {σ τ : fS} (hy : plainName y.cls = true) (hlen : (lg_sl av).length ≤ maxL)
    (body : ∀ (p : Program) (e : Env) (s : State) (m : MethodId) (below : List Frame) (meth : Method) (c : Code) (args : Array Value) (Q : State → Prop), fX p m c s args E y.cls cc maxL → fRv p l e rm s m args below meth c Q E cc τ → f_h E σ s.heap → ∀ ls : Array Slot, lv_has ls maxL (lv_args 0 av) → W p l e rm s m args below meth c s.heap [] 0 0 Q (F0 m 0 ls [])) : fM l E y (.code y cc maxL none) rm av σ τ none := by
  refine f_open hy hlen ?_
  intro p e s m below meth c F hr hlk hP ls hl
  exact body p e s m below meth c _ _ F (fun H locs ls pc hS hP hd => x_vret F hS hP hr hlk rfl hd) hP ls hl
theorem f_bs_r {α ρ : Type} {f : α → fS → Option ρ} {r : ρ} {a : α} {σ : fS} (h : Bs (some (Sum.inr (a, σ))) f = some r) : f a σ = some r := h
theorem kt_kA : ∀ k, k < 85 → kd k = 0 → kd (k + 1) = 10 ∧ ln (k + 1) = 4 := by decide +kernel
theorem kt_k {k : Nat} (h : kd k = 0) : kd (k + 1) = 10 := (kt_kA k (kd_lt h (by decide)) h).1
theorem kt_l {k : Nat} (h : kd k = 0) : ln (k + 1) = 4 := (kt_kA k (kd_lt h (by decide)) h).2
theorem kd_sA : ∀ n, n < 8 → kd (er 3 n) = 0 := by decide +kernel
theorem kd_bA : ∀ n, n < 12 → kd (er 8 n) = 0 := by decide +kernel
theorem kd_s {i : Int32} (h : vp_in i 8) : kd (er 3 i.toNatClampNeg) = 0 := kd_sA _ (f_cl_lt h)
theorem kd_b {i : Int32} (h : vp_in i 12) : kd (er 8 i.toNatClampNeg) = 0 := kd_bA _ (f_cl_lt h)
def sC (σ : fS) : fS := (fun a => if a = 20 then va_cpy (σ.1 19) (σ.1 20) 0 0 5 else σ.1 a, σ.2)
theorem wf_X3_11 : Cond.fieldLink RX3 11 "FormPlaces$Page" "codes" "[I" ∈ fTb := fTb_in (List.mem_of_getElem? (i := 91) (by decide +kernel)) rfl
theorem wf_X3_15 : Cond.fieldLink RX3 15 "FormPlaces$Page" "length" "I" ∈ fTb := fTb_in (List.mem_of_getElem? (i := 92) (by decide +kernel)) rfl
theorem wf_X7_61 : Cond.fieldLink RX7 61 "FormPlaces$Page" "length" "I" ∈ fTb := fTb_in (List.mem_of_getElem? (i := 93) (by decide +kernel)) rfl
theorem wf_X0_9 : Cond.fieldLink RX0 9 "FormPlaces$Form" "terms" "[I" ∈ fTb := fTb_in (List.mem_of_getElem? (i := 107) (by decide +kernel)) rfl
theorem wf_X0_15 : Cond.fieldLink RX0 15 "FormPlaces$Form" "rank" "I" ∈ fTb := fTb_in (List.mem_of_getElem? (i := 108) (by decide +kernel)) rfl
theorem wf_X6_25 : Cond.fieldLink RX6 25 "FormPlaces$Form" "rank" "I" ∈ fTb := fTb_in (List.mem_of_getElem? (i := 109) (by decide +kernel)) rfl
theorem wf_X7_80 : Cond.fieldLink RX7 80 "FormPlaces$Form" "rank" "I" ∈ fTb := fTb_in (List.mem_of_getElem? (i := 110) (by decide +kernel)) rfl
theorem wf_X3_36 : Cond.fieldLink RX3 36 "FormPlaces$Form" "rank" "I" ∈ fTb := fTb_in (List.mem_of_getElem? (i := 111) (by decide +kernel)) rfl
theorem wf_X0_19 : Cond.fieldLink RX0 19 "FormPlaces$Form" "hasse" "I" ∈ fTb := fTb_in (List.mem_of_getElem? (i := 112) (by decide +kernel)) rfl
theorem wf_X7_125 : Cond.fieldLink RX7 125 "FormPlaces$Form" "hasse" "I" ∈ fTb := fTb_in (List.mem_of_getElem? (i := 113) (by decide +kernel)) rfl
theorem wf_X0_22 : Cond.fieldLink RX0 22 "FormPlaces$Form" "bars" "I" ∈ fTb := fTb_in (List.mem_of_getElem? (i := 114) (by decide +kernel)) rfl
theorem wf_X7_128 : Cond.fieldLink RX7 128 "FormPlaces$Form" "bars" "I" ∈ fTb := fTb_in (List.mem_of_getElem? (i := 115) (by decide +kernel)) rfl
theorem wf_X5_11 : Cond.fieldLink RX5 11 "FormPlaces$Steps" "shelfOf" "[I" ∈ fTb := fTb_in (List.mem_of_getElem? (i := 133) (by decide +kernel)) rfl
theorem wf_X5_17 : Cond.fieldLink RX5 17 "FormPlaces$Steps" "before" "[LFormPlaces$Form;" ∈ fTb := fTb_in (List.mem_of_getElem? (i := 134) (by decide +kernel)) rfl
theorem wf_X5_22 : Cond.fieldLink RX5 22 "FormPlaces$Steps" "next" "I" ∈ fTb := fTb_in (List.mem_of_getElem? (i := 135) (by decide +kernel)) rfl
theorem wf_X5_36 : Cond.fieldLink RX5 36 "FormPlaces$Steps" "kept" "I" ∈ fTb := fTb_in (List.mem_of_getElem? (i := 136) (by decide +kernel)) rfl
theorem wf_X7_187 : Cond.fieldLink RX7 187 "FormPlaces$Steps" "kept" "I" ∈ fTb := fTb_in (List.mem_of_getElem? (i := 137) (by decide +kernel)) rfl
theorem wf_X5_42 : Cond.fieldLink RX5 42 "FormPlaces$Steps" "done" "I" ∈ fTb := fTb_in (List.mem_of_getElem? (i := 138) (by decide +kernel)) rfl
theorem wf_X7_239 : Cond.fieldLink RX7 239 "FormPlaces$Steps" "done" "I" ∈ fTb := fTb_in (List.mem_of_getElem? (i := 139) (by decide +kernel)) rfl
theorem wf_X5_45 : Cond.fieldLink RX5 45 "FormPlaces$Steps" "undone" "I" ∈ fTb := fTb_in (List.mem_of_getElem? (i := 140) (by decide +kernel)) rfl
theorem wf_X7_242 : Cond.fieldLink RX7 242 "FormPlaces$Steps" "undone" "I" ∈ fTb := fTb_in (List.mem_of_getElem? (i := 141) (by decide +kernel)) rfl
theorem wf_X4_11 : Cond.fieldLink RX4 11 "FormPlaces$Pairs" "first" "[I" ∈ fTb := fTb_in (List.mem_of_getElem? (i := 161) (by decide +kernel)) rfl
theorem wf_X7_202 : Cond.fieldLink RX7 202 "FormPlaces$Pairs" "first" "[I" ∈ fTb := fTb_in (List.mem_of_getElem? (i := 162) (by decide +kernel)) rfl
theorem wf_X4_15 : Cond.fieldLink RX4 15 "FormPlaces$Pairs" "middle" "[I" ∈ fTb := fTb_in (List.mem_of_getElem? (i := 163) (by decide +kernel)) rfl
theorem wf_X7_206 : Cond.fieldLink RX7 206 "FormPlaces$Pairs" "middle" "[I" ∈ fTb := fTb_in (List.mem_of_getElem? (i := 164) (by decide +kernel)) rfl
theorem wf_X4_18 : Cond.fieldLink RX4 18 "FormPlaces$Pairs" "last" "[I" ∈ fTb := fTb_in (List.mem_of_getElem? (i := 165) (by decide +kernel)) rfl
theorem wf_X7_209 : Cond.fieldLink RX7 209 "FormPlaces$Pairs" "last" "[I" ∈ fTb := fTb_in (List.mem_of_getElem? (i := 166) (by decide +kernel)) rfl
theorem wf_X4_21 : Cond.fieldLink RX4 21 "FormPlaces$Pairs" "genus" "[I" ∈ fTb := fTb_in (List.mem_of_getElem? (i := 167) (by decide +kernel)) rfl
theorem wf_X7_212 : Cond.fieldLink RX7 212 "FormPlaces$Pairs" "genus" "[I" ∈ fTb := fTb_in (List.mem_of_getElem? (i := 168) (by decide +kernel)) rfl
theorem wf_X4_24 : Cond.fieldLink RX4 24 "FormPlaces$Pairs" "rests" "[J" ∈ fTb := fTb_in (List.mem_of_getElem? (i := 169) (by decide +kernel)) rfl
theorem wf_X4_28 : Cond.fieldLink RX4 28 "FormPlaces$Pairs" "apart" "[Z" ∈ fTb := fTb_in (List.mem_of_getElem? (i := 170) (by decide +kernel)) rfl
theorem wf_X4_36 : Cond.fieldLink RX4 36 "FormPlaces$Pairs" "n" "I" ∈ fTb := fTb_in (List.mem_of_getElem? (i := 171) (by decide +kernel)) rfl
theorem wf_X7_218 : Cond.fieldLink RX7 218 "FormPlaces$Pairs" "n" "I" ∈ fTb := fTb_in (List.mem_of_getElem? (i := 172) (by decide +kernel)) rfl
theorem wf_X4_32 : Cond.fieldLink RX4 32 "FormPlaces$Pairs" "size" "I" ∈ fTb := fTb_in (List.mem_of_getElem? (i := 173) (by decide +kernel)) rfl
theorem wf_X7_196 : Cond.fieldLink RX7 196 "FormPlaces$Pairs" "size" "I" ∈ fTb := fTb_in (List.mem_of_getElem? (i := 174) (by decide +kernel)) rfl
theorem wf_X6_11 : Cond.fieldLink RX6 11 "FormPlaces$Sum" "cores" "[I" ∈ fTb := fTb_in (List.mem_of_getElem? (i := 200) (by decide +kernel)) rfl
theorem wf_X1_49 : Cond.fieldLink RX1 49 "FormPlaces$Sum" "cores" "[I" ∈ fTb := fTb_in (List.mem_of_getElem? (i := 201) (by decide +kernel)) rfl
theorem wf_X6_15 : Cond.fieldLink RX6 15 "FormPlaces$Sum" "size" "I" ∈ fTb := fTb_in (List.mem_of_getElem? (i := 202) (by decide +kernel)) rfl
theorem wf_X1_35 : Cond.fieldLink RX1 35 "FormPlaces$Sum" "size" "I" ∈ fTb := fTb_in (List.mem_of_getElem? (i := 203) (by decide +kernel)) rfl
theorem wf_X1_20 : Cond.fieldLink RX1 20 "FormPlaces$LeastRow" "sum" "LFormPlaces$Sum;" ∈ fTb := fTb_in (List.mem_of_getElem? (i := 215) (by decide +kernel)) rfl
theorem wf_X1_11 : Cond.fieldLink RX1 11 "FormPlaces$LeastRow" "numbers" "[I" ∈ fTb := fTb_in (List.mem_of_getElem? (i := 216) (by decide +kernel)) rfl
theorem wf_X1_17 : Cond.fieldLink RX1 17 "FormPlaces$LeastRow" "best" "[I" ∈ fTb := fTb_in (List.mem_of_getElem? (i := 217) (by decide +kernel)) rfl
theorem wf_X1_24 : Cond.fieldLink RX1 24 "FormPlaces$LeastRow" "bound" "I" ∈ fTb := fTb_in (List.mem_of_getElem? (i := 218) (by decide +kernel)) rfl
theorem wf_X1_28 : Cond.fieldLink RX1 28 "FormPlaces$LeastRow" "lastNotZero" "Z" ∈ fTb := fTb_in (List.mem_of_getElem? (i := 219) (by decide +kernel)) rfl
theorem wf_X1_32 : Cond.fieldLink RX1 32 "FormPlaces$LeastRow" "found" "Z" ∈ fTb := fTb_in (List.mem_of_getElem? (i := 220) (by decide +kernel)) rfl
theorem wf_X7_10 : Cond.fieldLink RX7 10 "FormPlaces" "page" "LFormPlaces$Page;" ∈ fTb := fTb_in (List.mem_of_getElem? (i := 234) (by decide +kernel)) rfl
theorem wf_X7_18 : Cond.fieldLink RX7 18 "FormPlaces" "shelves" "[LFormPlaces$Form;" ∈ fTb := fTb_in (List.mem_of_getElem? (i := 235) (by decide +kernel)) rfl
theorem wf_X7_23 : Cond.fieldLink RX7 23 "FormPlaces" "draft" "LFormPlaces$Form;" ∈ fTb := fTb_in (List.mem_of_getElem? (i := 236) (by decide +kernel)) rfl
theorem wf_X7_30 : Cond.fieldLink RX7 30 "FormPlaces" "steps" "LFormPlaces$Steps;" ∈ fTb := fTb_in (List.mem_of_getElem? (i := 237) (by decide +kernel)) rfl
theorem wf_X7_37 : Cond.fieldLink RX7 37 "FormPlaces" "opened" "LFormPlaces$Pairs;" ∈ fTb := fTb_in (List.mem_of_getElem? (i := 238) (by decide +kernel)) rfl
theorem wf_X7_44 : Cond.fieldLink RX7 44 "FormPlaces" "sum" "LFormPlaces$Sum;" ∈ fTb := fTb_in (List.mem_of_getElem? (i := 239) (by decide +kernel)) rfl
theorem wf_X7_53 : Cond.fieldLink RX7 53 "FormPlaces" "least" "LFormPlaces$LeastRow;" ∈ fTb := fTb_in (List.mem_of_getElem? (i := 240) (by decide +kernel)) rfl
theorem wf_X7_266 : Cond.fieldLink RX7 266 "FormPlaces" "BASES" "[I" ∈ fTb := fTb_in (List.mem_of_getElem? (i := 412) (by decide +kernel)) rfl
theorem wf_X8_7 : Cond.fieldLink RX8 7 "FormPlacesModel" "rank" "[I" ∈ fTb := fTb_in (List.mem_of_getElem? (i := 677) (by decide +kernel)) rfl
theorem wf_X8_13 : Cond.fieldLink RX8 13 "FormPlacesModel" "terms" "[I" ∈ fTb := fTb_in (List.mem_of_getElem? (i := 678) (by decide +kernel)) rfl
theorem wf_X8_16 : Cond.fieldLink RX8 16 "FormPlacesModel" "isLaid" "[Z" ∈ fTb := fTb_in (List.mem_of_getElem? (i := 679) (by decide +kernel)) rfl
theorem wf_X8_20 : Cond.fieldLink RX8 20 "FormPlacesModel" "hasse" "[I" ∈ fTb := fTb_in (List.mem_of_getElem? (i := 680) (by decide +kernel)) rfl
theorem wf_X8_23 : Cond.fieldLink RX8 23 "FormPlacesModel" "bars" "[I" ∈ fTb := fTb_in (List.mem_of_getElem? (i := 681) (by decide +kernel)) rfl
theorem wf_X8_126 : Cond.fieldLink RX8 126 "FormPlacesModel" "pageLength" "I" ∈ fTb := fTb_in (List.mem_of_getElem? (i := 682) (by decide +kernel)) rfl
theorem wf_X8_26 : Cond.fieldLink RX8 26 "FormPlacesModel" "page" "[B" ∈ fTb := fTb_in (List.mem_of_getElem? (i := 683) (by decide +kernel)) rfl
theorem wf_X8_158 : Cond.fieldLink RX8 158 "FormPlacesModel" "kept" "I" ∈ fTb := fTb_in (List.mem_of_getElem? (i := 684) (by decide +kernel)) rfl
theorem wf_X8_30 : Cond.fieldLink RX8 30 "FormPlacesModel" "keptShelf" "[I" ∈ fTb := fTb_in (List.mem_of_getElem? (i := 685) (by decide +kernel)) rfl
theorem wf_X8_33 : Cond.fieldLink RX8 33 "FormPlacesModel" "keptRank" "[I" ∈ fTb := fTb_in (List.mem_of_getElem? (i := 686) (by decide +kernel)) rfl
theorem wf_X8_36 : Cond.fieldLink RX8 36 "FormPlacesModel" "keptTerms" "[I" ∈ fTb := fTb_in (List.mem_of_getElem? (i := 687) (by decide +kernel)) rfl
theorem wf_X8_164 : Cond.fieldLink RX8 164 "FormPlacesModel" "done" "I" ∈ fTb := fTb_in (List.mem_of_getElem? (i := 688) (by decide +kernel)) rfl
theorem wf_X8_257 : Cond.fieldLink RX8 257 "FormPlacesModel" "undone" "I" ∈ fTb := fTb_in (List.mem_of_getElem? (i := 689) (by decide +kernel)) rfl
theorem wf_X8_260 : Cond.fieldLink RX8 260 "FormPlacesModel" "open" "I" ∈ fTb := fTb_in (List.mem_of_getElem? (i := 690) (by decide +kernel)) rfl
theorem wf_X8_266 : Cond.fieldLink RX8 266 "FormPlacesModel" "pairs" "I" ∈ fTb := fTb_in (List.mem_of_getElem? (i := 691) (by decide +kernel)) rfl
theorem wf_X8_39 : Cond.fieldLink RX8 39 "FormPlacesModel" "pairA" "[I" ∈ fTb := fTb_in (List.mem_of_getElem? (i := 692) (by decide +kernel)) rfl
theorem wf_X8_42 : Cond.fieldLink RX8 42 "FormPlacesModel" "pairB" "[I" ∈ fTb := fTb_in (List.mem_of_getElem? (i := 693) (by decide +kernel)) rfl
theorem wf_X8_45 : Cond.fieldLink RX8 45 "FormPlacesModel" "pairC" "[I" ∈ fTb := fTb_in (List.mem_of_getElem? (i := 694) (by decide +kernel)) rfl
theorem wf_X8_48 : Cond.fieldLink RX8 48 "FormPlacesModel" "genus" "[I" ∈ fTb := fTb_in (List.mem_of_getElem? (i := 695) (by decide +kernel)) rfl
theorem wf_X8_51 : Cond.fieldLink RX8 51 "FormPlacesModel" "many" "[I" ∈ fTb := fTb_in (List.mem_of_getElem? (i := 696) (by decide +kernel)) rfl
theorem wf_X8_54 : Cond.fieldLink RX8 54 "FormPlacesModel" "isMet" "[Z" ∈ fTb := fTb_in (List.mem_of_getElem? (i := 697) (by decide +kernel)) rfl
theorem wf_X8_106 : Cond.fieldLink RX8 106 "FormPlacesModel" "looked" "I" ∈ fTb := fTb_in (List.mem_of_getElem? (i := 698) (by decide +kernel)) rfl
theorem wf_X8_57 : Cond.fieldLink RX8 57 "FormPlacesModel" "look" "[I" ∈ fTb := fTb_in (List.mem_of_getElem? (i := 699) (by decide +kernel)) rfl
theorem wf_X8_60 : Cond.fieldLink RX8 60 "FormPlacesModel" "bare" "[Z" ∈ fTb := fTb_in (List.mem_of_getElem? (i := 700) (by decide +kernel)) rfl
theorem wf_X8_63 : Cond.fieldLink RX8 63 "FormPlacesModel" "full" "[Z" ∈ fTb := fTb_in (List.mem_of_getElem? (i := 701) (by decide +kernel)) rfl
theorem wf_X8_66 : Cond.fieldLink RX8 66 "FormPlacesModel" "nextBare" "[Z" ∈ fTb := fTb_in (List.mem_of_getElem? (i := 702) (by decide +kernel)) rfl
theorem wf_X8_69 : Cond.fieldLink RX8 69 "FormPlacesModel" "nextFull" "[Z" ∈ fTb := fTb_in (List.mem_of_getElem? (i := 703) (by decide +kernel)) rfl
theorem wf_X8_141 : Cond.fieldLink RX8 141 "FormPlacesModel" "isWhole" "Z" ∈ fTb := fTb_in (List.mem_of_getElem? (i := 704) (by decide +kernel)) rfl
theorem wf_X8_135 : Cond.fieldLink RX8 135 "FormPlacesModel" "newRank" "I" ∈ fTb := fTb_in (List.mem_of_getElem? (i := 705) (by decide +kernel)) rfl
theorem wf_X8_72 : Cond.fieldLink RX8 72 "FormPlacesModel" "newTerms" "[I" ∈ fTb := fTb_in (List.mem_of_getElem? (i := 706) (by decide +kernel)) rfl
theorem wf_X8_75 : Cond.fieldLink RX8 75 "FormPlacesModel" "row" "[I" ∈ fTb := fTb_in (List.mem_of_getElem? (i := 707) (by decide +kernel)) rfl
theorem wf_X8_78 : Cond.fieldLink RX8 78 "FormPlacesModel" "cores" "[I" ∈ fTb := fTb_in (List.mem_of_getElem? (i := 708) (by decide +kernel)) rfl
theorem wf_X8_296 : Cond.fieldLink RX8 296 "FormPlacesModel" "h" "J" ∈ fTb := fTb_in (List.mem_of_getElem? (i := 709) (by decide +kernel)) rfl
theorem wm_L_9 : Cond.methodLink RL 9 yX7_init ∈ fTb := fTb_in (List.mem_of_getElem? (i := 79) (by decide +kernel)) rfl
theorem wm_X7_29 : Cond.methodLink RX7 29 yX5_init ∈ fTb := fTb_in (List.mem_of_getElem? (i := 127) (by decide +kernel)) rfl
theorem wm_X7_50 : Cond.methodLink RX7 50 yX1_init ∈ fTb := fTb_in (List.mem_of_getElem? (i := 211) (by decide +kernel)) rfl
theorem wm_L_13 : Cond.methodLink RL 13 yX7_letter ∈ fTb := fTb_in (List.mem_of_getElem? (i := 256) (by decide +kernel)) rfl
theorem wm_X7_57 : Cond.methodLink RX7 57 yX3_write ∈ fTb := fTb_in (List.mem_of_getElem? (i := 260) (by decide +kernel)) rfl
theorem wm_L_18 : Cond.methodLink RL 18 yX7_blank ∈ fTb := fTb_in (List.mem_of_getElem? (i := 264) (by decide +kernel)) rfl
theorem wm_L_23 : Cond.methodLink RL 23 yX7_fault ∈ fTb := fTb_in (List.mem_of_getElem? (i := 268) (by decide +kernel)) rfl
theorem wm_X7_65 : Cond.methodLink RX7 65 yX3_readInto ∈ fTb := fTb_in (List.mem_of_getElem? (i := 272) (by decide +kernel)) rfl
theorem wm_X3_27 : Cond.methodLink RX3 27 yX0_empty ∈ fTb := fTb_in (List.mem_of_getElem? (i := 276) (by decide +kernel)) rfl
theorem wm_X3_19 : Cond.methodLink RX3 19 yX3_codeAt ∈ fTb := fTb_in (List.mem_of_getElem? (i := 280) (by decide +kernel)) rfl
theorem wm_X3_23 : Cond.methodLink RX3 23 yX3_isDigit ∈ fTb := fTb_in (List.mem_of_getElem? (i := 284) (by decide +kernel)) rfl
theorem wm_X3_32 : Cond.methodLink RX3 32 yX3_goesOn ∈ fTb := fTb_in (List.mem_of_getElem? (i := 287) (by decide +kernel)) rfl
theorem wm_X3_48 : Cond.methodLink RX3 48 yX2_isNumber ∈ fTb := fTb_in (List.mem_of_getElem? (i := 290) (by decide +kernel)) rfl
theorem wm_X2_21 : Cond.methodLink RX2 21 yX2_roughPart ∈ fTb := fTb_in (List.mem_of_getElem? (i := 293) (by decide +kernel)) rfl
theorem wm_X2_15 : Cond.methodLink RX2 15 yJ9_abs_0f7a4 ∈ fTb := fTb_in (List.mem_of_getElem? (i := 296) (by decide +kernel)) rfl
theorem wm_X3_39 : Cond.methodLink RX3 39 yX2_kindOf ∈ fTb := fTb_in (List.mem_of_getElem? (i := 301) (by decide +kernel)) rfl
theorem wm_X3_44 : Cond.methodLink RX3 44 yX0_add ∈ fTb := fTb_in (List.mem_of_getElem? (i := 304) (by decide +kernel)) rfl
theorem wm_L_27 : Cond.methodLink RL 27 yX7_put ∈ fTb := fTb_in (List.mem_of_getElem? (i := 308) (by decide +kernel)) rfl
theorem wm_X7_69 : Cond.methodLink RX7 69 yX7_isShelf ∈ fTb := fTb_in (List.mem_of_getElem? (i := 312) (by decide +kernel)) rfl
theorem wm_X7_72 : Cond.methodLink RX7 72 yX3_endsInDigit ∈ fTb := fTb_in (List.mem_of_getElem? (i := 315) (by decide +kernel)) rfl
theorem wm_X7_76 : Cond.methodLink RX7 76 yX7_shelveDraft ∈ fTb := fTb_in (List.mem_of_getElem? (i := 319) (by decide +kernel)) rfl
theorem wm_X7_271 : Cond.methodLink RX7 271 yX0_settle ∈ fTb := fTb_in (List.mem_of_getElem? (i := 323) (by decide +kernel)) rfl
theorem wm_X0_25 : Cond.methodLink RX0 25 yX0_kindAt ∈ fTb := fTb_in (List.mem_of_getElem? (i := 327) (by decide +kernel)) rfl
theorem wm_X0_33 : Cond.methodLink RX0 33 yX6_symbolBits ∈ fTb := fTb_in (List.mem_of_getElem? (i := 331) (by decide +kernel)) rfl
theorem wm_X6_37 : Cond.methodLink RX6 37 yX6_start ∈ fTb := fTb_in (List.mem_of_getElem? (i := 335) (by decide +kernel)) rfl
theorem wm_X6_33 : Cond.methodLink RX6 33 yX6_add ∈ fTb := fTb_in (List.mem_of_getElem? (i := 339) (by decide +kernel)) rfl
theorem wm_X6_19 : Cond.methodLink RX6 19 yX2_coreOf ∈ fTb := fTb_in (List.mem_of_getElem? (i := 343) (by decide +kernel)) rfl
theorem wm_X6_40 : Cond.methodLink RX6 40 yX6_bars ∈ fTb := fTb_in (List.mem_of_getElem? (i := 346) (by decide +kernel)) rfl
theorem wm_X6_44 : Cond.methodLink RX6 44 yX6_vanishesAtReal ∈ fTb := fTb_in (List.mem_of_getElem? (i := 350) (by decide +kernel)) rfl
theorem wm_X6_48 : Cond.methodLink RX6 48 yX6_vanishesAtTwo ∈ fTb := fTb_in (List.mem_of_getElem? (i := 354) (by decide +kernel)) rfl
theorem wm_X6_58 : Cond.methodLink RX6 58 yX6_turned ∈ fTb := fTb_in (List.mem_of_getElem? (i := 358) (by decide +kernel)) rfl
theorem wm_X6_54 : Cond.methodLink RX6 54 yX6_partVanishes ∈ fTb := fTb_in (List.mem_of_getElem? (i := 363) (by decide +kernel)) rfl
theorem wm_X0_39 : Cond.methodLink RX0 39 yX6_start ∈ fTb := fTb_in (List.mem_of_getElem? (i := 369) (by decide +kernel)) rfl
theorem wm_X0_42 : Cond.methodLink RX0 42 yX6_addAll ∈ fTb := fTb_in (List.mem_of_getElem? (i := 370) (by decide +kernel)) rfl
theorem wm_X6_30 : Cond.methodLink RX6 30 yX0_kindAt ∈ fTb := fTb_in (List.mem_of_getElem? (i := 374) (by decide +kernel)) rfl
theorem wm_X0_46 : Cond.methodLink RX0 46 yX6_bars ∈ fTb := fTb_in (List.mem_of_getElem? (i := 375) (by decide +kernel)) rfl
theorem wm_X7_274 : Cond.methodLink RX7 274 yX5_keep ∈ fTb := fTb_in (List.mem_of_getElem? (i := 376) (by decide +kernel)) rfl
theorem wm_X5_26 : Cond.methodLink RX5 26 yJ9_floorMod_7cf53 ∈ fTb := fTb_in (List.mem_of_getElem? (i := 380) (by decide +kernel)) rfl
theorem wm_X5_32 : Cond.methodLink RX5 32 yX0_copy ∈ fTb := fTb_in (List.mem_of_getElem? (i := 383) (by decide +kernel)) rfl
theorem wm_X5_39 : Cond.methodLink RX5 39 yJ9_min_7cf53 ∈ fTb := fTb_in (List.mem_of_getElem? (i := 387) (by decide +kernel)) rfl
theorem wm_X7_171 : Cond.methodLink RX7 171 yX0_copy ∈ fTb := fTb_in (List.mem_of_getElem? (i := 390) (by decide +kernel)) rfl
theorem wm_L_31 : Cond.methodLink RL 31 yX7_classOf ∈ fTb := fTb_in (List.mem_of_getElem? (i := 391) (by decide +kernel)) rfl
theorem wm_X7_83 : Cond.methodLink RX7 83 yX2_isNumber ∈ fTb := fTb_in (List.mem_of_getElem? (i := 395) (by decide +kernel)) rfl
theorem wm_X7_88 : Cond.methodLink RX7 88 yX2_kindOf ∈ fTb := fTb_in (List.mem_of_getElem? (i := 396) (by decide +kernel)) rfl
theorem wm_L_35 : Cond.methodLink RL 35 yX7_core ∈ fTb := fTb_in (List.mem_of_getElem? (i := 397) (by decide +kernel)) rfl
theorem wm_X7_92 : Cond.methodLink RX7 92 yX7_isKind ∈ fTb := fTb_in (List.mem_of_getElem? (i := 401) (by decide +kernel)) rfl
theorem wm_X7_95 : Cond.methodLink RX7 95 yX2_coreOf ∈ fTb := fTb_in (List.mem_of_getElem? (i := 404) (by decide +kernel)) rfl
theorem wm_L_39 : Cond.methodLink RL 39 yX7_symbol ∈ fTb := fTb_in (List.mem_of_getElem? (i := 405) (by decide +kernel)) rfl
theorem wm_X7_98 : Cond.methodLink RX7 98 yX7_isPlace ∈ fTb := fTb_in (List.mem_of_getElem? (i := 409) (by decide +kernel)) rfl
theorem wm_X7_101 : Cond.methodLink RX7 101 yX6_symbolBits ∈ fTb := fTb_in (List.mem_of_getElem? (i := 413) (by decide +kernel)) rfl
theorem wm_L_44 : Cond.methodLink RL 44 yX7_square ∈ fTb := fTb_in (List.mem_of_getElem? (i := 414) (by decide +kernel)) rfl
theorem wm_X7_105 : Cond.methodLink RX7 105 yX6_unsquareBits ∈ fTb := fTb_in (List.mem_of_getElem? (i := 418) (by decide +kernel)) rfl
theorem wm_L_49 : Cond.methodLink RL 49 yX7_at ∈ fTb := fTb_in (List.mem_of_getElem? (i := 422) (by decide +kernel)) rfl
theorem wm_X7_108 : Cond.methodLink RX7 108 yX7_hasTerm ∈ fTb := fTb_in (List.mem_of_getElem? (i := 426) (by decide +kernel)) rfl
theorem wm_X7_112 : Cond.methodLink RX7 112 yX0_kindAt ∈ fTb := fTb_in (List.mem_of_getElem? (i := 430) (by decide +kernel)) rfl
theorem wm_L_53 : Cond.methodLink RL 53 yX7_about ∈ fTb := fTb_in (List.mem_of_getElem? (i := 431) (by decide +kernel)) rfl
theorem wm_X7_115 : Cond.methodLink RX7 115 yX7_hasForm ∈ fTb := fTb_in (List.mem_of_getElem? (i := 435) (by decide +kernel)) rfl
theorem wm_X7_118 : Cond.methodLink RX7 118 yX0_countAbove ∈ fTb := fTb_in (List.mem_of_getElem? (i := 439) (by decide +kernel)) rfl
theorem wm_X7_122 : Cond.methodLink RX7 122 yX0_det ∈ fTb := fTb_in (List.mem_of_getElem? (i := 443) (by decide +kernel)) rfl
theorem wm_X7_131 : Cond.methodLink RX7 131 yX0_planes ∈ fTb := fTb_in (List.mem_of_getElem? (i := 447) (by decide +kernel)) rfl
theorem wm_X0_49 : Cond.methodLink RX0 49 yX0_det ∈ fTb := fTb_in (List.mem_of_getElem? (i := 451) (by decide +kernel)) rfl
theorem wm_X7_134 : Cond.methodLink RX7 134 yX0_restDet ∈ fTb := fTb_in (List.mem_of_getElem? (i := 452) (by decide +kernel)) rfl
theorem wm_X0_55 : Cond.methodLink RX0 55 yX0_planes ∈ fTb := fTb_in (List.mem_of_getElem? (i := 456) (by decide +kernel)) rfl
theorem wm_X7_137 : Cond.methodLink RX7 137 yX0_restHasse ∈ fTb := fTb_in (List.mem_of_getElem? (i := 457) (by decide +kernel)) rfl
theorem wm_X0_58 : Cond.methodLink RX0 58 yX0_restDet ∈ fTb := fTb_in (List.mem_of_getElem? (i := 461) (by decide +kernel)) rfl
theorem wm_X7_141 : Cond.methodLink RX7 141 yX7_leastLike ∈ fTb := fTb_in (List.mem_of_getElem? (i := 462) (by decide +kernel)) rfl
theorem wm_X7_279 : Cond.methodLink RX7 279 yX0_isLike ∈ fTb := fTb_in (List.mem_of_getElem? (i := 466) (by decide +kernel)) rfl
theorem wm_X0_52 : Cond.methodLink RX0 52 yX0_countAbove ∈ fTb := fTb_in (List.mem_of_getElem? (i := 470) (by decide +kernel)) rfl
theorem wm_L_57 : Cond.methodLink RL 57 yX7_like ∈ fTb := fTb_in (List.mem_of_getElem? (i := 471) (by decide +kernel)) rfl
theorem wm_X7_144 : Cond.methodLink RX7 144 yX7_unlikeBits ∈ fTb := fTb_in (List.mem_of_getElem? (i := 475) (by decide +kernel)) rfl
theorem wm_L_61 : Cond.methodLink RL 61 yX7_meets ∈ fTb := fTb_in (List.mem_of_getElem? (i := 479) (by decide +kernel)) rfl
theorem wm_X7_148 : Cond.methodLink RX7 148 yX7_startAgainst ∈ fTb := fTb_in (List.mem_of_getElem? (i := 483) (by decide +kernel)) rfl
theorem wm_X7_154 : Cond.methodLink RX7 154 yX6_start ∈ fTb := fTb_in (List.mem_of_getElem? (i := 487) (by decide +kernel)) rfl
theorem wm_X7_157 : Cond.methodLink RX7 157 yX6_addAll ∈ fTb := fTb_in (List.mem_of_getElem? (i := 488) (by decide +kernel)) rfl
theorem wm_X7_278 : Cond.methodLink RX7 278 yX6_add ∈ fTb := fTb_in (List.mem_of_getElem? (i := 489) (by decide +kernel)) rfl
theorem wm_X7_152 : Cond.methodLink RX7 152 yX6_bars ∈ fTb := fTb_in (List.mem_of_getElem? (i := 490) (by decide +kernel)) rfl
theorem wm_L_65 : Cond.methodLink RL 65 yX7_row ∈ fTb := fTb_in (List.mem_of_getElem? (i := 491) (by decide +kernel)) rfl
theorem wm_X7_161 : Cond.methodLink RX7 161 yX1_find ∈ fTb := fTb_in (List.mem_of_getElem? (i := 495) (by decide +kernel)) rfl
theorem wm_X1_38 : Cond.methodLink RX1 38 yX6_bars ∈ fTb := fTb_in (List.mem_of_getElem? (i := 499) (by decide +kernel)) rfl
theorem wm_X1_42 : Cond.methodLink RX1 42 yX1_seek ∈ fTb := fTb_in (List.mem_of_getElem? (i := 500) (by decide +kernel)) rfl
theorem wm_X1_46 : Cond.methodLink RX1 46 yX1_finish ∈ fTb := fTb_in (List.mem_of_getElem? (i := 504) (by decide +kernel)) rfl
theorem wm_X1_58 : Cond.methodLink RX1 58 yX2_rootOf ∈ fTb := fTb_in (List.mem_of_getElem? (i := 508) (by decide +kernel)) rfl
theorem wm_X1_52 : Cond.methodLink RX1 52 yJ9_max_7cf53 ∈ fTb := fTb_in (List.mem_of_getElem? (i := 511) (by decide +kernel)) rfl
theorem wm_X1_64 : Cond.methodLink RX1 64 arraycopyName ∈ fTb := fTb_in (List.mem_of_getElem? (i := 514) (by decide +kernel)) rfl
theorem wm_X7_165 : Cond.methodLink RX7 165 yX1_numberAt ∈ fTb := fTb_in (List.mem_of_getElem? (i := 517) (by decide +kernel)) rfl
theorem wm_L_69 : Cond.methodLink RL 69 yX7_way ∈ fTb := fTb_in (List.mem_of_getElem? (i := 521) (by decide +kernel)) rfl
theorem wm_L_73 : Cond.methodLink RL 73 yX7_clear ∈ fTb := fTb_in (List.mem_of_getElem? (i := 525) (by decide +kernel)) rfl
theorem wm_X7_168 : Cond.methodLink RX7 168 yX0_empty ∈ fTb := fTb_in (List.mem_of_getElem? (i := 529) (by decide +kernel)) rfl
theorem wm_L_77 : Cond.methodLink RL 77 yX7_join ∈ fTb := fTb_in (List.mem_of_getElem? (i := 530) (by decide +kernel)) rfl
theorem wm_X7_174 : Cond.methodLink RX7 174 yX0_addTimes ∈ fTb := fTb_in (List.mem_of_getElem? (i := 534) (by decide +kernel)) rfl
theorem wm_X0_29 : Cond.methodLink RX0 29 yX0_add ∈ fTb := fTb_in (List.mem_of_getElem? (i := 538) (by decide +kernel)) rfl
theorem wm_L_81 : Cond.methodLink RL 81 yX7_times ∈ fTb := fTb_in (List.mem_of_getElem? (i := 539) (by decide +kernel)) rfl
theorem wm_L_85 : Cond.methodLink RL 85 yX7_scale ∈ fTb := fTb_in (List.mem_of_getElem? (i := 543) (by decide +kernel)) rfl
theorem wm_L_89 : Cond.methodLink RL 89 yX7_turn ∈ fTb := fTb_in (List.mem_of_getElem? (i := 547) (by decide +kernel)) rfl
theorem wm_X7_177 : Cond.methodLink RX7 177 yX2_isSquareTimesCore ∈ fTb := fTb_in (List.mem_of_getElem? (i := 551) (by decide +kernel)) rfl
theorem wm_X2_24 : Cond.methodLink RX2 24 yX2_rootOf ∈ fTb := fTb_in (List.mem_of_getElem? (i := 554) (by decide +kernel)) rfl
theorem wm_X7_180 : Cond.methodLink RX7 180 yX0_change ∈ fTb := fTb_in (List.mem_of_getElem? (i := 555) (by decide +kernel)) rfl
theorem wm_L_94 : Cond.methodLink RL 94 yX7_drop ∈ fTb := fTb_in (List.mem_of_getElem? (i := 559) (by decide +kernel)) rfl
theorem wm_X7_184 : Cond.methodLink RX7 184 yX0_add ∈ fTb := fTb_in (List.mem_of_getElem? (i := 563) (by decide +kernel)) rfl
theorem wm_L_98 : Cond.methodLink RL 98 yX7_undo ∈ fTb := fTb_in (List.mem_of_getElem? (i := 564) (by decide +kernel)) rfl
theorem wm_X7_190 : Cond.methodLink RX7 190 yX5_takeBack ∈ fTb := fTb_in (List.mem_of_getElem? (i := 568) (by decide +kernel)) rfl
theorem wm_L_102 : Cond.methodLink RL 102 yX7_pairs ∈ fTb := fTb_in (List.mem_of_getElem? (i := 572) (by decide +kernel)) rfl
theorem wm_X7_193 : Cond.methodLink RX7 193 yX4_open ∈ fTb := fTb_in (List.mem_of_getElem? (i := 576) (by decide +kernel)) rfl
theorem wm_X4_39 : Cond.methodLink RX4 39 yX4_addIfReduced ∈ fTb := fTb_in (List.mem_of_getElem? (i := 580) (by decide +kernel)) rfl
theorem wm_X4_43 : Cond.methodLink RX4 43 yX2_commonPart ∈ fTb := fTb_in (List.mem_of_getElem? (i := 584) (by decide +kernel)) rfl
theorem wm_X4_49 : Cond.methodLink RX4 49 yX4_findRests ∈ fTb := fTb_in (List.mem_of_getElem? (i := 587) (by decide +kernel)) rfl
theorem wm_X4_57 : Cond.methodLink RX4 57 yX4_has ∈ fTb := fTb_in (List.mem_of_getElem? (i := 591) (by decide +kernel)) rfl
theorem wm_X4_67 : Cond.methodLink RX4 67 yJ9_floorMod_7cf53 ∈ fTb := fTb_in (List.mem_of_getElem? (i := 595) (by decide +kernel)) rfl
theorem wm_X4_72 : Cond.methodLink RX4 72 yX4_isMet ∈ fTb := fTb_in (List.mem_of_getElem? (i := 596) (by decide +kernel)) rfl
theorem wm_X4_76 : Cond.methodLink RX4 76 yX4_addWithSquares ∈ fTb := fTb_in (List.mem_of_getElem? (i := 600) (by decide +kernel)) rfl
theorem wm_X4_53 : Cond.methodLink RX4 53 yX4_leastSame ∈ fTb := fTb_in (List.mem_of_getElem? (i := 604) (by decide +kernel)) rfl
theorem wm_X4_80 : Cond.methodLink RX4 80 yX4_meetSame ∈ fTb := fTb_in (List.mem_of_getElem? (i := 608) (by decide +kernel)) rfl
theorem wm_L_106 : Cond.methodLink RL 106 yX7_pair ∈ fTb := fTb_in (List.mem_of_getElem? (i := 612) (by decide +kernel)) rfl
theorem wm_X7_199 : Cond.methodLink RX7 199 yX4_has ∈ fTb := fTb_in (List.mem_of_getElem? (i := 616) (by decide +kernel)) rfl
theorem wm_X7_215 : Cond.methodLink RX7 215 yX4_countMet ∈ fTb := fTb_in (List.mem_of_getElem? (i := 617) (by decide +kernel)) rfl
theorem wm_X4_61 : Cond.methodLink RX4 61 yJ13_bitCount_95d88 ∈ fTb := fTb_in (List.mem_of_getElem? (i := 621) (by decide +kernel)) rfl
theorem wm_L_110 : Cond.methodLink RL 110 yX7_met ∈ fTb := fTb_in (List.mem_of_getElem? (i := 627) (by decide +kernel)) rfl
theorem wm_X7_221 : Cond.methodLink RX7 221 yX4_isMet ∈ fTb := fTb_in (List.mem_of_getElem? (i := 631) (by decide +kernel)) rfl
theorem wm_L_114 : Cond.methodLink RL 114 yX7_lay ∈ fTb := fTb_in (List.mem_of_getElem? (i := 632) (by decide +kernel)) rfl
theorem wm_X7_224 : Cond.methodLink RX7 224 yX2_roughPart ∈ fTb := fTb_in (List.mem_of_getElem? (i := 636) (by decide +kernel)) rfl
theorem wm_L_118 : Cond.methodLink RL 118 yX7_count ∈ fTb := fTb_in (List.mem_of_getElem? (i := 637) (by decide +kernel)) rfl
theorem wm_X7_227 : Cond.methodLink RX7 227 yX7_countForms ∈ fTb := fTb_in (List.mem_of_getElem? (i := 641) (by decide +kernel)) rfl
theorem wm_X7_230 : Cond.methodLink RX7 230 yX7_countTerms ∈ fTb := fTb_in (List.mem_of_getElem? (i := 645) (by decide +kernel)) rfl
theorem wm_X7_233 : Cond.methodLink RX7 233 yX7_countUnlike ∈ fTb := fTb_in (List.mem_of_getElem? (i := 649) (by decide +kernel)) rfl
theorem wm_X7_236 : Cond.methodLink RX7 236 yX4_countGenera ∈ fTb := fTb_in (List.mem_of_getElem? (i := 653) (by decide +kernel)) rfl
theorem wm_L_122 : Cond.methodLink RL 122 yX7_digest ∈ fTb := fTb_in (List.mem_of_getElem? (i := 657) (by decide +kernel)) rfl
theorem wm_X7_247 : Cond.methodLink RX7 247 yX7_mix ∈ fTb := fTb_in (List.mem_of_getElem? (i := 662) (by decide +kernel)) rfl
theorem wm_X7_251 : Cond.methodLink RX7 251 yX7_about ∈ fTb := fTb_in (List.mem_of_getElem? (i := 666) (by decide +kernel)) rfl
theorem wm_X7_254 : Cond.methodLink RX7 254 yX7_at ∈ fTb := fTb_in (List.mem_of_getElem? (i := 667) (by decide +kernel)) rfl
theorem wm_X7_257 : Cond.methodLink RX7 257 yX7_pair ∈ fTb := fTb_in (List.mem_of_getElem? (i := 668) (by decide +kernel)) rfl
theorem wm_X7_260 : Cond.methodLink RX7 260 yX3_codeAt ∈ fTb := fTb_in (List.mem_of_getElem? (i := 669) (by decide +kernel)) rfl
theorem wm_X7_263 : Cond.methodLink RX7 263 yX7_count ∈ fTb := fTb_in (List.mem_of_getElem? (i := 670) (by decide +kernel)) rfl
theorem wm_L_12 : Cond.methodLink RL 12 yX8_init ∈ fTb := fTb_in (List.mem_of_getElem? (i := 673) (by decide +kernel)) rfl
theorem wm_L_17 : Cond.methodLink RL 17 yX8_letter ∈ fTb := fTb_in (List.mem_of_getElem? (i := 778) (by decide +kernel)) rfl
theorem wm_X8_89 : Cond.methodLink RX8 89 yX8_within ∈ fTb := fTb_in (List.mem_of_getElem? (i := 782) (by decide +kernel)) rfl
theorem wm_L_22 : Cond.methodLink RL 22 yX8_blank ∈ fTb := fTb_in (List.mem_of_getElem? (i := 785) (by decide +kernel)) rfl
theorem wm_L_26 : Cond.methodLink RL 26 yX8_fault ∈ fTb := fTb_in (List.mem_of_getElem? (i := 789) (by decide +kernel)) rfl
theorem wm_X8_148 : Cond.methodLink RX8 148 yX8_read ∈ fTb := fTb_in (List.mem_of_getElem? (i := 793) (by decide +kernel)) rfl
theorem wm_X8_145 : Cond.methodLink RX8 145 yX8_readNumber ∈ fTb := fTb_in (List.mem_of_getElem? (i := 797) (by decide +kernel)) rfl
theorem wm_X8_129 : Cond.methodLink RX8 129 yX8_letterAt ∈ fTb := fTb_in (List.mem_of_getElem? (i := 801) (by decide +kernel)) rfl
theorem wm_X8_132 : Cond.methodLink RX8 132 yX8_isNumber ∈ fTb := fTb_in (List.mem_of_getElem? (i := 805) (by decide +kernel)) rfl
theorem wm_X8_93 : Cond.methodLink RX8 93 yX8_leftOf ∈ fTb := fTb_in (List.mem_of_getElem? (i := 808) (by decide +kernel)) rfl
theorem wm_X8_81 : Cond.methodLink RX8 81 yX8_primeAt ∈ fTb := fTb_in (List.mem_of_getElem? (i := 811) (by decide +kernel)) rfl
theorem wm_X8_138 : Cond.methodLink RX8 138 yX8_kindOf ∈ fTb := fTb_in (List.mem_of_getElem? (i := 814) (by decide +kernel)) rfl
theorem wm_L_30 : Cond.methodLink RL 30 yX8_put ∈ fTb := fTb_in (List.mem_of_getElem? (i := 817) (by decide +kernel)) rfl
theorem wm_X8_152 : Cond.methodLink RX8 152 yX8_isShelf ∈ fTb := fTb_in (List.mem_of_getElem? (i := 821) (by decide +kernel)) rfl
theorem wm_X8_171 : Cond.methodLink RX8 171 yX8_layNew ∈ fTb := fTb_in (List.mem_of_getElem? (i := 824) (by decide +kernel)) rfl
theorem wm_X8_167 : Cond.methodLink RX8 167 yX8_keep ∈ fTb := fTb_in (List.mem_of_getElem? (i := 828) (by decide +kernel)) rfl
theorem wm_X8_161 : Cond.methodLink RX8 161 yX8_dropOldest ∈ fTb := fTb_in (List.mem_of_getElem? (i := 832) (by decide +kernel)) rfl
theorem wm_L_34 : Cond.methodLink RL 34 yX8_classOf ∈ fTb := fTb_in (List.mem_of_getElem? (i := 836) (by decide +kernel)) rfl
theorem wm_L_38 : Cond.methodLink RL 38 yX8_core ∈ fTb := fTb_in (List.mem_of_getElem? (i := 840) (by decide +kernel)) rfl
theorem wm_X8_174 : Cond.methodLink RX8 174 yX8_isKind ∈ fTb := fTb_in (List.mem_of_getElem? (i := 844) (by decide +kernel)) rfl
theorem wm_X8_96 : Cond.methodLink RX8 96 yX8_coreOf ∈ fTb := fTb_in (List.mem_of_getElem? (i := 847) (by decide +kernel)) rfl
theorem wm_X8_85 : Cond.methodLink RX8 85 yX8_isIn ∈ fTb := fTb_in (List.mem_of_getElem? (i := 850) (by decide +kernel)) rfl
theorem wm_L_43 : Cond.methodLink RL 43 yX8_symbol ∈ fTb := fTb_in (List.mem_of_getElem? (i := 853) (by decide +kernel)) rfl
theorem wm_X8_177 : Cond.methodLink RX8 177 yX8_isPlace ∈ fTb := fTb_in (List.mem_of_getElem? (i := 857) (by decide +kernel)) rfl
theorem wm_X8_122 : Cond.methodLink RX8 122 yX8_symbolNow ∈ fTb := fTb_in (List.mem_of_getElem? (i := 860) (by decide +kernel)) rfl
theorem wm_X8_118 : Cond.methodLink RX8 118 yX8_vanishes ∈ fTb := fTb_in (List.mem_of_getElem? (i := 864) (by decide +kernel)) rfl
theorem wm_X8_110 : Cond.methodLink RX8 110 yX8_vanishesReal ∈ fTb := fTb_in (List.mem_of_getElem? (i := 868) (by decide +kernel)) rfl
theorem wm_X8_99 : Cond.methodLink RX8 99 yX8_modAt ∈ fTb := fTb_in (List.mem_of_getElem? (i := 872) (by decide +kernel)) rfl
theorem wm_X8_114 : Cond.methodLink RX8 114 yX8_addTerm ∈ fTb := fTb_in (List.mem_of_getElem? (i := 875) (by decide +kernel)) rfl
theorem wm_X8_102 : Cond.methodLink RX8 102 yX8_addRests ∈ fTb := fTb_in (List.mem_of_getElem? (i := 879) (by decide +kernel)) rfl
theorem wm_L_48 : Cond.methodLink RL 48 yX8_square ∈ fTb := fTb_in (List.mem_of_getElem? (i := 883) (by decide +kernel)) rfl
theorem wm_X8_180 : Cond.methodLink RX8 180 yX8_isSquare ∈ fTb := fTb_in (List.mem_of_getElem? (i := 887) (by decide +kernel)) rfl
theorem wm_L_52 : Cond.methodLink RL 52 yX8_at ∈ fTb := fTb_in (List.mem_of_getElem? (i := 890) (by decide +kernel)) rfl
theorem wm_X8_183 : Cond.methodLink RX8 183 yX8_isTerm ∈ fTb := fTb_in (List.mem_of_getElem? (i := 894) (by decide +kernel)) rfl
theorem wm_X8_155 : Cond.methodLink RX8 155 yX8_isForm ∈ fTb := fTb_in (List.mem_of_getElem? (i := 898) (by decide +kernel)) rfl
theorem wm_L_56 : Cond.methodLink RL 56 yX8_about ∈ fTb := fTb_in (List.mem_of_getElem? (i := 902) (by decide +kernel)) rfl
theorem wm_X8_229 : Cond.methodLink RX8 229 yX8_aboutNow ∈ fTb := fTb_in (List.mem_of_getElem? (i := 906) (by decide +kernel)) rfl
theorem wm_X8_214 : Cond.methodLink RX8 214 yX8_above ∈ fTb := fTb_in (List.mem_of_getElem? (i := 910) (by decide +kernel)) rfl
theorem wm_X8_202 : Cond.methodLink RX8 202 yX8_det ∈ fTb := fTb_in (List.mem_of_getElem? (i := 914) (by decide +kernel)) rfl
theorem wm_X8_208 : Cond.methodLink RX8 208 yX8_hasseOf ∈ fTb := fTb_in (List.mem_of_getElem? (i := 918) (by decide +kernel)) rfl
theorem wm_X8_196 : Cond.methodLink RX8 196 yX8_layForm ∈ fTb := fTb_in (List.mem_of_getElem? (i := 922) (by decide +kernel)) rfl
theorem wm_X8_186 : Cond.methodLink RX8 186 yX8_unlike ∈ fTb := fTb_in (List.mem_of_getElem? (i := 926) (by decide +kernel)) rfl
theorem wm_X8_190 : Cond.methodLink RX8 190 yX8_lookAt ∈ fTb := fTb_in (List.mem_of_getElem? (i := 930) (by decide +kernel)) rfl
theorem wm_X8_193 : Cond.methodLink RX8 193 yX8_barsNow ∈ fTb := fTb_in (List.mem_of_getElem? (i := 934) (by decide +kernel)) rfl
theorem wm_X8_199 : Cond.methodLink RX8 199 yX8_barsOf ∈ fTb := fTb_in (List.mem_of_getElem? (i := 938) (by decide +kernel)) rfl
theorem wm_X8_205 : Cond.methodLink RX8 205 yX8_planes ∈ fTb := fTb_in (List.mem_of_getElem? (i := 942) (by decide +kernel)) rfl
theorem wm_X8_211 : Cond.methodLink RX8 211 yX8_restDet ∈ fTb := fTb_in (List.mem_of_getElem? (i := 946) (by decide +kernel)) rfl
theorem wm_X8_223 : Cond.methodLink RX8 223 yX8_restHasse ∈ fTb := fTb_in (List.mem_of_getElem? (i := 950) (by decide +kernel)) rfl
theorem wm_X8_226 : Cond.methodLink RX8 226 yX8_leastLike ∈ fTb := fTb_in (List.mem_of_getElem? (i := 954) (by decide +kernel)) rfl
theorem wm_X8_220 : Cond.methodLink RX8 220 yX8_unlikeOf ∈ fTb := fTb_in (List.mem_of_getElem? (i := 958) (by decide +kernel)) rfl
theorem wm_X8_217 : Cond.methodLink RX8 217 yX8_isLikeAt ∈ fTb := fTb_in (List.mem_of_getElem? (i := 962) (by decide +kernel)) rfl
theorem wm_L_60 : Cond.methodLink RL 60 yX8_like ∈ fTb := fTb_in (List.mem_of_getElem? (i := 966) (by decide +kernel)) rfl
theorem wm_L_64 : Cond.methodLink RL 64 yX8_meets ∈ fTb := fTb_in (List.mem_of_getElem? (i := 970) (by decide +kernel)) rfl
theorem wm_X8_235 : Cond.methodLink RX8 235 yX8_meetsNow ∈ fTb := fTb_in (List.mem_of_getElem? (i := 974) (by decide +kernel)) rfl
theorem wm_X8_232 : Cond.methodLink RX8 232 yX8_lookMore ∈ fTb := fTb_in (List.mem_of_getElem? (i := 978) (by decide +kernel)) rfl
theorem wm_L_68 : Cond.methodLink RL 68 yX8_row ∈ fTb := fTb_in (List.mem_of_getElem? (i := 982) (by decide +kernel)) rfl
theorem wm_X8_248 : Cond.methodLink RX8 248 yX8_find ∈ fTb := fTb_in (List.mem_of_getElem? (i := 986) (by decide +kernel)) rfl
theorem wm_X8_244 : Cond.methodLink RX8 244 yX8_findBy ∈ fTb := fTb_in (List.mem_of_getElem? (i := 990) (by decide +kernel)) rfl
theorem wm_X8_238 : Cond.methodLink RX8 238 yX8_goesOn ∈ fTb := fTb_in (List.mem_of_getElem? (i := 994) (by decide +kernel)) rfl
theorem wm_X8_241 : Cond.methodLink RX8 241 yX8_comesToNothing ∈ fTb := fTb_in (List.mem_of_getElem? (i := 998) (by decide +kernel)) rfl
theorem wm_L_72 : Cond.methodLink RL 72 yX8_way ∈ fTb := fTb_in (List.mem_of_getElem? (i := 1002) (by decide +kernel)) rfl
theorem wm_L_76 : Cond.methodLink RL 76 yX8_clear ∈ fTb := fTb_in (List.mem_of_getElem? (i := 1006) (by decide +kernel)) rfl
theorem wm_L_80 : Cond.methodLink RL 80 yX8_join ∈ fTb := fTb_in (List.mem_of_getElem? (i := 1010) (by decide +kernel)) rfl
theorem wm_X8_251 : Cond.methodLink RX8 251 yX8_take ∈ fTb := fTb_in (List.mem_of_getElem? (i := 1014) (by decide +kernel)) rfl
theorem wm_L_84 : Cond.methodLink RL 84 yX8_times ∈ fTb := fTb_in (List.mem_of_getElem? (i := 1018) (by decide +kernel)) rfl
theorem wm_L_88 : Cond.methodLink RL 88 yX8_scale ∈ fTb := fTb_in (List.mem_of_getElem? (i := 1022) (by decide +kernel)) rfl
theorem wm_L_93 : Cond.methodLink RL 93 yX8_turn ∈ fTb := fTb_in (List.mem_of_getElem? (i := 1026) (by decide +kernel)) rfl
theorem wm_X8_254 : Cond.methodLink RX8 254 yX8_isSquared ∈ fTb := fTb_in (List.mem_of_getElem? (i := 1030) (by decide +kernel)) rfl
theorem wm_L_97 : Cond.methodLink RL 97 yX8_drop ∈ fTb := fTb_in (List.mem_of_getElem? (i := 1033) (by decide +kernel)) rfl
theorem wm_L_101 : Cond.methodLink RL 101 yX8_undo ∈ fTb := fTb_in (List.mem_of_getElem? (i := 1037) (by decide +kernel)) rfl
theorem wm_L_105 : Cond.methodLink RL 105 yX8_pairs ∈ fTb := fTb_in (List.mem_of_getElem? (i := 1041) (by decide +kernel)) rfl
theorem wm_X8_269 : Cond.methodLink RX8 269 yX8_addPair ∈ fTb := fTb_in (List.mem_of_getElem? (i := 1045) (by decide +kernel)) rfl
theorem wm_X8_263 : Cond.methodLink RX8 263 yX8_common ∈ fTb := fTb_in (List.mem_of_getElem? (i := 1049) (by decide +kernel)) rfl
theorem wm_X8_273 : Cond.methodLink RX8 273 yX8_layMet ∈ fTb := fTb_in (List.mem_of_getElem? (i := 1052) (by decide +kernel)) rfl
theorem wm_X8_276 : Cond.methodLink RX8 276 yX8_isSame ∈ fTb := fTb_in (List.mem_of_getElem? (i := 1056) (by decide +kernel)) rfl
theorem wm_L_109 : Cond.methodLink RL 109 yX8_pair ∈ fTb := fTb_in (List.mem_of_getElem? (i := 1060) (by decide +kernel)) rfl
theorem wm_X8_279 : Cond.methodLink RX8 279 yX8_isPair ∈ fTb := fTb_in (List.mem_of_getElem? (i := 1064) (by decide +kernel)) rfl
theorem wm_X8_282 : Cond.methodLink RX8 282 yX8_pairNow ∈ fTb := fTb_in (List.mem_of_getElem? (i := 1068) (by decide +kernel)) rfl
theorem wm_L_113 : Cond.methodLink RL 113 yX8_met ∈ fTb := fTb_in (List.mem_of_getElem? (i := 1072) (by decide +kernel)) rfl
theorem wm_L_117 : Cond.methodLink RL 117 yX8_lay ∈ fTb := fTb_in (List.mem_of_getElem? (i := 1076) (by decide +kernel)) rfl
theorem wm_L_121 : Cond.methodLink RL 121 yX8_count ∈ fTb := fTb_in (List.mem_of_getElem? (i := 1080) (by decide +kernel)) rfl
theorem wm_X8_291 : Cond.methodLink RX8 291 yX8_howMany ∈ fTb := fTb_in (List.mem_of_getElem? (i := 1084) (by decide +kernel)) rfl
theorem wm_X8_285 : Cond.methodLink RX8 285 yX8_shelves ∈ fTb := fTb_in (List.mem_of_getElem? (i := 1088) (by decide +kernel)) rfl
theorem wm_X8_288 : Cond.methodLink RX8 288 yX8_genera ∈ fTb := fTb_in (List.mem_of_getElem? (i := 1092) (by decide +kernel)) rfl
theorem wm_L_126 : Cond.methodLink RL 126 yX8_digest ∈ fTb := fTb_in (List.mem_of_getElem? (i := 1096) (by decide +kernel)) rfl
theorem wm_X8_306 : Cond.methodLink RX8 306 yX8_mixForm ∈ fTb := fTb_in (List.mem_of_getElem? (i := 1101) (by decide +kernel)) rfl
theorem wm_X8_300 : Cond.methodLink RX8 300 yX8_mix ∈ fTb := fTb_in (List.mem_of_getElem? (i := 1105) (by decide +kernel)) rfl
theorem wc_X7_init : Cond.code yX7_init cX7_init 2 none ∈ fTb := fTb_in (List.mem_of_getElem? (i := 81) (by decide +kernel)) rfl
theorem wc_X3_init : Cond.code yX3_init cX3_init 1 none ∈ fTb := fTb_in (List.mem_of_getElem? (i := 89) (by decide +kernel)) rfl
theorem wc_X0_init : Cond.code yX0_init cX0_init 1 none ∈ fTb := fTb_in (List.mem_of_getElem? (i := 105) (by decide +kernel)) rfl
theorem wc_X5_init : Cond.code yX5_init cX5_init 2 none ∈ fTb := fTb_in (List.mem_of_getElem? (i := 129) (by decide +kernel)) rfl
theorem wc_X4_init : Cond.code yX4_init cX4_init 1 none ∈ fTb := fTb_in (List.mem_of_getElem? (i := 159) (by decide +kernel)) rfl
theorem wc_X6_init : Cond.code yX6_init cX6_init 1 none ∈ fTb := fTb_in (List.mem_of_getElem? (i := 198) (by decide +kernel)) rfl
theorem wc_X1_init : Cond.code yX1_init cX1_init 2 none ∈ fTb := fTb_in (List.mem_of_getElem? (i := 213) (by decide +kernel)) rfl
theorem wc_X7_letter : Cond.code yX7_letter cX7_letter 2 (some .int) ∈ fTb := fTb_in (List.mem_of_getElem? (i := 259) (by decide +kernel)) rfl
theorem wc_X3_write : Cond.code yX3_write cX3_write 2 (some .boolean) ∈ fTb := fTb_in (List.mem_of_getElem? (i := 263) (by decide +kernel)) rfl
theorem wc_X7_blank : Cond.code yX7_blank cX7_blank 2 (some .int) ∈ fTb := fTb_in (List.mem_of_getElem? (i := 267) (by decide +kernel)) rfl
theorem wc_X7_fault : Cond.code yX7_fault cX7_fault 1 (some .int) ∈ fTb := fTb_in (List.mem_of_getElem? (i := 271) (by decide +kernel)) rfl
theorem wc_X3_readInto : Cond.code yX3_readInto cX3_readInto 6 (some .int) ∈ fTb := fTb_in (List.mem_of_getElem? (i := 275) (by decide +kernel)) rfl
theorem wc_X0_empty : Cond.code yX0_empty cX0_empty 1 none ∈ fTb := fTb_in (List.mem_of_getElem? (i := 279) (by decide +kernel)) rfl
theorem wc_X3_codeAt : Cond.code yX3_codeAt cX3_codeAt 2 (some .int) ∈ fTb := fTb_in (List.mem_of_getElem? (i := 283) (by decide +kernel)) rfl
theorem wc_X3_isDigit : Cond.code yX3_isDigit cX3_isDigit 1 (some .boolean) ∈ fTb := fTb_in (List.mem_of_getElem? (i := 286) (by decide +kernel)) rfl
theorem wc_X3_goesOn : Cond.code yX3_goesOn cX3_goesOn 2 (some .boolean) ∈ fTb := fTb_in (List.mem_of_getElem? (i := 289) (by decide +kernel)) rfl
theorem wc_X2_isNumber : Cond.code yX2_isNumber cX2_isNumber 1 (some .boolean) ∈ fTb := fTb_in (List.mem_of_getElem? (i := 292) (by decide +kernel)) rfl
theorem wc_X2_roughPart : Cond.code yX2_roughPart cX2_roughPart 5 (some .int) ∈ fTb := fTb_in (List.mem_of_getElem? (i := 295) (by decide +kernel)) rfl
theorem wc_J9_abs_0f7a4 : Cond.code yJ9_abs_0f7a4 cJ9_abs_0f7a4 1 (some .int) ∈ fTb := fTb_in (List.mem_of_getElem? (i := 298) (by decide +kernel)) rfl
theorem wc_X2_kindOf : Cond.code yX2_kindOf cX2_kindOf 6 (some .int) ∈ fTb := fTb_in (List.mem_of_getElem? (i := 303) (by decide +kernel)) rfl
theorem wc_X0_add : Cond.code yX0_add cX0_add 2 none ∈ fTb := fTb_in (List.mem_of_getElem? (i := 307) (by decide +kernel)) rfl
theorem wc_X7_put : Cond.code yX7_put cX7_put 2 (some .int) ∈ fTb := fTb_in (List.mem_of_getElem? (i := 311) (by decide +kernel)) rfl
theorem wc_X7_isShelf : Cond.code yX7_isShelf cX7_isShelf 1 (some .boolean) ∈ fTb := fTb_in (List.mem_of_getElem? (i := 314) (by decide +kernel)) rfl
theorem wc_X3_endsInDigit : Cond.code yX3_endsInDigit cX3_endsInDigit 1 (some .boolean) ∈ fTb := fTb_in (List.mem_of_getElem? (i := 318) (by decide +kernel)) rfl
theorem wc_X7_shelveDraft : Cond.code yX7_shelveDraft cX7_shelveDraft 2 none ∈ fTb := fTb_in (List.mem_of_getElem? (i := 322) (by decide +kernel)) rfl
theorem wc_X0_settle : Cond.code yX0_settle cX0_settle 4 none ∈ fTb := fTb_in (List.mem_of_getElem? (i := 326) (by decide +kernel)) rfl
theorem wc_X0_kindAt : Cond.code yX0_kindAt cX0_kindAt 2 (some .int) ∈ fTb := fTb_in (List.mem_of_getElem? (i := 330) (by decide +kernel)) rfl
theorem wc_X6_symbolBits : Cond.code yX6_symbolBits cX6_symbolBits 3 (some .int) ∈ fTb := fTb_in (List.mem_of_getElem? (i := 334) (by decide +kernel)) rfl
theorem wc_X6_start : Cond.code yX6_start cX6_start 1 none ∈ fTb := fTb_in (List.mem_of_getElem? (i := 338) (by decide +kernel)) rfl
theorem wc_X6_add : Cond.code yX6_add cX6_add 2 none ∈ fTb := fTb_in (List.mem_of_getElem? (i := 342) (by decide +kernel)) rfl
theorem wc_X2_coreOf : Cond.code yX2_coreOf cX2_coreOf 3 (some .int) ∈ fTb := fTb_in (List.mem_of_getElem? (i := 345) (by decide +kernel)) rfl
theorem wc_X6_bars : Cond.code yX6_bars cX6_bars 3 (some .int) ∈ fTb := fTb_in (List.mem_of_getElem? (i := 349) (by decide +kernel)) rfl
theorem wc_X6_vanishesAtReal : Cond.code yX6_vanishesAtReal cX6_vanishesAtReal 4 (some .boolean) ∈ fTb := fTb_in (List.mem_of_getElem? (i := 353) (by decide +kernel)) rfl
theorem wc_X6_vanishesAtTwo : Cond.code yX6_vanishesAtTwo cX6_vanishesAtTwo 6 (some .boolean) ∈ fTb := fTb_in (List.mem_of_getElem? (i := 357) (by decide +kernel)) rfl
theorem wc_X6_turned : Cond.code yX6_turned cX6_turned 3 (some .int) ∈ fTb := fTb_in (List.mem_of_getElem? (i := 360) (by decide +kernel)) rfl
theorem wc_X6_partVanishes : Cond.code yX6_partVanishes cX6_partVanishes 9 (some .boolean) ∈ fTb := fTb_in (List.mem_of_getElem? (i := 366) (by decide +kernel)) rfl
theorem wc_X6_addAll : Cond.code yX6_addAll cX6_addAll 3 none ∈ fTb := fTb_in (List.mem_of_getElem? (i := 373) (by decide +kernel)) rfl
theorem wc_X5_keep : Cond.code yX5_keep cX5_keep 4 none ∈ fTb := fTb_in (List.mem_of_getElem? (i := 379) (by decide +kernel)) rfl
theorem wc_J9_floorMod_7cf53 : Cond.code yJ9_floorMod_7cf53 cJ9_floorMod_7cf53 3 (some .int) ∈ fTb := fTb_in (List.mem_of_getElem? (i := 382) (by decide +kernel)) rfl
theorem wc_X0_copy : Cond.code yX0_copy cX0_copy 3 none ∈ fTb := fTb_in (List.mem_of_getElem? (i := 386) (by decide +kernel)) rfl
theorem wc_J9_min_7cf53 : Cond.code yJ9_min_7cf53 cJ9_min_7cf53 2 (some .int) ∈ fTb := fTb_in (List.mem_of_getElem? (i := 389) (by decide +kernel)) rfl
theorem wc_X7_classOf : Cond.code yX7_classOf cX7_classOf 2 (some .int) ∈ fTb := fTb_in (List.mem_of_getElem? (i := 394) (by decide +kernel)) rfl
theorem wc_X7_core : Cond.code yX7_core cX7_core 2 (some .int) ∈ fTb := fTb_in (List.mem_of_getElem? (i := 400) (by decide +kernel)) rfl
theorem wc_X7_isKind : Cond.code yX7_isKind cX7_isKind 1 (some .boolean) ∈ fTb := fTb_in (List.mem_of_getElem? (i := 403) (by decide +kernel)) rfl
theorem wc_X7_symbol : Cond.code yX7_symbol cX7_symbol 4 (some .int) ∈ fTb := fTb_in (List.mem_of_getElem? (i := 408) (by decide +kernel)) rfl
theorem wc_X7_isPlace : Cond.code yX7_isPlace cX7_isPlace 1 (some .boolean) ∈ fTb := fTb_in (List.mem_of_getElem? (i := 411) (by decide +kernel)) rfl
theorem wc_X7_square : Cond.code yX7_square cX7_square 3 (some .int) ∈ fTb := fTb_in (List.mem_of_getElem? (i := 417) (by decide +kernel)) rfl
theorem wc_X6_unsquareBits : Cond.code yX6_unsquareBits cX6_unsquareBits 2 (some .int) ∈ fTb := fTb_in (List.mem_of_getElem? (i := 421) (by decide +kernel)) rfl
theorem wc_X7_at : Cond.code yX7_at cX7_at 3 (some .int) ∈ fTb := fTb_in (List.mem_of_getElem? (i := 425) (by decide +kernel)) rfl
theorem wc_X7_hasTerm : Cond.code yX7_hasTerm cX7_hasTerm 3 (some .boolean) ∈ fTb := fTb_in (List.mem_of_getElem? (i := 429) (by decide +kernel)) rfl
theorem wc_X7_about : Cond.code yX7_about cX7_about 4 (some .int) ∈ fTb := fTb_in (List.mem_of_getElem? (i := 434) (by decide +kernel)) rfl
theorem wc_X7_hasForm : Cond.code yX7_hasForm cX7_hasForm 2 (some .boolean) ∈ fTb := fTb_in (List.mem_of_getElem? (i := 438) (by decide +kernel)) rfl
theorem wc_X0_countAbove : Cond.code yX0_countAbove cX0_countAbove 3 (some .int) ∈ fTb := fTb_in (List.mem_of_getElem? (i := 442) (by decide +kernel)) rfl
theorem wc_X0_det : Cond.code yX0_det cX0_det 3 (some .int) ∈ fTb := fTb_in (List.mem_of_getElem? (i := 446) (by decide +kernel)) rfl
theorem wc_X0_planes : Cond.code yX0_planes cX0_planes 1 (some .int) ∈ fTb := fTb_in (List.mem_of_getElem? (i := 450) (by decide +kernel)) rfl
theorem wc_X0_restDet : Cond.code yX0_restDet cX0_restDet 1 (some .int) ∈ fTb := fTb_in (List.mem_of_getElem? (i := 455) (by decide +kernel)) rfl
theorem wc_X0_restHasse : Cond.code yX0_restHasse cX0_restHasse 3 (some .int) ∈ fTb := fTb_in (List.mem_of_getElem? (i := 460) (by decide +kernel)) rfl
theorem wc_X7_leastLike : Cond.code yX7_leastLike cX7_leastLike 3 (some .int) ∈ fTb := fTb_in (List.mem_of_getElem? (i := 465) (by decide +kernel)) rfl
theorem wc_X0_isLike : Cond.code yX0_isLike cX0_isLike 2 (some .boolean) ∈ fTb := fTb_in (List.mem_of_getElem? (i := 469) (by decide +kernel)) rfl
theorem wc_X7_like : Cond.code yX7_like cX7_like 3 (some .int) ∈ fTb := fTb_in (List.mem_of_getElem? (i := 474) (by decide +kernel)) rfl
theorem wc_X7_unlikeBits : Cond.code yX7_unlikeBits cX7_unlikeBits 5 (some .int) ∈ fTb := fTb_in (List.mem_of_getElem? (i := 478) (by decide +kernel)) rfl
theorem wc_X7_meets : Cond.code yX7_meets cX7_meets 3 (some .int) ∈ fTb := fTb_in (List.mem_of_getElem? (i := 482) (by decide +kernel)) rfl
theorem wc_X7_startAgainst : Cond.code yX7_startAgainst cX7_startAgainst 3 none ∈ fTb := fTb_in (List.mem_of_getElem? (i := 486) (by decide +kernel)) rfl
theorem wc_X7_row : Cond.code yX7_row cX7_row 3 (some .int) ∈ fTb := fTb_in (List.mem_of_getElem? (i := 494) (by decide +kernel)) rfl
theorem wc_X1_find : Cond.code yX1_find cX1_find 3 (some .boolean) ∈ fTb := fTb_in (List.mem_of_getElem? (i := 498) (by decide +kernel)) rfl
theorem wc_X1_seek : Cond.code yX1_seek cX1_seek 5 none ∈ fTb := fTb_in (List.mem_of_getElem? (i := 503) (by decide +kernel)) rfl
theorem wc_X1_finish : Cond.code yX1_finish cX1_finish 8 none ∈ fTb := fTb_in (List.mem_of_getElem? (i := 507) (by decide +kernel)) rfl
theorem wc_X2_rootOf : Cond.code yX2_rootOf cX2_rootOf 4 (some .int) ∈ fTb := fTb_in (List.mem_of_getElem? (i := 510) (by decide +kernel)) rfl
theorem wc_J9_max_7cf53 : Cond.code yJ9_max_7cf53 cJ9_max_7cf53 2 (some .int) ∈ fTb := fTb_in (List.mem_of_getElem? (i := 513) (by decide +kernel)) rfl
theorem wc_X1_numberAt : Cond.code yX1_numberAt cX1_numberAt 2 (some .int) ∈ fTb := fTb_in (List.mem_of_getElem? (i := 520) (by decide +kernel)) rfl
theorem wc_X7_way : Cond.code yX7_way cX7_way 4 (some .int) ∈ fTb := fTb_in (List.mem_of_getElem? (i := 524) (by decide +kernel)) rfl
theorem wc_X7_clear : Cond.code yX7_clear cX7_clear 3 (some .int) ∈ fTb := fTb_in (List.mem_of_getElem? (i := 528) (by decide +kernel)) rfl
theorem wc_X7_join : Cond.code yX7_join cX7_join 4 (some .int) ∈ fTb := fTb_in (List.mem_of_getElem? (i := 533) (by decide +kernel)) rfl
theorem wc_X0_addTimes : Cond.code yX0_addTimes cX0_addTimes 4 none ∈ fTb := fTb_in (List.mem_of_getElem? (i := 537) (by decide +kernel)) rfl
theorem wc_X7_times : Cond.code yX7_times cX7_times 6 (some .int) ∈ fTb := fTb_in (List.mem_of_getElem? (i := 542) (by decide +kernel)) rfl
theorem wc_X7_scale : Cond.code yX7_scale cX7_scale 3 (some .int) ∈ fTb := fTb_in (List.mem_of_getElem? (i := 546) (by decide +kernel)) rfl
theorem wc_X7_turn : Cond.code yX7_turn cX7_turn 10 (some .int) ∈ fTb := fTb_in (List.mem_of_getElem? (i := 550) (by decide +kernel)) rfl
theorem wc_X2_isSquareTimesCore : Cond.code yX2_isSquareTimesCore cX2_isSquareTimesCore 3 (some .boolean) ∈ fTb := fTb_in (List.mem_of_getElem? (i := 553) (by decide +kernel)) rfl
theorem wc_X0_change : Cond.code yX0_change cX0_change 3 none ∈ fTb := fTb_in (List.mem_of_getElem? (i := 558) (by decide +kernel)) rfl
theorem wc_X7_drop : Cond.code yX7_drop cX7_drop 5 (some .int) ∈ fTb := fTb_in (List.mem_of_getElem? (i := 562) (by decide +kernel)) rfl
theorem wc_X7_undo : Cond.code yX7_undo cX7_undo 2 (some .int) ∈ fTb := fTb_in (List.mem_of_getElem? (i := 567) (by decide +kernel)) rfl
theorem wc_X5_takeBack : Cond.code yX5_takeBack cX5_takeBack 3 (some .int) ∈ fTb := fTb_in (List.mem_of_getElem? (i := 571) (by decide +kernel)) rfl
theorem wc_X7_pairs : Cond.code yX7_pairs cX7_pairs 2 (some .int) ∈ fTb := fTb_in (List.mem_of_getElem? (i := 575) (by decide +kernel)) rfl
theorem wc_X4_open : Cond.code yX4_open cX4_open 4 none ∈ fTb := fTb_in (List.mem_of_getElem? (i := 579) (by decide +kernel)) rfl
theorem wc_X4_addIfReduced : Cond.code yX4_addIfReduced cX4_addIfReduced 6 none ∈ fTb := fTb_in (List.mem_of_getElem? (i := 583) (by decide +kernel)) rfl
theorem wc_X2_commonPart : Cond.code yX2_commonPart cX2_commonPart 6 (some .int) ∈ fTb := fTb_in (List.mem_of_getElem? (i := 586) (by decide +kernel)) rfl
theorem wc_X4_findRests : Cond.code yX4_findRests cX4_findRests 6 none ∈ fTb := fTb_in (List.mem_of_getElem? (i := 590) (by decide +kernel)) rfl
theorem wc_X4_has : Cond.code yX4_has cX4_has 2 (some .boolean) ∈ fTb := fTb_in (List.mem_of_getElem? (i := 594) (by decide +kernel)) rfl
theorem wc_X4_isMet : Cond.code yX4_isMet cX4_isMet 3 (some .boolean) ∈ fTb := fTb_in (List.mem_of_getElem? (i := 599) (by decide +kernel)) rfl
theorem wc_X4_addWithSquares : Cond.code yX4_addWithSquares cX4_addWithSquares 5 none ∈ fTb := fTb_in (List.mem_of_getElem? (i := 603) (by decide +kernel)) rfl
theorem wc_X4_leastSame : Cond.code yX4_leastSame cX4_leastSame 3 (some .int) ∈ fTb := fTb_in (List.mem_of_getElem? (i := 607) (by decide +kernel)) rfl
theorem wc_X4_meetSame : Cond.code yX4_meetSame cX4_meetSame 4 (some .boolean) ∈ fTb := fTb_in (List.mem_of_getElem? (i := 611) (by decide +kernel)) rfl
theorem wc_X7_pair : Cond.code yX7_pair cX7_pair 3 (some .int) ∈ fTb := fTb_in (List.mem_of_getElem? (i := 615) (by decide +kernel)) rfl
theorem wc_X4_countMet : Cond.code yX4_countMet cX4_countMet 4 (some .int) ∈ fTb := fTb_in (List.mem_of_getElem? (i := 620) (by decide +kernel)) rfl
theorem wc_J13_bitCount_95d88 : Cond.code yJ13_bitCount_95d88 cJ13_bitCount_95d88 2 (some .int) ∈ fTb := fTb_in (List.mem_of_getElem? (i := 623) (by decide +kernel)) rfl
theorem wc_X7_met : Cond.code yX7_met cX7_met 3 (some .int) ∈ fTb := fTb_in (List.mem_of_getElem? (i := 630) (by decide +kernel)) rfl
theorem wc_X7_lay : Cond.code yX7_lay cX7_lay 4 (some .int) ∈ fTb := fTb_in (List.mem_of_getElem? (i := 635) (by decide +kernel)) rfl
theorem wc_X7_count : Cond.code yX7_count cX7_count 2 (some .int) ∈ fTb := fTb_in (List.mem_of_getElem? (i := 640) (by decide +kernel)) rfl
theorem wc_X7_countForms : Cond.code yX7_countForms cX7_countForms 3 (some .int) ∈ fTb := fTb_in (List.mem_of_getElem? (i := 644) (by decide +kernel)) rfl
theorem wc_X7_countTerms : Cond.code yX7_countTerms cX7_countTerms 3 (some .int) ∈ fTb := fTb_in (List.mem_of_getElem? (i := 648) (by decide +kernel)) rfl
theorem wc_X7_countUnlike : Cond.code yX7_countUnlike cX7_countUnlike 3 (some .int) ∈ fTb := fTb_in (List.mem_of_getElem? (i := 652) (by decide +kernel)) rfl
theorem wc_X4_countGenera : Cond.code yX4_countGenera cX4_countGenera 3 (some .int) ∈ fTb := fTb_in (List.mem_of_getElem? (i := 656) (by decide +kernel)) rfl
theorem wc_X7_digest : Cond.code yX7_digest cX7_digest 5 (some .long) ∈ fTb := fTb_in (List.mem_of_getElem? (i := 660) (by decide +kernel)) rfl
theorem wc_X7_mix : Cond.code yX7_mix cX7_mix 3 (some .long) ∈ fTb := fTb_in (List.mem_of_getElem? (i := 664) (by decide +kernel)) rfl
theorem wc_X8_init : Cond.code yX8_init cX8_init 1 none ∈ fTb := fTb_in (List.mem_of_getElem? (i := 675) (by decide +kernel)) rfl
theorem wc_X8_letter : Cond.code yX8_letter cX8_letter 2 (some .int) ∈ fTb := fTb_in (List.mem_of_getElem? (i := 781) (by decide +kernel)) rfl
theorem wc_X8_within : Cond.code yX8_within cX8_within 3 (some .boolean) ∈ fTb := fTb_in (List.mem_of_getElem? (i := 784) (by decide +kernel)) rfl
theorem wc_X8_blank : Cond.code yX8_blank cX8_blank 2 (some .int) ∈ fTb := fTb_in (List.mem_of_getElem? (i := 788) (by decide +kernel)) rfl
theorem wc_X8_fault : Cond.code yX8_fault cX8_fault 1 (some .int) ∈ fTb := fTb_in (List.mem_of_getElem? (i := 792) (by decide +kernel)) rfl
theorem wc_X8_read : Cond.code yX8_read cX8_read 2 (some .int) ∈ fTb := fTb_in (List.mem_of_getElem? (i := 796) (by decide +kernel)) rfl
theorem wc_X8_readNumber : Cond.code yX8_readNumber cX8_readNumber 4 (some .int) ∈ fTb := fTb_in (List.mem_of_getElem? (i := 800) (by decide +kernel)) rfl
theorem wc_X8_letterAt : Cond.code yX8_letterAt cX8_letterAt 2 (some .int) ∈ fTb := fTb_in (List.mem_of_getElem? (i := 804) (by decide +kernel)) rfl
theorem wc_X8_isNumber : Cond.code yX8_isNumber cX8_isNumber 1 (some .boolean) ∈ fTb := fTb_in (List.mem_of_getElem? (i := 807) (by decide +kernel)) rfl
theorem wc_X8_leftOf : Cond.code yX8_leftOf cX8_leftOf 3 (some .int) ∈ fTb := fTb_in (List.mem_of_getElem? (i := 810) (by decide +kernel)) rfl
theorem wc_X8_primeAt : Cond.code yX8_primeAt cX8_primeAt 1 (some .int) ∈ fTb := fTb_in (List.mem_of_getElem? (i := 813) (by decide +kernel)) rfl
theorem wc_X8_kindOf : Cond.code yX8_kindOf cX8_kindOf 4 (some .int) ∈ fTb := fTb_in (List.mem_of_getElem? (i := 816) (by decide +kernel)) rfl
theorem wc_X8_put : Cond.code yX8_put cX8_put 2 (some .int) ∈ fTb := fTb_in (List.mem_of_getElem? (i := 820) (by decide +kernel)) rfl
theorem wc_X8_isShelf : Cond.code yX8_isShelf cX8_isShelf 1 (some .boolean) ∈ fTb := fTb_in (List.mem_of_getElem? (i := 823) (by decide +kernel)) rfl
theorem wc_X8_layNew : Cond.code yX8_layNew cX8_layNew 3 (some .int) ∈ fTb := fTb_in (List.mem_of_getElem? (i := 827) (by decide +kernel)) rfl
theorem wc_X8_keep : Cond.code yX8_keep cX8_keep 3 none ∈ fTb := fTb_in (List.mem_of_getElem? (i := 831) (by decide +kernel)) rfl
theorem wc_X8_dropOldest : Cond.code yX8_dropOldest cX8_dropOldest 3 none ∈ fTb := fTb_in (List.mem_of_getElem? (i := 835) (by decide +kernel)) rfl
theorem wc_X8_classOf : Cond.code yX8_classOf cX8_classOf 2 (some .int) ∈ fTb := fTb_in (List.mem_of_getElem? (i := 839) (by decide +kernel)) rfl
theorem wc_X8_core : Cond.code yX8_core cX8_core 2 (some .int) ∈ fTb := fTb_in (List.mem_of_getElem? (i := 843) (by decide +kernel)) rfl
theorem wc_X8_isKind : Cond.code yX8_isKind cX8_isKind 1 (some .boolean) ∈ fTb := fTb_in (List.mem_of_getElem? (i := 846) (by decide +kernel)) rfl
theorem wc_X8_coreOf : Cond.code yX8_coreOf cX8_coreOf 3 (some .int) ∈ fTb := fTb_in (List.mem_of_getElem? (i := 849) (by decide +kernel)) rfl
theorem wc_X8_isIn : Cond.code yX8_isIn cX8_isIn 2 (some .boolean) ∈ fTb := fTb_in (List.mem_of_getElem? (i := 852) (by decide +kernel)) rfl
theorem wc_X8_symbol : Cond.code yX8_symbol cX8_symbol 4 (some .int) ∈ fTb := fTb_in (List.mem_of_getElem? (i := 856) (by decide +kernel)) rfl
theorem wc_X8_isPlace : Cond.code yX8_isPlace cX8_isPlace 1 (some .boolean) ∈ fTb := fTb_in (List.mem_of_getElem? (i := 859) (by decide +kernel)) rfl
theorem wc_X8_symbolNow : Cond.code yX8_symbolNow cX8_symbolNow 4 (some .int) ∈ fTb := fTb_in (List.mem_of_getElem? (i := 863) (by decide +kernel)) rfl
theorem wc_X8_vanishes : Cond.code yX8_vanishes cX8_vanishes 4 (some .boolean) ∈ fTb := fTb_in (List.mem_of_getElem? (i := 867) (by decide +kernel)) rfl
theorem wc_X8_vanishesReal : Cond.code yX8_vanishesReal cX8_vanishesReal 4 (some .boolean) ∈ fTb := fTb_in (List.mem_of_getElem? (i := 871) (by decide +kernel)) rfl
theorem wc_X8_modAt : Cond.code yX8_modAt cX8_modAt 1 (some .int) ∈ fTb := fTb_in (List.mem_of_getElem? (i := 874) (by decide +kernel)) rfl
theorem wc_X8_addTerm : Cond.code yX8_addTerm cX8_addTerm 6 none ∈ fTb := fTb_in (List.mem_of_getElem? (i := 878) (by decide +kernel)) rfl
theorem wc_X8_addRests : Cond.code yX8_addRests cX8_addRests 8 none ∈ fTb := fTb_in (List.mem_of_getElem? (i := 882) (by decide +kernel)) rfl
theorem wc_X8_square : Cond.code yX8_square cX8_square 3 (some .int) ∈ fTb := fTb_in (List.mem_of_getElem? (i := 886) (by decide +kernel)) rfl
theorem wc_X8_isSquare : Cond.code yX8_isSquare cX8_isSquare 6 (some .boolean) ∈ fTb := fTb_in (List.mem_of_getElem? (i := 889) (by decide +kernel)) rfl
theorem wc_X8_at : Cond.code yX8_at cX8_at 3 (some .int) ∈ fTb := fTb_in (List.mem_of_getElem? (i := 893) (by decide +kernel)) rfl
theorem wc_X8_isTerm : Cond.code yX8_isTerm cX8_isTerm 3 (some .boolean) ∈ fTb := fTb_in (List.mem_of_getElem? (i := 897) (by decide +kernel)) rfl
theorem wc_X8_isForm : Cond.code yX8_isForm cX8_isForm 2 (some .boolean) ∈ fTb := fTb_in (List.mem_of_getElem? (i := 901) (by decide +kernel)) rfl
theorem wc_X8_about : Cond.code yX8_about cX8_about 3 (some .int) ∈ fTb := fTb_in (List.mem_of_getElem? (i := 905) (by decide +kernel)) rfl
theorem wc_X8_aboutNow : Cond.code yX8_aboutNow cX8_aboutNow 3 (some .int) ∈ fTb := fTb_in (List.mem_of_getElem? (i := 909) (by decide +kernel)) rfl
theorem wc_X8_above : Cond.code yX8_above cX8_above 4 (some .int) ∈ fTb := fTb_in (List.mem_of_getElem? (i := 913) (by decide +kernel)) rfl
theorem wc_X8_det : Cond.code yX8_det cX8_det 4 (some .int) ∈ fTb := fTb_in (List.mem_of_getElem? (i := 917) (by decide +kernel)) rfl
theorem wc_X8_hasseOf : Cond.code yX8_hasseOf cX8_hasseOf 2 (some .int) ∈ fTb := fTb_in (List.mem_of_getElem? (i := 921) (by decide +kernel)) rfl
theorem wc_X8_layForm : Cond.code yX8_layForm cX8_layForm 5 none ∈ fTb := fTb_in (List.mem_of_getElem? (i := 925) (by decide +kernel)) rfl
theorem wc_X8_unlike : Cond.code yX8_unlike cX8_unlike 5 (some .int) ∈ fTb := fTb_in (List.mem_of_getElem? (i := 929) (by decide +kernel)) rfl
theorem wc_X8_lookAt : Cond.code yX8_lookAt cX8_lookAt 3 none ∈ fTb := fTb_in (List.mem_of_getElem? (i := 933) (by decide +kernel)) rfl
theorem wc_X8_barsNow : Cond.code yX8_barsNow cX8_barsNow 3 (some .int) ∈ fTb := fTb_in (List.mem_of_getElem? (i := 937) (by decide +kernel)) rfl
theorem wc_X8_barsOf : Cond.code yX8_barsOf cX8_barsOf 2 (some .int) ∈ fTb := fTb_in (List.mem_of_getElem? (i := 941) (by decide +kernel)) rfl
theorem wc_X8_planes : Cond.code yX8_planes cX8_planes 2 (some .int) ∈ fTb := fTb_in (List.mem_of_getElem? (i := 945) (by decide +kernel)) rfl
theorem wc_X8_restDet : Cond.code yX8_restDet cX8_restDet 2 (some .int) ∈ fTb := fTb_in (List.mem_of_getElem? (i := 949) (by decide +kernel)) rfl
theorem wc_X8_restHasse : Cond.code yX8_restHasse cX8_restHasse 3 (some .int) ∈ fTb := fTb_in (List.mem_of_getElem? (i := 953) (by decide +kernel)) rfl
theorem wc_X8_leastLike : Cond.code yX8_leastLike cX8_leastLike 3 (some .int) ∈ fTb := fTb_in (List.mem_of_getElem? (i := 957) (by decide +kernel)) rfl
theorem wc_X8_unlikeOf : Cond.code yX8_unlikeOf cX8_unlikeOf 5 (some .int) ∈ fTb := fTb_in (List.mem_of_getElem? (i := 961) (by decide +kernel)) rfl
theorem wc_X8_isLikeAt : Cond.code yX8_isLikeAt cX8_isLikeAt 4 (some .boolean) ∈ fTb := fTb_in (List.mem_of_getElem? (i := 965) (by decide +kernel)) rfl
theorem wc_X8_like : Cond.code yX8_like cX8_like 3 (some .int) ∈ fTb := fTb_in (List.mem_of_getElem? (i := 969) (by decide +kernel)) rfl
theorem wc_X8_meets : Cond.code yX8_meets cX8_meets 3 (some .int) ∈ fTb := fTb_in (List.mem_of_getElem? (i := 973) (by decide +kernel)) rfl
theorem wc_X8_meetsNow : Cond.code yX8_meetsNow cX8_meetsNow 3 (some .int) ∈ fTb := fTb_in (List.mem_of_getElem? (i := 977) (by decide +kernel)) rfl
theorem wc_X8_lookMore : Cond.code yX8_lookMore cX8_lookMore 2 none ∈ fTb := fTb_in (List.mem_of_getElem? (i := 981) (by decide +kernel)) rfl
theorem wc_X8_row : Cond.code yX8_row cX8_row 3 (some .int) ∈ fTb := fTb_in (List.mem_of_getElem? (i := 985) (by decide +kernel)) rfl
theorem wc_X8_find : Cond.code yX8_find cX8_find 4 (some .boolean) ∈ fTb := fTb_in (List.mem_of_getElem? (i := 989) (by decide +kernel)) rfl
theorem wc_X8_findBy : Cond.code yX8_findBy cX8_findBy 4 (some .boolean) ∈ fTb := fTb_in (List.mem_of_getElem? (i := 993) (by decide +kernel)) rfl
theorem wc_X8_goesOn : Cond.code yX8_goesOn cX8_goesOn 3 (some .boolean) ∈ fTb := fTb_in (List.mem_of_getElem? (i := 997) (by decide +kernel)) rfl
theorem wc_X8_comesToNothing : Cond.code yX8_comesToNothing cX8_comesToNothing 5 (some .boolean) ∈ fTb := fTb_in (List.mem_of_getElem? (i := 1001) (by decide +kernel)) rfl
theorem wc_X8_way : Cond.code yX8_way cX8_way 4 (some .int) ∈ fTb := fTb_in (List.mem_of_getElem? (i := 1005) (by decide +kernel)) rfl
theorem wc_X8_clear : Cond.code yX8_clear cX8_clear 3 (some .int) ∈ fTb := fTb_in (List.mem_of_getElem? (i := 1009) (by decide +kernel)) rfl
theorem wc_X8_join : Cond.code yX8_join cX8_join 5 (some .int) ∈ fTb := fTb_in (List.mem_of_getElem? (i := 1013) (by decide +kernel)) rfl
theorem wc_X8_take : Cond.code yX8_take cX8_take 3 none ∈ fTb := fTb_in (List.mem_of_getElem? (i := 1017) (by decide +kernel)) rfl
theorem wc_X8_times : Cond.code yX8_times cX8_times 5 (some .int) ∈ fTb := fTb_in (List.mem_of_getElem? (i := 1021) (by decide +kernel)) rfl
theorem wc_X8_scale : Cond.code yX8_scale cX8_scale 4 (some .int) ∈ fTb := fTb_in (List.mem_of_getElem? (i := 1025) (by decide +kernel)) rfl
theorem wc_X8_turn : Cond.code yX8_turn cX8_turn 9 (some .int) ∈ fTb := fTb_in (List.mem_of_getElem? (i := 1029) (by decide +kernel)) rfl
theorem wc_X8_isSquared : Cond.code yX8_isSquared cX8_isSquared 2 (some .boolean) ∈ fTb := fTb_in (List.mem_of_getElem? (i := 1032) (by decide +kernel)) rfl
theorem wc_X8_drop : Cond.code yX8_drop cX8_drop 4 (some .int) ∈ fTb := fTb_in (List.mem_of_getElem? (i := 1036) (by decide +kernel)) rfl
theorem wc_X8_undo : Cond.code yX8_undo cX8_undo 3 (some .int) ∈ fTb := fTb_in (List.mem_of_getElem? (i := 1040) (by decide +kernel)) rfl
theorem wc_X8_pairs : Cond.code yX8_pairs cX8_pairs 4 (some .int) ∈ fTb := fTb_in (List.mem_of_getElem? (i := 1044) (by decide +kernel)) rfl
theorem wc_X8_addPair : Cond.code yX8_addPair cX8_addPair 6 none ∈ fTb := fTb_in (List.mem_of_getElem? (i := 1048) (by decide +kernel)) rfl
theorem wc_X8_common : Cond.code yX8_common cX8_common 5 (some .int) ∈ fTb := fTb_in (List.mem_of_getElem? (i := 1051) (by decide +kernel)) rfl
theorem wc_X8_layMet : Cond.code yX8_layMet cX8_layMet 6 none ∈ fTb := fTb_in (List.mem_of_getElem? (i := 1055) (by decide +kernel)) rfl
theorem wc_X8_isSame : Cond.code yX8_isSame cX8_isSame 5 (some .boolean) ∈ fTb := fTb_in (List.mem_of_getElem? (i := 1059) (by decide +kernel)) rfl
theorem wc_X8_pair : Cond.code yX8_pair cX8_pair 3 (some .int) ∈ fTb := fTb_in (List.mem_of_getElem? (i := 1063) (by decide +kernel)) rfl
theorem wc_X8_isPair : Cond.code yX8_isPair cX8_isPair 2 (some .boolean) ∈ fTb := fTb_in (List.mem_of_getElem? (i := 1067) (by decide +kernel)) rfl
theorem wc_X8_pairNow : Cond.code yX8_pairNow cX8_pairNow 3 (some .int) ∈ fTb := fTb_in (List.mem_of_getElem? (i := 1071) (by decide +kernel)) rfl
theorem wc_X8_met : Cond.code yX8_met cX8_met 3 (some .int) ∈ fTb := fTb_in (List.mem_of_getElem? (i := 1075) (by decide +kernel)) rfl
theorem wc_X8_lay : Cond.code yX8_lay cX8_lay 3 (some .int) ∈ fTb := fTb_in (List.mem_of_getElem? (i := 1079) (by decide +kernel)) rfl
theorem wc_X8_count : Cond.code yX8_count cX8_count 2 (some .int) ∈ fTb := fTb_in (List.mem_of_getElem? (i := 1083) (by decide +kernel)) rfl
theorem wc_X8_howMany : Cond.code yX8_howMany cX8_howMany 2 (some .int) ∈ fTb := fTb_in (List.mem_of_getElem? (i := 1087) (by decide +kernel)) rfl
theorem wc_X8_shelves : Cond.code yX8_shelves cX8_shelves 4 (some .int) ∈ fTb := fTb_in (List.mem_of_getElem? (i := 1091) (by decide +kernel)) rfl
theorem wc_X8_genera : Cond.code yX8_genera cX8_genera 3 (some .int) ∈ fTb := fTb_in (List.mem_of_getElem? (i := 1095) (by decide +kernel)) rfl
theorem wc_X8_digest : Cond.code yX8_digest cX8_digest 2 (some .long) ∈ fTb := fTb_in (List.mem_of_getElem? (i := 1099) (by decide +kernel)) rfl
theorem wc_X8_mixForm : Cond.code yX8_mixForm cX8_mixForm 3 none ∈ fTb := fTb_in (List.mem_of_getElem? (i := 1104) (by decide +kernel)) rfl
theorem wc_X8_mix : Cond.code yX8_mix cX8_mix 3 none ∈ fTb := fTb_in (List.mem_of_getElem? (i := 1108) (by decide +kernel)) rfl
theorem wt_X3_isDigit : Cond.static yX3_isDigit ∈ fTb := fTb_in (List.mem_of_getElem? (i := 285) (by decide +kernel)) rfl
theorem wt_X3_goesOn : Cond.static yX3_goesOn ∈ fTb := fTb_in (List.mem_of_getElem? (i := 288) (by decide +kernel)) rfl
theorem wt_X2_isNumber : Cond.static yX2_isNumber ∈ fTb := fTb_in (List.mem_of_getElem? (i := 291) (by decide +kernel)) rfl
theorem wt_X2_roughPart : Cond.static yX2_roughPart ∈ fTb := fTb_in (List.mem_of_getElem? (i := 294) (by decide +kernel)) rfl
theorem wt_J9_abs_0f7a4 : Cond.static yJ9_abs_0f7a4 ∈ fTb := fTb_in (List.mem_of_getElem? (i := 297) (by decide +kernel)) rfl
theorem wt_X2_kindOf : Cond.static yX2_kindOf ∈ fTb := fTb_in (List.mem_of_getElem? (i := 302) (by decide +kernel)) rfl
theorem wt_X7_isShelf : Cond.static yX7_isShelf ∈ fTb := fTb_in (List.mem_of_getElem? (i := 313) (by decide +kernel)) rfl
theorem wt_X2_coreOf : Cond.static yX2_coreOf ∈ fTb := fTb_in (List.mem_of_getElem? (i := 344) (by decide +kernel)) rfl
theorem wt_X6_turned : Cond.static yX6_turned ∈ fTb := fTb_in (List.mem_of_getElem? (i := 359) (by decide +kernel)) rfl
theorem wt_J9_floorMod_7cf53 : Cond.static yJ9_floorMod_7cf53 ∈ fTb := fTb_in (List.mem_of_getElem? (i := 381) (by decide +kernel)) rfl
theorem wt_J9_min_7cf53 : Cond.static yJ9_min_7cf53 ∈ fTb := fTb_in (List.mem_of_getElem? (i := 388) (by decide +kernel)) rfl
theorem wt_X7_isKind : Cond.static yX7_isKind ∈ fTb := fTb_in (List.mem_of_getElem? (i := 402) (by decide +kernel)) rfl
theorem wt_X7_isPlace : Cond.static yX7_isPlace ∈ fTb := fTb_in (List.mem_of_getElem? (i := 410) (by decide +kernel)) rfl
theorem wt_X2_rootOf : Cond.static yX2_rootOf ∈ fTb := fTb_in (List.mem_of_getElem? (i := 509) (by decide +kernel)) rfl
theorem wt_J9_max_7cf53 : Cond.static yJ9_max_7cf53 ∈ fTb := fTb_in (List.mem_of_getElem? (i := 512) (by decide +kernel)) rfl
theorem wt_arraycopy : Cond.static arraycopyName ∈ fTb := fTb_in (List.mem_of_getElem? (i := 515) (by decide +kernel)) rfl
theorem wt_X2_isSquareTimesCore : Cond.static yX2_isSquareTimesCore ∈ fTb := fTb_in (List.mem_of_getElem? (i := 552) (by decide +kernel)) rfl
theorem wt_X2_commonPart : Cond.static yX2_commonPart ∈ fTb := fTb_in (List.mem_of_getElem? (i := 585) (by decide +kernel)) rfl
theorem wt_J13_bitCount_95d88 : Cond.static yJ13_bitCount_95d88 ∈ fTb := fTb_in (List.mem_of_getElem? (i := 622) (by decide +kernel)) rfl
theorem wt_X7_mix : Cond.static yX7_mix ∈ fTb := fTb_in (List.mem_of_getElem? (i := 663) (by decide +kernel)) rfl
theorem wt_X8_within : Cond.static yX8_within ∈ fTb := fTb_in (List.mem_of_getElem? (i := 783) (by decide +kernel)) rfl
theorem wt_X8_isNumber : Cond.static yX8_isNumber ∈ fTb := fTb_in (List.mem_of_getElem? (i := 806) (by decide +kernel)) rfl
theorem wt_X8_leftOf : Cond.static yX8_leftOf ∈ fTb := fTb_in (List.mem_of_getElem? (i := 809) (by decide +kernel)) rfl
theorem wt_X8_primeAt : Cond.static yX8_primeAt ∈ fTb := fTb_in (List.mem_of_getElem? (i := 812) (by decide +kernel)) rfl
theorem wt_X8_kindOf : Cond.static yX8_kindOf ∈ fTb := fTb_in (List.mem_of_getElem? (i := 815) (by decide +kernel)) rfl
theorem wt_X8_isShelf : Cond.static yX8_isShelf ∈ fTb := fTb_in (List.mem_of_getElem? (i := 822) (by decide +kernel)) rfl
theorem wt_X8_isKind : Cond.static yX8_isKind ∈ fTb := fTb_in (List.mem_of_getElem? (i := 845) (by decide +kernel)) rfl
theorem wt_X8_coreOf : Cond.static yX8_coreOf ∈ fTb := fTb_in (List.mem_of_getElem? (i := 848) (by decide +kernel)) rfl
theorem wt_X8_isIn : Cond.static yX8_isIn ∈ fTb := fTb_in (List.mem_of_getElem? (i := 851) (by decide +kernel)) rfl
theorem wt_X8_isPlace : Cond.static yX8_isPlace ∈ fTb := fTb_in (List.mem_of_getElem? (i := 858) (by decide +kernel)) rfl
theorem wt_X8_modAt : Cond.static yX8_modAt ∈ fTb := fTb_in (List.mem_of_getElem? (i := 873) (by decide +kernel)) rfl
theorem wt_X8_isSquare : Cond.static yX8_isSquare ∈ fTb := fTb_in (List.mem_of_getElem? (i := 888) (by decide +kernel)) rfl
theorem wt_X8_isSquared : Cond.static yX8_isSquared ∈ fTb := fTb_in (List.mem_of_getElem? (i := 1031) (by decide +kernel)) rfl
theorem wt_X8_common : Cond.static yX8_common ∈ fTb := fTb_in (List.mem_of_getElem? (i := 1050) (by decide +kernel)) rfl
theorem wi_X7_init : Cond.instanceMethod yX7_init ∈ fTb := fTb_in (List.mem_of_getElem? (i := 80) (by decide +kernel)) rfl
theorem wi_X3_init : Cond.instanceMethod yX3_init ∈ fTb := fTb_in (List.mem_of_getElem? (i := 88) (by decide +kernel)) rfl
theorem wi_X0_init : Cond.instanceMethod yX0_init ∈ fTb := fTb_in (List.mem_of_getElem? (i := 104) (by decide +kernel)) rfl
theorem wi_X5_init : Cond.instanceMethod yX5_init ∈ fTb := fTb_in (List.mem_of_getElem? (i := 128) (by decide +kernel)) rfl
theorem wi_X4_init : Cond.instanceMethod yX4_init ∈ fTb := fTb_in (List.mem_of_getElem? (i := 158) (by decide +kernel)) rfl
theorem wi_X6_init : Cond.instanceMethod yX6_init ∈ fTb := fTb_in (List.mem_of_getElem? (i := 197) (by decide +kernel)) rfl
theorem wi_X1_init : Cond.instanceMethod yX1_init ∈ fTb := fTb_in (List.mem_of_getElem? (i := 212) (by decide +kernel)) rfl
theorem wi_X7_letter : Cond.instanceMethod yX7_letter ∈ fTb := fTb_in (List.mem_of_getElem? (i := 257) (by decide +kernel)) rfl
theorem wi_X3_write : Cond.instanceMethod yX3_write ∈ fTb := fTb_in (List.mem_of_getElem? (i := 261) (by decide +kernel)) rfl
theorem wi_X7_blank : Cond.instanceMethod yX7_blank ∈ fTb := fTb_in (List.mem_of_getElem? (i := 265) (by decide +kernel)) rfl
theorem wi_X7_fault : Cond.instanceMethod yX7_fault ∈ fTb := fTb_in (List.mem_of_getElem? (i := 269) (by decide +kernel)) rfl
theorem wi_X3_readInto : Cond.instanceMethod yX3_readInto ∈ fTb := fTb_in (List.mem_of_getElem? (i := 273) (by decide +kernel)) rfl
theorem wi_X0_empty : Cond.instanceMethod yX0_empty ∈ fTb := fTb_in (List.mem_of_getElem? (i := 277) (by decide +kernel)) rfl
theorem wi_X3_codeAt : Cond.instanceMethod yX3_codeAt ∈ fTb := fTb_in (List.mem_of_getElem? (i := 281) (by decide +kernel)) rfl
theorem wi_X0_add : Cond.instanceMethod yX0_add ∈ fTb := fTb_in (List.mem_of_getElem? (i := 305) (by decide +kernel)) rfl
theorem wi_X7_put : Cond.instanceMethod yX7_put ∈ fTb := fTb_in (List.mem_of_getElem? (i := 309) (by decide +kernel)) rfl
theorem wi_X3_endsInDigit : Cond.instanceMethod yX3_endsInDigit ∈ fTb := fTb_in (List.mem_of_getElem? (i := 316) (by decide +kernel)) rfl
theorem wi_X7_shelveDraft : Cond.instanceMethod yX7_shelveDraft ∈ fTb := fTb_in (List.mem_of_getElem? (i := 321) (by decide +kernel)) rfl
theorem wi_X0_settle : Cond.instanceMethod yX0_settle ∈ fTb := fTb_in (List.mem_of_getElem? (i := 324) (by decide +kernel)) rfl
theorem wi_X0_kindAt : Cond.instanceMethod yX0_kindAt ∈ fTb := fTb_in (List.mem_of_getElem? (i := 328) (by decide +kernel)) rfl
theorem wi_X6_symbolBits : Cond.instanceMethod yX6_symbolBits ∈ fTb := fTb_in (List.mem_of_getElem? (i := 332) (by decide +kernel)) rfl
theorem wi_X6_start : Cond.instanceMethod yX6_start ∈ fTb := fTb_in (List.mem_of_getElem? (i := 336) (by decide +kernel)) rfl
theorem wi_X6_add : Cond.instanceMethod yX6_add ∈ fTb := fTb_in (List.mem_of_getElem? (i := 340) (by decide +kernel)) rfl
theorem wi_X6_bars : Cond.instanceMethod yX6_bars ∈ fTb := fTb_in (List.mem_of_getElem? (i := 347) (by decide +kernel)) rfl
theorem wi_X6_vanishesAtReal : Cond.instanceMethod yX6_vanishesAtReal ∈ fTb := fTb_in (List.mem_of_getElem? (i := 352) (by decide +kernel)) rfl
theorem wi_X6_vanishesAtTwo : Cond.instanceMethod yX6_vanishesAtTwo ∈ fTb := fTb_in (List.mem_of_getElem? (i := 356) (by decide +kernel)) rfl
theorem wi_X6_partVanishes : Cond.instanceMethod yX6_partVanishes ∈ fTb := fTb_in (List.mem_of_getElem? (i := 365) (by decide +kernel)) rfl
theorem wi_X6_addAll : Cond.instanceMethod yX6_addAll ∈ fTb := fTb_in (List.mem_of_getElem? (i := 371) (by decide +kernel)) rfl
theorem wi_X5_keep : Cond.instanceMethod yX5_keep ∈ fTb := fTb_in (List.mem_of_getElem? (i := 377) (by decide +kernel)) rfl
theorem wi_X0_copy : Cond.instanceMethod yX0_copy ∈ fTb := fTb_in (List.mem_of_getElem? (i := 384) (by decide +kernel)) rfl
theorem wi_X7_classOf : Cond.instanceMethod yX7_classOf ∈ fTb := fTb_in (List.mem_of_getElem? (i := 392) (by decide +kernel)) rfl
theorem wi_X7_core : Cond.instanceMethod yX7_core ∈ fTb := fTb_in (List.mem_of_getElem? (i := 398) (by decide +kernel)) rfl
theorem wi_X7_symbol : Cond.instanceMethod yX7_symbol ∈ fTb := fTb_in (List.mem_of_getElem? (i := 406) (by decide +kernel)) rfl
theorem wi_X7_square : Cond.instanceMethod yX7_square ∈ fTb := fTb_in (List.mem_of_getElem? (i := 415) (by decide +kernel)) rfl
theorem wi_X6_unsquareBits : Cond.instanceMethod yX6_unsquareBits ∈ fTb := fTb_in (List.mem_of_getElem? (i := 419) (by decide +kernel)) rfl
theorem wi_X7_at : Cond.instanceMethod yX7_at ∈ fTb := fTb_in (List.mem_of_getElem? (i := 423) (by decide +kernel)) rfl
theorem wi_X7_hasTerm : Cond.instanceMethod yX7_hasTerm ∈ fTb := fTb_in (List.mem_of_getElem? (i := 428) (by decide +kernel)) rfl
theorem wi_X7_about : Cond.instanceMethod yX7_about ∈ fTb := fTb_in (List.mem_of_getElem? (i := 432) (by decide +kernel)) rfl
theorem wi_X7_hasForm : Cond.instanceMethod yX7_hasForm ∈ fTb := fTb_in (List.mem_of_getElem? (i := 437) (by decide +kernel)) rfl
theorem wi_X0_countAbove : Cond.instanceMethod yX0_countAbove ∈ fTb := fTb_in (List.mem_of_getElem? (i := 440) (by decide +kernel)) rfl
theorem wi_X0_det : Cond.instanceMethod yX0_det ∈ fTb := fTb_in (List.mem_of_getElem? (i := 444) (by decide +kernel)) rfl
theorem wi_X0_planes : Cond.instanceMethod yX0_planes ∈ fTb := fTb_in (List.mem_of_getElem? (i := 448) (by decide +kernel)) rfl
theorem wi_X0_restDet : Cond.instanceMethod yX0_restDet ∈ fTb := fTb_in (List.mem_of_getElem? (i := 453) (by decide +kernel)) rfl
theorem wi_X0_restHasse : Cond.instanceMethod yX0_restHasse ∈ fTb := fTb_in (List.mem_of_getElem? (i := 458) (by decide +kernel)) rfl
theorem wi_X7_leastLike : Cond.instanceMethod yX7_leastLike ∈ fTb := fTb_in (List.mem_of_getElem? (i := 464) (by decide +kernel)) rfl
theorem wi_X0_isLike : Cond.instanceMethod yX0_isLike ∈ fTb := fTb_in (List.mem_of_getElem? (i := 467) (by decide +kernel)) rfl
theorem wi_X7_like : Cond.instanceMethod yX7_like ∈ fTb := fTb_in (List.mem_of_getElem? (i := 472) (by decide +kernel)) rfl
theorem wi_X7_unlikeBits : Cond.instanceMethod yX7_unlikeBits ∈ fTb := fTb_in (List.mem_of_getElem? (i := 477) (by decide +kernel)) rfl
theorem wi_X7_meets : Cond.instanceMethod yX7_meets ∈ fTb := fTb_in (List.mem_of_getElem? (i := 480) (by decide +kernel)) rfl
theorem wi_X7_startAgainst : Cond.instanceMethod yX7_startAgainst ∈ fTb := fTb_in (List.mem_of_getElem? (i := 485) (by decide +kernel)) rfl
theorem wi_X7_row : Cond.instanceMethod yX7_row ∈ fTb := fTb_in (List.mem_of_getElem? (i := 492) (by decide +kernel)) rfl
theorem wi_X1_find : Cond.instanceMethod yX1_find ∈ fTb := fTb_in (List.mem_of_getElem? (i := 496) (by decide +kernel)) rfl
theorem wi_X1_seek : Cond.instanceMethod yX1_seek ∈ fTb := fTb_in (List.mem_of_getElem? (i := 502) (by decide +kernel)) rfl
theorem wi_X1_finish : Cond.instanceMethod yX1_finish ∈ fTb := fTb_in (List.mem_of_getElem? (i := 506) (by decide +kernel)) rfl
theorem wi_X1_numberAt : Cond.instanceMethod yX1_numberAt ∈ fTb := fTb_in (List.mem_of_getElem? (i := 518) (by decide +kernel)) rfl
theorem wi_X7_way : Cond.instanceMethod yX7_way ∈ fTb := fTb_in (List.mem_of_getElem? (i := 522) (by decide +kernel)) rfl
theorem wi_X7_clear : Cond.instanceMethod yX7_clear ∈ fTb := fTb_in (List.mem_of_getElem? (i := 526) (by decide +kernel)) rfl
theorem wi_X7_join : Cond.instanceMethod yX7_join ∈ fTb := fTb_in (List.mem_of_getElem? (i := 531) (by decide +kernel)) rfl
theorem wi_X0_addTimes : Cond.instanceMethod yX0_addTimes ∈ fTb := fTb_in (List.mem_of_getElem? (i := 535) (by decide +kernel)) rfl
theorem wi_X7_times : Cond.instanceMethod yX7_times ∈ fTb := fTb_in (List.mem_of_getElem? (i := 540) (by decide +kernel)) rfl
theorem wi_X7_scale : Cond.instanceMethod yX7_scale ∈ fTb := fTb_in (List.mem_of_getElem? (i := 544) (by decide +kernel)) rfl
theorem wi_X7_turn : Cond.instanceMethod yX7_turn ∈ fTb := fTb_in (List.mem_of_getElem? (i := 548) (by decide +kernel)) rfl
theorem wi_X0_change : Cond.instanceMethod yX0_change ∈ fTb := fTb_in (List.mem_of_getElem? (i := 556) (by decide +kernel)) rfl
theorem wi_X7_drop : Cond.instanceMethod yX7_drop ∈ fTb := fTb_in (List.mem_of_getElem? (i := 560) (by decide +kernel)) rfl
theorem wi_X7_undo : Cond.instanceMethod yX7_undo ∈ fTb := fTb_in (List.mem_of_getElem? (i := 565) (by decide +kernel)) rfl
theorem wi_X5_takeBack : Cond.instanceMethod yX5_takeBack ∈ fTb := fTb_in (List.mem_of_getElem? (i := 569) (by decide +kernel)) rfl
theorem wi_X7_pairs : Cond.instanceMethod yX7_pairs ∈ fTb := fTb_in (List.mem_of_getElem? (i := 573) (by decide +kernel)) rfl
theorem wi_X4_open : Cond.instanceMethod yX4_open ∈ fTb := fTb_in (List.mem_of_getElem? (i := 577) (by decide +kernel)) rfl
theorem wi_X4_addIfReduced : Cond.instanceMethod yX4_addIfReduced ∈ fTb := fTb_in (List.mem_of_getElem? (i := 582) (by decide +kernel)) rfl
theorem wi_X4_findRests : Cond.instanceMethod yX4_findRests ∈ fTb := fTb_in (List.mem_of_getElem? (i := 589) (by decide +kernel)) rfl
theorem wi_X4_has : Cond.instanceMethod yX4_has ∈ fTb := fTb_in (List.mem_of_getElem? (i := 592) (by decide +kernel)) rfl
theorem wi_X4_isMet : Cond.instanceMethod yX4_isMet ∈ fTb := fTb_in (List.mem_of_getElem? (i := 597) (by decide +kernel)) rfl
theorem wi_X4_addWithSquares : Cond.instanceMethod yX4_addWithSquares ∈ fTb := fTb_in (List.mem_of_getElem? (i := 602) (by decide +kernel)) rfl
theorem wi_X4_leastSame : Cond.instanceMethod yX4_leastSame ∈ fTb := fTb_in (List.mem_of_getElem? (i := 606) (by decide +kernel)) rfl
theorem wi_X4_meetSame : Cond.instanceMethod yX4_meetSame ∈ fTb := fTb_in (List.mem_of_getElem? (i := 610) (by decide +kernel)) rfl
theorem wi_X7_pair : Cond.instanceMethod yX7_pair ∈ fTb := fTb_in (List.mem_of_getElem? (i := 613) (by decide +kernel)) rfl
theorem wi_X4_countMet : Cond.instanceMethod yX4_countMet ∈ fTb := fTb_in (List.mem_of_getElem? (i := 618) (by decide +kernel)) rfl
theorem wi_X7_met : Cond.instanceMethod yX7_met ∈ fTb := fTb_in (List.mem_of_getElem? (i := 628) (by decide +kernel)) rfl
theorem wi_X7_lay : Cond.instanceMethod yX7_lay ∈ fTb := fTb_in (List.mem_of_getElem? (i := 633) (by decide +kernel)) rfl
theorem wi_X7_count : Cond.instanceMethod yX7_count ∈ fTb := fTb_in (List.mem_of_getElem? (i := 638) (by decide +kernel)) rfl
theorem wi_X7_countForms : Cond.instanceMethod yX7_countForms ∈ fTb := fTb_in (List.mem_of_getElem? (i := 643) (by decide +kernel)) rfl
theorem wi_X7_countTerms : Cond.instanceMethod yX7_countTerms ∈ fTb := fTb_in (List.mem_of_getElem? (i := 647) (by decide +kernel)) rfl
theorem wi_X7_countUnlike : Cond.instanceMethod yX7_countUnlike ∈ fTb := fTb_in (List.mem_of_getElem? (i := 651) (by decide +kernel)) rfl
theorem wi_X4_countGenera : Cond.instanceMethod yX4_countGenera ∈ fTb := fTb_in (List.mem_of_getElem? (i := 654) (by decide +kernel)) rfl
theorem wi_X7_digest : Cond.instanceMethod yX7_digest ∈ fTb := fTb_in (List.mem_of_getElem? (i := 658) (by decide +kernel)) rfl
theorem wi_X8_init : Cond.instanceMethod yX8_init ∈ fTb := fTb_in (List.mem_of_getElem? (i := 674) (by decide +kernel)) rfl
theorem wi_X8_letter : Cond.instanceMethod yX8_letter ∈ fTb := fTb_in (List.mem_of_getElem? (i := 779) (by decide +kernel)) rfl
theorem wi_X8_blank : Cond.instanceMethod yX8_blank ∈ fTb := fTb_in (List.mem_of_getElem? (i := 786) (by decide +kernel)) rfl
theorem wi_X8_fault : Cond.instanceMethod yX8_fault ∈ fTb := fTb_in (List.mem_of_getElem? (i := 790) (by decide +kernel)) rfl
theorem wi_X8_read : Cond.instanceMethod yX8_read ∈ fTb := fTb_in (List.mem_of_getElem? (i := 795) (by decide +kernel)) rfl
theorem wi_X8_readNumber : Cond.instanceMethod yX8_readNumber ∈ fTb := fTb_in (List.mem_of_getElem? (i := 799) (by decide +kernel)) rfl
theorem wi_X8_letterAt : Cond.instanceMethod yX8_letterAt ∈ fTb := fTb_in (List.mem_of_getElem? (i := 803) (by decide +kernel)) rfl
theorem wi_X8_put : Cond.instanceMethod yX8_put ∈ fTb := fTb_in (List.mem_of_getElem? (i := 818) (by decide +kernel)) rfl
theorem wi_X8_layNew : Cond.instanceMethod yX8_layNew ∈ fTb := fTb_in (List.mem_of_getElem? (i := 826) (by decide +kernel)) rfl
theorem wi_X8_keep : Cond.instanceMethod yX8_keep ∈ fTb := fTb_in (List.mem_of_getElem? (i := 830) (by decide +kernel)) rfl
theorem wi_X8_dropOldest : Cond.instanceMethod yX8_dropOldest ∈ fTb := fTb_in (List.mem_of_getElem? (i := 834) (by decide +kernel)) rfl
theorem wi_X8_classOf : Cond.instanceMethod yX8_classOf ∈ fTb := fTb_in (List.mem_of_getElem? (i := 837) (by decide +kernel)) rfl
theorem wi_X8_core : Cond.instanceMethod yX8_core ∈ fTb := fTb_in (List.mem_of_getElem? (i := 841) (by decide +kernel)) rfl
theorem wi_X8_symbol : Cond.instanceMethod yX8_symbol ∈ fTb := fTb_in (List.mem_of_getElem? (i := 854) (by decide +kernel)) rfl
theorem wi_X8_symbolNow : Cond.instanceMethod yX8_symbolNow ∈ fTb := fTb_in (List.mem_of_getElem? (i := 862) (by decide +kernel)) rfl
theorem wi_X8_vanishes : Cond.instanceMethod yX8_vanishes ∈ fTb := fTb_in (List.mem_of_getElem? (i := 866) (by decide +kernel)) rfl
theorem wi_X8_vanishesReal : Cond.instanceMethod yX8_vanishesReal ∈ fTb := fTb_in (List.mem_of_getElem? (i := 870) (by decide +kernel)) rfl
theorem wi_X8_addTerm : Cond.instanceMethod yX8_addTerm ∈ fTb := fTb_in (List.mem_of_getElem? (i := 877) (by decide +kernel)) rfl
theorem wi_X8_addRests : Cond.instanceMethod yX8_addRests ∈ fTb := fTb_in (List.mem_of_getElem? (i := 881) (by decide +kernel)) rfl
theorem wi_X8_square : Cond.instanceMethod yX8_square ∈ fTb := fTb_in (List.mem_of_getElem? (i := 884) (by decide +kernel)) rfl
theorem wi_X8_at : Cond.instanceMethod yX8_at ∈ fTb := fTb_in (List.mem_of_getElem? (i := 891) (by decide +kernel)) rfl
theorem wi_X8_isTerm : Cond.instanceMethod yX8_isTerm ∈ fTb := fTb_in (List.mem_of_getElem? (i := 896) (by decide +kernel)) rfl
theorem wi_X8_isForm : Cond.instanceMethod yX8_isForm ∈ fTb := fTb_in (List.mem_of_getElem? (i := 900) (by decide +kernel)) rfl
theorem wi_X8_about : Cond.instanceMethod yX8_about ∈ fTb := fTb_in (List.mem_of_getElem? (i := 903) (by decide +kernel)) rfl
theorem wi_X8_aboutNow : Cond.instanceMethod yX8_aboutNow ∈ fTb := fTb_in (List.mem_of_getElem? (i := 908) (by decide +kernel)) rfl
theorem wi_X8_above : Cond.instanceMethod yX8_above ∈ fTb := fTb_in (List.mem_of_getElem? (i := 912) (by decide +kernel)) rfl
theorem wi_X8_det : Cond.instanceMethod yX8_det ∈ fTb := fTb_in (List.mem_of_getElem? (i := 916) (by decide +kernel)) rfl
theorem wi_X8_hasseOf : Cond.instanceMethod yX8_hasseOf ∈ fTb := fTb_in (List.mem_of_getElem? (i := 920) (by decide +kernel)) rfl
theorem wi_X8_layForm : Cond.instanceMethod yX8_layForm ∈ fTb := fTb_in (List.mem_of_getElem? (i := 924) (by decide +kernel)) rfl
theorem wi_X8_unlike : Cond.instanceMethod yX8_unlike ∈ fTb := fTb_in (List.mem_of_getElem? (i := 928) (by decide +kernel)) rfl
theorem wi_X8_lookAt : Cond.instanceMethod yX8_lookAt ∈ fTb := fTb_in (List.mem_of_getElem? (i := 932) (by decide +kernel)) rfl
theorem wi_X8_barsNow : Cond.instanceMethod yX8_barsNow ∈ fTb := fTb_in (List.mem_of_getElem? (i := 936) (by decide +kernel)) rfl
theorem wi_X8_barsOf : Cond.instanceMethod yX8_barsOf ∈ fTb := fTb_in (List.mem_of_getElem? (i := 940) (by decide +kernel)) rfl
theorem wi_X8_planes : Cond.instanceMethod yX8_planes ∈ fTb := fTb_in (List.mem_of_getElem? (i := 944) (by decide +kernel)) rfl
theorem wi_X8_restDet : Cond.instanceMethod yX8_restDet ∈ fTb := fTb_in (List.mem_of_getElem? (i := 948) (by decide +kernel)) rfl
theorem wi_X8_restHasse : Cond.instanceMethod yX8_restHasse ∈ fTb := fTb_in (List.mem_of_getElem? (i := 952) (by decide +kernel)) rfl
theorem wi_X8_leastLike : Cond.instanceMethod yX8_leastLike ∈ fTb := fTb_in (List.mem_of_getElem? (i := 956) (by decide +kernel)) rfl
theorem wi_X8_unlikeOf : Cond.instanceMethod yX8_unlikeOf ∈ fTb := fTb_in (List.mem_of_getElem? (i := 960) (by decide +kernel)) rfl
theorem wi_X8_isLikeAt : Cond.instanceMethod yX8_isLikeAt ∈ fTb := fTb_in (List.mem_of_getElem? (i := 964) (by decide +kernel)) rfl
theorem wi_X8_like : Cond.instanceMethod yX8_like ∈ fTb := fTb_in (List.mem_of_getElem? (i := 967) (by decide +kernel)) rfl
theorem wi_X8_meets : Cond.instanceMethod yX8_meets ∈ fTb := fTb_in (List.mem_of_getElem? (i := 971) (by decide +kernel)) rfl
theorem wi_X8_meetsNow : Cond.instanceMethod yX8_meetsNow ∈ fTb := fTb_in (List.mem_of_getElem? (i := 976) (by decide +kernel)) rfl
theorem wi_X8_lookMore : Cond.instanceMethod yX8_lookMore ∈ fTb := fTb_in (List.mem_of_getElem? (i := 980) (by decide +kernel)) rfl
theorem wi_X8_row : Cond.instanceMethod yX8_row ∈ fTb := fTb_in (List.mem_of_getElem? (i := 983) (by decide +kernel)) rfl
theorem wi_X8_find : Cond.instanceMethod yX8_find ∈ fTb := fTb_in (List.mem_of_getElem? (i := 988) (by decide +kernel)) rfl
theorem wi_X8_findBy : Cond.instanceMethod yX8_findBy ∈ fTb := fTb_in (List.mem_of_getElem? (i := 992) (by decide +kernel)) rfl
theorem wi_X8_goesOn : Cond.instanceMethod yX8_goesOn ∈ fTb := fTb_in (List.mem_of_getElem? (i := 996) (by decide +kernel)) rfl
theorem wi_X8_comesToNothing : Cond.instanceMethod yX8_comesToNothing ∈ fTb := fTb_in (List.mem_of_getElem? (i := 1000) (by decide +kernel)) rfl
theorem wi_X8_way : Cond.instanceMethod yX8_way ∈ fTb := fTb_in (List.mem_of_getElem? (i := 1003) (by decide +kernel)) rfl
theorem wi_X8_clear : Cond.instanceMethod yX8_clear ∈ fTb := fTb_in (List.mem_of_getElem? (i := 1007) (by decide +kernel)) rfl
theorem wi_X8_join : Cond.instanceMethod yX8_join ∈ fTb := fTb_in (List.mem_of_getElem? (i := 1011) (by decide +kernel)) rfl
theorem wi_X8_take : Cond.instanceMethod yX8_take ∈ fTb := fTb_in (List.mem_of_getElem? (i := 1016) (by decide +kernel)) rfl
theorem wi_X8_times : Cond.instanceMethod yX8_times ∈ fTb := fTb_in (List.mem_of_getElem? (i := 1019) (by decide +kernel)) rfl
theorem wi_X8_scale : Cond.instanceMethod yX8_scale ∈ fTb := fTb_in (List.mem_of_getElem? (i := 1023) (by decide +kernel)) rfl
theorem wi_X8_turn : Cond.instanceMethod yX8_turn ∈ fTb := fTb_in (List.mem_of_getElem? (i := 1027) (by decide +kernel)) rfl
theorem wi_X8_drop : Cond.instanceMethod yX8_drop ∈ fTb := fTb_in (List.mem_of_getElem? (i := 1034) (by decide +kernel)) rfl
theorem wi_X8_undo : Cond.instanceMethod yX8_undo ∈ fTb := fTb_in (List.mem_of_getElem? (i := 1038) (by decide +kernel)) rfl
theorem wi_X8_pairs : Cond.instanceMethod yX8_pairs ∈ fTb := fTb_in (List.mem_of_getElem? (i := 1042) (by decide +kernel)) rfl
theorem wi_X8_addPair : Cond.instanceMethod yX8_addPair ∈ fTb := fTb_in (List.mem_of_getElem? (i := 1047) (by decide +kernel)) rfl
theorem wi_X8_layMet : Cond.instanceMethod yX8_layMet ∈ fTb := fTb_in (List.mem_of_getElem? (i := 1054) (by decide +kernel)) rfl
theorem wi_X8_isSame : Cond.instanceMethod yX8_isSame ∈ fTb := fTb_in (List.mem_of_getElem? (i := 1058) (by decide +kernel)) rfl
theorem wi_X8_pair : Cond.instanceMethod yX8_pair ∈ fTb := fTb_in (List.mem_of_getElem? (i := 1061) (by decide +kernel)) rfl
theorem wi_X8_isPair : Cond.instanceMethod yX8_isPair ∈ fTb := fTb_in (List.mem_of_getElem? (i := 1066) (by decide +kernel)) rfl
theorem wi_X8_pairNow : Cond.instanceMethod yX8_pairNow ∈ fTb := fTb_in (List.mem_of_getElem? (i := 1070) (by decide +kernel)) rfl
theorem wi_X8_met : Cond.instanceMethod yX8_met ∈ fTb := fTb_in (List.mem_of_getElem? (i := 1073) (by decide +kernel)) rfl
theorem wi_X8_lay : Cond.instanceMethod yX8_lay ∈ fTb := fTb_in (List.mem_of_getElem? (i := 1077) (by decide +kernel)) rfl
theorem wi_X8_count : Cond.instanceMethod yX8_count ∈ fTb := fTb_in (List.mem_of_getElem? (i := 1081) (by decide +kernel)) rfl
theorem wi_X8_howMany : Cond.instanceMethod yX8_howMany ∈ fTb := fTb_in (List.mem_of_getElem? (i := 1086) (by decide +kernel)) rfl
theorem wi_X8_shelves : Cond.instanceMethod yX8_shelves ∈ fTb := fTb_in (List.mem_of_getElem? (i := 1090) (by decide +kernel)) rfl
theorem wi_X8_genera : Cond.instanceMethod yX8_genera ∈ fTb := fTb_in (List.mem_of_getElem? (i := 1094) (by decide +kernel)) rfl
theorem wi_X8_digest : Cond.instanceMethod yX8_digest ∈ fTb := fTb_in (List.mem_of_getElem? (i := 1097) (by decide +kernel)) rfl
theorem wi_X8_mixForm : Cond.instanceMethod yX8_mixForm ∈ fTb := fTb_in (List.mem_of_getElem? (i := 1103) (by decide +kernel)) rfl
theorem wi_X8_mix : Cond.instanceMethod yX8_mix ∈ fTb := fTb_in (List.mem_of_getElem? (i := 1107) (by decide +kernel)) rfl
theorem wl_X7_letter : Cond.selects RX7 yX7_letter yX7_letter ∈ fTb := fTb_in (List.mem_of_getElem? (i := 258) (by decide +kernel)) rfl
theorem wl_X3_write : Cond.selects RX3 yX3_write yX3_write ∈ fTb := fTb_in (List.mem_of_getElem? (i := 262) (by decide +kernel)) rfl
theorem wl_X7_blank : Cond.selects RX7 yX7_blank yX7_blank ∈ fTb := fTb_in (List.mem_of_getElem? (i := 266) (by decide +kernel)) rfl
theorem wl_X7_fault : Cond.selects RX7 yX7_fault yX7_fault ∈ fTb := fTb_in (List.mem_of_getElem? (i := 270) (by decide +kernel)) rfl
theorem wl_X3_readInto : Cond.selects RX3 yX3_readInto yX3_readInto ∈ fTb := fTb_in (List.mem_of_getElem? (i := 274) (by decide +kernel)) rfl
theorem wl_X0_empty : Cond.selects RX0 yX0_empty yX0_empty ∈ fTb := fTb_in (List.mem_of_getElem? (i := 278) (by decide +kernel)) rfl
theorem wl_X3_codeAt : Cond.selects RX3 yX3_codeAt yX3_codeAt ∈ fTb := fTb_in (List.mem_of_getElem? (i := 282) (by decide +kernel)) rfl
theorem wl_X0_add : Cond.selects RX0 yX0_add yX0_add ∈ fTb := fTb_in (List.mem_of_getElem? (i := 306) (by decide +kernel)) rfl
theorem wl_X7_put : Cond.selects RX7 yX7_put yX7_put ∈ fTb := fTb_in (List.mem_of_getElem? (i := 310) (by decide +kernel)) rfl
theorem wl_X3_endsInDigit : Cond.selects RX3 yX3_endsInDigit yX3_endsInDigit ∈ fTb := fTb_in (List.mem_of_getElem? (i := 317) (by decide +kernel)) rfl
theorem wl_X0_settle : Cond.selects RX0 yX0_settle yX0_settle ∈ fTb := fTb_in (List.mem_of_getElem? (i := 325) (by decide +kernel)) rfl
theorem wl_X0_kindAt : Cond.selects RX0 yX0_kindAt yX0_kindAt ∈ fTb := fTb_in (List.mem_of_getElem? (i := 329) (by decide +kernel)) rfl
theorem wl_X6_symbolBits : Cond.selects RX6 yX6_symbolBits yX6_symbolBits ∈ fTb := fTb_in (List.mem_of_getElem? (i := 333) (by decide +kernel)) rfl
theorem wl_X6_start : Cond.selects RX6 yX6_start yX6_start ∈ fTb := fTb_in (List.mem_of_getElem? (i := 337) (by decide +kernel)) rfl
theorem wl_X6_add : Cond.selects RX6 yX6_add yX6_add ∈ fTb := fTb_in (List.mem_of_getElem? (i := 341) (by decide +kernel)) rfl
theorem wl_X6_bars : Cond.selects RX6 yX6_bars yX6_bars ∈ fTb := fTb_in (List.mem_of_getElem? (i := 348) (by decide +kernel)) rfl
theorem wl_X6_addAll : Cond.selects RX6 yX6_addAll yX6_addAll ∈ fTb := fTb_in (List.mem_of_getElem? (i := 372) (by decide +kernel)) rfl
theorem wl_X5_keep : Cond.selects RX5 yX5_keep yX5_keep ∈ fTb := fTb_in (List.mem_of_getElem? (i := 378) (by decide +kernel)) rfl
theorem wl_X0_copy : Cond.selects RX0 yX0_copy yX0_copy ∈ fTb := fTb_in (List.mem_of_getElem? (i := 385) (by decide +kernel)) rfl
theorem wl_X7_classOf : Cond.selects RX7 yX7_classOf yX7_classOf ∈ fTb := fTb_in (List.mem_of_getElem? (i := 393) (by decide +kernel)) rfl
theorem wl_X7_core : Cond.selects RX7 yX7_core yX7_core ∈ fTb := fTb_in (List.mem_of_getElem? (i := 399) (by decide +kernel)) rfl
theorem wl_X7_symbol : Cond.selects RX7 yX7_symbol yX7_symbol ∈ fTb := fTb_in (List.mem_of_getElem? (i := 407) (by decide +kernel)) rfl
theorem wl_X7_square : Cond.selects RX7 yX7_square yX7_square ∈ fTb := fTb_in (List.mem_of_getElem? (i := 416) (by decide +kernel)) rfl
theorem wl_X6_unsquareBits : Cond.selects RX6 yX6_unsquareBits yX6_unsquareBits ∈ fTb := fTb_in (List.mem_of_getElem? (i := 420) (by decide +kernel)) rfl
theorem wl_X7_at : Cond.selects RX7 yX7_at yX7_at ∈ fTb := fTb_in (List.mem_of_getElem? (i := 424) (by decide +kernel)) rfl
theorem wl_X7_about : Cond.selects RX7 yX7_about yX7_about ∈ fTb := fTb_in (List.mem_of_getElem? (i := 433) (by decide +kernel)) rfl
theorem wl_X0_countAbove : Cond.selects RX0 yX0_countAbove yX0_countAbove ∈ fTb := fTb_in (List.mem_of_getElem? (i := 441) (by decide +kernel)) rfl
theorem wl_X0_det : Cond.selects RX0 yX0_det yX0_det ∈ fTb := fTb_in (List.mem_of_getElem? (i := 445) (by decide +kernel)) rfl
theorem wl_X0_planes : Cond.selects RX0 yX0_planes yX0_planes ∈ fTb := fTb_in (List.mem_of_getElem? (i := 449) (by decide +kernel)) rfl
theorem wl_X0_restDet : Cond.selects RX0 yX0_restDet yX0_restDet ∈ fTb := fTb_in (List.mem_of_getElem? (i := 454) (by decide +kernel)) rfl
theorem wl_X0_restHasse : Cond.selects RX0 yX0_restHasse yX0_restHasse ∈ fTb := fTb_in (List.mem_of_getElem? (i := 459) (by decide +kernel)) rfl
theorem wl_X0_isLike : Cond.selects RX0 yX0_isLike yX0_isLike ∈ fTb := fTb_in (List.mem_of_getElem? (i := 468) (by decide +kernel)) rfl
theorem wl_X7_like : Cond.selects RX7 yX7_like yX7_like ∈ fTb := fTb_in (List.mem_of_getElem? (i := 473) (by decide +kernel)) rfl
theorem wl_X7_meets : Cond.selects RX7 yX7_meets yX7_meets ∈ fTb := fTb_in (List.mem_of_getElem? (i := 481) (by decide +kernel)) rfl
theorem wl_X7_row : Cond.selects RX7 yX7_row yX7_row ∈ fTb := fTb_in (List.mem_of_getElem? (i := 493) (by decide +kernel)) rfl
theorem wl_X1_find : Cond.selects RX1 yX1_find yX1_find ∈ fTb := fTb_in (List.mem_of_getElem? (i := 497) (by decide +kernel)) rfl
theorem wl_X1_numberAt : Cond.selects RX1 yX1_numberAt yX1_numberAt ∈ fTb := fTb_in (List.mem_of_getElem? (i := 519) (by decide +kernel)) rfl
theorem wl_X7_way : Cond.selects RX7 yX7_way yX7_way ∈ fTb := fTb_in (List.mem_of_getElem? (i := 523) (by decide +kernel)) rfl
theorem wl_X7_clear : Cond.selects RX7 yX7_clear yX7_clear ∈ fTb := fTb_in (List.mem_of_getElem? (i := 527) (by decide +kernel)) rfl
theorem wl_X7_join : Cond.selects RX7 yX7_join yX7_join ∈ fTb := fTb_in (List.mem_of_getElem? (i := 532) (by decide +kernel)) rfl
theorem wl_X0_addTimes : Cond.selects RX0 yX0_addTimes yX0_addTimes ∈ fTb := fTb_in (List.mem_of_getElem? (i := 536) (by decide +kernel)) rfl
theorem wl_X7_times : Cond.selects RX7 yX7_times yX7_times ∈ fTb := fTb_in (List.mem_of_getElem? (i := 541) (by decide +kernel)) rfl
theorem wl_X7_scale : Cond.selects RX7 yX7_scale yX7_scale ∈ fTb := fTb_in (List.mem_of_getElem? (i := 545) (by decide +kernel)) rfl
theorem wl_X7_turn : Cond.selects RX7 yX7_turn yX7_turn ∈ fTb := fTb_in (List.mem_of_getElem? (i := 549) (by decide +kernel)) rfl
theorem wl_X0_change : Cond.selects RX0 yX0_change yX0_change ∈ fTb := fTb_in (List.mem_of_getElem? (i := 557) (by decide +kernel)) rfl
theorem wl_X7_drop : Cond.selects RX7 yX7_drop yX7_drop ∈ fTb := fTb_in (List.mem_of_getElem? (i := 561) (by decide +kernel)) rfl
theorem wl_X7_undo : Cond.selects RX7 yX7_undo yX7_undo ∈ fTb := fTb_in (List.mem_of_getElem? (i := 566) (by decide +kernel)) rfl
theorem wl_X5_takeBack : Cond.selects RX5 yX5_takeBack yX5_takeBack ∈ fTb := fTb_in (List.mem_of_getElem? (i := 570) (by decide +kernel)) rfl
theorem wl_X7_pairs : Cond.selects RX7 yX7_pairs yX7_pairs ∈ fTb := fTb_in (List.mem_of_getElem? (i := 574) (by decide +kernel)) rfl
theorem wl_X4_open : Cond.selects RX4 yX4_open yX4_open ∈ fTb := fTb_in (List.mem_of_getElem? (i := 578) (by decide +kernel)) rfl
theorem wl_X4_has : Cond.selects RX4 yX4_has yX4_has ∈ fTb := fTb_in (List.mem_of_getElem? (i := 593) (by decide +kernel)) rfl
theorem wl_X4_isMet : Cond.selects RX4 yX4_isMet yX4_isMet ∈ fTb := fTb_in (List.mem_of_getElem? (i := 598) (by decide +kernel)) rfl
theorem wl_X7_pair : Cond.selects RX7 yX7_pair yX7_pair ∈ fTb := fTb_in (List.mem_of_getElem? (i := 614) (by decide +kernel)) rfl
theorem wl_X4_countMet : Cond.selects RX4 yX4_countMet yX4_countMet ∈ fTb := fTb_in (List.mem_of_getElem? (i := 619) (by decide +kernel)) rfl
theorem wl_X7_met : Cond.selects RX7 yX7_met yX7_met ∈ fTb := fTb_in (List.mem_of_getElem? (i := 629) (by decide +kernel)) rfl
theorem wl_X7_lay : Cond.selects RX7 yX7_lay yX7_lay ∈ fTb := fTb_in (List.mem_of_getElem? (i := 634) (by decide +kernel)) rfl
theorem wl_X7_count : Cond.selects RX7 yX7_count yX7_count ∈ fTb := fTb_in (List.mem_of_getElem? (i := 639) (by decide +kernel)) rfl
theorem wl_X4_countGenera : Cond.selects RX4 yX4_countGenera yX4_countGenera ∈ fTb := fTb_in (List.mem_of_getElem? (i := 655) (by decide +kernel)) rfl
theorem wl_X7_digest : Cond.selects RX7 yX7_digest yX7_digest ∈ fTb := fTb_in (List.mem_of_getElem? (i := 659) (by decide +kernel)) rfl
theorem wl_X8_letter : Cond.selects RX8 yX8_letter yX8_letter ∈ fTb := fTb_in (List.mem_of_getElem? (i := 780) (by decide +kernel)) rfl
theorem wl_X8_blank : Cond.selects RX8 yX8_blank yX8_blank ∈ fTb := fTb_in (List.mem_of_getElem? (i := 787) (by decide +kernel)) rfl
theorem wl_X8_fault : Cond.selects RX8 yX8_fault yX8_fault ∈ fTb := fTb_in (List.mem_of_getElem? (i := 791) (by decide +kernel)) rfl
theorem wl_X8_put : Cond.selects RX8 yX8_put yX8_put ∈ fTb := fTb_in (List.mem_of_getElem? (i := 819) (by decide +kernel)) rfl
theorem wl_X8_classOf : Cond.selects RX8 yX8_classOf yX8_classOf ∈ fTb := fTb_in (List.mem_of_getElem? (i := 838) (by decide +kernel)) rfl
theorem wl_X8_core : Cond.selects RX8 yX8_core yX8_core ∈ fTb := fTb_in (List.mem_of_getElem? (i := 842) (by decide +kernel)) rfl
theorem wl_X8_symbol : Cond.selects RX8 yX8_symbol yX8_symbol ∈ fTb := fTb_in (List.mem_of_getElem? (i := 855) (by decide +kernel)) rfl
theorem wl_X8_square : Cond.selects RX8 yX8_square yX8_square ∈ fTb := fTb_in (List.mem_of_getElem? (i := 885) (by decide +kernel)) rfl
theorem wl_X8_at : Cond.selects RX8 yX8_at yX8_at ∈ fTb := fTb_in (List.mem_of_getElem? (i := 892) (by decide +kernel)) rfl
theorem wl_X8_about : Cond.selects RX8 yX8_about yX8_about ∈ fTb := fTb_in (List.mem_of_getElem? (i := 904) (by decide +kernel)) rfl
theorem wl_X8_like : Cond.selects RX8 yX8_like yX8_like ∈ fTb := fTb_in (List.mem_of_getElem? (i := 968) (by decide +kernel)) rfl
theorem wl_X8_meets : Cond.selects RX8 yX8_meets yX8_meets ∈ fTb := fTb_in (List.mem_of_getElem? (i := 972) (by decide +kernel)) rfl
theorem wl_X8_row : Cond.selects RX8 yX8_row yX8_row ∈ fTb := fTb_in (List.mem_of_getElem? (i := 984) (by decide +kernel)) rfl
theorem wl_X8_way : Cond.selects RX8 yX8_way yX8_way ∈ fTb := fTb_in (List.mem_of_getElem? (i := 1004) (by decide +kernel)) rfl
theorem wl_X8_clear : Cond.selects RX8 yX8_clear yX8_clear ∈ fTb := fTb_in (List.mem_of_getElem? (i := 1008) (by decide +kernel)) rfl
theorem wl_X8_join : Cond.selects RX8 yX8_join yX8_join ∈ fTb := fTb_in (List.mem_of_getElem? (i := 1012) (by decide +kernel)) rfl
theorem wl_X8_times : Cond.selects RX8 yX8_times yX8_times ∈ fTb := fTb_in (List.mem_of_getElem? (i := 1020) (by decide +kernel)) rfl
theorem wl_X8_scale : Cond.selects RX8 yX8_scale yX8_scale ∈ fTb := fTb_in (List.mem_of_getElem? (i := 1024) (by decide +kernel)) rfl
theorem wl_X8_turn : Cond.selects RX8 yX8_turn yX8_turn ∈ fTb := fTb_in (List.mem_of_getElem? (i := 1028) (by decide +kernel)) rfl
theorem wl_X8_drop : Cond.selects RX8 yX8_drop yX8_drop ∈ fTb := fTb_in (List.mem_of_getElem? (i := 1035) (by decide +kernel)) rfl
theorem wl_X8_undo : Cond.selects RX8 yX8_undo yX8_undo ∈ fTb := fTb_in (List.mem_of_getElem? (i := 1039) (by decide +kernel)) rfl
theorem wl_X8_pairs : Cond.selects RX8 yX8_pairs yX8_pairs ∈ fTb := fTb_in (List.mem_of_getElem? (i := 1043) (by decide +kernel)) rfl
theorem wl_X8_pair : Cond.selects RX8 yX8_pair yX8_pair ∈ fTb := fTb_in (List.mem_of_getElem? (i := 1062) (by decide +kernel)) rfl
theorem wl_X8_met : Cond.selects RX8 yX8_met yX8_met ∈ fTb := fTb_in (List.mem_of_getElem? (i := 1074) (by decide +kernel)) rfl
theorem wl_X8_lay : Cond.selects RX8 yX8_lay yX8_lay ∈ fTb := fTb_in (List.mem_of_getElem? (i := 1078) (by decide +kernel)) rfl
theorem wl_X8_count : Cond.selects RX8 yX8_count yX8_count ∈ fTb := fTb_in (List.mem_of_getElem? (i := 1082) (by decide +kernel)) rfl
theorem wl_X8_digest : Cond.selects RX8 yX8_digest yX8_digest ∈ fTb := fTb_in (List.mem_of_getElem? (i := 1098) (by decide +kernel)) rfl
theorem wl_X7_shelveDraft : Cond.selects RX7 yX7_shelveDraft yX7_shelveDraft ∈ fTb := fTb_in (List.mem_of_getElem? (i := 0) (by decide +kernel)) rfl
theorem wl_X6_vanishesAtReal : Cond.selects RX6 yX6_vanishesAtReal yX6_vanishesAtReal ∈ fTb := fTb_in (List.mem_of_getElem? (i := 1) (by decide +kernel)) rfl
theorem wl_X6_vanishesAtTwo : Cond.selects RX6 yX6_vanishesAtTwo yX6_vanishesAtTwo ∈ fTb := fTb_in (List.mem_of_getElem? (i := 2) (by decide +kernel)) rfl
theorem wl_X6_partVanishes : Cond.selects RX6 yX6_partVanishes yX6_partVanishes ∈ fTb := fTb_in (List.mem_of_getElem? (i := 3) (by decide +kernel)) rfl
theorem wl_X7_hasTerm : Cond.selects RX7 yX7_hasTerm yX7_hasTerm ∈ fTb := fTb_in (List.mem_of_getElem? (i := 4) (by decide +kernel)) rfl
theorem wl_X7_hasForm : Cond.selects RX7 yX7_hasForm yX7_hasForm ∈ fTb := fTb_in (List.mem_of_getElem? (i := 5) (by decide +kernel)) rfl
theorem wl_X7_leastLike : Cond.selects RX7 yX7_leastLike yX7_leastLike ∈ fTb := fTb_in (List.mem_of_getElem? (i := 6) (by decide +kernel)) rfl
theorem wl_X7_unlikeBits : Cond.selects RX7 yX7_unlikeBits yX7_unlikeBits ∈ fTb := fTb_in (List.mem_of_getElem? (i := 7) (by decide +kernel)) rfl
theorem wl_X7_startAgainst : Cond.selects RX7 yX7_startAgainst yX7_startAgainst ∈ fTb := fTb_in (List.mem_of_getElem? (i := 8) (by decide +kernel)) rfl
theorem wl_X1_seek : Cond.selects RX1 yX1_seek yX1_seek ∈ fTb := fTb_in (List.mem_of_getElem? (i := 9) (by decide +kernel)) rfl
theorem wl_X1_finish : Cond.selects RX1 yX1_finish yX1_finish ∈ fTb := fTb_in (List.mem_of_getElem? (i := 10) (by decide +kernel)) rfl
theorem wl_X4_addIfReduced : Cond.selects RX4 yX4_addIfReduced yX4_addIfReduced ∈ fTb := fTb_in (List.mem_of_getElem? (i := 11) (by decide +kernel)) rfl
theorem wl_X4_findRests : Cond.selects RX4 yX4_findRests yX4_findRests ∈ fTb := fTb_in (List.mem_of_getElem? (i := 12) (by decide +kernel)) rfl
theorem wl_X4_addWithSquares : Cond.selects RX4 yX4_addWithSquares yX4_addWithSquares ∈ fTb := fTb_in (List.mem_of_getElem? (i := 13) (by decide +kernel)) rfl
theorem wl_X4_leastSame : Cond.selects RX4 yX4_leastSame yX4_leastSame ∈ fTb := fTb_in (List.mem_of_getElem? (i := 14) (by decide +kernel)) rfl
theorem wl_X4_meetSame : Cond.selects RX4 yX4_meetSame yX4_meetSame ∈ fTb := fTb_in (List.mem_of_getElem? (i := 15) (by decide +kernel)) rfl
theorem wl_X7_countForms : Cond.selects RX7 yX7_countForms yX7_countForms ∈ fTb := fTb_in (List.mem_of_getElem? (i := 16) (by decide +kernel)) rfl
theorem wl_X7_countTerms : Cond.selects RX7 yX7_countTerms yX7_countTerms ∈ fTb := fTb_in (List.mem_of_getElem? (i := 17) (by decide +kernel)) rfl
theorem wl_X7_countUnlike : Cond.selects RX7 yX7_countUnlike yX7_countUnlike ∈ fTb := fTb_in (List.mem_of_getElem? (i := 18) (by decide +kernel)) rfl
theorem wl_X8_read : Cond.selects RX8 yX8_read yX8_read ∈ fTb := fTb_in (List.mem_of_getElem? (i := 19) (by decide +kernel)) rfl
theorem wl_X8_readNumber : Cond.selects RX8 yX8_readNumber yX8_readNumber ∈ fTb := fTb_in (List.mem_of_getElem? (i := 20) (by decide +kernel)) rfl
theorem wl_X8_letterAt : Cond.selects RX8 yX8_letterAt yX8_letterAt ∈ fTb := fTb_in (List.mem_of_getElem? (i := 21) (by decide +kernel)) rfl
theorem wl_X8_layNew : Cond.selects RX8 yX8_layNew yX8_layNew ∈ fTb := fTb_in (List.mem_of_getElem? (i := 22) (by decide +kernel)) rfl
theorem wl_X8_keep : Cond.selects RX8 yX8_keep yX8_keep ∈ fTb := fTb_in (List.mem_of_getElem? (i := 23) (by decide +kernel)) rfl
theorem wl_X8_dropOldest : Cond.selects RX8 yX8_dropOldest yX8_dropOldest ∈ fTb := fTb_in (List.mem_of_getElem? (i := 24) (by decide +kernel)) rfl
theorem wl_X8_symbolNow : Cond.selects RX8 yX8_symbolNow yX8_symbolNow ∈ fTb := fTb_in (List.mem_of_getElem? (i := 25) (by decide +kernel)) rfl
theorem wl_X8_vanishes : Cond.selects RX8 yX8_vanishes yX8_vanishes ∈ fTb := fTb_in (List.mem_of_getElem? (i := 26) (by decide +kernel)) rfl
theorem wl_X8_vanishesReal : Cond.selects RX8 yX8_vanishesReal yX8_vanishesReal ∈ fTb := fTb_in (List.mem_of_getElem? (i := 27) (by decide +kernel)) rfl
theorem wl_X8_addTerm : Cond.selects RX8 yX8_addTerm yX8_addTerm ∈ fTb := fTb_in (List.mem_of_getElem? (i := 28) (by decide +kernel)) rfl
theorem wl_X8_addRests : Cond.selects RX8 yX8_addRests yX8_addRests ∈ fTb := fTb_in (List.mem_of_getElem? (i := 29) (by decide +kernel)) rfl
theorem wl_X8_isTerm : Cond.selects RX8 yX8_isTerm yX8_isTerm ∈ fTb := fTb_in (List.mem_of_getElem? (i := 30) (by decide +kernel)) rfl
theorem wl_X8_isForm : Cond.selects RX8 yX8_isForm yX8_isForm ∈ fTb := fTb_in (List.mem_of_getElem? (i := 31) (by decide +kernel)) rfl
theorem wl_X8_aboutNow : Cond.selects RX8 yX8_aboutNow yX8_aboutNow ∈ fTb := fTb_in (List.mem_of_getElem? (i := 32) (by decide +kernel)) rfl
theorem wl_X8_above : Cond.selects RX8 yX8_above yX8_above ∈ fTb := fTb_in (List.mem_of_getElem? (i := 33) (by decide +kernel)) rfl
theorem wl_X8_det : Cond.selects RX8 yX8_det yX8_det ∈ fTb := fTb_in (List.mem_of_getElem? (i := 34) (by decide +kernel)) rfl
theorem wl_X8_hasseOf : Cond.selects RX8 yX8_hasseOf yX8_hasseOf ∈ fTb := fTb_in (List.mem_of_getElem? (i := 35) (by decide +kernel)) rfl
theorem wl_X8_layForm : Cond.selects RX8 yX8_layForm yX8_layForm ∈ fTb := fTb_in (List.mem_of_getElem? (i := 36) (by decide +kernel)) rfl
theorem wl_X8_unlike : Cond.selects RX8 yX8_unlike yX8_unlike ∈ fTb := fTb_in (List.mem_of_getElem? (i := 37) (by decide +kernel)) rfl
theorem wl_X8_lookAt : Cond.selects RX8 yX8_lookAt yX8_lookAt ∈ fTb := fTb_in (List.mem_of_getElem? (i := 38) (by decide +kernel)) rfl
theorem wl_X8_barsNow : Cond.selects RX8 yX8_barsNow yX8_barsNow ∈ fTb := fTb_in (List.mem_of_getElem? (i := 39) (by decide +kernel)) rfl
theorem wl_X8_barsOf : Cond.selects RX8 yX8_barsOf yX8_barsOf ∈ fTb := fTb_in (List.mem_of_getElem? (i := 40) (by decide +kernel)) rfl
theorem wl_X8_planes : Cond.selects RX8 yX8_planes yX8_planes ∈ fTb := fTb_in (List.mem_of_getElem? (i := 41) (by decide +kernel)) rfl
theorem wl_X8_restDet : Cond.selects RX8 yX8_restDet yX8_restDet ∈ fTb := fTb_in (List.mem_of_getElem? (i := 42) (by decide +kernel)) rfl
theorem wl_X8_restHasse : Cond.selects RX8 yX8_restHasse yX8_restHasse ∈ fTb := fTb_in (List.mem_of_getElem? (i := 43) (by decide +kernel)) rfl
theorem wl_X8_leastLike : Cond.selects RX8 yX8_leastLike yX8_leastLike ∈ fTb := fTb_in (List.mem_of_getElem? (i := 44) (by decide +kernel)) rfl
theorem wl_X8_unlikeOf : Cond.selects RX8 yX8_unlikeOf yX8_unlikeOf ∈ fTb := fTb_in (List.mem_of_getElem? (i := 45) (by decide +kernel)) rfl
theorem wl_X8_isLikeAt : Cond.selects RX8 yX8_isLikeAt yX8_isLikeAt ∈ fTb := fTb_in (List.mem_of_getElem? (i := 46) (by decide +kernel)) rfl
theorem wl_X8_meetsNow : Cond.selects RX8 yX8_meetsNow yX8_meetsNow ∈ fTb := fTb_in (List.mem_of_getElem? (i := 47) (by decide +kernel)) rfl
theorem wl_X8_lookMore : Cond.selects RX8 yX8_lookMore yX8_lookMore ∈ fTb := fTb_in (List.mem_of_getElem? (i := 48) (by decide +kernel)) rfl
theorem wl_X8_find : Cond.selects RX8 yX8_find yX8_find ∈ fTb := fTb_in (List.mem_of_getElem? (i := 49) (by decide +kernel)) rfl
theorem wl_X8_findBy : Cond.selects RX8 yX8_findBy yX8_findBy ∈ fTb := fTb_in (List.mem_of_getElem? (i := 50) (by decide +kernel)) rfl
theorem wl_X8_goesOn : Cond.selects RX8 yX8_goesOn yX8_goesOn ∈ fTb := fTb_in (List.mem_of_getElem? (i := 51) (by decide +kernel)) rfl
theorem wl_X8_comesToNothing : Cond.selects RX8 yX8_comesToNothing yX8_comesToNothing ∈ fTb := fTb_in (List.mem_of_getElem? (i := 52) (by decide +kernel)) rfl
theorem wl_X8_take : Cond.selects RX8 yX8_take yX8_take ∈ fTb := fTb_in (List.mem_of_getElem? (i := 53) (by decide +kernel)) rfl
theorem wl_X8_addPair : Cond.selects RX8 yX8_addPair yX8_addPair ∈ fTb := fTb_in (List.mem_of_getElem? (i := 54) (by decide +kernel)) rfl
theorem wl_X8_layMet : Cond.selects RX8 yX8_layMet yX8_layMet ∈ fTb := fTb_in (List.mem_of_getElem? (i := 55) (by decide +kernel)) rfl
theorem wl_X8_isSame : Cond.selects RX8 yX8_isSame yX8_isSame ∈ fTb := fTb_in (List.mem_of_getElem? (i := 56) (by decide +kernel)) rfl
theorem wl_X8_isPair : Cond.selects RX8 yX8_isPair yX8_isPair ∈ fTb := fTb_in (List.mem_of_getElem? (i := 57) (by decide +kernel)) rfl
theorem wl_X8_pairNow : Cond.selects RX8 yX8_pairNow yX8_pairNow ∈ fTb := fTb_in (List.mem_of_getElem? (i := 58) (by decide +kernel)) rfl
theorem wl_X8_howMany : Cond.selects RX8 yX8_howMany yX8_howMany ∈ fTb := fTb_in (List.mem_of_getElem? (i := 59) (by decide +kernel)) rfl
theorem wl_X8_shelves : Cond.selects RX8 yX8_shelves yX8_shelves ∈ fTb := fTb_in (List.mem_of_getElem? (i := 60) (by decide +kernel)) rfl
theorem wl_X8_genera : Cond.selects RX8 yX8_genera yX8_genera ∈ fTb := fTb_in (List.mem_of_getElem? (i := 61) (by decide +kernel)) rfl
theorem wl_X8_mixForm : Cond.selects RX8 yX8_mixForm yX8_mixForm ∈ fTb := fTb_in (List.mem_of_getElem? (i := 62) (by decide +kernel)) rfl
theorem wl_X8_mix : Cond.selects RX8 yX8_mix yX8_mix ∈ fTb := fTb_in (List.mem_of_getElem? (i := 63) (by decide +kernel)) rfl
theorem wn_L : Cond.initialized RL ∈ fTb := fTb_in (List.mem_of_getElem? (i := 64) (by decide +kernel)) rfl
theorem wn_X7 : Cond.initialized RX7 ∈ fTb := fTb_in (List.mem_of_getElem? (i := 65) (by decide +kernel)) rfl
theorem wn_X3 : Cond.initialized RX3 ∈ fTb := fTb_in (List.mem_of_getElem? (i := 66) (by decide +kernel)) rfl
theorem wn_X0 : Cond.initialized RX0 ∈ fTb := fTb_in (List.mem_of_getElem? (i := 67) (by decide +kernel)) rfl
theorem wn_X5 : Cond.initialized RX5 ∈ fTb := fTb_in (List.mem_of_getElem? (i := 68) (by decide +kernel)) rfl
theorem wn_X4 : Cond.initialized RX4 ∈ fTb := fTb_in (List.mem_of_getElem? (i := 69) (by decide +kernel)) rfl
theorem wn_X6 : Cond.initialized RX6 ∈ fTb := fTb_in (List.mem_of_getElem? (i := 70) (by decide +kernel)) rfl
theorem wn_X1 : Cond.initialized RX1 ∈ fTb := fTb_in (List.mem_of_getElem? (i := 71) (by decide +kernel)) rfl
theorem wn_X8 : Cond.initialized RX8 ∈ fTb := fTb_in (List.mem_of_getElem? (i := 72) (by decide +kernel)) rfl
theorem wn_X2 : Cond.initialized RX2 ∈ fTb := fTb_in (List.mem_of_getElem? (i := 73) (by decide +kernel)) rfl
theorem wn_J9 : Cond.initialized RJ9 ∈ fTb := fTb_in (List.mem_of_getElem? (i := 74) (by decide +kernel)) rfl
theorem wn_J10 : Cond.initialized RJ10 ∈ fTb := fTb_in (List.mem_of_getElem? (i := 75) (by decide +kernel)) rfl
theorem wn_J13 : Cond.initialized RJ13 ∈ fTb := fTb_in (List.mem_of_getElem? (i := 76) (by decide +kernel)) rfl
theorem wk_X6_62 : Cond.constant RX6 62 (65535) ∈ fTb := fTb_in (List.mem_of_getElem? (i := 361) (by decide +kernel)) rfl
theorem wk_J13_314 : Cond.constantLong RJ13 314 (6148914691236517205) ∈ fTb := fTb_in (List.mem_of_getElem? (i := 624) (by decide +kernel)) rfl
theorem wk_J13_316 : Cond.constantLong RJ13 316 (3689348814741910323) ∈ fTb := fTb_in (List.mem_of_getElem? (i := 625) (by decide +kernel)) rfl
theorem wk_J13_318 : Cond.constantLong RJ13 318 (1085102592571150095) ∈ fTb := fTb_in (List.mem_of_getElem? (i := 626) (by decide +kernel)) rfl
theorem wk_X7_245 : Cond.constantLong RX7 245 (1487) ∈ fTb := fTb_in (List.mem_of_getElem? (i := 661) (by decide +kernel)) rfl
theorem wk_X7_269 : Cond.constantLong RX7 269 (31) ∈ fTb := fTb_in (List.mem_of_getElem? (i := 665) (by decide +kernel)) rfl
theorem wk_X8_304 : Cond.constantLong RX8 304 (1487) ∈ fTb := fTb_in (List.mem_of_getElem? (i := 1100) (by decide +kernel)) rfl
theorem wk_X8_294 : Cond.constantLong RX8 294 (31) ∈ fTb := fTb_in (List.mem_of_getElem? (i := 1109) (by decide +kernel)) rfl
theorem wv_arraycopy : Cond.native arraycopyName ∈ fTb := fTb_in (List.mem_of_getElem? (i := 516) (by decide +kernel)) rfl
theorem inX0 : ∀ w ∈ u_ws RX0 TX0 4, w ∈ fTb := by decide +kernel
theorem inX1 : ∀ w ∈ u_ws RX1 TX1 6, w ∈ fTb := by decide +kernel
theorem inX3 : ∀ w ∈ u_ws RX3 TX3 2, w ∈ fTb := by decide +kernel
theorem inX4 : ∀ w ∈ u_ws RX4 TX4 8, w ∈ fTb := by decide +kernel
theorem inX5 : ∀ w ∈ u_ws RX5 TX5 6, w ∈ fTb := by decide +kernel
theorem inX6 : ∀ w ∈ u_ws RX6 TX6 2, w ∈ fTb := by decide +kernel
theorem inX7 : ∀ w ∈ u_ws RX7 TX7 7, w ∈ fTb := by decide +kernel
theorem inX8 : ∀ w ∈ u_ws RX8 TX8 33, w ∈ fTb := by decide +kernel
