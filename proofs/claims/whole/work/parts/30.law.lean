def opk {α : Type} (INV : fS → Prop) (f g : fS → Option (α × fS)) : Prop := ∀ σ, INV σ → ∃ (r : α) (σ1 σ2 : fS), f σ = some (r, σ1) ∧ g σ1 = some (r, σ2) ∧ INV σ2
def op_0 (INV : fS → Prop) (N : Nat) : Prop := ∀ a1 : Int32, opk INV (g_X7_letter N a1) (g_X8_letter N a1)
def op_1 (INV : fS → Prop) (N : Nat) : Prop := opk INV (g_X7_blank N ) (g_X8_blank N )
def op_2 (INV : fS → Prop) (N : Nat) : Prop := opk INV (g_X7_fault N ) (g_X8_fault N )
def op_3 (INV : fS → Prop) (N : Nat) : Prop := ∀ a1 : Int32, opk INV (g_X7_put N a1) (g_X8_put N a1)
def op_4 (INV : fS → Prop) (N : Nat) : Prop := ∀ a1 : Int32, opk INV (g_X7_classOf N a1) (g_X8_classOf N a1)
def op_5 (INV : fS → Prop) (N : Nat) : Prop := ∀ a1 : Int32, opk INV (g_X7_core N a1) (g_X8_core N a1)
def op_6 (INV : fS → Prop) (N : Nat) : Prop := ∀ a1 a2 a3 : Int32, opk INV (g_X7_symbol N a1 a2 a3) (g_X8_symbol N a1 a2 a3)
def op_7 (INV : fS → Prop) (N : Nat) : Prop := ∀ a1 a2 : Int32, opk INV (g_X7_square N a1 a2) (g_X8_square N a1 a2)
def op_8 (INV : fS → Prop) (N : Nat) : Prop := ∀ a1 a2 : Int32, opk INV (g_X7_at N a1 a2) (g_X8_at N a1 a2)
def op_9 (INV : fS → Prop) (N : Nat) : Prop := ∀ a1 a2 : Int32, opk INV (g_X7_about N a1 a2) (g_X8_about N a1 a2)
def op_10 (INV : fS → Prop) (N : Nat) : Prop := ∀ a1 a2 : Int32, opk INV (g_X7_like N a1 a2) (g_X8_like N a1 a2)
def op_11 (INV : fS → Prop) (N : Nat) : Prop := ∀ a1 a2 : Int32, opk INV (g_X7_meets N a1 a2) (g_X8_meets N a1 a2)
def op_12 (INV : fS → Prop) (N : Nat) : Prop := ∀ a1 a2 : Int32, opk INV (g_X7_row N a1 a2) (g_X8_row N a1 a2)
def op_13 (INV : fS → Prop) (N : Nat) : Prop := ∀ a1 a2 a3 : Int32, opk INV (g_X7_way N a1 a2 a3) (g_X8_way N a1 a2 a3)
def op_14 (INV : fS → Prop) (N : Nat) : Prop := ∀ a1 : Int32, opk INV (g_X7_clear N a1) (g_X8_clear N a1)
def op_15 (INV : fS → Prop) (N : Nat) : Prop := ∀ a1 a2 a3 : Int32, opk INV (g_X7_join N a1 a2 a3) (g_X8_join N a1 a2 a3)
def op_16 (INV : fS → Prop) (N : Nat) : Prop := ∀ a1 a2 a3 : Int32, opk INV (g_X7_times N a1 a2 a3) (g_X8_times N a1 a2 a3)
def op_17 (INV : fS → Prop) (N : Nat) : Prop := ∀ a1 a2 : Int32, opk INV (g_X7_scale N a1 a2) (g_X8_scale N a1 a2)
def op_18 (INV : fS → Prop) (N : Nat) : Prop := ∀ a1 a2 a3 a4 a5 : Int32, opk INV (g_X7_turn N a1 a2 a3 a4 a5) (g_X8_turn N a1 a2 a3 a4 a5)
def op_19 (INV : fS → Prop) (N : Nat) : Prop := ∀ a1 a2 : Int32, opk INV (g_X7_drop N a1 a2) (g_X8_drop N a1 a2)
def op_20 (INV : fS → Prop) (N : Nat) : Prop := opk INV (g_X7_undo N ) (g_X8_undo N )
def op_21 (INV : fS → Prop) (N : Nat) : Prop := ∀ a1 : Int32, opk INV (g_X7_pairs N a1) (g_X8_pairs N a1)
def op_22 (INV : fS → Prop) (N : Nat) : Prop := ∀ a1 a2 : Int32, opk INV (g_X7_pair N a1 a2) (g_X8_pair N a1 a2)
def op_23 (INV : fS → Prop) (N : Nat) : Prop := ∀ a1 a2 : Int32, opk INV (g_X7_met N a1 a2) (g_X8_met N a1 a2)
def op_24 (INV : fS → Prop) (N : Nat) : Prop := ∀ a1 a2 : Int32, opk INV (g_X7_lay N a1 a2) (g_X8_lay N a1 a2)
def op_25 (INV : fS → Prop) (N : Nat) : Prop := ∀ a1 : Int32, opk INV (g_X7_count N a1) (g_X8_count N a1)
def op_26 (INV : fS → Prop) (N : Nat) : Prop := opk INV (g_X7_digest N ) (g_X8_digest N )
def OPS (INV : fS → Prop) (N : Nat) : Prop := op_0 INV N ∧ op_1 INV N ∧ op_2 INV N ∧ op_3 INV N ∧ op_4 INV N ∧ op_5 INV N ∧ op_6 INV N ∧ op_7 INV N ∧ op_8 INV N ∧ op_9 INV N ∧ op_10 INV N ∧ op_11 INV N ∧ op_12 INV N ∧ op_13 INV N ∧ op_14 INV N ∧ op_15 INV N ∧ op_16 INV N ∧ op_17 INV N ∧ op_18 INV N ∧ op_19 INV N ∧ op_20 INV N ∧ op_21 INV N ∧ op_22 INV N ∧ op_23 INV N ∧ op_24 INV N ∧ op_25 INV N ∧ op_26 INV N
theorem law_idx {L i : Nat} (hL : L ≤ 3072) (hi : i ≤ L) (h : ¬ Int32.ofNat L - 6 < nI i) : i + 6 ≤ L := by
  rcases Nat.lt_or_ge L (i + 6) with q | q
  · refine absurd ?_ h
    have h1 : (nI L - nI 6).toInt = (L : Int) - ((6 : Nat) : Int) := pk_sub_toInt (by omega) (by omega)
    have h2 : (nI i).toInt = (i : Int) := nI_toInt (by omega)
    show nI L - nI 6 < nI i
    rw [Int32.lt_iff_toInt_lt, h1, h2]
    omega
  · exact q
theorem lg_self (x : Int64) : lg_cmp x x = 0 := by simp [lg_cmp]
def σ0 : fS := (fun _ _ => 0, fun _ _ => 0)
set_option maxHeartbeats 8000000 in
set_option maxRecDepth 100000 in
theorem law_loop {p : Program} {l : Launch} {e : Env} {s : State} {m : MethodId} {below : List Frame} {meth : Method} {c : Code} {b L : Nat} {xs : Nat → Int32} (hL : L ≤ 3072) (C0 : lw_At p s m meth c b L xs) (E : fEv) (hok : f_ok E s) (hge : ∀ k, k < 85 → s.heap.size ≤ E.2.1 k) (INV : fS → Prop) (N : Nat) (hO : OPS INV N) : ∀ (n i : Nat) (σ : fS) (H : Heap) (locs : List Loc) (ls : Array Slot), i ≤ L → L + 1 ≤ i + n → INV σ → f_h E σ H → va_S (f_A E) s.heap H locs → lv_has ls 4 [(0, .ref b), (1, .ref (E.2.1 0)), (2, .ref (E.2.1 61)), (3, .int (nI i))] → W p l e room_1 s m #[Value.ref b] below meth c H locs 600000 7302250 (lw_Z below #[Value.ref b] s) (F0 m 18 ls []) := by
  obtain ⟨hx, hb, hr, hml, hown, hts0, hX, hbl, hlocks, hgv⟩ := C0
  have hts : ∀ w ∈ fTb, w.before #[Value.ref b] s = true := fun w hw => hts0 w (fTb_of hw)
  have F : fX p m c s #[Value.ref b] E RL code 4 := ⟨⟨hx, hb, hml, hown, hts⟩, hok⟩
  have hbA : ¬ f_A E b := fun ⟨k, hk, h⟩ => by have := hge k hk; omega
  intro n
  induction n with
  | zero =>
    intro i σ H locs ls h1 h2
    omega
  | succ n ih =>
    intro i σ H locs ls hiL hin hI hP hS hl
    refine lv_iload_n hx hb dL_law_18 rfl (lv_at hl 3 rfl) ?_
    refine lv_aload_n hx hb dL_law_19 rfl (lv_at hl 0 rfl) ?_
    refine va_slen hx hb hX hbl hbA hS dL_law_20 ?_
    refine lv_bipush (v := 6) hx hb dL_law_21 (by decide) ?_
    refine lv_isub hx hb dL_law_23 ?_
    refine lv_icmp_gt (tgt := 974) hx hb dL_law_24 (by decide) (fun c24 => ?_) (fun c24 => ?_)
    · refine lv_iconst (v := 1) hx hb dL_law_974 (by decide) ?_
      refine va_forget (fun q hq => ?_) ?_
      · obtain ⟨k, hk, h⟩ := hS.2.2 q hq
        rw [h]
        exact hge k hk
      · exact lw_ret hx hb hr hlocks dL_law_975
    · have h6 : i + 6 ≤ L := law_idx hL hiL c24
      have hi0 : vp_in (nI i) L := vp_in_nI (by omega) (by omega)
      have hi1 : vp_in (nI i + 1) L := by show vp_in (nI i + nI 1) L; rw [nI_add]; exact vp_in_nI (by omega) (by omega)
      have hi2 : vp_in (nI i + 2) L := by show vp_in (nI i + nI 2) L; rw [nI_add]; exact vp_in_nI (by omega) (by omega)
      have hi3 : vp_in (nI i + 3) L := by show vp_in (nI i + nI 3) L; rw [nI_add]; exact vp_in_nI (by omega) (by omega)
      have hi4 : vp_in (nI i + 4) L := by show vp_in (nI i + nI 4) L; rw [nI_add]; exact vp_in_nI (by omega) (by omega)
      have hi5 : vp_in (nI i + 5) L := by show vp_in (nI i + nI 5) L; rw [nI_add]; exact vp_in_nI (by omega) (by omega)
      have T : ∀ (σ2 : fS) (H : Heap) (locs : List Loc) (ls : Array Slot), INV σ2 → f_h E σ2 H → va_S (f_A E) s.heap H locs → lv_has ls 4 [(0, .ref b), (1, .ref (E.2.1 0)), (2, .ref (E.2.1 61)), (3, .int (nI i))] → W p l e room_1 s m #[Value.ref b] below meth c H locs 600000 7302250 (lw_Z below #[Value.ref b] s) (F0 m 968 ls []) := by
        intro σ2 H locs ls hI hP hS hl
        refine lv_iinc (v := nI (i + 6)) (lv' := [(3, .int (nI (i + 6))), (0, .ref b), (1, .ref (E.2.1 0)), (2, .ref (E.2.1 61))]) hx hb dL_law_968 hl (k := 3) rfl (nI_add i 6) (by decide) rfl (fun ls hl => ?_)
        refine lv_goto (tgt := 18) hx hb dL_law_971 (by decide) ?_
        exact ih (i + 6) σ2 _ _ _ (by omega) (by omega) hI hP hS (lv_sub hl [1, 2, 3, 0] rfl)
      refine lv_aload_n hx hb dL_law_27 rfl (lv_at hl 0 rfl) ?_
      refine lv_iload_n hx hb dL_law_28 rfl (lv_at hl 3 rfl) ?_
      refine va_sld hx hb hX hbl hbA hS hi0 dL_law_29 ?_
      refine lv_bipush (v := 31) hx hb dL_law_30 (by decide) ?_
      refine lv_iand hx hb dL_law_32 ?_
      refine lv_topi (fun x ex => ?_)
      by_cases k0 : x = 0
      · refine lv_tableIn (off := 123) (tgt := 156) hx hb dL_law_33 (by rw [k0]; decide) (by rw [k0]; decide) (by rw [k0]; rfl) (by decide) ?_
        obtain ⟨r, σ1, σ2, hC1, hC2, hI⟩ := hO.1 (xs (nI i + 1).toNatClampNeg) σ hI
        refine lv_aload_n hx hb dL_law_156 rfl (lv_at hl 1 rfl) ?_
        refine lv_aload_n hx hb dL_law_157 rfl (lv_at hl 0 rfl) ?_
        refine lv_iload_n hx hb dL_law_158 rfl (lv_at hl 3 rfl) ?_
        refine lv_iconst (v := 1) hx hb dL_law_159 (by decide) ?_
        refine lv_iadd hx hb dL_law_160 ?_
        refine va_sld hx hb hX hbl hbA hS hi1 dL_law_161 ?_
        refine iv_L_13 F hS hP (c_X7_letter l E N (xs (nI i + 1).toNatClampNeg) σ _ _ hC1) ⟨Nat.le_of_ble_eq_true rfl, Nat.le_of_ble_eq_true rfl⟩ hl.1 (Nat.le_of_ble_eq_true rfl) dL_law_162 ⟨Nat.le_of_ble_eq_true rfl, Nat.le_of_ble_eq_true rfl⟩ (fun H locs hP hS => ?_)
        refine lv_aload_n hx hb dL_law_165 rfl (lv_at hl 2 rfl) ?_
        refine lv_aload_n hx hb dL_law_166 rfl (lv_at hl 0 rfl) ?_
        refine lv_iload_n hx hb dL_law_167 rfl (lv_at hl 3 rfl) ?_
        refine lv_iconst (v := 1) hx hb dL_law_168 (by decide) ?_
        refine lv_iadd hx hb dL_law_169 ?_
        refine va_sld hx hb hX hbl hbA hS hi1 dL_law_170 ?_
        refine iv_L_17 F hS hP (c_X8_letter l E N (xs (nI i + 1).toNatClampNeg) σ1 _ _ hC2) ⟨Nat.le_of_ble_eq_true rfl, Nat.le_of_ble_eq_true rfl⟩ hl.1 (Nat.le_of_ble_eq_true rfl) dL_law_171 ⟨Nat.le_of_ble_eq_true rfl, Nat.le_of_ble_eq_true rfl⟩ (fun H locs hP hS => ?_)
        refine lv_icmp_eq (tgt := 968) hx hb dL_law_174 (by decide) (fun _ => T σ2 _ _ _ hI hP hS hl) (fun h => absurd rfl h)
      by_cases k1 : x = 1
      · refine lv_tableIn (off := 146) (tgt := 179) hx hb dL_law_33 (by rw [k1]; decide) (by rw [k1]; decide) (by rw [k1]; rfl) (by decide) ?_
        obtain ⟨r, σ1, σ2, hC1, hC2, hI⟩ := hO.2.1  σ hI
        refine lv_aload_n hx hb dL_law_179 rfl (lv_at hl 1 rfl) ?_
        refine iv_L_18 F hS hP (c_X7_blank l E N σ _ _ hC1) ⟨Nat.le_of_ble_eq_true rfl, Nat.le_of_ble_eq_true rfl⟩ hl.1 (Nat.le_of_ble_eq_true rfl) dL_law_180 ⟨Nat.le_of_ble_eq_true rfl, Nat.le_of_ble_eq_true rfl⟩ (fun H locs hP hS => ?_)
        refine lv_aload_n hx hb dL_law_183 rfl (lv_at hl 2 rfl) ?_
        refine iv_L_22 F hS hP (c_X8_blank l E N σ1 _ _ hC2) ⟨Nat.le_of_ble_eq_true rfl, Nat.le_of_ble_eq_true rfl⟩ hl.1 (Nat.le_of_ble_eq_true rfl) dL_law_184 ⟨Nat.le_of_ble_eq_true rfl, Nat.le_of_ble_eq_true rfl⟩ (fun H locs hP hS => ?_)
        refine lv_icmp_eq (tgt := 968) hx hb dL_law_187 (by decide) (fun _ => T σ2 _ _ _ hI hP hS hl) (fun h => absurd rfl h)
      by_cases k2 : x = 2
      · refine lv_tableIn (off := 159) (tgt := 192) hx hb dL_law_33 (by rw [k2]; decide) (by rw [k2]; decide) (by rw [k2]; rfl) (by decide) ?_
        obtain ⟨r, σ1, σ2, hC1, hC2, hI⟩ := hO.2.2.1  σ hI
        refine lv_aload_n hx hb dL_law_192 rfl (lv_at hl 1 rfl) ?_
        refine iv_L_23 F hS hP (c_X7_fault l E N σ _ _ hC1) ⟨Nat.le_of_ble_eq_true rfl, Nat.le_of_ble_eq_true rfl⟩ hl.1 (Nat.le_of_ble_eq_true rfl) dL_law_193 ⟨Nat.le_of_ble_eq_true rfl, Nat.le_of_ble_eq_true rfl⟩ (fun H locs hP hS => ?_)
        refine lv_aload_n hx hb dL_law_196 rfl (lv_at hl 2 rfl) ?_
        refine iv_L_26 F hS hP (c_X8_fault l E N σ1 _ _ hC2) ⟨Nat.le_of_ble_eq_true rfl, Nat.le_of_ble_eq_true rfl⟩ hl.1 (Nat.le_of_ble_eq_true rfl) dL_law_197 ⟨Nat.le_of_ble_eq_true rfl, Nat.le_of_ble_eq_true rfl⟩ (fun H locs hP hS => ?_)
        refine lv_icmp_eq (tgt := 968) hx hb dL_law_200 (by decide) (fun _ => T σ2 _ _ _ hI hP hS hl) (fun h => absurd rfl h)
      by_cases k3 : x = 3
      · refine lv_tableIn (off := 172) (tgt := 205) hx hb dL_law_33 (by rw [k3]; decide) (by rw [k3]; decide) (by rw [k3]; rfl) (by decide) ?_
        obtain ⟨r, σ1, σ2, hC1, hC2, hI⟩ := hO.2.2.2.1 (xs (nI i + 1).toNatClampNeg) σ hI
        refine lv_aload_n hx hb dL_law_205 rfl (lv_at hl 1 rfl) ?_
        refine lv_aload_n hx hb dL_law_206 rfl (lv_at hl 0 rfl) ?_
        refine lv_iload_n hx hb dL_law_207 rfl (lv_at hl 3 rfl) ?_
        refine lv_iconst (v := 1) hx hb dL_law_208 (by decide) ?_
        refine lv_iadd hx hb dL_law_209 ?_
        refine va_sld hx hb hX hbl hbA hS hi1 dL_law_210 ?_
        refine iv_L_27 F hS hP (c_X7_put l E N (xs (nI i + 1).toNatClampNeg) σ _ _ hC1) ⟨Nat.le_of_ble_eq_true rfl, Nat.le_of_ble_eq_true rfl⟩ hl.1 (Nat.le_of_ble_eq_true rfl) dL_law_211 ⟨Nat.le_of_ble_eq_true rfl, Nat.le_of_ble_eq_true rfl⟩ (fun H locs hP hS => ?_)
        refine lv_aload_n hx hb dL_law_214 rfl (lv_at hl 2 rfl) ?_
        refine lv_aload_n hx hb dL_law_215 rfl (lv_at hl 0 rfl) ?_
        refine lv_iload_n hx hb dL_law_216 rfl (lv_at hl 3 rfl) ?_
        refine lv_iconst (v := 1) hx hb dL_law_217 (by decide) ?_
        refine lv_iadd hx hb dL_law_218 ?_
        refine va_sld hx hb hX hbl hbA hS hi1 dL_law_219 ?_
        refine iv_L_30 F hS hP (c_X8_put l E N (xs (nI i + 1).toNatClampNeg) σ1 _ _ hC2) ⟨Nat.le_of_ble_eq_true rfl, Nat.le_of_ble_eq_true rfl⟩ hl.1 (Nat.le_of_ble_eq_true rfl) dL_law_220 ⟨Nat.le_of_ble_eq_true rfl, Nat.le_of_ble_eq_true rfl⟩ (fun H locs hP hS => ?_)
        refine lv_icmp_eq (tgt := 968) hx hb dL_law_223 (by decide) (fun _ => T σ2 _ _ _ hI hP hS hl) (fun h => absurd rfl h)
      by_cases k4 : x = 4
      · refine lv_tableIn (off := 195) (tgt := 228) hx hb dL_law_33 (by rw [k4]; decide) (by rw [k4]; decide) (by rw [k4]; rfl) (by decide) ?_
        obtain ⟨r, σ1, σ2, hC1, hC2, hI⟩ := hO.2.2.2.2.1 (xs (nI i + 1).toNatClampNeg) σ hI
        refine lv_aload_n hx hb dL_law_228 rfl (lv_at hl 1 rfl) ?_
        refine lv_aload_n hx hb dL_law_229 rfl (lv_at hl 0 rfl) ?_
        refine lv_iload_n hx hb dL_law_230 rfl (lv_at hl 3 rfl) ?_
        refine lv_iconst (v := 1) hx hb dL_law_231 (by decide) ?_
        refine lv_iadd hx hb dL_law_232 ?_
        refine va_sld hx hb hX hbl hbA hS hi1 dL_law_233 ?_
        refine iv_L_31 F hS hP (c_X7_classOf l E N (xs (nI i + 1).toNatClampNeg) σ _ _ hC1) ⟨Nat.le_of_ble_eq_true rfl, Nat.le_of_ble_eq_true rfl⟩ hl.1 (Nat.le_of_ble_eq_true rfl) dL_law_234 ⟨Nat.le_of_ble_eq_true rfl, Nat.le_of_ble_eq_true rfl⟩ (fun H locs hP hS => ?_)
        refine lv_aload_n hx hb dL_law_237 rfl (lv_at hl 2 rfl) ?_
        refine lv_aload_n hx hb dL_law_238 rfl (lv_at hl 0 rfl) ?_
        refine lv_iload_n hx hb dL_law_239 rfl (lv_at hl 3 rfl) ?_
        refine lv_iconst (v := 1) hx hb dL_law_240 (by decide) ?_
        refine lv_iadd hx hb dL_law_241 ?_
        refine va_sld hx hb hX hbl hbA hS hi1 dL_law_242 ?_
        refine iv_L_34 F hS hP (c_X8_classOf l E N (xs (nI i + 1).toNatClampNeg) σ1 _ _ hC2) ⟨Nat.le_of_ble_eq_true rfl, Nat.le_of_ble_eq_true rfl⟩ hl.1 (Nat.le_of_ble_eq_true rfl) dL_law_243 ⟨Nat.le_of_ble_eq_true rfl, Nat.le_of_ble_eq_true rfl⟩ (fun H locs hP hS => ?_)
        refine lv_icmp_eq (tgt := 968) hx hb dL_law_246 (by decide) (fun _ => T σ2 _ _ _ hI hP hS hl) (fun h => absurd rfl h)
      by_cases k5 : x = 5
      · refine lv_tableIn (off := 218) (tgt := 251) hx hb dL_law_33 (by rw [k5]; decide) (by rw [k5]; decide) (by rw [k5]; rfl) (by decide) ?_
        obtain ⟨r, σ1, σ2, hC1, hC2, hI⟩ := hO.2.2.2.2.2.1 (xs (nI i + 1).toNatClampNeg) σ hI
        refine lv_aload_n hx hb dL_law_251 rfl (lv_at hl 1 rfl) ?_
        refine lv_aload_n hx hb dL_law_252 rfl (lv_at hl 0 rfl) ?_
        refine lv_iload_n hx hb dL_law_253 rfl (lv_at hl 3 rfl) ?_
        refine lv_iconst (v := 1) hx hb dL_law_254 (by decide) ?_
        refine lv_iadd hx hb dL_law_255 ?_
        refine va_sld hx hb hX hbl hbA hS hi1 dL_law_256 ?_
        refine iv_L_35 F hS hP (c_X7_core l E N (xs (nI i + 1).toNatClampNeg) σ _ _ hC1) ⟨Nat.le_of_ble_eq_true rfl, Nat.le_of_ble_eq_true rfl⟩ hl.1 (Nat.le_of_ble_eq_true rfl) dL_law_257 ⟨Nat.le_of_ble_eq_true rfl, Nat.le_of_ble_eq_true rfl⟩ (fun H locs hP hS => ?_)
        refine lv_aload_n hx hb dL_law_260 rfl (lv_at hl 2 rfl) ?_
        refine lv_aload_n hx hb dL_law_261 rfl (lv_at hl 0 rfl) ?_
        refine lv_iload_n hx hb dL_law_262 rfl (lv_at hl 3 rfl) ?_
        refine lv_iconst (v := 1) hx hb dL_law_263 (by decide) ?_
        refine lv_iadd hx hb dL_law_264 ?_
        refine va_sld hx hb hX hbl hbA hS hi1 dL_law_265 ?_
        refine iv_L_38 F hS hP (c_X8_core l E N (xs (nI i + 1).toNatClampNeg) σ1 _ _ hC2) ⟨Nat.le_of_ble_eq_true rfl, Nat.le_of_ble_eq_true rfl⟩ hl.1 (Nat.le_of_ble_eq_true rfl) dL_law_266 ⟨Nat.le_of_ble_eq_true rfl, Nat.le_of_ble_eq_true rfl⟩ (fun H locs hP hS => ?_)
        refine lv_icmp_eq (tgt := 968) hx hb dL_law_269 (by decide) (fun _ => T σ2 _ _ _ hI hP hS hl) (fun h => absurd rfl h)
      by_cases k6 : x = 6
      · refine lv_tableIn (off := 241) (tgt := 274) hx hb dL_law_33 (by rw [k6]; decide) (by rw [k6]; decide) (by rw [k6]; rfl) (by decide) ?_
        obtain ⟨r, σ1, σ2, hC1, hC2, hI⟩ := hO.2.2.2.2.2.2.1 (xs (nI i + 1).toNatClampNeg) (xs (nI i + 2).toNatClampNeg) (xs (nI i + 3).toNatClampNeg) σ hI
        refine lv_aload_n hx hb dL_law_274 rfl (lv_at hl 1 rfl) ?_
        refine lv_aload_n hx hb dL_law_275 rfl (lv_at hl 0 rfl) ?_
        refine lv_iload_n hx hb dL_law_276 rfl (lv_at hl 3 rfl) ?_
        refine lv_iconst (v := 1) hx hb dL_law_277 (by decide) ?_
        refine lv_iadd hx hb dL_law_278 ?_
        refine va_sld hx hb hX hbl hbA hS hi1 dL_law_279 ?_
        refine lv_aload_n hx hb dL_law_280 rfl (lv_at hl 0 rfl) ?_
        refine lv_iload_n hx hb dL_law_281 rfl (lv_at hl 3 rfl) ?_
        refine lv_iconst (v := 2) hx hb dL_law_282 (by decide) ?_
        refine lv_iadd hx hb dL_law_283 ?_
        refine va_sld hx hb hX hbl hbA hS hi2 dL_law_284 ?_
        refine lv_aload_n hx hb dL_law_285 rfl (lv_at hl 0 rfl) ?_
        refine lv_iload_n hx hb dL_law_286 rfl (lv_at hl 3 rfl) ?_
        refine lv_iconst (v := 3) hx hb dL_law_287 (by decide) ?_
        refine lv_iadd hx hb dL_law_288 ?_
        refine va_sld hx hb hX hbl hbA hS hi3 dL_law_289 ?_
        refine iv_L_39 F hS hP (c_X7_symbol l E N (xs (nI i + 1).toNatClampNeg) (xs (nI i + 2).toNatClampNeg) (xs (nI i + 3).toNatClampNeg) σ _ _ hC1) ⟨Nat.le_of_ble_eq_true rfl, Nat.le_of_ble_eq_true rfl⟩ hl.1 (Nat.le_of_ble_eq_true rfl) dL_law_290 ⟨Nat.le_of_ble_eq_true rfl, Nat.le_of_ble_eq_true rfl⟩ (fun H locs hP hS => ?_)
        refine lv_aload_n hx hb dL_law_293 rfl (lv_at hl 2 rfl) ?_
        refine lv_aload_n hx hb dL_law_294 rfl (lv_at hl 0 rfl) ?_
        refine lv_iload_n hx hb dL_law_295 rfl (lv_at hl 3 rfl) ?_
        refine lv_iconst (v := 1) hx hb dL_law_296 (by decide) ?_
        refine lv_iadd hx hb dL_law_297 ?_
        refine va_sld hx hb hX hbl hbA hS hi1 dL_law_298 ?_
        refine lv_aload_n hx hb dL_law_299 rfl (lv_at hl 0 rfl) ?_
        refine lv_iload_n hx hb dL_law_300 rfl (lv_at hl 3 rfl) ?_
        refine lv_iconst (v := 2) hx hb dL_law_301 (by decide) ?_
        refine lv_iadd hx hb dL_law_302 ?_
        refine va_sld hx hb hX hbl hbA hS hi2 dL_law_303 ?_
        refine lv_aload_n hx hb dL_law_304 rfl (lv_at hl 0 rfl) ?_
        refine lv_iload_n hx hb dL_law_305 rfl (lv_at hl 3 rfl) ?_
        refine lv_iconst (v := 3) hx hb dL_law_306 (by decide) ?_
        refine lv_iadd hx hb dL_law_307 ?_
        refine va_sld hx hb hX hbl hbA hS hi3 dL_law_308 ?_
        refine iv_L_43 F hS hP (c_X8_symbol l E N (xs (nI i + 1).toNatClampNeg) (xs (nI i + 2).toNatClampNeg) (xs (nI i + 3).toNatClampNeg) σ1 _ _ hC2) ⟨Nat.le_of_ble_eq_true rfl, Nat.le_of_ble_eq_true rfl⟩ hl.1 (Nat.le_of_ble_eq_true rfl) dL_law_309 ⟨Nat.le_of_ble_eq_true rfl, Nat.le_of_ble_eq_true rfl⟩ (fun H locs hP hS => ?_)
        refine lv_icmp_eq (tgt := 968) hx hb dL_law_312 (by decide) (fun _ => T σ2 _ _ _ hI hP hS hl) (fun h => absurd rfl h)
      by_cases k7 : x = 7
      · refine lv_tableIn (off := 284) (tgt := 317) hx hb dL_law_33 (by rw [k7]; decide) (by rw [k7]; decide) (by rw [k7]; rfl) (by decide) ?_
        obtain ⟨r, σ1, σ2, hC1, hC2, hI⟩ := hO.2.2.2.2.2.2.2.1 (xs (nI i + 1).toNatClampNeg) (xs (nI i + 2).toNatClampNeg) σ hI
        refine lv_aload_n hx hb dL_law_317 rfl (lv_at hl 1 rfl) ?_
        refine lv_aload_n hx hb dL_law_318 rfl (lv_at hl 0 rfl) ?_
        refine lv_iload_n hx hb dL_law_319 rfl (lv_at hl 3 rfl) ?_
        refine lv_iconst (v := 1) hx hb dL_law_320 (by decide) ?_
        refine lv_iadd hx hb dL_law_321 ?_
        refine va_sld hx hb hX hbl hbA hS hi1 dL_law_322 ?_
        refine lv_aload_n hx hb dL_law_323 rfl (lv_at hl 0 rfl) ?_
        refine lv_iload_n hx hb dL_law_324 rfl (lv_at hl 3 rfl) ?_
        refine lv_iconst (v := 2) hx hb dL_law_325 (by decide) ?_
        refine lv_iadd hx hb dL_law_326 ?_
        refine va_sld hx hb hX hbl hbA hS hi2 dL_law_327 ?_
        refine iv_L_44 F hS hP (c_X7_square l E N (xs (nI i + 1).toNatClampNeg) (xs (nI i + 2).toNatClampNeg) σ _ _ hC1) ⟨Nat.le_of_ble_eq_true rfl, Nat.le_of_ble_eq_true rfl⟩ hl.1 (Nat.le_of_ble_eq_true rfl) dL_law_328 ⟨Nat.le_of_ble_eq_true rfl, Nat.le_of_ble_eq_true rfl⟩ (fun H locs hP hS => ?_)
        refine lv_aload_n hx hb dL_law_331 rfl (lv_at hl 2 rfl) ?_
        refine lv_aload_n hx hb dL_law_332 rfl (lv_at hl 0 rfl) ?_
        refine lv_iload_n hx hb dL_law_333 rfl (lv_at hl 3 rfl) ?_
        refine lv_iconst (v := 1) hx hb dL_law_334 (by decide) ?_
        refine lv_iadd hx hb dL_law_335 ?_
        refine va_sld hx hb hX hbl hbA hS hi1 dL_law_336 ?_
        refine lv_aload_n hx hb dL_law_337 rfl (lv_at hl 0 rfl) ?_
        refine lv_iload_n hx hb dL_law_338 rfl (lv_at hl 3 rfl) ?_
        refine lv_iconst (v := 2) hx hb dL_law_339 (by decide) ?_
        refine lv_iadd hx hb dL_law_340 ?_
        refine va_sld hx hb hX hbl hbA hS hi2 dL_law_341 ?_
        refine iv_L_48 F hS hP (c_X8_square l E N (xs (nI i + 1).toNatClampNeg) (xs (nI i + 2).toNatClampNeg) σ1 _ _ hC2) ⟨Nat.le_of_ble_eq_true rfl, Nat.le_of_ble_eq_true rfl⟩ hl.1 (Nat.le_of_ble_eq_true rfl) dL_law_342 ⟨Nat.le_of_ble_eq_true rfl, Nat.le_of_ble_eq_true rfl⟩ (fun H locs hP hS => ?_)
        refine lv_icmp_eq (tgt := 968) hx hb dL_law_345 (by decide) (fun _ => T σ2 _ _ _ hI hP hS hl) (fun h => absurd rfl h)
      by_cases k8 : x = 8
      · refine lv_tableIn (off := 317) (tgt := 350) hx hb dL_law_33 (by rw [k8]; decide) (by rw [k8]; decide) (by rw [k8]; rfl) (by decide) ?_
        obtain ⟨r, σ1, σ2, hC1, hC2, hI⟩ := hO.2.2.2.2.2.2.2.2.1 (xs (nI i + 1).toNatClampNeg) (xs (nI i + 2).toNatClampNeg) σ hI
        refine lv_aload_n hx hb dL_law_350 rfl (lv_at hl 1 rfl) ?_
        refine lv_aload_n hx hb dL_law_351 rfl (lv_at hl 0 rfl) ?_
        refine lv_iload_n hx hb dL_law_352 rfl (lv_at hl 3 rfl) ?_
        refine lv_iconst (v := 1) hx hb dL_law_353 (by decide) ?_
        refine lv_iadd hx hb dL_law_354 ?_
        refine va_sld hx hb hX hbl hbA hS hi1 dL_law_355 ?_
        refine lv_aload_n hx hb dL_law_356 rfl (lv_at hl 0 rfl) ?_
        refine lv_iload_n hx hb dL_law_357 rfl (lv_at hl 3 rfl) ?_
        refine lv_iconst (v := 2) hx hb dL_law_358 (by decide) ?_
        refine lv_iadd hx hb dL_law_359 ?_
        refine va_sld hx hb hX hbl hbA hS hi2 dL_law_360 ?_
        refine iv_L_49 F hS hP (c_X7_at l E N (xs (nI i + 1).toNatClampNeg) (xs (nI i + 2).toNatClampNeg) σ _ _ hC1) ⟨Nat.le_of_ble_eq_true rfl, Nat.le_of_ble_eq_true rfl⟩ hl.1 (Nat.le_of_ble_eq_true rfl) dL_law_361 ⟨Nat.le_of_ble_eq_true rfl, Nat.le_of_ble_eq_true rfl⟩ (fun H locs hP hS => ?_)
        refine lv_aload_n hx hb dL_law_364 rfl (lv_at hl 2 rfl) ?_
        refine lv_aload_n hx hb dL_law_365 rfl (lv_at hl 0 rfl) ?_
        refine lv_iload_n hx hb dL_law_366 rfl (lv_at hl 3 rfl) ?_
        refine lv_iconst (v := 1) hx hb dL_law_367 (by decide) ?_
        refine lv_iadd hx hb dL_law_368 ?_
        refine va_sld hx hb hX hbl hbA hS hi1 dL_law_369 ?_
        refine lv_aload_n hx hb dL_law_370 rfl (lv_at hl 0 rfl) ?_
        refine lv_iload_n hx hb dL_law_371 rfl (lv_at hl 3 rfl) ?_
        refine lv_iconst (v := 2) hx hb dL_law_372 (by decide) ?_
        refine lv_iadd hx hb dL_law_373 ?_
        refine va_sld hx hb hX hbl hbA hS hi2 dL_law_374 ?_
        refine iv_L_52 F hS hP (c_X8_at l E N (xs (nI i + 1).toNatClampNeg) (xs (nI i + 2).toNatClampNeg) σ1 _ _ hC2) ⟨Nat.le_of_ble_eq_true rfl, Nat.le_of_ble_eq_true rfl⟩ hl.1 (Nat.le_of_ble_eq_true rfl) dL_law_375 ⟨Nat.le_of_ble_eq_true rfl, Nat.le_of_ble_eq_true rfl⟩ (fun H locs hP hS => ?_)
        refine lv_icmp_eq (tgt := 968) hx hb dL_law_378 (by decide) (fun _ => T σ2 _ _ _ hI hP hS hl) (fun h => absurd rfl h)
      by_cases k9 : x = 9
      · refine lv_tableIn (off := 350) (tgt := 383) hx hb dL_law_33 (by rw [k9]; decide) (by rw [k9]; decide) (by rw [k9]; rfl) (by decide) ?_
        obtain ⟨r, σ1, σ2, hC1, hC2, hI⟩ := hO.2.2.2.2.2.2.2.2.2.1 (xs (nI i + 1).toNatClampNeg) (xs (nI i + 2).toNatClampNeg) σ hI
        refine lv_aload_n hx hb dL_law_383 rfl (lv_at hl 1 rfl) ?_
        refine lv_aload_n hx hb dL_law_384 rfl (lv_at hl 0 rfl) ?_
        refine lv_iload_n hx hb dL_law_385 rfl (lv_at hl 3 rfl) ?_
        refine lv_iconst (v := 1) hx hb dL_law_386 (by decide) ?_
        refine lv_iadd hx hb dL_law_387 ?_
        refine va_sld hx hb hX hbl hbA hS hi1 dL_law_388 ?_
        refine lv_aload_n hx hb dL_law_389 rfl (lv_at hl 0 rfl) ?_
        refine lv_iload_n hx hb dL_law_390 rfl (lv_at hl 3 rfl) ?_
        refine lv_iconst (v := 2) hx hb dL_law_391 (by decide) ?_
        refine lv_iadd hx hb dL_law_392 ?_
        refine va_sld hx hb hX hbl hbA hS hi2 dL_law_393 ?_
        refine iv_L_53 F hS hP (c_X7_about l E N (xs (nI i + 1).toNatClampNeg) (xs (nI i + 2).toNatClampNeg) σ _ _ hC1) ⟨Nat.le_of_ble_eq_true rfl, Nat.le_of_ble_eq_true rfl⟩ hl.1 (Nat.le_of_ble_eq_true rfl) dL_law_394 ⟨Nat.le_of_ble_eq_true rfl, Nat.le_of_ble_eq_true rfl⟩ (fun H locs hP hS => ?_)
        refine lv_aload_n hx hb dL_law_397 rfl (lv_at hl 2 rfl) ?_
        refine lv_aload_n hx hb dL_law_398 rfl (lv_at hl 0 rfl) ?_
        refine lv_iload_n hx hb dL_law_399 rfl (lv_at hl 3 rfl) ?_
        refine lv_iconst (v := 1) hx hb dL_law_400 (by decide) ?_
        refine lv_iadd hx hb dL_law_401 ?_
        refine va_sld hx hb hX hbl hbA hS hi1 dL_law_402 ?_
        refine lv_aload_n hx hb dL_law_403 rfl (lv_at hl 0 rfl) ?_
        refine lv_iload_n hx hb dL_law_404 rfl (lv_at hl 3 rfl) ?_
        refine lv_iconst (v := 2) hx hb dL_law_405 (by decide) ?_
        refine lv_iadd hx hb dL_law_406 ?_
        refine va_sld hx hb hX hbl hbA hS hi2 dL_law_407 ?_
        refine iv_L_56 F hS hP (c_X8_about l E N (xs (nI i + 1).toNatClampNeg) (xs (nI i + 2).toNatClampNeg) σ1 _ _ hC2) ⟨Nat.le_of_ble_eq_true rfl, Nat.le_of_ble_eq_true rfl⟩ hl.1 (Nat.le_of_ble_eq_true rfl) dL_law_408 ⟨Nat.le_of_ble_eq_true rfl, Nat.le_of_ble_eq_true rfl⟩ (fun H locs hP hS => ?_)
        refine lv_icmp_eq (tgt := 968) hx hb dL_law_411 (by decide) (fun _ => T σ2 _ _ _ hI hP hS hl) (fun h => absurd rfl h)
      by_cases k10 : x = 10
      · refine lv_tableIn (off := 383) (tgt := 416) hx hb dL_law_33 (by rw [k10]; decide) (by rw [k10]; decide) (by rw [k10]; rfl) (by decide) ?_
        obtain ⟨r, σ1, σ2, hC1, hC2, hI⟩ := hO.2.2.2.2.2.2.2.2.2.2.1 (xs (nI i + 1).toNatClampNeg) (xs (nI i + 2).toNatClampNeg) σ hI
        refine lv_aload_n hx hb dL_law_416 rfl (lv_at hl 1 rfl) ?_
        refine lv_aload_n hx hb dL_law_417 rfl (lv_at hl 0 rfl) ?_
        refine lv_iload_n hx hb dL_law_418 rfl (lv_at hl 3 rfl) ?_
        refine lv_iconst (v := 1) hx hb dL_law_419 (by decide) ?_
        refine lv_iadd hx hb dL_law_420 ?_
        refine va_sld hx hb hX hbl hbA hS hi1 dL_law_421 ?_
        refine lv_aload_n hx hb dL_law_422 rfl (lv_at hl 0 rfl) ?_
        refine lv_iload_n hx hb dL_law_423 rfl (lv_at hl 3 rfl) ?_
        refine lv_iconst (v := 2) hx hb dL_law_424 (by decide) ?_
        refine lv_iadd hx hb dL_law_425 ?_
        refine va_sld hx hb hX hbl hbA hS hi2 dL_law_426 ?_
        refine iv_L_57 F hS hP (c_X7_like l E N (xs (nI i + 1).toNatClampNeg) (xs (nI i + 2).toNatClampNeg) σ _ _ hC1) ⟨Nat.le_of_ble_eq_true rfl, Nat.le_of_ble_eq_true rfl⟩ hl.1 (Nat.le_of_ble_eq_true rfl) dL_law_427 ⟨Nat.le_of_ble_eq_true rfl, Nat.le_of_ble_eq_true rfl⟩ (fun H locs hP hS => ?_)
        refine lv_aload_n hx hb dL_law_430 rfl (lv_at hl 2 rfl) ?_
        refine lv_aload_n hx hb dL_law_431 rfl (lv_at hl 0 rfl) ?_
        refine lv_iload_n hx hb dL_law_432 rfl (lv_at hl 3 rfl) ?_
        refine lv_iconst (v := 1) hx hb dL_law_433 (by decide) ?_
        refine lv_iadd hx hb dL_law_434 ?_
        refine va_sld hx hb hX hbl hbA hS hi1 dL_law_435 ?_
        refine lv_aload_n hx hb dL_law_436 rfl (lv_at hl 0 rfl) ?_
        refine lv_iload_n hx hb dL_law_437 rfl (lv_at hl 3 rfl) ?_
        refine lv_iconst (v := 2) hx hb dL_law_438 (by decide) ?_
        refine lv_iadd hx hb dL_law_439 ?_
        refine va_sld hx hb hX hbl hbA hS hi2 dL_law_440 ?_
        refine iv_L_60 F hS hP (c_X8_like l E N (xs (nI i + 1).toNatClampNeg) (xs (nI i + 2).toNatClampNeg) σ1 _ _ hC2) ⟨Nat.le_of_ble_eq_true rfl, Nat.le_of_ble_eq_true rfl⟩ hl.1 (Nat.le_of_ble_eq_true rfl) dL_law_441 ⟨Nat.le_of_ble_eq_true rfl, Nat.le_of_ble_eq_true rfl⟩ (fun H locs hP hS => ?_)
        refine lv_icmp_eq (tgt := 968) hx hb dL_law_444 (by decide) (fun _ => T σ2 _ _ _ hI hP hS hl) (fun h => absurd rfl h)
      by_cases k11 : x = 11
      · refine lv_tableIn (off := 416) (tgt := 449) hx hb dL_law_33 (by rw [k11]; decide) (by rw [k11]; decide) (by rw [k11]; rfl) (by decide) ?_
        obtain ⟨r, σ1, σ2, hC1, hC2, hI⟩ := hO.2.2.2.2.2.2.2.2.2.2.2.1 (xs (nI i + 1).toNatClampNeg) (xs (nI i + 2).toNatClampNeg) σ hI
        refine lv_aload_n hx hb dL_law_449 rfl (lv_at hl 1 rfl) ?_
        refine lv_aload_n hx hb dL_law_450 rfl (lv_at hl 0 rfl) ?_
        refine lv_iload_n hx hb dL_law_451 rfl (lv_at hl 3 rfl) ?_
        refine lv_iconst (v := 1) hx hb dL_law_452 (by decide) ?_
        refine lv_iadd hx hb dL_law_453 ?_
        refine va_sld hx hb hX hbl hbA hS hi1 dL_law_454 ?_
        refine lv_aload_n hx hb dL_law_455 rfl (lv_at hl 0 rfl) ?_
        refine lv_iload_n hx hb dL_law_456 rfl (lv_at hl 3 rfl) ?_
        refine lv_iconst (v := 2) hx hb dL_law_457 (by decide) ?_
        refine lv_iadd hx hb dL_law_458 ?_
        refine va_sld hx hb hX hbl hbA hS hi2 dL_law_459 ?_
        refine iv_L_61 F hS hP (c_X7_meets l E N (xs (nI i + 1).toNatClampNeg) (xs (nI i + 2).toNatClampNeg) σ _ _ hC1) ⟨Nat.le_of_ble_eq_true rfl, Nat.le_of_ble_eq_true rfl⟩ hl.1 (Nat.le_of_ble_eq_true rfl) dL_law_460 ⟨Nat.le_of_ble_eq_true rfl, Nat.le_of_ble_eq_true rfl⟩ (fun H locs hP hS => ?_)
        refine lv_aload_n hx hb dL_law_463 rfl (lv_at hl 2 rfl) ?_
        refine lv_aload_n hx hb dL_law_464 rfl (lv_at hl 0 rfl) ?_
        refine lv_iload_n hx hb dL_law_465 rfl (lv_at hl 3 rfl) ?_
        refine lv_iconst (v := 1) hx hb dL_law_466 (by decide) ?_
        refine lv_iadd hx hb dL_law_467 ?_
        refine va_sld hx hb hX hbl hbA hS hi1 dL_law_468 ?_
        refine lv_aload_n hx hb dL_law_469 rfl (lv_at hl 0 rfl) ?_
        refine lv_iload_n hx hb dL_law_470 rfl (lv_at hl 3 rfl) ?_
        refine lv_iconst (v := 2) hx hb dL_law_471 (by decide) ?_
        refine lv_iadd hx hb dL_law_472 ?_
        refine va_sld hx hb hX hbl hbA hS hi2 dL_law_473 ?_
        refine iv_L_64 F hS hP (c_X8_meets l E N (xs (nI i + 1).toNatClampNeg) (xs (nI i + 2).toNatClampNeg) σ1 _ _ hC2) ⟨Nat.le_of_ble_eq_true rfl, Nat.le_of_ble_eq_true rfl⟩ hl.1 (Nat.le_of_ble_eq_true rfl) dL_law_474 ⟨Nat.le_of_ble_eq_true rfl, Nat.le_of_ble_eq_true rfl⟩ (fun H locs hP hS => ?_)
        refine lv_icmp_eq (tgt := 968) hx hb dL_law_477 (by decide) (fun _ => T σ2 _ _ _ hI hP hS hl) (fun h => absurd rfl h)
      by_cases k12 : x = 12
      · refine lv_tableIn (off := 449) (tgt := 482) hx hb dL_law_33 (by rw [k12]; decide) (by rw [k12]; decide) (by rw [k12]; rfl) (by decide) ?_
        obtain ⟨r, σ1, σ2, hC1, hC2, hI⟩ := hO.2.2.2.2.2.2.2.2.2.2.2.2.1 (xs (nI i + 1).toNatClampNeg) (xs (nI i + 2).toNatClampNeg) σ hI
        refine lv_aload_n hx hb dL_law_482 rfl (lv_at hl 1 rfl) ?_
        refine lv_aload_n hx hb dL_law_483 rfl (lv_at hl 0 rfl) ?_
        refine lv_iload_n hx hb dL_law_484 rfl (lv_at hl 3 rfl) ?_
        refine lv_iconst (v := 1) hx hb dL_law_485 (by decide) ?_
        refine lv_iadd hx hb dL_law_486 ?_
        refine va_sld hx hb hX hbl hbA hS hi1 dL_law_487 ?_
        refine lv_aload_n hx hb dL_law_488 rfl (lv_at hl 0 rfl) ?_
        refine lv_iload_n hx hb dL_law_489 rfl (lv_at hl 3 rfl) ?_
        refine lv_iconst (v := 2) hx hb dL_law_490 (by decide) ?_
        refine lv_iadd hx hb dL_law_491 ?_
        refine va_sld hx hb hX hbl hbA hS hi2 dL_law_492 ?_
        refine iv_L_65 F hS hP (c_X7_row l E N (xs (nI i + 1).toNatClampNeg) (xs (nI i + 2).toNatClampNeg) σ _ _ hC1) ⟨Nat.le_of_ble_eq_true rfl, Nat.le_of_ble_eq_true rfl⟩ hl.1 (Nat.le_of_ble_eq_true rfl) dL_law_493 ⟨Nat.le_of_ble_eq_true rfl, Nat.le_of_ble_eq_true rfl⟩ (fun H locs hP hS => ?_)
        refine lv_aload_n hx hb dL_law_496 rfl (lv_at hl 2 rfl) ?_
        refine lv_aload_n hx hb dL_law_497 rfl (lv_at hl 0 rfl) ?_
        refine lv_iload_n hx hb dL_law_498 rfl (lv_at hl 3 rfl) ?_
        refine lv_iconst (v := 1) hx hb dL_law_499 (by decide) ?_
        refine lv_iadd hx hb dL_law_500 ?_
        refine va_sld hx hb hX hbl hbA hS hi1 dL_law_501 ?_
        refine lv_aload_n hx hb dL_law_502 rfl (lv_at hl 0 rfl) ?_
        refine lv_iload_n hx hb dL_law_503 rfl (lv_at hl 3 rfl) ?_
        refine lv_iconst (v := 2) hx hb dL_law_504 (by decide) ?_
        refine lv_iadd hx hb dL_law_505 ?_
        refine va_sld hx hb hX hbl hbA hS hi2 dL_law_506 ?_
        refine iv_L_68 F hS hP (c_X8_row l E N (xs (nI i + 1).toNatClampNeg) (xs (nI i + 2).toNatClampNeg) σ1 _ _ hC2) ⟨Nat.le_of_ble_eq_true rfl, Nat.le_of_ble_eq_true rfl⟩ hl.1 (Nat.le_of_ble_eq_true rfl) dL_law_507 ⟨Nat.le_of_ble_eq_true rfl, Nat.le_of_ble_eq_true rfl⟩ (fun H locs hP hS => ?_)
        refine lv_icmp_eq (tgt := 968) hx hb dL_law_510 (by decide) (fun _ => T σ2 _ _ _ hI hP hS hl) (fun h => absurd rfl h)
      by_cases k13 : x = 13
      · refine lv_tableIn (off := 482) (tgt := 515) hx hb dL_law_33 (by rw [k13]; decide) (by rw [k13]; decide) (by rw [k13]; rfl) (by decide) ?_
        obtain ⟨r, σ1, σ2, hC1, hC2, hI⟩ := hO.2.2.2.2.2.2.2.2.2.2.2.2.2.1 (xs (nI i + 1).toNatClampNeg) (xs (nI i + 2).toNatClampNeg) (xs (nI i + 3).toNatClampNeg) σ hI
        refine lv_aload_n hx hb dL_law_515 rfl (lv_at hl 1 rfl) ?_
        refine lv_aload_n hx hb dL_law_516 rfl (lv_at hl 0 rfl) ?_
        refine lv_iload_n hx hb dL_law_517 rfl (lv_at hl 3 rfl) ?_
        refine lv_iconst (v := 1) hx hb dL_law_518 (by decide) ?_
        refine lv_iadd hx hb dL_law_519 ?_
        refine va_sld hx hb hX hbl hbA hS hi1 dL_law_520 ?_
        refine lv_aload_n hx hb dL_law_521 rfl (lv_at hl 0 rfl) ?_
        refine lv_iload_n hx hb dL_law_522 rfl (lv_at hl 3 rfl) ?_
        refine lv_iconst (v := 2) hx hb dL_law_523 (by decide) ?_
        refine lv_iadd hx hb dL_law_524 ?_
        refine va_sld hx hb hX hbl hbA hS hi2 dL_law_525 ?_
        refine lv_aload_n hx hb dL_law_526 rfl (lv_at hl 0 rfl) ?_
        refine lv_iload_n hx hb dL_law_527 rfl (lv_at hl 3 rfl) ?_
        refine lv_iconst (v := 3) hx hb dL_law_528 (by decide) ?_
        refine lv_iadd hx hb dL_law_529 ?_
        refine va_sld hx hb hX hbl hbA hS hi3 dL_law_530 ?_
        refine iv_L_69 F hS hP (c_X7_way l E N (xs (nI i + 1).toNatClampNeg) (xs (nI i + 2).toNatClampNeg) (xs (nI i + 3).toNatClampNeg) σ _ _ hC1) ⟨Nat.le_of_ble_eq_true rfl, Nat.le_of_ble_eq_true rfl⟩ hl.1 (Nat.le_of_ble_eq_true rfl) dL_law_531 ⟨Nat.le_of_ble_eq_true rfl, Nat.le_of_ble_eq_true rfl⟩ (fun H locs hP hS => ?_)
        refine lv_aload_n hx hb dL_law_534 rfl (lv_at hl 2 rfl) ?_
        refine lv_aload_n hx hb dL_law_535 rfl (lv_at hl 0 rfl) ?_
        refine lv_iload_n hx hb dL_law_536 rfl (lv_at hl 3 rfl) ?_
        refine lv_iconst (v := 1) hx hb dL_law_537 (by decide) ?_
        refine lv_iadd hx hb dL_law_538 ?_
        refine va_sld hx hb hX hbl hbA hS hi1 dL_law_539 ?_
        refine lv_aload_n hx hb dL_law_540 rfl (lv_at hl 0 rfl) ?_
        refine lv_iload_n hx hb dL_law_541 rfl (lv_at hl 3 rfl) ?_
        refine lv_iconst (v := 2) hx hb dL_law_542 (by decide) ?_
        refine lv_iadd hx hb dL_law_543 ?_
        refine va_sld hx hb hX hbl hbA hS hi2 dL_law_544 ?_
        refine lv_aload_n hx hb dL_law_545 rfl (lv_at hl 0 rfl) ?_
        refine lv_iload_n hx hb dL_law_546 rfl (lv_at hl 3 rfl) ?_
        refine lv_iconst (v := 3) hx hb dL_law_547 (by decide) ?_
        refine lv_iadd hx hb dL_law_548 ?_
        refine va_sld hx hb hX hbl hbA hS hi3 dL_law_549 ?_
        refine iv_L_72 F hS hP (c_X8_way l E N (xs (nI i + 1).toNatClampNeg) (xs (nI i + 2).toNatClampNeg) (xs (nI i + 3).toNatClampNeg) σ1 _ _ hC2) ⟨Nat.le_of_ble_eq_true rfl, Nat.le_of_ble_eq_true rfl⟩ hl.1 (Nat.le_of_ble_eq_true rfl) dL_law_550 ⟨Nat.le_of_ble_eq_true rfl, Nat.le_of_ble_eq_true rfl⟩ (fun H locs hP hS => ?_)
        refine lv_icmp_eq (tgt := 968) hx hb dL_law_553 (by decide) (fun _ => T σ2 _ _ _ hI hP hS hl) (fun h => absurd rfl h)
      by_cases k14 : x = 14
      · refine lv_tableIn (off := 525) (tgt := 558) hx hb dL_law_33 (by rw [k14]; decide) (by rw [k14]; decide) (by rw [k14]; rfl) (by decide) ?_
        obtain ⟨r, σ1, σ2, hC1, hC2, hI⟩ := hO.2.2.2.2.2.2.2.2.2.2.2.2.2.2.1 (xs (nI i + 1).toNatClampNeg) σ hI
        refine lv_aload_n hx hb dL_law_558 rfl (lv_at hl 1 rfl) ?_
        refine lv_aload_n hx hb dL_law_559 rfl (lv_at hl 0 rfl) ?_
        refine lv_iload_n hx hb dL_law_560 rfl (lv_at hl 3 rfl) ?_
        refine lv_iconst (v := 1) hx hb dL_law_561 (by decide) ?_
        refine lv_iadd hx hb dL_law_562 ?_
        refine va_sld hx hb hX hbl hbA hS hi1 dL_law_563 ?_
        refine iv_L_73 F hS hP (c_X7_clear l E N (xs (nI i + 1).toNatClampNeg) σ _ _ hC1) ⟨Nat.le_of_ble_eq_true rfl, Nat.le_of_ble_eq_true rfl⟩ hl.1 (Nat.le_of_ble_eq_true rfl) dL_law_564 ⟨Nat.le_of_ble_eq_true rfl, Nat.le_of_ble_eq_true rfl⟩ (fun H locs hP hS => ?_)
        refine lv_aload_n hx hb dL_law_567 rfl (lv_at hl 2 rfl) ?_
        refine lv_aload_n hx hb dL_law_568 rfl (lv_at hl 0 rfl) ?_
        refine lv_iload_n hx hb dL_law_569 rfl (lv_at hl 3 rfl) ?_
        refine lv_iconst (v := 1) hx hb dL_law_570 (by decide) ?_
        refine lv_iadd hx hb dL_law_571 ?_
        refine va_sld hx hb hX hbl hbA hS hi1 dL_law_572 ?_
        refine iv_L_76 F hS hP (c_X8_clear l E N (xs (nI i + 1).toNatClampNeg) σ1 _ _ hC2) ⟨Nat.le_of_ble_eq_true rfl, Nat.le_of_ble_eq_true rfl⟩ hl.1 (Nat.le_of_ble_eq_true rfl) dL_law_573 ⟨Nat.le_of_ble_eq_true rfl, Nat.le_of_ble_eq_true rfl⟩ (fun H locs hP hS => ?_)
        refine lv_icmp_eq (tgt := 968) hx hb dL_law_576 (by decide) (fun _ => T σ2 _ _ _ hI hP hS hl) (fun h => absurd rfl h)
      by_cases k15 : x = 15
      · refine lv_tableIn (off := 548) (tgt := 581) hx hb dL_law_33 (by rw [k15]; decide) (by rw [k15]; decide) (by rw [k15]; rfl) (by decide) ?_
        obtain ⟨r, σ1, σ2, hC1, hC2, hI⟩ := hO.2.2.2.2.2.2.2.2.2.2.2.2.2.2.2.1 (xs (nI i + 1).toNatClampNeg) (xs (nI i + 2).toNatClampNeg) (xs (nI i + 3).toNatClampNeg) σ hI
        refine lv_aload_n hx hb dL_law_581 rfl (lv_at hl 1 rfl) ?_
        refine lv_aload_n hx hb dL_law_582 rfl (lv_at hl 0 rfl) ?_
        refine lv_iload_n hx hb dL_law_583 rfl (lv_at hl 3 rfl) ?_
        refine lv_iconst (v := 1) hx hb dL_law_584 (by decide) ?_
        refine lv_iadd hx hb dL_law_585 ?_
        refine va_sld hx hb hX hbl hbA hS hi1 dL_law_586 ?_
        refine lv_aload_n hx hb dL_law_587 rfl (lv_at hl 0 rfl) ?_
        refine lv_iload_n hx hb dL_law_588 rfl (lv_at hl 3 rfl) ?_
        refine lv_iconst (v := 2) hx hb dL_law_589 (by decide) ?_
        refine lv_iadd hx hb dL_law_590 ?_
        refine va_sld hx hb hX hbl hbA hS hi2 dL_law_591 ?_
        refine lv_aload_n hx hb dL_law_592 rfl (lv_at hl 0 rfl) ?_
        refine lv_iload_n hx hb dL_law_593 rfl (lv_at hl 3 rfl) ?_
        refine lv_iconst (v := 3) hx hb dL_law_594 (by decide) ?_
        refine lv_iadd hx hb dL_law_595 ?_
        refine va_sld hx hb hX hbl hbA hS hi3 dL_law_596 ?_
        refine iv_L_77 F hS hP (c_X7_join l E N (xs (nI i + 1).toNatClampNeg) (xs (nI i + 2).toNatClampNeg) (xs (nI i + 3).toNatClampNeg) σ _ _ hC1) ⟨Nat.le_of_ble_eq_true rfl, Nat.le_of_ble_eq_true rfl⟩ hl.1 (Nat.le_of_ble_eq_true rfl) dL_law_597 ⟨Nat.le_of_ble_eq_true rfl, Nat.le_of_ble_eq_true rfl⟩ (fun H locs hP hS => ?_)
        refine lv_aload_n hx hb dL_law_600 rfl (lv_at hl 2 rfl) ?_
        refine lv_aload_n hx hb dL_law_601 rfl (lv_at hl 0 rfl) ?_
        refine lv_iload_n hx hb dL_law_602 rfl (lv_at hl 3 rfl) ?_
        refine lv_iconst (v := 1) hx hb dL_law_603 (by decide) ?_
        refine lv_iadd hx hb dL_law_604 ?_
        refine va_sld hx hb hX hbl hbA hS hi1 dL_law_605 ?_
        refine lv_aload_n hx hb dL_law_606 rfl (lv_at hl 0 rfl) ?_
        refine lv_iload_n hx hb dL_law_607 rfl (lv_at hl 3 rfl) ?_
        refine lv_iconst (v := 2) hx hb dL_law_608 (by decide) ?_
        refine lv_iadd hx hb dL_law_609 ?_
        refine va_sld hx hb hX hbl hbA hS hi2 dL_law_610 ?_
        refine lv_aload_n hx hb dL_law_611 rfl (lv_at hl 0 rfl) ?_
        refine lv_iload_n hx hb dL_law_612 rfl (lv_at hl 3 rfl) ?_
        refine lv_iconst (v := 3) hx hb dL_law_613 (by decide) ?_
        refine lv_iadd hx hb dL_law_614 ?_
        refine va_sld hx hb hX hbl hbA hS hi3 dL_law_615 ?_
        refine iv_L_80 F hS hP (c_X8_join l E N (xs (nI i + 1).toNatClampNeg) (xs (nI i + 2).toNatClampNeg) (xs (nI i + 3).toNatClampNeg) σ1 _ _ hC2) ⟨Nat.le_of_ble_eq_true rfl, Nat.le_of_ble_eq_true rfl⟩ hl.1 (Nat.le_of_ble_eq_true rfl) dL_law_616 ⟨Nat.le_of_ble_eq_true rfl, Nat.le_of_ble_eq_true rfl⟩ (fun H locs hP hS => ?_)
        refine lv_icmp_eq (tgt := 968) hx hb dL_law_619 (by decide) (fun _ => T σ2 _ _ _ hI hP hS hl) (fun h => absurd rfl h)
      by_cases k16 : x = 16
      · refine lv_tableIn (off := 591) (tgt := 624) hx hb dL_law_33 (by rw [k16]; decide) (by rw [k16]; decide) (by rw [k16]; rfl) (by decide) ?_
        obtain ⟨r, σ1, σ2, hC1, hC2, hI⟩ := hO.2.2.2.2.2.2.2.2.2.2.2.2.2.2.2.2.1 (xs (nI i + 1).toNatClampNeg) (xs (nI i + 2).toNatClampNeg) (xs (nI i + 3).toNatClampNeg) σ hI
        refine lv_aload_n hx hb dL_law_624 rfl (lv_at hl 1 rfl) ?_
        refine lv_aload_n hx hb dL_law_625 rfl (lv_at hl 0 rfl) ?_
        refine lv_iload_n hx hb dL_law_626 rfl (lv_at hl 3 rfl) ?_
        refine lv_iconst (v := 1) hx hb dL_law_627 (by decide) ?_
        refine lv_iadd hx hb dL_law_628 ?_
        refine va_sld hx hb hX hbl hbA hS hi1 dL_law_629 ?_
        refine lv_aload_n hx hb dL_law_630 rfl (lv_at hl 0 rfl) ?_
        refine lv_iload_n hx hb dL_law_631 rfl (lv_at hl 3 rfl) ?_
        refine lv_iconst (v := 2) hx hb dL_law_632 (by decide) ?_
        refine lv_iadd hx hb dL_law_633 ?_
        refine va_sld hx hb hX hbl hbA hS hi2 dL_law_634 ?_
        refine lv_aload_n hx hb dL_law_635 rfl (lv_at hl 0 rfl) ?_
        refine lv_iload_n hx hb dL_law_636 rfl (lv_at hl 3 rfl) ?_
        refine lv_iconst (v := 3) hx hb dL_law_637 (by decide) ?_
        refine lv_iadd hx hb dL_law_638 ?_
        refine va_sld hx hb hX hbl hbA hS hi3 dL_law_639 ?_
        refine iv_L_81 F hS hP (c_X7_times l E N (xs (nI i + 1).toNatClampNeg) (xs (nI i + 2).toNatClampNeg) (xs (nI i + 3).toNatClampNeg) σ _ _ hC1) ⟨Nat.le_of_ble_eq_true rfl, Nat.le_of_ble_eq_true rfl⟩ hl.1 (Nat.le_of_ble_eq_true rfl) dL_law_640 ⟨Nat.le_of_ble_eq_true rfl, Nat.le_of_ble_eq_true rfl⟩ (fun H locs hP hS => ?_)
        refine lv_aload_n hx hb dL_law_643 rfl (lv_at hl 2 rfl) ?_
        refine lv_aload_n hx hb dL_law_644 rfl (lv_at hl 0 rfl) ?_
        refine lv_iload_n hx hb dL_law_645 rfl (lv_at hl 3 rfl) ?_
        refine lv_iconst (v := 1) hx hb dL_law_646 (by decide) ?_
        refine lv_iadd hx hb dL_law_647 ?_
        refine va_sld hx hb hX hbl hbA hS hi1 dL_law_648 ?_
        refine lv_aload_n hx hb dL_law_649 rfl (lv_at hl 0 rfl) ?_
        refine lv_iload_n hx hb dL_law_650 rfl (lv_at hl 3 rfl) ?_
        refine lv_iconst (v := 2) hx hb dL_law_651 (by decide) ?_
        refine lv_iadd hx hb dL_law_652 ?_
        refine va_sld hx hb hX hbl hbA hS hi2 dL_law_653 ?_
        refine lv_aload_n hx hb dL_law_654 rfl (lv_at hl 0 rfl) ?_
        refine lv_iload_n hx hb dL_law_655 rfl (lv_at hl 3 rfl) ?_
        refine lv_iconst (v := 3) hx hb dL_law_656 (by decide) ?_
        refine lv_iadd hx hb dL_law_657 ?_
        refine va_sld hx hb hX hbl hbA hS hi3 dL_law_658 ?_
        refine iv_L_84 F hS hP (c_X8_times l E N (xs (nI i + 1).toNatClampNeg) (xs (nI i + 2).toNatClampNeg) (xs (nI i + 3).toNatClampNeg) σ1 _ _ hC2) ⟨Nat.le_of_ble_eq_true rfl, Nat.le_of_ble_eq_true rfl⟩ hl.1 (Nat.le_of_ble_eq_true rfl) dL_law_659 ⟨Nat.le_of_ble_eq_true rfl, Nat.le_of_ble_eq_true rfl⟩ (fun H locs hP hS => ?_)
        refine lv_icmp_eq (tgt := 968) hx hb dL_law_662 (by decide) (fun _ => T σ2 _ _ _ hI hP hS hl) (fun h => absurd rfl h)
      by_cases k17 : x = 17
      · refine lv_tableIn (off := 634) (tgt := 667) hx hb dL_law_33 (by rw [k17]; decide) (by rw [k17]; decide) (by rw [k17]; rfl) (by decide) ?_
        obtain ⟨r, σ1, σ2, hC1, hC2, hI⟩ := hO.2.2.2.2.2.2.2.2.2.2.2.2.2.2.2.2.2.1 (xs (nI i + 1).toNatClampNeg) (xs (nI i + 2).toNatClampNeg) σ hI
        refine lv_aload_n hx hb dL_law_667 rfl (lv_at hl 1 rfl) ?_
        refine lv_aload_n hx hb dL_law_668 rfl (lv_at hl 0 rfl) ?_
        refine lv_iload_n hx hb dL_law_669 rfl (lv_at hl 3 rfl) ?_
        refine lv_iconst (v := 1) hx hb dL_law_670 (by decide) ?_
        refine lv_iadd hx hb dL_law_671 ?_
        refine va_sld hx hb hX hbl hbA hS hi1 dL_law_672 ?_
        refine lv_aload_n hx hb dL_law_673 rfl (lv_at hl 0 rfl) ?_
        refine lv_iload_n hx hb dL_law_674 rfl (lv_at hl 3 rfl) ?_
        refine lv_iconst (v := 2) hx hb dL_law_675 (by decide) ?_
        refine lv_iadd hx hb dL_law_676 ?_
        refine va_sld hx hb hX hbl hbA hS hi2 dL_law_677 ?_
        refine iv_L_85 F hS hP (c_X7_scale l E N (xs (nI i + 1).toNatClampNeg) (xs (nI i + 2).toNatClampNeg) σ _ _ hC1) ⟨Nat.le_of_ble_eq_true rfl, Nat.le_of_ble_eq_true rfl⟩ hl.1 (Nat.le_of_ble_eq_true rfl) dL_law_678 ⟨Nat.le_of_ble_eq_true rfl, Nat.le_of_ble_eq_true rfl⟩ (fun H locs hP hS => ?_)
        refine lv_aload_n hx hb dL_law_681 rfl (lv_at hl 2 rfl) ?_
        refine lv_aload_n hx hb dL_law_682 rfl (lv_at hl 0 rfl) ?_
        refine lv_iload_n hx hb dL_law_683 rfl (lv_at hl 3 rfl) ?_
        refine lv_iconst (v := 1) hx hb dL_law_684 (by decide) ?_
        refine lv_iadd hx hb dL_law_685 ?_
        refine va_sld hx hb hX hbl hbA hS hi1 dL_law_686 ?_
        refine lv_aload_n hx hb dL_law_687 rfl (lv_at hl 0 rfl) ?_
        refine lv_iload_n hx hb dL_law_688 rfl (lv_at hl 3 rfl) ?_
        refine lv_iconst (v := 2) hx hb dL_law_689 (by decide) ?_
        refine lv_iadd hx hb dL_law_690 ?_
        refine va_sld hx hb hX hbl hbA hS hi2 dL_law_691 ?_
        refine iv_L_88 F hS hP (c_X8_scale l E N (xs (nI i + 1).toNatClampNeg) (xs (nI i + 2).toNatClampNeg) σ1 _ _ hC2) ⟨Nat.le_of_ble_eq_true rfl, Nat.le_of_ble_eq_true rfl⟩ hl.1 (Nat.le_of_ble_eq_true rfl) dL_law_692 ⟨Nat.le_of_ble_eq_true rfl, Nat.le_of_ble_eq_true rfl⟩ (fun H locs hP hS => ?_)
        refine lv_icmp_eq (tgt := 968) hx hb dL_law_695 (by decide) (fun _ => T σ2 _ _ _ hI hP hS hl) (fun h => absurd rfl h)
      by_cases k18 : x = 18
      · refine lv_tableIn (off := 667) (tgt := 700) hx hb dL_law_33 (by rw [k18]; decide) (by rw [k18]; decide) (by rw [k18]; rfl) (by decide) ?_
        obtain ⟨r, σ1, σ2, hC1, hC2, hI⟩ := hO.2.2.2.2.2.2.2.2.2.2.2.2.2.2.2.2.2.2.1 (xs (nI i + 1).toNatClampNeg) (xs (nI i + 2).toNatClampNeg) (xs (nI i + 3).toNatClampNeg) (xs (nI i + 4).toNatClampNeg) (xs (nI i + 5).toNatClampNeg) σ hI
        refine lv_aload_n hx hb dL_law_700 rfl (lv_at hl 1 rfl) ?_
        refine lv_aload_n hx hb dL_law_701 rfl (lv_at hl 0 rfl) ?_
        refine lv_iload_n hx hb dL_law_702 rfl (lv_at hl 3 rfl) ?_
        refine lv_iconst (v := 1) hx hb dL_law_703 (by decide) ?_
        refine lv_iadd hx hb dL_law_704 ?_
        refine va_sld hx hb hX hbl hbA hS hi1 dL_law_705 ?_
        refine lv_aload_n hx hb dL_law_706 rfl (lv_at hl 0 rfl) ?_
        refine lv_iload_n hx hb dL_law_707 rfl (lv_at hl 3 rfl) ?_
        refine lv_iconst (v := 2) hx hb dL_law_708 (by decide) ?_
        refine lv_iadd hx hb dL_law_709 ?_
        refine va_sld hx hb hX hbl hbA hS hi2 dL_law_710 ?_
        refine lv_aload_n hx hb dL_law_711 rfl (lv_at hl 0 rfl) ?_
        refine lv_iload_n hx hb dL_law_712 rfl (lv_at hl 3 rfl) ?_
        refine lv_iconst (v := 3) hx hb dL_law_713 (by decide) ?_
        refine lv_iadd hx hb dL_law_714 ?_
        refine va_sld hx hb hX hbl hbA hS hi3 dL_law_715 ?_
        refine lv_aload_n hx hb dL_law_716 rfl (lv_at hl 0 rfl) ?_
        refine lv_iload_n hx hb dL_law_717 rfl (lv_at hl 3 rfl) ?_
        refine lv_iconst (v := 4) hx hb dL_law_718 (by decide) ?_
        refine lv_iadd hx hb dL_law_719 ?_
        refine va_sld hx hb hX hbl hbA hS hi4 dL_law_720 ?_
        refine lv_aload_n hx hb dL_law_721 rfl (lv_at hl 0 rfl) ?_
        refine lv_iload_n hx hb dL_law_722 rfl (lv_at hl 3 rfl) ?_
        refine lv_iconst (v := 5) hx hb dL_law_723 (by decide) ?_
        refine lv_iadd hx hb dL_law_724 ?_
        refine va_sld hx hb hX hbl hbA hS hi5 dL_law_725 ?_
        refine iv_L_89 F hS hP (c_X7_turn l E N (xs (nI i + 1).toNatClampNeg) (xs (nI i + 2).toNatClampNeg) (xs (nI i + 3).toNatClampNeg) (xs (nI i + 4).toNatClampNeg) (xs (nI i + 5).toNatClampNeg) σ _ _ hC1) ⟨Nat.le_of_ble_eq_true rfl, Nat.le_of_ble_eq_true rfl⟩ hl.1 (Nat.le_of_ble_eq_true rfl) dL_law_726 ⟨Nat.le_of_ble_eq_true rfl, Nat.le_of_ble_eq_true rfl⟩ (fun H locs hP hS => ?_)
        refine lv_aload_n hx hb dL_law_729 rfl (lv_at hl 2 rfl) ?_
        refine lv_aload_n hx hb dL_law_730 rfl (lv_at hl 0 rfl) ?_
        refine lv_iload_n hx hb dL_law_731 rfl (lv_at hl 3 rfl) ?_
        refine lv_iconst (v := 1) hx hb dL_law_732 (by decide) ?_
        refine lv_iadd hx hb dL_law_733 ?_
        refine va_sld hx hb hX hbl hbA hS hi1 dL_law_734 ?_
        refine lv_aload_n hx hb dL_law_735 rfl (lv_at hl 0 rfl) ?_
        refine lv_iload_n hx hb dL_law_736 rfl (lv_at hl 3 rfl) ?_
        refine lv_iconst (v := 2) hx hb dL_law_737 (by decide) ?_
        refine lv_iadd hx hb dL_law_738 ?_
        refine va_sld hx hb hX hbl hbA hS hi2 dL_law_739 ?_
        refine lv_aload_n hx hb dL_law_740 rfl (lv_at hl 0 rfl) ?_
        refine lv_iload_n hx hb dL_law_741 rfl (lv_at hl 3 rfl) ?_
        refine lv_iconst (v := 3) hx hb dL_law_742 (by decide) ?_
        refine lv_iadd hx hb dL_law_743 ?_
        refine va_sld hx hb hX hbl hbA hS hi3 dL_law_744 ?_
        refine lv_aload_n hx hb dL_law_745 rfl (lv_at hl 0 rfl) ?_
        refine lv_iload_n hx hb dL_law_746 rfl (lv_at hl 3 rfl) ?_
        refine lv_iconst (v := 4) hx hb dL_law_747 (by decide) ?_
        refine lv_iadd hx hb dL_law_748 ?_
        refine va_sld hx hb hX hbl hbA hS hi4 dL_law_749 ?_
        refine lv_aload_n hx hb dL_law_750 rfl (lv_at hl 0 rfl) ?_
        refine lv_iload_n hx hb dL_law_751 rfl (lv_at hl 3 rfl) ?_
        refine lv_iconst (v := 5) hx hb dL_law_752 (by decide) ?_
        refine lv_iadd hx hb dL_law_753 ?_
        refine va_sld hx hb hX hbl hbA hS hi5 dL_law_754 ?_
        refine iv_L_93 F hS hP (c_X8_turn l E N (xs (nI i + 1).toNatClampNeg) (xs (nI i + 2).toNatClampNeg) (xs (nI i + 3).toNatClampNeg) (xs (nI i + 4).toNatClampNeg) (xs (nI i + 5).toNatClampNeg) σ1 _ _ hC2) ⟨Nat.le_of_ble_eq_true rfl, Nat.le_of_ble_eq_true rfl⟩ hl.1 (Nat.le_of_ble_eq_true rfl) dL_law_755 ⟨Nat.le_of_ble_eq_true rfl, Nat.le_of_ble_eq_true rfl⟩ (fun H locs hP hS => ?_)
        refine lv_icmp_eq (tgt := 968) hx hb dL_law_758 (by decide) (fun _ => T σ2 _ _ _ hI hP hS hl) (fun h => absurd rfl h)
      by_cases k19 : x = 19
      · refine lv_tableIn (off := 730) (tgt := 763) hx hb dL_law_33 (by rw [k19]; decide) (by rw [k19]; decide) (by rw [k19]; rfl) (by decide) ?_
        obtain ⟨r, σ1, σ2, hC1, hC2, hI⟩ := hO.2.2.2.2.2.2.2.2.2.2.2.2.2.2.2.2.2.2.2.1 (xs (nI i + 1).toNatClampNeg) (xs (nI i + 2).toNatClampNeg) σ hI
        refine lv_aload_n hx hb dL_law_763 rfl (lv_at hl 1 rfl) ?_
        refine lv_aload_n hx hb dL_law_764 rfl (lv_at hl 0 rfl) ?_
        refine lv_iload_n hx hb dL_law_765 rfl (lv_at hl 3 rfl) ?_
        refine lv_iconst (v := 1) hx hb dL_law_766 (by decide) ?_
        refine lv_iadd hx hb dL_law_767 ?_
        refine va_sld hx hb hX hbl hbA hS hi1 dL_law_768 ?_
        refine lv_aload_n hx hb dL_law_769 rfl (lv_at hl 0 rfl) ?_
        refine lv_iload_n hx hb dL_law_770 rfl (lv_at hl 3 rfl) ?_
        refine lv_iconst (v := 2) hx hb dL_law_771 (by decide) ?_
        refine lv_iadd hx hb dL_law_772 ?_
        refine va_sld hx hb hX hbl hbA hS hi2 dL_law_773 ?_
        refine iv_L_94 F hS hP (c_X7_drop l E N (xs (nI i + 1).toNatClampNeg) (xs (nI i + 2).toNatClampNeg) σ _ _ hC1) ⟨Nat.le_of_ble_eq_true rfl, Nat.le_of_ble_eq_true rfl⟩ hl.1 (Nat.le_of_ble_eq_true rfl) dL_law_774 ⟨Nat.le_of_ble_eq_true rfl, Nat.le_of_ble_eq_true rfl⟩ (fun H locs hP hS => ?_)
        refine lv_aload_n hx hb dL_law_777 rfl (lv_at hl 2 rfl) ?_
        refine lv_aload_n hx hb dL_law_778 rfl (lv_at hl 0 rfl) ?_
        refine lv_iload_n hx hb dL_law_779 rfl (lv_at hl 3 rfl) ?_
        refine lv_iconst (v := 1) hx hb dL_law_780 (by decide) ?_
        refine lv_iadd hx hb dL_law_781 ?_
        refine va_sld hx hb hX hbl hbA hS hi1 dL_law_782 ?_
        refine lv_aload_n hx hb dL_law_783 rfl (lv_at hl 0 rfl) ?_
        refine lv_iload_n hx hb dL_law_784 rfl (lv_at hl 3 rfl) ?_
        refine lv_iconst (v := 2) hx hb dL_law_785 (by decide) ?_
        refine lv_iadd hx hb dL_law_786 ?_
        refine va_sld hx hb hX hbl hbA hS hi2 dL_law_787 ?_
        refine iv_L_97 F hS hP (c_X8_drop l E N (xs (nI i + 1).toNatClampNeg) (xs (nI i + 2).toNatClampNeg) σ1 _ _ hC2) ⟨Nat.le_of_ble_eq_true rfl, Nat.le_of_ble_eq_true rfl⟩ hl.1 (Nat.le_of_ble_eq_true rfl) dL_law_788 ⟨Nat.le_of_ble_eq_true rfl, Nat.le_of_ble_eq_true rfl⟩ (fun H locs hP hS => ?_)
        refine lv_icmp_eq (tgt := 968) hx hb dL_law_791 (by decide) (fun _ => T σ2 _ _ _ hI hP hS hl) (fun h => absurd rfl h)
      by_cases k20 : x = 20
      · refine lv_tableIn (off := 763) (tgt := 796) hx hb dL_law_33 (by rw [k20]; decide) (by rw [k20]; decide) (by rw [k20]; rfl) (by decide) ?_
        obtain ⟨r, σ1, σ2, hC1, hC2, hI⟩ := hO.2.2.2.2.2.2.2.2.2.2.2.2.2.2.2.2.2.2.2.2.1  σ hI
        refine lv_aload_n hx hb dL_law_796 rfl (lv_at hl 1 rfl) ?_
        refine iv_L_98 F hS hP (c_X7_undo l E N σ _ _ hC1) ⟨Nat.le_of_ble_eq_true rfl, Nat.le_of_ble_eq_true rfl⟩ hl.1 (Nat.le_of_ble_eq_true rfl) dL_law_797 ⟨Nat.le_of_ble_eq_true rfl, Nat.le_of_ble_eq_true rfl⟩ (fun H locs hP hS => ?_)
        refine lv_aload_n hx hb dL_law_800 rfl (lv_at hl 2 rfl) ?_
        refine iv_L_101 F hS hP (c_X8_undo l E N σ1 _ _ hC2) ⟨Nat.le_of_ble_eq_true rfl, Nat.le_of_ble_eq_true rfl⟩ hl.1 (Nat.le_of_ble_eq_true rfl) dL_law_801 ⟨Nat.le_of_ble_eq_true rfl, Nat.le_of_ble_eq_true rfl⟩ (fun H locs hP hS => ?_)
        refine lv_icmp_eq (tgt := 968) hx hb dL_law_804 (by decide) (fun _ => T σ2 _ _ _ hI hP hS hl) (fun h => absurd rfl h)
      by_cases k21 : x = 21
      · refine lv_tableIn (off := 776) (tgt := 809) hx hb dL_law_33 (by rw [k21]; decide) (by rw [k21]; decide) (by rw [k21]; rfl) (by decide) ?_
        obtain ⟨r, σ1, σ2, hC1, hC2, hI⟩ := hO.2.2.2.2.2.2.2.2.2.2.2.2.2.2.2.2.2.2.2.2.2.1 (xs (nI i + 1).toNatClampNeg) σ hI
        refine lv_aload_n hx hb dL_law_809 rfl (lv_at hl 1 rfl) ?_
        refine lv_aload_n hx hb dL_law_810 rfl (lv_at hl 0 rfl) ?_
        refine lv_iload_n hx hb dL_law_811 rfl (lv_at hl 3 rfl) ?_
        refine lv_iconst (v := 1) hx hb dL_law_812 (by decide) ?_
        refine lv_iadd hx hb dL_law_813 ?_
        refine va_sld hx hb hX hbl hbA hS hi1 dL_law_814 ?_
        refine iv_L_102 F hS hP (c_X7_pairs l E N (xs (nI i + 1).toNatClampNeg) σ _ _ hC1) ⟨Nat.le_of_ble_eq_true rfl, Nat.le_of_ble_eq_true rfl⟩ hl.1 (Nat.le_of_ble_eq_true rfl) dL_law_815 ⟨Nat.le_of_ble_eq_true rfl, Nat.le_of_ble_eq_true rfl⟩ (fun H locs hP hS => ?_)
        refine lv_aload_n hx hb dL_law_818 rfl (lv_at hl 2 rfl) ?_
        refine lv_aload_n hx hb dL_law_819 rfl (lv_at hl 0 rfl) ?_
        refine lv_iload_n hx hb dL_law_820 rfl (lv_at hl 3 rfl) ?_
        refine lv_iconst (v := 1) hx hb dL_law_821 (by decide) ?_
        refine lv_iadd hx hb dL_law_822 ?_
        refine va_sld hx hb hX hbl hbA hS hi1 dL_law_823 ?_
        refine iv_L_105 F hS hP (c_X8_pairs l E N (xs (nI i + 1).toNatClampNeg) σ1 _ _ hC2) ⟨Nat.le_of_ble_eq_true rfl, Nat.le_of_ble_eq_true rfl⟩ hl.1 (Nat.le_of_ble_eq_true rfl) dL_law_824 ⟨Nat.le_of_ble_eq_true rfl, Nat.le_of_ble_eq_true rfl⟩ (fun H locs hP hS => ?_)
        refine lv_icmp_eq (tgt := 968) hx hb dL_law_827 (by decide) (fun _ => T σ2 _ _ _ hI hP hS hl) (fun h => absurd rfl h)
      by_cases k22 : x = 22
      · refine lv_tableIn (off := 799) (tgt := 832) hx hb dL_law_33 (by rw [k22]; decide) (by rw [k22]; decide) (by rw [k22]; rfl) (by decide) ?_
        obtain ⟨r, σ1, σ2, hC1, hC2, hI⟩ := hO.2.2.2.2.2.2.2.2.2.2.2.2.2.2.2.2.2.2.2.2.2.2.1 (xs (nI i + 1).toNatClampNeg) (xs (nI i + 2).toNatClampNeg) σ hI
        refine lv_aload_n hx hb dL_law_832 rfl (lv_at hl 1 rfl) ?_
        refine lv_aload_n hx hb dL_law_833 rfl (lv_at hl 0 rfl) ?_
        refine lv_iload_n hx hb dL_law_834 rfl (lv_at hl 3 rfl) ?_
        refine lv_iconst (v := 1) hx hb dL_law_835 (by decide) ?_
        refine lv_iadd hx hb dL_law_836 ?_
        refine va_sld hx hb hX hbl hbA hS hi1 dL_law_837 ?_
        refine lv_aload_n hx hb dL_law_838 rfl (lv_at hl 0 rfl) ?_
        refine lv_iload_n hx hb dL_law_839 rfl (lv_at hl 3 rfl) ?_
        refine lv_iconst (v := 2) hx hb dL_law_840 (by decide) ?_
        refine lv_iadd hx hb dL_law_841 ?_
        refine va_sld hx hb hX hbl hbA hS hi2 dL_law_842 ?_
        refine iv_L_106 F hS hP (c_X7_pair l E N (xs (nI i + 1).toNatClampNeg) (xs (nI i + 2).toNatClampNeg) σ _ _ hC1) ⟨Nat.le_of_ble_eq_true rfl, Nat.le_of_ble_eq_true rfl⟩ hl.1 (Nat.le_of_ble_eq_true rfl) dL_law_843 ⟨Nat.le_of_ble_eq_true rfl, Nat.le_of_ble_eq_true rfl⟩ (fun H locs hP hS => ?_)
        refine lv_aload_n hx hb dL_law_846 rfl (lv_at hl 2 rfl) ?_
        refine lv_aload_n hx hb dL_law_847 rfl (lv_at hl 0 rfl) ?_
        refine lv_iload_n hx hb dL_law_848 rfl (lv_at hl 3 rfl) ?_
        refine lv_iconst (v := 1) hx hb dL_law_849 (by decide) ?_
        refine lv_iadd hx hb dL_law_850 ?_
        refine va_sld hx hb hX hbl hbA hS hi1 dL_law_851 ?_
        refine lv_aload_n hx hb dL_law_852 rfl (lv_at hl 0 rfl) ?_
        refine lv_iload_n hx hb dL_law_853 rfl (lv_at hl 3 rfl) ?_
        refine lv_iconst (v := 2) hx hb dL_law_854 (by decide) ?_
        refine lv_iadd hx hb dL_law_855 ?_
        refine va_sld hx hb hX hbl hbA hS hi2 dL_law_856 ?_
        refine iv_L_109 F hS hP (c_X8_pair l E N (xs (nI i + 1).toNatClampNeg) (xs (nI i + 2).toNatClampNeg) σ1 _ _ hC2) ⟨Nat.le_of_ble_eq_true rfl, Nat.le_of_ble_eq_true rfl⟩ hl.1 (Nat.le_of_ble_eq_true rfl) dL_law_857 ⟨Nat.le_of_ble_eq_true rfl, Nat.le_of_ble_eq_true rfl⟩ (fun H locs hP hS => ?_)
        refine lv_icmp_eq (tgt := 968) hx hb dL_law_860 (by decide) (fun _ => T σ2 _ _ _ hI hP hS hl) (fun h => absurd rfl h)
      by_cases k23 : x = 23
      · refine lv_tableIn (off := 832) (tgt := 865) hx hb dL_law_33 (by rw [k23]; decide) (by rw [k23]; decide) (by rw [k23]; rfl) (by decide) ?_
        obtain ⟨r, σ1, σ2, hC1, hC2, hI⟩ := hO.2.2.2.2.2.2.2.2.2.2.2.2.2.2.2.2.2.2.2.2.2.2.2.1 (xs (nI i + 1).toNatClampNeg) (xs (nI i + 2).toNatClampNeg) σ hI
        refine lv_aload_n hx hb dL_law_865 rfl (lv_at hl 1 rfl) ?_
        refine lv_aload_n hx hb dL_law_866 rfl (lv_at hl 0 rfl) ?_
        refine lv_iload_n hx hb dL_law_867 rfl (lv_at hl 3 rfl) ?_
        refine lv_iconst (v := 1) hx hb dL_law_868 (by decide) ?_
        refine lv_iadd hx hb dL_law_869 ?_
        refine va_sld hx hb hX hbl hbA hS hi1 dL_law_870 ?_
        refine lv_aload_n hx hb dL_law_871 rfl (lv_at hl 0 rfl) ?_
        refine lv_iload_n hx hb dL_law_872 rfl (lv_at hl 3 rfl) ?_
        refine lv_iconst (v := 2) hx hb dL_law_873 (by decide) ?_
        refine lv_iadd hx hb dL_law_874 ?_
        refine va_sld hx hb hX hbl hbA hS hi2 dL_law_875 ?_
        refine iv_L_110 F hS hP (c_X7_met l E N (xs (nI i + 1).toNatClampNeg) (xs (nI i + 2).toNatClampNeg) σ _ _ hC1) ⟨Nat.le_of_ble_eq_true rfl, Nat.le_of_ble_eq_true rfl⟩ hl.1 (Nat.le_of_ble_eq_true rfl) dL_law_876 ⟨Nat.le_of_ble_eq_true rfl, Nat.le_of_ble_eq_true rfl⟩ (fun H locs hP hS => ?_)
        refine lv_aload_n hx hb dL_law_879 rfl (lv_at hl 2 rfl) ?_
        refine lv_aload_n hx hb dL_law_880 rfl (lv_at hl 0 rfl) ?_
        refine lv_iload_n hx hb dL_law_881 rfl (lv_at hl 3 rfl) ?_
        refine lv_iconst (v := 1) hx hb dL_law_882 (by decide) ?_
        refine lv_iadd hx hb dL_law_883 ?_
        refine va_sld hx hb hX hbl hbA hS hi1 dL_law_884 ?_
        refine lv_aload_n hx hb dL_law_885 rfl (lv_at hl 0 rfl) ?_
        refine lv_iload_n hx hb dL_law_886 rfl (lv_at hl 3 rfl) ?_
        refine lv_iconst (v := 2) hx hb dL_law_887 (by decide) ?_
        refine lv_iadd hx hb dL_law_888 ?_
        refine va_sld hx hb hX hbl hbA hS hi2 dL_law_889 ?_
        refine iv_L_113 F hS hP (c_X8_met l E N (xs (nI i + 1).toNatClampNeg) (xs (nI i + 2).toNatClampNeg) σ1 _ _ hC2) ⟨Nat.le_of_ble_eq_true rfl, Nat.le_of_ble_eq_true rfl⟩ hl.1 (Nat.le_of_ble_eq_true rfl) dL_law_890 ⟨Nat.le_of_ble_eq_true rfl, Nat.le_of_ble_eq_true rfl⟩ (fun H locs hP hS => ?_)
        refine lv_icmp_eq (tgt := 968) hx hb dL_law_893 (by decide) (fun _ => T σ2 _ _ _ hI hP hS hl) (fun h => absurd rfl h)
      by_cases k24 : x = 24
      · refine lv_tableIn (off := 865) (tgt := 898) hx hb dL_law_33 (by rw [k24]; decide) (by rw [k24]; decide) (by rw [k24]; rfl) (by decide) ?_
        obtain ⟨r, σ1, σ2, hC1, hC2, hI⟩ := hO.2.2.2.2.2.2.2.2.2.2.2.2.2.2.2.2.2.2.2.2.2.2.2.2.1 (xs (nI i + 1).toNatClampNeg) (xs (nI i + 2).toNatClampNeg) σ hI
        refine lv_aload_n hx hb dL_law_898 rfl (lv_at hl 1 rfl) ?_
        refine lv_aload_n hx hb dL_law_899 rfl (lv_at hl 0 rfl) ?_
        refine lv_iload_n hx hb dL_law_900 rfl (lv_at hl 3 rfl) ?_
        refine lv_iconst (v := 1) hx hb dL_law_901 (by decide) ?_
        refine lv_iadd hx hb dL_law_902 ?_
        refine va_sld hx hb hX hbl hbA hS hi1 dL_law_903 ?_
        refine lv_aload_n hx hb dL_law_904 rfl (lv_at hl 0 rfl) ?_
        refine lv_iload_n hx hb dL_law_905 rfl (lv_at hl 3 rfl) ?_
        refine lv_iconst (v := 2) hx hb dL_law_906 (by decide) ?_
        refine lv_iadd hx hb dL_law_907 ?_
        refine va_sld hx hb hX hbl hbA hS hi2 dL_law_908 ?_
        refine iv_L_114 F hS hP (c_X7_lay l E N (xs (nI i + 1).toNatClampNeg) (xs (nI i + 2).toNatClampNeg) σ _ _ hC1) ⟨Nat.le_of_ble_eq_true rfl, Nat.le_of_ble_eq_true rfl⟩ hl.1 (Nat.le_of_ble_eq_true rfl) dL_law_909 ⟨Nat.le_of_ble_eq_true rfl, Nat.le_of_ble_eq_true rfl⟩ (fun H locs hP hS => ?_)
        refine lv_aload_n hx hb dL_law_912 rfl (lv_at hl 2 rfl) ?_
        refine lv_aload_n hx hb dL_law_913 rfl (lv_at hl 0 rfl) ?_
        refine lv_iload_n hx hb dL_law_914 rfl (lv_at hl 3 rfl) ?_
        refine lv_iconst (v := 1) hx hb dL_law_915 (by decide) ?_
        refine lv_iadd hx hb dL_law_916 ?_
        refine va_sld hx hb hX hbl hbA hS hi1 dL_law_917 ?_
        refine lv_aload_n hx hb dL_law_918 rfl (lv_at hl 0 rfl) ?_
        refine lv_iload_n hx hb dL_law_919 rfl (lv_at hl 3 rfl) ?_
        refine lv_iconst (v := 2) hx hb dL_law_920 (by decide) ?_
        refine lv_iadd hx hb dL_law_921 ?_
        refine va_sld hx hb hX hbl hbA hS hi2 dL_law_922 ?_
        refine iv_L_117 F hS hP (c_X8_lay l E N (xs (nI i + 1).toNatClampNeg) (xs (nI i + 2).toNatClampNeg) σ1 _ _ hC2) ⟨Nat.le_of_ble_eq_true rfl, Nat.le_of_ble_eq_true rfl⟩ hl.1 (Nat.le_of_ble_eq_true rfl) dL_law_923 ⟨Nat.le_of_ble_eq_true rfl, Nat.le_of_ble_eq_true rfl⟩ (fun H locs hP hS => ?_)
        refine lv_icmp_eq (tgt := 968) hx hb dL_law_926 (by decide) (fun _ => T σ2 _ _ _ hI hP hS hl) (fun h => absurd rfl h)
      by_cases k25 : x = 25
      · refine lv_tableIn (off := 898) (tgt := 931) hx hb dL_law_33 (by rw [k25]; decide) (by rw [k25]; decide) (by rw [k25]; rfl) (by decide) ?_
        obtain ⟨r, σ1, σ2, hC1, hC2, hI⟩ := hO.2.2.2.2.2.2.2.2.2.2.2.2.2.2.2.2.2.2.2.2.2.2.2.2.2.1 (xs (nI i + 1).toNatClampNeg) σ hI
        refine lv_aload_n hx hb dL_law_931 rfl (lv_at hl 1 rfl) ?_
        refine lv_aload_n hx hb dL_law_932 rfl (lv_at hl 0 rfl) ?_
        refine lv_iload_n hx hb dL_law_933 rfl (lv_at hl 3 rfl) ?_
        refine lv_iconst (v := 1) hx hb dL_law_934 (by decide) ?_
        refine lv_iadd hx hb dL_law_935 ?_
        refine va_sld hx hb hX hbl hbA hS hi1 dL_law_936 ?_
        refine iv_L_118 F hS hP (c_X7_count l E N (xs (nI i + 1).toNatClampNeg) σ _ _ hC1) ⟨Nat.le_of_ble_eq_true rfl, Nat.le_of_ble_eq_true rfl⟩ hl.1 (Nat.le_of_ble_eq_true rfl) dL_law_937 ⟨Nat.le_of_ble_eq_true rfl, Nat.le_of_ble_eq_true rfl⟩ (fun H locs hP hS => ?_)
        refine lv_aload_n hx hb dL_law_940 rfl (lv_at hl 2 rfl) ?_
        refine lv_aload_n hx hb dL_law_941 rfl (lv_at hl 0 rfl) ?_
        refine lv_iload_n hx hb dL_law_942 rfl (lv_at hl 3 rfl) ?_
        refine lv_iconst (v := 1) hx hb dL_law_943 (by decide) ?_
        refine lv_iadd hx hb dL_law_944 ?_
        refine va_sld hx hb hX hbl hbA hS hi1 dL_law_945 ?_
        refine iv_L_121 F hS hP (c_X8_count l E N (xs (nI i + 1).toNatClampNeg) σ1 _ _ hC2) ⟨Nat.le_of_ble_eq_true rfl, Nat.le_of_ble_eq_true rfl⟩ hl.1 (Nat.le_of_ble_eq_true rfl) dL_law_946 ⟨Nat.le_of_ble_eq_true rfl, Nat.le_of_ble_eq_true rfl⟩ (fun H locs hP hS => ?_)
        refine lv_icmp_eq (tgt := 968) hx hb dL_law_949 (by decide) (fun _ => T σ2 _ _ _ hI hP hS hl) (fun h => absurd rfl h)
      by_cases k26 : x = 26
      · refine lv_tableIn (off := 921) (tgt := 954) hx hb dL_law_33 (by rw [k26]; decide) (by rw [k26]; decide) (by rw [k26]; rfl) (by decide) ?_
        obtain ⟨r, σ1, σ2, hC1, hC2, hI⟩ := hO.2.2.2.2.2.2.2.2.2.2.2.2.2.2.2.2.2.2.2.2.2.2.2.2.2.2  σ hI
        refine lv_aload_n hx hb dL_law_954 rfl (lv_at hl 1 rfl) ?_
        refine iv_L_122 F hS hP (c_X7_digest l E N σ _ _ hC1) ⟨Nat.le_of_ble_eq_true rfl, Nat.le_of_ble_eq_true rfl⟩ hl.1 (Nat.le_of_ble_eq_true rfl) dL_law_955 ⟨Nat.le_of_ble_eq_true rfl, Nat.le_of_ble_eq_true rfl⟩ (fun H locs hP hS => ?_)
        refine lv_aload_n hx hb dL_law_958 rfl (lv_at hl 2 rfl) ?_
        refine iv_L_126 F hS hP (c_X8_digest l E N σ1 _ _ hC2) ⟨Nat.le_of_ble_eq_true rfl, Nat.le_of_ble_eq_true rfl⟩ hl.1 (Nat.le_of_ble_eq_true rfl) dL_law_959 ⟨Nat.le_of_ble_eq_true rfl, Nat.le_of_ble_eq_true rfl⟩ (fun H locs hP hS => ?_)
        refine W.lcmp hx hb dL_law_962 ?_
        refine lv_if_eq (tgt := 968) hx hb dL_law_963 (by decide) (fun _ => T σ2 _ _ _ hI hP hS hl) (fun h => absurd (lg_self r) h)
      have n0 := lv_neT k0 (show (0 : Int32).toInt = 0 from rfl)
      have n1 := lv_neT k1 (show (1 : Int32).toInt = 1 from rfl)
      have n2 := lv_neT k2 (show (2 : Int32).toInt = 2 from rfl)
      have n3 := lv_neT k3 (show (3 : Int32).toInt = 3 from rfl)
      have n4 := lv_neT k4 (show (4 : Int32).toInt = 4 from rfl)
      have n5 := lv_neT k5 (show (5 : Int32).toInt = 5 from rfl)
      have n6 := lv_neT k6 (show (6 : Int32).toInt = 6 from rfl)
      have n7 := lv_neT k7 (show (7 : Int32).toInt = 7 from rfl)
      have n8 := lv_neT k8 (show (8 : Int32).toInt = 8 from rfl)
      have n9 := lv_neT k9 (show (9 : Int32).toInt = 9 from rfl)
      have n10 := lv_neT k10 (show (10 : Int32).toInt = 10 from rfl)
      have n11 := lv_neT k11 (show (11 : Int32).toInt = 11 from rfl)
      have n12 := lv_neT k12 (show (12 : Int32).toInt = 12 from rfl)
      have n13 := lv_neT k13 (show (13 : Int32).toInt = 13 from rfl)
      have n14 := lv_neT k14 (show (14 : Int32).toInt = 14 from rfl)
      have n15 := lv_neT k15 (show (15 : Int32).toInt = 15 from rfl)
      have n16 := lv_neT k16 (show (16 : Int32).toInt = 16 from rfl)
      have n17 := lv_neT k17 (show (17 : Int32).toInt = 17 from rfl)
      have n18 := lv_neT k18 (show (18 : Int32).toInt = 18 from rfl)
      have n19 := lv_neT k19 (show (19 : Int32).toInt = 19 from rfl)
      have n20 := lv_neT k20 (show (20 : Int32).toInt = 20 from rfl)
      have n21 := lv_neT k21 (show (21 : Int32).toInt = 21 from rfl)
      have n22 := lv_neT k22 (show (22 : Int32).toInt = 22 from rfl)
      have n23 := lv_neT k23 (show (23 : Int32).toInt = 23 from rfl)
      have n24 := lv_neT k24 (show (24 : Int32).toInt = 24 from rfl)
      have n25 := lv_neT k25 (show (25 : Int32).toInt = 25 from rfl)
      have n26 := lv_neT k26 (show (26 : Int32).toInt = 26 from rfl)
      refine lv_tableOut (tgt := 968) hx hb dL_law_33 (by omega) (by decide) ?_
      exact T σ _ _ _ hI hP hS hl
