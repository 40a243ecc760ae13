theorem dX8_isShelf_0 : decode cX8_isShelf 0 = .ok (.iload_n 0, 1) := by decide +kernel
theorem dX8_isShelf_1 : decode cX8_isShelf 1 = .ok (.iconst 0, 1) := by decide +kernel
theorem dX8_isShelf_2 : decode cX8_isShelf 2 = .ok (.bipush 7, 2) := by decide +kernel
theorem dX8_isShelf_4 : decode cX8_isShelf 4 = .ok (.invokestatic 89, 3) := by decide +kernel
theorem dX8_isShelf_7 : decode cX8_isShelf 7 = .ok (.ireturn, 1) := by decide +kernel
set_option maxHeartbeats 4000000 in
set_option maxRecDepth 100000 in
theorem c_X8_isShelf (l : Launch) (E : fEv) (N : Nat) (a0 : Int32) (σ : fS) (r : Int32) (τ : fS) (hG : g_X8_isShelf N a0 σ = some (r, τ)) : fM l E yX8_isShelf (.code yX8_isShelf cX8_isShelf 1 (some .boolean)) rm_X8_isShelf [.int a0] σ τ (some (.int r)) := by
  refine f_openZ (by decide) (Nat.le_of_ble_eq_true rfl) ?_
  intro p e s m below meth c args Q F hR hP ls hl
  have hx := F.1.1
  have hb := F.1.2.1
  have hown := F.1.2.2.2.1
  have hts := F.1.2.2.2.2
  have hS : va_S (f_A E) s.heap s.heap [] := va_S.rf
  skip
  have hl : lv_has ls 1 [(0, .int a0)] := hl
  unfold g_X8_isShelf at hG
  refine lv_iload_n hx hb dX8_isShelf_0 rfl (lv_at hl 0 rfl) ?_
  refine lv_iconst (v := 0) hx hb dX8_isShelf_1 (by decide) ?_
  refine lv_bipush (v := 7) hx hb dX8_isShelf_2 (by decide) ?_
  obtain ⟨r4, σ4, hC4, hG⟩ := f_bd hG
  refine iv_X8_89 F hS hP (c_X8_within l E N a0 (0 : Int32) (7 : Int32) σ _ _ hC4) ⟨Nat.le_of_ble_eq_true rfl, Nat.le_of_ble_eq_true rfl⟩ hl.1 (Nat.le_of_ble_eq_true rfl) dX8_isShelf_4 ⟨Nat.zero_le _, Nat.zero_le _⟩ (fun H locs hP hS => ?_)
  obtain ⟨h7, hG⟩ := f_gd hG
  exact x_rz hR hS hP (f_isB h7) hG dX8_isShelf_7
theorem dX8_isForm_0 : decode cX8_isForm 0 = .ok (.iload_n 1, 1) := by decide +kernel
theorem dX8_isForm_1 : decode cX8_isForm 1 = .ok (.invokestatic 152, 3) := by decide +kernel
theorem dX8_isForm_4 : decode cX8_isForm 4 = .ok (.ifCond .eq 16, 3) := by decide +kernel
theorem dX8_isForm_7 : decode cX8_isForm 7 = .ok (.aload_n 0, 1) := by decide +kernel
theorem dX8_isForm_8 : decode cX8_isForm 8 = .ok (.getfield 7, 3) := by decide +kernel
theorem dX8_isForm_11 : decode cX8_isForm 11 = .ok (.iload_n 1, 1) := by decide +kernel
theorem dX8_isForm_12 : decode cX8_isForm 12 = .ok (.iaload, 1) := by decide +kernel
theorem dX8_isForm_13 : decode cX8_isForm 13 = .ok (.ifCond .le 7, 3) := by decide +kernel
theorem dX8_isForm_16 : decode cX8_isForm 16 = .ok (.iconst 1, 1) := by decide +kernel
theorem dX8_isForm_17 : decode cX8_isForm 17 = .ok (.goto 4, 3) := by decide +kernel
theorem dX8_isForm_20 : decode cX8_isForm 20 = .ok (.iconst 0, 1) := by decide +kernel
theorem dX8_isForm_21 : decode cX8_isForm 21 = .ok (.ireturn, 1) := by decide +kernel
set_option maxHeartbeats 4000000 in
set_option maxRecDepth 100000 in
theorem c_X8_isForm (l : Launch) (E : fEv) (N : Nat) (a1 : Int32) (σ : fS) (r : Int32) (τ : fS) (hG : g_X8_isForm N a1 σ = some (r, τ)) : fM l E yX8_isForm (.code yX8_isForm cX8_isForm 2 (some .boolean)) rm_X8_isForm [.ref (E.2.1 61), .int a1] σ τ (some (.int r)) := by
  refine f_openZ (by decide) (Nat.le_of_ble_eq_true rfl) ?_
  intro p e s m below meth c args Q F hR hP ls hl
  have hx := F.1.1
  have hb := F.1.2.1
  have hown := F.1.2.2.2.1
  have hts := F.1.2.2.2.2
  have hS : va_S (f_A E) s.heap s.heap [] := va_S.rf
  skip
  have hl : lv_has ls 2 [(0, .ref (E.2.1 61)), (1, .int a1)] := hl
  unfold g_X8_isForm at hG
  refine lv_iload_n hx hb dX8_isForm_0 rfl (lv_at hl 1 rfl) ?_
  obtain ⟨r1, σ1, hC1, hG⟩ := f_bd hG
  refine iv_X8_152 F hS hP (c_X8_isShelf l E N a1 σ _ _ hC1) ⟨Nat.le_of_ble_eq_true rfl, Nat.le_of_ble_eq_true rfl⟩ hl.1 (Nat.le_of_ble_eq_true rfl) dX8_isForm_1 ⟨Nat.zero_le _, Nat.zero_le _⟩ (fun H locs hP hS => ?_)
  refine lv_if_eq (tgt := 20) hx hb dX8_isForm_4 (by decide) (fun c4 => ?_) (fun c4 => ?_)
  · have hG := f_ip c4 hG
    refine lv_iconst (v := 0) hx hb dX8_isForm_20 (by decide) ?_
    exact x_rz hR hS hP (Or.inl rfl) hG dX8_isForm_21
  · have hG := f_in c4 hG
    refine lv_aload_n hx hb dX8_isForm_7 rfl (lv_at hl 0 rfl) ?_
    refine gf_X8_7 F hP dX8_isForm_8 ?_
    refine lv_iload_n hx hb dX8_isForm_11 rfl (lv_at hl 1 rfl) ?_
    obtain ⟨h12, hG⟩ := f_gd hG
    have i12 := f_fin h12
    refine x_iald F hP rfl rfl i12 dX8_isForm_12 ?_
    refine lv_if_le (tgt := 20) hx hb dX8_isForm_13 (by decide) (fun c13 => ?_) (fun c13 => ?_)
    · have hG := f_ip c13 hG
      refine lv_iconst (v := 0) hx hb dX8_isForm_20 (by decide) ?_
      exact x_rz hR hS hP (Or.inl rfl) hG dX8_isForm_21
    · have hG := f_in c13 hG
      refine lv_iconst (v := 1) hx hb dX8_isForm_16 (by decide) ?_
      refine lv_goto (tgt := 21) hx hb dX8_isForm_17 (by decide) ?_
      exact x_rz hR hS hP (Or.inr rfl) hG dX8_isForm_21
theorem dX8_isTerm_0 : decode cX8_isTerm 0 = .ok (.aload_n 0, 1) := by decide +kernel
theorem dX8_isTerm_1 : decode cX8_isTerm 1 = .ok (.iload_n 1, 1) := by decide +kernel
theorem dX8_isTerm_2 : decode cX8_isTerm 2 = .ok (.invokevirtual 155, 3) := by decide +kernel
theorem dX8_isTerm_5 : decode cX8_isTerm 5 = .ok (.ifCond .eq 23, 3) := by decide +kernel
theorem dX8_isTerm_8 : decode cX8_isTerm 8 = .ok (.iload_n 2, 1) := by decide +kernel
theorem dX8_isTerm_9 : decode cX8_isTerm 9 = .ok (.iconst 0, 1) := by decide +kernel
theorem dX8_isTerm_10 : decode cX8_isTerm 10 = .ok (.aload_n 0, 1) := by decide +kernel
theorem dX8_isTerm_11 : decode cX8_isTerm 11 = .ok (.getfield 7, 3) := by decide +kernel
theorem dX8_isTerm_14 : decode cX8_isTerm 14 = .ok (.iload_n 1, 1) := by decide +kernel
theorem dX8_isTerm_15 : decode cX8_isTerm 15 = .ok (.iaload, 1) := by decide +kernel
theorem dX8_isTerm_16 : decode cX8_isTerm 16 = .ok (.iconst 1, 1) := by decide +kernel
theorem dX8_isTerm_17 : decode cX8_isTerm 17 = .ok (.isub, 1) := by decide +kernel
theorem dX8_isTerm_18 : decode cX8_isTerm 18 = .ok (.invokestatic 89, 3) := by decide +kernel
theorem dX8_isTerm_21 : decode cX8_isTerm 21 = .ok (.ifCond .eq 7, 3) := by decide +kernel
theorem dX8_isTerm_24 : decode cX8_isTerm 24 = .ok (.iconst 1, 1) := by decide +kernel
theorem dX8_isTerm_25 : decode cX8_isTerm 25 = .ok (.goto 4, 3) := by decide +kernel
theorem dX8_isTerm_28 : decode cX8_isTerm 28 = .ok (.iconst 0, 1) := by decide +kernel
theorem dX8_isTerm_29 : decode cX8_isTerm 29 = .ok (.ireturn, 1) := by decide +kernel
set_option maxHeartbeats 4000000 in
set_option maxRecDepth 100000 in
theorem c_X8_isTerm (l : Launch) (E : fEv) (N : Nat) (a1 : Int32) (a2 : Int32) (σ : fS) (r : Int32) (τ : fS) (hG : g_X8_isTerm N a1 a2 σ = some (r, τ)) : fM l E yX8_isTerm (.code yX8_isTerm cX8_isTerm 3 (some .boolean)) rm_X8_isTerm [.ref (E.2.1 61), .int a1, .int a2] σ τ (some (.int r)) := by
  refine f_openZ (by decide) (Nat.le_of_ble_eq_true rfl) ?_
  intro p e s m below meth c args Q F hR hP ls hl
  have hx := F.1.1
  have hb := F.1.2.1
  have hown := F.1.2.2.2.1
  have hts := F.1.2.2.2.2
  have hS : va_S (f_A E) s.heap s.heap [] := va_S.rf
  skip
  have hl : lv_has ls 3 [(0, .ref (E.2.1 61)), (1, .int a1), (2, .int a2)] := hl
  unfold g_X8_isTerm at hG
  refine lv_aload_n hx hb dX8_isTerm_0 rfl (lv_at hl 0 rfl) ?_
  refine lv_iload_n hx hb dX8_isTerm_1 rfl (lv_at hl 1 rfl) ?_
  obtain ⟨r2, σ2, hC2, hG⟩ := f_bd hG
  refine iv_X8_155 F hS hP (c_X8_isForm l E N a1 σ _ _ hC2) ⟨Nat.le_of_ble_eq_true rfl, Nat.le_of_ble_eq_true rfl⟩ hl.1 (Nat.le_of_ble_eq_true rfl) dX8_isTerm_2 ⟨Nat.zero_le _, Nat.zero_le _⟩ (fun H locs hP hS => ?_)
  refine lv_if_eq (tgt := 28) hx hb dX8_isTerm_5 (by decide) (fun c5 => ?_) (fun c5 => ?_)
  · have hG := f_ip c5 hG
    refine lv_iconst (v := 0) hx hb dX8_isTerm_28 (by decide) ?_
    exact x_rz hR hS hP (Or.inl rfl) hG dX8_isTerm_29
  · have hG := f_in c5 hG
    refine lv_iload_n hx hb dX8_isTerm_8 rfl (lv_at hl 2 rfl) ?_
    refine lv_iconst (v := 0) hx hb dX8_isTerm_9 (by decide) ?_
    refine lv_aload_n hx hb dX8_isTerm_10 rfl (lv_at hl 0 rfl) ?_
    refine gf_X8_7 F hP dX8_isTerm_11 ?_
    refine lv_iload_n hx hb dX8_isTerm_14 rfl (lv_at hl 1 rfl) ?_
    obtain ⟨h15, hG⟩ := f_gd hG
    have i15 := f_fin h15
    refine x_iald F hP rfl rfl i15 dX8_isTerm_15 ?_
    refine lv_iconst (v := 1) hx hb dX8_isTerm_16 (by decide) ?_
    refine lv_isub hx hb dX8_isTerm_17 ?_
    obtain ⟨r18, σ18, hC18, hG⟩ := f_bd hG
    refine iv_X8_89 F hS hP (c_X8_within l E N a2 (0 : Int32) ((σ2.1 62 (a1).toNatClampNeg) - (1 : Int32)) σ2 _ _ hC18) ⟨Nat.le_of_ble_eq_true rfl, Nat.le_of_ble_eq_true rfl⟩ hl.1 (Nat.le_of_ble_eq_true rfl) dX8_isTerm_18 ⟨Nat.zero_le _, Nat.zero_le _⟩ (fun H locs hP hS => ?_)
    refine lv_if_eq (tgt := 28) hx hb dX8_isTerm_21 (by decide) (fun c21 => ?_) (fun c21 => ?_)
    · have hG := f_ip c21 hG
      refine lv_iconst (v := 0) hx hb dX8_isTerm_28 (by decide) ?_
      exact x_rz hR hS hP (Or.inl rfl) hG dX8_isTerm_29
    · have hG := f_in c21 hG
      refine lv_iconst (v := 1) hx hb dX8_isTerm_24 (by decide) ?_
      refine lv_goto (tgt := 29) hx hb dX8_isTerm_25 (by decide) ?_
      exact x_rz hR hS hP (Or.inr rfl) hG dX8_isTerm_29
theorem dX8_dropOldest_0 : decode cX8_dropOldest 0 = .ok (.iconst 1, 1) := by decide +kernel
theorem dX8_dropOldest_1 : decode cX8_dropOldest 1 = .ok (.istore_n 1, 1) := by decide +kernel
theorem dX8_dropOldest_2 : decode cX8_dropOldest 2 = .ok (.iload_n 1, 1) := by decide +kernel
theorem dX8_dropOldest_3 : decode cX8_dropOldest 3 = .ok (.bipush 12, 2) := by decide +kernel
theorem dX8_dropOldest_5 : decode cX8_dropOldest 5 = .ok (.if_icmp .ge 72, 3) := by decide +kernel
theorem dX8_dropOldest_8 : decode cX8_dropOldest 8 = .ok (.aload_n 0, 1) := by decide +kernel
theorem dX8_dropOldest_9 : decode cX8_dropOldest 9 = .ok (.getfield 30, 3) := by decide +kernel
theorem dX8_dropOldest_12 : decode cX8_dropOldest 12 = .ok (.iload_n 1, 1) := by decide +kernel
theorem dX8_dropOldest_13 : decode cX8_dropOldest 13 = .ok (.iconst 1, 1) := by decide +kernel
theorem dX8_dropOldest_14 : decode cX8_dropOldest 14 = .ok (.isub, 1) := by decide +kernel
theorem dX8_dropOldest_15 : decode cX8_dropOldest 15 = .ok (.aload_n 0, 1) := by decide +kernel
theorem dX8_dropOldest_16 : decode cX8_dropOldest 16 = .ok (.getfield 30, 3) := by decide +kernel
theorem dX8_dropOldest_19 : decode cX8_dropOldest 19 = .ok (.iload_n 1, 1) := by decide +kernel
theorem dX8_dropOldest_20 : decode cX8_dropOldest 20 = .ok (.iaload, 1) := by decide +kernel
theorem dX8_dropOldest_21 : decode cX8_dropOldest 21 = .ok (.iastore, 1) := by decide +kernel
theorem dX8_dropOldest_22 : decode cX8_dropOldest 22 = .ok (.aload_n 0, 1) := by decide +kernel
theorem dX8_dropOldest_23 : decode cX8_dropOldest 23 = .ok (.getfield 33, 3) := by decide +kernel
theorem dX8_dropOldest_26 : decode cX8_dropOldest 26 = .ok (.iload_n 1, 1) := by decide +kernel
theorem dX8_dropOldest_27 : decode cX8_dropOldest 27 = .ok (.iconst 1, 1) := by decide +kernel
theorem dX8_dropOldest_28 : decode cX8_dropOldest 28 = .ok (.isub, 1) := by decide +kernel
theorem dX8_dropOldest_29 : decode cX8_dropOldest 29 = .ok (.aload_n 0, 1) := by decide +kernel
theorem dX8_dropOldest_30 : decode cX8_dropOldest 30 = .ok (.getfield 33, 3) := by decide +kernel
theorem dX8_dropOldest_33 : decode cX8_dropOldest 33 = .ok (.iload_n 1, 1) := by decide +kernel
theorem dX8_dropOldest_34 : decode cX8_dropOldest 34 = .ok (.iaload, 1) := by decide +kernel
theorem dX8_dropOldest_35 : decode cX8_dropOldest 35 = .ok (.iastore, 1) := by decide +kernel
theorem dX8_dropOldest_36 : decode cX8_dropOldest 36 = .ok (.iconst 0, 1) := by decide +kernel
theorem dX8_dropOldest_37 : decode cX8_dropOldest 37 = .ok (.istore_n 2, 1) := by decide +kernel
theorem dX8_dropOldest_38 : decode cX8_dropOldest 38 = .ok (.iload_n 2, 1) := by decide +kernel
theorem dX8_dropOldest_39 : decode cX8_dropOldest 39 = .ok (.iconst 4, 1) := by decide +kernel
theorem dX8_dropOldest_40 : decode cX8_dropOldest 40 = .ok (.if_icmp .ge 31, 3) := by decide +kernel
theorem dX8_dropOldest_43 : decode cX8_dropOldest 43 = .ok (.aload_n 0, 1) := by decide +kernel
theorem dX8_dropOldest_44 : decode cX8_dropOldest 44 = .ok (.getfield 36, 3) := by decide +kernel
theorem dX8_dropOldest_47 : decode cX8_dropOldest 47 = .ok (.iconst 4, 1) := by decide +kernel
theorem dX8_dropOldest_48 : decode cX8_dropOldest 48 = .ok (.iload_n 1, 1) := by decide +kernel
theorem dX8_dropOldest_49 : decode cX8_dropOldest 49 = .ok (.imul, 1) := by decide +kernel
theorem dX8_dropOldest_50 : decode cX8_dropOldest 50 = .ok (.iconst 4, 1) := by decide +kernel
theorem dX8_dropOldest_51 : decode cX8_dropOldest 51 = .ok (.isub, 1) := by decide +kernel
theorem dX8_dropOldest_52 : decode cX8_dropOldest 52 = .ok (.iload_n 2, 1) := by decide +kernel
theorem dX8_dropOldest_53 : decode cX8_dropOldest 53 = .ok (.iadd, 1) := by decide +kernel
theorem dX8_dropOldest_54 : decode cX8_dropOldest 54 = .ok (.aload_n 0, 1) := by decide +kernel
theorem dX8_dropOldest_55 : decode cX8_dropOldest 55 = .ok (.getfield 36, 3) := by decide +kernel
theorem dX8_dropOldest_58 : decode cX8_dropOldest 58 = .ok (.iconst 4, 1) := by decide +kernel
theorem dX8_dropOldest_59 : decode cX8_dropOldest 59 = .ok (.iload_n 1, 1) := by decide +kernel
theorem dX8_dropOldest_60 : decode cX8_dropOldest 60 = .ok (.imul, 1) := by decide +kernel
theorem dX8_dropOldest_61 : decode cX8_dropOldest 61 = .ok (.iload_n 2, 1) := by decide +kernel
theorem dX8_dropOldest_62 : decode cX8_dropOldest 62 = .ok (.iadd, 1) := by decide +kernel
theorem dX8_dropOldest_63 : decode cX8_dropOldest 63 = .ok (.iaload, 1) := by decide +kernel
theorem dX8_dropOldest_64 : decode cX8_dropOldest 64 = .ok (.iastore, 1) := by decide +kernel
theorem dX8_dropOldest_65 : decode cX8_dropOldest 65 = .ok (.iinc 2 1, 3) := by decide +kernel
theorem dX8_dropOldest_68 : decode cX8_dropOldest 68 = .ok (.goto (-30), 3) := by decide +kernel
theorem dX8_dropOldest_71 : decode cX8_dropOldest 71 = .ok (.iinc 1 1, 3) := by decide +kernel
theorem dX8_dropOldest_74 : decode cX8_dropOldest 74 = .ok (.goto (-72), 3) := by decide +kernel
theorem dX8_dropOldest_77 : decode cX8_dropOldest 77 = .ok (.aload_n 0, 1) := by decide +kernel
theorem dX8_dropOldest_78 : decode cX8_dropOldest 78 = .ok (.dup, 1) := by decide +kernel
theorem dX8_dropOldest_79 : decode cX8_dropOldest 79 = .ok (.getfield 158, 3) := by decide +kernel
theorem dX8_dropOldest_82 : decode cX8_dropOldest 82 = .ok (.iconst 1, 1) := by decide +kernel
theorem dX8_dropOldest_83 : decode cX8_dropOldest 83 = .ok (.isub, 1) := by decide +kernel
theorem dX8_dropOldest_84 : decode cX8_dropOldest 84 = .ok (.putfield 158, 3) := by decide +kernel
theorem dX8_dropOldest_87 : decode cX8_dropOldest 87 = .ok (.return_, 1) := by decide +kernel
set_option maxHeartbeats 4000000 in
set_option maxRecDepth 100000 in
theorem c_X8_dropOldest (l : Launch) (E : fEv) (N : Nat)  (σ : fS) (τ : fS) (hG : g_X8_dropOldest N  σ = some τ) : fM l E yX8_dropOldest (.code yX8_dropOldest cX8_dropOldest 3 none) rm_X8_dropOldest [.ref (E.2.1 61)] σ τ none := by
  refine f_openV (by decide) (Nat.le_of_ble_eq_true rfl) ?_
  intro p e s m below meth c args Q F hR hP ls hl
  have hx := F.1.1
  have hb := F.1.2.1
  have hown := F.1.2.2.2.1
  have hts := F.1.2.2.2.2
  have hS : va_S (f_A E) s.heap s.heap [] := va_S.rf
  skip
  have hl : lv_has ls 3 [(0, .ref (E.2.1 61))] := hl
  unfold g_X8_dropOldest at hG
  refine lv_iconst (v := 1) hx hb dX8_dropOldest_0 (by decide) ?_
  refine lv_istore_n (lv' := [(1, .int (1 : Int32)), (0, .ref (E.2.1 61))]) hx hb dX8_dropOldest_1 rfl hl (by decide) rfl (fun ls hl => ?_)
  obtain ⟨σl2, hT2, hG⟩ := f_bv hG
  have T2 : ∀ (H : Heap) (locs : List Loc) (ls : Array Slot), f_h E σl2 H → va_S (f_A E) s.heap H locs → lv_has ls 3 [(0, .ref (E.2.1 61))] → W p l e rm_X8_dropOldest s m args below meth c H locs 0 0 Q (F0 m 77 ls []) := by
    intro H locs ls hP hS hl
    refine lv_aload_n hx hb dX8_dropOldest_77 rfl (lv_at hl 0 rfl) ?_
    refine lv_dup hx hb dX8_dropOldest_78 rfl ?_
    refine gf_X8_158 F hP dX8_dropOldest_79 ?_
    refine lv_iconst (v := 1) hx hb dX8_dropOldest_82 (by decide) ?_
    refine lv_isub hx hb dX8_dropOldest_83 ?_
    refine pf_X8_158 F hS hP dX8_dropOldest_84 (fun H locs hP hS => ?_)
    obtain ⟨σ84, e84⟩ : ∃ t : fS, t = sI σl2 61 7 ((σl2.1 61 7) - (1 : Int32)) := ⟨_, rfl⟩
    rw [← e84] at hP
    have hG := f_lt hG e84
    exact x_rv hR hS hP hG dX8_dropOldest_87
  have L2 : ∀ (n2 : Nat) (x2_1 : Int32) (σh2 : fS) (H : Heap) (locs : List Loc) (ls : Array Slot), f_h E σh2 H → va_S (f_A E) s.heap H locs → lv_has ls 3 [(0, .ref (E.2.1 61)), (1, .int x2_1)] → lp_X8_dropOldest_2 N n2 x2_1 σh2 = some σl2 → W p l e rm_X8_dropOldest s m args below meth c H locs 0 0 Q (F0 m 2 ls []) := by
    intro n2
    induction n2 with
    | zero =>
      intro x2_1 σh2 H locs ls hP hS hl hG
      rw [lp_X8_dropOldest_2] at hG
      cases hG
    | succ n2 ih2 =>
      intro x2_1 σh2 H locs ls hP hS hl hG
      rw [lp_X8_dropOldest_2] at hG
      refine lv_iload_n hx hb dX8_dropOldest_2 rfl (lv_at hl 1 rfl) ?_
      refine lv_bipush (v := 12) hx hb dX8_dropOldest_3 (by decide) ?_
      refine lv_icmp_ge (tgt := 77) hx hb dX8_dropOldest_5 (by decide) (fun c5 => ?_) (fun c5 => ?_)
      · have hG := f_ip c5 hG
        cases hG
        exact T2 _ _ _ hP hS (lv_sub hl [0] rfl)
      · have hG := f_in c5 hG
        refine lv_aload_n hx hb dX8_dropOldest_8 rfl (lv_at hl 0 rfl) ?_
        refine gf_X8_30 F hP dX8_dropOldest_9 ?_
        refine lv_iload_n hx hb dX8_dropOldest_12 rfl (lv_at hl 1 rfl) ?_
        refine lv_iconst (v := 1) hx hb dX8_dropOldest_13 (by decide) ?_
        refine lv_isub hx hb dX8_dropOldest_14 ?_
        refine lv_aload_n hx hb dX8_dropOldest_15 rfl (lv_at hl 0 rfl) ?_
        refine gf_X8_30 F hP dX8_dropOldest_16 ?_
        refine lv_iload_n hx hb dX8_dropOldest_19 rfl (lv_at hl 1 rfl) ?_
        obtain ⟨h20, hG⟩ := f_gd hG
        have i20 := f_fin h20
        refine x_iald F hP rfl rfl i20 dX8_dropOldest_20 ?_
        obtain ⟨h21, hG⟩ := f_gd hG
        have i21 := f_fin h21
        refine x_iast F hS hP rfl rfl i21 dX8_dropOldest_21 (fun H locs hP hS => ?_)
        obtain ⟨σ21, e21⟩ : ∃ t : fS, t = sI σh2 68 ((x2_1 - (1 : Int32))).toNatClampNeg (σh2.1 68 (x2_1).toNatClampNeg) := ⟨_, rfl⟩
        rw [← e21] at hP
        have hG := f_lt hG e21
        refine lv_aload_n hx hb dX8_dropOldest_22 rfl (lv_at hl 0 rfl) ?_
        refine gf_X8_33 F hP dX8_dropOldest_23 ?_
        refine lv_iload_n hx hb dX8_dropOldest_26 rfl (lv_at hl 1 rfl) ?_
        refine lv_iconst (v := 1) hx hb dX8_dropOldest_27 (by decide) ?_
        refine lv_isub hx hb dX8_dropOldest_28 ?_
        refine lv_aload_n hx hb dX8_dropOldest_29 rfl (lv_at hl 0 rfl) ?_
        refine gf_X8_33 F hP dX8_dropOldest_30 ?_
        refine lv_iload_n hx hb dX8_dropOldest_33 rfl (lv_at hl 1 rfl) ?_
        obtain ⟨h34, hG⟩ := f_gd hG
        have i34 := f_fin h34
        refine x_iald F hP rfl rfl i34 dX8_dropOldest_34 ?_
        obtain ⟨h35, hG⟩ := f_gd hG
        have i35 := f_fin h35
        refine x_iast F hS hP rfl rfl i35 dX8_dropOldest_35 (fun H locs hP hS => ?_)
        obtain ⟨σ35, e35⟩ : ∃ t : fS, t = sI σ21 69 ((x2_1 - (1 : Int32))).toNatClampNeg (σ21.1 69 (x2_1).toNatClampNeg) := ⟨_, rfl⟩
        rw [← e35] at hP
        have hG := f_lt hG e35
        refine lv_iconst (v := 0) hx hb dX8_dropOldest_36 (by decide) ?_
        refine lv_istore_n (lv' := [(2, .int (0 : Int32)), (0, .ref (E.2.1 61)), (1, .int x2_1)]) hx hb dX8_dropOldest_37 rfl hl (by decide) rfl (fun ls hl => ?_)
        obtain ⟨σl38, hT38, hG⟩ := f_bv hG
        have T38 : ∀ (H : Heap) (locs : List Loc) (ls : Array Slot), f_h E σl38 H → va_S (f_A E) s.heap H locs → lv_has ls 3 [(0, .ref (E.2.1 61)), (1, .int x2_1)] → W p l e rm_X8_dropOldest s m args below meth c H locs 0 0 Q (F0 m 71 ls []) := by
          intro H locs ls hP hS hl
          refine lv_iinc (v := (x2_1 + (1 : Int32))) (lv' := [(1, .int (x2_1 + (1 : Int32))), (0, .ref (E.2.1 61))]) hx hb dX8_dropOldest_71 hl (k := 1) rfl (by rfl) (by decide) rfl (fun ls hl => ?_)
          refine lv_goto (tgt := 2) hx hb dX8_dropOldest_74 (by decide) ?_
          exact ih2 (x2_1 + (1 : Int32)) σl38 _ _ _ hP hS (lv_sub hl [1, 0] rfl) hG
        have L38 : ∀ (n38 : Nat) (x38_2 : Int32) (σh38 : fS) (H : Heap) (locs : List Loc) (ls : Array Slot), f_h E σh38 H → va_S (f_A E) s.heap H locs → lv_has ls 3 [(0, .ref (E.2.1 61)), (1, .int x2_1), (2, .int x38_2)] → lp_X8_dropOldest_38 N x2_1 n38 x38_2 σh38 = some σl38 → W p l e rm_X8_dropOldest s m args below meth c H locs 0 0 Q (F0 m 38 ls []) := by
          intro n38
          induction n38 with
          | zero =>
            intro x38_2 σh38 H locs ls hP hS hl hG
            rw [lp_X8_dropOldest_38] at hG
            cases hG
          | succ n38 ih38 =>
            intro x38_2 σh38 H locs ls hP hS hl hG
            rw [lp_X8_dropOldest_38] at hG
            refine lv_iload_n hx hb dX8_dropOldest_38 rfl (lv_at hl 2 rfl) ?_
            refine lv_iconst (v := 4) hx hb dX8_dropOldest_39 (by decide) ?_
            refine lv_icmp_ge (tgt := 71) hx hb dX8_dropOldest_40 (by decide) (fun c40 => ?_) (fun c40 => ?_)
            · have hG := f_ip c40 hG
              cases hG
              exact T38 _ _ _ hP hS (lv_sub hl [0, 1] rfl)
            · have hG := f_in c40 hG
              refine lv_aload_n hx hb dX8_dropOldest_43 rfl (lv_at hl 0 rfl) ?_
              refine gf_X8_36 F hP dX8_dropOldest_44 ?_
              refine lv_iconst (v := 4) hx hb dX8_dropOldest_47 (by decide) ?_
              refine lv_iload_n hx hb dX8_dropOldest_48 rfl (lv_at hl 1 rfl) ?_
              refine lv_imul hx hb dX8_dropOldest_49 ?_
              refine lv_iconst (v := 4) hx hb dX8_dropOldest_50 (by decide) ?_
              refine lv_isub hx hb dX8_dropOldest_51 ?_
              refine lv_iload_n hx hb dX8_dropOldest_52 rfl (lv_at hl 2 rfl) ?_
              refine lv_iadd hx hb dX8_dropOldest_53 ?_
              refine lv_aload_n hx hb dX8_dropOldest_54 rfl (lv_at hl 0 rfl) ?_
              refine gf_X8_36 F hP dX8_dropOldest_55 ?_
              refine lv_iconst (v := 4) hx hb dX8_dropOldest_58 (by decide) ?_
              refine lv_iload_n hx hb dX8_dropOldest_59 rfl (lv_at hl 1 rfl) ?_
              refine lv_imul hx hb dX8_dropOldest_60 ?_
              refine lv_iload_n hx hb dX8_dropOldest_61 rfl (lv_at hl 2 rfl) ?_
              refine lv_iadd hx hb dX8_dropOldest_62 ?_
              obtain ⟨h63, hG⟩ := f_gd hG
              have i63 := f_fin h63
              refine x_iald F hP rfl rfl i63 dX8_dropOldest_63 ?_
              obtain ⟨h64, hG⟩ := f_gd hG
              have i64 := f_fin h64
              refine x_iast F hS hP rfl rfl i64 dX8_dropOldest_64 (fun H locs hP hS => ?_)
              obtain ⟨σ64, e64⟩ : ∃ t : fS, t = sI σh38 70 (((((4 : Int32) * x2_1) - (4 : Int32)) + x38_2)).toNatClampNeg (σh38.1 70 ((((4 : Int32) * x2_1) + x38_2)).toNatClampNeg) := ⟨_, rfl⟩
              rw [← e64] at hP
              have hG := f_lt hG e64
              refine lv_iinc (v := (x38_2 + (1 : Int32))) (lv' := [(2, .int (x38_2 + (1 : Int32))), (0, .ref (E.2.1 61)), (1, .int x2_1)]) hx hb dX8_dropOldest_65 hl (k := 2) rfl (by rfl) (by decide) rfl (fun ls hl => ?_)
              refine lv_goto (tgt := 38) hx hb dX8_dropOldest_68 (by decide) ?_
              exact ih38 (x38_2 + (1 : Int32)) σ64 _ _ _ hP hS (lv_sub hl [1, 2, 0] rfl) hG
        exact L38 N (0 : Int32) σ35 _ _ _ hP hS (lv_sub hl [1, 2, 0] rfl) hT38
  exact L2 N (1 : Int32) σ _ _ _ hP hS (lv_sub hl [1, 0] rfl) hT2
theorem dX8_keep_0 : decode cX8_keep 0 = .ok (.aload_n 0, 1) := by decide +kernel
theorem dX8_keep_1 : decode cX8_keep 1 = .ok (.getfield 158, 3) := by decide +kernel
theorem dX8_keep_4 : decode cX8_keep 4 = .ok (.bipush 12, 2) := by decide +kernel
theorem dX8_keep_6 : decode cX8_keep 6 = .ok (.if_icmp .ne 7, 3) := by decide +kernel
theorem dX8_keep_9 : decode cX8_keep 9 = .ok (.aload_n 0, 1) := by decide +kernel
theorem dX8_keep_10 : decode cX8_keep 10 = .ok (.invokevirtual 161, 3) := by decide +kernel
theorem dX8_keep_13 : decode cX8_keep 13 = .ok (.aload_n 0, 1) := by decide +kernel
theorem dX8_keep_14 : decode cX8_keep 14 = .ok (.getfield 30, 3) := by decide +kernel
theorem dX8_keep_17 : decode cX8_keep 17 = .ok (.aload_n 0, 1) := by decide +kernel
theorem dX8_keep_18 : decode cX8_keep 18 = .ok (.getfield 158, 3) := by decide +kernel
theorem dX8_keep_21 : decode cX8_keep 21 = .ok (.iload_n 1, 1) := by decide +kernel
theorem dX8_keep_22 : decode cX8_keep 22 = .ok (.iastore, 1) := by decide +kernel
theorem dX8_keep_23 : decode cX8_keep 23 = .ok (.aload_n 0, 1) := by decide +kernel
theorem dX8_keep_24 : decode cX8_keep 24 = .ok (.getfield 33, 3) := by decide +kernel
theorem dX8_keep_27 : decode cX8_keep 27 = .ok (.aload_n 0, 1) := by decide +kernel
theorem dX8_keep_28 : decode cX8_keep 28 = .ok (.getfield 158, 3) := by decide +kernel
theorem dX8_keep_31 : decode cX8_keep 31 = .ok (.aload_n 0, 1) := by decide +kernel
theorem dX8_keep_32 : decode cX8_keep 32 = .ok (.getfield 7, 3) := by decide +kernel
theorem dX8_keep_35 : decode cX8_keep 35 = .ok (.iload_n 1, 1) := by decide +kernel
theorem dX8_keep_36 : decode cX8_keep 36 = .ok (.iaload, 1) := by decide +kernel
theorem dX8_keep_37 : decode cX8_keep 37 = .ok (.iastore, 1) := by decide +kernel
theorem dX8_keep_38 : decode cX8_keep 38 = .ok (.iconst 0, 1) := by decide +kernel
theorem dX8_keep_39 : decode cX8_keep 39 = .ok (.istore_n 2, 1) := by decide +kernel
theorem dX8_keep_40 : decode cX8_keep 40 = .ok (.iload_n 2, 1) := by decide +kernel
theorem dX8_keep_41 : decode cX8_keep 41 = .ok (.iconst 4, 1) := by decide +kernel
theorem dX8_keep_42 : decode cX8_keep 42 = .ok (.if_icmp .ge 32, 3) := by decide +kernel
theorem dX8_keep_45 : decode cX8_keep 45 = .ok (.aload_n 0, 1) := by decide +kernel
theorem dX8_keep_46 : decode cX8_keep 46 = .ok (.getfield 36, 3) := by decide +kernel
theorem dX8_keep_49 : decode cX8_keep 49 = .ok (.iconst 4, 1) := by decide +kernel
theorem dX8_keep_50 : decode cX8_keep 50 = .ok (.aload_n 0, 1) := by decide +kernel
theorem dX8_keep_51 : decode cX8_keep 51 = .ok (.getfield 158, 3) := by decide +kernel
theorem dX8_keep_54 : decode cX8_keep 54 = .ok (.imul, 1) := by decide +kernel
theorem dX8_keep_55 : decode cX8_keep 55 = .ok (.iload_n 2, 1) := by decide +kernel
theorem dX8_keep_56 : decode cX8_keep 56 = .ok (.iadd, 1) := by decide +kernel
theorem dX8_keep_57 : decode cX8_keep 57 = .ok (.aload_n 0, 1) := by decide +kernel
theorem dX8_keep_58 : decode cX8_keep 58 = .ok (.getfield 13, 3) := by decide +kernel
theorem dX8_keep_61 : decode cX8_keep 61 = .ok (.iconst 4, 1) := by decide +kernel
theorem dX8_keep_62 : decode cX8_keep 62 = .ok (.iload_n 1, 1) := by decide +kernel
theorem dX8_keep_63 : decode cX8_keep 63 = .ok (.imul, 1) := by decide +kernel
theorem dX8_keep_64 : decode cX8_keep 64 = .ok (.iload_n 2, 1) := by decide +kernel
theorem dX8_keep_65 : decode cX8_keep 65 = .ok (.iadd, 1) := by decide +kernel
theorem dX8_keep_66 : decode cX8_keep 66 = .ok (.iaload, 1) := by decide +kernel
theorem dX8_keep_67 : decode cX8_keep 67 = .ok (.iastore, 1) := by decide +kernel
theorem dX8_keep_68 : decode cX8_keep 68 = .ok (.iinc 2 1, 3) := by decide +kernel
theorem dX8_keep_71 : decode cX8_keep 71 = .ok (.goto (-31), 3) := by decide +kernel
theorem dX8_keep_74 : decode cX8_keep 74 = .ok (.aload_n 0, 1) := by decide +kernel
theorem dX8_keep_75 : decode cX8_keep 75 = .ok (.dup, 1) := by decide +kernel
theorem dX8_keep_76 : decode cX8_keep 76 = .ok (.getfield 158, 3) := by decide +kernel
theorem dX8_keep_79 : decode cX8_keep 79 = .ok (.iconst 1, 1) := by decide +kernel
theorem dX8_keep_80 : decode cX8_keep 80 = .ok (.iadd, 1) := by decide +kernel
theorem dX8_keep_81 : decode cX8_keep 81 = .ok (.putfield 158, 3) := by decide +kernel
theorem dX8_keep_84 : decode cX8_keep 84 = .ok (.aload_n 0, 1) := by decide +kernel
theorem dX8_keep_85 : decode cX8_keep 85 = .ok (.dup, 1) := by decide +kernel
theorem dX8_keep_86 : decode cX8_keep 86 = .ok (.getfield 164, 3) := by decide +kernel
theorem dX8_keep_89 : decode cX8_keep 89 = .ok (.iconst 1, 1) := by decide +kernel
theorem dX8_keep_90 : decode cX8_keep 90 = .ok (.iadd, 1) := by decide +kernel
theorem dX8_keep_91 : decode cX8_keep 91 = .ok (.putfield 164, 3) := by decide +kernel
theorem dX8_keep_94 : decode cX8_keep 94 = .ok (.return_, 1) := by decide +kernel
set_option maxHeartbeats 4000000 in
set_option maxRecDepth 100000 in
theorem c_X8_keep (l : Launch) (E : fEv) (N : Nat) (a1 : Int32) (σ : fS) (τ : fS) (hG : g_X8_keep N a1 σ = some τ) : fM l E yX8_keep (.code yX8_keep cX8_keep 3 none) rm_X8_keep [.ref (E.2.1 61), .int a1] σ τ none := by
  refine f_openV (by decide) (Nat.le_of_ble_eq_true rfl) ?_
  intro p e s m below meth c args Q F hR hP ls hl
  have hx := F.1.1
  have hb := F.1.2.1
  have hown := F.1.2.2.2.1
  have hts := F.1.2.2.2.2
  have hS : va_S (f_A E) s.heap s.heap [] := va_S.rf
  skip
  have hl : lv_has ls 3 [(0, .ref (E.2.1 61)), (1, .int a1)] := hl
  unfold g_X8_keep at hG
  refine lv_aload_n hx hb dX8_keep_0 rfl (lv_at hl 0 rfl) ?_
  refine gf_X8_158 F hP dX8_keep_1 ?_
  refine lv_bipush (v := 12) hx hb dX8_keep_4 (by decide) ?_
  obtain ⟨σj6, hT6, hG⟩ := f_bv hG
  have T6 : ∀ (H : Heap) (locs : List Loc) (ls : Array Slot), f_h E σj6 H → va_S (f_A E) s.heap H locs → lv_has ls 3 [(0, .ref (E.2.1 61)), (1, .int a1)] → W p l e rm_X8_keep s m args below meth c H locs 0 0 Q (F0 m 13 ls []) := by
    intro H locs ls hP hS hl
    refine lv_aload_n hx hb dX8_keep_13 rfl (lv_at hl 0 rfl) ?_
    refine gf_X8_30 F hP dX8_keep_14 ?_
    refine lv_aload_n hx hb dX8_keep_17 rfl (lv_at hl 0 rfl) ?_
    refine gf_X8_158 F hP dX8_keep_18 ?_
    refine lv_iload_n hx hb dX8_keep_21 rfl (lv_at hl 1 rfl) ?_
    obtain ⟨h22, hG⟩ := f_gd hG
    have i22 := f_fin h22
    refine x_iast F hS hP rfl rfl i22 dX8_keep_22 (fun H locs hP hS => ?_)
    obtain ⟨σ22, e22⟩ : ∃ t : fS, t = sI σj6 68 ((σj6.1 61 7)).toNatClampNeg a1 := ⟨_, rfl⟩
    rw [← e22] at hP
    have hG := f_lt hG e22
    refine lv_aload_n hx hb dX8_keep_23 rfl (lv_at hl 0 rfl) ?_
    refine gf_X8_33 F hP dX8_keep_24 ?_
    refine lv_aload_n hx hb dX8_keep_27 rfl (lv_at hl 0 rfl) ?_
    refine gf_X8_158 F hP dX8_keep_28 ?_
    refine lv_aload_n hx hb dX8_keep_31 rfl (lv_at hl 0 rfl) ?_
    refine gf_X8_7 F hP dX8_keep_32 ?_
    refine lv_iload_n hx hb dX8_keep_35 rfl (lv_at hl 1 rfl) ?_
    obtain ⟨h36, hG⟩ := f_gd hG
    have i36 := f_fin h36
    refine x_iald F hP rfl rfl i36 dX8_keep_36 ?_
    obtain ⟨h37, hG⟩ := f_gd hG
    have i37 := f_fin h37
    refine x_iast F hS hP rfl rfl i37 dX8_keep_37 (fun H locs hP hS => ?_)
    obtain ⟨σ37, e37⟩ : ∃ t : fS, t = sI σ22 69 ((σ22.1 61 7)).toNatClampNeg (σ22.1 62 (a1).toNatClampNeg) := ⟨_, rfl⟩
    rw [← e37] at hP
    have hG := f_lt hG e37
    refine lv_iconst (v := 0) hx hb dX8_keep_38 (by decide) ?_
    refine lv_istore_n (lv' := [(2, .int (0 : Int32)), (0, .ref (E.2.1 61)), (1, .int a1)]) hx hb dX8_keep_39 rfl hl (by decide) rfl (fun ls hl => ?_)
    obtain ⟨σl40, hT40, hG⟩ := f_bv hG
    have T40 : ∀ (H : Heap) (locs : List Loc) (ls : Array Slot), f_h E σl40 H → va_S (f_A E) s.heap H locs → lv_has ls 3 [(0, .ref (E.2.1 61))] → W p l e rm_X8_keep s m args below meth c H locs 0 0 Q (F0 m 74 ls []) := by
      intro H locs ls hP hS hl
      refine lv_aload_n hx hb dX8_keep_74 rfl (lv_at hl 0 rfl) ?_
      refine lv_dup hx hb dX8_keep_75 rfl ?_
      refine gf_X8_158 F hP dX8_keep_76 ?_
      refine lv_iconst (v := 1) hx hb dX8_keep_79 (by decide) ?_
      refine lv_iadd hx hb dX8_keep_80 ?_
      refine pf_X8_158 F hS hP dX8_keep_81 (fun H locs hP hS => ?_)
      obtain ⟨σ81, e81⟩ : ∃ t : fS, t = sI σl40 61 7 ((σl40.1 61 7) + (1 : Int32)) := ⟨_, rfl⟩
      rw [← e81] at hP
      have hG := f_lt hG e81
      refine lv_aload_n hx hb dX8_keep_84 rfl (lv_at hl 0 rfl) ?_
      refine lv_dup hx hb dX8_keep_85 rfl ?_
      refine gf_X8_164 F hP dX8_keep_86 ?_
      refine lv_iconst (v := 1) hx hb dX8_keep_89 (by decide) ?_
      refine lv_iadd hx hb dX8_keep_90 ?_
      refine pf_X8_164 F hS hP dX8_keep_91 (fun H locs hP hS => ?_)
      obtain ⟨σ91, e91⟩ : ∃ t : fS, t = sI σ81 61 11 ((σ81.1 61 11) + (1 : Int32)) := ⟨_, rfl⟩
      rw [← e91] at hP
      have hG := f_lt hG e91
      exact x_rv hR hS hP hG dX8_keep_94
    have L40 : ∀ (n40 : Nat) (x40_2 : Int32) (σh40 : fS) (H : Heap) (locs : List Loc) (ls : Array Slot), f_h E σh40 H → va_S (f_A E) s.heap H locs → lv_has ls 3 [(0, .ref (E.2.1 61)), (1, .int a1), (2, .int x40_2)] → lp_X8_keep_40 N a1 n40 x40_2 σh40 = some σl40 → W p l e rm_X8_keep s m args below meth c H locs 0 0 Q (F0 m 40 ls []) := by
      intro n40
      induction n40 with
      | zero =>
        intro x40_2 σh40 H locs ls hP hS hl hG
        rw [lp_X8_keep_40] at hG
        cases hG
      | succ n40 ih40 =>
        intro x40_2 σh40 H locs ls hP hS hl hG
        rw [lp_X8_keep_40] at hG
        refine lv_iload_n hx hb dX8_keep_40 rfl (lv_at hl 2 rfl) ?_
        refine lv_iconst (v := 4) hx hb dX8_keep_41 (by decide) ?_
        refine lv_icmp_ge (tgt := 74) hx hb dX8_keep_42 (by decide) (fun c42 => ?_) (fun c42 => ?_)
        · have hG := f_ip c42 hG
          cases hG
          exact T40 _ _ _ hP hS (lv_sub hl [0] rfl)
        · have hG := f_in c42 hG
          refine lv_aload_n hx hb dX8_keep_45 rfl (lv_at hl 0 rfl) ?_
          refine gf_X8_36 F hP dX8_keep_46 ?_
          refine lv_iconst (v := 4) hx hb dX8_keep_49 (by decide) ?_
          refine lv_aload_n hx hb dX8_keep_50 rfl (lv_at hl 0 rfl) ?_
          refine gf_X8_158 F hP dX8_keep_51 ?_
          refine lv_imul hx hb dX8_keep_54 ?_
          refine lv_iload_n hx hb dX8_keep_55 rfl (lv_at hl 2 rfl) ?_
          refine lv_iadd hx hb dX8_keep_56 ?_
          refine lv_aload_n hx hb dX8_keep_57 rfl (lv_at hl 0 rfl) ?_
          refine gf_X8_13 F hP dX8_keep_58 ?_
          refine lv_iconst (v := 4) hx hb dX8_keep_61 (by decide) ?_
          refine lv_iload_n hx hb dX8_keep_62 rfl (lv_at hl 1 rfl) ?_
          refine lv_imul hx hb dX8_keep_63 ?_
          refine lv_iload_n hx hb dX8_keep_64 rfl (lv_at hl 2 rfl) ?_
          refine lv_iadd hx hb dX8_keep_65 ?_
          obtain ⟨h66, hG⟩ := f_gd hG
          have i66 := f_fin h66
          refine x_iald F hP rfl rfl i66 dX8_keep_66 ?_
          obtain ⟨h67, hG⟩ := f_gd hG
          have i67 := f_fin h67
          refine x_iast F hS hP rfl rfl i67 dX8_keep_67 (fun H locs hP hS => ?_)
          obtain ⟨σ67, e67⟩ : ∃ t : fS, t = sI σh40 70 ((((4 : Int32) * (σh40.1 61 7)) + x40_2)).toNatClampNeg (σh40.1 63 ((((4 : Int32) * a1) + x40_2)).toNatClampNeg) := ⟨_, rfl⟩
          rw [← e67] at hP
          have hG := f_lt hG e67
          refine lv_iinc (v := (x40_2 + (1 : Int32))) (lv' := [(2, .int (x40_2 + (1 : Int32))), (0, .ref (E.2.1 61)), (1, .int a1)]) hx hb dX8_keep_68 hl (k := 2) rfl (by rfl) (by decide) rfl (fun ls hl => ?_)
          refine lv_goto (tgt := 40) hx hb dX8_keep_71 (by decide) ?_
          exact ih40 (x40_2 + (1 : Int32)) σ67 _ _ _ hP hS (lv_sub hl [1, 2, 0] rfl) hG
    exact L40 N (0 : Int32) σ37 _ _ _ hP hS (lv_sub hl [1, 2, 0] rfl) hT40
  have hG := hT6
  clear hT6
  refine lv_icmp_ne (tgt := 13) hx hb dX8_keep_6 (by decide) (fun c6 => ?_) (fun c6 => ?_)
  · have hG := f_in c6 hG
    cases hG
    exact T6 _ _ _ hP hS (lv_sub hl [0, 1] rfl)
  · have hG := f_ip c6 hG
    refine lv_aload_n hx hb dX8_keep_9 rfl (lv_at hl 0 rfl) ?_
    obtain ⟨σ10, hC10, hG⟩ := f_bv hG
    refine iv_X8_161 F hS hP (c_X8_dropOldest l E N σ _ hC10) ⟨Nat.le_of_ble_eq_true rfl, Nat.le_of_ble_eq_true rfl⟩ hl.1 (Nat.le_of_ble_eq_true rfl) dX8_keep_10 ⟨Nat.zero_le _, Nat.zero_le _⟩ (fun H locs hP hS => ?_)
    cases hG
    exact T6 _ _ _ hP hS (lv_sub hl [0, 1] rfl)
theorem dX8_layNew_0 : decode cX8_layNew 0 = .ok (.aload_n 0, 1) := by decide +kernel
theorem dX8_layNew_1 : decode cX8_layNew 1 = .ok (.iload_n 1, 1) := by decide +kernel
theorem dX8_layNew_2 : decode cX8_layNew 2 = .ok (.invokevirtual 167, 3) := by decide +kernel
theorem dX8_layNew_5 : decode cX8_layNew 5 = .ok (.aload_n 0, 1) := by decide +kernel
theorem dX8_layNew_6 : decode cX8_layNew 6 = .ok (.getfield 7, 3) := by decide +kernel
theorem dX8_layNew_9 : decode cX8_layNew 9 = .ok (.iload_n 1, 1) := by decide +kernel
theorem dX8_layNew_10 : decode cX8_layNew 10 = .ok (.aload_n 0, 1) := by decide +kernel
theorem dX8_layNew_11 : decode cX8_layNew 11 = .ok (.getfield 135, 3) := by decide +kernel
theorem dX8_layNew_14 : decode cX8_layNew 14 = .ok (.iastore, 1) := by decide +kernel
theorem dX8_layNew_15 : decode cX8_layNew 15 = .ok (.iconst 0, 1) := by decide +kernel
theorem dX8_layNew_16 : decode cX8_layNew 16 = .ok (.istore_n 2, 1) := by decide +kernel
theorem dX8_layNew_17 : decode cX8_layNew 17 = .ok (.iload_n 2, 1) := by decide +kernel
theorem dX8_layNew_18 : decode cX8_layNew 18 = .ok (.iconst 4, 1) := by decide +kernel
theorem dX8_layNew_19 : decode cX8_layNew 19 = .ok (.if_icmp .ge 37, 3) := by decide +kernel
theorem dX8_layNew_22 : decode cX8_layNew 22 = .ok (.aload_n 0, 1) := by decide +kernel
theorem dX8_layNew_23 : decode cX8_layNew 23 = .ok (.getfield 13, 3) := by decide +kernel
theorem dX8_layNew_26 : decode cX8_layNew 26 = .ok (.iconst 4, 1) := by decide +kernel
theorem dX8_layNew_27 : decode cX8_layNew 27 = .ok (.iload_n 1, 1) := by decide +kernel
theorem dX8_layNew_28 : decode cX8_layNew 28 = .ok (.imul, 1) := by decide +kernel
theorem dX8_layNew_29 : decode cX8_layNew 29 = .ok (.iload_n 2, 1) := by decide +kernel
theorem dX8_layNew_30 : decode cX8_layNew 30 = .ok (.iadd, 1) := by decide +kernel
theorem dX8_layNew_31 : decode cX8_layNew 31 = .ok (.iload_n 2, 1) := by decide +kernel
theorem dX8_layNew_32 : decode cX8_layNew 32 = .ok (.aload_n 0, 1) := by decide +kernel
theorem dX8_layNew_33 : decode cX8_layNew 33 = .ok (.getfield 135, 3) := by decide +kernel
theorem dX8_layNew_36 : decode cX8_layNew 36 = .ok (.if_icmp .ge 12, 3) := by decide +kernel
theorem dX8_layNew_39 : decode cX8_layNew 39 = .ok (.aload_n 0, 1) := by decide +kernel
theorem dX8_layNew_40 : decode cX8_layNew 40 = .ok (.getfield 72, 3) := by decide +kernel
theorem dX8_layNew_43 : decode cX8_layNew 43 = .ok (.iload_n 2, 1) := by decide +kernel
theorem dX8_layNew_44 : decode cX8_layNew 44 = .ok (.iaload, 1) := by decide +kernel
theorem dX8_layNew_45 : decode cX8_layNew 45 = .ok (.goto 4, 3) := by decide +kernel
theorem dX8_layNew_48 : decode cX8_layNew 48 = .ok (.iconst 0, 1) := by decide +kernel
theorem dX8_layNew_49 : decode cX8_layNew 49 = .ok (.iastore, 1) := by decide +kernel
theorem dX8_layNew_50 : decode cX8_layNew 50 = .ok (.iinc 2 1, 3) := by decide +kernel
theorem dX8_layNew_53 : decode cX8_layNew 53 = .ok (.goto (-36), 3) := by decide +kernel
theorem dX8_layNew_56 : decode cX8_layNew 56 = .ok (.aload_n 0, 1) := by decide +kernel
theorem dX8_layNew_57 : decode cX8_layNew 57 = .ok (.getfield 16, 3) := by decide +kernel
theorem dX8_layNew_60 : decode cX8_layNew 60 = .ok (.iload_n 1, 1) := by decide +kernel
theorem dX8_layNew_61 : decode cX8_layNew 61 = .ok (.iconst 0, 1) := by decide +kernel
theorem dX8_layNew_62 : decode cX8_layNew 62 = .ok (.bastore, 1) := by decide +kernel
theorem dX8_layNew_63 : decode cX8_layNew 63 = .ok (.aload_n 0, 1) := by decide +kernel
theorem dX8_layNew_64 : decode cX8_layNew 64 = .ok (.getfield 135, 3) := by decide +kernel
theorem dX8_layNew_67 : decode cX8_layNew 67 = .ok (.ireturn, 1) := by decide +kernel
set_option maxHeartbeats 4000000 in
set_option maxRecDepth 100000 in
theorem c_X8_layNew (l : Launch) (E : fEv) (N : Nat) (a1 : Int32) (σ : fS) (r : Int32) (τ : fS) (hG : g_X8_layNew N a1 σ = some (r, τ)) : fM l E yX8_layNew (.code yX8_layNew cX8_layNew 3 (some .int)) rm_X8_layNew [.ref (E.2.1 61), .int a1] σ τ (some (.int r)) := by
  refine f_openI (by decide) (Nat.le_of_ble_eq_true rfl) ?_
  intro p e s m below meth c args Q F hR hP ls hl
  have hx := F.1.1
  have hb := F.1.2.1
  have hown := F.1.2.2.2.1
  have hts := F.1.2.2.2.2
  have hS : va_S (f_A E) s.heap s.heap [] := va_S.rf
  skip
  have hl : lv_has ls 3 [(0, .ref (E.2.1 61)), (1, .int a1)] := hl
  unfold g_X8_layNew at hG
  refine lv_aload_n hx hb dX8_layNew_0 rfl (lv_at hl 0 rfl) ?_
  refine lv_iload_n hx hb dX8_layNew_1 rfl (lv_at hl 1 rfl) ?_
  obtain ⟨σ2, hC2, hG⟩ := f_bv hG
  refine iv_X8_167 F hS hP (c_X8_keep l E N a1 σ _ hC2) ⟨Nat.le_of_ble_eq_true rfl, Nat.le_of_ble_eq_true rfl⟩ hl.1 (Nat.le_of_ble_eq_true rfl) dX8_layNew_2 ⟨Nat.zero_le _, Nat.zero_le _⟩ (fun H locs hP hS => ?_)
  refine lv_aload_n hx hb dX8_layNew_5 rfl (lv_at hl 0 rfl) ?_
  refine gf_X8_7 F hP dX8_layNew_6 ?_
  refine lv_iload_n hx hb dX8_layNew_9 rfl (lv_at hl 1 rfl) ?_
  refine lv_aload_n hx hb dX8_layNew_10 rfl (lv_at hl 0 rfl) ?_
  refine gf_X8_135 F hP dX8_layNew_11 ?_
  obtain ⟨h14, hG⟩ := f_gd hG
  have i14 := f_fin h14
  refine x_iast F hS hP rfl rfl i14 dX8_layNew_14 (fun H locs hP hS => ?_)
  obtain ⟨σ14, e14⟩ : ∃ t : fS, t = sI σ2 62 (a1).toNatClampNeg (σ2.1 61 28) := ⟨_, rfl⟩
  rw [← e14] at hP
  have hG := f_lt hG e14
  refine lv_iconst (v := 0) hx hb dX8_layNew_15 (by decide) ?_
  refine lv_istore_n (lv' := [(2, .int (0 : Int32)), (0, .ref (E.2.1 61)), (1, .int a1)]) hx hb dX8_layNew_16 rfl hl (by decide) rfl (fun ls hl => ?_)
  obtain ⟨σl17, hT17, hG⟩ := f_bv hG
  have T17 : ∀ (H : Heap) (locs : List Loc) (ls : Array Slot), f_h E σl17 H → va_S (f_A E) s.heap H locs → lv_has ls 3 [(0, .ref (E.2.1 61)), (1, .int a1)] → W p l e rm_X8_layNew s m args below meth c H locs 0 0 Q (F0 m 56 ls []) := by
    intro H locs ls hP hS hl
    refine lv_aload_n hx hb dX8_layNew_56 rfl (lv_at hl 0 rfl) ?_
    refine gf_X8_16 F hP dX8_layNew_57 ?_
    refine lv_iload_n hx hb dX8_layNew_60 rfl (lv_at hl 1 rfl) ?_
    refine lv_iconst (v := 0) hx hb dX8_layNew_61 (by decide) ?_
    obtain ⟨h62, hG⟩ := f_gd hG
    have i62 := f_fin h62
    refine x_zast F hS hP rfl rfl (x_zB _ (Or.inl rfl)) i62 dX8_layNew_62 (fun H locs hP hS => ?_)
    obtain ⟨σ62, e62⟩ : ∃ t : fS, t = sI σl17 64 (a1).toNatClampNeg (0 : Int32) := ⟨_, rfl⟩
    rw [← e62] at hP
    have hG := f_lt hG e62
    refine lv_aload_n hx hb dX8_layNew_63 rfl (lv_at hl 0 rfl) ?_
    refine gf_X8_135 F hP dX8_layNew_64 ?_
    exact x_ri hR hS hP hG dX8_layNew_67
  have L17 : ∀ (n17 : Nat) (x17_2 : Int32) (σh17 : fS) (H : Heap) (locs : List Loc) (ls : Array Slot), f_h E σh17 H → va_S (f_A E) s.heap H locs → lv_has ls 3 [(0, .ref (E.2.1 61)), (1, .int a1), (2, .int x17_2)] → lp_X8_layNew_17 N a1 n17 x17_2 σh17 = some σl17 → W p l e rm_X8_layNew s m args below meth c H locs 0 0 Q (F0 m 17 ls []) := by
    intro n17
    induction n17 with
    | zero =>
      intro x17_2 σh17 H locs ls hP hS hl hG
      rw [lp_X8_layNew_17] at hG
      cases hG
    | succ n17 ih17 =>
      intro x17_2 σh17 H locs ls hP hS hl hG
      rw [lp_X8_layNew_17] at hG
      refine lv_iload_n hx hb dX8_layNew_17 rfl (lv_at hl 2 rfl) ?_
      refine lv_iconst (v := 4) hx hb dX8_layNew_18 (by decide) ?_
      refine lv_icmp_ge (tgt := 56) hx hb dX8_layNew_19 (by decide) (fun c19 => ?_) (fun c19 => ?_)
      · have hG := f_ip c19 hG
        cases hG
        exact T17 _ _ _ hP hS (lv_sub hl [0, 1] rfl)
      · have hG := f_in c19 hG
        refine lv_aload_n hx hb dX8_layNew_22 rfl (lv_at hl 0 rfl) ?_
        refine gf_X8_13 F hP dX8_layNew_23 ?_
        refine lv_iconst (v := 4) hx hb dX8_layNew_26 (by decide) ?_
        refine lv_iload_n hx hb dX8_layNew_27 rfl (lv_at hl 1 rfl) ?_
        refine lv_imul hx hb dX8_layNew_28 ?_
        refine lv_iload_n hx hb dX8_layNew_29 rfl (lv_at hl 2 rfl) ?_
        refine lv_iadd hx hb dX8_layNew_30 ?_
        refine lv_iload_n hx hb dX8_layNew_31 rfl (lv_at hl 2 rfl) ?_
        refine lv_aload_n hx hb dX8_layNew_32 rfl (lv_at hl 0 rfl) ?_
        refine gf_X8_135 F hP dX8_layNew_33 ?_
        obtain ⟨o36, σj36, hT36, hG⟩ := f_bd hG
        have T36 : ∀ (H : Heap) (locs : List Loc) (ls : Array Slot), f_h E σj36 H → va_S (f_A E) s.heap H locs → lv_has ls 3 [(0, .ref (E.2.1 61)), (1, .int a1), (2, .int x17_2)] → W p l e rm_X8_layNew s m args below meth c H locs 0 0 Q (F0 m 49 ls [.int o36, .int (((4 : Int32) * a1) + x17_2), .ref (E.2.1 63)]) := by
          intro H locs ls hP hS hl
          obtain ⟨h49, hG⟩ := f_gd hG
          have i49 := f_fin h49
          refine x_iast F hS hP rfl rfl i49 dX8_layNew_49 (fun H locs hP hS => ?_)
          obtain ⟨σ49, e49⟩ : ∃ t : fS, t = sI σj36 63 ((((4 : Int32) * a1) + x17_2)).toNatClampNeg o36 := ⟨_, rfl⟩
          rw [← e49] at hP
          have hG := f_lt hG e49
          refine lv_iinc (v := (x17_2 + (1 : Int32))) (lv' := [(2, .int (x17_2 + (1 : Int32))), (0, .ref (E.2.1 61)), (1, .int a1)]) hx hb dX8_layNew_50 hl (k := 2) rfl (by rfl) (by decide) rfl (fun ls hl => ?_)
          refine lv_goto (tgt := 17) hx hb dX8_layNew_53 (by decide) ?_
          exact ih17 (x17_2 + (1 : Int32)) σ49 _ _ _ hP hS (lv_sub hl [1, 2, 0] rfl) hG
        have hG := hT36
        clear hT36
        refine lv_icmp_ge (tgt := 48) hx hb dX8_layNew_36 (by decide) (fun c36 => ?_) (fun c36 => ?_)
        · have hG := f_ip c36 hG
          refine lv_iconst (v := 0) hx hb dX8_layNew_48 (by decide) ?_
          cases hG
          exact T36 _ _ _ hP hS (lv_sub hl [0, 1, 2] rfl)
        · have hG := f_in c36 hG
          refine lv_aload_n hx hb dX8_layNew_39 rfl (lv_at hl 0 rfl) ?_
          refine gf_X8_72 F hP dX8_layNew_40 ?_
          refine lv_iload_n hx hb dX8_layNew_43 rfl (lv_at hl 2 rfl) ?_
          obtain ⟨h44, hG⟩ := f_gd hG
          have i44 := f_fin h44
          refine x_iald F hP rfl rfl i44 dX8_layNew_44 ?_
          refine lv_goto (tgt := 49) hx hb dX8_layNew_45 (by decide) ?_
          cases hG
          exact T36 _ _ _ hP hS (lv_sub hl [0, 1, 2] rfl)
  exact L17 N (0 : Int32) σ14 _ _ _ hP hS (lv_sub hl [1, 2, 0] rfl) hT17
theorem dX8_take_0 : decode cX8_take 0 = .ok (.aload_n 0, 1) := by decide +kernel
theorem dX8_take_1 : decode cX8_take 1 = .ok (.aload_n 0, 1) := by decide +kernel
theorem dX8_take_2 : decode cX8_take 2 = .ok (.getfield 7, 3) := by decide +kernel
theorem dX8_take_5 : decode cX8_take 5 = .ok (.iload_n 1, 1) := by decide +kernel
theorem dX8_take_6 : decode cX8_take 6 = .ok (.iaload, 1) := by decide +kernel
theorem dX8_take_7 : decode cX8_take 7 = .ok (.putfield 135, 3) := by decide +kernel
theorem dX8_take_10 : decode cX8_take 10 = .ok (.iconst 0, 1) := by decide +kernel
theorem dX8_take_11 : decode cX8_take 11 = .ok (.istore_n 2, 1) := by decide +kernel
theorem dX8_take_12 : decode cX8_take 12 = .ok (.iload_n 2, 1) := by decide +kernel
theorem dX8_take_13 : decode cX8_take 13 = .ok (.iconst 4, 1) := by decide +kernel
theorem dX8_take_14 : decode cX8_take 14 = .ok (.if_icmp .ge 25, 3) := by decide +kernel
theorem dX8_take_17 : decode cX8_take 17 = .ok (.aload_n 0, 1) := by decide +kernel
theorem dX8_take_18 : decode cX8_take 18 = .ok (.getfield 72, 3) := by decide +kernel
theorem dX8_take_21 : decode cX8_take 21 = .ok (.iload_n 2, 1) := by decide +kernel
theorem dX8_take_22 : decode cX8_take 22 = .ok (.aload_n 0, 1) := by decide +kernel
theorem dX8_take_23 : decode cX8_take 23 = .ok (.getfield 13, 3) := by decide +kernel
theorem dX8_take_26 : decode cX8_take 26 = .ok (.iconst 4, 1) := by decide +kernel
theorem dX8_take_27 : decode cX8_take 27 = .ok (.iload_n 1, 1) := by decide +kernel
theorem dX8_take_28 : decode cX8_take 28 = .ok (.imul, 1) := by decide +kernel
theorem dX8_take_29 : decode cX8_take 29 = .ok (.iload_n 2, 1) := by decide +kernel
theorem dX8_take_30 : decode cX8_take 30 = .ok (.iadd, 1) := by decide +kernel
theorem dX8_take_31 : decode cX8_take 31 = .ok (.iaload, 1) := by decide +kernel
theorem dX8_take_32 : decode cX8_take 32 = .ok (.iastore, 1) := by decide +kernel
theorem dX8_take_33 : decode cX8_take 33 = .ok (.iinc 2 1, 3) := by decide +kernel
theorem dX8_take_36 : decode cX8_take 36 = .ok (.goto (-24), 3) := by decide +kernel
theorem dX8_take_39 : decode cX8_take 39 = .ok (.return_, 1) := by decide +kernel
set_option maxHeartbeats 4000000 in
set_option maxRecDepth 100000 in
theorem c_X8_take (l : Launch) (E : fEv) (N : Nat) (a1 : Int32) (σ : fS) (τ : fS) (hG : g_X8_take N a1 σ = some τ) : fM l E yX8_take (.code yX8_take cX8_take 3 none) rm_X8_take [.ref (E.2.1 61), .int a1] σ τ none := by
  refine f_openV (by decide) (Nat.le_of_ble_eq_true rfl) ?_
  intro p e s m below meth c args Q F hR hP ls hl
  have hx := F.1.1
  have hb := F.1.2.1
  have hown := F.1.2.2.2.1
  have hts := F.1.2.2.2.2
  have hS : va_S (f_A E) s.heap s.heap [] := va_S.rf
  skip
  have hl : lv_has ls 3 [(0, .ref (E.2.1 61)), (1, .int a1)] := hl
  unfold g_X8_take at hG
  refine lv_aload_n hx hb dX8_take_0 rfl (lv_at hl 0 rfl) ?_
  refine lv_aload_n hx hb dX8_take_1 rfl (lv_at hl 0 rfl) ?_
  refine gf_X8_7 F hP dX8_take_2 ?_
  refine lv_iload_n hx hb dX8_take_5 rfl (lv_at hl 1 rfl) ?_
  obtain ⟨h6, hG⟩ := f_gd hG
  have i6 := f_fin h6
  refine x_iald F hP rfl rfl i6 dX8_take_6 ?_
  refine pf_X8_135 F hS hP dX8_take_7 (fun H locs hP hS => ?_)
  obtain ⟨σ7, e7⟩ : ∃ t : fS, t = sI σ 61 28 (σ.1 62 (a1).toNatClampNeg) := ⟨_, rfl⟩
  rw [← e7] at hP
  have hG := f_lt hG e7
  refine lv_iconst (v := 0) hx hb dX8_take_10 (by decide) ?_
  refine lv_istore_n (lv' := [(2, .int (0 : Int32)), (0, .ref (E.2.1 61)), (1, .int a1)]) hx hb dX8_take_11 rfl hl (by decide) rfl (fun ls hl => ?_)
  obtain ⟨σl12, hT12, hG⟩ := f_bv hG
  have T12 : ∀ (H : Heap) (locs : List Loc) (ls : Array Slot), f_h E σl12 H → va_S (f_A E) s.heap H locs → lv_has ls 3 [] → W p l e rm_X8_take s m args below meth c H locs 0 0 Q (F0 m 39 ls []) := by
    intro H locs ls hP hS hl
    exact x_rv hR hS hP hG dX8_take_39
  have L12 : ∀ (n12 : Nat) (x12_2 : Int32) (σh12 : fS) (H : Heap) (locs : List Loc) (ls : Array Slot), f_h E σh12 H → va_S (f_A E) s.heap H locs → lv_has ls 3 [(0, .ref (E.2.1 61)), (1, .int a1), (2, .int x12_2)] → lp_X8_take_12 N a1 n12 x12_2 σh12 = some σl12 → W p l e rm_X8_take s m args below meth c H locs 0 0 Q (F0 m 12 ls []) := by
    intro n12
    induction n12 with
    | zero =>
      intro x12_2 σh12 H locs ls hP hS hl hG
      rw [lp_X8_take_12] at hG
      cases hG
    | succ n12 ih12 =>
      intro x12_2 σh12 H locs ls hP hS hl hG
      rw [lp_X8_take_12] at hG
      refine lv_iload_n hx hb dX8_take_12 rfl (lv_at hl 2 rfl) ?_
      refine lv_iconst (v := 4) hx hb dX8_take_13 (by decide) ?_
      refine lv_icmp_ge (tgt := 39) hx hb dX8_take_14 (by decide) (fun c14 => ?_) (fun c14 => ?_)
      · have hG := f_ip c14 hG
        cases hG
        exact T12 _ _ _ hP hS (lv_sub hl [] rfl)
      · have hG := f_in c14 hG
        refine lv_aload_n hx hb dX8_take_17 rfl (lv_at hl 0 rfl) ?_
        refine gf_X8_72 F hP dX8_take_18 ?_
        refine lv_iload_n hx hb dX8_take_21 rfl (lv_at hl 2 rfl) ?_
        refine lv_aload_n hx hb dX8_take_22 rfl (lv_at hl 0 rfl) ?_
        refine gf_X8_13 F hP dX8_take_23 ?_
        refine lv_iconst (v := 4) hx hb dX8_take_26 (by decide) ?_
        refine lv_iload_n hx hb dX8_take_27 rfl (lv_at hl 1 rfl) ?_
        refine lv_imul hx hb dX8_take_28 ?_
        refine lv_iload_n hx hb dX8_take_29 rfl (lv_at hl 2 rfl) ?_
        refine lv_iadd hx hb dX8_take_30 ?_
        obtain ⟨h31, hG⟩ := f_gd hG
        have i31 := f_fin h31
        refine x_iald F hP rfl rfl i31 dX8_take_31 ?_
        obtain ⟨h32, hG⟩ := f_gd hG
        have i32 := f_fin h32
        refine x_iast F hS hP rfl rfl i32 dX8_take_32 (fun H locs hP hS => ?_)
        obtain ⟨σ32, e32⟩ : ∃ t : fS, t = sI σh12 82 (x12_2).toNatClampNeg (σh12.1 63 ((((4 : Int32) * a1) + x12_2)).toNatClampNeg) := ⟨_, rfl⟩
        rw [← e32] at hP
        have hG := f_lt hG e32
        refine lv_iinc (v := (x12_2 + (1 : Int32))) (lv' := [(2, .int (x12_2 + (1 : Int32))), (0, .ref (E.2.1 61)), (1, .int a1)]) hx hb dX8_take_33 hl (k := 2) rfl (by rfl) (by decide) rfl (fun ls hl => ?_)
        refine lv_goto (tgt := 12) hx hb dX8_take_36 (by decide) ?_
        exact ih12 (x12_2 + (1 : Int32)) σ32 _ _ _ hP hS (lv_sub hl [1, 2, 0] rfl) hG
  exact L12 N (0 : Int32) σ7 _ _ _ hP hS (lv_sub hl [1, 2, 0] rfl) hT12
theorem dX8_put_0 : decode cX8_put 0 = .ok (.iload_n 1, 1) := by decide +kernel
theorem dX8_put_1 : decode cX8_put 1 = .ok (.invokestatic 152, 3) := by decide +kernel
theorem dX8_put_4 : decode cX8_put 4 = .ok (.ifCond .ne 6, 3) := by decide +kernel
theorem dX8_put_7 : decode cX8_put 7 = .ok (.bipush (-101), 2) := by decide +kernel
theorem dX8_put_9 : decode cX8_put 9 = .ok (.ireturn, 1) := by decide +kernel
theorem dX8_put_10 : decode cX8_put 10 = .ok (.aload_n 0, 1) := by decide +kernel
theorem dX8_put_11 : decode cX8_put 11 = .ok (.invokevirtual 148, 3) := by decide +kernel
theorem dX8_put_14 : decode cX8_put 14 = .ok (.pop, 1) := by decide +kernel
theorem dX8_put_15 : decode cX8_put 15 = .ok (.aload_n 0, 1) := by decide +kernel
theorem dX8_put_16 : decode cX8_put 16 = .ok (.getfield 141, 3) := by decide +kernel
theorem dX8_put_19 : decode cX8_put 19 = .ok (.ifCond .ne 6, 3) := by decide +kernel
theorem dX8_put_22 : decode cX8_put 22 = .ok (.bipush (-103), 2) := by decide +kernel
theorem dX8_put_24 : decode cX8_put 24 = .ok (.ireturn, 1) := by decide +kernel
theorem dX8_put_25 : decode cX8_put 25 = .ok (.aload_n 0, 1) := by decide +kernel
theorem dX8_put_26 : decode cX8_put 26 = .ok (.iconst 0, 1) := by decide +kernel
theorem dX8_put_27 : decode cX8_put 27 = .ok (.putfield 126, 3) := by decide +kernel
theorem dX8_put_30 : decode cX8_put 30 = .ok (.aload_n 0, 1) := by decide +kernel
theorem dX8_put_31 : decode cX8_put 31 = .ok (.iload_n 1, 1) := by decide +kernel
theorem dX8_put_32 : decode cX8_put 32 = .ok (.invokevirtual 171, 3) := by decide +kernel
theorem dX8_put_35 : decode cX8_put 35 = .ok (.ireturn, 1) := by decide +kernel
set_option maxHeartbeats 4000000 in
set_option maxRecDepth 100000 in
theorem c_X8_put (l : Launch) (E : fEv) (N : Nat) (a1 : Int32) (σ : fS) (r : Int32) (τ : fS) (hG : g_X8_put N a1 σ = some (r, τ)) : fM l E yX8_put (.code yX8_put cX8_put 2 (some .int)) rm_X8_put [.ref (E.2.1 61), .int a1] σ τ (some (.int r)) := by
  refine f_openI (by decide) (Nat.le_of_ble_eq_true rfl) ?_
  intro p e s m below meth c args Q F hR hP ls hl
  have hx := F.1.1
  have hb := F.1.2.1
  have hown := F.1.2.2.2.1
  have hts := F.1.2.2.2.2
  have hS : va_S (f_A E) s.heap s.heap [] := va_S.rf
  skip
  have hl : lv_has ls 2 [(0, .ref (E.2.1 61)), (1, .int a1)] := hl
  unfold g_X8_put at hG
  refine lv_iload_n hx hb dX8_put_0 rfl (lv_at hl 1 rfl) ?_
  obtain ⟨r1, σ1, hC1, hG⟩ := f_bd hG
  refine iv_X8_152 F hS hP (c_X8_isShelf l E N a1 σ _ _ hC1) ⟨Nat.le_of_ble_eq_true rfl, Nat.le_of_ble_eq_true rfl⟩ hl.1 (Nat.le_of_ble_eq_true rfl) dX8_put_1 ⟨Nat.zero_le _, Nat.zero_le _⟩ (fun H locs hP hS => ?_)
  refine lv_if_ne (tgt := 10) hx hb dX8_put_4 (by decide) (fun c4 => ?_) (fun c4 => ?_)
  · have hG := f_in c4 hG
    refine lv_aload_n hx hb dX8_put_10 rfl (lv_at hl 0 rfl) ?_
    obtain ⟨r11, σ11, hC11, hG⟩ := f_bd hG
    refine iv_X8_148 F hS hP (c_X8_read l E N σ1 _ _ hC11) ⟨Nat.le_of_ble_eq_true rfl, Nat.le_of_ble_eq_true rfl⟩ hl.1 (Nat.le_of_ble_eq_true rfl) dX8_put_11 ⟨Nat.zero_le _, Nat.zero_le _⟩ (fun H locs hP hS => ?_)
    refine lv_pop hx hb dX8_put_14 rfl ?_
    refine lv_aload_n hx hb dX8_put_15 rfl (lv_at hl 0 rfl) ?_
    refine gf_X8_141 F hP dX8_put_16 ?_
    refine lv_if_ne (tgt := 25) hx hb dX8_put_19 (by decide) (fun c19 => ?_) (fun c19 => ?_)
    · have hG := f_in c19 hG
      refine lv_aload_n hx hb dX8_put_25 rfl (lv_at hl 0 rfl) ?_
      refine lv_iconst (v := 0) hx hb dX8_put_26 (by decide) ?_
      refine pf_X8_126 F hS hP dX8_put_27 (fun H locs hP hS => ?_)
      obtain ⟨σ27, e27⟩ : ∃ t : fS, t = sI σ11 61 5 (0 : Int32) := ⟨_, rfl⟩
      rw [← e27] at hP
      have hG := f_lt hG e27
      refine lv_aload_n hx hb dX8_put_30 rfl (lv_at hl 0 rfl) ?_
      refine lv_iload_n hx hb dX8_put_31 rfl (lv_at hl 1 rfl) ?_
      obtain ⟨r32, σ32, hC32, hG⟩ := f_bd hG
      refine iv_X8_171 F hS hP (c_X8_layNew l E N a1 σ27 _ _ hC32) ⟨Nat.le_of_ble_eq_true rfl, Nat.le_of_ble_eq_true rfl⟩ hl.1 (Nat.le_of_ble_eq_true rfl) dX8_put_32 ⟨Nat.zero_le _, Nat.zero_le _⟩ (fun H locs hP hS => ?_)
      exact x_ri hR hS hP hG dX8_put_35
    · have hG := f_ip c19 hG
      refine lv_bipush (v := -103) hx hb dX8_put_22 (by decide) ?_
      exact x_ri hR hS hP hG dX8_put_24
  · have hG := f_ip c4 hG
    refine lv_bipush (v := -101) hx hb dX8_put_7 (by decide) ?_
    exact x_ri hR hS hP hG dX8_put_9
theorem dX8_classOf_0 : decode cX8_classOf 0 = .ok (.iload_n 1, 1) := by decide +kernel
theorem dX8_classOf_1 : decode cX8_classOf 1 = .ok (.invokestatic 132, 3) := by decide +kernel
theorem dX8_classOf_4 : decode cX8_classOf 4 = .ok (.ifCond .eq 10, 3) := by decide +kernel
theorem dX8_classOf_7 : decode cX8_classOf 7 = .ok (.iload_n 1, 1) := by decide +kernel
theorem dX8_classOf_8 : decode cX8_classOf 8 = .ok (.invokestatic 138, 3) := by decide +kernel
theorem dX8_classOf_11 : decode cX8_classOf 11 = .ok (.goto 5, 3) := by decide +kernel
theorem dX8_classOf_14 : decode cX8_classOf 14 = .ok (.bipush (-102), 2) := by decide +kernel
theorem dX8_classOf_16 : decode cX8_classOf 16 = .ok (.ireturn, 1) := by decide +kernel
set_option maxHeartbeats 4000000 in
set_option maxRecDepth 100000 in
theorem c_X8_classOf (l : Launch) (E : fEv) (N : Nat) (a1 : Int32) (σ : fS) (r : Int32) (τ : fS) (hG : g_X8_classOf N a1 σ = some (r, τ)) : fM l E yX8_classOf (.code yX8_classOf cX8_classOf 2 (some .int)) rm_X8_classOf [.ref (E.2.1 61), .int a1] σ τ (some (.int r)) := by
  refine f_openI (by decide) (Nat.le_of_ble_eq_true rfl) ?_
  intro p e s m below meth c args Q F hR hP ls hl
  have hx := F.1.1
  have hb := F.1.2.1
  have hown := F.1.2.2.2.1
  have hts := F.1.2.2.2.2
  have hS : va_S (f_A E) s.heap s.heap [] := va_S.rf
  skip
  have hl : lv_has ls 2 [(0, .ref (E.2.1 61)), (1, .int a1)] := hl
  unfold g_X8_classOf at hG
  refine lv_iload_n hx hb dX8_classOf_0 rfl (lv_at hl 1 rfl) ?_
  obtain ⟨r1, σ1, hC1, hG⟩ := f_bd hG
  refine iv_X8_132 F hS hP (c_X8_isNumber l E N a1 σ _ _ hC1) ⟨Nat.le_of_ble_eq_true rfl, Nat.le_of_ble_eq_true rfl⟩ hl.1 (Nat.le_of_ble_eq_true rfl) dX8_classOf_1 ⟨Nat.zero_le _, Nat.zero_le _⟩ (fun H locs hP hS => ?_)
  refine lv_if_eq (tgt := 14) hx hb dX8_classOf_4 (by decide) (fun c4 => ?_) (fun c4 => ?_)
  · have hG := f_ip c4 hG
    refine lv_bipush (v := -102) hx hb dX8_classOf_14 (by decide) ?_
    exact x_ri hR hS hP hG dX8_classOf_16
  · have hG := f_in c4 hG
    refine lv_iload_n hx hb dX8_classOf_7 rfl (lv_at hl 1 rfl) ?_
    obtain ⟨r8, σ8, hC8, hG⟩ := f_bd hG
    refine iv_X8_138 F hS hP (c_X8_kindOf l E N a1 σ1 _ _ hC8) ⟨Nat.le_of_ble_eq_true rfl, Nat.le_of_ble_eq_true rfl⟩ hl.1 (Nat.le_of_ble_eq_true rfl) dX8_classOf_8 ⟨Nat.zero_le _, Nat.zero_le _⟩ (fun H locs hP hS => ?_)
    refine lv_goto (tgt := 16) hx hb dX8_classOf_11 (by decide) ?_
    exact x_ri hR hS hP hG dX8_classOf_16
theorem dX8_core_0 : decode cX8_core 0 = .ok (.iload_n 1, 1) := by decide +kernel
theorem dX8_core_1 : decode cX8_core 1 = .ok (.invokestatic 174, 3) := by decide +kernel
theorem dX8_core_4 : decode cX8_core 4 = .ok (.ifCond .eq 10, 3) := by decide +kernel
theorem dX8_core_7 : decode cX8_core 7 = .ok (.iload_n 1, 1) := by decide +kernel
theorem dX8_core_8 : decode cX8_core 8 = .ok (.invokestatic 96, 3) := by decide +kernel
theorem dX8_core_11 : decode cX8_core 11 = .ok (.goto 5, 3) := by decide +kernel
theorem dX8_core_14 : decode cX8_core 14 = .ok (.bipush (-102), 2) := by decide +kernel
theorem dX8_core_16 : decode cX8_core 16 = .ok (.ireturn, 1) := by decide +kernel
set_option maxHeartbeats 4000000 in
set_option maxRecDepth 100000 in
theorem c_X8_core (l : Launch) (E : fEv) (N : Nat) (a1 : Int32) (σ : fS) (r : Int32) (τ : fS) (hG : g_X8_core N a1 σ = some (r, τ)) : fM l E yX8_core (.code yX8_core cX8_core 2 (some .int)) rm_X8_core [.ref (E.2.1 61), .int a1] σ τ (some (.int r)) := by
  refine f_openI (by decide) (Nat.le_of_ble_eq_true rfl) ?_
  intro p e s m below meth c args Q F hR hP ls hl
  have hx := F.1.1
  have hb := F.1.2.1
  have hown := F.1.2.2.2.1
  have hts := F.1.2.2.2.2
  have hS : va_S (f_A E) s.heap s.heap [] := va_S.rf
  skip
  have hl : lv_has ls 2 [(0, .ref (E.2.1 61)), (1, .int a1)] := hl
  unfold g_X8_core at hG
  refine lv_iload_n hx hb dX8_core_0 rfl (lv_at hl 1 rfl) ?_
  obtain ⟨r1, σ1, hC1, hG⟩ := f_bd hG
  refine iv_X8_174 F hS hP (c_X8_isKind l E N a1 σ _ _ hC1) ⟨Nat.le_of_ble_eq_true rfl, Nat.le_of_ble_eq_true rfl⟩ hl.1 (Nat.le_of_ble_eq_true rfl) dX8_core_1 ⟨Nat.zero_le _, Nat.zero_le _⟩ (fun H locs hP hS => ?_)
  refine lv_if_eq (tgt := 14) hx hb dX8_core_4 (by decide) (fun c4 => ?_) (fun c4 => ?_)
  · have hG := f_ip c4 hG
    refine lv_bipush (v := -102) hx hb dX8_core_14 (by decide) ?_
    exact x_ri hR hS hP hG dX8_core_16
  · have hG := f_in c4 hG
    refine lv_iload_n hx hb dX8_core_7 rfl (lv_at hl 1 rfl) ?_
    obtain ⟨r8, σ8, hC8, hG⟩ := f_bd hG
    refine iv_X8_96 F hS hP (c_X8_coreOf l E N a1 σ1 _ _ hC8) ⟨Nat.le_of_ble_eq_true rfl, Nat.le_of_ble_eq_true rfl⟩ hl.1 (Nat.le_of_ble_eq_true rfl) dX8_core_8 ⟨Nat.zero_le _, Nat.zero_le _⟩ (fun H locs hP hS => ?_)
    refine lv_goto (tgt := 16) hx hb dX8_core_11 (by decide) ?_
    exact x_ri hR hS hP hG dX8_core_16
theorem dX8_symbol_0 : decode cX8_symbol 0 = .ok (.iload_n 3, 1) := by decide +kernel
theorem dX8_symbol_1 : decode cX8_symbol 1 = .ok (.invokestatic 177, 3) := by decide +kernel
theorem dX8_symbol_4 : decode cX8_symbol 4 = .ok (.ifCond .ne 6, 3) := by decide +kernel
theorem dX8_symbol_7 : decode cX8_symbol 7 = .ok (.bipush (-101), 2) := by decide +kernel
theorem dX8_symbol_9 : decode cX8_symbol 9 = .ok (.ireturn, 1) := by decide +kernel
theorem dX8_symbol_10 : decode cX8_symbol 10 = .ok (.iload_n 1, 1) := by decide +kernel
theorem dX8_symbol_11 : decode cX8_symbol 11 = .ok (.invokestatic 174, 3) := by decide +kernel
theorem dX8_symbol_14 : decode cX8_symbol 14 = .ok (.ifCond .eq 20, 3) := by decide +kernel
theorem dX8_symbol_17 : decode cX8_symbol 17 = .ok (.iload_n 2, 1) := by decide +kernel
theorem dX8_symbol_18 : decode cX8_symbol 18 = .ok (.invokestatic 174, 3) := by decide +kernel
theorem dX8_symbol_21 : decode cX8_symbol 21 = .ok (.ifCond .eq 13, 3) := by decide +kernel
theorem dX8_symbol_24 : decode cX8_symbol 24 = .ok (.aload_n 0, 1) := by decide +kernel
theorem dX8_symbol_25 : decode cX8_symbol 25 = .ok (.iload_n 1, 1) := by decide +kernel
theorem dX8_symbol_26 : decode cX8_symbol 26 = .ok (.iload_n 2, 1) := by decide +kernel
theorem dX8_symbol_27 : decode cX8_symbol 27 = .ok (.iload_n 3, 1) := by decide +kernel
theorem dX8_symbol_28 : decode cX8_symbol 28 = .ok (.invokevirtual 122, 3) := by decide +kernel
theorem dX8_symbol_31 : decode cX8_symbol 31 = .ok (.goto 5, 3) := by decide +kernel
theorem dX8_symbol_34 : decode cX8_symbol 34 = .ok (.bipush (-102), 2) := by decide +kernel
theorem dX8_symbol_36 : decode cX8_symbol 36 = .ok (.ireturn, 1) := by decide +kernel
set_option maxHeartbeats 4000000 in
set_option maxRecDepth 100000 in
theorem c_X8_symbol (l : Launch) (E : fEv) (N : Nat) (a1 : Int32) (a2 : Int32) (a3 : Int32) (σ : fS) (r : Int32) (τ : fS) (hG : g_X8_symbol N a1 a2 a3 σ = some (r, τ)) : fM l E yX8_symbol (.code yX8_symbol cX8_symbol 4 (some .int)) rm_X8_symbol [.ref (E.2.1 61), .int a1, .int a2, .int a3] σ τ (some (.int r)) := by
  refine f_openI (by decide) (Nat.le_of_ble_eq_true rfl) ?_
  intro p e s m below meth c args Q F hR hP ls hl
  have hx := F.1.1
  have hb := F.1.2.1
  have hown := F.1.2.2.2.1
  have hts := F.1.2.2.2.2
  have hS : va_S (f_A E) s.heap s.heap [] := va_S.rf
  skip
  have hl : lv_has ls 4 [(0, .ref (E.2.1 61)), (1, .int a1), (2, .int a2), (3, .int a3)] := hl
  unfold g_X8_symbol at hG
  refine lv_iload_n hx hb dX8_symbol_0 rfl (lv_at hl 3 rfl) ?_
  obtain ⟨r1, σ1, hC1, hG⟩ := f_bd hG
  refine iv_X8_177 F hS hP (c_X8_isPlace l E N a3 σ _ _ hC1) ⟨Nat.le_of_ble_eq_true rfl, Nat.le_of_ble_eq_true rfl⟩ hl.1 (Nat.le_of_ble_eq_true rfl) dX8_symbol_1 ⟨Nat.zero_le _, Nat.zero_le _⟩ (fun H locs hP hS => ?_)
  refine lv_if_ne (tgt := 10) hx hb dX8_symbol_4 (by decide) (fun c4 => ?_) (fun c4 => ?_)
  · have hG := f_in c4 hG
    refine lv_iload_n hx hb dX8_symbol_10 rfl (lv_at hl 1 rfl) ?_
    obtain ⟨r11, σ11, hC11, hG⟩ := f_bd hG
    refine iv_X8_174 F hS hP (c_X8_isKind l E N a1 σ1 _ _ hC11) ⟨Nat.le_of_ble_eq_true rfl, Nat.le_of_ble_eq_true rfl⟩ hl.1 (Nat.le_of_ble_eq_true rfl) dX8_symbol_11 ⟨Nat.zero_le _, Nat.zero_le _⟩ (fun H locs hP hS => ?_)
    refine lv_if_eq (tgt := 34) hx hb dX8_symbol_14 (by decide) (fun c14 => ?_) (fun c14 => ?_)
    · have hG := f_ip c14 hG
      refine lv_bipush (v := -102) hx hb dX8_symbol_34 (by decide) ?_
      exact x_ri hR hS hP hG dX8_symbol_36
    · have hG := f_in c14 hG
      refine lv_iload_n hx hb dX8_symbol_17 rfl (lv_at hl 2 rfl) ?_
      obtain ⟨r18, σ18, hC18, hG⟩ := f_bd hG
      refine iv_X8_174 F hS hP (c_X8_isKind l E N a2 σ11 _ _ hC18) ⟨Nat.le_of_ble_eq_true rfl, Nat.le_of_ble_eq_true rfl⟩ hl.1 (Nat.le_of_ble_eq_true rfl) dX8_symbol_18 ⟨Nat.zero_le _, Nat.zero_le _⟩ (fun H locs hP hS => ?_)
      refine lv_if_eq (tgt := 34) hx hb dX8_symbol_21 (by decide) (fun c21 => ?_) (fun c21 => ?_)
      · have hG := f_ip c21 hG
        refine lv_bipush (v := -102) hx hb dX8_symbol_34 (by decide) ?_
        exact x_ri hR hS hP hG dX8_symbol_36
      · have hG := f_in c21 hG
        refine lv_aload_n hx hb dX8_symbol_24 rfl (lv_at hl 0 rfl) ?_
        refine lv_iload_n hx hb dX8_symbol_25 rfl (lv_at hl 1 rfl) ?_
        refine lv_iload_n hx hb dX8_symbol_26 rfl (lv_at hl 2 rfl) ?_
        refine lv_iload_n hx hb dX8_symbol_27 rfl (lv_at hl 3 rfl) ?_
        obtain ⟨r28, σ28, hC28, hG⟩ := f_bd hG
        refine iv_X8_122 F hS hP (c_X8_symbolNow l E N a1 a2 a3 σ18 _ _ hC28) ⟨Nat.le_of_ble_eq_true rfl, Nat.le_of_ble_eq_true rfl⟩ hl.1 (Nat.le_of_ble_eq_true rfl) dX8_symbol_28 ⟨Nat.zero_le _, Nat.zero_le _⟩ (fun H locs hP hS => ?_)
        refine lv_goto (tgt := 36) hx hb dX8_symbol_31 (by decide) ?_
        exact x_ri hR hS hP hG dX8_symbol_36
  · have hG := f_ip c4 hG
    refine lv_bipush (v := -101) hx hb dX8_symbol_7 (by decide) ?_
    exact x_ri hR hS hP hG dX8_symbol_9
theorem dX8_square_0 : decode cX8_square 0 = .ok (.iload_n 2, 1) := by decide +kernel
theorem dX8_square_1 : decode cX8_square 1 = .ok (.invokestatic 177, 3) := by decide +kernel
theorem dX8_square_4 : decode cX8_square 4 = .ok (.ifCond .ne 6, 3) := by decide +kernel
theorem dX8_square_7 : decode cX8_square 7 = .ok (.bipush (-101), 2) := by decide +kernel
theorem dX8_square_9 : decode cX8_square 9 = .ok (.ireturn, 1) := by decide +kernel
theorem dX8_square_10 : decode cX8_square 10 = .ok (.iload_n 1, 1) := by decide +kernel
theorem dX8_square_11 : decode cX8_square 11 = .ok (.invokestatic 174, 3) := by decide +kernel
theorem dX8_square_14 : decode cX8_square 14 = .ok (.ifCond .ne 8, 3) := by decide +kernel
theorem dX8_square_17 : decode cX8_square 17 = .ok (.bipush (-102), 2) := by decide +kernel
theorem dX8_square_19 : decode cX8_square 19 = .ok (.goto 16, 3) := by decide +kernel
theorem dX8_square_22 : decode cX8_square 22 = .ok (.iload_n 1, 1) := by decide +kernel
theorem dX8_square_23 : decode cX8_square 23 = .ok (.iload_n 2, 1) := by decide +kernel
theorem dX8_square_24 : decode cX8_square 24 = .ok (.invokestatic 180, 3) := by decide +kernel
theorem dX8_square_27 : decode cX8_square 27 = .ok (.ifCond .eq 7, 3) := by decide +kernel
theorem dX8_square_30 : decode cX8_square 30 = .ok (.iconst 1, 1) := by decide +kernel
theorem dX8_square_31 : decode cX8_square 31 = .ok (.goto 4, 3) := by decide +kernel
theorem dX8_square_34 : decode cX8_square 34 = .ok (.iconst 0, 1) := by decide +kernel
theorem dX8_square_35 : decode cX8_square 35 = .ok (.ireturn, 1) := by decide +kernel
set_option maxHeartbeats 4000000 in
set_option maxRecDepth 100000 in
theorem c_X8_square (l : Launch) (E : fEv) (N : Nat) (a1 : Int32) (a2 : Int32) (σ : fS) (r : Int32) (τ : fS) (hG : g_X8_square N a1 a2 σ = some (r, τ)) : fM l E yX8_square (.code yX8_square cX8_square 3 (some .int)) rm_X8_square [.ref (E.2.1 61), .int a1, .int a2] σ τ (some (.int r)) := by
  refine f_openI (by decide) (Nat.le_of_ble_eq_true rfl) ?_
  intro p e s m below meth c args Q F hR hP ls hl
  have hx := F.1.1
  have hb := F.1.2.1
  have hown := F.1.2.2.2.1
  have hts := F.1.2.2.2.2
  have hS : va_S (f_A E) s.heap s.heap [] := va_S.rf
  skip
  have hl : lv_has ls 3 [(0, .ref (E.2.1 61)), (1, .int a1), (2, .int a2)] := hl
  unfold g_X8_square at hG
  refine lv_iload_n hx hb dX8_square_0 rfl (lv_at hl 2 rfl) ?_
  obtain ⟨r1, σ1, hC1, hG⟩ := f_bd hG
  refine iv_X8_177 F hS hP (c_X8_isPlace l E N a2 σ _ _ hC1) ⟨Nat.le_of_ble_eq_true rfl, Nat.le_of_ble_eq_true rfl⟩ hl.1 (Nat.le_of_ble_eq_true rfl) dX8_square_1 ⟨Nat.zero_le _, Nat.zero_le _⟩ (fun H locs hP hS => ?_)
  refine lv_if_ne (tgt := 10) hx hb dX8_square_4 (by decide) (fun c4 => ?_) (fun c4 => ?_)
  · have hG := f_in c4 hG
    refine lv_iload_n hx hb dX8_square_10 rfl (lv_at hl 1 rfl) ?_
    obtain ⟨r11, σ11, hC11, hG⟩ := f_bd hG
    refine iv_X8_174 F hS hP (c_X8_isKind l E N a1 σ1 _ _ hC11) ⟨Nat.le_of_ble_eq_true rfl, Nat.le_of_ble_eq_true rfl⟩ hl.1 (Nat.le_of_ble_eq_true rfl) dX8_square_11 ⟨Nat.zero_le _, Nat.zero_le _⟩ (fun H locs hP hS => ?_)
    refine lv_if_ne (tgt := 22) hx hb dX8_square_14 (by decide) (fun c14 => ?_) (fun c14 => ?_)
    · have hG := f_in c14 hG
      refine lv_iload_n hx hb dX8_square_22 rfl (lv_at hl 1 rfl) ?_
      refine lv_iload_n hx hb dX8_square_23 rfl (lv_at hl 2 rfl) ?_
      obtain ⟨r24, σ24, hC24, hG⟩ := f_bd hG
      refine iv_X8_180 F hS hP (c_X8_isSquare l E N a1 a2 σ11 _ _ hC24) ⟨Nat.le_of_ble_eq_true rfl, Nat.le_of_ble_eq_true rfl⟩ hl.1 (Nat.le_of_ble_eq_true rfl) dX8_square_24 ⟨Nat.zero_le _, Nat.zero_le _⟩ (fun H locs hP hS => ?_)
      refine lv_if_eq (tgt := 34) hx hb dX8_square_27 (by decide) (fun c27 => ?_) (fun c27 => ?_)
      · have hG := f_ip c27 hG
        refine lv_iconst (v := 0) hx hb dX8_square_34 (by decide) ?_
        exact x_ri hR hS hP hG dX8_square_35
      · have hG := f_in c27 hG
        refine lv_iconst (v := 1) hx hb dX8_square_30 (by decide) ?_
        refine lv_goto (tgt := 35) hx hb dX8_square_31 (by decide) ?_
        exact x_ri hR hS hP hG dX8_square_35
    · have hG := f_ip c14 hG
      refine lv_bipush (v := -102) hx hb dX8_square_17 (by decide) ?_
      refine lv_goto (tgt := 35) hx hb dX8_square_19 (by decide) ?_
      exact x_ri hR hS hP hG dX8_square_35
  · have hG := f_ip c4 hG
    refine lv_bipush (v := -101) hx hb dX8_square_7 (by decide) ?_
    exact x_ri hR hS hP hG dX8_square_9
theorem dX8_at_0 : decode cX8_at 0 = .ok (.aload_n 0, 1) := by decide +kernel
theorem dX8_at_1 : decode cX8_at 1 = .ok (.iload_n 1, 1) := by decide +kernel
theorem dX8_at_2 : decode cX8_at 2 = .ok (.iload_n 2, 1) := by decide +kernel
theorem dX8_at_3 : decode cX8_at 3 = .ok (.invokevirtual 183, 3) := by decide +kernel
theorem dX8_at_6 : decode cX8_at 6 = .ok (.ifCond .eq 19, 3) := by decide +kernel
theorem dX8_at_9 : decode cX8_at 9 = .ok (.aload_n 0, 1) := by decide +kernel
theorem dX8_at_10 : decode cX8_at 10 = .ok (.getfield 13, 3) := by decide +kernel
theorem dX8_at_13 : decode cX8_at 13 = .ok (.iconst 4, 1) := by decide +kernel
theorem dX8_at_14 : decode cX8_at 14 = .ok (.iload_n 1, 1) := by decide +kernel
theorem dX8_at_15 : decode cX8_at 15 = .ok (.imul, 1) := by decide +kernel
theorem dX8_at_16 : decode cX8_at 16 = .ok (.iload_n 2, 1) := by decide +kernel
theorem dX8_at_17 : decode cX8_at 17 = .ok (.iadd, 1) := by decide +kernel
theorem dX8_at_18 : decode cX8_at 18 = .ok (.iaload, 1) := by decide +kernel
theorem dX8_at_19 : decode cX8_at 19 = .ok (.invokestatic 96, 3) := by decide +kernel
theorem dX8_at_22 : decode cX8_at 22 = .ok (.goto 5, 3) := by decide +kernel
theorem dX8_at_25 : decode cX8_at 25 = .ok (.bipush (-101), 2) := by decide +kernel
theorem dX8_at_27 : decode cX8_at 27 = .ok (.ireturn, 1) := by decide +kernel
set_option maxHeartbeats 4000000 in
set_option maxRecDepth 100000 in
theorem c_X8_at (l : Launch) (E : fEv) (N : Nat) (a1 : Int32) (a2 : Int32) (σ : fS) (r : Int32) (τ : fS) (hG : g_X8_at N a1 a2 σ = some (r, τ)) : fM l E yX8_at (.code yX8_at cX8_at 3 (some .int)) rm_X8_at [.ref (E.2.1 61), .int a1, .int a2] σ τ (some (.int r)) := by
  refine f_openI (by decide) (Nat.le_of_ble_eq_true rfl) ?_
  intro p e s m below meth c args Q F hR hP ls hl
  have hx := F.1.1
  have hb := F.1.2.1
  have hown := F.1.2.2.2.1
  have hts := F.1.2.2.2.2
  have hS : va_S (f_A E) s.heap s.heap [] := va_S.rf
  skip
  have hl : lv_has ls 3 [(0, .ref (E.2.1 61)), (1, .int a1), (2, .int a2)] := hl
  unfold g_X8_at at hG
  refine lv_aload_n hx hb dX8_at_0 rfl (lv_at hl 0 rfl) ?_
  refine lv_iload_n hx hb dX8_at_1 rfl (lv_at hl 1 rfl) ?_
  refine lv_iload_n hx hb dX8_at_2 rfl (lv_at hl 2 rfl) ?_
  obtain ⟨r3, σ3, hC3, hG⟩ := f_bd hG
  refine iv_X8_183 F hS hP (c_X8_isTerm l E N a1 a2 σ _ _ hC3) ⟨Nat.le_of_ble_eq_true rfl, Nat.le_of_ble_eq_true rfl⟩ hl.1 (Nat.le_of_ble_eq_true rfl) dX8_at_3 ⟨Nat.zero_le _, Nat.zero_le _⟩ (fun H locs hP hS => ?_)
  refine lv_if_eq (tgt := 25) hx hb dX8_at_6 (by decide) (fun c6 => ?_) (fun c6 => ?_)
  · have hG := f_ip c6 hG
    refine lv_bipush (v := -101) hx hb dX8_at_25 (by decide) ?_
    exact x_ri hR hS hP hG dX8_at_27
  · have hG := f_in c6 hG
    refine lv_aload_n hx hb dX8_at_9 rfl (lv_at hl 0 rfl) ?_
    refine gf_X8_13 F hP dX8_at_10 ?_
    refine lv_iconst (v := 4) hx hb dX8_at_13 (by decide) ?_
    refine lv_iload_n hx hb dX8_at_14 rfl (lv_at hl 1 rfl) ?_
    refine lv_imul hx hb dX8_at_15 ?_
    refine lv_iload_n hx hb dX8_at_16 rfl (lv_at hl 2 rfl) ?_
    refine lv_iadd hx hb dX8_at_17 ?_
    obtain ⟨h18, hG⟩ := f_gd hG
    have i18 := f_fin h18
    refine x_iald F hP rfl rfl i18 dX8_at_18 ?_
    obtain ⟨r19, σ19, hC19, hG⟩ := f_bd hG
    refine iv_X8_96 F hS hP (c_X8_coreOf l E N (σ3.1 63 ((((4 : Int32) * a1) + a2)).toNatClampNeg) σ3 _ _ hC19) ⟨Nat.le_of_ble_eq_true rfl, Nat.le_of_ble_eq_true rfl⟩ hl.1 (Nat.le_of_ble_eq_true rfl) dX8_at_19 ⟨Nat.zero_le _, Nat.zero_le _⟩ (fun H locs hP hS => ?_)
    refine lv_goto (tgt := 27) hx hb dX8_at_22 (by decide) ?_
    exact x_ri hR hS hP hG dX8_at_27
theorem dX8_lookAt_0 : decode cX8_lookAt 0 = .ok (.aload_n 0, 1) := by decide +kernel
theorem dX8_lookAt_1 : decode cX8_lookAt 1 = .ok (.aload_n 0, 1) := by decide +kernel
theorem dX8_lookAt_2 : decode cX8_lookAt 2 = .ok (.getfield 7, 3) := by decide +kernel
theorem dX8_lookAt_5 : decode cX8_lookAt 5 = .ok (.iload_n 1, 1) := by decide +kernel
theorem dX8_lookAt_6 : decode cX8_lookAt 6 = .ok (.iaload, 1) := by decide +kernel
theorem dX8_lookAt_7 : decode cX8_lookAt 7 = .ok (.putfield 106, 3) := by decide +kernel
theorem dX8_lookAt_10 : decode cX8_lookAt 10 = .ok (.iconst 0, 1) := by decide +kernel
theorem dX8_lookAt_11 : decode cX8_lookAt 11 = .ok (.istore_n 2, 1) := by decide +kernel
theorem dX8_lookAt_12 : decode cX8_lookAt 12 = .ok (.iload_n 2, 1) := by decide +kernel
theorem dX8_lookAt_13 : decode cX8_lookAt 13 = .ok (.aload_n 0, 1) := by decide +kernel
theorem dX8_lookAt_14 : decode cX8_lookAt 14 = .ok (.getfield 106, 3) := by decide +kernel
theorem dX8_lookAt_17 : decode cX8_lookAt 17 = .ok (.if_icmp .ge 25, 3) := by decide +kernel
theorem dX8_lookAt_20 : decode cX8_lookAt 20 = .ok (.aload_n 0, 1) := by decide +kernel
theorem dX8_lookAt_21 : decode cX8_lookAt 21 = .ok (.getfield 57, 3) := by decide +kernel
theorem dX8_lookAt_24 : decode cX8_lookAt 24 = .ok (.iload_n 2, 1) := by decide +kernel
theorem dX8_lookAt_25 : decode cX8_lookAt 25 = .ok (.aload_n 0, 1) := by decide +kernel
theorem dX8_lookAt_26 : decode cX8_lookAt 26 = .ok (.getfield 13, 3) := by decide +kernel
theorem dX8_lookAt_29 : decode cX8_lookAt 29 = .ok (.iconst 4, 1) := by decide +kernel
theorem dX8_lookAt_30 : decode cX8_lookAt 30 = .ok (.iload_n 1, 1) := by decide +kernel
theorem dX8_lookAt_31 : decode cX8_lookAt 31 = .ok (.imul, 1) := by decide +kernel
theorem dX8_lookAt_32 : decode cX8_lookAt 32 = .ok (.iload_n 2, 1) := by decide +kernel
theorem dX8_lookAt_33 : decode cX8_lookAt 33 = .ok (.iadd, 1) := by decide +kernel
theorem dX8_lookAt_34 : decode cX8_lookAt 34 = .ok (.iaload, 1) := by decide +kernel
theorem dX8_lookAt_35 : decode cX8_lookAt 35 = .ok (.iastore, 1) := by decide +kernel
theorem dX8_lookAt_36 : decode cX8_lookAt 36 = .ok (.iinc 2 1, 3) := by decide +kernel
theorem dX8_lookAt_39 : decode cX8_lookAt 39 = .ok (.goto (-27), 3) := by decide +kernel
theorem dX8_lookAt_42 : decode cX8_lookAt 42 = .ok (.return_, 1) := by decide +kernel
set_option maxHeartbeats 4000000 in
set_option maxRecDepth 100000 in
theorem c_X8_lookAt (l : Launch) (E : fEv) (N : Nat) (a1 : Int32) (σ : fS) (τ : fS) (hG : g_X8_lookAt N a1 σ = some τ) : fM l E yX8_lookAt (.code yX8_lookAt cX8_lookAt 3 none) rm_X8_lookAt [.ref (E.2.1 61), .int a1] σ τ none := by
  refine f_openV (by decide) (Nat.le_of_ble_eq_true rfl) ?_
  intro p e s m below meth c args Q F hR hP ls hl
  have hx := F.1.1
  have hb := F.1.2.1
  have hown := F.1.2.2.2.1
  have hts := F.1.2.2.2.2
  have hS : va_S (f_A E) s.heap s.heap [] := va_S.rf
  skip
  have hl : lv_has ls 3 [(0, .ref (E.2.1 61)), (1, .int a1)] := hl
  unfold g_X8_lookAt at hG
  refine lv_aload_n hx hb dX8_lookAt_0 rfl (lv_at hl 0 rfl) ?_
  refine lv_aload_n hx hb dX8_lookAt_1 rfl (lv_at hl 0 rfl) ?_
  refine gf_X8_7 F hP dX8_lookAt_2 ?_
  refine lv_iload_n hx hb dX8_lookAt_5 rfl (lv_at hl 1 rfl) ?_
  obtain ⟨h6, hG⟩ := f_gd hG
  have i6 := f_fin h6
  refine x_iald F hP rfl rfl i6 dX8_lookAt_6 ?_
  refine pf_X8_106 F hS hP dX8_lookAt_7 (fun H locs hP hS => ?_)
  obtain ⟨σ7, e7⟩ : ∃ t : fS, t = sI σ 61 21 (σ.1 62 (a1).toNatClampNeg) := ⟨_, rfl⟩
  rw [← e7] at hP
  have hG := f_lt hG e7
  refine lv_iconst (v := 0) hx hb dX8_lookAt_10 (by decide) ?_
  refine lv_istore_n (lv' := [(2, .int (0 : Int32)), (0, .ref (E.2.1 61)), (1, .int a1)]) hx hb dX8_lookAt_11 rfl hl (by decide) rfl (fun ls hl => ?_)
  obtain ⟨σl12, hT12, hG⟩ := f_bv hG
  have T12 : ∀ (H : Heap) (locs : List Loc) (ls : Array Slot), f_h E σl12 H → va_S (f_A E) s.heap H locs → lv_has ls 3 [] → W p l e rm_X8_lookAt s m args below meth c H locs 0 0 Q (F0 m 42 ls []) := by
    intro H locs ls hP hS hl
    exact x_rv hR hS hP hG dX8_lookAt_42
  have L12 : ∀ (n12 : Nat) (x12_2 : Int32) (σh12 : fS) (H : Heap) (locs : List Loc) (ls : Array Slot), f_h E σh12 H → va_S (f_A E) s.heap H locs → lv_has ls 3 [(0, .ref (E.2.1 61)), (1, .int a1), (2, .int x12_2)] → lp_X8_lookAt_12 N a1 n12 x12_2 σh12 = some σl12 → W p l e rm_X8_lookAt s m args below meth c H locs 0 0 Q (F0 m 12 ls []) := by
    intro n12
    induction n12 with
    | zero =>
      intro x12_2 σh12 H locs ls hP hS hl hG
      rw [lp_X8_lookAt_12] at hG
      cases hG
    | succ n12 ih12 =>
      intro x12_2 σh12 H locs ls hP hS hl hG
      rw [lp_X8_lookAt_12] at hG
      refine lv_iload_n hx hb dX8_lookAt_12 rfl (lv_at hl 2 rfl) ?_
      refine lv_aload_n hx hb dX8_lookAt_13 rfl (lv_at hl 0 rfl) ?_
      refine gf_X8_106 F hP dX8_lookAt_14 ?_
      refine lv_icmp_ge (tgt := 42) hx hb dX8_lookAt_17 (by decide) (fun c17 => ?_) (fun c17 => ?_)
      · have hG := f_ip c17 hG
        cases hG
        exact T12 _ _ _ hP hS (lv_sub hl [] rfl)
      · have hG := f_in c17 hG
        refine lv_aload_n hx hb dX8_lookAt_20 rfl (lv_at hl 0 rfl) ?_
        refine gf_X8_57 F hP dX8_lookAt_21 ?_
        refine lv_iload_n hx hb dX8_lookAt_24 rfl (lv_at hl 2 rfl) ?_
        refine lv_aload_n hx hb dX8_lookAt_25 rfl (lv_at hl 0 rfl) ?_
        refine gf_X8_13 F hP dX8_lookAt_26 ?_
        refine lv_iconst (v := 4) hx hb dX8_lookAt_29 (by decide) ?_
        refine lv_iload_n hx hb dX8_lookAt_30 rfl (lv_at hl 1 rfl) ?_
        refine lv_imul hx hb dX8_lookAt_31 ?_
        refine lv_iload_n hx hb dX8_lookAt_32 rfl (lv_at hl 2 rfl) ?_
        refine lv_iadd hx hb dX8_lookAt_33 ?_
        obtain ⟨h34, hG⟩ := f_gd hG
        have i34 := f_fin h34
        refine x_iald F hP rfl rfl i34 dX8_lookAt_34 ?_
        obtain ⟨h35, hG⟩ := f_gd hG
        have i35 := f_fin h35
        refine x_iast F hS hP rfl rfl i35 dX8_lookAt_35 (fun H locs hP hS => ?_)
        obtain ⟨σ35, e35⟩ : ∃ t : fS, t = sI σh12 77 (x12_2).toNatClampNeg (σh12.1 63 ((((4 : Int32) * a1) + x12_2)).toNatClampNeg) := ⟨_, rfl⟩
        rw [← e35] at hP
        have hG := f_lt hG e35
        refine lv_iinc (v := (x12_2 + (1 : Int32))) (lv' := [(2, .int (x12_2 + (1 : Int32))), (0, .ref (E.2.1 61)), (1, .int a1)]) hx hb dX8_lookAt_36 hl (k := 2) rfl (by rfl) (by decide) rfl (fun ls hl => ?_)
        refine lv_goto (tgt := 12) hx hb dX8_lookAt_39 (by decide) ?_
        exact ih12 (x12_2 + (1 : Int32)) σ35 _ _ _ hP hS (lv_sub hl [1, 2, 0] rfl) hG
  exact L12 N (0 : Int32) σ7 _ _ _ hP hS (lv_sub hl [1, 2, 0] rfl) hT12
theorem dX8_layForm_0 : decode cX8_layForm 0 = .ok (.aload_n 0, 1) := by decide +kernel
theorem dX8_layForm_1 : decode cX8_layForm 1 = .ok (.getfield 16, 3) := by decide +kernel
theorem dX8_layForm_4 : decode cX8_layForm 4 = .ok (.iload_n 1, 1) := by decide +kernel
theorem dX8_layForm_5 : decode cX8_layForm 5 = .ok (.baload, 1) := by decide +kernel
theorem dX8_layForm_6 : decode cX8_layForm 6 = .ok (.ifCond .eq 4, 3) := by decide +kernel
theorem dX8_layForm_9 : decode cX8_layForm 9 = .ok (.return_, 1) := by decide +kernel
theorem dX8_layForm_10 : decode cX8_layForm 10 = .ok (.aload_n 0, 1) := by decide +kernel
theorem dX8_layForm_11 : decode cX8_layForm 11 = .ok (.getfield 16, 3) := by decide +kernel
theorem dX8_layForm_14 : decode cX8_layForm 14 = .ok (.iload_n 1, 1) := by decide +kernel
theorem dX8_layForm_15 : decode cX8_layForm 15 = .ok (.iconst 1, 1) := by decide +kernel
theorem dX8_layForm_16 : decode cX8_layForm 16 = .ok (.bastore, 1) := by decide +kernel
theorem dX8_layForm_17 : decode cX8_layForm 17 = .ok (.iconst 0, 1) := by decide +kernel
theorem dX8_layForm_18 : decode cX8_layForm 18 = .ok (.istore_n 2, 1) := by decide +kernel
theorem dX8_layForm_19 : decode cX8_layForm 19 = .ok (.iconst 0, 1) := by decide +kernel
theorem dX8_layForm_20 : decode cX8_layForm 20 = .ok (.istore_n 3, 1) := by decide +kernel
theorem dX8_layForm_21 : decode cX8_layForm 21 = .ok (.iload_n 3, 1) := by decide +kernel
theorem dX8_layForm_22 : decode cX8_layForm 22 = .ok (.aload_n 0, 1) := by decide +kernel
theorem dX8_layForm_23 : decode cX8_layForm 23 = .ok (.getfield 7, 3) := by decide +kernel
theorem dX8_layForm_26 : decode cX8_layForm 26 = .ok (.iload_n 1, 1) := by decide +kernel
theorem dX8_layForm_27 : decode cX8_layForm 27 = .ok (.iaload, 1) := by decide +kernel
theorem dX8_layForm_28 : decode cX8_layForm 28 = .ok (.if_icmp .ge 59, 3) := by decide +kernel
theorem dX8_layForm_31 : decode cX8_layForm 31 = .ok (.iload_n 3, 1) := by decide +kernel
theorem dX8_layForm_32 : decode cX8_layForm 32 = .ok (.iconst 1, 1) := by decide +kernel
theorem dX8_layForm_33 : decode cX8_layForm 33 = .ok (.iadd, 1) := by decide +kernel
theorem dX8_layForm_34 : decode cX8_layForm 34 = .ok (.istore 4, 2) := by decide +kernel
theorem dX8_layForm_36 : decode cX8_layForm 36 = .ok (.iload 4, 2) := by decide +kernel
theorem dX8_layForm_38 : decode cX8_layForm 38 = .ok (.aload_n 0, 1) := by decide +kernel
theorem dX8_layForm_39 : decode cX8_layForm 39 = .ok (.getfield 7, 3) := by decide +kernel
theorem dX8_layForm_42 : decode cX8_layForm 42 = .ok (.iload_n 1, 1) := by decide +kernel
theorem dX8_layForm_43 : decode cX8_layForm 43 = .ok (.iaload, 1) := by decide +kernel
theorem dX8_layForm_44 : decode cX8_layForm 44 = .ok (.if_icmp .ge 37, 3) := by decide +kernel
theorem dX8_layForm_47 : decode cX8_layForm 47 = .ok (.iload_n 2, 1) := by decide +kernel
theorem dX8_layForm_48 : decode cX8_layForm 48 = .ok (.aload_n 0, 1) := by decide +kernel
theorem dX8_layForm_49 : decode cX8_layForm 49 = .ok (.aload_n 0, 1) := by decide +kernel
theorem dX8_layForm_50 : decode cX8_layForm 50 = .ok (.getfield 13, 3) := by decide +kernel
theorem dX8_layForm_53 : decode cX8_layForm 53 = .ok (.iconst 4, 1) := by decide +kernel
theorem dX8_layForm_54 : decode cX8_layForm 54 = .ok (.iload_n 1, 1) := by decide +kernel
theorem dX8_layForm_55 : decode cX8_layForm 55 = .ok (.imul, 1) := by decide +kernel
theorem dX8_layForm_56 : decode cX8_layForm 56 = .ok (.iload_n 3, 1) := by decide +kernel
theorem dX8_layForm_57 : decode cX8_layForm 57 = .ok (.iadd, 1) := by decide +kernel
theorem dX8_layForm_58 : decode cX8_layForm 58 = .ok (.iaload, 1) := by decide +kernel
theorem dX8_layForm_59 : decode cX8_layForm 59 = .ok (.aload_n 0, 1) := by decide +kernel
theorem dX8_layForm_60 : decode cX8_layForm 60 = .ok (.getfield 13, 3) := by decide +kernel
theorem dX8_layForm_63 : decode cX8_layForm 63 = .ok (.iconst 4, 1) := by decide +kernel
theorem dX8_layForm_64 : decode cX8_layForm 64 = .ok (.iload_n 1, 1) := by decide +kernel
theorem dX8_layForm_65 : decode cX8_layForm 65 = .ok (.imul, 1) := by decide +kernel
theorem dX8_layForm_66 : decode cX8_layForm 66 = .ok (.iload 4, 2) := by decide +kernel
theorem dX8_layForm_68 : decode cX8_layForm 68 = .ok (.iadd, 1) := by decide +kernel
theorem dX8_layForm_69 : decode cX8_layForm 69 = .ok (.iaload, 1) := by decide +kernel
theorem dX8_layForm_70 : decode cX8_layForm 70 = .ok (.invokevirtual 186, 3) := by decide +kernel
theorem dX8_layForm_73 : decode cX8_layForm 73 = .ok (.ixor, 1) := by decide +kernel
theorem dX8_layForm_74 : decode cX8_layForm 74 = .ok (.istore_n 2, 1) := by decide +kernel
theorem dX8_layForm_75 : decode cX8_layForm 75 = .ok (.iinc 4 1, 3) := by decide +kernel
theorem dX8_layForm_78 : decode cX8_layForm 78 = .ok (.goto (-42), 3) := by decide +kernel
theorem dX8_layForm_81 : decode cX8_layForm 81 = .ok (.iinc 3 1, 3) := by decide +kernel
theorem dX8_layForm_84 : decode cX8_layForm 84 = .ok (.goto (-63), 3) := by decide +kernel
theorem dX8_layForm_87 : decode cX8_layForm 87 = .ok (.aload_n 0, 1) := by decide +kernel
theorem dX8_layForm_88 : decode cX8_layForm 88 = .ok (.getfield 20, 3) := by decide +kernel
theorem dX8_layForm_91 : decode cX8_layForm 91 = .ok (.iload_n 1, 1) := by decide +kernel
theorem dX8_layForm_92 : decode cX8_layForm 92 = .ok (.iload_n 2, 1) := by decide +kernel
theorem dX8_layForm_93 : decode cX8_layForm 93 = .ok (.iastore, 1) := by decide +kernel
theorem dX8_layForm_94 : decode cX8_layForm 94 = .ok (.aload_n 0, 1) := by decide +kernel
theorem dX8_layForm_95 : decode cX8_layForm 95 = .ok (.iload_n 1, 1) := by decide +kernel
theorem dX8_layForm_96 : decode cX8_layForm 96 = .ok (.invokevirtual 190, 3) := by decide +kernel
theorem dX8_layForm_99 : decode cX8_layForm 99 = .ok (.aload_n 0, 1) := by decide +kernel
theorem dX8_layForm_100 : decode cX8_layForm 100 = .ok (.getfield 23, 3) := by decide +kernel
theorem dX8_layForm_103 : decode cX8_layForm 103 = .ok (.iload_n 1, 1) := by decide +kernel
theorem dX8_layForm_104 : decode cX8_layForm 104 = .ok (.aload_n 0, 1) := by decide +kernel
theorem dX8_layForm_105 : decode cX8_layForm 105 = .ok (.invokevirtual 193, 3) := by decide +kernel
theorem dX8_layForm_108 : decode cX8_layForm 108 = .ok (.iastore, 1) := by decide +kernel
theorem dX8_layForm_109 : decode cX8_layForm 109 = .ok (.return_, 1) := by decide +kernel
set_option maxHeartbeats 4000000 in
set_option maxRecDepth 100000 in
theorem c_X8_layForm (l : Launch) (E : fEv) (N : Nat) (a1 : Int32) (σ : fS) (τ : fS) (hG : g_X8_layForm N a1 σ = some τ) : fM l E yX8_layForm (.code yX8_layForm cX8_layForm 5 none) rm_X8_layForm [.ref (E.2.1 61), .int a1] σ τ none := by
  refine f_openV (by decide) (Nat.le_of_ble_eq_true rfl) ?_
  intro p e s m below meth c args Q F hR hP ls hl
  have hx := F.1.1
  have hb := F.1.2.1
  have hown := F.1.2.2.2.1
  have hts := F.1.2.2.2.2
  have hS : va_S (f_A E) s.heap s.heap [] := va_S.rf
  skip
  have hl : lv_has ls 5 [(0, .ref (E.2.1 61)), (1, .int a1)] := hl
  unfold g_X8_layForm at hG
  refine lv_aload_n hx hb dX8_layForm_0 rfl (lv_at hl 0 rfl) ?_
  refine gf_X8_16 F hP dX8_layForm_1 ?_
  refine lv_iload_n hx hb dX8_layForm_4 rfl (lv_at hl 1 rfl) ?_
  obtain ⟨h5, hG⟩ := f_gd hG
  have i5 := f_fin h5
  refine x_zald F hP rfl rfl i5 dX8_layForm_5 ?_
  refine lv_if_eq (tgt := 10) hx hb dX8_layForm_6 (by decide) (fun c6 => ?_) (fun c6 => ?_)
  · have hG := f_ip c6 hG
    refine lv_aload_n hx hb dX8_layForm_10 rfl (lv_at hl 0 rfl) ?_
    refine gf_X8_16 F hP dX8_layForm_11 ?_
    refine lv_iload_n hx hb dX8_layForm_14 rfl (lv_at hl 1 rfl) ?_
    refine lv_iconst (v := 1) hx hb dX8_layForm_15 (by decide) ?_
    obtain ⟨h16, hG⟩ := f_gd hG
    have i16 := f_fin h16
    refine x_zast F hS hP rfl rfl (x_zB _ (Or.inr rfl)) i16 dX8_layForm_16 (fun H locs hP hS => ?_)
    obtain ⟨σ16, e16⟩ : ∃ t : fS, t = sI σ 64 (a1).toNatClampNeg (1 : Int32) := ⟨_, rfl⟩
    rw [← e16] at hP
    have hG := f_lt hG e16
    refine lv_iconst (v := 0) hx hb dX8_layForm_17 (by decide) ?_
    refine lv_istore_n (lv' := [(2, .int (0 : Int32)), (0, .ref (E.2.1 61)), (1, .int a1)]) hx hb dX8_layForm_18 rfl hl (by decide) rfl (fun ls hl => ?_)
    refine lv_iconst (v := 0) hx hb dX8_layForm_19 (by decide) ?_
    refine lv_istore_n (lv' := [(3, .int (0 : Int32)), (2, .int (0 : Int32)), (0, .ref (E.2.1 61)), (1, .int a1)]) hx hb dX8_layForm_20 rfl hl (by decide) rfl (fun ls hl => ?_)
    obtain ⟨o21, σl21, hT21, hG⟩ := f_bd hG
    have T21 : ∀ (H : Heap) (locs : List Loc) (ls : Array Slot), f_h E σl21 H → va_S (f_A E) s.heap H locs → lv_has ls 5 [(0, .ref (E.2.1 61)), (1, .int a1), (2, .int o21)] → W p l e rm_X8_layForm s m args below meth c H locs 0 0 Q (F0 m 87 ls []) := by
      intro H locs ls hP hS hl
      refine lv_aload_n hx hb dX8_layForm_87 rfl (lv_at hl 0 rfl) ?_
      refine gf_X8_20 F hP dX8_layForm_88 ?_
      refine lv_iload_n hx hb dX8_layForm_91 rfl (lv_at hl 1 rfl) ?_
      refine lv_iload_n hx hb dX8_layForm_92 rfl (lv_at hl 2 rfl) ?_
      obtain ⟨h93, hG⟩ := f_gd hG
      have i93 := f_fin h93
      refine x_iast F hS hP rfl rfl i93 dX8_layForm_93 (fun H locs hP hS => ?_)
      obtain ⟨σ93, e93⟩ : ∃ t : fS, t = sI σl21 65 (a1).toNatClampNeg o21 := ⟨_, rfl⟩
      rw [← e93] at hP
      have hG := f_lt hG e93
      refine lv_aload_n hx hb dX8_layForm_94 rfl (lv_at hl 0 rfl) ?_
      refine lv_iload_n hx hb dX8_layForm_95 rfl (lv_at hl 1 rfl) ?_
      obtain ⟨σ96, hC96, hG⟩ := f_bv hG
      refine iv_X8_190 F hS hP (c_X8_lookAt l E N a1 σ93 _ hC96) ⟨Nat.le_of_ble_eq_true rfl, Nat.le_of_ble_eq_true rfl⟩ hl.1 (Nat.le_of_ble_eq_true rfl) dX8_layForm_96 ⟨Nat.zero_le _, Nat.zero_le _⟩ (fun H locs hP hS => ?_)
      refine lv_aload_n hx hb dX8_layForm_99 rfl (lv_at hl 0 rfl) ?_
      refine gf_X8_23 F hP dX8_layForm_100 ?_
      refine lv_iload_n hx hb dX8_layForm_103 rfl (lv_at hl 1 rfl) ?_
      refine lv_aload_n hx hb dX8_layForm_104 rfl (lv_at hl 0 rfl) ?_
      obtain ⟨r105, σ105, hC105, hG⟩ := f_bd hG
      refine iv_X8_193 F hS hP (c_X8_barsNow l E N σ96 _ _ hC105) ⟨Nat.le_of_ble_eq_true rfl, Nat.le_of_ble_eq_true rfl⟩ hl.1 (Nat.le_of_ble_eq_true rfl) dX8_layForm_105 ⟨Nat.zero_le _, Nat.zero_le _⟩ (fun H locs hP hS => ?_)
      obtain ⟨h108, hG⟩ := f_gd hG
      have i108 := f_fin h108
      refine x_iast F hS hP rfl rfl i108 dX8_layForm_108 (fun H locs hP hS => ?_)
      obtain ⟨σ108, e108⟩ : ∃ t : fS, t = sI σ105 66 (a1).toNatClampNeg r105 := ⟨_, rfl⟩
      rw [← e108] at hP
      have hG := f_lt hG e108
      exact x_rv hR hS hP hG dX8_layForm_109
    have L21 : ∀ (n21 : Nat) (x21_2 : Int32) (x21_3 : Int32) (σh21 : fS) (H : Heap) (locs : List Loc) (ls : Array Slot), f_h E σh21 H → va_S (f_A E) s.heap H locs → lv_has ls 5 [(0, .ref (E.2.1 61)), (1, .int a1), (2, .int x21_2), (3, .int x21_3)] → lp_X8_layForm_21 N a1 n21 x21_2 x21_3 σh21 = some (o21, σl21) → W p l e rm_X8_layForm s m args below meth c H locs 0 0 Q (F0 m 21 ls []) := by
      intro n21
      induction n21 with
      | zero =>
        intro x21_2 x21_3 σh21 H locs ls hP hS hl hG
        rw [lp_X8_layForm_21] at hG
        cases hG
      | succ n21 ih21 =>
        intro x21_2 x21_3 σh21 H locs ls hP hS hl hG
        rw [lp_X8_layForm_21] at hG
        refine lv_iload_n hx hb dX8_layForm_21 rfl (lv_at hl 3 rfl) ?_
        refine lv_aload_n hx hb dX8_layForm_22 rfl (lv_at hl 0 rfl) ?_
        refine gf_X8_7 F hP dX8_layForm_23 ?_
        refine lv_iload_n hx hb dX8_layForm_26 rfl (lv_at hl 1 rfl) ?_
        obtain ⟨h27, hG⟩ := f_gd hG
        have i27 := f_fin h27
        refine x_iald F hP rfl rfl i27 dX8_layForm_27 ?_
        refine lv_icmp_ge (tgt := 87) hx hb dX8_layForm_28 (by decide) (fun c28 => ?_) (fun c28 => ?_)
        · have hG := f_ip c28 hG
          cases hG
          exact T21 _ _ _ hP hS (lv_sub hl [0, 1, 2] rfl)
        · have hG := f_in c28 hG
          refine lv_iload_n hx hb dX8_layForm_31 rfl (lv_at hl 3 rfl) ?_
          refine lv_iconst (v := 1) hx hb dX8_layForm_32 (by decide) ?_
          refine lv_iadd hx hb dX8_layForm_33 ?_
          refine lv_topi (fun v34 e34 => ?_)
          have hG := f_lt hG e34
          refine lv_istore (lv' := [(4, .int v34), (0, .ref (E.2.1 61)), (1, .int a1), (2, .int x21_2), (3, .int x21_3)]) hx hb dX8_layForm_34 hl (by decide) rfl (fun ls hl => ?_)
          obtain ⟨o36, σl36, hT36, hG⟩ := f_bd hG
          have T36 : ∀ (H : Heap) (locs : List Loc) (ls : Array Slot), f_h E σl36 H → va_S (f_A E) s.heap H locs → lv_has ls 5 [(0, .ref (E.2.1 61)), (1, .int a1), (2, .int o36), (3, .int x21_3)] → W p l e rm_X8_layForm s m args below meth c H locs 0 0 Q (F0 m 81 ls []) := by
            intro H locs ls hP hS hl
            refine lv_iinc (v := (x21_3 + (1 : Int32))) (lv' := [(3, .int (x21_3 + (1 : Int32))), (0, .ref (E.2.1 61)), (1, .int a1), (2, .int o36)]) hx hb dX8_layForm_81 hl (k := 3) rfl (by rfl) (by decide) rfl (fun ls hl => ?_)
            refine lv_goto (tgt := 21) hx hb dX8_layForm_84 (by decide) ?_
            exact ih21 o36 (x21_3 + (1 : Int32)) σl36 _ _ _ hP hS (lv_sub hl [1, 2, 3, 0] rfl) hG
          have L36 : ∀ (n36 : Nat) (x36_2 : Int32) (x36_4 : Int32) (σh36 : fS) (H : Heap) (locs : List Loc) (ls : Array Slot), f_h E σh36 H → va_S (f_A E) s.heap H locs → lv_has ls 5 [(0, .ref (E.2.1 61)), (1, .int a1), (2, .int x36_2), (3, .int x21_3), (4, .int x36_4)] → lp_X8_layForm_36 N a1 x21_3 n36 x36_2 x36_4 σh36 = some (o36, σl36) → W p l e rm_X8_layForm s m args below meth c H locs 0 0 Q (F0 m 36 ls []) := by
            intro n36
            induction n36 with
            | zero =>
              intro x36_2 x36_4 σh36 H locs ls hP hS hl hG
              rw [lp_X8_layForm_36] at hG
              cases hG
            | succ n36 ih36 =>
              intro x36_2 x36_4 σh36 H locs ls hP hS hl hG
              rw [lp_X8_layForm_36] at hG
              refine lv_iload hx hb dX8_layForm_36 (lv_at hl 4 rfl) ?_
              refine lv_aload_n hx hb dX8_layForm_38 rfl (lv_at hl 0 rfl) ?_
              refine gf_X8_7 F hP dX8_layForm_39 ?_
              refine lv_iload_n hx hb dX8_layForm_42 rfl (lv_at hl 1 rfl) ?_
              obtain ⟨h43, hG⟩ := f_gd hG
              have i43 := f_fin h43
              refine x_iald F hP rfl rfl i43 dX8_layForm_43 ?_
              refine lv_icmp_ge (tgt := 81) hx hb dX8_layForm_44 (by decide) (fun c44 => ?_) (fun c44 => ?_)
              · have hG := f_ip c44 hG
                cases hG
                exact T36 _ _ _ hP hS (lv_sub hl [0, 1, 2, 3] rfl)
              · have hG := f_in c44 hG
                refine lv_iload_n hx hb dX8_layForm_47 rfl (lv_at hl 2 rfl) ?_
                refine lv_aload_n hx hb dX8_layForm_48 rfl (lv_at hl 0 rfl) ?_
                refine lv_aload_n hx hb dX8_layForm_49 rfl (lv_at hl 0 rfl) ?_
                refine gf_X8_13 F hP dX8_layForm_50 ?_
                refine lv_iconst (v := 4) hx hb dX8_layForm_53 (by decide) ?_
                refine lv_iload_n hx hb dX8_layForm_54 rfl (lv_at hl 1 rfl) ?_
                refine lv_imul hx hb dX8_layForm_55 ?_
                refine lv_iload_n hx hb dX8_layForm_56 rfl (lv_at hl 3 rfl) ?_
                refine lv_iadd hx hb dX8_layForm_57 ?_
                obtain ⟨h58, hG⟩ := f_gd hG
                have i58 := f_fin h58
                refine x_iald F hP rfl rfl i58 dX8_layForm_58 ?_
                refine lv_aload_n hx hb dX8_layForm_59 rfl (lv_at hl 0 rfl) ?_
                refine gf_X8_13 F hP dX8_layForm_60 ?_
                refine lv_iconst (v := 4) hx hb dX8_layForm_63 (by decide) ?_
                refine lv_iload_n hx hb dX8_layForm_64 rfl (lv_at hl 1 rfl) ?_
                refine lv_imul hx hb dX8_layForm_65 ?_
                refine lv_iload hx hb dX8_layForm_66 (lv_at hl 4 rfl) ?_
                refine lv_iadd hx hb dX8_layForm_68 ?_
                obtain ⟨h69, hG⟩ := f_gd hG
                have i69 := f_fin h69
                refine x_iald F hP rfl rfl i69 dX8_layForm_69 ?_
                obtain ⟨r70, σ70, hC70, hG⟩ := f_bd hG
                refine iv_X8_186 F hS hP (c_X8_unlike l E N (σh36.1 63 ((((4 : Int32) * a1) + x21_3)).toNatClampNeg) (σh36.1 63 ((((4 : Int32) * a1) + x36_4)).toNatClampNeg) σh36 _ _ hC70) ⟨Nat.le_of_ble_eq_true rfl, Nat.le_of_ble_eq_true rfl⟩ hl.1 (Nat.le_of_ble_eq_true rfl) dX8_layForm_70 ⟨Nat.zero_le _, Nat.zero_le _⟩ (fun H locs hP hS => ?_)
                refine lv_ixor hx hb dX8_layForm_73 ?_
                refine lv_topi (fun v74 e74 => ?_)
                have hG := f_lt hG e74
                refine lv_istore_n (lv' := [(2, .int v74), (0, .ref (E.2.1 61)), (1, .int a1), (3, .int x21_3), (4, .int x36_4)]) hx hb dX8_layForm_74 rfl hl (by decide) rfl (fun ls hl => ?_)
                refine lv_iinc (v := (x36_4 + (1 : Int32))) (lv' := [(4, .int (x36_4 + (1 : Int32))), (2, .int v74), (0, .ref (E.2.1 61)), (1, .int a1), (3, .int x21_3)]) hx hb dX8_layForm_75 hl (k := 4) rfl (by rfl) (by decide) rfl (fun ls hl => ?_)
                refine lv_goto (tgt := 36) hx hb dX8_layForm_78 (by decide) ?_
                exact ih36 v74 (x36_4 + (1 : Int32)) σ70 _ _ _ hP hS (lv_sub hl [2, 3, 1, 4, 0] rfl) hG
          exact L36 N x21_2 v34 σh21 _ _ _ hP hS (lv_sub hl [1, 2, 3, 4, 0] rfl) hT36
    exact L21 N (0 : Int32) (0 : Int32) σ16 _ _ _ hP hS (lv_sub hl [2, 3, 1, 0] rfl) hT21
  · have hG := f_in c6 hG
    exact x_rv hR hS hP hG dX8_layForm_9
theorem dX8_lookMore_0 : decode cX8_lookMore 0 = .ok (.aload_n 0, 1) := by decide +kernel
theorem dX8_lookMore_1 : decode cX8_lookMore 1 = .ok (.getfield 57, 3) := by decide +kernel
theorem dX8_lookMore_4 : decode cX8_lookMore 4 = .ok (.aload_n 0, 1) := by decide +kernel
theorem dX8_lookMore_5 : decode cX8_lookMore 5 = .ok (.getfield 106, 3) := by decide +kernel
theorem dX8_lookMore_8 : decode cX8_lookMore 8 = .ok (.iload_n 1, 1) := by decide +kernel
theorem dX8_lookMore_9 : decode cX8_lookMore 9 = .ok (.iconst 1, 1) := by decide +kernel
theorem dX8_lookMore_10 : decode cX8_lookMore 10 = .ok (.ixor, 1) := by decide +kernel
theorem dX8_lookMore_11 : decode cX8_lookMore 11 = .ok (.iastore, 1) := by decide +kernel
theorem dX8_lookMore_12 : decode cX8_lookMore 12 = .ok (.aload_n 0, 1) := by decide +kernel
theorem dX8_lookMore_13 : decode cX8_lookMore 13 = .ok (.dup, 1) := by decide +kernel
theorem dX8_lookMore_14 : decode cX8_lookMore 14 = .ok (.getfield 106, 3) := by decide +kernel
theorem dX8_lookMore_17 : decode cX8_lookMore 17 = .ok (.iconst 1, 1) := by decide +kernel
theorem dX8_lookMore_18 : decode cX8_lookMore 18 = .ok (.iadd, 1) := by decide +kernel
theorem dX8_lookMore_19 : decode cX8_lookMore 19 = .ok (.putfield 106, 3) := by decide +kernel
theorem dX8_lookMore_22 : decode cX8_lookMore 22 = .ok (.return_, 1) := by decide +kernel
set_option maxHeartbeats 4000000 in
set_option maxRecDepth 100000 in
theorem c_X8_lookMore (l : Launch) (E : fEv) (N : Nat) (a1 : Int32) (σ : fS) (τ : fS) (hG : g_X8_lookMore N a1 σ = some τ) : fM l E yX8_lookMore (.code yX8_lookMore cX8_lookMore 2 none) rm_X8_lookMore [.ref (E.2.1 61), .int a1] σ τ none := by
  refine f_openV (by decide) (Nat.le_of_ble_eq_true rfl) ?_
  intro p e s m below meth c args Q F hR hP ls hl
  have hx := F.1.1
  have hb := F.1.2.1
  have hown := F.1.2.2.2.1
  have hts := F.1.2.2.2.2
  have hS : va_S (f_A E) s.heap s.heap [] := va_S.rf
  skip
  have hl : lv_has ls 2 [(0, .ref (E.2.1 61)), (1, .int a1)] := hl
  unfold g_X8_lookMore at hG
  refine lv_aload_n hx hb dX8_lookMore_0 rfl (lv_at hl 0 rfl) ?_
  refine gf_X8_57 F hP dX8_lookMore_1 ?_
  refine lv_aload_n hx hb dX8_lookMore_4 rfl (lv_at hl 0 rfl) ?_
  refine gf_X8_106 F hP dX8_lookMore_5 ?_
  refine lv_iload_n hx hb dX8_lookMore_8 rfl (lv_at hl 1 rfl) ?_
  refine lv_iconst (v := 1) hx hb dX8_lookMore_9 (by decide) ?_
  refine lv_ixor hx hb dX8_lookMore_10 ?_
  obtain ⟨h11, hG⟩ := f_gd hG
  have i11 := f_fin h11
  refine x_iast F hS hP rfl rfl i11 dX8_lookMore_11 (fun H locs hP hS => ?_)
  obtain ⟨σ11, e11⟩ : ∃ t : fS, t = sI σ 77 ((σ.1 61 21)).toNatClampNeg (a1 ^^^ (1 : Int32)) := ⟨_, rfl⟩
  rw [← e11] at hP
  have hG := f_lt hG e11
  refine lv_aload_n hx hb dX8_lookMore_12 rfl (lv_at hl 0 rfl) ?_
  refine lv_dup hx hb dX8_lookMore_13 rfl ?_
  refine gf_X8_106 F hP dX8_lookMore_14 ?_
  refine lv_iconst (v := 1) hx hb dX8_lookMore_17 (by decide) ?_
  refine lv_iadd hx hb dX8_lookMore_18 ?_
  refine pf_X8_106 F hS hP dX8_lookMore_19 (fun H locs hP hS => ?_)
  obtain ⟨σ19, e19⟩ : ∃ t : fS, t = sI σ11 61 21 ((σ11.1 61 21) + (1 : Int32)) := ⟨_, rfl⟩
  rw [← e19] at hP
  have hG := f_lt hG e19
  exact x_rv hR hS hP hG dX8_lookMore_22
theorem dX8_hasseOf_0 : decode cX8_hasseOf 0 = .ok (.aload_n 0, 1) := by decide +kernel
theorem dX8_hasseOf_1 : decode cX8_hasseOf 1 = .ok (.iload_n 1, 1) := by decide +kernel
theorem dX8_hasseOf_2 : decode cX8_hasseOf 2 = .ok (.invokevirtual 196, 3) := by decide +kernel
theorem dX8_hasseOf_5 : decode cX8_hasseOf 5 = .ok (.aload_n 0, 1) := by decide +kernel
theorem dX8_hasseOf_6 : decode cX8_hasseOf 6 = .ok (.getfield 20, 3) := by decide +kernel
theorem dX8_hasseOf_9 : decode cX8_hasseOf 9 = .ok (.iload_n 1, 1) := by decide +kernel
theorem dX8_hasseOf_10 : decode cX8_hasseOf 10 = .ok (.iaload, 1) := by decide +kernel
theorem dX8_hasseOf_11 : decode cX8_hasseOf 11 = .ok (.ireturn, 1) := by decide +kernel
set_option maxHeartbeats 4000000 in
set_option maxRecDepth 100000 in
theorem c_X8_hasseOf (l : Launch) (E : fEv) (N : Nat) (a1 : Int32) (σ : fS) (r : Int32) (τ : fS) (hG : g_X8_hasseOf N a1 σ = some (r, τ)) : fM l E yX8_hasseOf (.code yX8_hasseOf cX8_hasseOf 2 (some .int)) rm_X8_hasseOf [.ref (E.2.1 61), .int a1] σ τ (some (.int r)) := by
  refine f_openI (by decide) (Nat.le_of_ble_eq_true rfl) ?_
  intro p e s m below meth c args Q F hR hP ls hl
  have hx := F.1.1
  have hb := F.1.2.1
  have hown := F.1.2.2.2.1
  have hts := F.1.2.2.2.2
  have hS : va_S (f_A E) s.heap s.heap [] := va_S.rf
  skip
  have hl : lv_has ls 2 [(0, .ref (E.2.1 61)), (1, .int a1)] := hl
  unfold g_X8_hasseOf at hG
  refine lv_aload_n hx hb dX8_hasseOf_0 rfl (lv_at hl 0 rfl) ?_
  refine lv_iload_n hx hb dX8_hasseOf_1 rfl (lv_at hl 1 rfl) ?_
  obtain ⟨σ2, hC2, hG⟩ := f_bv hG
  refine iv_X8_196 F hS hP (c_X8_layForm l E N a1 σ _ hC2) ⟨Nat.le_of_ble_eq_true rfl, Nat.le_of_ble_eq_true rfl⟩ hl.1 (Nat.le_of_ble_eq_true rfl) dX8_hasseOf_2 ⟨Nat.zero_le _, Nat.zero_le _⟩ (fun H locs hP hS => ?_)
  refine lv_aload_n hx hb dX8_hasseOf_5 rfl (lv_at hl 0 rfl) ?_
  refine gf_X8_20 F hP dX8_hasseOf_6 ?_
  refine lv_iload_n hx hb dX8_hasseOf_9 rfl (lv_at hl 1 rfl) ?_
  obtain ⟨h10, hG⟩ := f_gd hG
  have i10 := f_fin h10
  refine x_iald F hP rfl rfl i10 dX8_hasseOf_10 ?_
  exact x_ri hR hS hP hG dX8_hasseOf_11
theorem dX8_barsOf_0 : decode cX8_barsOf 0 = .ok (.aload_n 0, 1) := by decide +kernel
theorem dX8_barsOf_1 : decode cX8_barsOf 1 = .ok (.iload_n 1, 1) := by decide +kernel
theorem dX8_barsOf_2 : decode cX8_barsOf 2 = .ok (.invokevirtual 196, 3) := by decide +kernel
theorem dX8_barsOf_5 : decode cX8_barsOf 5 = .ok (.aload_n 0, 1) := by decide +kernel
theorem dX8_barsOf_6 : decode cX8_barsOf 6 = .ok (.getfield 23, 3) := by decide +kernel
theorem dX8_barsOf_9 : decode cX8_barsOf 9 = .ok (.iload_n 1, 1) := by decide +kernel
theorem dX8_barsOf_10 : decode cX8_barsOf 10 = .ok (.iaload, 1) := by decide +kernel
theorem dX8_barsOf_11 : decode cX8_barsOf 11 = .ok (.ireturn, 1) := by decide +kernel
set_option maxHeartbeats 4000000 in
set_option maxRecDepth 100000 in
theorem c_X8_barsOf (l : Launch) (E : fEv) (N : Nat) (a1 : Int32) (σ : fS) (r : Int32) (τ : fS) (hG : g_X8_barsOf N a1 σ = some (r, τ)) : fM l E yX8_barsOf (.code yX8_barsOf cX8_barsOf 2 (some .int)) rm_X8_barsOf [.ref (E.2.1 61), .int a1] σ τ (some (.int r)) := by
  refine f_openI (by decide) (Nat.le_of_ble_eq_true rfl) ?_
  intro p e s m below meth c args Q F hR hP ls hl
  have hx := F.1.1
  have hb := F.1.2.1
  have hown := F.1.2.2.2.1
  have hts := F.1.2.2.2.2
  have hS : va_S (f_A E) s.heap s.heap [] := va_S.rf
  skip
  have hl : lv_has ls 2 [(0, .ref (E.2.1 61)), (1, .int a1)] := hl
  unfold g_X8_barsOf at hG
  refine lv_aload_n hx hb dX8_barsOf_0 rfl (lv_at hl 0 rfl) ?_
  refine lv_iload_n hx hb dX8_barsOf_1 rfl (lv_at hl 1 rfl) ?_
  obtain ⟨σ2, hC2, hG⟩ := f_bv hG
  refine iv_X8_196 F hS hP (c_X8_layForm l E N a1 σ _ hC2) ⟨Nat.le_of_ble_eq_true rfl, Nat.le_of_ble_eq_true rfl⟩ hl.1 (Nat.le_of_ble_eq_true rfl) dX8_barsOf_2 ⟨Nat.zero_le _, Nat.zero_le _⟩ (fun H locs hP hS => ?_)
  refine lv_aload_n hx hb dX8_barsOf_5 rfl (lv_at hl 0 rfl) ?_
  refine gf_X8_23 F hP dX8_barsOf_6 ?_
  refine lv_iload_n hx hb dX8_barsOf_9 rfl (lv_at hl 1 rfl) ?_
  obtain ⟨h10, hG⟩ := f_gd hG
  have i10 := f_fin h10
  refine x_iald F hP rfl rfl i10 dX8_barsOf_10 ?_
  exact x_ri hR hS hP hG dX8_barsOf_11
theorem dX8_above_0 : decode cX8_above 0 = .ok (.iconst 0, 1) := by decide +kernel
theorem dX8_above_1 : decode cX8_above 1 = .ok (.istore_n 2, 1) := by decide +kernel
theorem dX8_above_2 : decode cX8_above 2 = .ok (.iconst 0, 1) := by decide +kernel
theorem dX8_above_3 : decode cX8_above 3 = .ok (.istore_n 3, 1) := by decide +kernel
theorem dX8_above_4 : decode cX8_above 4 = .ok (.iload_n 3, 1) := by decide +kernel
theorem dX8_above_5 : decode cX8_above 5 = .ok (.aload_n 0, 1) := by decide +kernel
theorem dX8_above_6 : decode cX8_above 6 = .ok (.getfield 7, 3) := by decide +kernel
theorem dX8_above_9 : decode cX8_above 9 = .ok (.iload_n 1, 1) := by decide +kernel
theorem dX8_above_10 : decode cX8_above 10 = .ok (.iaload, 1) := by decide +kernel
theorem dX8_above_11 : decode cX8_above 11 = .ok (.if_icmp .ge 34, 3) := by decide +kernel
theorem dX8_above_14 : decode cX8_above 14 = .ok (.iload_n 2, 1) := by decide +kernel
theorem dX8_above_15 : decode cX8_above 15 = .ok (.aload_n 0, 1) := by decide +kernel
theorem dX8_above_16 : decode cX8_above 16 = .ok (.getfield 13, 3) := by decide +kernel
theorem dX8_above_19 : decode cX8_above 19 = .ok (.iconst 4, 1) := by decide +kernel
theorem dX8_above_20 : decode cX8_above 20 = .ok (.iload_n 1, 1) := by decide +kernel
theorem dX8_above_21 : decode cX8_above 21 = .ok (.imul, 1) := by decide +kernel
theorem dX8_above_22 : decode cX8_above 22 = .ok (.iload_n 3, 1) := by decide +kernel
theorem dX8_above_23 : decode cX8_above 23 = .ok (.iadd, 1) := by decide +kernel
theorem dX8_above_24 : decode cX8_above 24 = .ok (.iaload, 1) := by decide +kernel
theorem dX8_above_25 : decode cX8_above 25 = .ok (.iconst 0, 1) := by decide +kernel
theorem dX8_above_26 : decode cX8_above 26 = .ok (.invokestatic 85, 3) := by decide +kernel
theorem dX8_above_29 : decode cX8_above 29 = .ok (.ifCond .eq 7, 3) := by decide +kernel
theorem dX8_above_32 : decode cX8_above 32 = .ok (.iconst 0, 1) := by decide +kernel
theorem dX8_above_33 : decode cX8_above 33 = .ok (.goto 4, 3) := by decide +kernel
theorem dX8_above_36 : decode cX8_above 36 = .ok (.iconst 1, 1) := by decide +kernel
theorem dX8_above_37 : decode cX8_above 37 = .ok (.iadd, 1) := by decide +kernel
theorem dX8_above_38 : decode cX8_above 38 = .ok (.istore_n 2, 1) := by decide +kernel
theorem dX8_above_39 : decode cX8_above 39 = .ok (.iinc 3 1, 3) := by decide +kernel
theorem dX8_above_42 : decode cX8_above 42 = .ok (.goto (-38), 3) := by decide +kernel
theorem dX8_above_45 : decode cX8_above 45 = .ok (.iload_n 2, 1) := by decide +kernel
theorem dX8_above_46 : decode cX8_above 46 = .ok (.ireturn, 1) := by decide +kernel
set_option maxHeartbeats 4000000 in
set_option maxRecDepth 100000 in
theorem c_X8_above (l : Launch) (E : fEv) (N : Nat) (a1 : Int32) (σ : fS) (r : Int32) (τ : fS) (hG : g_X8_above N a1 σ = some (r, τ)) : fM l E yX8_above (.code yX8_above cX8_above 4 (some .int)) rm_X8_above [.ref (E.2.1 61), .int a1] σ τ (some (.int r)) := by
  refine f_openI (by decide) (Nat.le_of_ble_eq_true rfl) ?_
  intro p e s m below meth c args Q F hR hP ls hl
  have hx := F.1.1
  have hb := F.1.2.1
  have hown := F.1.2.2.2.1
  have hts := F.1.2.2.2.2
  have hS : va_S (f_A E) s.heap s.heap [] := va_S.rf
  skip
  have hl : lv_has ls 4 [(0, .ref (E.2.1 61)), (1, .int a1)] := hl
  unfold g_X8_above at hG
  refine lv_iconst (v := 0) hx hb dX8_above_0 (by decide) ?_
  refine lv_istore_n (lv' := [(2, .int (0 : Int32)), (0, .ref (E.2.1 61)), (1, .int a1)]) hx hb dX8_above_1 rfl hl (by decide) rfl (fun ls hl => ?_)
  refine lv_iconst (v := 0) hx hb dX8_above_2 (by decide) ?_
  refine lv_istore_n (lv' := [(3, .int (0 : Int32)), (2, .int (0 : Int32)), (0, .ref (E.2.1 61)), (1, .int a1)]) hx hb dX8_above_3 rfl hl (by decide) rfl (fun ls hl => ?_)
  obtain ⟨o4, σl4, hT4, hG⟩ := f_bd hG
  have T4 : ∀ (H : Heap) (locs : List Loc) (ls : Array Slot), f_h E σl4 H → va_S (f_A E) s.heap H locs → lv_has ls 4 [(2, .int o4)] → W p l e rm_X8_above s m args below meth c H locs 0 0 Q (F0 m 45 ls []) := by
    intro H locs ls hP hS hl
    refine lv_iload_n hx hb dX8_above_45 rfl (lv_at hl 0 rfl) ?_
    exact x_ri hR hS hP hG dX8_above_46
  have L4 : ∀ (n4 : Nat) (x4_2 : Int32) (x4_3 : Int32) (σh4 : fS) (H : Heap) (locs : List Loc) (ls : Array Slot), f_h E σh4 H → va_S (f_A E) s.heap H locs → lv_has ls 4 [(0, .ref (E.2.1 61)), (1, .int a1), (2, .int x4_2), (3, .int x4_3)] → lp_X8_above_4 N a1 n4 x4_2 x4_3 σh4 = some (o4, σl4) → W p l e rm_X8_above s m args below meth c H locs 0 0 Q (F0 m 4 ls []) := by
    intro n4
    induction n4 with
    | zero =>
      intro x4_2 x4_3 σh4 H locs ls hP hS hl hG
      rw [lp_X8_above_4] at hG
      cases hG
    | succ n4 ih4 =>
      intro x4_2 x4_3 σh4 H locs ls hP hS hl hG
      rw [lp_X8_above_4] at hG
      refine lv_iload_n hx hb dX8_above_4 rfl (lv_at hl 3 rfl) ?_
      refine lv_aload_n hx hb dX8_above_5 rfl (lv_at hl 0 rfl) ?_
      refine gf_X8_7 F hP dX8_above_6 ?_
      refine lv_iload_n hx hb dX8_above_9 rfl (lv_at hl 1 rfl) ?_
      obtain ⟨h10, hG⟩ := f_gd hG
      have i10 := f_fin h10
      refine x_iald F hP rfl rfl i10 dX8_above_10 ?_
      refine lv_icmp_ge (tgt := 45) hx hb dX8_above_11 (by decide) (fun c11 => ?_) (fun c11 => ?_)
      · have hG := f_ip c11 hG
        cases hG
        exact T4 _ _ _ hP hS (lv_sub hl [2] rfl)
      · have hG := f_in c11 hG
        refine lv_iload_n hx hb dX8_above_14 rfl (lv_at hl 2 rfl) ?_
        refine lv_aload_n hx hb dX8_above_15 rfl (lv_at hl 0 rfl) ?_
        refine gf_X8_13 F hP dX8_above_16 ?_
        refine lv_iconst (v := 4) hx hb dX8_above_19 (by decide) ?_
        refine lv_iload_n hx hb dX8_above_20 rfl (lv_at hl 1 rfl) ?_
        refine lv_imul hx hb dX8_above_21 ?_
        refine lv_iload_n hx hb dX8_above_22 rfl (lv_at hl 3 rfl) ?_
        refine lv_iadd hx hb dX8_above_23 ?_
        obtain ⟨h24, hG⟩ := f_gd hG
        have i24 := f_fin h24
        refine x_iald F hP rfl rfl i24 dX8_above_24 ?_
        refine lv_iconst (v := 0) hx hb dX8_above_25 (by decide) ?_
        obtain ⟨r26, σ26, hC26, hG⟩ := f_bd hG
        refine iv_X8_85 F hS hP (c_X8_isIn l E N (σh4.1 63 ((((4 : Int32) * a1) + x4_3)).toNatClampNeg) (0 : Int32) σh4 _ _ hC26) ⟨Nat.le_of_ble_eq_true rfl, Nat.le_of_ble_eq_true rfl⟩ hl.1 (Nat.le_of_ble_eq_true rfl) dX8_above_26 ⟨Nat.zero_le _, Nat.zero_le _⟩ (fun H locs hP hS => ?_)
        refine lv_if_eq (tgt := 36) hx hb dX8_above_29 (by decide) (fun c29 => ?_) (fun c29 => ?_)
        · have hG := f_ip c29 hG
          refine lv_iconst (v := 1) hx hb dX8_above_36 (by decide) ?_
          refine lv_iadd hx hb dX8_above_37 ?_
          refine lv_topi (fun v38 e38 => ?_)
          have hG := f_lt hG e38
          refine lv_istore_n (lv' := [(2, .int v38), (0, .ref (E.2.1 61)), (1, .int a1), (3, .int x4_3)]) hx hb dX8_above_38 rfl hl (by decide) rfl (fun ls hl => ?_)
          refine lv_iinc (v := (x4_3 + (1 : Int32))) (lv' := [(3, .int (x4_3 + (1 : Int32))), (2, .int v38), (0, .ref (E.2.1 61)), (1, .int a1)]) hx hb dX8_above_39 hl (k := 3) rfl (by rfl) (by decide) rfl (fun ls hl => ?_)
          refine lv_goto (tgt := 4) hx hb dX8_above_42 (by decide) ?_
          exact ih4 v38 (x4_3 + (1 : Int32)) σ26 _ _ _ hP hS (lv_sub hl [2, 3, 1, 0] rfl) hG
        · have hG := f_in c29 hG
          refine lv_iconst (v := 0) hx hb dX8_above_32 (by decide) ?_
          refine lv_goto (tgt := 37) hx hb dX8_above_33 (by decide) ?_
          refine lv_iadd hx hb dX8_above_37 ?_
          refine lv_topi (fun v38 e38 => ?_)
          have hG := f_lt hG e38
          refine lv_istore_n (lv' := [(2, .int v38), (0, .ref (E.2.1 61)), (1, .int a1), (3, .int x4_3)]) hx hb dX8_above_38 rfl hl (by decide) rfl (fun ls hl => ?_)
          refine lv_iinc (v := (x4_3 + (1 : Int32))) (lv' := [(3, .int (x4_3 + (1 : Int32))), (2, .int v38), (0, .ref (E.2.1 61)), (1, .int a1)]) hx hb dX8_above_39 hl (k := 3) rfl (by rfl) (by decide) rfl (fun ls hl => ?_)
          refine lv_goto (tgt := 4) hx hb dX8_above_42 (by decide) ?_
          exact ih4 v38 (x4_3 + (1 : Int32)) σ26 _ _ _ hP hS (lv_sub hl [2, 3, 1, 0] rfl) hG
  exact L4 N (0 : Int32) (0 : Int32) σ _ _ _ hP hS (lv_sub hl [2, 3, 1, 0] rfl) hT4
theorem dX8_det_0 : decode cX8_det 0 = .ok (.iconst 0, 1) := by decide +kernel
theorem dX8_det_1 : decode cX8_det 1 = .ok (.istore_n 2, 1) := by decide +kernel
theorem dX8_det_2 : decode cX8_det 2 = .ok (.iconst 0, 1) := by decide +kernel
theorem dX8_det_3 : decode cX8_det 3 = .ok (.istore_n 3, 1) := by decide +kernel
theorem dX8_det_4 : decode cX8_det 4 = .ok (.iload_n 3, 1) := by decide +kernel
theorem dX8_det_5 : decode cX8_det 5 = .ok (.aload_n 0, 1) := by decide +kernel
theorem dX8_det_6 : decode cX8_det 6 = .ok (.getfield 7, 3) := by decide +kernel
theorem dX8_det_9 : decode cX8_det 9 = .ok (.iload_n 1, 1) := by decide +kernel
theorem dX8_det_10 : decode cX8_det 10 = .ok (.iaload, 1) := by decide +kernel
theorem dX8_det_11 : decode cX8_det 11 = .ok (.if_icmp .ge 22, 3) := by decide +kernel
theorem dX8_det_14 : decode cX8_det 14 = .ok (.iload_n 2, 1) := by decide +kernel
theorem dX8_det_15 : decode cX8_det 15 = .ok (.aload_n 0, 1) := by decide +kernel
theorem dX8_det_16 : decode cX8_det 16 = .ok (.getfield 13, 3) := by decide +kernel
theorem dX8_det_19 : decode cX8_det 19 = .ok (.iconst 4, 1) := by decide +kernel
theorem dX8_det_20 : decode cX8_det 20 = .ok (.iload_n 1, 1) := by decide +kernel
theorem dX8_det_21 : decode cX8_det 21 = .ok (.imul, 1) := by decide +kernel
theorem dX8_det_22 : decode cX8_det 22 = .ok (.iload_n 3, 1) := by decide +kernel
theorem dX8_det_23 : decode cX8_det 23 = .ok (.iadd, 1) := by decide +kernel
theorem dX8_det_24 : decode cX8_det 24 = .ok (.iaload, 1) := by decide +kernel
theorem dX8_det_25 : decode cX8_det 25 = .ok (.ixor, 1) := by decide +kernel
theorem dX8_det_26 : decode cX8_det 26 = .ok (.istore_n 2, 1) := by decide +kernel
theorem dX8_det_27 : decode cX8_det 27 = .ok (.iinc 3 1, 3) := by decide +kernel
theorem dX8_det_30 : decode cX8_det 30 = .ok (.goto (-26), 3) := by decide +kernel
theorem dX8_det_33 : decode cX8_det 33 = .ok (.iload_n 2, 1) := by decide +kernel
theorem dX8_det_34 : decode cX8_det 34 = .ok (.ireturn, 1) := by decide +kernel
set_option maxHeartbeats 4000000 in
set_option maxRecDepth 100000 in
theorem c_X8_det (l : Launch) (E : fEv) (N : Nat) (a1 : Int32) (σ : fS) (r : Int32) (τ : fS) (hG : g_X8_det N a1 σ = some (r, τ)) : fM l E yX8_det (.code yX8_det cX8_det 4 (some .int)) rm_X8_det [.ref (E.2.1 61), .int a1] σ τ (some (.int r)) := by
  refine f_openI (by decide) (Nat.le_of_ble_eq_true rfl) ?_
  intro p e s m below meth c args Q F hR hP ls hl
  have hx := F.1.1
  have hb := F.1.2.1
  have hown := F.1.2.2.2.1
  have hts := F.1.2.2.2.2
  have hS : va_S (f_A E) s.heap s.heap [] := va_S.rf
  skip
  have hl : lv_has ls 4 [(0, .ref (E.2.1 61)), (1, .int a1)] := hl
  unfold g_X8_det at hG
  refine lv_iconst (v := 0) hx hb dX8_det_0 (by decide) ?_
  refine lv_istore_n (lv' := [(2, .int (0 : Int32)), (0, .ref (E.2.1 61)), (1, .int a1)]) hx hb dX8_det_1 rfl hl (by decide) rfl (fun ls hl => ?_)
  refine lv_iconst (v := 0) hx hb dX8_det_2 (by decide) ?_
  refine lv_istore_n (lv' := [(3, .int (0 : Int32)), (2, .int (0 : Int32)), (0, .ref (E.2.1 61)), (1, .int a1)]) hx hb dX8_det_3 rfl hl (by decide) rfl (fun ls hl => ?_)
  obtain ⟨o4, σl4, hT4, hG⟩ := f_bd hG
  have T4 : ∀ (H : Heap) (locs : List Loc) (ls : Array Slot), f_h E σl4 H → va_S (f_A E) s.heap H locs → lv_has ls 4 [(2, .int o4)] → W p l e rm_X8_det s m args below meth c H locs 0 0 Q (F0 m 33 ls []) := by
    intro H locs ls hP hS hl
    refine lv_iload_n hx hb dX8_det_33 rfl (lv_at hl 0 rfl) ?_
    exact x_ri hR hS hP hG dX8_det_34
  have L4 : ∀ (n4 : Nat) (x4_2 : Int32) (x4_3 : Int32) (σh4 : fS) (H : Heap) (locs : List Loc) (ls : Array Slot), f_h E σh4 H → va_S (f_A E) s.heap H locs → lv_has ls 4 [(0, .ref (E.2.1 61)), (1, .int a1), (2, .int x4_2), (3, .int x4_3)] → lp_X8_det_4 N a1 n4 x4_2 x4_3 σh4 = some (o4, σl4) → W p l e rm_X8_det s m args below meth c H locs 0 0 Q (F0 m 4 ls []) := by
    intro n4
    induction n4 with
    | zero =>
      intro x4_2 x4_3 σh4 H locs ls hP hS hl hG
      rw [lp_X8_det_4] at hG
      cases hG
    | succ n4 ih4 =>
      intro x4_2 x4_3 σh4 H locs ls hP hS hl hG
      rw [lp_X8_det_4] at hG
      refine lv_iload_n hx hb dX8_det_4 rfl (lv_at hl 3 rfl) ?_
      refine lv_aload_n hx hb dX8_det_5 rfl (lv_at hl 0 rfl) ?_
      refine gf_X8_7 F hP dX8_det_6 ?_
      refine lv_iload_n hx hb dX8_det_9 rfl (lv_at hl 1 rfl) ?_
      obtain ⟨h10, hG⟩ := f_gd hG
      have i10 := f_fin h10
      refine x_iald F hP rfl rfl i10 dX8_det_10 ?_
      refine lv_icmp_ge (tgt := 33) hx hb dX8_det_11 (by decide) (fun c11 => ?_) (fun c11 => ?_)
      · have hG := f_ip c11 hG
        cases hG
        exact T4 _ _ _ hP hS (lv_sub hl [2] rfl)
      · have hG := f_in c11 hG
        refine lv_iload_n hx hb dX8_det_14 rfl (lv_at hl 2 rfl) ?_
        refine lv_aload_n hx hb dX8_det_15 rfl (lv_at hl 0 rfl) ?_
        refine gf_X8_13 F hP dX8_det_16 ?_
        refine lv_iconst (v := 4) hx hb dX8_det_19 (by decide) ?_
        refine lv_iload_n hx hb dX8_det_20 rfl (lv_at hl 1 rfl) ?_
        refine lv_imul hx hb dX8_det_21 ?_
        refine lv_iload_n hx hb dX8_det_22 rfl (lv_at hl 3 rfl) ?_
        refine lv_iadd hx hb dX8_det_23 ?_
        obtain ⟨h24, hG⟩ := f_gd hG
        have i24 := f_fin h24
        refine x_iald F hP rfl rfl i24 dX8_det_24 ?_
        refine lv_ixor hx hb dX8_det_25 ?_
        refine lv_topi (fun v26 e26 => ?_)
        have hG := f_lt hG e26
        refine lv_istore_n (lv' := [(2, .int v26), (0, .ref (E.2.1 61)), (1, .int a1), (3, .int x4_3)]) hx hb dX8_det_26 rfl hl (by decide) rfl (fun ls hl => ?_)
        refine lv_iinc (v := (x4_3 + (1 : Int32))) (lv' := [(3, .int (x4_3 + (1 : Int32))), (2, .int v26), (0, .ref (E.2.1 61)), (1, .int a1)]) hx hb dX8_det_27 hl (k := 3) rfl (by rfl) (by decide) rfl (fun ls hl => ?_)
        refine lv_goto (tgt := 4) hx hb dX8_det_30 (by decide) ?_
        exact ih4 v26 (x4_3 + (1 : Int32)) σh4 _ _ _ hP hS (lv_sub hl [2, 3, 1, 0] rfl) hG
  exact L4 N (0 : Int32) (0 : Int32) σ _ _ _ hP hS (lv_sub hl [2, 3, 1, 0] rfl) hT4
theorem dX8_planes_0 : decode cX8_planes 0 = .ok (.aload_n 0, 1) := by decide +kernel
theorem dX8_planes_1 : decode cX8_planes 1 = .ok (.iload_n 1, 1) := by decide +kernel
theorem dX8_planes_2 : decode cX8_planes 2 = .ok (.invokevirtual 199, 3) := by decide +kernel
theorem dX8_planes_5 : decode cX8_planes 5 = .ok (.ifCond .eq 5, 3) := by decide +kernel
theorem dX8_planes_8 : decode cX8_planes 8 = .ok (.iconst 0, 1) := by decide +kernel
theorem dX8_planes_9 : decode cX8_planes 9 = .ok (.ireturn, 1) := by decide +kernel
theorem dX8_planes_10 : decode cX8_planes 10 = .ok (.aload_n 0, 1) := by decide +kernel
theorem dX8_planes_11 : decode cX8_planes 11 = .ok (.getfield 7, 3) := by decide +kernel
theorem dX8_planes_14 : decode cX8_planes 14 = .ok (.iload_n 1, 1) := by decide +kernel
theorem dX8_planes_15 : decode cX8_planes 15 = .ok (.iaload, 1) := by decide +kernel
theorem dX8_planes_16 : decode cX8_planes 16 = .ok (.iconst 4, 1) := by decide +kernel
theorem dX8_planes_17 : decode cX8_planes 17 = .ok (.if_icmp .ne 15, 3) := by decide +kernel
theorem dX8_planes_20 : decode cX8_planes 20 = .ok (.aload_n 0, 1) := by decide +kernel
theorem dX8_planes_21 : decode cX8_planes 21 = .ok (.iload_n 1, 1) := by decide +kernel
theorem dX8_planes_22 : decode cX8_planes 22 = .ok (.invokevirtual 202, 3) := by decide +kernel
theorem dX8_planes_25 : decode cX8_planes 25 = .ok (.ifCond .ne 7, 3) := by decide +kernel
theorem dX8_planes_28 : decode cX8_planes 28 = .ok (.iconst 2, 1) := by decide +kernel
theorem dX8_planes_29 : decode cX8_planes 29 = .ok (.goto 4, 3) := by decide +kernel
theorem dX8_planes_32 : decode cX8_planes 32 = .ok (.iconst 1, 1) := by decide +kernel
theorem dX8_planes_33 : decode cX8_planes 33 = .ok (.ireturn, 1) := by decide +kernel
set_option maxHeartbeats 4000000 in
set_option maxRecDepth 100000 in
theorem c_X8_planes (l : Launch) (E : fEv) (N : Nat) (a1 : Int32) (σ : fS) (r : Int32) (τ : fS) (hG : g_X8_planes N a1 σ = some (r, τ)) : fM l E yX8_planes (.code yX8_planes cX8_planes 2 (some .int)) rm_X8_planes [.ref (E.2.1 61), .int a1] σ τ (some (.int r)) := by
  refine f_openI (by decide) (Nat.le_of_ble_eq_true rfl) ?_
  intro p e s m below meth c args Q F hR hP ls hl
  have hx := F.1.1
  have hb := F.1.2.1
  have hown := F.1.2.2.2.1
  have hts := F.1.2.2.2.2
  have hS : va_S (f_A E) s.heap s.heap [] := va_S.rf
  skip
  have hl : lv_has ls 2 [(0, .ref (E.2.1 61)), (1, .int a1)] := hl
  unfold g_X8_planes at hG
  refine lv_aload_n hx hb dX8_planes_0 rfl (lv_at hl 0 rfl) ?_
  refine lv_iload_n hx hb dX8_planes_1 rfl (lv_at hl 1 rfl) ?_
  obtain ⟨r2, σ2, hC2, hG⟩ := f_bd hG
  refine iv_X8_199 F hS hP (c_X8_barsOf l E N a1 σ _ _ hC2) ⟨Nat.le_of_ble_eq_true rfl, Nat.le_of_ble_eq_true rfl⟩ hl.1 (Nat.le_of_ble_eq_true rfl) dX8_planes_2 ⟨Nat.zero_le _, Nat.zero_le _⟩ (fun H locs hP hS => ?_)
  refine lv_if_eq (tgt := 10) hx hb dX8_planes_5 (by decide) (fun c5 => ?_) (fun c5 => ?_)
  · have hG := f_ip c5 hG
    refine lv_aload_n hx hb dX8_planes_10 rfl (lv_at hl 0 rfl) ?_
    refine gf_X8_7 F hP dX8_planes_11 ?_
    refine lv_iload_n hx hb dX8_planes_14 rfl (lv_at hl 1 rfl) ?_
    obtain ⟨h15, hG⟩ := f_gd hG
    have i15 := f_fin h15
    refine x_iald F hP rfl rfl i15 dX8_planes_15 ?_
    refine lv_iconst (v := 4) hx hb dX8_planes_16 (by decide) ?_
    refine lv_icmp_ne (tgt := 32) hx hb dX8_planes_17 (by decide) (fun c17 => ?_) (fun c17 => ?_)
    · have hG := f_in c17 hG
      refine lv_iconst (v := 1) hx hb dX8_planes_32 (by decide) ?_
      exact x_ri hR hS hP hG dX8_planes_33
    · have hG := f_ip c17 hG
      refine lv_aload_n hx hb dX8_planes_20 rfl (lv_at hl 0 rfl) ?_
      refine lv_iload_n hx hb dX8_planes_21 rfl (lv_at hl 1 rfl) ?_
      obtain ⟨r22, σ22, hC22, hG⟩ := f_bd hG
      refine iv_X8_202 F hS hP (c_X8_det l E N a1 σ2 _ _ hC22) ⟨Nat.le_of_ble_eq_true rfl, Nat.le_of_ble_eq_true rfl⟩ hl.1 (Nat.le_of_ble_eq_true rfl) dX8_planes_22 ⟨Nat.zero_le _, Nat.zero_le _⟩ (fun H locs hP hS => ?_)
      refine lv_if_ne (tgt := 32) hx hb dX8_planes_25 (by decide) (fun c25 => ?_) (fun c25 => ?_)
      · have hG := f_in c25 hG
        refine lv_iconst (v := 1) hx hb dX8_planes_32 (by decide) ?_
        exact x_ri hR hS hP hG dX8_planes_33
      · have hG := f_ip c25 hG
        refine lv_iconst (v := 2) hx hb dX8_planes_28 (by decide) ?_
        refine lv_goto (tgt := 33) hx hb dX8_planes_29 (by decide) ?_
        exact x_ri hR hS hP hG dX8_planes_33
  · have hG := f_in c5 hG
    refine lv_iconst (v := 0) hx hb dX8_planes_8 (by decide) ?_
    exact x_ri hR hS hP hG dX8_planes_9
theorem dX8_restDet_0 : decode cX8_restDet 0 = .ok (.aload_n 0, 1) := by decide +kernel
theorem dX8_restDet_1 : decode cX8_restDet 1 = .ok (.iload_n 1, 1) := by decide +kernel
theorem dX8_restDet_2 : decode cX8_restDet 2 = .ok (.invokevirtual 205, 3) := by decide +kernel
theorem dX8_restDet_5 : decode cX8_restDet 5 = .ok (.iconst 1, 1) := by decide +kernel
theorem dX8_restDet_6 : decode cX8_restDet 6 = .ok (.if_icmp .ne 13, 3) := by decide +kernel
theorem dX8_restDet_9 : decode cX8_restDet 9 = .ok (.aload_n 0, 1) := by decide +kernel
theorem dX8_restDet_10 : decode cX8_restDet 10 = .ok (.iload_n 1, 1) := by decide +kernel
theorem dX8_restDet_11 : decode cX8_restDet 11 = .ok (.invokevirtual 202, 3) := by decide +kernel
theorem dX8_restDet_14 : decode cX8_restDet 14 = .ok (.iconst 1, 1) := by decide +kernel
theorem dX8_restDet_15 : decode cX8_restDet 15 = .ok (.ixor, 1) := by decide +kernel
theorem dX8_restDet_16 : decode cX8_restDet 16 = .ok (.goto 8, 3) := by decide +kernel
theorem dX8_restDet_19 : decode cX8_restDet 19 = .ok (.aload_n 0, 1) := by decide +kernel
theorem dX8_restDet_20 : decode cX8_restDet 20 = .ok (.iload_n 1, 1) := by decide +kernel
theorem dX8_restDet_21 : decode cX8_restDet 21 = .ok (.invokevirtual 202, 3) := by decide +kernel
theorem dX8_restDet_24 : decode cX8_restDet 24 = .ok (.ireturn, 1) := by decide +kernel
set_option maxHeartbeats 4000000 in
set_option maxRecDepth 100000 in
theorem c_X8_restDet (l : Launch) (E : fEv) (N : Nat) (a1 : Int32) (σ : fS) (r : Int32) (τ : fS) (hG : g_X8_restDet N a1 σ = some (r, τ)) : fM l E yX8_restDet (.code yX8_restDet cX8_restDet 2 (some .int)) rm_X8_restDet [.ref (E.2.1 61), .int a1] σ τ (some (.int r)) := by
  refine f_openI (by decide) (Nat.le_of_ble_eq_true rfl) ?_
  intro p e s m below meth c args Q F hR hP ls hl
  have hx := F.1.1
  have hb := F.1.2.1
  have hown := F.1.2.2.2.1
  have hts := F.1.2.2.2.2
  have hS : va_S (f_A E) s.heap s.heap [] := va_S.rf
  skip
  have hl : lv_has ls 2 [(0, .ref (E.2.1 61)), (1, .int a1)] := hl
  unfold g_X8_restDet at hG
  refine lv_aload_n hx hb dX8_restDet_0 rfl (lv_at hl 0 rfl) ?_
  refine lv_iload_n hx hb dX8_restDet_1 rfl (lv_at hl 1 rfl) ?_
  obtain ⟨r2, σ2, hC2, hG⟩ := f_bd hG
  refine iv_X8_205 F hS hP (c_X8_planes l E N a1 σ _ _ hC2) ⟨Nat.le_of_ble_eq_true rfl, Nat.le_of_ble_eq_true rfl⟩ hl.1 (Nat.le_of_ble_eq_true rfl) dX8_restDet_2 ⟨Nat.zero_le _, Nat.zero_le _⟩ (fun H locs hP hS => ?_)
  refine lv_iconst (v := 1) hx hb dX8_restDet_5 (by decide) ?_
  refine lv_icmp_ne (tgt := 19) hx hb dX8_restDet_6 (by decide) (fun c6 => ?_) (fun c6 => ?_)
  · have hG := f_in c6 hG
    refine lv_aload_n hx hb dX8_restDet_19 rfl (lv_at hl 0 rfl) ?_
    refine lv_iload_n hx hb dX8_restDet_20 rfl (lv_at hl 1 rfl) ?_
    obtain ⟨r21, σ21, hC21, hG⟩ := f_bd hG
    refine iv_X8_202 F hS hP (c_X8_det l E N a1 σ2 _ _ hC21) ⟨Nat.le_of_ble_eq_true rfl, Nat.le_of_ble_eq_true rfl⟩ hl.1 (Nat.le_of_ble_eq_true rfl) dX8_restDet_21 ⟨Nat.zero_le _, Nat.zero_le _⟩ (fun H locs hP hS => ?_)
    exact x_ri hR hS hP hG dX8_restDet_24
  · have hG := f_ip c6 hG
    refine lv_aload_n hx hb dX8_restDet_9 rfl (lv_at hl 0 rfl) ?_
    refine lv_iload_n hx hb dX8_restDet_10 rfl (lv_at hl 1 rfl) ?_
    obtain ⟨r11, σ11, hC11, hG⟩ := f_bd hG
    refine iv_X8_202 F hS hP (c_X8_det l E N a1 σ2 _ _ hC11) ⟨Nat.le_of_ble_eq_true rfl, Nat.le_of_ble_eq_true rfl⟩ hl.1 (Nat.le_of_ble_eq_true rfl) dX8_restDet_11 ⟨Nat.zero_le _, Nat.zero_le _⟩ (fun H locs hP hS => ?_)
    refine lv_iconst (v := 1) hx hb dX8_restDet_14 (by decide) ?_
    refine lv_ixor hx hb dX8_restDet_15 ?_
    refine lv_goto (tgt := 24) hx hb dX8_restDet_16 (by decide) ?_
    exact x_ri hR hS hP hG dX8_restDet_24
theorem dX8_restHasse_0 : decode cX8_restHasse 0 = .ok (.aload_n 0, 1) := by decide +kernel
theorem dX8_restHasse_1 : decode cX8_restHasse 1 = .ok (.iload_n 1, 1) := by decide +kernel
theorem dX8_restHasse_2 : decode cX8_restHasse 2 = .ok (.invokevirtual 205, 3) := by decide +kernel
theorem dX8_restHasse_5 : decode cX8_restHasse 5 = .ok (.istore_n 2, 1) := by decide +kernel
theorem dX8_restHasse_6 : decode cX8_restHasse 6 = .ok (.iload_n 2, 1) := by decide +kernel
theorem dX8_restHasse_7 : decode cX8_restHasse 7 = .ok (.ifCond .ne 9, 3) := by decide +kernel
theorem dX8_restHasse_10 : decode cX8_restHasse 10 = .ok (.aload_n 0, 1) := by decide +kernel
theorem dX8_restHasse_11 : decode cX8_restHasse 11 = .ok (.iload_n 1, 1) := by decide +kernel
theorem dX8_restHasse_12 : decode cX8_restHasse 12 = .ok (.invokevirtual 208, 3) := by decide +kernel
theorem dX8_restHasse_15 : decode cX8_restHasse 15 = .ok (.ireturn, 1) := by decide +kernel
theorem dX8_restHasse_16 : decode cX8_restHasse 16 = .ok (.aload_n 0, 1) := by decide +kernel
theorem dX8_restHasse_17 : decode cX8_restHasse 17 = .ok (.getfield 7, 3) := by decide +kernel
theorem dX8_restHasse_20 : decode cX8_restHasse 20 = .ok (.iload_n 1, 1) := by decide +kernel
theorem dX8_restHasse_21 : decode cX8_restHasse 21 = .ok (.iaload, 1) := by decide +kernel
theorem dX8_restHasse_22 : decode cX8_restHasse 22 = .ok (.iconst 2, 1) := by decide +kernel
theorem dX8_restHasse_23 : decode cX8_restHasse 23 = .ok (.iload_n 2, 1) := by decide +kernel
theorem dX8_restHasse_24 : decode cX8_restHasse 24 = .ok (.imul, 1) := by decide +kernel
theorem dX8_restHasse_25 : decode cX8_restHasse 25 = .ok (.if_icmp .ne 7, 3) := by decide +kernel
theorem dX8_restHasse_28 : decode cX8_restHasse 28 = .ok (.iconst 0, 1) := by decide +kernel
theorem dX8_restHasse_29 : decode cX8_restHasse 29 = .ok (.goto 19, 3) := by decide +kernel
theorem dX8_restHasse_32 : decode cX8_restHasse 32 = .ok (.aload_n 0, 1) := by decide +kernel
theorem dX8_restHasse_33 : decode cX8_restHasse 33 = .ok (.iload_n 1, 1) := by decide +kernel
theorem dX8_restHasse_34 : decode cX8_restHasse 34 = .ok (.invokevirtual 208, 3) := by decide +kernel
theorem dX8_restHasse_37 : decode cX8_restHasse 37 = .ok (.aload_n 0, 1) := by decide +kernel
theorem dX8_restHasse_38 : decode cX8_restHasse 38 = .ok (.iconst 1, 1) := by decide +kernel
theorem dX8_restHasse_39 : decode cX8_restHasse 39 = .ok (.aload_n 0, 1) := by decide +kernel
theorem dX8_restHasse_40 : decode cX8_restHasse 40 = .ok (.iload_n 1, 1) := by decide +kernel
theorem dX8_restHasse_41 : decode cX8_restHasse 41 = .ok (.invokevirtual 211, 3) := by decide +kernel
theorem dX8_restHasse_44 : decode cX8_restHasse 44 = .ok (.invokevirtual 186, 3) := by decide +kernel
theorem dX8_restHasse_47 : decode cX8_restHasse 47 = .ok (.ixor, 1) := by decide +kernel
theorem dX8_restHasse_48 : decode cX8_restHasse 48 = .ok (.ireturn, 1) := by decide +kernel
set_option maxHeartbeats 4000000 in
set_option maxRecDepth 100000 in
theorem c_X8_restHasse (l : Launch) (E : fEv) (N : Nat) (a1 : Int32) (σ : fS) (r : Int32) (τ : fS) (hG : g_X8_restHasse N a1 σ = some (r, τ)) : fM l E yX8_restHasse (.code yX8_restHasse cX8_restHasse 3 (some .int)) rm_X8_restHasse [.ref (E.2.1 61), .int a1] σ τ (some (.int r)) := by
  refine f_openI (by decide) (Nat.le_of_ble_eq_true rfl) ?_
  intro p e s m below meth c args Q F hR hP ls hl
  have hx := F.1.1
  have hb := F.1.2.1
  have hown := F.1.2.2.2.1
  have hts := F.1.2.2.2.2
  have hS : va_S (f_A E) s.heap s.heap [] := va_S.rf
  skip
  have hl : lv_has ls 3 [(0, .ref (E.2.1 61)), (1, .int a1)] := hl
  unfold g_X8_restHasse at hG
  refine lv_aload_n hx hb dX8_restHasse_0 rfl (lv_at hl 0 rfl) ?_
  refine lv_iload_n hx hb dX8_restHasse_1 rfl (lv_at hl 1 rfl) ?_
  obtain ⟨r2, σ2, hC2, hG⟩ := f_bd hG
  refine iv_X8_205 F hS hP (c_X8_planes l E N a1 σ _ _ hC2) ⟨Nat.le_of_ble_eq_true rfl, Nat.le_of_ble_eq_true rfl⟩ hl.1 (Nat.le_of_ble_eq_true rfl) dX8_restHasse_2 ⟨Nat.zero_le _, Nat.zero_le _⟩ (fun H locs hP hS => ?_)
  refine lv_istore_n (lv' := [(2, .int r2), (0, .ref (E.2.1 61)), (1, .int a1)]) hx hb dX8_restHasse_5 rfl hl (by decide) rfl (fun ls hl => ?_)
  refine lv_iload_n hx hb dX8_restHasse_6 rfl (lv_at hl 0 rfl) ?_
  refine lv_if_ne (tgt := 16) hx hb dX8_restHasse_7 (by decide) (fun c7 => ?_) (fun c7 => ?_)
  · have hG := f_in c7 hG
    refine lv_aload_n hx hb dX8_restHasse_16 rfl (lv_at hl 1 rfl) ?_
    refine gf_X8_7 F hP dX8_restHasse_17 ?_
    refine lv_iload_n hx hb dX8_restHasse_20 rfl (lv_at hl 2 rfl) ?_
    obtain ⟨h21, hG⟩ := f_gd hG
    have i21 := f_fin h21
    refine x_iald F hP rfl rfl i21 dX8_restHasse_21 ?_
    refine lv_iconst (v := 2) hx hb dX8_restHasse_22 (by decide) ?_
    refine lv_iload_n hx hb dX8_restHasse_23 rfl (lv_at hl 0 rfl) ?_
    refine lv_imul hx hb dX8_restHasse_24 ?_
    refine lv_icmp_ne (tgt := 32) hx hb dX8_restHasse_25 (by decide) (fun c25 => ?_) (fun c25 => ?_)
    · have hG := f_in c25 hG
      refine lv_aload_n hx hb dX8_restHasse_32 rfl (lv_at hl 1 rfl) ?_
      refine lv_iload_n hx hb dX8_restHasse_33 rfl (lv_at hl 2 rfl) ?_
      obtain ⟨r34, σ34, hC34, hG⟩ := f_bd hG
      refine iv_X8_208 F hS hP (c_X8_hasseOf l E N a1 σ2 _ _ hC34) ⟨Nat.le_of_ble_eq_true rfl, Nat.le_of_ble_eq_true rfl⟩ hl.1 (Nat.le_of_ble_eq_true rfl) dX8_restHasse_34 ⟨Nat.zero_le _, Nat.zero_le _⟩ (fun H locs hP hS => ?_)
      refine lv_aload_n hx hb dX8_restHasse_37 rfl (lv_at hl 1 rfl) ?_
      refine lv_iconst (v := 1) hx hb dX8_restHasse_38 (by decide) ?_
      refine lv_aload_n hx hb dX8_restHasse_39 rfl (lv_at hl 1 rfl) ?_
      refine lv_iload_n hx hb dX8_restHasse_40 rfl (lv_at hl 2 rfl) ?_
      obtain ⟨r41, σ41, hC41, hG⟩ := f_bd hG
      refine iv_X8_211 F hS hP (c_X8_restDet l E N a1 σ34 _ _ hC41) ⟨Nat.le_of_ble_eq_true rfl, Nat.le_of_ble_eq_true rfl⟩ hl.1 (Nat.le_of_ble_eq_true rfl) dX8_restHasse_41 ⟨Nat.zero_le _, Nat.zero_le _⟩ (fun H locs hP hS => ?_)
      obtain ⟨r44, σ44, hC44, hG⟩ := f_bd hG
      refine iv_X8_186 F hS hP (c_X8_unlike l E N (1 : Int32) r41 σ41 _ _ hC44) ⟨Nat.le_of_ble_eq_true rfl, Nat.le_of_ble_eq_true rfl⟩ hl.1 (Nat.le_of_ble_eq_true rfl) dX8_restHasse_44 ⟨Nat.zero_le _, Nat.zero_le _⟩ (fun H locs hP hS => ?_)
      refine lv_ixor hx hb dX8_restHasse_47 ?_
      exact x_ri hR hS hP hG dX8_restHasse_48
    · have hG := f_ip c25 hG
      refine lv_iconst (v := 0) hx hb dX8_restHasse_28 (by decide) ?_
      refine lv_goto (tgt := 48) hx hb dX8_restHasse_29 (by decide) ?_
      exact x_ri hR hS hP hG dX8_restHasse_48
  · have hG := f_ip c7 hG
    refine lv_aload_n hx hb dX8_restHasse_10 rfl (lv_at hl 1 rfl) ?_
    refine lv_iload_n hx hb dX8_restHasse_11 rfl (lv_at hl 2 rfl) ?_
    obtain ⟨r12, σ12, hC12, hG⟩ := f_bd hG
    refine iv_X8_208 F hS hP (c_X8_hasseOf l E N a1 σ2 _ _ hC12) ⟨Nat.le_of_ble_eq_true rfl, Nat.le_of_ble_eq_true rfl⟩ hl.1 (Nat.le_of_ble_eq_true rfl) dX8_restHasse_12 ⟨Nat.zero_le _, Nat.zero_le _⟩ (fun H locs hP hS => ?_)
    exact x_ri hR hS hP hG dX8_restHasse_15
theorem dX8_isLikeAt_0 : decode cX8_isLikeAt 0 = .ok (.iload_n 3, 1) := by decide +kernel
theorem dX8_isLikeAt_1 : decode cX8_isLikeAt 1 = .ok (.ifCond .ne 22, 3) := by decide +kernel
theorem dX8_isLikeAt_4 : decode cX8_isLikeAt 4 = .ok (.aload_n 0, 1) := by decide +kernel
theorem dX8_isLikeAt_5 : decode cX8_isLikeAt 5 = .ok (.iload_n 1, 1) := by decide +kernel
theorem dX8_isLikeAt_6 : decode cX8_isLikeAt 6 = .ok (.invokevirtual 214, 3) := by decide +kernel
theorem dX8_isLikeAt_9 : decode cX8_isLikeAt 9 = .ok (.aload_n 0, 1) := by decide +kernel
theorem dX8_isLikeAt_10 : decode cX8_isLikeAt 10 = .ok (.iload_n 2, 1) := by decide +kernel
theorem dX8_isLikeAt_11 : decode cX8_isLikeAt 11 = .ok (.invokevirtual 214, 3) := by decide +kernel
theorem dX8_isLikeAt_14 : decode cX8_isLikeAt 14 = .ok (.if_icmp .ne 7, 3) := by decide +kernel
theorem dX8_isLikeAt_17 : decode cX8_isLikeAt 17 = .ok (.iconst 1, 1) := by decide +kernel
theorem dX8_isLikeAt_18 : decode cX8_isLikeAt 18 = .ok (.goto 4, 3) := by decide +kernel
theorem dX8_isLikeAt_21 : decode cX8_isLikeAt 21 = .ok (.iconst 0, 1) := by decide +kernel
theorem dX8_isLikeAt_22 : decode cX8_isLikeAt 22 = .ok (.ireturn, 1) := by decide +kernel
theorem dX8_isLikeAt_23 : decode cX8_isLikeAt 23 = .ok (.aload_n 0, 1) := by decide +kernel
theorem dX8_isLikeAt_24 : decode cX8_isLikeAt 24 = .ok (.iload_n 1, 1) := by decide +kernel
theorem dX8_isLikeAt_25 : decode cX8_isLikeAt 25 = .ok (.invokevirtual 208, 3) := by decide +kernel
theorem dX8_isLikeAt_28 : decode cX8_isLikeAt 28 = .ok (.iload_n 3, 1) := by decide +kernel
theorem dX8_isLikeAt_29 : decode cX8_isLikeAt 29 = .ok (.invokestatic 85, 3) := by decide +kernel
theorem dX8_isLikeAt_32 : decode cX8_isLikeAt 32 = .ok (.aload_n 0, 1) := by decide +kernel
theorem dX8_isLikeAt_33 : decode cX8_isLikeAt 33 = .ok (.iload_n 2, 1) := by decide +kernel
theorem dX8_isLikeAt_34 : decode cX8_isLikeAt 34 = .ok (.invokevirtual 208, 3) := by decide +kernel
theorem dX8_isLikeAt_37 : decode cX8_isLikeAt 37 = .ok (.iload_n 3, 1) := by decide +kernel
theorem dX8_isLikeAt_38 : decode cX8_isLikeAt 38 = .ok (.invokestatic 85, 3) := by decide +kernel
theorem dX8_isLikeAt_41 : decode cX8_isLikeAt 41 = .ok (.if_icmp .ne 25, 3) := by decide +kernel
theorem dX8_isLikeAt_44 : decode cX8_isLikeAt 44 = .ok (.aload_n 0, 1) := by decide +kernel
theorem dX8_isLikeAt_45 : decode cX8_isLikeAt 45 = .ok (.iload_n 1, 1) := by decide +kernel
theorem dX8_isLikeAt_46 : decode cX8_isLikeAt 46 = .ok (.invokevirtual 202, 3) := by decide +kernel
theorem dX8_isLikeAt_49 : decode cX8_isLikeAt 49 = .ok (.aload_n 0, 1) := by decide +kernel
theorem dX8_isLikeAt_50 : decode cX8_isLikeAt 50 = .ok (.iload_n 2, 1) := by decide +kernel
theorem dX8_isLikeAt_51 : decode cX8_isLikeAt 51 = .ok (.invokevirtual 202, 3) := by decide +kernel
theorem dX8_isLikeAt_54 : decode cX8_isLikeAt 54 = .ok (.ixor, 1) := by decide +kernel
theorem dX8_isLikeAt_55 : decode cX8_isLikeAt 55 = .ok (.iload_n 3, 1) := by decide +kernel
theorem dX8_isLikeAt_56 : decode cX8_isLikeAt 56 = .ok (.invokestatic 180, 3) := by decide +kernel
theorem dX8_isLikeAt_59 : decode cX8_isLikeAt 59 = .ok (.ifCond .eq 7, 3) := by decide +kernel
theorem dX8_isLikeAt_62 : decode cX8_isLikeAt 62 = .ok (.iconst 1, 1) := by decide +kernel
theorem dX8_isLikeAt_63 : decode cX8_isLikeAt 63 = .ok (.goto 4, 3) := by decide +kernel
theorem dX8_isLikeAt_66 : decode cX8_isLikeAt 66 = .ok (.iconst 0, 1) := by decide +kernel
theorem dX8_isLikeAt_67 : decode cX8_isLikeAt 67 = .ok (.ireturn, 1) := by decide +kernel
set_option maxHeartbeats 4000000 in
set_option maxRecDepth 100000 in
theorem c_X8_isLikeAt (l : Launch) (E : fEv) (N : Nat) (a1 : Int32) (a2 : Int32) (a3 : Int32) (σ : fS) (r : Int32) (τ : fS) (hG : g_X8_isLikeAt N a1 a2 a3 σ = some (r, τ)) : fM l E yX8_isLikeAt (.code yX8_isLikeAt cX8_isLikeAt 4 (some .boolean)) rm_X8_isLikeAt [.ref (E.2.1 61), .int a1, .int a2, .int a3] σ τ (some (.int r)) := by
  refine f_openZ (by decide) (Nat.le_of_ble_eq_true rfl) ?_
  intro p e s m below meth c args Q F hR hP ls hl
  have hx := F.1.1
  have hb := F.1.2.1
  have hown := F.1.2.2.2.1
  have hts := F.1.2.2.2.2
  have hS : va_S (f_A E) s.heap s.heap [] := va_S.rf
  skip
  have hl : lv_has ls 4 [(0, .ref (E.2.1 61)), (1, .int a1), (2, .int a2), (3, .int a3)] := hl
  unfold g_X8_isLikeAt at hG
  refine lv_iload_n hx hb dX8_isLikeAt_0 rfl (lv_at hl 3 rfl) ?_
  refine lv_if_ne (tgt := 23) hx hb dX8_isLikeAt_1 (by decide) (fun c1 => ?_) (fun c1 => ?_)
  · have hG := f_in c1 hG
    refine lv_aload_n hx hb dX8_isLikeAt_23 rfl (lv_at hl 0 rfl) ?_
    refine lv_iload_n hx hb dX8_isLikeAt_24 rfl (lv_at hl 1 rfl) ?_
    obtain ⟨r25, σ25, hC25, hG⟩ := f_bd hG
    refine iv_X8_208 F hS hP (c_X8_hasseOf l E N a1 σ _ _ hC25) ⟨Nat.le_of_ble_eq_true rfl, Nat.le_of_ble_eq_true rfl⟩ hl.1 (Nat.le_of_ble_eq_true rfl) dX8_isLikeAt_25 ⟨Nat.zero_le _, Nat.zero_le _⟩ (fun H locs hP hS => ?_)
    refine lv_iload_n hx hb dX8_isLikeAt_28 rfl (lv_at hl 3 rfl) ?_
    obtain ⟨r29, σ29, hC29, hG⟩ := f_bd hG
    refine iv_X8_85 F hS hP (c_X8_isIn l E N r25 a3 σ25 _ _ hC29) ⟨Nat.le_of_ble_eq_true rfl, Nat.le_of_ble_eq_true rfl⟩ hl.1 (Nat.le_of_ble_eq_true rfl) dX8_isLikeAt_29 ⟨Nat.zero_le _, Nat.zero_le _⟩ (fun H locs hP hS => ?_)
    refine lv_aload_n hx hb dX8_isLikeAt_32 rfl (lv_at hl 0 rfl) ?_
    refine lv_iload_n hx hb dX8_isLikeAt_33 rfl (lv_at hl 2 rfl) ?_
    obtain ⟨r34, σ34, hC34, hG⟩ := f_bd hG
    refine iv_X8_208 F hS hP (c_X8_hasseOf l E N a2 σ29 _ _ hC34) ⟨Nat.le_of_ble_eq_true rfl, Nat.le_of_ble_eq_true rfl⟩ hl.1 (Nat.le_of_ble_eq_true rfl) dX8_isLikeAt_34 ⟨Nat.zero_le _, Nat.zero_le _⟩ (fun H locs hP hS => ?_)
    refine lv_iload_n hx hb dX8_isLikeAt_37 rfl (lv_at hl 3 rfl) ?_
    obtain ⟨r38, σ38, hC38, hG⟩ := f_bd hG
    refine iv_X8_85 F hS hP (c_X8_isIn l E N r34 a3 σ34 _ _ hC38) ⟨Nat.le_of_ble_eq_true rfl, Nat.le_of_ble_eq_true rfl⟩ hl.1 (Nat.le_of_ble_eq_true rfl) dX8_isLikeAt_38 ⟨Nat.zero_le _, Nat.zero_le _⟩ (fun H locs hP hS => ?_)
    refine lv_icmp_ne (tgt := 66) hx hb dX8_isLikeAt_41 (by decide) (fun c41 => ?_) (fun c41 => ?_)
    · have hG := f_in c41 hG
      refine lv_iconst (v := 0) hx hb dX8_isLikeAt_66 (by decide) ?_
      exact x_rz hR hS hP (Or.inl rfl) hG dX8_isLikeAt_67
    · have hG := f_ip c41 hG
      refine lv_aload_n hx hb dX8_isLikeAt_44 rfl (lv_at hl 0 rfl) ?_
      refine lv_iload_n hx hb dX8_isLikeAt_45 rfl (lv_at hl 1 rfl) ?_
      obtain ⟨r46, σ46, hC46, hG⟩ := f_bd hG
      refine iv_X8_202 F hS hP (c_X8_det l E N a1 σ38 _ _ hC46) ⟨Nat.le_of_ble_eq_true rfl, Nat.le_of_ble_eq_true rfl⟩ hl.1 (Nat.le_of_ble_eq_true rfl) dX8_isLikeAt_46 ⟨Nat.zero_le _, Nat.zero_le _⟩ (fun H locs hP hS => ?_)
      refine lv_aload_n hx hb dX8_isLikeAt_49 rfl (lv_at hl 0 rfl) ?_
      refine lv_iload_n hx hb dX8_isLikeAt_50 rfl (lv_at hl 2 rfl) ?_
      obtain ⟨r51, σ51, hC51, hG⟩ := f_bd hG
      refine iv_X8_202 F hS hP (c_X8_det l E N a2 σ46 _ _ hC51) ⟨Nat.le_of_ble_eq_true rfl, Nat.le_of_ble_eq_true rfl⟩ hl.1 (Nat.le_of_ble_eq_true rfl) dX8_isLikeAt_51 ⟨Nat.zero_le _, Nat.zero_le _⟩ (fun H locs hP hS => ?_)
      refine lv_ixor hx hb dX8_isLikeAt_54 ?_
      refine lv_iload_n hx hb dX8_isLikeAt_55 rfl (lv_at hl 3 rfl) ?_
      obtain ⟨r56, σ56, hC56, hG⟩ := f_bd hG
      refine iv_X8_180 F hS hP (c_X8_isSquare l E N (r46 ^^^ r51) a3 σ51 _ _ hC56) ⟨Nat.le_of_ble_eq_true rfl, Nat.le_of_ble_eq_true rfl⟩ hl.1 (Nat.le_of_ble_eq_true rfl) dX8_isLikeAt_56 ⟨Nat.zero_le _, Nat.zero_le _⟩ (fun H locs hP hS => ?_)
      refine lv_if_eq (tgt := 66) hx hb dX8_isLikeAt_59 (by decide) (fun c59 => ?_) (fun c59 => ?_)
      · have hG := f_ip c59 hG
        refine lv_iconst (v := 0) hx hb dX8_isLikeAt_66 (by decide) ?_
        exact x_rz hR hS hP (Or.inl rfl) hG dX8_isLikeAt_67
      · have hG := f_in c59 hG
        refine lv_iconst (v := 1) hx hb dX8_isLikeAt_62 (by decide) ?_
        refine lv_goto (tgt := 67) hx hb dX8_isLikeAt_63 (by decide) ?_
        exact x_rz hR hS hP (Or.inr rfl) hG dX8_isLikeAt_67
  · have hG := f_ip c1 hG
    refine lv_aload_n hx hb dX8_isLikeAt_4 rfl (lv_at hl 0 rfl) ?_
    refine lv_iload_n hx hb dX8_isLikeAt_5 rfl (lv_at hl 1 rfl) ?_
    obtain ⟨r6, σ6, hC6, hG⟩ := f_bd hG
    refine iv_X8_214 F hS hP (c_X8_above l E N a1 σ _ _ hC6) ⟨Nat.le_of_ble_eq_true rfl, Nat.le_of_ble_eq_true rfl⟩ hl.1 (Nat.le_of_ble_eq_true rfl) dX8_isLikeAt_6 ⟨Nat.zero_le _, Nat.zero_le _⟩ (fun H locs hP hS => ?_)
    refine lv_aload_n hx hb dX8_isLikeAt_9 rfl (lv_at hl 0 rfl) ?_
    refine lv_iload_n hx hb dX8_isLikeAt_10 rfl (lv_at hl 2 rfl) ?_
    obtain ⟨r11, σ11, hC11, hG⟩ := f_bd hG
    refine iv_X8_214 F hS hP (c_X8_above l E N a2 σ6 _ _ hC11) ⟨Nat.le_of_ble_eq_true rfl, Nat.le_of_ble_eq_true rfl⟩ hl.1 (Nat.le_of_ble_eq_true rfl) dX8_isLikeAt_11 ⟨Nat.zero_le _, Nat.zero_le _⟩ (fun H locs hP hS => ?_)
    refine lv_icmp_ne (tgt := 21) hx hb dX8_isLikeAt_14 (by decide) (fun c14 => ?_) (fun c14 => ?_)
    · have hG := f_in c14 hG
      refine lv_iconst (v := 0) hx hb dX8_isLikeAt_21 (by decide) ?_
      exact x_rz hR hS hP (Or.inl rfl) hG dX8_isLikeAt_22
    · have hG := f_ip c14 hG
      refine lv_iconst (v := 1) hx hb dX8_isLikeAt_17 (by decide) ?_
      refine lv_goto (tgt := 22) hx hb dX8_isLikeAt_18 (by decide) ?_
      exact x_rz hR hS hP (Or.inr rfl) hG dX8_isLikeAt_22
theorem dX8_unlikeOf_0 : decode cX8_unlikeOf 0 = .ok (.iconst 0, 1) := by decide +kernel
theorem dX8_unlikeOf_1 : decode cX8_unlikeOf 1 = .ok (.istore_n 3, 1) := by decide +kernel
theorem dX8_unlikeOf_2 : decode cX8_unlikeOf 2 = .ok (.iconst 0, 1) := by decide +kernel
theorem dX8_unlikeOf_3 : decode cX8_unlikeOf 3 = .ok (.istore 4, 2) := by decide +kernel
theorem dX8_unlikeOf_5 : decode cX8_unlikeOf 5 = .ok (.iload 4, 2) := by decide +kernel
theorem dX8_unlikeOf_7 : decode cX8_unlikeOf 7 = .ok (.bipush 7, 2) := by decide +kernel
theorem dX8_unlikeOf_9 : decode cX8_unlikeOf 9 = .ok (.if_icmp .ge 46, 3) := by decide +kernel
theorem dX8_unlikeOf_12 : decode cX8_unlikeOf 12 = .ok (.iload_n 3, 1) := by decide +kernel
theorem dX8_unlikeOf_13 : decode cX8_unlikeOf 13 = .ok (.aload_n 0, 1) := by decide +kernel
theorem dX8_unlikeOf_14 : decode cX8_unlikeOf 14 = .ok (.getfield 7, 3) := by decide +kernel
theorem dX8_unlikeOf_17 : decode cX8_unlikeOf 17 = .ok (.iload_n 1, 1) := by decide +kernel
theorem dX8_unlikeOf_18 : decode cX8_unlikeOf 18 = .ok (.iaload, 1) := by decide +kernel
theorem dX8_unlikeOf_19 : decode cX8_unlikeOf 19 = .ok (.aload_n 0, 1) := by decide +kernel
theorem dX8_unlikeOf_20 : decode cX8_unlikeOf 20 = .ok (.getfield 7, 3) := by decide +kernel
theorem dX8_unlikeOf_23 : decode cX8_unlikeOf 23 = .ok (.iload_n 2, 1) := by decide +kernel
theorem dX8_unlikeOf_24 : decode cX8_unlikeOf 24 = .ok (.iaload, 1) := by decide +kernel
theorem dX8_unlikeOf_25 : decode cX8_unlikeOf 25 = .ok (.if_icmp .ne 18, 3) := by decide +kernel
theorem dX8_unlikeOf_28 : decode cX8_unlikeOf 28 = .ok (.aload_n 0, 1) := by decide +kernel
theorem dX8_unlikeOf_29 : decode cX8_unlikeOf 29 = .ok (.iload_n 1, 1) := by decide +kernel
theorem dX8_unlikeOf_30 : decode cX8_unlikeOf 30 = .ok (.iload_n 2, 1) := by decide +kernel
theorem dX8_unlikeOf_31 : decode cX8_unlikeOf 31 = .ok (.iload 4, 2) := by decide +kernel
theorem dX8_unlikeOf_33 : decode cX8_unlikeOf 33 = .ok (.invokevirtual 217, 3) := by decide +kernel
theorem dX8_unlikeOf_36 : decode cX8_unlikeOf 36 = .ok (.ifCond .eq 7, 3) := by decide +kernel
theorem dX8_unlikeOf_39 : decode cX8_unlikeOf 39 = .ok (.iconst 0, 1) := by decide +kernel
theorem dX8_unlikeOf_40 : decode cX8_unlikeOf 40 = .ok (.goto 7, 3) := by decide +kernel
theorem dX8_unlikeOf_43 : decode cX8_unlikeOf 43 = .ok (.iconst 1, 1) := by decide +kernel
theorem dX8_unlikeOf_44 : decode cX8_unlikeOf 44 = .ok (.iload 4, 2) := by decide +kernel
theorem dX8_unlikeOf_46 : decode cX8_unlikeOf 46 = .ok (.ishl, 1) := by decide +kernel
theorem dX8_unlikeOf_47 : decode cX8_unlikeOf 47 = .ok (.ior, 1) := by decide +kernel
theorem dX8_unlikeOf_48 : decode cX8_unlikeOf 48 = .ok (.istore_n 3, 1) := by decide +kernel
theorem dX8_unlikeOf_49 : decode cX8_unlikeOf 49 = .ok (.iinc 4 1, 3) := by decide +kernel
theorem dX8_unlikeOf_52 : decode cX8_unlikeOf 52 = .ok (.goto (-47), 3) := by decide +kernel
theorem dX8_unlikeOf_55 : decode cX8_unlikeOf 55 = .ok (.iload_n 3, 1) := by decide +kernel
theorem dX8_unlikeOf_56 : decode cX8_unlikeOf 56 = .ok (.ireturn, 1) := by decide +kernel
set_option maxHeartbeats 4000000 in
set_option maxRecDepth 100000 in
theorem c_X8_unlikeOf (l : Launch) (E : fEv) (N : Nat) (a1 : Int32) (a2 : Int32) (σ : fS) (r : Int32) (τ : fS) (hG : g_X8_unlikeOf N a1 a2 σ = some (r, τ)) : fM l E yX8_unlikeOf (.code yX8_unlikeOf cX8_unlikeOf 5 (some .int)) rm_X8_unlikeOf [.ref (E.2.1 61), .int a1, .int a2] σ τ (some (.int r)) := by
  refine f_openI (by decide) (Nat.le_of_ble_eq_true rfl) ?_
  intro p e s m below meth c args Q F hR hP ls hl
  have hx := F.1.1
  have hb := F.1.2.1
  have hown := F.1.2.2.2.1
  have hts := F.1.2.2.2.2
  have hS : va_S (f_A E) s.heap s.heap [] := va_S.rf
  skip
  have hl : lv_has ls 5 [(0, .ref (E.2.1 61)), (1, .int a1), (2, .int a2)] := hl
  unfold g_X8_unlikeOf at hG
  refine lv_iconst (v := 0) hx hb dX8_unlikeOf_0 (by decide) ?_
  refine lv_istore_n (lv' := [(3, .int (0 : Int32)), (0, .ref (E.2.1 61)), (1, .int a1), (2, .int a2)]) hx hb dX8_unlikeOf_1 rfl hl (by decide) rfl (fun ls hl => ?_)
  refine lv_iconst (v := 0) hx hb dX8_unlikeOf_2 (by decide) ?_
  refine lv_istore (lv' := [(4, .int (0 : Int32)), (3, .int (0 : Int32)), (0, .ref (E.2.1 61)), (1, .int a1), (2, .int a2)]) hx hb dX8_unlikeOf_3 hl (by decide) rfl (fun ls hl => ?_)
  obtain ⟨o5, σl5, hT5, hG⟩ := f_bd hG
  have T5 : ∀ (H : Heap) (locs : List Loc) (ls : Array Slot), f_h E σl5 H → va_S (f_A E) s.heap H locs → lv_has ls 5 [(3, .int o5)] → W p l e rm_X8_unlikeOf s m args below meth c H locs 0 0 Q (F0 m 55 ls []) := by
    intro H locs ls hP hS hl
    refine lv_iload_n hx hb dX8_unlikeOf_55 rfl (lv_at hl 0 rfl) ?_
    exact x_ri hR hS hP hG dX8_unlikeOf_56
  have L5 : ∀ (n5 : Nat) (x5_3 : Int32) (x5_4 : Int32) (σh5 : fS) (H : Heap) (locs : List Loc) (ls : Array Slot), f_h E σh5 H → va_S (f_A E) s.heap H locs → lv_has ls 5 [(0, .ref (E.2.1 61)), (1, .int a1), (2, .int a2), (3, .int x5_3), (4, .int x5_4)] → lp_X8_unlikeOf_5 N a1 a2 n5 x5_3 x5_4 σh5 = some (o5, σl5) → W p l e rm_X8_unlikeOf s m args below meth c H locs 0 0 Q (F0 m 5 ls []) := by
    intro n5
    induction n5 with
    | zero =>
      intro x5_3 x5_4 σh5 H locs ls hP hS hl hG
      rw [lp_X8_unlikeOf_5] at hG
      cases hG
    | succ n5 ih5 =>
      intro x5_3 x5_4 σh5 H locs ls hP hS hl hG
      rw [lp_X8_unlikeOf_5] at hG
      refine lv_iload hx hb dX8_unlikeOf_5 (lv_at hl 4 rfl) ?_
      refine lv_bipush (v := 7) hx hb dX8_unlikeOf_7 (by decide) ?_
      refine lv_icmp_ge (tgt := 55) hx hb dX8_unlikeOf_9 (by decide) (fun c9 => ?_) (fun c9 => ?_)
      · have hG := f_ip c9 hG
        cases hG
        exact T5 _ _ _ hP hS (lv_sub hl [3] rfl)
      · have hG := f_in c9 hG
        refine lv_iload_n hx hb dX8_unlikeOf_12 rfl (lv_at hl 3 rfl) ?_
        refine lv_aload_n hx hb dX8_unlikeOf_13 rfl (lv_at hl 0 rfl) ?_
        refine gf_X8_7 F hP dX8_unlikeOf_14 ?_
        refine lv_iload_n hx hb dX8_unlikeOf_17 rfl (lv_at hl 1 rfl) ?_
        obtain ⟨h18, hG⟩ := f_gd hG
        have i18 := f_fin h18
        refine x_iald F hP rfl rfl i18 dX8_unlikeOf_18 ?_
        refine lv_aload_n hx hb dX8_unlikeOf_19 rfl (lv_at hl 0 rfl) ?_
        refine gf_X8_7 F hP dX8_unlikeOf_20 ?_
        refine lv_iload_n hx hb dX8_unlikeOf_23 rfl (lv_at hl 2 rfl) ?_
        obtain ⟨h24, hG⟩ := f_gd hG
        have i24 := f_fin h24
        refine x_iald F hP rfl rfl i24 dX8_unlikeOf_24 ?_
        refine lv_icmp_ne (tgt := 43) hx hb dX8_unlikeOf_25 (by decide) (fun c25 => ?_) (fun c25 => ?_)
        · have hG := f_in c25 hG
          refine lv_iconst (v := 1) hx hb dX8_unlikeOf_43 (by decide) ?_
          refine lv_iload hx hb dX8_unlikeOf_44 (lv_at hl 4 rfl) ?_
          refine lv_ishl hx hb dX8_unlikeOf_46 ?_
          refine lv_ior hx hb dX8_unlikeOf_47 ?_
          refine lv_topi (fun v48 e48 => ?_)
          have hG := f_lt hG e48
          refine lv_istore_n (lv' := [(3, .int v48), (0, .ref (E.2.1 61)), (1, .int a1), (2, .int a2), (4, .int x5_4)]) hx hb dX8_unlikeOf_48 rfl hl (by decide) rfl (fun ls hl => ?_)
          refine lv_iinc (v := (x5_4 + (1 : Int32))) (lv' := [(4, .int (x5_4 + (1 : Int32))), (3, .int v48), (0, .ref (E.2.1 61)), (1, .int a1), (2, .int a2)]) hx hb dX8_unlikeOf_49 hl (k := 4) rfl (by rfl) (by decide) rfl (fun ls hl => ?_)
          refine lv_goto (tgt := 5) hx hb dX8_unlikeOf_52 (by decide) ?_
          exact ih5 v48 (x5_4 + (1 : Int32)) σh5 _ _ _ hP hS (lv_sub hl [2, 3, 4, 1, 0] rfl) hG
        · have hG := f_ip c25 hG
          refine lv_aload_n hx hb dX8_unlikeOf_28 rfl (lv_at hl 0 rfl) ?_
          refine lv_iload_n hx hb dX8_unlikeOf_29 rfl (lv_at hl 1 rfl) ?_
          refine lv_iload_n hx hb dX8_unlikeOf_30 rfl (lv_at hl 2 rfl) ?_
          refine lv_iload hx hb dX8_unlikeOf_31 (lv_at hl 4 rfl) ?_
          obtain ⟨r33, σ33, hC33, hG⟩ := f_bd hG
          refine iv_X8_217 F hS hP (c_X8_isLikeAt l E N a1 a2 x5_4 σh5 _ _ hC33) ⟨Nat.le_of_ble_eq_true rfl, Nat.le_of_ble_eq_true rfl⟩ hl.1 (Nat.le_of_ble_eq_true rfl) dX8_unlikeOf_33 ⟨Nat.zero_le _, Nat.zero_le _⟩ (fun H locs hP hS => ?_)
          refine lv_if_eq (tgt := 43) hx hb dX8_unlikeOf_36 (by decide) (fun c36 => ?_) (fun c36 => ?_)
          · have hG := f_ip c36 hG
            refine lv_iconst (v := 1) hx hb dX8_unlikeOf_43 (by decide) ?_
            refine lv_iload hx hb dX8_unlikeOf_44 (lv_at hl 4 rfl) ?_
            refine lv_ishl hx hb dX8_unlikeOf_46 ?_
            refine lv_ior hx hb dX8_unlikeOf_47 ?_
            refine lv_topi (fun v48 e48 => ?_)
            have hG := f_lt hG e48
            refine lv_istore_n (lv' := [(3, .int v48), (0, .ref (E.2.1 61)), (1, .int a1), (2, .int a2), (4, .int x5_4)]) hx hb dX8_unlikeOf_48 rfl hl (by decide) rfl (fun ls hl => ?_)
            refine lv_iinc (v := (x5_4 + (1 : Int32))) (lv' := [(4, .int (x5_4 + (1 : Int32))), (3, .int v48), (0, .ref (E.2.1 61)), (1, .int a1), (2, .int a2)]) hx hb dX8_unlikeOf_49 hl (k := 4) rfl (by rfl) (by decide) rfl (fun ls hl => ?_)
            refine lv_goto (tgt := 5) hx hb dX8_unlikeOf_52 (by decide) ?_
            exact ih5 v48 (x5_4 + (1 : Int32)) σ33 _ _ _ hP hS (lv_sub hl [2, 3, 4, 1, 0] rfl) hG
          · have hG := f_in c36 hG
            refine lv_iconst (v := 0) hx hb dX8_unlikeOf_39 (by decide) ?_
            refine lv_goto (tgt := 47) hx hb dX8_unlikeOf_40 (by decide) ?_
            refine lv_ior hx hb dX8_unlikeOf_47 ?_
            refine lv_topi (fun v48 e48 => ?_)
            have hG := f_lt hG e48
            refine lv_istore_n (lv' := [(3, .int v48), (0, .ref (E.2.1 61)), (1, .int a1), (2, .int a2), (4, .int x5_4)]) hx hb dX8_unlikeOf_48 rfl hl (by decide) rfl (fun ls hl => ?_)
            refine lv_iinc (v := (x5_4 + (1 : Int32))) (lv' := [(4, .int (x5_4 + (1 : Int32))), (3, .int v48), (0, .ref (E.2.1 61)), (1, .int a1), (2, .int a2)]) hx hb dX8_unlikeOf_49 hl (k := 4) rfl (by rfl) (by decide) rfl (fun ls hl => ?_)
            refine lv_goto (tgt := 5) hx hb dX8_unlikeOf_52 (by decide) ?_
            exact ih5 v48 (x5_4 + (1 : Int32)) σ33 _ _ _ hP hS (lv_sub hl [2, 3, 4, 1, 0] rfl) hG
  exact L5 N (0 : Int32) (0 : Int32) σ _ _ _ hP hS (lv_sub hl [2, 3, 4, 1, 0] rfl) hT5
theorem dX8_leastLike_0 : decode cX8_leastLike 0 = .ok (.iconst 0, 1) := by decide +kernel
theorem dX8_leastLike_1 : decode cX8_leastLike 1 = .ok (.istore_n 2, 1) := by decide +kernel
theorem dX8_leastLike_2 : decode cX8_leastLike 2 = .ok (.iload_n 2, 1) := by decide +kernel
theorem dX8_leastLike_3 : decode cX8_leastLike 3 = .ok (.iload_n 1, 1) := by decide +kernel
theorem dX8_leastLike_4 : decode cX8_leastLike 4 = .ok (.if_icmp .ge 27, 3) := by decide +kernel
theorem dX8_leastLike_7 : decode cX8_leastLike 7 = .ok (.aload_n 0, 1) := by decide +kernel
theorem dX8_leastLike_8 : decode cX8_leastLike 8 = .ok (.getfield 7, 3) := by decide +kernel
theorem dX8_leastLike_11 : decode cX8_leastLike 11 = .ok (.iload_n 2, 1) := by decide +kernel
theorem dX8_leastLike_12 : decode cX8_leastLike 12 = .ok (.iaload, 1) := by decide +kernel
theorem dX8_leastLike_13 : decode cX8_leastLike 13 = .ok (.ifCond .eq 12, 3) := by decide +kernel
theorem dX8_leastLike_16 : decode cX8_leastLike 16 = .ok (.aload_n 0, 1) := by decide +kernel
theorem dX8_leastLike_17 : decode cX8_leastLike 17 = .ok (.iload_n 2, 1) := by decide +kernel
theorem dX8_leastLike_18 : decode cX8_leastLike 18 = .ok (.iload_n 1, 1) := by decide +kernel
theorem dX8_leastLike_19 : decode cX8_leastLike 19 = .ok (.invokevirtual 220, 3) := by decide +kernel
theorem dX8_leastLike_22 : decode cX8_leastLike 22 = .ok (.ifCond .eq 9, 3) := by decide +kernel
theorem dX8_leastLike_25 : decode cX8_leastLike 25 = .ok (.iinc 2 1, 3) := by decide +kernel
theorem dX8_leastLike_28 : decode cX8_leastLike 28 = .ok (.goto (-26), 3) := by decide +kernel
theorem dX8_leastLike_31 : decode cX8_leastLike 31 = .ok (.iload_n 2, 1) := by decide +kernel
theorem dX8_leastLike_32 : decode cX8_leastLike 32 = .ok (.ireturn, 1) := by decide +kernel
set_option maxHeartbeats 4000000 in
set_option maxRecDepth 100000 in
theorem c_X8_leastLike (l : Launch) (E : fEv) (N : Nat) (a1 : Int32) (σ : fS) (r : Int32) (τ : fS) (hG : g_X8_leastLike N a1 σ = some (r, τ)) : fM l E yX8_leastLike (.code yX8_leastLike cX8_leastLike 3 (some .int)) rm_X8_leastLike [.ref (E.2.1 61), .int a1] σ τ (some (.int r)) := by
  refine f_openI (by decide) (Nat.le_of_ble_eq_true rfl) ?_
  intro p e s m below meth c args Q F hR hP ls hl
  have hx := F.1.1
  have hb := F.1.2.1
  have hown := F.1.2.2.2.1
  have hts := F.1.2.2.2.2
  have hS : va_S (f_A E) s.heap s.heap [] := va_S.rf
  skip
  have hl : lv_has ls 3 [(0, .ref (E.2.1 61)), (1, .int a1)] := hl
  unfold g_X8_leastLike at hG
  refine lv_iconst (v := 0) hx hb dX8_leastLike_0 (by decide) ?_
  refine lv_istore_n (lv' := [(2, .int (0 : Int32)), (0, .ref (E.2.1 61)), (1, .int a1)]) hx hb dX8_leastLike_1 rfl hl (by decide) rfl (fun ls hl => ?_)
  obtain ⟨o2, σl2, hT2, hG⟩ := f_bd hG
  have T2 : ∀ (H : Heap) (locs : List Loc) (ls : Array Slot), f_h E σl2 H → va_S (f_A E) s.heap H locs → lv_has ls 3 [(2, .int o2)] → W p l e rm_X8_leastLike s m args below meth c H locs 0 0 Q (F0 m 31 ls []) := by
    intro H locs ls hP hS hl
    refine lv_iload_n hx hb dX8_leastLike_31 rfl (lv_at hl 0 rfl) ?_
    exact x_ri hR hS hP hG dX8_leastLike_32
  have L2 : ∀ (n2 : Nat) (x2_2 : Int32) (σh2 : fS) (H : Heap) (locs : List Loc) (ls : Array Slot), f_h E σh2 H → va_S (f_A E) s.heap H locs → lv_has ls 3 [(0, .ref (E.2.1 61)), (1, .int a1), (2, .int x2_2)] → lp_X8_leastLike_2 N a1 n2 x2_2 σh2 = some (o2, σl2) → W p l e rm_X8_leastLike s m args below meth c H locs 0 0 Q (F0 m 2 ls []) := by
    intro n2
    induction n2 with
    | zero =>
      intro x2_2 σh2 H locs ls hP hS hl hG
      rw [lp_X8_leastLike_2] at hG
      cases hG
    | succ n2 ih2 =>
      intro x2_2 σh2 H locs ls hP hS hl hG
      rw [lp_X8_leastLike_2] at hG
      refine lv_iload_n hx hb dX8_leastLike_2 rfl (lv_at hl 2 rfl) ?_
      refine lv_iload_n hx hb dX8_leastLike_3 rfl (lv_at hl 1 rfl) ?_
      refine lv_icmp_ge (tgt := 31) hx hb dX8_leastLike_4 (by decide) (fun c4 => ?_) (fun c4 => ?_)
      · have hG := f_ip c4 hG
        cases hG
        exact T2 _ _ _ hP hS (lv_sub hl [2] rfl)
      · have hG := f_in c4 hG
        refine lv_aload_n hx hb dX8_leastLike_7 rfl (lv_at hl 0 rfl) ?_
        refine gf_X8_7 F hP dX8_leastLike_8 ?_
        refine lv_iload_n hx hb dX8_leastLike_11 rfl (lv_at hl 2 rfl) ?_
        obtain ⟨h12, hG⟩ := f_gd hG
        have i12 := f_fin h12
        refine x_iald F hP rfl rfl i12 dX8_leastLike_12 ?_
        refine lv_if_eq (tgt := 25) hx hb dX8_leastLike_13 (by decide) (fun c13 => ?_) (fun c13 => ?_)
        · have hG := f_ip c13 hG
          refine lv_iinc (v := (x2_2 + (1 : Int32))) (lv' := [(2, .int (x2_2 + (1 : Int32))), (0, .ref (E.2.1 61)), (1, .int a1)]) hx hb dX8_leastLike_25 hl (k := 2) rfl (by rfl) (by decide) rfl (fun ls hl => ?_)
          refine lv_goto (tgt := 2) hx hb dX8_leastLike_28 (by decide) ?_
          exact ih2 (x2_2 + (1 : Int32)) σh2 _ _ _ hP hS (lv_sub hl [1, 2, 0] rfl) hG
        · have hG := f_in c13 hG
          refine lv_aload_n hx hb dX8_leastLike_16 rfl (lv_at hl 0 rfl) ?_
          refine lv_iload_n hx hb dX8_leastLike_17 rfl (lv_at hl 2 rfl) ?_
          refine lv_iload_n hx hb dX8_leastLike_18 rfl (lv_at hl 1 rfl) ?_
          obtain ⟨r19, σ19, hC19, hG⟩ := f_bd hG
          refine iv_X8_220 F hS hP (c_X8_unlikeOf l E N x2_2 a1 σh2 _ _ hC19) ⟨Nat.le_of_ble_eq_true rfl, Nat.le_of_ble_eq_true rfl⟩ hl.1 (Nat.le_of_ble_eq_true rfl) dX8_leastLike_19 ⟨Nat.zero_le _, Nat.zero_le _⟩ (fun H locs hP hS => ?_)
          refine lv_if_eq (tgt := 31) hx hb dX8_leastLike_22 (by decide) (fun c22 => ?_) (fun c22 => ?_)
          · have hG := f_ip c22 hG
            cases hG
            exact T2 _ _ _ hP hS (lv_sub hl [2] rfl)
          · have hG := f_in c22 hG
            refine lv_iinc (v := (x2_2 + (1 : Int32))) (lv' := [(2, .int (x2_2 + (1 : Int32))), (0, .ref (E.2.1 61)), (1, .int a1)]) hx hb dX8_leastLike_25 hl (k := 2) rfl (by rfl) (by decide) rfl (fun ls hl => ?_)
            refine lv_goto (tgt := 2) hx hb dX8_leastLike_28 (by decide) ?_
            exact ih2 (x2_2 + (1 : Int32)) σ19 _ _ _ hP hS (lv_sub hl [1, 2, 0] rfl) hG
  exact L2 N (0 : Int32) σ _ _ _ hP hS (lv_sub hl [1, 2, 0] rfl) hT2
theorem dX8_aboutNow_0 : decode cX8_aboutNow 0 = .ok (.iload_n 2, 1) := by decide +kernel
theorem dX8_aboutNow_1 : decode cX8_aboutNow 1 = .ok (.tableswitch 96 0 7 #[47, 54, 60, 66, 72, 78, 84, 90], 47) := by decide +kernel
theorem dX8_aboutNow_48 : decode cX8_aboutNow 48 = .ok (.aload_n 0, 1) := by decide +kernel
theorem dX8_aboutNow_49 : decode cX8_aboutNow 49 = .ok (.getfield 7, 3) := by decide +kernel
theorem dX8_aboutNow_52 : decode cX8_aboutNow 52 = .ok (.iload_n 1, 1) := by decide +kernel
theorem dX8_aboutNow_53 : decode cX8_aboutNow 53 = .ok (.iaload, 1) := by decide +kernel
theorem dX8_aboutNow_54 : decode cX8_aboutNow 54 = .ok (.ireturn, 1) := by decide +kernel
theorem dX8_aboutNow_55 : decode cX8_aboutNow 55 = .ok (.aload_n 0, 1) := by decide +kernel
theorem dX8_aboutNow_56 : decode cX8_aboutNow 56 = .ok (.iload_n 1, 1) := by decide +kernel
theorem dX8_aboutNow_57 : decode cX8_aboutNow 57 = .ok (.invokevirtual 214, 3) := by decide +kernel
theorem dX8_aboutNow_60 : decode cX8_aboutNow 60 = .ok (.ireturn, 1) := by decide +kernel
theorem dX8_aboutNow_61 : decode cX8_aboutNow 61 = .ok (.aload_n 0, 1) := by decide +kernel
theorem dX8_aboutNow_62 : decode cX8_aboutNow 62 = .ok (.iload_n 1, 1) := by decide +kernel
theorem dX8_aboutNow_63 : decode cX8_aboutNow 63 = .ok (.invokevirtual 202, 3) := by decide +kernel
theorem dX8_aboutNow_66 : decode cX8_aboutNow 66 = .ok (.ireturn, 1) := by decide +kernel
theorem dX8_aboutNow_67 : decode cX8_aboutNow 67 = .ok (.aload_n 0, 1) := by decide +kernel
theorem dX8_aboutNow_68 : decode cX8_aboutNow 68 = .ok (.iload_n 1, 1) := by decide +kernel
theorem dX8_aboutNow_69 : decode cX8_aboutNow 69 = .ok (.invokevirtual 208, 3) := by decide +kernel
theorem dX8_aboutNow_72 : decode cX8_aboutNow 72 = .ok (.ireturn, 1) := by decide +kernel
theorem dX8_aboutNow_73 : decode cX8_aboutNow 73 = .ok (.aload_n 0, 1) := by decide +kernel
theorem dX8_aboutNow_74 : decode cX8_aboutNow 74 = .ok (.iload_n 1, 1) := by decide +kernel
theorem dX8_aboutNow_75 : decode cX8_aboutNow 75 = .ok (.invokevirtual 199, 3) := by decide +kernel
theorem dX8_aboutNow_78 : decode cX8_aboutNow 78 = .ok (.ireturn, 1) := by decide +kernel
theorem dX8_aboutNow_79 : decode cX8_aboutNow 79 = .ok (.aload_n 0, 1) := by decide +kernel
theorem dX8_aboutNow_80 : decode cX8_aboutNow 80 = .ok (.iload_n 1, 1) := by decide +kernel
theorem dX8_aboutNow_81 : decode cX8_aboutNow 81 = .ok (.invokevirtual 205, 3) := by decide +kernel
theorem dX8_aboutNow_84 : decode cX8_aboutNow 84 = .ok (.ireturn, 1) := by decide +kernel
theorem dX8_aboutNow_85 : decode cX8_aboutNow 85 = .ok (.aload_n 0, 1) := by decide +kernel
theorem dX8_aboutNow_86 : decode cX8_aboutNow 86 = .ok (.iload_n 1, 1) := by decide +kernel
theorem dX8_aboutNow_87 : decode cX8_aboutNow 87 = .ok (.invokevirtual 211, 3) := by decide +kernel
theorem dX8_aboutNow_90 : decode cX8_aboutNow 90 = .ok (.ireturn, 1) := by decide +kernel
theorem dX8_aboutNow_91 : decode cX8_aboutNow 91 = .ok (.aload_n 0, 1) := by decide +kernel
theorem dX8_aboutNow_92 : decode cX8_aboutNow 92 = .ok (.iload_n 1, 1) := by decide +kernel
theorem dX8_aboutNow_93 : decode cX8_aboutNow 93 = .ok (.invokevirtual 223, 3) := by decide +kernel
theorem dX8_aboutNow_96 : decode cX8_aboutNow 96 = .ok (.ireturn, 1) := by decide +kernel
theorem dX8_aboutNow_97 : decode cX8_aboutNow 97 = .ok (.aload_n 0, 1) := by decide +kernel
theorem dX8_aboutNow_98 : decode cX8_aboutNow 98 = .ok (.iload_n 1, 1) := by decide +kernel
theorem dX8_aboutNow_99 : decode cX8_aboutNow 99 = .ok (.invokevirtual 226, 3) := by decide +kernel
theorem dX8_aboutNow_102 : decode cX8_aboutNow 102 = .ok (.ireturn, 1) := by decide +kernel
set_option maxHeartbeats 4000000 in
set_option maxRecDepth 100000 in
theorem c_X8_aboutNow (l : Launch) (E : fEv) (N : Nat) (a1 : Int32) (a2 : Int32) (σ : fS) (r : Int32) (τ : fS) (hG : g_X8_aboutNow N a1 a2 σ = some (r, τ)) : fM l E yX8_aboutNow (.code yX8_aboutNow cX8_aboutNow 3 (some .int)) rm_X8_aboutNow [.ref (E.2.1 61), .int a1, .int a2] σ τ (some (.int r)) := by
  refine f_openI (by decide) (Nat.le_of_ble_eq_true rfl) ?_
  intro p e s m below meth c args Q F hR hP ls hl
  have hx := F.1.1
  have hb := F.1.2.1
  have hown := F.1.2.2.2.1
  have hts := F.1.2.2.2.2
  have hS : va_S (f_A E) s.heap s.heap [] := va_S.rf
  skip
  have hl : lv_has ls 3 [(0, .ref (E.2.1 61)), (1, .int a1), (2, .int a2)] := hl
  unfold g_X8_aboutNow at hG
  refine lv_iload_n hx hb dX8_aboutNow_0 rfl (lv_at hl 2 rfl) ?_
  by_cases c1_0 : a2 = 0
  · have hG := f_ip c1_0 hG
    refine lv_tableIn (off := 47) (tgt := 48) hx hb dX8_aboutNow_1 (by rw [c1_0]; decide) (by rw [c1_0]; decide) (by rw [c1_0]; rfl) (by decide) ?_
    refine lv_aload_n hx hb dX8_aboutNow_48 rfl (lv_at hl 0 rfl) ?_
    refine gf_X8_7 F hP dX8_aboutNow_49 ?_
    refine lv_iload_n hx hb dX8_aboutNow_52 rfl (lv_at hl 1 rfl) ?_
    obtain ⟨h53, hG⟩ := f_gd hG
    have i53 := f_fin h53
    refine x_iald F hP rfl rfl i53 dX8_aboutNow_53 ?_
    exact x_ri hR hS hP hG dX8_aboutNow_54
  · have hG := f_in c1_0 hG
    by_cases c1_1 : a2 = 1
    · have hG := f_ip c1_1 hG
      refine lv_tableIn (off := 54) (tgt := 55) hx hb dX8_aboutNow_1 (by rw [c1_1]; decide) (by rw [c1_1]; decide) (by rw [c1_1]; rfl) (by decide) ?_
      refine lv_aload_n hx hb dX8_aboutNow_55 rfl (lv_at hl 0 rfl) ?_
      refine lv_iload_n hx hb dX8_aboutNow_56 rfl (lv_at hl 1 rfl) ?_
      obtain ⟨r57, σ57, hC57, hG⟩ := f_bd hG
      refine iv_X8_214 F hS hP (c_X8_above l E N a1 σ _ _ hC57) ⟨Nat.le_of_ble_eq_true rfl, Nat.le_of_ble_eq_true rfl⟩ hl.1 (Nat.le_of_ble_eq_true rfl) dX8_aboutNow_57 ⟨Nat.zero_le _, Nat.zero_le _⟩ (fun H locs hP hS => ?_)
      exact x_ri hR hS hP hG dX8_aboutNow_60
    · have hG := f_in c1_1 hG
      by_cases c1_2 : a2 = 2
      · have hG := f_ip c1_2 hG
        refine lv_tableIn (off := 60) (tgt := 61) hx hb dX8_aboutNow_1 (by rw [c1_2]; decide) (by rw [c1_2]; decide) (by rw [c1_2]; rfl) (by decide) ?_
        refine lv_aload_n hx hb dX8_aboutNow_61 rfl (lv_at hl 0 rfl) ?_
        refine lv_iload_n hx hb dX8_aboutNow_62 rfl (lv_at hl 1 rfl) ?_
        obtain ⟨r63, σ63, hC63, hG⟩ := f_bd hG
        refine iv_X8_202 F hS hP (c_X8_det l E N a1 σ _ _ hC63) ⟨Nat.le_of_ble_eq_true rfl, Nat.le_of_ble_eq_true rfl⟩ hl.1 (Nat.le_of_ble_eq_true rfl) dX8_aboutNow_63 ⟨Nat.zero_le _, Nat.zero_le _⟩ (fun H locs hP hS => ?_)
        exact x_ri hR hS hP hG dX8_aboutNow_66
      · have hG := f_in c1_2 hG
        by_cases c1_3 : a2 = 3
        · have hG := f_ip c1_3 hG
          refine lv_tableIn (off := 66) (tgt := 67) hx hb dX8_aboutNow_1 (by rw [c1_3]; decide) (by rw [c1_3]; decide) (by rw [c1_3]; rfl) (by decide) ?_
          refine lv_aload_n hx hb dX8_aboutNow_67 rfl (lv_at hl 0 rfl) ?_
          refine lv_iload_n hx hb dX8_aboutNow_68 rfl (lv_at hl 1 rfl) ?_
          obtain ⟨r69, σ69, hC69, hG⟩ := f_bd hG
          refine iv_X8_208 F hS hP (c_X8_hasseOf l E N a1 σ _ _ hC69) ⟨Nat.le_of_ble_eq_true rfl, Nat.le_of_ble_eq_true rfl⟩ hl.1 (Nat.le_of_ble_eq_true rfl) dX8_aboutNow_69 ⟨Nat.zero_le _, Nat.zero_le _⟩ (fun H locs hP hS => ?_)
          exact x_ri hR hS hP hG dX8_aboutNow_72
        · have hG := f_in c1_3 hG
          by_cases c1_4 : a2 = 4
          · have hG := f_ip c1_4 hG
            refine lv_tableIn (off := 72) (tgt := 73) hx hb dX8_aboutNow_1 (by rw [c1_4]; decide) (by rw [c1_4]; decide) (by rw [c1_4]; rfl) (by decide) ?_
            refine lv_aload_n hx hb dX8_aboutNow_73 rfl (lv_at hl 0 rfl) ?_
            refine lv_iload_n hx hb dX8_aboutNow_74 rfl (lv_at hl 1 rfl) ?_
            obtain ⟨r75, σ75, hC75, hG⟩ := f_bd hG
            refine iv_X8_199 F hS hP (c_X8_barsOf l E N a1 σ _ _ hC75) ⟨Nat.le_of_ble_eq_true rfl, Nat.le_of_ble_eq_true rfl⟩ hl.1 (Nat.le_of_ble_eq_true rfl) dX8_aboutNow_75 ⟨Nat.zero_le _, Nat.zero_le _⟩ (fun H locs hP hS => ?_)
            exact x_ri hR hS hP hG dX8_aboutNow_78
          · have hG := f_in c1_4 hG
            by_cases c1_5 : a2 = 5
            · have hG := f_ip c1_5 hG
              refine lv_tableIn (off := 78) (tgt := 79) hx hb dX8_aboutNow_1 (by rw [c1_5]; decide) (by rw [c1_5]; decide) (by rw [c1_5]; rfl) (by decide) ?_
              refine lv_aload_n hx hb dX8_aboutNow_79 rfl (lv_at hl 0 rfl) ?_
              refine lv_iload_n hx hb dX8_aboutNow_80 rfl (lv_at hl 1 rfl) ?_
              obtain ⟨r81, σ81, hC81, hG⟩ := f_bd hG
              refine iv_X8_205 F hS hP (c_X8_planes l E N a1 σ _ _ hC81) ⟨Nat.le_of_ble_eq_true rfl, Nat.le_of_ble_eq_true rfl⟩ hl.1 (Nat.le_of_ble_eq_true rfl) dX8_aboutNow_81 ⟨Nat.zero_le _, Nat.zero_le _⟩ (fun H locs hP hS => ?_)
              exact x_ri hR hS hP hG dX8_aboutNow_84
            · have hG := f_in c1_5 hG
              by_cases c1_6 : a2 = 6
              · have hG := f_ip c1_6 hG
                refine lv_tableIn (off := 84) (tgt := 85) hx hb dX8_aboutNow_1 (by rw [c1_6]; decide) (by rw [c1_6]; decide) (by rw [c1_6]; rfl) (by decide) ?_
                refine lv_aload_n hx hb dX8_aboutNow_85 rfl (lv_at hl 0 rfl) ?_
                refine lv_iload_n hx hb dX8_aboutNow_86 rfl (lv_at hl 1 rfl) ?_
                obtain ⟨r87, σ87, hC87, hG⟩ := f_bd hG
                refine iv_X8_211 F hS hP (c_X8_restDet l E N a1 σ _ _ hC87) ⟨Nat.le_of_ble_eq_true rfl, Nat.le_of_ble_eq_true rfl⟩ hl.1 (Nat.le_of_ble_eq_true rfl) dX8_aboutNow_87 ⟨Nat.zero_le _, Nat.zero_le _⟩ (fun H locs hP hS => ?_)
                exact x_ri hR hS hP hG dX8_aboutNow_90
              · have hG := f_in c1_6 hG
                by_cases c1_7 : a2 = 7
                · have hG := f_ip c1_7 hG
                  refine lv_tableIn (off := 90) (tgt := 91) hx hb dX8_aboutNow_1 (by rw [c1_7]; decide) (by rw [c1_7]; decide) (by rw [c1_7]; rfl) (by decide) ?_
                  refine lv_aload_n hx hb dX8_aboutNow_91 rfl (lv_at hl 0 rfl) ?_
                  refine lv_iload_n hx hb dX8_aboutNow_92 rfl (lv_at hl 1 rfl) ?_
                  obtain ⟨r93, σ93, hC93, hG⟩ := f_bd hG
                  refine iv_X8_223 F hS hP (c_X8_restHasse l E N a1 σ _ _ hC93) ⟨Nat.le_of_ble_eq_true rfl, Nat.le_of_ble_eq_true rfl⟩ hl.1 (Nat.le_of_ble_eq_true rfl) dX8_aboutNow_93 ⟨Nat.zero_le _, Nat.zero_le _⟩ (fun H locs hP hS => ?_)
                  exact x_ri hR hS hP hG dX8_aboutNow_96
                · have hG := f_in c1_7 hG
                  have n1_0 := lv_neT c1_0 (show (0 : Int32).toInt = 0 from rfl)
                  have n1_1 := lv_neT c1_1 (show (1 : Int32).toInt = 1 from rfl)
                  have n1_2 := lv_neT c1_2 (show (2 : Int32).toInt = 2 from rfl)
                  have n1_3 := lv_neT c1_3 (show (3 : Int32).toInt = 3 from rfl)
                  have n1_4 := lv_neT c1_4 (show (4 : Int32).toInt = 4 from rfl)
                  have n1_5 := lv_neT c1_5 (show (5 : Int32).toInt = 5 from rfl)
                  have n1_6 := lv_neT c1_6 (show (6 : Int32).toInt = 6 from rfl)
                  have n1_7 := lv_neT c1_7 (show (7 : Int32).toInt = 7 from rfl)
                  refine lv_tableOut (tgt := 97) hx hb dX8_aboutNow_1 (by omega) (by decide) ?_
                  refine lv_aload_n hx hb dX8_aboutNow_97 rfl (lv_at hl 0 rfl) ?_
                  refine lv_iload_n hx hb dX8_aboutNow_98 rfl (lv_at hl 1 rfl) ?_
                  obtain ⟨r99, σ99, hC99, hG⟩ := f_bd hG
                  refine iv_X8_226 F hS hP (c_X8_leastLike l E N a1 σ _ _ hC99) ⟨Nat.le_of_ble_eq_true rfl, Nat.le_of_ble_eq_true rfl⟩ hl.1 (Nat.le_of_ble_eq_true rfl) dX8_aboutNow_99 ⟨Nat.zero_le _, Nat.zero_le _⟩ (fun H locs hP hS => ?_)
                  exact x_ri hR hS hP hG dX8_aboutNow_102
theorem dX8_about_0 : decode cX8_about 0 = .ok (.aload_n 0, 1) := by decide +kernel
theorem dX8_about_1 : decode cX8_about 1 = .ok (.iload_n 1, 1) := by decide +kernel
theorem dX8_about_2 : decode cX8_about 2 = .ok (.invokevirtual 155, 3) := by decide +kernel
theorem dX8_about_5 : decode cX8_about 5 = .ok (.ifCond .ne 8, 3) := by decide +kernel
theorem dX8_about_8 : decode cX8_about 8 = .ok (.bipush (-101), 2) := by decide +kernel
theorem dX8_about_10 : decode cX8_about 10 = .ok (.goto 24, 3) := by decide +kernel
theorem dX8_about_13 : decode cX8_about 13 = .ok (.iload_n 2, 1) := by decide +kernel
theorem dX8_about_14 : decode cX8_about 14 = .ok (.iconst 0, 1) := by decide +kernel
theorem dX8_about_15 : decode cX8_about 15 = .ok (.bipush 8, 2) := by decide +kernel
theorem dX8_about_17 : decode cX8_about 17 = .ok (.invokestatic 89, 3) := by decide +kernel
theorem dX8_about_20 : decode cX8_about 20 = .ok (.ifCond .eq 12, 3) := by decide +kernel
theorem dX8_about_23 : decode cX8_about 23 = .ok (.aload_n 0, 1) := by decide +kernel
theorem dX8_about_24 : decode cX8_about 24 = .ok (.iload_n 1, 1) := by decide +kernel
theorem dX8_about_25 : decode cX8_about 25 = .ok (.iload_n 2, 1) := by decide +kernel
theorem dX8_about_26 : decode cX8_about 26 = .ok (.invokevirtual 229, 3) := by decide +kernel
theorem dX8_about_29 : decode cX8_about 29 = .ok (.goto 5, 3) := by decide +kernel
theorem dX8_about_32 : decode cX8_about 32 = .ok (.bipush (-102), 2) := by decide +kernel
theorem dX8_about_34 : decode cX8_about 34 = .ok (.ireturn, 1) := by decide +kernel
set_option maxHeartbeats 4000000 in
set_option maxRecDepth 100000 in
theorem c_X8_about (l : Launch) (E : fEv) (N : Nat) (a1 : Int32) (a2 : Int32) (σ : fS) (r : Int32) (τ : fS) (hG : g_X8_about N a1 a2 σ = some (r, τ)) : fM l E yX8_about (.code yX8_about cX8_about 3 (some .int)) rm_X8_about [.ref (E.2.1 61), .int a1, .int a2] σ τ (some (.int r)) := by
  refine f_openI (by decide) (Nat.le_of_ble_eq_true rfl) ?_
  intro p e s m below meth c args Q F hR hP ls hl
  have hx := F.1.1
  have hb := F.1.2.1
  have hown := F.1.2.2.2.1
  have hts := F.1.2.2.2.2
  have hS : va_S (f_A E) s.heap s.heap [] := va_S.rf
  skip
  have hl : lv_has ls 3 [(0, .ref (E.2.1 61)), (1, .int a1), (2, .int a2)] := hl
  unfold g_X8_about at hG
  refine lv_aload_n hx hb dX8_about_0 rfl (lv_at hl 0 rfl) ?_
  refine lv_iload_n hx hb dX8_about_1 rfl (lv_at hl 1 rfl) ?_
  obtain ⟨r2, σ2, hC2, hG⟩ := f_bd hG
  refine iv_X8_155 F hS hP (c_X8_isForm l E N a1 σ _ _ hC2) ⟨Nat.le_of_ble_eq_true rfl, Nat.le_of_ble_eq_true rfl⟩ hl.1 (Nat.le_of_ble_eq_true rfl) dX8_about_2 ⟨Nat.zero_le _, Nat.zero_le _⟩ (fun H locs hP hS => ?_)
  refine lv_if_ne (tgt := 13) hx hb dX8_about_5 (by decide) (fun c5 => ?_) (fun c5 => ?_)
  · have hG := f_in c5 hG
    refine lv_iload_n hx hb dX8_about_13 rfl (lv_at hl 2 rfl) ?_
    refine lv_iconst (v := 0) hx hb dX8_about_14 (by decide) ?_
    refine lv_bipush (v := 8) hx hb dX8_about_15 (by decide) ?_
    obtain ⟨r17, σ17, hC17, hG⟩ := f_bd hG
    refine iv_X8_89 F hS hP (c_X8_within l E N a2 (0 : Int32) (8 : Int32) σ2 _ _ hC17) ⟨Nat.le_of_ble_eq_true rfl, Nat.le_of_ble_eq_true rfl⟩ hl.1 (Nat.le_of_ble_eq_true rfl) dX8_about_17 ⟨Nat.zero_le _, Nat.zero_le _⟩ (fun H locs hP hS => ?_)
    refine lv_if_eq (tgt := 32) hx hb dX8_about_20 (by decide) (fun c20 => ?_) (fun c20 => ?_)
    · have hG := f_ip c20 hG
      refine lv_bipush (v := -102) hx hb dX8_about_32 (by decide) ?_
      exact x_ri hR hS hP hG dX8_about_34
    · have hG := f_in c20 hG
      refine lv_aload_n hx hb dX8_about_23 rfl (lv_at hl 0 rfl) ?_
      refine lv_iload_n hx hb dX8_about_24 rfl (lv_at hl 1 rfl) ?_
      refine lv_iload_n hx hb dX8_about_25 rfl (lv_at hl 2 rfl) ?_
      obtain ⟨r26, σ26, hC26, hG⟩ := f_bd hG
      refine iv_X8_229 F hS hP (c_X8_aboutNow l E N a1 a2 σ17 _ _ hC26) ⟨Nat.le_of_ble_eq_true rfl, Nat.le_of_ble_eq_true rfl⟩ hl.1 (Nat.le_of_ble_eq_true rfl) dX8_about_26 ⟨Nat.zero_le _, Nat.zero_le _⟩ (fun H locs hP hS => ?_)
      refine lv_goto (tgt := 34) hx hb dX8_about_29 (by decide) ?_
      exact x_ri hR hS hP hG dX8_about_34
  · have hG := f_ip c5 hG
    refine lv_bipush (v := -101) hx hb dX8_about_8 (by decide) ?_
    refine lv_goto (tgt := 34) hx hb dX8_about_10 (by decide) ?_
    exact x_ri hR hS hP hG dX8_about_34
theorem dX8_like_0 : decode cX8_like 0 = .ok (.aload_n 0, 1) := by decide +kernel
theorem dX8_like_1 : decode cX8_like 1 = .ok (.iload_n 1, 1) := by decide +kernel
theorem dX8_like_2 : decode cX8_like 2 = .ok (.invokevirtual 155, 3) := by decide +kernel
theorem dX8_like_5 : decode cX8_like 5 = .ok (.ifCond .eq 20, 3) := by decide +kernel
theorem dX8_like_8 : decode cX8_like 8 = .ok (.aload_n 0, 1) := by decide +kernel
theorem dX8_like_9 : decode cX8_like 9 = .ok (.iload_n 2, 1) := by decide +kernel
theorem dX8_like_10 : decode cX8_like 10 = .ok (.invokevirtual 155, 3) := by decide +kernel
theorem dX8_like_13 : decode cX8_like 13 = .ok (.ifCond .eq 12, 3) := by decide +kernel
theorem dX8_like_16 : decode cX8_like 16 = .ok (.aload_n 0, 1) := by decide +kernel
theorem dX8_like_17 : decode cX8_like 17 = .ok (.iload_n 1, 1) := by decide +kernel
theorem dX8_like_18 : decode cX8_like 18 = .ok (.iload_n 2, 1) := by decide +kernel
theorem dX8_like_19 : decode cX8_like 19 = .ok (.invokevirtual 220, 3) := by decide +kernel
theorem dX8_like_22 : decode cX8_like 22 = .ok (.goto 5, 3) := by decide +kernel
theorem dX8_like_25 : decode cX8_like 25 = .ok (.bipush (-101), 2) := by decide +kernel
theorem dX8_like_27 : decode cX8_like 27 = .ok (.ireturn, 1) := by decide +kernel
set_option maxHeartbeats 4000000 in
set_option maxRecDepth 100000 in
theorem c_X8_like (l : Launch) (E : fEv) (N : Nat) (a1 : Int32) (a2 : Int32) (σ : fS) (r : Int32) (τ : fS) (hG : g_X8_like N a1 a2 σ = some (r, τ)) : fM l E yX8_like (.code yX8_like cX8_like 3 (some .int)) rm_X8_like [.ref (E.2.1 61), .int a1, .int a2] σ τ (some (.int r)) := by
  refine f_openI (by decide) (Nat.le_of_ble_eq_true rfl) ?_
  intro p e s m below meth c args Q F hR hP ls hl
  have hx := F.1.1
  have hb := F.1.2.1
  have hown := F.1.2.2.2.1
  have hts := F.1.2.2.2.2
  have hS : va_S (f_A E) s.heap s.heap [] := va_S.rf
  skip
  have hl : lv_has ls 3 [(0, .ref (E.2.1 61)), (1, .int a1), (2, .int a2)] := hl
  unfold g_X8_like at hG
  refine lv_aload_n hx hb dX8_like_0 rfl (lv_at hl 0 rfl) ?_
  refine lv_iload_n hx hb dX8_like_1 rfl (lv_at hl 1 rfl) ?_
  obtain ⟨r2, σ2, hC2, hG⟩ := f_bd hG
  refine iv_X8_155 F hS hP (c_X8_isForm l E N a1 σ _ _ hC2) ⟨Nat.le_of_ble_eq_true rfl, Nat.le_of_ble_eq_true rfl⟩ hl.1 (Nat.le_of_ble_eq_true rfl) dX8_like_2 ⟨Nat.zero_le _, Nat.zero_le _⟩ (fun H locs hP hS => ?_)
  refine lv_if_eq (tgt := 25) hx hb dX8_like_5 (by decide) (fun c5 => ?_) (fun c5 => ?_)
  · have hG := f_ip c5 hG
    refine lv_bipush (v := -101) hx hb dX8_like_25 (by decide) ?_
    exact x_ri hR hS hP hG dX8_like_27
  · have hG := f_in c5 hG
    refine lv_aload_n hx hb dX8_like_8 rfl (lv_at hl 0 rfl) ?_
    refine lv_iload_n hx hb dX8_like_9 rfl (lv_at hl 2 rfl) ?_
    obtain ⟨r10, σ10, hC10, hG⟩ := f_bd hG
    refine iv_X8_155 F hS hP (c_X8_isForm l E N a2 σ2 _ _ hC10) ⟨Nat.le_of_ble_eq_true rfl, Nat.le_of_ble_eq_true rfl⟩ hl.1 (Nat.le_of_ble_eq_true rfl) dX8_like_10 ⟨Nat.zero_le _, Nat.zero_le _⟩ (fun H locs hP hS => ?_)
    refine lv_if_eq (tgt := 25) hx hb dX8_like_13 (by decide) (fun c13 => ?_) (fun c13 => ?_)
    · have hG := f_ip c13 hG
      refine lv_bipush (v := -101) hx hb dX8_like_25 (by decide) ?_
      exact x_ri hR hS hP hG dX8_like_27
    · have hG := f_in c13 hG
      refine lv_aload_n hx hb dX8_like_16 rfl (lv_at hl 0 rfl) ?_
      refine lv_iload_n hx hb dX8_like_17 rfl (lv_at hl 1 rfl) ?_
      refine lv_iload_n hx hb dX8_like_18 rfl (lv_at hl 2 rfl) ?_
      obtain ⟨r19, σ19, hC19, hG⟩ := f_bd hG
      refine iv_X8_220 F hS hP (c_X8_unlikeOf l E N a1 a2 σ10 _ _ hC19) ⟨Nat.le_of_ble_eq_true rfl, Nat.le_of_ble_eq_true rfl⟩ hl.1 (Nat.le_of_ble_eq_true rfl) dX8_like_19 ⟨Nat.zero_le _, Nat.zero_le _⟩ (fun H locs hP hS => ?_)
      refine lv_goto (tgt := 27) hx hb dX8_like_22 (by decide) ?_
      exact x_ri hR hS hP hG dX8_like_27
theorem dX8_meetsNow_0 : decode cX8_meetsNow 0 = .ok (.aload_n 0, 1) := by decide +kernel
theorem dX8_meetsNow_1 : decode cX8_meetsNow 1 = .ok (.iload_n 1, 1) := by decide +kernel
theorem dX8_meetsNow_2 : decode cX8_meetsNow 2 = .ok (.invokevirtual 190, 3) := by decide +kernel
theorem dX8_meetsNow_5 : decode cX8_meetsNow 5 = .ok (.aload_n 0, 1) := by decide +kernel
theorem dX8_meetsNow_6 : decode cX8_meetsNow 6 = .ok (.iload_n 2, 1) := by decide +kernel
theorem dX8_meetsNow_7 : decode cX8_meetsNow 7 = .ok (.invokestatic 138, 3) := by decide +kernel
theorem dX8_meetsNow_10 : decode cX8_meetsNow 10 = .ok (.invokevirtual 232, 3) := by decide +kernel
theorem dX8_meetsNow_13 : decode cX8_meetsNow 13 = .ok (.aload_n 0, 1) := by decide +kernel
theorem dX8_meetsNow_14 : decode cX8_meetsNow 14 = .ok (.invokevirtual 193, 3) := by decide +kernel
theorem dX8_meetsNow_17 : decode cX8_meetsNow 17 = .ok (.ireturn, 1) := by decide +kernel
set_option maxHeartbeats 4000000 in
set_option maxRecDepth 100000 in
theorem c_X8_meetsNow (l : Launch) (E : fEv) (N : Nat) (a1 : Int32) (a2 : Int32) (σ : fS) (r : Int32) (τ : fS) (hG : g_X8_meetsNow N a1 a2 σ = some (r, τ)) : fM l E yX8_meetsNow (.code yX8_meetsNow cX8_meetsNow 3 (some .int)) rm_X8_meetsNow [.ref (E.2.1 61), .int a1, .int a2] σ τ (some (.int r)) := by
  refine f_openI (by decide) (Nat.le_of_ble_eq_true rfl) ?_
  intro p e s m below meth c args Q F hR hP ls hl
  have hx := F.1.1
  have hb := F.1.2.1
  have hown := F.1.2.2.2.1
  have hts := F.1.2.2.2.2
  have hS : va_S (f_A E) s.heap s.heap [] := va_S.rf
  skip
  have hl : lv_has ls 3 [(0, .ref (E.2.1 61)), (1, .int a1), (2, .int a2)] := hl
  unfold g_X8_meetsNow at hG
  refine lv_aload_n hx hb dX8_meetsNow_0 rfl (lv_at hl 0 rfl) ?_
  refine lv_iload_n hx hb dX8_meetsNow_1 rfl (lv_at hl 1 rfl) ?_
  obtain ⟨σ2, hC2, hG⟩ := f_bv hG
  refine iv_X8_190 F hS hP (c_X8_lookAt l E N a1 σ _ hC2) ⟨Nat.le_of_ble_eq_true rfl, Nat.le_of_ble_eq_true rfl⟩ hl.1 (Nat.le_of_ble_eq_true rfl) dX8_meetsNow_2 ⟨Nat.zero_le _, Nat.zero_le _⟩ (fun H locs hP hS => ?_)
  refine lv_aload_n hx hb dX8_meetsNow_5 rfl (lv_at hl 0 rfl) ?_
  refine lv_iload_n hx hb dX8_meetsNow_6 rfl (lv_at hl 2 rfl) ?_
  obtain ⟨r7, σ7, hC7, hG⟩ := f_bd hG
  refine iv_X8_138 F hS hP (c_X8_kindOf l E N a2 σ2 _ _ hC7) ⟨Nat.le_of_ble_eq_true rfl, Nat.le_of_ble_eq_true rfl⟩ hl.1 (Nat.le_of_ble_eq_true rfl) dX8_meetsNow_7 ⟨Nat.zero_le _, Nat.zero_le _⟩ (fun H locs hP hS => ?_)
  obtain ⟨σ10, hC10, hG⟩ := f_bv hG
  refine iv_X8_232 F hS hP (c_X8_lookMore l E N r7 σ7 _ hC10) ⟨Nat.le_of_ble_eq_true rfl, Nat.le_of_ble_eq_true rfl⟩ hl.1 (Nat.le_of_ble_eq_true rfl) dX8_meetsNow_10 ⟨Nat.zero_le _, Nat.zero_le _⟩ (fun H locs hP hS => ?_)
  refine lv_aload_n hx hb dX8_meetsNow_13 rfl (lv_at hl 0 rfl) ?_
  obtain ⟨r14, σ14, hC14, hG⟩ := f_bd hG
  refine iv_X8_193 F hS hP (c_X8_barsNow l E N σ10 _ _ hC14) ⟨Nat.le_of_ble_eq_true rfl, Nat.le_of_ble_eq_true rfl⟩ hl.1 (Nat.le_of_ble_eq_true rfl) dX8_meetsNow_14 ⟨Nat.zero_le _, Nat.zero_le _⟩ (fun H locs hP hS => ?_)
  exact x_ri hR hS hP hG dX8_meetsNow_17
theorem dX8_meets_0 : decode cX8_meets 0 = .ok (.aload_n 0, 1) := by decide +kernel
theorem dX8_meets_1 : decode cX8_meets 1 = .ok (.iload_n 1, 1) := by decide +kernel
theorem dX8_meets_2 : decode cX8_meets 2 = .ok (.invokevirtual 155, 3) := by decide +kernel
theorem dX8_meets_5 : decode cX8_meets 5 = .ok (.ifCond .ne 8, 3) := by decide +kernel
theorem dX8_meets_8 : decode cX8_meets 8 = .ok (.bipush (-101), 2) := by decide +kernel
theorem dX8_meets_10 : decode cX8_meets 10 = .ok (.goto 21, 3) := by decide +kernel
theorem dX8_meets_13 : decode cX8_meets 13 = .ok (.iload_n 2, 1) := by decide +kernel
theorem dX8_meets_14 : decode cX8_meets 14 = .ok (.invokestatic 132, 3) := by decide +kernel
theorem dX8_meets_17 : decode cX8_meets 17 = .ok (.ifCond .eq 12, 3) := by decide +kernel
theorem dX8_meets_20 : decode cX8_meets 20 = .ok (.aload_n 0, 1) := by decide +kernel
theorem dX8_meets_21 : decode cX8_meets 21 = .ok (.iload_n 1, 1) := by decide +kernel
theorem dX8_meets_22 : decode cX8_meets 22 = .ok (.iload_n 2, 1) := by decide +kernel
theorem dX8_meets_23 : decode cX8_meets 23 = .ok (.invokevirtual 235, 3) := by decide +kernel
theorem dX8_meets_26 : decode cX8_meets 26 = .ok (.goto 5, 3) := by decide +kernel
theorem dX8_meets_29 : decode cX8_meets 29 = .ok (.bipush (-102), 2) := by decide +kernel
theorem dX8_meets_31 : decode cX8_meets 31 = .ok (.ireturn, 1) := by decide +kernel
set_option maxHeartbeats 4000000 in
set_option maxRecDepth 100000 in
theorem c_X8_meets (l : Launch) (E : fEv) (N : Nat) (a1 : Int32) (a2 : Int32) (σ : fS) (r : Int32) (τ : fS) (hG : g_X8_meets N a1 a2 σ = some (r, τ)) : fM l E yX8_meets (.code yX8_meets cX8_meets 3 (some .int)) rm_X8_meets [.ref (E.2.1 61), .int a1, .int a2] σ τ (some (.int r)) := by
  refine f_openI (by decide) (Nat.le_of_ble_eq_true rfl) ?_
  intro p e s m below meth c args Q F hR hP ls hl
  have hx := F.1.1
  have hb := F.1.2.1
  have hown := F.1.2.2.2.1
  have hts := F.1.2.2.2.2
  have hS : va_S (f_A E) s.heap s.heap [] := va_S.rf
  skip
  have hl : lv_has ls 3 [(0, .ref (E.2.1 61)), (1, .int a1), (2, .int a2)] := hl
  unfold g_X8_meets at hG
  refine lv_aload_n hx hb dX8_meets_0 rfl (lv_at hl 0 rfl) ?_
  refine lv_iload_n hx hb dX8_meets_1 rfl (lv_at hl 1 rfl) ?_
  obtain ⟨r2, σ2, hC2, hG⟩ := f_bd hG
  refine iv_X8_155 F hS hP (c_X8_isForm l E N a1 σ _ _ hC2) ⟨Nat.le_of_ble_eq_true rfl, Nat.le_of_ble_eq_true rfl⟩ hl.1 (Nat.le_of_ble_eq_true rfl) dX8_meets_2 ⟨Nat.zero_le _, Nat.zero_le _⟩ (fun H locs hP hS => ?_)
  refine lv_if_ne (tgt := 13) hx hb dX8_meets_5 (by decide) (fun c5 => ?_) (fun c5 => ?_)
  · have hG := f_in c5 hG
    refine lv_iload_n hx hb dX8_meets_13 rfl (lv_at hl 2 rfl) ?_
    obtain ⟨r14, σ14, hC14, hG⟩ := f_bd hG
    refine iv_X8_132 F hS hP (c_X8_isNumber l E N a2 σ2 _ _ hC14) ⟨Nat.le_of_ble_eq_true rfl, Nat.le_of_ble_eq_true rfl⟩ hl.1 (Nat.le_of_ble_eq_true rfl) dX8_meets_14 ⟨Nat.zero_le _, Nat.zero_le _⟩ (fun H locs hP hS => ?_)
    refine lv_if_eq (tgt := 29) hx hb dX8_meets_17 (by decide) (fun c17 => ?_) (fun c17 => ?_)
    · have hG := f_ip c17 hG
      refine lv_bipush (v := -102) hx hb dX8_meets_29 (by decide) ?_
      exact x_ri hR hS hP hG dX8_meets_31
    · have hG := f_in c17 hG
      refine lv_aload_n hx hb dX8_meets_20 rfl (lv_at hl 0 rfl) ?_
      refine lv_iload_n hx hb dX8_meets_21 rfl (lv_at hl 1 rfl) ?_
      refine lv_iload_n hx hb dX8_meets_22 rfl (lv_at hl 2 rfl) ?_
      obtain ⟨r23, σ23, hC23, hG⟩ := f_bd hG
      refine iv_X8_235 F hS hP (c_X8_meetsNow l E N a1 a2 σ14 _ _ hC23) ⟨Nat.le_of_ble_eq_true rfl, Nat.le_of_ble_eq_true rfl⟩ hl.1 (Nat.le_of_ble_eq_true rfl) dX8_meets_23 ⟨Nat.zero_le _, Nat.zero_le _⟩ (fun H locs hP hS => ?_)
      refine lv_goto (tgt := 31) hx hb dX8_meets_26 (by decide) ?_
      exact x_ri hR hS hP hG dX8_meets_31
  · have hG := f_ip c5 hG
    refine lv_bipush (v := -101) hx hb dX8_meets_8 (by decide) ?_
    refine lv_goto (tgt := 31) hx hb dX8_meets_10 (by decide) ?_
    exact x_ri hR hS hP hG dX8_meets_31
theorem dX8_goesOn_0 : decode cX8_goesOn 0 = .ok (.aload_n 0, 1) := by decide +kernel
theorem dX8_goesOn_1 : decode cX8_goesOn 1 = .ok (.getfield 106, 3) := by decide +kernel
theorem dX8_goesOn_4 : decode cX8_goesOn 4 = .ok (.iconst 1, 1) := by decide +kernel
theorem dX8_goesOn_5 : decode cX8_goesOn 5 = .ok (.isub, 1) := by decide +kernel
theorem dX8_goesOn_6 : decode cX8_goesOn 6 = .ok (.istore_n 2, 1) := by decide +kernel
theorem dX8_goesOn_7 : decode cX8_goesOn 7 = .ok (.iload_n 2, 1) := by decide +kernel
theorem dX8_goesOn_8 : decode cX8_goesOn 8 = .ok (.ifCond .lt 26, 3) := by decide +kernel
theorem dX8_goesOn_11 : decode cX8_goesOn 11 = .ok (.aload_n 0, 1) := by decide +kernel
theorem dX8_goesOn_12 : decode cX8_goesOn 12 = .ok (.getfield 75, 3) := by decide +kernel
theorem dX8_goesOn_15 : decode cX8_goesOn 15 = .ok (.iload_n 2, 1) := by decide +kernel
theorem dX8_goesOn_16 : decode cX8_goesOn 16 = .ok (.iaload, 1) := by decide +kernel
theorem dX8_goesOn_17 : decode cX8_goesOn 17 = .ok (.iload_n 1, 1) := by decide +kernel
theorem dX8_goesOn_18 : decode cX8_goesOn 18 = .ok (.if_icmp .ne 16, 3) := by decide +kernel
theorem dX8_goesOn_21 : decode cX8_goesOn 21 = .ok (.aload_n 0, 1) := by decide +kernel
theorem dX8_goesOn_22 : decode cX8_goesOn 22 = .ok (.getfield 75, 3) := by decide +kernel
theorem dX8_goesOn_25 : decode cX8_goesOn 25 = .ok (.iload_n 2, 1) := by decide +kernel
theorem dX8_goesOn_26 : decode cX8_goesOn 26 = .ok (.iconst 0, 1) := by decide +kernel
theorem dX8_goesOn_27 : decode cX8_goesOn 27 = .ok (.iastore, 1) := by decide +kernel
theorem dX8_goesOn_28 : decode cX8_goesOn 28 = .ok (.iinc 2 (-1), 3) := by decide +kernel
theorem dX8_goesOn_31 : decode cX8_goesOn 31 = .ok (.goto (-24), 3) := by decide +kernel
theorem dX8_goesOn_34 : decode cX8_goesOn 34 = .ok (.iload_n 2, 1) := by decide +kernel
theorem dX8_goesOn_35 : decode cX8_goesOn 35 = .ok (.ifCond .lt 13, 3) := by decide +kernel
theorem dX8_goesOn_38 : decode cX8_goesOn 38 = .ok (.aload_n 0, 1) := by decide +kernel
theorem dX8_goesOn_39 : decode cX8_goesOn 39 = .ok (.getfield 75, 3) := by decide +kernel
theorem dX8_goesOn_42 : decode cX8_goesOn 42 = .ok (.iload_n 2, 1) := by decide +kernel
theorem dX8_goesOn_43 : decode cX8_goesOn 43 = .ok (.dup2, 1) := by decide +kernel
theorem dX8_goesOn_44 : decode cX8_goesOn 44 = .ok (.iaload, 1) := by decide +kernel
theorem dX8_goesOn_45 : decode cX8_goesOn 45 = .ok (.iconst 1, 1) := by decide +kernel
theorem dX8_goesOn_46 : decode cX8_goesOn 46 = .ok (.iadd, 1) := by decide +kernel
theorem dX8_goesOn_47 : decode cX8_goesOn 47 = .ok (.iastore, 1) := by decide +kernel
theorem dX8_goesOn_48 : decode cX8_goesOn 48 = .ok (.iload_n 2, 1) := by decide +kernel
theorem dX8_goesOn_49 : decode cX8_goesOn 49 = .ok (.ifCond .lt 7, 3) := by decide +kernel
theorem dX8_goesOn_52 : decode cX8_goesOn 52 = .ok (.iconst 1, 1) := by decide +kernel
theorem dX8_goesOn_53 : decode cX8_goesOn 53 = .ok (.goto 4, 3) := by decide +kernel
theorem dX8_goesOn_56 : decode cX8_goesOn 56 = .ok (.iconst 0, 1) := by decide +kernel
theorem dX8_goesOn_57 : decode cX8_goesOn 57 = .ok (.ireturn, 1) := by decide +kernel
set_option maxHeartbeats 4000000 in
set_option maxRecDepth 100000 in
theorem c_X8_goesOn (l : Launch) (E : fEv) (N : Nat) (a1 : Int32) (σ : fS) (r : Int32) (τ : fS) (hG : g_X8_goesOn N a1 σ = some (r, τ)) : fM l E yX8_goesOn (.code yX8_goesOn cX8_goesOn 3 (some .boolean)) rm_X8_goesOn [.ref (E.2.1 61), .int a1] σ τ (some (.int r)) := by
  refine f_openZ (by decide) (Nat.le_of_ble_eq_true rfl) ?_
  intro p e s m below meth c args Q F hR hP ls hl
  have hx := F.1.1
  have hb := F.1.2.1
  have hown := F.1.2.2.2.1
  have hts := F.1.2.2.2.2
  have hS : va_S (f_A E) s.heap s.heap [] := va_S.rf
  skip
  have hl : lv_has ls 3 [(0, .ref (E.2.1 61)), (1, .int a1)] := hl
  unfold g_X8_goesOn at hG
  refine lv_aload_n hx hb dX8_goesOn_0 rfl (lv_at hl 0 rfl) ?_
  refine gf_X8_106 F hP dX8_goesOn_1 ?_
  refine lv_iconst (v := 1) hx hb dX8_goesOn_4 (by decide) ?_
  refine lv_isub hx hb dX8_goesOn_5 ?_
  refine lv_topi (fun v6 e6 => ?_)
  have hG := f_lt hG e6
  refine lv_istore_n (lv' := [(2, .int v6), (0, .ref (E.2.1 61)), (1, .int a1)]) hx hb dX8_goesOn_6 rfl hl (by decide) rfl (fun ls hl => ?_)
  obtain ⟨o7, σl7, hT7, hG⟩ := f_bd hG
  have T7 : ∀ (H : Heap) (locs : List Loc) (ls : Array Slot), f_h E σl7 H → va_S (f_A E) s.heap H locs → lv_has ls 3 [(0, .ref (E.2.1 61)), (2, .int o7)] → W p l e rm_X8_goesOn s m args below meth c H locs 0 0 Q (F0 m 34 ls []) := by
    intro H locs ls hP hS hl
    refine lv_iload_n hx hb dX8_goesOn_34 rfl (lv_at hl 1 rfl) ?_
    obtain ⟨σj35, hT35, hG⟩ := f_bv hG
    have T35 : ∀ (H : Heap) (locs : List Loc) (ls : Array Slot), f_h E σj35 H → va_S (f_A E) s.heap H locs → lv_has ls 3 [(2, .int o7)] → W p l e rm_X8_goesOn s m args below meth c H locs 0 0 Q (F0 m 48 ls []) := by
      intro H locs ls hP hS hl
      refine lv_iload_n hx hb dX8_goesOn_48 rfl (lv_at hl 0 rfl) ?_
      refine lv_if_lt (tgt := 56) hx hb dX8_goesOn_49 (by decide) (fun c49 => ?_) (fun c49 => ?_)
      · have hG := f_ip c49 hG
        refine lv_iconst (v := 0) hx hb dX8_goesOn_56 (by decide) ?_
        exact x_rz hR hS hP (Or.inl rfl) hG dX8_goesOn_57
      · have hG := f_in c49 hG
        refine lv_iconst (v := 1) hx hb dX8_goesOn_52 (by decide) ?_
        refine lv_goto (tgt := 57) hx hb dX8_goesOn_53 (by decide) ?_
        exact x_rz hR hS hP (Or.inr rfl) hG dX8_goesOn_57
    have hG := hT35
    clear hT35
    refine lv_if_lt (tgt := 48) hx hb dX8_goesOn_35 (by decide) (fun c35 => ?_) (fun c35 => ?_)
    · have hG := f_ip c35 hG
      cases hG
      exact T35 _ _ _ hP hS (lv_sub hl [1] rfl)
    · have hG := f_in c35 hG
      refine lv_aload_n hx hb dX8_goesOn_38 rfl (lv_at hl 0 rfl) ?_
      refine gf_X8_75 F hP dX8_goesOn_39 ?_
      refine lv_iload_n hx hb dX8_goesOn_42 rfl (lv_at hl 1 rfl) ?_
      refine lv_dup2_11 hx hb dX8_goesOn_43 rfl rfl ?_
      obtain ⟨h44, hG⟩ := f_gd hG
      have i44 := f_fin h44
      refine x_iald F hP rfl rfl i44 dX8_goesOn_44 ?_
      refine lv_iconst (v := 1) hx hb dX8_goesOn_45 (by decide) ?_
      refine lv_iadd hx hb dX8_goesOn_46 ?_
      obtain ⟨h47, hG⟩ := f_gd hG
      have i47 := f_fin h47
      refine x_iast F hS hP rfl rfl i47 dX8_goesOn_47 (fun H locs hP hS => ?_)
      obtain ⟨σ47, e47⟩ : ∃ t : fS, t = sI σl7 83 (o7).toNatClampNeg ((σl7.1 83 (o7).toNatClampNeg) + (1 : Int32)) := ⟨_, rfl⟩
      rw [← e47] at hP
      have hG := f_lt hG e47
      cases hG
      exact T35 _ _ _ hP hS (lv_sub hl [1] rfl)
  have L7 : ∀ (n7 : Nat) (x7_2 : Int32) (σh7 : fS) (H : Heap) (locs : List Loc) (ls : Array Slot), f_h E σh7 H → va_S (f_A E) s.heap H locs → lv_has ls 3 [(0, .ref (E.2.1 61)), (1, .int a1), (2, .int x7_2)] → lp_X8_goesOn_7 N a1 n7 x7_2 σh7 = some (o7, σl7) → W p l e rm_X8_goesOn s m args below meth c H locs 0 0 Q (F0 m 7 ls []) := by
    intro n7
    induction n7 with
    | zero =>
      intro x7_2 σh7 H locs ls hP hS hl hG
      rw [lp_X8_goesOn_7] at hG
      cases hG
    | succ n7 ih7 =>
      intro x7_2 σh7 H locs ls hP hS hl hG
      rw [lp_X8_goesOn_7] at hG
      refine lv_iload_n hx hb dX8_goesOn_7 rfl (lv_at hl 2 rfl) ?_
      refine lv_if_lt (tgt := 34) hx hb dX8_goesOn_8 (by decide) (fun c8 => ?_) (fun c8 => ?_)
      · have hG := f_ip c8 hG
        cases hG
        exact T7 _ _ _ hP hS (lv_sub hl [0, 2] rfl)
      · have hG := f_in c8 hG
        refine lv_aload_n hx hb dX8_goesOn_11 rfl (lv_at hl 0 rfl) ?_
        refine gf_X8_75 F hP dX8_goesOn_12 ?_
        refine lv_iload_n hx hb dX8_goesOn_15 rfl (lv_at hl 2 rfl) ?_
        obtain ⟨h16, hG⟩ := f_gd hG
        have i16 := f_fin h16
        refine x_iald F hP rfl rfl i16 dX8_goesOn_16 ?_
        refine lv_iload_n hx hb dX8_goesOn_17 rfl (lv_at hl 1 rfl) ?_
        refine lv_icmp_ne (tgt := 34) hx hb dX8_goesOn_18 (by decide) (fun c18 => ?_) (fun c18 => ?_)
        · have hG := f_in c18 hG
          cases hG
          exact T7 _ _ _ hP hS (lv_sub hl [0, 2] rfl)
        · have hG := f_ip c18 hG
          refine lv_aload_n hx hb dX8_goesOn_21 rfl (lv_at hl 0 rfl) ?_
          refine gf_X8_75 F hP dX8_goesOn_22 ?_
          refine lv_iload_n hx hb dX8_goesOn_25 rfl (lv_at hl 2 rfl) ?_
          refine lv_iconst (v := 0) hx hb dX8_goesOn_26 (by decide) ?_
          obtain ⟨h27, hG⟩ := f_gd hG
          have i27 := f_fin h27
          refine x_iast F hS hP rfl rfl i27 dX8_goesOn_27 (fun H locs hP hS => ?_)
          obtain ⟨σ27, e27⟩ : ∃ t : fS, t = sI σh7 83 (x7_2).toNatClampNeg (0 : Int32) := ⟨_, rfl⟩
          rw [← e27] at hP
          have hG := f_lt hG e27
          refine lv_iinc (v := (x7_2 + (-1 : Int32))) (lv' := [(2, .int (x7_2 + (-1 : Int32))), (0, .ref (E.2.1 61)), (1, .int a1)]) hx hb dX8_goesOn_28 hl (k := 2) rfl (by rfl) (by decide) rfl (fun ls hl => ?_)
          refine lv_goto (tgt := 7) hx hb dX8_goesOn_31 (by decide) ?_
          exact ih7 (x7_2 + (-1 : Int32)) σ27 _ _ _ hP hS (lv_sub hl [1, 2, 0] rfl) hG
  exact L7 N v6 σ _ _ _ hP hS (lv_sub hl [1, 2, 0] rfl) hT7
theorem dX8_comesToNothing_0 : decode cX8_comesToNothing 0 = .ok (.iconst 0, 1) := by decide +kernel
theorem dX8_comesToNothing_1 : decode cX8_comesToNothing 1 = .ok (.istore_n 2, 1) := by decide +kernel
theorem dX8_comesToNothing_2 : decode cX8_comesToNothing 2 = .ok (.iconst 0, 1) := by decide +kernel
theorem dX8_comesToNothing_3 : decode cX8_comesToNothing 3 = .ok (.istore_n 3, 1) := by decide +kernel
theorem dX8_comesToNothing_4 : decode cX8_comesToNothing 4 = .ok (.iconst 0, 1) := by decide +kernel
theorem dX8_comesToNothing_5 : decode cX8_comesToNothing 5 = .ok (.istore 4, 2) := by decide +kernel
theorem dX8_comesToNothing_7 : decode cX8_comesToNothing 7 = .ok (.iload 4, 2) := by decide +kernel
theorem dX8_comesToNothing_9 : decode cX8_comesToNothing 9 = .ok (.aload_n 0, 1) := by decide +kernel
theorem dX8_comesToNothing_10 : decode cX8_comesToNothing 10 = .ok (.getfield 106, 3) := by decide +kernel
theorem dX8_comesToNothing_13 : decode cX8_comesToNothing 13 = .ok (.if_icmp .ge 56, 3) := by decide +kernel
theorem dX8_comesToNothing_16 : decode cX8_comesToNothing 16 = .ok (.iload_n 2, 1) := by decide +kernel
theorem dX8_comesToNothing_17 : decode cX8_comesToNothing 17 = .ok (.aload_n 0, 1) := by decide +kernel
theorem dX8_comesToNothing_18 : decode cX8_comesToNothing 18 = .ok (.getfield 78, 3) := by decide +kernel
theorem dX8_comesToNothing_21 : decode cX8_comesToNothing 21 = .ok (.iload 4, 2) := by decide +kernel
theorem dX8_comesToNothing_23 : decode cX8_comesToNothing 23 = .ok (.iaload, 1) := by decide +kernel
theorem dX8_comesToNothing_24 : decode cX8_comesToNothing 24 = .ok (.aload_n 0, 1) := by decide +kernel
theorem dX8_comesToNothing_25 : decode cX8_comesToNothing 25 = .ok (.getfield 75, 3) := by decide +kernel
theorem dX8_comesToNothing_28 : decode cX8_comesToNothing 28 = .ok (.iload 4, 2) := by decide +kernel
theorem dX8_comesToNothing_30 : decode cX8_comesToNothing 30 = .ok (.iaload, 1) := by decide +kernel
theorem dX8_comesToNothing_31 : decode cX8_comesToNothing 31 = .ok (.imul, 1) := by decide +kernel
theorem dX8_comesToNothing_32 : decode cX8_comesToNothing 32 = .ok (.aload_n 0, 1) := by decide +kernel
theorem dX8_comesToNothing_33 : decode cX8_comesToNothing 33 = .ok (.getfield 75, 3) := by decide +kernel
theorem dX8_comesToNothing_36 : decode cX8_comesToNothing 36 = .ok (.iload 4, 2) := by decide +kernel
theorem dX8_comesToNothing_38 : decode cX8_comesToNothing 38 = .ok (.iaload, 1) := by decide +kernel
theorem dX8_comesToNothing_39 : decode cX8_comesToNothing 39 = .ok (.imul, 1) := by decide +kernel
theorem dX8_comesToNothing_40 : decode cX8_comesToNothing 40 = .ok (.iadd, 1) := by decide +kernel
theorem dX8_comesToNothing_41 : decode cX8_comesToNothing 41 = .ok (.istore_n 2, 1) := by decide +kernel
theorem dX8_comesToNothing_42 : decode cX8_comesToNothing 42 = .ok (.iload_n 3, 1) := by decide +kernel
theorem dX8_comesToNothing_43 : decode cX8_comesToNothing 43 = .ok (.ifCond .ne 14, 3) := by decide +kernel
theorem dX8_comesToNothing_46 : decode cX8_comesToNothing 46 = .ok (.aload_n 0, 1) := by decide +kernel
theorem dX8_comesToNothing_47 : decode cX8_comesToNothing 47 = .ok (.getfield 75, 3) := by decide +kernel
theorem dX8_comesToNothing_50 : decode cX8_comesToNothing 50 = .ok (.iload 4, 2) := by decide +kernel
theorem dX8_comesToNothing_52 : decode cX8_comesToNothing 52 = .ok (.iaload, 1) := by decide +kernel
theorem dX8_comesToNothing_53 : decode cX8_comesToNothing 53 = .ok (.iload_n 1, 1) := by decide +kernel
theorem dX8_comesToNothing_54 : decode cX8_comesToNothing 54 = .ok (.if_icmp .ne 7, 3) := by decide +kernel
theorem dX8_comesToNothing_57 : decode cX8_comesToNothing 57 = .ok (.iconst 1, 1) := by decide +kernel
theorem dX8_comesToNothing_58 : decode cX8_comesToNothing 58 = .ok (.goto 4, 3) := by decide +kernel
theorem dX8_comesToNothing_61 : decode cX8_comesToNothing 61 = .ok (.iconst 0, 1) := by decide +kernel
theorem dX8_comesToNothing_62 : decode cX8_comesToNothing 62 = .ok (.istore_n 3, 1) := by decide +kernel
theorem dX8_comesToNothing_63 : decode cX8_comesToNothing 63 = .ok (.iinc 4 1, 3) := by decide +kernel
theorem dX8_comesToNothing_66 : decode cX8_comesToNothing 66 = .ok (.goto (-59), 3) := by decide +kernel
theorem dX8_comesToNothing_69 : decode cX8_comesToNothing 69 = .ok (.iload_n 3, 1) := by decide +kernel
theorem dX8_comesToNothing_70 : decode cX8_comesToNothing 70 = .ok (.ifCond .eq 11, 3) := by decide +kernel
theorem dX8_comesToNothing_73 : decode cX8_comesToNothing 73 = .ok (.iload_n 2, 1) := by decide +kernel
theorem dX8_comesToNothing_74 : decode cX8_comesToNothing 74 = .ok (.ifCond .ne 7, 3) := by decide +kernel
theorem dX8_comesToNothing_77 : decode cX8_comesToNothing 77 = .ok (.iconst 1, 1) := by decide +kernel
theorem dX8_comesToNothing_78 : decode cX8_comesToNothing 78 = .ok (.goto 4, 3) := by decide +kernel
theorem dX8_comesToNothing_81 : decode cX8_comesToNothing 81 = .ok (.iconst 0, 1) := by decide +kernel
theorem dX8_comesToNothing_82 : decode cX8_comesToNothing 82 = .ok (.ireturn, 1) := by decide +kernel
set_option maxHeartbeats 4000000 in
set_option maxRecDepth 100000 in
theorem c_X8_comesToNothing (l : Launch) (E : fEv) (N : Nat) (a1 : Int32) (σ : fS) (r : Int32) (τ : fS) (hG : g_X8_comesToNothing N a1 σ = some (r, τ)) : fM l E yX8_comesToNothing (.code yX8_comesToNothing cX8_comesToNothing 5 (some .boolean)) rm_X8_comesToNothing [.ref (E.2.1 61), .int a1] σ τ (some (.int r)) := by
  refine f_openZ (by decide) (Nat.le_of_ble_eq_true rfl) ?_
  intro p e s m below meth c args Q F hR hP ls hl
  have hx := F.1.1
  have hb := F.1.2.1
  have hown := F.1.2.2.2.1
  have hts := F.1.2.2.2.2
  have hS : va_S (f_A E) s.heap s.heap [] := va_S.rf
  skip
  have hl : lv_has ls 5 [(0, .ref (E.2.1 61)), (1, .int a1)] := hl
  unfold g_X8_comesToNothing at hG
  refine lv_iconst (v := 0) hx hb dX8_comesToNothing_0 (by decide) ?_
  refine lv_istore_n (lv' := [(2, .int (0 : Int32)), (0, .ref (E.2.1 61)), (1, .int a1)]) hx hb dX8_comesToNothing_1 rfl hl (by decide) rfl (fun ls hl => ?_)
  refine lv_iconst (v := 0) hx hb dX8_comesToNothing_2 (by decide) ?_
  refine lv_istore_n (lv' := [(3, .int (0 : Int32)), (2, .int (0 : Int32)), (0, .ref (E.2.1 61)), (1, .int a1)]) hx hb dX8_comesToNothing_3 rfl hl (by decide) rfl (fun ls hl => ?_)
  refine lv_iconst (v := 0) hx hb dX8_comesToNothing_4 (by decide) ?_
  refine lv_istore (lv' := [(4, .int (0 : Int32)), (3, .int (0 : Int32)), (2, .int (0 : Int32)), (0, .ref (E.2.1 61)), (1, .int a1)]) hx hb dX8_comesToNothing_5 hl (by decide) rfl (fun ls hl => ?_)
  obtain ⟨o7, σl7, hT7, hG⟩ := f_bd hG
  have T7 : ∀ (H : Heap) (locs : List Loc) (ls : Array Slot), f_h E σl7 H → va_S (f_A E) s.heap H locs → lv_has ls 5 [(2, .int o7.1), (3, .int o7.2)] → W p l e rm_X8_comesToNothing s m args below meth c H locs 0 0 Q (F0 m 69 ls []) := by
    intro H locs ls hP hS hl
    refine lv_iload_n hx hb dX8_comesToNothing_69 rfl (lv_at hl 1 rfl) ?_
    refine lv_if_eq (tgt := 81) hx hb dX8_comesToNothing_70 (by decide) (fun c70 => ?_) (fun c70 => ?_)
    · have hG := f_ip c70 hG
      refine lv_iconst (v := 0) hx hb dX8_comesToNothing_81 (by decide) ?_
      exact x_rz hR hS hP (Or.inl rfl) hG dX8_comesToNothing_82
    · have hG := f_in c70 hG
      refine lv_iload_n hx hb dX8_comesToNothing_73 rfl (lv_at hl 0 rfl) ?_
      refine lv_if_ne (tgt := 81) hx hb dX8_comesToNothing_74 (by decide) (fun c74 => ?_) (fun c74 => ?_)
      · have hG := f_in c74 hG
        refine lv_iconst (v := 0) hx hb dX8_comesToNothing_81 (by decide) ?_
        exact x_rz hR hS hP (Or.inl rfl) hG dX8_comesToNothing_82
      · have hG := f_ip c74 hG
        refine lv_iconst (v := 1) hx hb dX8_comesToNothing_77 (by decide) ?_
        refine lv_goto (tgt := 82) hx hb dX8_comesToNothing_78 (by decide) ?_
        exact x_rz hR hS hP (Or.inr rfl) hG dX8_comesToNothing_82
  have L7 : ∀ (n7 : Nat) (x7_2 : Int32) (x7_3 : Int32) (x7_4 : Int32) (σh7 : fS) (H : Heap) (locs : List Loc) (ls : Array Slot), f_h E σh7 H → va_S (f_A E) s.heap H locs → lv_has ls 5 [(0, .ref (E.2.1 61)), (1, .int a1), (2, .int x7_2), (3, .int x7_3), (4, .int x7_4)] → lp_X8_comesToNothing_7 N a1 n7 x7_2 x7_3 x7_4 σh7 = some (o7, σl7) → W p l e rm_X8_comesToNothing s m args below meth c H locs 0 0 Q (F0 m 7 ls []) := by
    intro n7
    induction n7 with
    | zero =>
      intro x7_2 x7_3 x7_4 σh7 H locs ls hP hS hl hG
      rw [lp_X8_comesToNothing_7] at hG
      cases hG
    | succ n7 ih7 =>
      intro x7_2 x7_3 x7_4 σh7 H locs ls hP hS hl hG
      rw [lp_X8_comesToNothing_7] at hG
      refine lv_iload hx hb dX8_comesToNothing_7 (lv_at hl 4 rfl) ?_
      refine lv_aload_n hx hb dX8_comesToNothing_9 rfl (lv_at hl 0 rfl) ?_
      refine gf_X8_106 F hP dX8_comesToNothing_10 ?_
      refine lv_icmp_ge (tgt := 69) hx hb dX8_comesToNothing_13 (by decide) (fun c13 => ?_) (fun c13 => ?_)
      · have hG := f_ip c13 hG
        cases hG
        exact T7 _ _ _ hP hS (lv_sub hl [2, 3] rfl)
      · have hG := f_in c13 hG
        refine lv_iload_n hx hb dX8_comesToNothing_16 rfl (lv_at hl 2 rfl) ?_
        refine lv_aload_n hx hb dX8_comesToNothing_17 rfl (lv_at hl 0 rfl) ?_
        refine gf_X8_78 F hP dX8_comesToNothing_18 ?_
        refine lv_iload hx hb dX8_comesToNothing_21 (lv_at hl 4 rfl) ?_
        obtain ⟨h23, hG⟩ := f_gd hG
        have i23 := f_fin h23
        refine x_iald F hP rfl rfl i23 dX8_comesToNothing_23 ?_
        refine lv_aload_n hx hb dX8_comesToNothing_24 rfl (lv_at hl 0 rfl) ?_
        refine gf_X8_75 F hP dX8_comesToNothing_25 ?_
        refine lv_iload hx hb dX8_comesToNothing_28 (lv_at hl 4 rfl) ?_
        obtain ⟨h30, hG⟩ := f_gd hG
        have i30 := f_fin h30
        refine x_iald F hP rfl rfl i30 dX8_comesToNothing_30 ?_
        refine lv_imul hx hb dX8_comesToNothing_31 ?_
        refine lv_aload_n hx hb dX8_comesToNothing_32 rfl (lv_at hl 0 rfl) ?_
        refine gf_X8_75 F hP dX8_comesToNothing_33 ?_
        refine lv_iload hx hb dX8_comesToNothing_36 (lv_at hl 4 rfl) ?_
        obtain ⟨h38, hG⟩ := f_gd hG
        have i38 := f_fin h38
        refine x_iald F hP rfl rfl i38 dX8_comesToNothing_38 ?_
        refine lv_imul hx hb dX8_comesToNothing_39 ?_
        refine lv_iadd hx hb dX8_comesToNothing_40 ?_
        refine lv_topi (fun v41 e41 => ?_)
        have hG := f_lt hG e41
        refine lv_istore_n (lv' := [(2, .int v41), (0, .ref (E.2.1 61)), (1, .int a1), (3, .int x7_3), (4, .int x7_4)]) hx hb dX8_comesToNothing_41 rfl hl (by decide) rfl (fun ls hl => ?_)
        refine lv_iload_n hx hb dX8_comesToNothing_42 rfl (lv_at hl 3 rfl) ?_
        refine lv_if_ne (tgt := 57) hx hb dX8_comesToNothing_43 (by decide) (fun c43 => ?_) (fun c43 => ?_)
        · have hG := f_in c43 hG
          refine lv_iconst (v := 1) hx hb dX8_comesToNothing_57 (by decide) ?_
          refine lv_goto (tgt := 62) hx hb dX8_comesToNothing_58 (by decide) ?_
          refine lv_istore_n (lv' := [(3, .int (1 : Int32)), (2, .int v41), (0, .ref (E.2.1 61)), (1, .int a1), (4, .int x7_4)]) hx hb dX8_comesToNothing_62 rfl hl (by decide) rfl (fun ls hl => ?_)
          refine lv_iinc (v := (x7_4 + (1 : Int32))) (lv' := [(4, .int (x7_4 + (1 : Int32))), (3, .int (1 : Int32)), (2, .int v41), (0, .ref (E.2.1 61)), (1, .int a1)]) hx hb dX8_comesToNothing_63 hl (k := 4) rfl (by rfl) (by decide) rfl (fun ls hl => ?_)
          refine lv_goto (tgt := 7) hx hb dX8_comesToNothing_66 (by decide) ?_
          exact ih7 v41 (1 : Int32) (x7_4 + (1 : Int32)) σh7 _ _ _ hP hS (lv_sub hl [3, 4, 2, 1, 0] rfl) hG
        · have hG := f_ip c43 hG
          refine lv_aload_n hx hb dX8_comesToNothing_46 rfl (lv_at hl 1 rfl) ?_
          refine gf_X8_75 F hP dX8_comesToNothing_47 ?_
          refine lv_iload hx hb dX8_comesToNothing_50 (lv_at hl 4 rfl) ?_
          obtain ⟨h52, hG⟩ := f_gd hG
          have i52 := f_fin h52
          refine x_iald F hP rfl rfl i52 dX8_comesToNothing_52 ?_
          refine lv_iload_n hx hb dX8_comesToNothing_53 rfl (lv_at hl 2 rfl) ?_
          refine lv_icmp_ne (tgt := 61) hx hb dX8_comesToNothing_54 (by decide) (fun c54 => ?_) (fun c54 => ?_)
          · have hG := f_in c54 hG
            refine lv_iconst (v := 0) hx hb dX8_comesToNothing_61 (by decide) ?_
            refine lv_istore_n (lv' := [(3, .int (0 : Int32)), (2, .int v41), (0, .ref (E.2.1 61)), (1, .int a1), (4, .int x7_4)]) hx hb dX8_comesToNothing_62 rfl hl (by decide) rfl (fun ls hl => ?_)
            refine lv_iinc (v := (x7_4 + (1 : Int32))) (lv' := [(4, .int (x7_4 + (1 : Int32))), (3, .int (0 : Int32)), (2, .int v41), (0, .ref (E.2.1 61)), (1, .int a1)]) hx hb dX8_comesToNothing_63 hl (k := 4) rfl (by rfl) (by decide) rfl (fun ls hl => ?_)
            refine lv_goto (tgt := 7) hx hb dX8_comesToNothing_66 (by decide) ?_
            exact ih7 v41 (0 : Int32) (x7_4 + (1 : Int32)) σh7 _ _ _ hP hS (lv_sub hl [3, 4, 2, 1, 0] rfl) hG
          · have hG := f_ip c54 hG
            refine lv_iconst (v := 1) hx hb dX8_comesToNothing_57 (by decide) ?_
            refine lv_goto (tgt := 62) hx hb dX8_comesToNothing_58 (by decide) ?_
            refine lv_istore_n (lv' := [(3, .int (1 : Int32)), (2, .int v41), (0, .ref (E.2.1 61)), (1, .int a1), (4, .int x7_4)]) hx hb dX8_comesToNothing_62 rfl hl (by decide) rfl (fun ls hl => ?_)
            refine lv_iinc (v := (x7_4 + (1 : Int32))) (lv' := [(4, .int (x7_4 + (1 : Int32))), (3, .int (1 : Int32)), (2, .int v41), (0, .ref (E.2.1 61)), (1, .int a1)]) hx hb dX8_comesToNothing_63 hl (k := 4) rfl (by rfl) (by decide) rfl (fun ls hl => ?_)
            refine lv_goto (tgt := 7) hx hb dX8_comesToNothing_66 (by decide) ?_
            exact ih7 v41 (1 : Int32) (x7_4 + (1 : Int32)) σh7 _ _ _ hP hS (lv_sub hl [3, 4, 2, 1, 0] rfl) hG
  exact L7 N (0 : Int32) (0 : Int32) (0 : Int32) σ _ _ _ hP hS (lv_sub hl [3, 4, 2, 1, 0] rfl) hT7
theorem dX8_findBy_0 : decode cX8_findBy 0 = .ok (.iconst 0, 1) := by decide +kernel
theorem dX8_findBy_1 : decode cX8_findBy 1 = .ok (.istore_n 3, 1) := by decide +kernel
theorem dX8_findBy_2 : decode cX8_findBy 2 = .ok (.iload_n 3, 1) := by decide +kernel
theorem dX8_findBy_3 : decode cX8_findBy 3 = .ok (.aload_n 0, 1) := by decide +kernel
theorem dX8_findBy_4 : decode cX8_findBy 4 = .ok (.getfield 106, 3) := by decide +kernel
theorem dX8_findBy_7 : decode cX8_findBy 7 = .ok (.if_icmp .ge 16, 3) := by decide +kernel
theorem dX8_findBy_10 : decode cX8_findBy 10 = .ok (.aload_n 0, 1) := by decide +kernel
theorem dX8_findBy_11 : decode cX8_findBy 11 = .ok (.getfield 75, 3) := by decide +kernel
theorem dX8_findBy_14 : decode cX8_findBy 14 = .ok (.iload_n 3, 1) := by decide +kernel
theorem dX8_findBy_15 : decode cX8_findBy 15 = .ok (.iconst 0, 1) := by decide +kernel
theorem dX8_findBy_16 : decode cX8_findBy 16 = .ok (.iastore, 1) := by decide +kernel
theorem dX8_findBy_17 : decode cX8_findBy 17 = .ok (.iinc 3 1, 3) := by decide +kernel
theorem dX8_findBy_20 : decode cX8_findBy 20 = .ok (.goto (-18), 3) := by decide +kernel
theorem dX8_findBy_23 : decode cX8_findBy 23 = .ok (.aload_n 0, 1) := by decide +kernel
theorem dX8_findBy_24 : decode cX8_findBy 24 = .ok (.iload_n 1, 1) := by decide +kernel
theorem dX8_findBy_25 : decode cX8_findBy 25 = .ok (.invokevirtual 238, 3) := by decide +kernel
theorem dX8_findBy_28 : decode cX8_findBy 28 = .ok (.ifCond .eq 31, 3) := by decide +kernel
theorem dX8_findBy_31 : decode cX8_findBy 31 = .ok (.aload_n 0, 1) := by decide +kernel
theorem dX8_findBy_32 : decode cX8_findBy 32 = .ok (.iload_n 1, 1) := by decide +kernel
theorem dX8_findBy_33 : decode cX8_findBy 33 = .ok (.invokevirtual 241, 3) := by decide +kernel
theorem dX8_findBy_36 : decode cX8_findBy 36 = .ok (.ifCond .eq (-13), 3) := by decide +kernel
theorem dX8_findBy_39 : decode cX8_findBy 39 = .ok (.iload_n 2, 1) := by decide +kernel
theorem dX8_findBy_40 : decode cX8_findBy 40 = .ok (.ifCond .eq 17, 3) := by decide +kernel
theorem dX8_findBy_43 : decode cX8_findBy 43 = .ok (.aload_n 0, 1) := by decide +kernel
theorem dX8_findBy_44 : decode cX8_findBy 44 = .ok (.getfield 75, 3) := by decide +kernel
theorem dX8_findBy_47 : decode cX8_findBy 47 = .ok (.aload_n 0, 1) := by decide +kernel
theorem dX8_findBy_48 : decode cX8_findBy 48 = .ok (.getfield 106, 3) := by decide +kernel
theorem dX8_findBy_51 : decode cX8_findBy 51 = .ok (.iconst 1, 1) := by decide +kernel
theorem dX8_findBy_52 : decode cX8_findBy 52 = .ok (.isub, 1) := by decide +kernel
theorem dX8_findBy_53 : decode cX8_findBy 53 = .ok (.iaload, 1) := by decide +kernel
theorem dX8_findBy_54 : decode cX8_findBy 54 = .ok (.ifCond .le (-31), 3) := by decide +kernel
theorem dX8_findBy_57 : decode cX8_findBy 57 = .ok (.iconst 1, 1) := by decide +kernel
theorem dX8_findBy_58 : decode cX8_findBy 58 = .ok (.ireturn, 1) := by decide +kernel
theorem dX8_findBy_59 : decode cX8_findBy 59 = .ok (.iconst 0, 1) := by decide +kernel
theorem dX8_findBy_60 : decode cX8_findBy 60 = .ok (.ireturn, 1) := by decide +kernel
set_option maxHeartbeats 4000000 in
set_option maxRecDepth 100000 in
theorem c_X8_findBy (l : Launch) (E : fEv) (N : Nat) (a1 : Int32) (a2 : Int32) (σ : fS) (r : Int32) (τ : fS) (hG : g_X8_findBy N a1 a2 σ = some (r, τ)) : fM l E yX8_findBy (.code yX8_findBy cX8_findBy 4 (some .boolean)) rm_X8_findBy [.ref (E.2.1 61), .int a1, .int a2] σ τ (some (.int r)) := by
  refine f_openZ (by decide) (Nat.le_of_ble_eq_true rfl) ?_
  intro p e s m below meth c args Q F hR hP ls hl
  have hx := F.1.1
  have hb := F.1.2.1
  have hown := F.1.2.2.2.1
  have hts := F.1.2.2.2.2
  have hS : va_S (f_A E) s.heap s.heap [] := va_S.rf
  skip
  have hl : lv_has ls 4 [(0, .ref (E.2.1 61)), (1, .int a1), (2, .int a2)] := hl
  unfold g_X8_findBy at hG
  refine lv_iconst (v := 0) hx hb dX8_findBy_0 (by decide) ?_
  refine lv_istore_n (lv' := [(3, .int (0 : Int32)), (0, .ref (E.2.1 61)), (1, .int a1), (2, .int a2)]) hx hb dX8_findBy_1 rfl hl (by decide) rfl (fun ls hl => ?_)
  obtain ⟨σl2, hT2, hG⟩ := f_bv hG
  have T2 : ∀ (H : Heap) (locs : List Loc) (ls : Array Slot), f_h E σl2 H → va_S (f_A E) s.heap H locs → lv_has ls 4 [(0, .ref (E.2.1 61)), (1, .int a1), (2, .int a2)] → W p l e rm_X8_findBy s m args below meth c H locs 0 0 Q (F0 m 23 ls []) := by
    intro H locs ls hP hS hl
    obtain ⟨z23, hT23, hB23⟩ := f_bs hG
    have T23 : ∀ (o23 : Unit) (σl23 : fS) (H : Heap) (locs : List Loc) (ls : Array Slot), z23 = .inr (o23, σl23) → f_h E σl23 H → va_S (f_A E) s.heap H locs → lv_has ls 4 [] → W p l e rm_X8_findBy s m args below meth c H locs 0 0 Q (F0 m 59 ls []) := by
      intro o23 σl23 H locs ls hz hP hS hl
      rw [hz] at hB23
      have hG := hB23
      replace hG := f_bs_r hG
      refine lv_iconst (v := 0) hx hb dX8_findBy_59 (by decide) ?_
      exact x_rz hR hS hP (Or.inl rfl) hG dX8_findBy_60
    have L23 : ∀ (n23 : Nat) (σh23 : fS) (H : Heap) (locs : List Loc) (ls : Array Slot), f_h E σh23 H → va_S (f_A E) s.heap H locs → lv_has ls 4 [(0, .ref (E.2.1 61)), (1, .int a1), (2, .int a2)] → lp_X8_findBy_23 N a1 a2 n23 σh23 = some z23 → W p l e rm_X8_findBy s m args below meth c H locs 0 0 Q (F0 m 23 ls []) := by
      intro n23
      induction n23 with
      | zero =>
        intro σh23 H locs ls hP hS hl hG
        rw [lp_X8_findBy_23] at hG
        cases hG
      | succ n23 ih23 =>
        intro σh23 H locs ls hP hS hl hG
        rw [lp_X8_findBy_23] at hG
        refine lv_aload_n hx hb dX8_findBy_23 rfl (lv_at hl 0 rfl) ?_
        refine lv_iload_n hx hb dX8_findBy_24 rfl (lv_at hl 1 rfl) ?_
        obtain ⟨r25, σ25, hC25, hG⟩ := f_bd hG
        refine iv_X8_238 F hS hP (c_X8_goesOn l E N a1 σh23 _ _ hC25) ⟨Nat.le_of_ble_eq_true rfl, Nat.le_of_ble_eq_true rfl⟩ hl.1 (Nat.le_of_ble_eq_true rfl) dX8_findBy_25 ⟨Nat.zero_le _, Nat.zero_le _⟩ (fun H locs hP hS => ?_)
        refine lv_if_eq (tgt := 59) hx hb dX8_findBy_28 (by decide) (fun c28 => ?_) (fun c28 => ?_)
        · have hG := f_ip c28 hG
          exact T23 _ _ _ _ _ (Option.some.inj hG).symm hP hS (lv_sub hl [] rfl)
        · have hG := f_in c28 hG
          refine lv_aload_n hx hb dX8_findBy_31 rfl (lv_at hl 0 rfl) ?_
          refine lv_iload_n hx hb dX8_findBy_32 rfl (lv_at hl 1 rfl) ?_
          obtain ⟨r33, σ33, hC33, hG⟩ := f_bd hG
          refine iv_X8_241 F hS hP (c_X8_comesToNothing l E N a1 σ25 _ _ hC33) ⟨Nat.le_of_ble_eq_true rfl, Nat.le_of_ble_eq_true rfl⟩ hl.1 (Nat.le_of_ble_eq_true rfl) dX8_findBy_33 ⟨Nat.zero_le _, Nat.zero_le _⟩ (fun H locs hP hS => ?_)
          refine lv_if_eq (tgt := 23) hx hb dX8_findBy_36 (by decide) (fun c36 => ?_) (fun c36 => ?_)
          · have hG := f_ip c36 hG
            exact ih23  σ33 _ _ _ hP hS (lv_sub hl [0, 1, 2] rfl) hG
          · have hG := f_in c36 hG
            refine lv_iload_n hx hb dX8_findBy_39 rfl (lv_at hl 2 rfl) ?_
            refine lv_if_eq (tgt := 57) hx hb dX8_findBy_40 (by decide) (fun c40 => ?_) (fun c40 => ?_)
            · have hG := f_ip c40 hG
              refine lv_iconst (v := 1) hx hb dX8_findBy_57 (by decide) ?_
              have hG := f_bs_l hB23 hG
              exact x_rz hR hS hP (Or.inr rfl) hG dX8_findBy_58
            · have hG := f_in c40 hG
              refine lv_aload_n hx hb dX8_findBy_43 rfl (lv_at hl 0 rfl) ?_
              refine gf_X8_75 F hP dX8_findBy_44 ?_
              refine lv_aload_n hx hb dX8_findBy_47 rfl (lv_at hl 0 rfl) ?_
              refine gf_X8_106 F hP dX8_findBy_48 ?_
              refine lv_iconst (v := 1) hx hb dX8_findBy_51 (by decide) ?_
              refine lv_isub hx hb dX8_findBy_52 ?_
              obtain ⟨h53, hG⟩ := f_gd hG
              have i53 := f_fin h53
              refine x_iald F hP rfl rfl i53 dX8_findBy_53 ?_
              refine lv_if_le (tgt := 23) hx hb dX8_findBy_54 (by decide) (fun c54 => ?_) (fun c54 => ?_)
              · have hG := f_ip c54 hG
                exact ih23  σ33 _ _ _ hP hS (lv_sub hl [0, 1, 2] rfl) hG
              · have hG := f_in c54 hG
                refine lv_iconst (v := 1) hx hb dX8_findBy_57 (by decide) ?_
                have hG := f_bs_l hB23 hG
                exact x_rz hR hS hP (Or.inr rfl) hG dX8_findBy_58
    exact L23 N  σl2 _ _ _ hP hS (lv_sub hl [0, 1, 2] rfl) hT23
  have L2 : ∀ (n2 : Nat) (x2_3 : Int32) (σh2 : fS) (H : Heap) (locs : List Loc) (ls : Array Slot), f_h E σh2 H → va_S (f_A E) s.heap H locs → lv_has ls 4 [(0, .ref (E.2.1 61)), (1, .int a1), (2, .int a2), (3, .int x2_3)] → lp_X8_findBy_2 N a1 a2 n2 x2_3 σh2 = some σl2 → W p l e rm_X8_findBy s m args below meth c H locs 0 0 Q (F0 m 2 ls []) := by
    intro n2
    induction n2 with
    | zero =>
      intro x2_3 σh2 H locs ls hP hS hl hG
      rw [lp_X8_findBy_2] at hG
      cases hG
    | succ n2 ih2 =>
      intro x2_3 σh2 H locs ls hP hS hl hG
      rw [lp_X8_findBy_2] at hG
      refine lv_iload_n hx hb dX8_findBy_2 rfl (lv_at hl 3 rfl) ?_
      refine lv_aload_n hx hb dX8_findBy_3 rfl (lv_at hl 0 rfl) ?_
      refine gf_X8_106 F hP dX8_findBy_4 ?_
      refine lv_icmp_ge (tgt := 23) hx hb dX8_findBy_7 (by decide) (fun c7 => ?_) (fun c7 => ?_)
      · have hG := f_ip c7 hG
        cases hG
        exact T2 _ _ _ hP hS (lv_sub hl [0, 1, 2] rfl)
      · have hG := f_in c7 hG
        refine lv_aload_n hx hb dX8_findBy_10 rfl (lv_at hl 0 rfl) ?_
        refine gf_X8_75 F hP dX8_findBy_11 ?_
        refine lv_iload_n hx hb dX8_findBy_14 rfl (lv_at hl 3 rfl) ?_
        refine lv_iconst (v := 0) hx hb dX8_findBy_15 (by decide) ?_
        obtain ⟨h16, hG⟩ := f_gd hG
        have i16 := f_fin h16
        refine x_iast F hS hP rfl rfl i16 dX8_findBy_16 (fun H locs hP hS => ?_)
        obtain ⟨σ16, e16⟩ : ∃ t : fS, t = sI σh2 83 (x2_3).toNatClampNeg (0 : Int32) := ⟨_, rfl⟩
        rw [← e16] at hP
        have hG := f_lt hG e16
        refine lv_iinc (v := (x2_3 + (1 : Int32))) (lv' := [(3, .int (x2_3 + (1 : Int32))), (0, .ref (E.2.1 61)), (1, .int a1), (2, .int a2)]) hx hb dX8_findBy_17 hl (k := 3) rfl (by rfl) (by decide) rfl (fun ls hl => ?_)
        refine lv_goto (tgt := 2) hx hb dX8_findBy_20 (by decide) ?_
        exact ih2 (x2_3 + (1 : Int32)) σ16 _ _ _ hP hS (lv_sub hl [1, 2, 3, 0] rfl) hG
  exact L2 N (0 : Int32) σ _ _ _ hP hS (lv_sub hl [1, 2, 3, 0] rfl) hT2
