theorem dX7_put_0 : decode cX7_put 0 = .ok (.iload_n 1, 1) := by decide +kernel
theorem dX7_put_1 : decode cX7_put 1 = .ok (.invokestatic 69, 3) := by decide +kernel
theorem dX7_put_4 : decode cX7_put 4 = .ok (.ifCond .ne 6, 3) := by decide +kernel
theorem dX7_put_7 : decode cX7_put 7 = .ok (.bipush (-101), 2) := by decide +kernel
theorem dX7_put_9 : decode cX7_put 9 = .ok (.ireturn, 1) := by decide +kernel
theorem dX7_put_10 : decode cX7_put 10 = .ok (.aload_n 0, 1) := by decide +kernel
theorem dX7_put_11 : decode cX7_put 11 = .ok (.getfield 10, 3) := by decide +kernel
theorem dX7_put_14 : decode cX7_put 14 = .ok (.aload_n 0, 1) := by decide +kernel
theorem dX7_put_15 : decode cX7_put 15 = .ok (.getfield 23, 3) := by decide +kernel
theorem dX7_put_18 : decode cX7_put 18 = .ok (.invokevirtual 65, 3) := by decide +kernel
theorem dX7_put_21 : decode cX7_put 21 = .ok (.aload_n 0, 1) := by decide +kernel
theorem dX7_put_22 : decode cX7_put 22 = .ok (.getfield 10, 3) := by decide +kernel
theorem dX7_put_25 : decode cX7_put 25 = .ok (.getfield 61, 3) := by decide +kernel
theorem dX7_put_28 : decode cX7_put 28 = .ok (.if_icmp .lt 13, 3) := by decide +kernel
theorem dX7_put_31 : decode cX7_put 31 = .ok (.aload_n 0, 1) := by decide +kernel
theorem dX7_put_32 : decode cX7_put 32 = .ok (.getfield 10, 3) := by decide +kernel
theorem dX7_put_35 : decode cX7_put 35 = .ok (.invokevirtual 72, 3) := by decide +kernel
theorem dX7_put_38 : decode cX7_put 38 = .ok (.ifCond .ne 6, 3) := by decide +kernel
theorem dX7_put_41 : decode cX7_put 41 = .ok (.bipush (-103), 2) := by decide +kernel
theorem dX7_put_43 : decode cX7_put 43 = .ok (.ireturn, 1) := by decide +kernel
theorem dX7_put_44 : decode cX7_put 44 = .ok (.aload_n 0, 1) := by decide +kernel
theorem dX7_put_45 : decode cX7_put 45 = .ok (.getfield 10, 3) := by decide +kernel
theorem dX7_put_48 : decode cX7_put 48 = .ok (.iconst 0, 1) := by decide +kernel
theorem dX7_put_49 : decode cX7_put 49 = .ok (.putfield 61, 3) := by decide +kernel
theorem dX7_put_52 : decode cX7_put 52 = .ok (.aload_n 0, 1) := by decide +kernel
theorem dX7_put_53 : decode cX7_put 53 = .ok (.iload_n 1, 1) := by decide +kernel
theorem dX7_put_54 : decode cX7_put 54 = .ok (.invokevirtual 76, 3) := by decide +kernel
theorem dX7_put_57 : decode cX7_put 57 = .ok (.aload_n 0, 1) := by decide +kernel
theorem dX7_put_58 : decode cX7_put 58 = .ok (.getfield 18, 3) := by decide +kernel
theorem dX7_put_61 : decode cX7_put 61 = .ok (.iload_n 1, 1) := by decide +kernel
theorem dX7_put_62 : decode cX7_put 62 = .ok (.aaload, 1) := by decide +kernel
theorem dX7_put_63 : decode cX7_put 63 = .ok (.getfield 80, 3) := by decide +kernel
theorem dX7_put_66 : decode cX7_put 66 = .ok (.ireturn, 1) := by decide +kernel
set_option maxHeartbeats 4000000 in
set_option maxRecDepth 100000 in
theorem c_X7_put (l : Launch) (E : fEv) (N : Nat) (a1 : Int32) (σ : fS) (r : Int32) (τ : fS) (hG : g_X7_put N a1 σ = some (r, τ)) : fM l E yX7_put (.code yX7_put cX7_put 2 (some .int)) rm_X7_put [.ref (E.2.1 0), .int a1] σ τ (some (.int r)) := by
  refine f_openI (by decide) (Nat.le_of_ble_eq_true rfl) ?_
  intro p e s m below meth c args Q F hR hP ls hl
  have hx := F.1.1
  have hb := F.1.2.1
  have hown := F.1.2.2.2.1
  have hts := F.1.2.2.2.2
  have hS : va_S (f_A E) s.heap s.heap [] := va_S.rf
  skip
  have hl : lv_has ls 2 [(0, .ref (E.2.1 0)), (1, .int a1)] := hl
  unfold g_X7_put at hG
  refine lv_iload_n hx hb dX7_put_0 rfl (lv_at hl 1 rfl) ?_
  obtain ⟨r1, σ1, hC1, hG⟩ := f_bd hG
  refine iv_X7_69 F hS hP (c_X7_isShelf l E N a1 σ _ _ hC1) ⟨Nat.le_of_ble_eq_true rfl, Nat.le_of_ble_eq_true rfl⟩ hl.1 (Nat.le_of_ble_eq_true rfl) dX7_put_1 ⟨Nat.zero_le _, Nat.zero_le _⟩ (fun H locs hP hS => ?_)
  refine lv_if_ne (tgt := 10) hx hb dX7_put_4 (by decide) (fun c4 => ?_) (fun c4 => ?_)
  · have hG := f_in c4 hG
    refine lv_aload_n hx hb dX7_put_10 rfl (lv_at hl 0 rfl) ?_
    refine gf_X7_10 F hP dX7_put_11 ?_
    refine lv_aload_n hx hb dX7_put_14 rfl (lv_at hl 0 rfl) ?_
    refine gf_X7_23 F hP dX7_put_15 ?_
    obtain ⟨r18, σ18, hC18, hG⟩ := f_bd hG
    refine iv_X7_65 F hS hP (c_X3_readInto l E N 4 rfl σ1 _ _ hC18) ⟨Nat.le_of_ble_eq_true rfl, Nat.le_of_ble_eq_true rfl⟩ hl.1 (Nat.le_of_ble_eq_true rfl) dX7_put_18 ⟨Nat.zero_le _, Nat.zero_le _⟩ (fun H locs hP hS => ?_)
    refine lv_aload_n hx hb dX7_put_21 rfl (lv_at hl 0 rfl) ?_
    refine gf_X7_10 F hP dX7_put_22 ?_
    refine gf_X7_61 F hP dX7_put_25 ?_
    refine lv_icmp_lt (tgt := 41) hx hb dX7_put_28 (by decide) (fun c28 => ?_) (fun c28 => ?_)
    · have hG := f_ip c28 hG
      refine lv_bipush (v := -103) hx hb dX7_put_41 (by decide) ?_
      exact x_ri hR hS hP hG dX7_put_43
    · have hG := f_in c28 hG
      refine lv_aload_n hx hb dX7_put_31 rfl (lv_at hl 0 rfl) ?_
      refine gf_X7_10 F hP dX7_put_32 ?_
      obtain ⟨r35, σ35, hC35, hG⟩ := f_bd hG
      refine iv_X7_72 F hS hP (c_X3_endsInDigit l E N σ18 _ _ hC35) ⟨Nat.le_of_ble_eq_true rfl, Nat.le_of_ble_eq_true rfl⟩ hl.1 (Nat.le_of_ble_eq_true rfl) dX7_put_35 ⟨Nat.zero_le _, Nat.zero_le _⟩ (fun H locs hP hS => ?_)
      refine lv_if_ne (tgt := 44) hx hb dX7_put_38 (by decide) (fun c38 => ?_) (fun c38 => ?_)
      · have hG := f_in c38 hG
        refine lv_aload_n hx hb dX7_put_44 rfl (lv_at hl 0 rfl) ?_
        refine gf_X7_10 F hP dX7_put_45 ?_
        refine lv_iconst (v := 0) hx hb dX7_put_48 (by decide) ?_
        refine pf_X7_61 F hS hP dX7_put_49 (fun H locs hP hS => ?_)
        obtain ⟨σ49, e49⟩ : ∃ t : fS, t = sI σ35 1 1 (0 : Int32) := ⟨_, rfl⟩
        rw [← e49] at hP
        have hG := f_lt hG e49
        refine lv_aload_n hx hb dX7_put_52 rfl (lv_at hl 0 rfl) ?_
        refine lv_iload_n hx hb dX7_put_53 rfl (lv_at hl 1 rfl) ?_
        obtain ⟨σ54, hC54, hG⟩ := f_bv hG
        refine iv_X7_76 F hS hP (c_X7_shelveDraft l E N a1 σ49 _ hC54) ⟨Nat.le_of_ble_eq_true rfl, Nat.le_of_ble_eq_true rfl⟩ hl.1 (Nat.le_of_ble_eq_true rfl) dX7_put_54 ⟨Nat.zero_le _, Nat.zero_le _⟩ (fun H locs hP hS => ?_)
        refine lv_aload_n hx hb dX7_put_57 rfl (lv_at hl 0 rfl) ?_
        refine gf_X7_18 F hP dX7_put_58 ?_
        refine lv_iload_n hx hb dX7_put_61 rfl (lv_at hl 1 rfl) ?_
        obtain ⟨h62, hG⟩ := f_gd hG
        have i62 := f_fin h62
        refine x_aald F hP rfl rfl i62 dX7_put_62 ?_
        refine gf_X7_80 F hP (kd_s i62) dX7_put_63 ?_
        exact x_ri hR hS hP hG dX7_put_66
      · have hG := f_ip c38 hG
        refine lv_bipush (v := -103) hx hb dX7_put_41 (by decide) ?_
        exact x_ri hR hS hP hG dX7_put_43
  · have hG := f_ip c4 hG
    refine lv_bipush (v := -101) hx hb dX7_put_7 (by decide) ?_
    exact x_ri hR hS hP hG dX7_put_9
theorem dX7_classOf_0 : decode cX7_classOf 0 = .ok (.iload_n 1, 1) := by decide +kernel
theorem dX7_classOf_1 : decode cX7_classOf 1 = .ok (.invokestatic 83, 3) := by decide +kernel
theorem dX7_classOf_4 : decode cX7_classOf 4 = .ok (.ifCond .eq 10, 3) := by decide +kernel
theorem dX7_classOf_7 : decode cX7_classOf 7 = .ok (.iload_n 1, 1) := by decide +kernel
theorem dX7_classOf_8 : decode cX7_classOf 8 = .ok (.invokestatic 88, 3) := by decide +kernel
theorem dX7_classOf_11 : decode cX7_classOf 11 = .ok (.goto 5, 3) := by decide +kernel
theorem dX7_classOf_14 : decode cX7_classOf 14 = .ok (.bipush (-102), 2) := by decide +kernel
theorem dX7_classOf_16 : decode cX7_classOf 16 = .ok (.ireturn, 1) := by decide +kernel
set_option maxHeartbeats 4000000 in
set_option maxRecDepth 100000 in
theorem c_X7_classOf (l : Launch) (E : fEv) (N : Nat) (a1 : Int32) (σ : fS) (r : Int32) (τ : fS) (hG : g_X7_classOf N a1 σ = some (r, τ)) : fM l E yX7_classOf (.code yX7_classOf cX7_classOf 2 (some .int)) rm_X7_classOf [.ref (E.2.1 0), .int a1] σ τ (some (.int r)) := by
  refine f_openI (by decide) (Nat.le_of_ble_eq_true rfl) ?_
  intro p e s m below meth c args Q F hR hP ls hl
  have hx := F.1.1
  have hb := F.1.2.1
  have hown := F.1.2.2.2.1
  have hts := F.1.2.2.2.2
  have hS : va_S (f_A E) s.heap s.heap [] := va_S.rf
  skip
  have hl : lv_has ls 2 [(0, .ref (E.2.1 0)), (1, .int a1)] := hl
  unfold g_X7_classOf at hG
  refine lv_iload_n hx hb dX7_classOf_0 rfl (lv_at hl 1 rfl) ?_
  obtain ⟨r1, σ1, hC1, hG⟩ := f_bd hG
  refine iv_X7_83 F hS hP (c_X2_isNumber l E N a1 σ _ _ hC1) ⟨Nat.le_of_ble_eq_true rfl, Nat.le_of_ble_eq_true rfl⟩ hl.1 (Nat.le_of_ble_eq_true rfl) dX7_classOf_1 ⟨Nat.zero_le _, Nat.zero_le _⟩ (fun H locs hP hS => ?_)
  refine lv_if_eq (tgt := 14) hx hb dX7_classOf_4 (by decide) (fun c4 => ?_) (fun c4 => ?_)
  · have hG := f_ip c4 hG
    refine lv_bipush (v := -102) hx hb dX7_classOf_14 (by decide) ?_
    exact x_ri hR hS hP hG dX7_classOf_16
  · have hG := f_in c4 hG
    refine lv_iload_n hx hb dX7_classOf_7 rfl (lv_at hl 1 rfl) ?_
    obtain ⟨r8, σ8, hC8, hG⟩ := f_bd hG
    refine iv_X7_88 F hS hP (c_X2_kindOf l E N a1 σ1 _ _ hC8) ⟨Nat.le_of_ble_eq_true rfl, Nat.le_of_ble_eq_true rfl⟩ hl.1 (Nat.le_of_ble_eq_true rfl) dX7_classOf_8 ⟨Nat.zero_le _, Nat.zero_le _⟩ (fun H locs hP hS => ?_)
    refine lv_goto (tgt := 16) hx hb dX7_classOf_11 (by decide) ?_
    exact x_ri hR hS hP hG dX7_classOf_16
theorem dX7_isKind_0 : decode cX7_isKind 0 = .ok (.iload_n 0, 1) := by decide +kernel
theorem dX7_isKind_1 : decode cX7_isKind 1 = .ok (.ifCond .lt 14, 3) := by decide +kernel
theorem dX7_isKind_4 : decode cX7_isKind 4 = .ok (.iload_n 0, 1) := by decide +kernel
theorem dX7_isKind_5 : decode cX7_isKind 5 = .ok (.sipush 128, 3) := by decide +kernel
theorem dX7_isKind_8 : decode cX7_isKind 8 = .ok (.if_icmp .ge 7, 3) := by decide +kernel
theorem dX7_isKind_11 : decode cX7_isKind 11 = .ok (.iconst 1, 1) := by decide +kernel
theorem dX7_isKind_12 : decode cX7_isKind 12 = .ok (.goto 4, 3) := by decide +kernel
theorem dX7_isKind_15 : decode cX7_isKind 15 = .ok (.iconst 0, 1) := by decide +kernel
theorem dX7_isKind_16 : decode cX7_isKind 16 = .ok (.ireturn, 1) := by decide +kernel
set_option maxHeartbeats 4000000 in
set_option maxRecDepth 100000 in
theorem c_X7_isKind (l : Launch) (E : fEv) (N : Nat) (a0 : Int32) (σ : fS) (r : Int32) (τ : fS) (hG : g_X7_isKind N a0 σ = some (r, τ)) : fM l E yX7_isKind (.code yX7_isKind cX7_isKind 1 (some .boolean)) rm_X7_isKind [.int a0] σ τ (some (.int r)) := by
  refine f_openZ (by decide) (Nat.le_of_ble_eq_true rfl) ?_
  intro p e s m below meth c args Q F hR hP ls hl
  have hx := F.1.1
  have hb := F.1.2.1
  have hown := F.1.2.2.2.1
  have hts := F.1.2.2.2.2
  have hS : va_S (f_A E) s.heap s.heap [] := va_S.rf
  skip
  have hl : lv_has ls 1 [(0, .int a0)] := hl
  unfold g_X7_isKind at hG
  refine lv_iload_n hx hb dX7_isKind_0 rfl (lv_at hl 0 rfl) ?_
  refine lv_if_lt (tgt := 15) hx hb dX7_isKind_1 (by decide) (fun c1 => ?_) (fun c1 => ?_)
  · have hG := f_ip c1 hG
    refine lv_iconst (v := 0) hx hb dX7_isKind_15 (by decide) ?_
    exact x_rz hR hS hP (Or.inl rfl) hG dX7_isKind_16
  · have hG := f_in c1 hG
    refine lv_iload_n hx hb dX7_isKind_4 rfl (lv_at hl 0 rfl) ?_
    refine lv_sipush (v := 128) hx hb dX7_isKind_5 (by decide) ?_
    refine lv_icmp_ge (tgt := 15) hx hb dX7_isKind_8 (by decide) (fun c8 => ?_) (fun c8 => ?_)
    · have hG := f_ip c8 hG
      refine lv_iconst (v := 0) hx hb dX7_isKind_15 (by decide) ?_
      exact x_rz hR hS hP (Or.inl rfl) hG dX7_isKind_16
    · have hG := f_in c8 hG
      refine lv_iconst (v := 1) hx hb dX7_isKind_11 (by decide) ?_
      refine lv_goto (tgt := 16) hx hb dX7_isKind_12 (by decide) ?_
      exact x_rz hR hS hP (Or.inr rfl) hG dX7_isKind_16
theorem dX7_core_0 : decode cX7_core 0 = .ok (.iload_n 1, 1) := by decide +kernel
theorem dX7_core_1 : decode cX7_core 1 = .ok (.invokestatic 92, 3) := by decide +kernel
theorem dX7_core_4 : decode cX7_core 4 = .ok (.ifCond .eq 10, 3) := by decide +kernel
theorem dX7_core_7 : decode cX7_core 7 = .ok (.iload_n 1, 1) := by decide +kernel
theorem dX7_core_8 : decode cX7_core 8 = .ok (.invokestatic 95, 3) := by decide +kernel
theorem dX7_core_11 : decode cX7_core 11 = .ok (.goto 5, 3) := by decide +kernel
theorem dX7_core_14 : decode cX7_core 14 = .ok (.bipush (-102), 2) := by decide +kernel
theorem dX7_core_16 : decode cX7_core 16 = .ok (.ireturn, 1) := by decide +kernel
set_option maxHeartbeats 4000000 in
set_option maxRecDepth 100000 in
theorem c_X7_core (l : Launch) (E : fEv) (N : Nat) (a1 : Int32) (σ : fS) (r : Int32) (τ : fS) (hG : g_X7_core N a1 σ = some (r, τ)) : fM l E yX7_core (.code yX7_core cX7_core 2 (some .int)) rm_X7_core [.ref (E.2.1 0), .int a1] σ τ (some (.int r)) := by
  refine f_openI (by decide) (Nat.le_of_ble_eq_true rfl) ?_
  intro p e s m below meth c args Q F hR hP ls hl
  have hx := F.1.1
  have hb := F.1.2.1
  have hown := F.1.2.2.2.1
  have hts := F.1.2.2.2.2
  have hS : va_S (f_A E) s.heap s.heap [] := va_S.rf
  skip
  have hl : lv_has ls 2 [(0, .ref (E.2.1 0)), (1, .int a1)] := hl
  unfold g_X7_core at hG
  refine lv_iload_n hx hb dX7_core_0 rfl (lv_at hl 1 rfl) ?_
  obtain ⟨r1, σ1, hC1, hG⟩ := f_bd hG
  refine iv_X7_92 F hS hP (c_X7_isKind l E N a1 σ _ _ hC1) ⟨Nat.le_of_ble_eq_true rfl, Nat.le_of_ble_eq_true rfl⟩ hl.1 (Nat.le_of_ble_eq_true rfl) dX7_core_1 ⟨Nat.zero_le _, Nat.zero_le _⟩ (fun H locs hP hS => ?_)
  refine lv_if_eq (tgt := 14) hx hb dX7_core_4 (by decide) (fun c4 => ?_) (fun c4 => ?_)
  · have hG := f_ip c4 hG
    refine lv_bipush (v := -102) hx hb dX7_core_14 (by decide) ?_
    exact x_ri hR hS hP hG dX7_core_16
  · have hG := f_in c4 hG
    refine lv_iload_n hx hb dX7_core_7 rfl (lv_at hl 1 rfl) ?_
    obtain ⟨r8, σ8, hC8, hG⟩ := f_bd hG
    refine iv_X7_95 F hS hP (c_X2_coreOf l E N a1 σ1 _ _ hC8) ⟨Nat.le_of_ble_eq_true rfl, Nat.le_of_ble_eq_true rfl⟩ hl.1 (Nat.le_of_ble_eq_true rfl) dX7_core_8 ⟨Nat.zero_le _, Nat.zero_le _⟩ (fun H locs hP hS => ?_)
    refine lv_goto (tgt := 16) hx hb dX7_core_11 (by decide) ?_
    exact x_ri hR hS hP hG dX7_core_16
theorem dX7_isPlace_0 : decode cX7_isPlace 0 = .ok (.iload_n 0, 1) := by decide +kernel
theorem dX7_isPlace_1 : decode cX7_isPlace 1 = .ok (.ifCond .lt 15, 3) := by decide +kernel
theorem dX7_isPlace_4 : decode cX7_isPlace 4 = .ok (.iload_n 0, 1) := by decide +kernel
theorem dX7_isPlace_5 : decode cX7_isPlace 5 = .ok (.getstatic 266, 3) := by decide +kernel
theorem dX7_isPlace_8 : decode cX7_isPlace 8 = .ok (.arraylength, 1) := by decide +kernel
theorem dX7_isPlace_9 : decode cX7_isPlace 9 = .ok (.if_icmp .ge 7, 3) := by decide +kernel
theorem dX7_isPlace_12 : decode cX7_isPlace 12 = .ok (.iconst 1, 1) := by decide +kernel
theorem dX7_isPlace_13 : decode cX7_isPlace 13 = .ok (.goto 4, 3) := by decide +kernel
theorem dX7_isPlace_16 : decode cX7_isPlace 16 = .ok (.iconst 0, 1) := by decide +kernel
theorem dX7_isPlace_17 : decode cX7_isPlace 17 = .ok (.ireturn, 1) := by decide +kernel
set_option maxHeartbeats 4000000 in
set_option maxRecDepth 100000 in
theorem c_X7_isPlace (l : Launch) (E : fEv) (N : Nat) (a0 : Int32) (σ : fS) (r : Int32) (τ : fS) (hG : g_X7_isPlace N a0 σ = some (r, τ)) : fM l E yX7_isPlace (.code yX7_isPlace cX7_isPlace 1 (some .boolean)) rm_X7_isPlace [.int a0] σ τ (some (.int r)) := by
  refine f_openZ (by decide) (Nat.le_of_ble_eq_true rfl) ?_
  intro p e s m below meth c args Q F hR hP ls hl
  have hx := F.1.1
  have hb := F.1.2.1
  have hown := F.1.2.2.2.1
  have hts := F.1.2.2.2.2
  have hS : va_S (f_A E) s.heap s.heap [] := va_S.rf
  skip
  have hl : lv_has ls 1 [(0, .int a0)] := hl
  unfold g_X7_isPlace at hG
  refine lv_iload_n hx hb dX7_isPlace_0 rfl (lv_at hl 0 rfl) ?_
  refine lv_if_lt (tgt := 16) hx hb dX7_isPlace_1 (by decide) (fun c1 => ?_) (fun c1 => ?_)
  · have hG := f_ip c1 hG
    refine lv_iconst (v := 0) hx hb dX7_isPlace_16 (by decide) ?_
    exact x_rz hR hS hP (Or.inl rfl) hG dX7_isPlace_17
  · have hG := f_in c1 hG
    refine lv_iload_n hx hb dX7_isPlace_4 rfl (lv_at hl 0 rfl) ?_
    refine x_gsB F hS wf_X7_266 dX7_isPlace_5 ?_
    refine x_slB F hS dX7_isPlace_8 ?_
    refine lv_icmp_ge (tgt := 16) hx hb dX7_isPlace_9 (by decide) (fun c9 => ?_) (fun c9 => ?_)
    · have hG := f_ip c9 hG
      refine lv_iconst (v := 0) hx hb dX7_isPlace_16 (by decide) ?_
      exact x_rz hR hS hP (Or.inl rfl) hG dX7_isPlace_17
    · have hG := f_in c9 hG
      refine lv_iconst (v := 1) hx hb dX7_isPlace_12 (by decide) ?_
      refine lv_goto (tgt := 17) hx hb dX7_isPlace_13 (by decide) ?_
      exact x_rz hR hS hP (Or.inr rfl) hG dX7_isPlace_17
theorem dX7_symbol_0 : decode cX7_symbol 0 = .ok (.iload_n 3, 1) := by decide +kernel
theorem dX7_symbol_1 : decode cX7_symbol 1 = .ok (.invokestatic 98, 3) := by decide +kernel
theorem dX7_symbol_4 : decode cX7_symbol 4 = .ok (.ifCond .ne 6, 3) := by decide +kernel
theorem dX7_symbol_7 : decode cX7_symbol 7 = .ok (.bipush (-101), 2) := by decide +kernel
theorem dX7_symbol_9 : decode cX7_symbol 9 = .ok (.ireturn, 1) := by decide +kernel
theorem dX7_symbol_10 : decode cX7_symbol 10 = .ok (.iload_n 1, 1) := by decide +kernel
theorem dX7_symbol_11 : decode cX7_symbol 11 = .ok (.invokestatic 92, 3) := by decide +kernel
theorem dX7_symbol_14 : decode cX7_symbol 14 = .ok (.ifCond .eq 10, 3) := by decide +kernel
theorem dX7_symbol_17 : decode cX7_symbol 17 = .ok (.iload_n 2, 1) := by decide +kernel
theorem dX7_symbol_18 : decode cX7_symbol 18 = .ok (.invokestatic 92, 3) := by decide +kernel
theorem dX7_symbol_21 : decode cX7_symbol 21 = .ok (.ifCond .ne 6, 3) := by decide +kernel
theorem dX7_symbol_24 : decode cX7_symbol 24 = .ok (.bipush (-102), 2) := by decide +kernel
theorem dX7_symbol_26 : decode cX7_symbol 26 = .ok (.ireturn, 1) := by decide +kernel
theorem dX7_symbol_27 : decode cX7_symbol 27 = .ok (.aload_n 0, 1) := by decide +kernel
theorem dX7_symbol_28 : decode cX7_symbol 28 = .ok (.getfield 44, 3) := by decide +kernel
theorem dX7_symbol_31 : decode cX7_symbol 31 = .ok (.iload_n 1, 1) := by decide +kernel
theorem dX7_symbol_32 : decode cX7_symbol 32 = .ok (.iload_n 2, 1) := by decide +kernel
theorem dX7_symbol_33 : decode cX7_symbol 33 = .ok (.invokevirtual 101, 3) := by decide +kernel
theorem dX7_symbol_36 : decode cX7_symbol 36 = .ok (.iload_n 3, 1) := by decide +kernel
theorem dX7_symbol_37 : decode cX7_symbol 37 = .ok (.ishr, 1) := by decide +kernel
theorem dX7_symbol_38 : decode cX7_symbol 38 = .ok (.iconst 1, 1) := by decide +kernel
theorem dX7_symbol_39 : decode cX7_symbol 39 = .ok (.iand, 1) := by decide +kernel
theorem dX7_symbol_40 : decode cX7_symbol 40 = .ok (.ifCond .ne 7, 3) := by decide +kernel
theorem dX7_symbol_43 : decode cX7_symbol 43 = .ok (.iconst 1, 1) := by decide +kernel
theorem dX7_symbol_44 : decode cX7_symbol 44 = .ok (.goto 4, 3) := by decide +kernel
theorem dX7_symbol_47 : decode cX7_symbol 47 = .ok (.iconst (-1), 1) := by decide +kernel
theorem dX7_symbol_48 : decode cX7_symbol 48 = .ok (.ireturn, 1) := by decide +kernel
set_option maxHeartbeats 4000000 in
set_option maxRecDepth 100000 in
theorem c_X7_symbol (l : Launch) (E : fEv) (N : Nat) (a1 : Int32) (a2 : Int32) (a3 : Int32) (σ : fS) (r : Int32) (τ : fS) (hG : g_X7_symbol N a1 a2 a3 σ = some (r, τ)) : fM l E yX7_symbol (.code yX7_symbol cX7_symbol 4 (some .int)) rm_X7_symbol [.ref (E.2.1 0), .int a1, .int a2, .int a3] σ τ (some (.int r)) := by
  refine f_openI (by decide) (Nat.le_of_ble_eq_true rfl) ?_
  intro p e s m below meth c args Q F hR hP ls hl
  have hx := F.1.1
  have hb := F.1.2.1
  have hown := F.1.2.2.2.1
  have hts := F.1.2.2.2.2
  have hS : va_S (f_A E) s.heap s.heap [] := va_S.rf
  skip
  have hl : lv_has ls 4 [(0, .ref (E.2.1 0)), (1, .int a1), (2, .int a2), (3, .int a3)] := hl
  unfold g_X7_symbol at hG
  refine lv_iload_n hx hb dX7_symbol_0 rfl (lv_at hl 3 rfl) ?_
  obtain ⟨r1, σ1, hC1, hG⟩ := f_bd hG
  refine iv_X7_98 F hS hP (c_X7_isPlace l E N a3 σ _ _ hC1) ⟨Nat.le_of_ble_eq_true rfl, Nat.le_of_ble_eq_true rfl⟩ hl.1 (Nat.le_of_ble_eq_true rfl) dX7_symbol_1 ⟨Nat.zero_le _, Nat.zero_le _⟩ (fun H locs hP hS => ?_)
  refine lv_if_ne (tgt := 10) hx hb dX7_symbol_4 (by decide) (fun c4 => ?_) (fun c4 => ?_)
  · have hG := f_in c4 hG
    refine lv_iload_n hx hb dX7_symbol_10 rfl (lv_at hl 1 rfl) ?_
    obtain ⟨r11, σ11, hC11, hG⟩ := f_bd hG
    refine iv_X7_92 F hS hP (c_X7_isKind l E N a1 σ1 _ _ hC11) ⟨Nat.le_of_ble_eq_true rfl, Nat.le_of_ble_eq_true rfl⟩ hl.1 (Nat.le_of_ble_eq_true rfl) dX7_symbol_11 ⟨Nat.zero_le _, Nat.zero_le _⟩ (fun H locs hP hS => ?_)
    refine lv_if_eq (tgt := 24) hx hb dX7_symbol_14 (by decide) (fun c14 => ?_) (fun c14 => ?_)
    · have hG := f_ip c14 hG
      refine lv_bipush (v := -102) hx hb dX7_symbol_24 (by decide) ?_
      exact x_ri hR hS hP hG dX7_symbol_26
    · have hG := f_in c14 hG
      refine lv_iload_n hx hb dX7_symbol_17 rfl (lv_at hl 2 rfl) ?_
      obtain ⟨r18, σ18, hC18, hG⟩ := f_bd hG
      refine iv_X7_92 F hS hP (c_X7_isKind l E N a2 σ11 _ _ hC18) ⟨Nat.le_of_ble_eq_true rfl, Nat.le_of_ble_eq_true rfl⟩ hl.1 (Nat.le_of_ble_eq_true rfl) dX7_symbol_18 ⟨Nat.zero_le _, Nat.zero_le _⟩ (fun H locs hP hS => ?_)
      refine lv_if_ne (tgt := 27) hx hb dX7_symbol_21 (by decide) (fun c21 => ?_) (fun c21 => ?_)
      · have hG := f_in c21 hG
        refine lv_aload_n hx hb dX7_symbol_27 rfl (lv_at hl 0 rfl) ?_
        refine gf_X7_44 F hP dX7_symbol_28 ?_
        refine lv_iload_n hx hb dX7_symbol_31 rfl (lv_at hl 1 rfl) ?_
        refine lv_iload_n hx hb dX7_symbol_32 rfl (lv_at hl 2 rfl) ?_
        obtain ⟨r33, σ33, hC33, hG⟩ := f_bd hG
        refine iv_X7_101 F hS hP (c_X6_symbolBits l E N a1 a2 σ18 _ _ hC33) ⟨Nat.le_of_ble_eq_true rfl, Nat.le_of_ble_eq_true rfl⟩ hl.1 (Nat.le_of_ble_eq_true rfl) dX7_symbol_33 ⟨Nat.zero_le _, Nat.zero_le _⟩ (fun H locs hP hS => ?_)
        refine lv_iload_n hx hb dX7_symbol_36 rfl (lv_at hl 3 rfl) ?_
        refine lv_ishr hx hb dX7_symbol_37 ?_
        refine lv_iconst (v := 1) hx hb dX7_symbol_38 (by decide) ?_
        refine lv_iand hx hb dX7_symbol_39 ?_
        refine lv_if_ne (tgt := 47) hx hb dX7_symbol_40 (by decide) (fun c40 => ?_) (fun c40 => ?_)
        · have hG := f_in c40 hG
          refine lv_iconst (v := -1) hx hb dX7_symbol_47 (by decide) ?_
          exact x_ri hR hS hP hG dX7_symbol_48
        · have hG := f_ip c40 hG
          refine lv_iconst (v := 1) hx hb dX7_symbol_43 (by decide) ?_
          refine lv_goto (tgt := 48) hx hb dX7_symbol_44 (by decide) ?_
          exact x_ri hR hS hP hG dX7_symbol_48
      · have hG := f_ip c21 hG
        refine lv_bipush (v := -102) hx hb dX7_symbol_24 (by decide) ?_
        exact x_ri hR hS hP hG dX7_symbol_26
  · have hG := f_ip c4 hG
    refine lv_bipush (v := -101) hx hb dX7_symbol_7 (by decide) ?_
    exact x_ri hR hS hP hG dX7_symbol_9
theorem dX7_square_0 : decode cX7_square 0 = .ok (.iload_n 2, 1) := by decide +kernel
theorem dX7_square_1 : decode cX7_square 1 = .ok (.invokestatic 98, 3) := by decide +kernel
theorem dX7_square_4 : decode cX7_square 4 = .ok (.ifCond .ne 6, 3) := by decide +kernel
theorem dX7_square_7 : decode cX7_square 7 = .ok (.bipush (-101), 2) := by decide +kernel
theorem dX7_square_9 : decode cX7_square 9 = .ok (.ireturn, 1) := by decide +kernel
theorem dX7_square_10 : decode cX7_square 10 = .ok (.iload_n 1, 1) := by decide +kernel
theorem dX7_square_11 : decode cX7_square 11 = .ok (.invokestatic 92, 3) := by decide +kernel
theorem dX7_square_14 : decode cX7_square 14 = .ok (.ifCond .ne 6, 3) := by decide +kernel
theorem dX7_square_17 : decode cX7_square 17 = .ok (.bipush (-102), 2) := by decide +kernel
theorem dX7_square_19 : decode cX7_square 19 = .ok (.ireturn, 1) := by decide +kernel
theorem dX7_square_20 : decode cX7_square 20 = .ok (.aload_n 0, 1) := by decide +kernel
theorem dX7_square_21 : decode cX7_square 21 = .ok (.getfield 44, 3) := by decide +kernel
theorem dX7_square_24 : decode cX7_square 24 = .ok (.iload_n 1, 1) := by decide +kernel
theorem dX7_square_25 : decode cX7_square 25 = .ok (.invokevirtual 105, 3) := by decide +kernel
theorem dX7_square_28 : decode cX7_square 28 = .ok (.iload_n 2, 1) := by decide +kernel
theorem dX7_square_29 : decode cX7_square 29 = .ok (.ishr, 1) := by decide +kernel
theorem dX7_square_30 : decode cX7_square 30 = .ok (.iconst 1, 1) := by decide +kernel
theorem dX7_square_31 : decode cX7_square 31 = .ok (.iand, 1) := by decide +kernel
theorem dX7_square_32 : decode cX7_square 32 = .ok (.ifCond .ne 7, 3) := by decide +kernel
theorem dX7_square_35 : decode cX7_square 35 = .ok (.iconst 1, 1) := by decide +kernel
theorem dX7_square_36 : decode cX7_square 36 = .ok (.goto 4, 3) := by decide +kernel
theorem dX7_square_39 : decode cX7_square 39 = .ok (.iconst 0, 1) := by decide +kernel
theorem dX7_square_40 : decode cX7_square 40 = .ok (.ireturn, 1) := by decide +kernel
set_option maxHeartbeats 4000000 in
set_option maxRecDepth 100000 in
theorem c_X7_square (l : Launch) (E : fEv) (N : Nat) (a1 : Int32) (a2 : Int32) (σ : fS) (r : Int32) (τ : fS) (hG : g_X7_square N a1 a2 σ = some (r, τ)) : fM l E yX7_square (.code yX7_square cX7_square 3 (some .int)) rm_X7_square [.ref (E.2.1 0), .int a1, .int a2] σ τ (some (.int r)) := by
  refine f_openI (by decide) (Nat.le_of_ble_eq_true rfl) ?_
  intro p e s m below meth c args Q F hR hP ls hl
  have hx := F.1.1
  have hb := F.1.2.1
  have hown := F.1.2.2.2.1
  have hts := F.1.2.2.2.2
  have hS : va_S (f_A E) s.heap s.heap [] := va_S.rf
  skip
  have hl : lv_has ls 3 [(0, .ref (E.2.1 0)), (1, .int a1), (2, .int a2)] := hl
  unfold g_X7_square at hG
  refine lv_iload_n hx hb dX7_square_0 rfl (lv_at hl 2 rfl) ?_
  obtain ⟨r1, σ1, hC1, hG⟩ := f_bd hG
  refine iv_X7_98 F hS hP (c_X7_isPlace l E N a2 σ _ _ hC1) ⟨Nat.le_of_ble_eq_true rfl, Nat.le_of_ble_eq_true rfl⟩ hl.1 (Nat.le_of_ble_eq_true rfl) dX7_square_1 ⟨Nat.zero_le _, Nat.zero_le _⟩ (fun H locs hP hS => ?_)
  refine lv_if_ne (tgt := 10) hx hb dX7_square_4 (by decide) (fun c4 => ?_) (fun c4 => ?_)
  · have hG := f_in c4 hG
    refine lv_iload_n hx hb dX7_square_10 rfl (lv_at hl 1 rfl) ?_
    obtain ⟨r11, σ11, hC11, hG⟩ := f_bd hG
    refine iv_X7_92 F hS hP (c_X7_isKind l E N a1 σ1 _ _ hC11) ⟨Nat.le_of_ble_eq_true rfl, Nat.le_of_ble_eq_true rfl⟩ hl.1 (Nat.le_of_ble_eq_true rfl) dX7_square_11 ⟨Nat.zero_le _, Nat.zero_le _⟩ (fun H locs hP hS => ?_)
    refine lv_if_ne (tgt := 20) hx hb dX7_square_14 (by decide) (fun c14 => ?_) (fun c14 => ?_)
    · have hG := f_in c14 hG
      refine lv_aload_n hx hb dX7_square_20 rfl (lv_at hl 0 rfl) ?_
      refine gf_X7_44 F hP dX7_square_21 ?_
      refine lv_iload_n hx hb dX7_square_24 rfl (lv_at hl 1 rfl) ?_
      obtain ⟨r25, σ25, hC25, hG⟩ := f_bd hG
      refine iv_X7_105 F hS hP (c_X6_unsquareBits l E N a1 σ11 _ _ hC25) ⟨Nat.le_of_ble_eq_true rfl, Nat.le_of_ble_eq_true rfl⟩ hl.1 (Nat.le_of_ble_eq_true rfl) dX7_square_25 ⟨Nat.zero_le _, Nat.zero_le _⟩ (fun H locs hP hS => ?_)
      refine lv_iload_n hx hb dX7_square_28 rfl (lv_at hl 2 rfl) ?_
      refine lv_ishr hx hb dX7_square_29 ?_
      refine lv_iconst (v := 1) hx hb dX7_square_30 (by decide) ?_
      refine lv_iand hx hb dX7_square_31 ?_
      refine lv_if_ne (tgt := 39) hx hb dX7_square_32 (by decide) (fun c32 => ?_) (fun c32 => ?_)
      · have hG := f_in c32 hG
        refine lv_iconst (v := 0) hx hb dX7_square_39 (by decide) ?_
        exact x_ri hR hS hP hG dX7_square_40
      · have hG := f_ip c32 hG
        refine lv_iconst (v := 1) hx hb dX7_square_35 (by decide) ?_
        refine lv_goto (tgt := 40) hx hb dX7_square_36 (by decide) ?_
        exact x_ri hR hS hP hG dX7_square_40
    · have hG := f_ip c14 hG
      refine lv_bipush (v := -102) hx hb dX7_square_17 (by decide) ?_
      exact x_ri hR hS hP hG dX7_square_19
  · have hG := f_ip c4 hG
    refine lv_bipush (v := -101) hx hb dX7_square_7 (by decide) ?_
    exact x_ri hR hS hP hG dX7_square_9
theorem dX7_hasTerm_0 : decode cX7_hasTerm 0 = .ok (.iload_n 1, 1) := by decide +kernel
theorem dX7_hasTerm_1 : decode cX7_hasTerm 1 = .ok (.invokestatic 69, 3) := by decide +kernel
theorem dX7_hasTerm_4 : decode cX7_hasTerm 4 = .ok (.ifCond .eq 24, 3) := by decide +kernel
theorem dX7_hasTerm_7 : decode cX7_hasTerm 7 = .ok (.iload_n 2, 1) := by decide +kernel
theorem dX7_hasTerm_8 : decode cX7_hasTerm 8 = .ok (.ifCond .lt 20, 3) := by decide +kernel
theorem dX7_hasTerm_11 : decode cX7_hasTerm 11 = .ok (.iload_n 2, 1) := by decide +kernel
theorem dX7_hasTerm_12 : decode cX7_hasTerm 12 = .ok (.aload_n 0, 1) := by decide +kernel
theorem dX7_hasTerm_13 : decode cX7_hasTerm 13 = .ok (.getfield 18, 3) := by decide +kernel
theorem dX7_hasTerm_16 : decode cX7_hasTerm 16 = .ok (.iload_n 1, 1) := by decide +kernel
theorem dX7_hasTerm_17 : decode cX7_hasTerm 17 = .ok (.aaload, 1) := by decide +kernel
theorem dX7_hasTerm_18 : decode cX7_hasTerm 18 = .ok (.getfield 80, 3) := by decide +kernel
theorem dX7_hasTerm_21 : decode cX7_hasTerm 21 = .ok (.if_icmp .ge 7, 3) := by decide +kernel
theorem dX7_hasTerm_24 : decode cX7_hasTerm 24 = .ok (.iconst 1, 1) := by decide +kernel
theorem dX7_hasTerm_25 : decode cX7_hasTerm 25 = .ok (.goto 4, 3) := by decide +kernel
theorem dX7_hasTerm_28 : decode cX7_hasTerm 28 = .ok (.iconst 0, 1) := by decide +kernel
theorem dX7_hasTerm_29 : decode cX7_hasTerm 29 = .ok (.ireturn, 1) := by decide +kernel
set_option maxHeartbeats 4000000 in
set_option maxRecDepth 100000 in
theorem c_X7_hasTerm (l : Launch) (E : fEv) (N : Nat) (a1 : Int32) (a2 : Int32) (σ : fS) (r : Int32) (τ : fS) (hG : g_X7_hasTerm N a1 a2 σ = some (r, τ)) : fM l E yX7_hasTerm (.code yX7_hasTerm cX7_hasTerm 3 (some .boolean)) rm_X7_hasTerm [.ref (E.2.1 0), .int a1, .int a2] σ τ (some (.int r)) := by
  refine f_openZ (by decide) (Nat.le_of_ble_eq_true rfl) ?_
  intro p e s m below meth c args Q F hR hP ls hl
  have hx := F.1.1
  have hb := F.1.2.1
  have hown := F.1.2.2.2.1
  have hts := F.1.2.2.2.2
  have hS : va_S (f_A E) s.heap s.heap [] := va_S.rf
  skip
  have hl : lv_has ls 3 [(0, .ref (E.2.1 0)), (1, .int a1), (2, .int a2)] := hl
  unfold g_X7_hasTerm at hG
  refine lv_iload_n hx hb dX7_hasTerm_0 rfl (lv_at hl 1 rfl) ?_
  obtain ⟨r1, σ1, hC1, hG⟩ := f_bd hG
  refine iv_X7_69 F hS hP (c_X7_isShelf l E N a1 σ _ _ hC1) ⟨Nat.le_of_ble_eq_true rfl, Nat.le_of_ble_eq_true rfl⟩ hl.1 (Nat.le_of_ble_eq_true rfl) dX7_hasTerm_1 ⟨Nat.zero_le _, Nat.zero_le _⟩ (fun H locs hP hS => ?_)
  refine lv_if_eq (tgt := 28) hx hb dX7_hasTerm_4 (by decide) (fun c4 => ?_) (fun c4 => ?_)
  · have hG := f_ip c4 hG
    refine lv_iconst (v := 0) hx hb dX7_hasTerm_28 (by decide) ?_
    exact x_rz hR hS hP (Or.inl rfl) hG dX7_hasTerm_29
  · have hG := f_in c4 hG
    refine lv_iload_n hx hb dX7_hasTerm_7 rfl (lv_at hl 2 rfl) ?_
    refine lv_if_lt (tgt := 28) hx hb dX7_hasTerm_8 (by decide) (fun c8 => ?_) (fun c8 => ?_)
    · have hG := f_ip c8 hG
      refine lv_iconst (v := 0) hx hb dX7_hasTerm_28 (by decide) ?_
      exact x_rz hR hS hP (Or.inl rfl) hG dX7_hasTerm_29
    · have hG := f_in c8 hG
      refine lv_iload_n hx hb dX7_hasTerm_11 rfl (lv_at hl 2 rfl) ?_
      refine lv_aload_n hx hb dX7_hasTerm_12 rfl (lv_at hl 0 rfl) ?_
      refine gf_X7_18 F hP dX7_hasTerm_13 ?_
      refine lv_iload_n hx hb dX7_hasTerm_16 rfl (lv_at hl 1 rfl) ?_
      obtain ⟨h17, hG⟩ := f_gd hG
      have i17 := f_fin h17
      refine x_aald F hP rfl rfl i17 dX7_hasTerm_17 ?_
      refine gf_X7_80 F hP (kd_s i17) dX7_hasTerm_18 ?_
      refine lv_icmp_ge (tgt := 28) hx hb dX7_hasTerm_21 (by decide) (fun c21 => ?_) (fun c21 => ?_)
      · have hG := f_ip c21 hG
        refine lv_iconst (v := 0) hx hb dX7_hasTerm_28 (by decide) ?_
        exact x_rz hR hS hP (Or.inl rfl) hG dX7_hasTerm_29
      · have hG := f_in c21 hG
        refine lv_iconst (v := 1) hx hb dX7_hasTerm_24 (by decide) ?_
        refine lv_goto (tgt := 29) hx hb dX7_hasTerm_25 (by decide) ?_
        exact x_rz hR hS hP (Or.inr rfl) hG dX7_hasTerm_29
theorem dX7_at_0 : decode cX7_at 0 = .ok (.aload_n 0, 1) := by decide +kernel
theorem dX7_at_1 : decode cX7_at 1 = .ok (.iload_n 1, 1) := by decide +kernel
theorem dX7_at_2 : decode cX7_at 2 = .ok (.iload_n 2, 1) := by decide +kernel
theorem dX7_at_3 : decode cX7_at 3 = .ok (.invokevirtual 108, 3) := by decide +kernel
theorem dX7_at_6 : decode cX7_at 6 = .ok (.ifCond .ne 6, 3) := by decide +kernel
theorem dX7_at_9 : decode cX7_at 9 = .ok (.bipush (-101), 2) := by decide +kernel
theorem dX7_at_11 : decode cX7_at 11 = .ok (.ireturn, 1) := by decide +kernel
theorem dX7_at_12 : decode cX7_at 12 = .ok (.aload_n 0, 1) := by decide +kernel
theorem dX7_at_13 : decode cX7_at 13 = .ok (.getfield 18, 3) := by decide +kernel
theorem dX7_at_16 : decode cX7_at 16 = .ok (.iload_n 1, 1) := by decide +kernel
theorem dX7_at_17 : decode cX7_at 17 = .ok (.aaload, 1) := by decide +kernel
theorem dX7_at_18 : decode cX7_at 18 = .ok (.iload_n 2, 1) := by decide +kernel
theorem dX7_at_19 : decode cX7_at 19 = .ok (.invokevirtual 112, 3) := by decide +kernel
theorem dX7_at_22 : decode cX7_at 22 = .ok (.invokestatic 95, 3) := by decide +kernel
theorem dX7_at_25 : decode cX7_at 25 = .ok (.ireturn, 1) := by decide +kernel
set_option maxHeartbeats 4000000 in
set_option maxRecDepth 100000 in
theorem c_X7_at (l : Launch) (E : fEv) (N : Nat) (a1 : Int32) (a2 : Int32) (σ : fS) (r : Int32) (τ : fS) (hG : g_X7_at N a1 a2 σ = some (r, τ)) : fM l E yX7_at (.code yX7_at cX7_at 3 (some .int)) rm_X7_at [.ref (E.2.1 0), .int a1, .int a2] σ τ (some (.int r)) := by
  refine f_openI (by decide) (Nat.le_of_ble_eq_true rfl) ?_
  intro p e s m below meth c args Q F hR hP ls hl
  have hx := F.1.1
  have hb := F.1.2.1
  have hown := F.1.2.2.2.1
  have hts := F.1.2.2.2.2
  have hS : va_S (f_A E) s.heap s.heap [] := va_S.rf
  skip
  have hl : lv_has ls 3 [(0, .ref (E.2.1 0)), (1, .int a1), (2, .int a2)] := hl
  unfold g_X7_at at hG
  refine lv_aload_n hx hb dX7_at_0 rfl (lv_at hl 0 rfl) ?_
  refine lv_iload_n hx hb dX7_at_1 rfl (lv_at hl 1 rfl) ?_
  refine lv_iload_n hx hb dX7_at_2 rfl (lv_at hl 2 rfl) ?_
  obtain ⟨r3, σ3, hC3, hG⟩ := f_bd hG
  refine iv_X7_108 F hS hP (c_X7_hasTerm l E N a1 a2 σ _ _ hC3) ⟨Nat.le_of_ble_eq_true rfl, Nat.le_of_ble_eq_true rfl⟩ hl.1 (Nat.le_of_ble_eq_true rfl) dX7_at_3 ⟨Nat.zero_le _, Nat.zero_le _⟩ (fun H locs hP hS => ?_)
  refine lv_if_ne (tgt := 12) hx hb dX7_at_6 (by decide) (fun c6 => ?_) (fun c6 => ?_)
  · have hG := f_in c6 hG
    refine lv_aload_n hx hb dX7_at_12 rfl (lv_at hl 0 rfl) ?_
    refine gf_X7_18 F hP dX7_at_13 ?_
    refine lv_iload_n hx hb dX7_at_16 rfl (lv_at hl 1 rfl) ?_
    obtain ⟨h17, hG⟩ := f_gd hG
    have i17 := f_fin h17
    refine x_aald F hP rfl rfl i17 dX7_at_17 ?_
    refine lv_iload_n hx hb dX7_at_18 rfl (lv_at hl 2 rfl) ?_
    obtain ⟨r19, σ19, hC19, hG⟩ := f_bd hG
    refine iv_X7_112 F hS hP (kd_s i17) (c_X0_kindAt l E N (er 3 (a1).toNatClampNeg) a2 (kd_s i17) σ3 _ _ hC19) ⟨Nat.le_of_ble_eq_true rfl, Nat.le_of_ble_eq_true rfl⟩ hl.1 (Nat.le_of_ble_eq_true rfl) dX7_at_19 ⟨Nat.zero_le _, Nat.zero_le _⟩ (fun H locs hP hS => ?_)
    obtain ⟨r22, σ22, hC22, hG⟩ := f_bd hG
    refine iv_X7_95 F hS hP (c_X2_coreOf l E N r19 σ19 _ _ hC22) ⟨Nat.le_of_ble_eq_true rfl, Nat.le_of_ble_eq_true rfl⟩ hl.1 (Nat.le_of_ble_eq_true rfl) dX7_at_22 ⟨Nat.zero_le _, Nat.zero_le _⟩ (fun H locs hP hS => ?_)
    exact x_ri hR hS hP hG dX7_at_25
  · have hG := f_ip c6 hG
    refine lv_bipush (v := -101) hx hb dX7_at_9 (by decide) ?_
    exact x_ri hR hS hP hG dX7_at_11
theorem dX7_hasForm_0 : decode cX7_hasForm 0 = .ok (.iload_n 1, 1) := by decide +kernel
theorem dX7_hasForm_1 : decode cX7_hasForm 1 = .ok (.invokestatic 69, 3) := by decide +kernel
theorem dX7_hasForm_4 : decode cX7_hasForm 4 = .ok (.ifCond .eq 19, 3) := by decide +kernel
theorem dX7_hasForm_7 : decode cX7_hasForm 7 = .ok (.aload_n 0, 1) := by decide +kernel
theorem dX7_hasForm_8 : decode cX7_hasForm 8 = .ok (.getfield 18, 3) := by decide +kernel
theorem dX7_hasForm_11 : decode cX7_hasForm 11 = .ok (.iload_n 1, 1) := by decide +kernel
theorem dX7_hasForm_12 : decode cX7_hasForm 12 = .ok (.aaload, 1) := by decide +kernel
theorem dX7_hasForm_13 : decode cX7_hasForm 13 = .ok (.getfield 80, 3) := by decide +kernel
theorem dX7_hasForm_16 : decode cX7_hasForm 16 = .ok (.ifCond .le 7, 3) := by decide +kernel
theorem dX7_hasForm_19 : decode cX7_hasForm 19 = .ok (.iconst 1, 1) := by decide +kernel
theorem dX7_hasForm_20 : decode cX7_hasForm 20 = .ok (.goto 4, 3) := by decide +kernel
theorem dX7_hasForm_23 : decode cX7_hasForm 23 = .ok (.iconst 0, 1) := by decide +kernel
theorem dX7_hasForm_24 : decode cX7_hasForm 24 = .ok (.ireturn, 1) := by decide +kernel
set_option maxHeartbeats 4000000 in
set_option maxRecDepth 100000 in
theorem c_X7_hasForm (l : Launch) (E : fEv) (N : Nat) (a1 : Int32) (σ : fS) (r : Int32) (τ : fS) (hG : g_X7_hasForm N a1 σ = some (r, τ)) : fM l E yX7_hasForm (.code yX7_hasForm cX7_hasForm 2 (some .boolean)) rm_X7_hasForm [.ref (E.2.1 0), .int a1] σ τ (some (.int r)) := by
  refine f_openZ (by decide) (Nat.le_of_ble_eq_true rfl) ?_
  intro p e s m below meth c args Q F hR hP ls hl
  have hx := F.1.1
  have hb := F.1.2.1
  have hown := F.1.2.2.2.1
  have hts := F.1.2.2.2.2
  have hS : va_S (f_A E) s.heap s.heap [] := va_S.rf
  skip
  have hl : lv_has ls 2 [(0, .ref (E.2.1 0)), (1, .int a1)] := hl
  unfold g_X7_hasForm at hG
  refine lv_iload_n hx hb dX7_hasForm_0 rfl (lv_at hl 1 rfl) ?_
  obtain ⟨r1, σ1, hC1, hG⟩ := f_bd hG
  refine iv_X7_69 F hS hP (c_X7_isShelf l E N a1 σ _ _ hC1) ⟨Nat.le_of_ble_eq_true rfl, Nat.le_of_ble_eq_true rfl⟩ hl.1 (Nat.le_of_ble_eq_true rfl) dX7_hasForm_1 ⟨Nat.zero_le _, Nat.zero_le _⟩ (fun H locs hP hS => ?_)
  refine lv_if_eq (tgt := 23) hx hb dX7_hasForm_4 (by decide) (fun c4 => ?_) (fun c4 => ?_)
  · have hG := f_ip c4 hG
    refine lv_iconst (v := 0) hx hb dX7_hasForm_23 (by decide) ?_
    exact x_rz hR hS hP (Or.inl rfl) hG dX7_hasForm_24
  · have hG := f_in c4 hG
    refine lv_aload_n hx hb dX7_hasForm_7 rfl (lv_at hl 0 rfl) ?_
    refine gf_X7_18 F hP dX7_hasForm_8 ?_
    refine lv_iload_n hx hb dX7_hasForm_11 rfl (lv_at hl 1 rfl) ?_
    obtain ⟨h12, hG⟩ := f_gd hG
    have i12 := f_fin h12
    refine x_aald F hP rfl rfl i12 dX7_hasForm_12 ?_
    refine gf_X7_80 F hP (kd_s i12) dX7_hasForm_13 ?_
    refine lv_if_le (tgt := 23) hx hb dX7_hasForm_16 (by decide) (fun c16 => ?_) (fun c16 => ?_)
    · have hG := f_ip c16 hG
      refine lv_iconst (v := 0) hx hb dX7_hasForm_23 (by decide) ?_
      exact x_rz hR hS hP (Or.inl rfl) hG dX7_hasForm_24
    · have hG := f_in c16 hG
      refine lv_iconst (v := 1) hx hb dX7_hasForm_19 (by decide) ?_
      refine lv_goto (tgt := 24) hx hb dX7_hasForm_20 (by decide) ?_
      exact x_rz hR hS hP (Or.inr rfl) hG dX7_hasForm_24
theorem dX7_leastLike_0 : decode cX7_leastLike 0 = .ok (.iconst 0, 1) := by decide +kernel
theorem dX7_leastLike_1 : decode cX7_leastLike 1 = .ok (.istore_n 2, 1) := by decide +kernel
theorem dX7_leastLike_2 : decode cX7_leastLike 2 = .ok (.iload_n 2, 1) := by decide +kernel
theorem dX7_leastLike_3 : decode cX7_leastLike 3 = .ok (.iload_n 1, 1) := by decide +kernel
theorem dX7_leastLike_4 : decode cX7_leastLike 4 = .ok (.if_icmp .ge 43, 3) := by decide +kernel
theorem dX7_leastLike_7 : decode cX7_leastLike 7 = .ok (.iload_n 1, 1) := by decide +kernel
theorem dX7_leastLike_8 : decode cX7_leastLike 8 = .ok (.bipush 8, 2) := by decide +kernel
theorem dX7_leastLike_10 : decode cX7_leastLike 10 = .ok (.if_icmp .ge 37, 3) := by decide +kernel
theorem dX7_leastLike_13 : decode cX7_leastLike 13 = .ok (.aload_n 0, 1) := by decide +kernel
theorem dX7_leastLike_14 : decode cX7_leastLike 14 = .ok (.iload_n 2, 1) := by decide +kernel
theorem dX7_leastLike_15 : decode cX7_leastLike 15 = .ok (.invokevirtual 115, 3) := by decide +kernel
theorem dX7_leastLike_18 : decode cX7_leastLike 18 = .ok (.ifCond .eq 23, 3) := by decide +kernel
theorem dX7_leastLike_21 : decode cX7_leastLike 21 = .ok (.aload_n 0, 1) := by decide +kernel
theorem dX7_leastLike_22 : decode cX7_leastLike 22 = .ok (.getfield 18, 3) := by decide +kernel
theorem dX7_leastLike_25 : decode cX7_leastLike 25 = .ok (.iload_n 2, 1) := by decide +kernel
theorem dX7_leastLike_26 : decode cX7_leastLike 26 = .ok (.aaload, 1) := by decide +kernel
theorem dX7_leastLike_27 : decode cX7_leastLike 27 = .ok (.aload_n 0, 1) := by decide +kernel
theorem dX7_leastLike_28 : decode cX7_leastLike 28 = .ok (.getfield 18, 3) := by decide +kernel
theorem dX7_leastLike_31 : decode cX7_leastLike 31 = .ok (.iload_n 1, 1) := by decide +kernel
theorem dX7_leastLike_32 : decode cX7_leastLike 32 = .ok (.aaload, 1) := by decide +kernel
theorem dX7_leastLike_33 : decode cX7_leastLike 33 = .ok (.invokevirtual 279, 3) := by decide +kernel
theorem dX7_leastLike_36 : decode cX7_leastLike 36 = .ok (.ifCond .eq 5, 3) := by decide +kernel
theorem dX7_leastLike_39 : decode cX7_leastLike 39 = .ok (.iload_n 2, 1) := by decide +kernel
theorem dX7_leastLike_40 : decode cX7_leastLike 40 = .ok (.ireturn, 1) := by decide +kernel
theorem dX7_leastLike_41 : decode cX7_leastLike 41 = .ok (.iinc 2 1, 3) := by decide +kernel
theorem dX7_leastLike_44 : decode cX7_leastLike 44 = .ok (.goto (-42), 3) := by decide +kernel
theorem dX7_leastLike_47 : decode cX7_leastLike 47 = .ok (.iload_n 1, 1) := by decide +kernel
theorem dX7_leastLike_48 : decode cX7_leastLike 48 = .ok (.ireturn, 1) := by decide +kernel
set_option maxHeartbeats 4000000 in
set_option maxRecDepth 100000 in
theorem c_X7_leastLike (l : Launch) (E : fEv) (N : Nat) (a1 : Int32) (σ : fS) (r : Int32) (τ : fS) (hG : g_X7_leastLike N a1 σ = some (r, τ)) : fM l E yX7_leastLike (.code yX7_leastLike cX7_leastLike 3 (some .int)) rm_X7_leastLike [.ref (E.2.1 0), .int a1] σ τ (some (.int r)) := by
  refine f_openI (by decide) (Nat.le_of_ble_eq_true rfl) ?_
  intro p e s m below meth c args Q F hR hP ls hl
  have hx := F.1.1
  have hb := F.1.2.1
  have hown := F.1.2.2.2.1
  have hts := F.1.2.2.2.2
  have hS : va_S (f_A E) s.heap s.heap [] := va_S.rf
  skip
  have hl : lv_has ls 3 [(0, .ref (E.2.1 0)), (1, .int a1)] := hl
  unfold g_X7_leastLike at hG
  refine lv_iconst (v := 0) hx hb dX7_leastLike_0 (by decide) ?_
  refine lv_istore_n (lv' := [(2, .int (0 : Int32)), (0, .ref (E.2.1 0)), (1, .int a1)]) hx hb dX7_leastLike_1 rfl hl (by decide) rfl (fun ls hl => ?_)
  obtain ⟨z2, hT2, hB2⟩ := f_bs hG
  have T2 : ∀ (o2 : Unit) (σl2 : fS) (H : Heap) (locs : List Loc) (ls : Array Slot), z2 = .inr (o2, σl2) → f_h E σl2 H → va_S (f_A E) s.heap H locs → lv_has ls 3 [(1, .int a1)] → W p l e rm_X7_leastLike s m args below meth c H locs 0 0 Q (F0 m 47 ls []) := by
    intro o2 σl2 H locs ls hz hP hS hl
    rw [hz] at hB2
    have hG := hB2
    replace hG := f_bs_r hG
    refine lv_iload_n hx hb dX7_leastLike_47 rfl (lv_at hl 0 rfl) ?_
    exact x_ri hR hS hP hG dX7_leastLike_48
  have L2 : ∀ (n2 : Nat) (x2_2 : Int32) (σh2 : fS) (H : Heap) (locs : List Loc) (ls : Array Slot), f_h E σh2 H → va_S (f_A E) s.heap H locs → lv_has ls 3 [(0, .ref (E.2.1 0)), (1, .int a1), (2, .int x2_2)] → lp_X7_leastLike_2 N a1 n2 x2_2 σh2 = some z2 → W p l e rm_X7_leastLike s m args below meth c H locs 0 0 Q (F0 m 2 ls []) := by
    intro n2
    induction n2 with
    | zero =>
      intro x2_2 σh2 H locs ls hP hS hl hG
      rw [lp_X7_leastLike_2] at hG
      cases hG
    | succ n2 ih2 =>
      intro x2_2 σh2 H locs ls hP hS hl hG
      rw [lp_X7_leastLike_2] at hG
      refine lv_iload_n hx hb dX7_leastLike_2 rfl (lv_at hl 2 rfl) ?_
      refine lv_iload_n hx hb dX7_leastLike_3 rfl (lv_at hl 1 rfl) ?_
      refine lv_icmp_ge (tgt := 47) hx hb dX7_leastLike_4 (by decide) (fun c4 => ?_) (fun c4 => ?_)
      · have hG := f_ip c4 hG
        exact T2 _ _ _ _ _ (Option.some.inj hG).symm hP hS (lv_sub hl [1] rfl)
      · have hG := f_in c4 hG
        refine lv_iload_n hx hb dX7_leastLike_7 rfl (lv_at hl 1 rfl) ?_
        refine lv_bipush (v := 8) hx hb dX7_leastLike_8 (by decide) ?_
        refine lv_icmp_ge (tgt := 47) hx hb dX7_leastLike_10 (by decide) (fun c10 => ?_) (fun c10 => ?_)
        · have hG := f_ip c10 hG
          exact T2 _ _ _ _ _ (Option.some.inj hG).symm hP hS (lv_sub hl [1] rfl)
        · have hG := f_in c10 hG
          refine lv_aload_n hx hb dX7_leastLike_13 rfl (lv_at hl 0 rfl) ?_
          refine lv_iload_n hx hb dX7_leastLike_14 rfl (lv_at hl 2 rfl) ?_
          obtain ⟨r15, σ15, hC15, hG⟩ := f_bd hG
          refine iv_X7_115 F hS hP (c_X7_hasForm l E N x2_2 σh2 _ _ hC15) ⟨Nat.le_of_ble_eq_true rfl, Nat.le_of_ble_eq_true rfl⟩ hl.1 (Nat.le_of_ble_eq_true rfl) dX7_leastLike_15 ⟨Nat.zero_le _, Nat.zero_le _⟩ (fun H locs hP hS => ?_)
          refine lv_if_eq (tgt := 41) hx hb dX7_leastLike_18 (by decide) (fun c18 => ?_) (fun c18 => ?_)
          · have hG := f_ip c18 hG
            refine lv_iinc (v := (x2_2 + (1 : Int32))) (lv' := [(2, .int (x2_2 + (1 : Int32))), (0, .ref (E.2.1 0)), (1, .int a1)]) hx hb dX7_leastLike_41 hl (k := 2) rfl (by rfl) (by decide) rfl (fun ls hl => ?_)
            refine lv_goto (tgt := 2) hx hb dX7_leastLike_44 (by decide) ?_
            exact ih2 (x2_2 + (1 : Int32)) σ15 _ _ _ hP hS (lv_sub hl [1, 2, 0] rfl) hG
          · have hG := f_in c18 hG
            refine lv_aload_n hx hb dX7_leastLike_21 rfl (lv_at hl 0 rfl) ?_
            refine gf_X7_18 F hP dX7_leastLike_22 ?_
            refine lv_iload_n hx hb dX7_leastLike_25 rfl (lv_at hl 2 rfl) ?_
            obtain ⟨h26, hG⟩ := f_gd hG
            have i26 := f_fin h26
            refine x_aald F hP rfl rfl i26 dX7_leastLike_26 ?_
            refine lv_aload_n hx hb dX7_leastLike_27 rfl (lv_at hl 0 rfl) ?_
            refine gf_X7_18 F hP dX7_leastLike_28 ?_
            refine lv_iload_n hx hb dX7_leastLike_31 rfl (lv_at hl 1 rfl) ?_
            obtain ⟨h32, hG⟩ := f_gd hG
            have i32 := f_fin h32
            refine x_aald F hP rfl rfl i32 dX7_leastLike_32 ?_
            obtain ⟨r33, σ33, hC33, hG⟩ := f_bd hG
            refine iv_X7_279 F hS hP (kd_s i26) (c_X0_isLike l E N (er 3 (x2_2).toNatClampNeg) (er 3 (a1).toNatClampNeg) (kd_s i26) (kd_s i32) σ15 _ _ hC33) ⟨Nat.le_of_ble_eq_true rfl, Nat.le_of_ble_eq_true rfl⟩ hl.1 (Nat.le_of_ble_eq_true rfl) dX7_leastLike_33 ⟨Nat.zero_le _, Nat.zero_le _⟩ (fun H locs hP hS => ?_)
            refine lv_if_eq (tgt := 41) hx hb dX7_leastLike_36 (by decide) (fun c36 => ?_) (fun c36 => ?_)
            · have hG := f_ip c36 hG
              refine lv_iinc (v := (x2_2 + (1 : Int32))) (lv' := [(2, .int (x2_2 + (1 : Int32))), (0, .ref (E.2.1 0)), (1, .int a1)]) hx hb dX7_leastLike_41 hl (k := 2) rfl (by rfl) (by decide) rfl (fun ls hl => ?_)
              refine lv_goto (tgt := 2) hx hb dX7_leastLike_44 (by decide) ?_
              exact ih2 (x2_2 + (1 : Int32)) σ33 _ _ _ hP hS (lv_sub hl [1, 2, 0] rfl) hG
            · have hG := f_in c36 hG
              refine lv_iload_n hx hb dX7_leastLike_39 rfl (lv_at hl 2 rfl) ?_
              have hG := f_bs_l hB2 hG
              exact x_ri hR hS hP hG dX7_leastLike_40
  exact L2 N (0 : Int32) σ _ _ _ hP hS (lv_sub hl [1, 2, 0] rfl) hT2
theorem dX7_about_0 : decode cX7_about 0 = .ok (.aload_n 0, 1) := by decide +kernel
theorem dX7_about_1 : decode cX7_about 1 = .ok (.iload_n 1, 1) := by decide +kernel
theorem dX7_about_2 : decode cX7_about 2 = .ok (.invokevirtual 115, 3) := by decide +kernel
theorem dX7_about_5 : decode cX7_about 5 = .ok (.ifCond .ne 6, 3) := by decide +kernel
theorem dX7_about_8 : decode cX7_about 8 = .ok (.bipush (-101), 2) := by decide +kernel
theorem dX7_about_10 : decode cX7_about 10 = .ok (.ireturn, 1) := by decide +kernel
theorem dX7_about_11 : decode cX7_about 11 = .ok (.iload_n 2, 1) := by decide +kernel
theorem dX7_about_12 : decode cX7_about 12 = .ok (.ifCond .lt 9, 3) := by decide +kernel
theorem dX7_about_15 : decode cX7_about 15 = .ok (.iload_n 2, 1) := by decide +kernel
theorem dX7_about_16 : decode cX7_about 16 = .ok (.bipush 8, 2) := by decide +kernel
theorem dX7_about_18 : decode cX7_about 18 = .ok (.if_icmp .le 6, 3) := by decide +kernel
theorem dX7_about_21 : decode cX7_about 21 = .ok (.bipush (-102), 2) := by decide +kernel
theorem dX7_about_23 : decode cX7_about 23 = .ok (.ireturn, 1) := by decide +kernel
theorem dX7_about_24 : decode cX7_about 24 = .ok (.aload_n 0, 1) := by decide +kernel
theorem dX7_about_25 : decode cX7_about 25 = .ok (.getfield 18, 3) := by decide +kernel
theorem dX7_about_28 : decode cX7_about 28 = .ok (.iload_n 1, 1) := by decide +kernel
theorem dX7_about_29 : decode cX7_about 29 = .ok (.aaload, 1) := by decide +kernel
theorem dX7_about_30 : decode cX7_about 30 = .ok (.astore_n 3, 1) := by decide +kernel
theorem dX7_about_31 : decode cX7_about 31 = .ok (.iload_n 2, 1) := by decide +kernel
theorem dX7_about_32 : decode cX7_about 32 = .ok (.tableswitch 92 0 7 #[48, 53, 58, 63, 68, 73, 78, 83], 48) := by decide +kernel
theorem dX7_about_80 : decode cX7_about 80 = .ok (.aload_n 3, 1) := by decide +kernel
theorem dX7_about_81 : decode cX7_about 81 = .ok (.getfield 80, 3) := by decide +kernel
theorem dX7_about_84 : decode cX7_about 84 = .ok (.ireturn, 1) := by decide +kernel
theorem dX7_about_85 : decode cX7_about 85 = .ok (.aload_n 3, 1) := by decide +kernel
theorem dX7_about_86 : decode cX7_about 86 = .ok (.invokevirtual 118, 3) := by decide +kernel
theorem dX7_about_89 : decode cX7_about 89 = .ok (.ireturn, 1) := by decide +kernel
theorem dX7_about_90 : decode cX7_about 90 = .ok (.aload_n 3, 1) := by decide +kernel
theorem dX7_about_91 : decode cX7_about 91 = .ok (.invokevirtual 122, 3) := by decide +kernel
theorem dX7_about_94 : decode cX7_about 94 = .ok (.ireturn, 1) := by decide +kernel
theorem dX7_about_95 : decode cX7_about 95 = .ok (.aload_n 3, 1) := by decide +kernel
theorem dX7_about_96 : decode cX7_about 96 = .ok (.getfield 125, 3) := by decide +kernel
theorem dX7_about_99 : decode cX7_about 99 = .ok (.ireturn, 1) := by decide +kernel
theorem dX7_about_100 : decode cX7_about 100 = .ok (.aload_n 3, 1) := by decide +kernel
theorem dX7_about_101 : decode cX7_about 101 = .ok (.getfield 128, 3) := by decide +kernel
theorem dX7_about_104 : decode cX7_about 104 = .ok (.ireturn, 1) := by decide +kernel
theorem dX7_about_105 : decode cX7_about 105 = .ok (.aload_n 3, 1) := by decide +kernel
theorem dX7_about_106 : decode cX7_about 106 = .ok (.invokevirtual 131, 3) := by decide +kernel
theorem dX7_about_109 : decode cX7_about 109 = .ok (.ireturn, 1) := by decide +kernel
theorem dX7_about_110 : decode cX7_about 110 = .ok (.aload_n 3, 1) := by decide +kernel
theorem dX7_about_111 : decode cX7_about 111 = .ok (.invokevirtual 134, 3) := by decide +kernel
theorem dX7_about_114 : decode cX7_about 114 = .ok (.ireturn, 1) := by decide +kernel
theorem dX7_about_115 : decode cX7_about 115 = .ok (.aload_n 3, 1) := by decide +kernel
theorem dX7_about_116 : decode cX7_about 116 = .ok (.aload_n 0, 1) := by decide +kernel
theorem dX7_about_117 : decode cX7_about 117 = .ok (.getfield 44, 3) := by decide +kernel
theorem dX7_about_120 : decode cX7_about 120 = .ok (.invokevirtual 137, 3) := by decide +kernel
theorem dX7_about_123 : decode cX7_about 123 = .ok (.ireturn, 1) := by decide +kernel
theorem dX7_about_124 : decode cX7_about 124 = .ok (.aload_n 0, 1) := by decide +kernel
theorem dX7_about_125 : decode cX7_about 125 = .ok (.iload_n 1, 1) := by decide +kernel
theorem dX7_about_126 : decode cX7_about 126 = .ok (.invokevirtual 141, 3) := by decide +kernel
theorem dX7_about_129 : decode cX7_about 129 = .ok (.ireturn, 1) := by decide +kernel
set_option maxHeartbeats 4000000 in
set_option maxRecDepth 100000 in
theorem c_X7_about (l : Launch) (E : fEv) (N : Nat) (a1 : Int32) (a2 : Int32) (σ : fS) (r : Int32) (τ : fS) (hG : g_X7_about N a1 a2 σ = some (r, τ)) : fM l E yX7_about (.code yX7_about cX7_about 4 (some .int)) rm_X7_about [.ref (E.2.1 0), .int a1, .int a2] σ τ (some (.int r)) := by
  refine f_openI (by decide) (Nat.le_of_ble_eq_true rfl) ?_
  intro p e s m below meth c args Q F hR hP ls hl
  have hx := F.1.1
  have hb := F.1.2.1
  have hown := F.1.2.2.2.1
  have hts := F.1.2.2.2.2
  have hS : va_S (f_A E) s.heap s.heap [] := va_S.rf
  skip
  have hl : lv_has ls 4 [(0, .ref (E.2.1 0)), (1, .int a1), (2, .int a2)] := hl
  unfold g_X7_about at hG
  refine lv_aload_n hx hb dX7_about_0 rfl (lv_at hl 0 rfl) ?_
  refine lv_iload_n hx hb dX7_about_1 rfl (lv_at hl 1 rfl) ?_
  obtain ⟨r2, σ2, hC2, hG⟩ := f_bd hG
  refine iv_X7_115 F hS hP (c_X7_hasForm l E N a1 σ _ _ hC2) ⟨Nat.le_of_ble_eq_true rfl, Nat.le_of_ble_eq_true rfl⟩ hl.1 (Nat.le_of_ble_eq_true rfl) dX7_about_2 ⟨Nat.zero_le _, Nat.zero_le _⟩ (fun H locs hP hS => ?_)
  refine lv_if_ne (tgt := 11) hx hb dX7_about_5 (by decide) (fun c5 => ?_) (fun c5 => ?_)
  · have hG := f_in c5 hG
    refine lv_iload_n hx hb dX7_about_11 rfl (lv_at hl 2 rfl) ?_
    refine lv_if_lt (tgt := 21) hx hb dX7_about_12 (by decide) (fun c12 => ?_) (fun c12 => ?_)
    · have hG := f_ip c12 hG
      refine lv_bipush (v := -102) hx hb dX7_about_21 (by decide) ?_
      exact x_ri hR hS hP hG dX7_about_23
    · have hG := f_in c12 hG
      refine lv_iload_n hx hb dX7_about_15 rfl (lv_at hl 2 rfl) ?_
      refine lv_bipush (v := 8) hx hb dX7_about_16 (by decide) ?_
      refine lv_icmp_le (tgt := 24) hx hb dX7_about_18 (by decide) (fun c18 => ?_) (fun c18 => ?_)
      · have hG := f_ip c18 hG
        refine lv_aload_n hx hb dX7_about_24 rfl (lv_at hl 0 rfl) ?_
        refine gf_X7_18 F hP dX7_about_25 ?_
        refine lv_iload_n hx hb dX7_about_28 rfl (lv_at hl 1 rfl) ?_
        obtain ⟨h29, hG⟩ := f_gd hG
        have i29 := f_fin h29
        refine x_aald F hP rfl rfl i29 dX7_about_29 ?_
        refine lv_astore_n (lv' := [(3, .ref (E.2.1 (er 3 (a1).toNatClampNeg))), (0, .ref (E.2.1 0)), (1, .int a1), (2, .int a2)]) hx hb dX7_about_30 rfl hl (by decide) rfl (fun ls hl => ?_)
        refine lv_iload_n hx hb dX7_about_31 rfl (lv_at hl 3 rfl) ?_
        by_cases c32_0 : a2 = 0
        · have hG := f_ip c32_0 hG
          refine lv_tableIn (off := 48) (tgt := 80) hx hb dX7_about_32 (by rw [c32_0]; decide) (by rw [c32_0]; decide) (by rw [c32_0]; rfl) (by decide) ?_
          refine lv_aload_n hx hb dX7_about_80 rfl (lv_at hl 0 rfl) ?_
          refine gf_X7_80 F hP (kd_s i29) dX7_about_81 ?_
          exact x_ri hR hS hP hG dX7_about_84
        · have hG := f_in c32_0 hG
          by_cases c32_1 : a2 = 1
          · have hG := f_ip c32_1 hG
            refine lv_tableIn (off := 53) (tgt := 85) hx hb dX7_about_32 (by rw [c32_1]; decide) (by rw [c32_1]; decide) (by rw [c32_1]; rfl) (by decide) ?_
            refine lv_aload_n hx hb dX7_about_85 rfl (lv_at hl 0 rfl) ?_
            obtain ⟨r86, σ86, hC86, hG⟩ := f_bd hG
            refine iv_X7_118 F hS hP (kd_s i29) (c_X0_countAbove l E N (er 3 (a1).toNatClampNeg) (kd_s i29) σ2 _ _ hC86) ⟨Nat.le_of_ble_eq_true rfl, Nat.le_of_ble_eq_true rfl⟩ hl.1 (Nat.le_of_ble_eq_true rfl) dX7_about_86 ⟨Nat.zero_le _, Nat.zero_le _⟩ (fun H locs hP hS => ?_)
            exact x_ri hR hS hP hG dX7_about_89
          · have hG := f_in c32_1 hG
            by_cases c32_2 : a2 = 2
            · have hG := f_ip c32_2 hG
              refine lv_tableIn (off := 58) (tgt := 90) hx hb dX7_about_32 (by rw [c32_2]; decide) (by rw [c32_2]; decide) (by rw [c32_2]; rfl) (by decide) ?_
              refine lv_aload_n hx hb dX7_about_90 rfl (lv_at hl 0 rfl) ?_
              obtain ⟨r91, σ91, hC91, hG⟩ := f_bd hG
              refine iv_X7_122 F hS hP (kd_s i29) (c_X0_det l E N (er 3 (a1).toNatClampNeg) (kd_s i29) σ2 _ _ hC91) ⟨Nat.le_of_ble_eq_true rfl, Nat.le_of_ble_eq_true rfl⟩ hl.1 (Nat.le_of_ble_eq_true rfl) dX7_about_91 ⟨Nat.zero_le _, Nat.zero_le _⟩ (fun H locs hP hS => ?_)
              exact x_ri hR hS hP hG dX7_about_94
            · have hG := f_in c32_2 hG
              by_cases c32_3 : a2 = 3
              · have hG := f_ip c32_3 hG
                refine lv_tableIn (off := 63) (tgt := 95) hx hb dX7_about_32 (by rw [c32_3]; decide) (by rw [c32_3]; decide) (by rw [c32_3]; rfl) (by decide) ?_
                refine lv_aload_n hx hb dX7_about_95 rfl (lv_at hl 0 rfl) ?_
                refine gf_X7_125 F hP (kd_s i29) dX7_about_96 ?_
                exact x_ri hR hS hP hG dX7_about_99
              · have hG := f_in c32_3 hG
                by_cases c32_4 : a2 = 4
                · have hG := f_ip c32_4 hG
                  refine lv_tableIn (off := 68) (tgt := 100) hx hb dX7_about_32 (by rw [c32_4]; decide) (by rw [c32_4]; decide) (by rw [c32_4]; rfl) (by decide) ?_
                  refine lv_aload_n hx hb dX7_about_100 rfl (lv_at hl 0 rfl) ?_
                  refine gf_X7_128 F hP (kd_s i29) dX7_about_101 ?_
                  exact x_ri hR hS hP hG dX7_about_104
                · have hG := f_in c32_4 hG
                  by_cases c32_5 : a2 = 5
                  · have hG := f_ip c32_5 hG
                    refine lv_tableIn (off := 73) (tgt := 105) hx hb dX7_about_32 (by rw [c32_5]; decide) (by rw [c32_5]; decide) (by rw [c32_5]; rfl) (by decide) ?_
                    refine lv_aload_n hx hb dX7_about_105 rfl (lv_at hl 0 rfl) ?_
                    obtain ⟨r106, σ106, hC106, hG⟩ := f_bd hG
                    refine iv_X7_131 F hS hP (kd_s i29) (c_X0_planes l E N (er 3 (a1).toNatClampNeg) (kd_s i29) σ2 _ _ hC106) ⟨Nat.le_of_ble_eq_true rfl, Nat.le_of_ble_eq_true rfl⟩ hl.1 (Nat.le_of_ble_eq_true rfl) dX7_about_106 ⟨Nat.zero_le _, Nat.zero_le _⟩ (fun H locs hP hS => ?_)
                    exact x_ri hR hS hP hG dX7_about_109
                  · have hG := f_in c32_5 hG
                    by_cases c32_6 : a2 = 6
                    · have hG := f_ip c32_6 hG
                      refine lv_tableIn (off := 78) (tgt := 110) hx hb dX7_about_32 (by rw [c32_6]; decide) (by rw [c32_6]; decide) (by rw [c32_6]; rfl) (by decide) ?_
                      refine lv_aload_n hx hb dX7_about_110 rfl (lv_at hl 0 rfl) ?_
                      obtain ⟨r111, σ111, hC111, hG⟩ := f_bd hG
                      refine iv_X7_134 F hS hP (kd_s i29) (c_X0_restDet l E N (er 3 (a1).toNatClampNeg) (kd_s i29) σ2 _ _ hC111) ⟨Nat.le_of_ble_eq_true rfl, Nat.le_of_ble_eq_true rfl⟩ hl.1 (Nat.le_of_ble_eq_true rfl) dX7_about_111 ⟨Nat.zero_le _, Nat.zero_le _⟩ (fun H locs hP hS => ?_)
                      exact x_ri hR hS hP hG dX7_about_114
                    · have hG := f_in c32_6 hG
                      by_cases c32_7 : a2 = 7
                      · have hG := f_ip c32_7 hG
                        refine lv_tableIn (off := 83) (tgt := 115) hx hb dX7_about_32 (by rw [c32_7]; decide) (by rw [c32_7]; decide) (by rw [c32_7]; rfl) (by decide) ?_
                        refine lv_aload_n hx hb dX7_about_115 rfl (lv_at hl 0 rfl) ?_
                        refine lv_aload_n hx hb dX7_about_116 rfl (lv_at hl 1 rfl) ?_
                        refine gf_X7_44 F hP dX7_about_117 ?_
                        obtain ⟨r120, σ120, hC120, hG⟩ := f_bd hG
                        refine iv_X7_137 F hS hP (kd_s i29) (c_X0_restHasse l E N (er 3 (a1).toNatClampNeg) (kd_s i29) σ2 _ _ hC120) ⟨Nat.le_of_ble_eq_true rfl, Nat.le_of_ble_eq_true rfl⟩ hl.1 (Nat.le_of_ble_eq_true rfl) dX7_about_120 ⟨Nat.zero_le _, Nat.zero_le _⟩ (fun H locs hP hS => ?_)
                        exact x_ri hR hS hP hG dX7_about_123
                      · have hG := f_in c32_7 hG
                        have n32_0 := lv_neT c32_0 (show (0 : Int32).toInt = 0 from rfl)
                        have n32_1 := lv_neT c32_1 (show (1 : Int32).toInt = 1 from rfl)
                        have n32_2 := lv_neT c32_2 (show (2 : Int32).toInt = 2 from rfl)
                        have n32_3 := lv_neT c32_3 (show (3 : Int32).toInt = 3 from rfl)
                        have n32_4 := lv_neT c32_4 (show (4 : Int32).toInt = 4 from rfl)
                        have n32_5 := lv_neT c32_5 (show (5 : Int32).toInt = 5 from rfl)
                        have n32_6 := lv_neT c32_6 (show (6 : Int32).toInt = 6 from rfl)
                        have n32_7 := lv_neT c32_7 (show (7 : Int32).toInt = 7 from rfl)
                        refine lv_tableOut (tgt := 124) hx hb dX7_about_32 (by omega) (by decide) ?_
                        refine lv_aload_n hx hb dX7_about_124 rfl (lv_at hl 1 rfl) ?_
                        refine lv_iload_n hx hb dX7_about_125 rfl (lv_at hl 2 rfl) ?_
                        obtain ⟨r126, σ126, hC126, hG⟩ := f_bd hG
                        refine iv_X7_141 F hS hP (c_X7_leastLike l E N a1 σ2 _ _ hC126) ⟨Nat.le_of_ble_eq_true rfl, Nat.le_of_ble_eq_true rfl⟩ hl.1 (Nat.le_of_ble_eq_true rfl) dX7_about_126 ⟨Nat.zero_le _, Nat.zero_le _⟩ (fun H locs hP hS => ?_)
                        exact x_ri hR hS hP hG dX7_about_129
      · have hG := f_in c18 hG
        refine lv_bipush (v := -102) hx hb dX7_about_21 (by decide) ?_
        exact x_ri hR hS hP hG dX7_about_23
  · have hG := f_ip c5 hG
    refine lv_bipush (v := -101) hx hb dX7_about_8 (by decide) ?_
    exact x_ri hR hS hP hG dX7_about_10
theorem dX7_unlikeBits_0 : decode cX7_unlikeBits 0 = .ok (.aload_n 1, 1) := by decide +kernel
theorem dX7_unlikeBits_1 : decode cX7_unlikeBits 1 = .ok (.getfield 80, 3) := by decide +kernel
theorem dX7_unlikeBits_4 : decode cX7_unlikeBits 4 = .ok (.aload_n 2, 1) := by decide +kernel
theorem dX7_unlikeBits_5 : decode cX7_unlikeBits 5 = .ok (.getfield 80, 3) := by decide +kernel
theorem dX7_unlikeBits_8 : decode cX7_unlikeBits 8 = .ok (.if_icmp .eq 6, 3) := by decide +kernel
theorem dX7_unlikeBits_11 : decode cX7_unlikeBits 11 = .ok (.bipush 127, 2) := by decide +kernel
theorem dX7_unlikeBits_13 : decode cX7_unlikeBits 13 = .ok (.ireturn, 1) := by decide +kernel
theorem dX7_unlikeBits_14 : decode cX7_unlikeBits 14 = .ok (.aload_n 1, 1) := by decide +kernel
theorem dX7_unlikeBits_15 : decode cX7_unlikeBits 15 = .ok (.invokevirtual 118, 3) := by decide +kernel
theorem dX7_unlikeBits_18 : decode cX7_unlikeBits 18 = .ok (.aload_n 2, 1) := by decide +kernel
theorem dX7_unlikeBits_19 : decode cX7_unlikeBits 19 = .ok (.invokevirtual 118, 3) := by decide +kernel
theorem dX7_unlikeBits_22 : decode cX7_unlikeBits 22 = .ok (.if_icmp .ne 7, 3) := by decide +kernel
theorem dX7_unlikeBits_25 : decode cX7_unlikeBits 25 = .ok (.iconst 0, 1) := by decide +kernel
theorem dX7_unlikeBits_26 : decode cX7_unlikeBits 26 = .ok (.goto 4, 3) := by decide +kernel
theorem dX7_unlikeBits_29 : decode cX7_unlikeBits 29 = .ok (.iconst 1, 1) := by decide +kernel
theorem dX7_unlikeBits_30 : decode cX7_unlikeBits 30 = .ok (.istore_n 3, 1) := by decide +kernel
theorem dX7_unlikeBits_31 : decode cX7_unlikeBits 31 = .ok (.aload_n 1, 1) := by decide +kernel
theorem dX7_unlikeBits_32 : decode cX7_unlikeBits 32 = .ok (.getfield 125, 3) := by decide +kernel
theorem dX7_unlikeBits_35 : decode cX7_unlikeBits 35 = .ok (.aload_n 2, 1) := by decide +kernel
theorem dX7_unlikeBits_36 : decode cX7_unlikeBits 36 = .ok (.getfield 125, 3) := by decide +kernel
theorem dX7_unlikeBits_39 : decode cX7_unlikeBits 39 = .ok (.ixor, 1) := by decide +kernel
theorem dX7_unlikeBits_40 : decode cX7_unlikeBits 40 = .ok (.aload_n 0, 1) := by decide +kernel
theorem dX7_unlikeBits_41 : decode cX7_unlikeBits 41 = .ok (.getfield 44, 3) := by decide +kernel
theorem dX7_unlikeBits_44 : decode cX7_unlikeBits 44 = .ok (.aload_n 1, 1) := by decide +kernel
theorem dX7_unlikeBits_45 : decode cX7_unlikeBits 45 = .ok (.invokevirtual 122, 3) := by decide +kernel
theorem dX7_unlikeBits_48 : decode cX7_unlikeBits 48 = .ok (.aload_n 2, 1) := by decide +kernel
theorem dX7_unlikeBits_49 : decode cX7_unlikeBits 49 = .ok (.invokevirtual 122, 3) := by decide +kernel
theorem dX7_unlikeBits_52 : decode cX7_unlikeBits 52 = .ok (.ixor, 1) := by decide +kernel
theorem dX7_unlikeBits_53 : decode cX7_unlikeBits 53 = .ok (.invokevirtual 105, 3) := by decide +kernel
theorem dX7_unlikeBits_56 : decode cX7_unlikeBits 56 = .ok (.ior, 1) := by decide +kernel
theorem dX7_unlikeBits_57 : decode cX7_unlikeBits 57 = .ok (.istore 4, 2) := by decide +kernel
theorem dX7_unlikeBits_59 : decode cX7_unlikeBits 59 = .ok (.iload_n 3, 1) := by decide +kernel
theorem dX7_unlikeBits_60 : decode cX7_unlikeBits 60 = .ok (.iload 4, 2) := by decide +kernel
theorem dX7_unlikeBits_62 : decode cX7_unlikeBits 62 = .ok (.bipush (-2), 2) := by decide +kernel
theorem dX7_unlikeBits_64 : decode cX7_unlikeBits 64 = .ok (.iand, 1) := by decide +kernel
theorem dX7_unlikeBits_65 : decode cX7_unlikeBits 65 = .ok (.ior, 1) := by decide +kernel
theorem dX7_unlikeBits_66 : decode cX7_unlikeBits 66 = .ok (.ireturn, 1) := by decide +kernel
set_option maxHeartbeats 4000000 in
set_option maxRecDepth 100000 in
theorem c_X7_unlikeBits (l : Launch) (E : fEv) (N : Nat) (k1 : Nat) (k2 : Nat) (hk1 : kd k1 = 0) (hk2 : kd k2 = 0) (σ : fS) (r : Int32) (τ : fS) (hG : g_X7_unlikeBits N k1 k2 σ = some (r, τ)) : fM l E yX7_unlikeBits (.code yX7_unlikeBits cX7_unlikeBits 5 (some .int)) rm_X7_unlikeBits [.ref (E.2.1 0), .ref (E.2.1 k1), .ref (E.2.1 k2)] σ τ (some (.int r)) := by
  refine f_openI (by decide) (Nat.le_of_ble_eq_true rfl) ?_
  intro p e s m below meth c args Q F hR hP ls hl
  have hx := F.1.1
  have hb := F.1.2.1
  have hown := F.1.2.2.2.1
  have hts := F.1.2.2.2.2
  have hS : va_S (f_A E) s.heap s.heap [] := va_S.rf
  skip
  have hl : lv_has ls 5 [(0, .ref (E.2.1 0)), (1, .ref (E.2.1 k1)), (2, .ref (E.2.1 k2))] := hl
  unfold g_X7_unlikeBits at hG
  refine lv_aload_n hx hb dX7_unlikeBits_0 rfl (lv_at hl 1 rfl) ?_
  refine gf_X7_80 F hP hk1 dX7_unlikeBits_1 ?_
  refine lv_aload_n hx hb dX7_unlikeBits_4 rfl (lv_at hl 2 rfl) ?_
  refine gf_X7_80 F hP hk2 dX7_unlikeBits_5 ?_
  refine lv_icmp_eq (tgt := 14) hx hb dX7_unlikeBits_8 (by decide) (fun c8 => ?_) (fun c8 => ?_)
  · have hG := f_ip c8 hG
    refine lv_aload_n hx hb dX7_unlikeBits_14 rfl (lv_at hl 1 rfl) ?_
    obtain ⟨r15, σ15, hC15, hG⟩ := f_bd hG
    refine iv_X7_118 F hS hP hk1 (c_X0_countAbove l E N k1 hk1 σ _ _ hC15) ⟨Nat.le_of_ble_eq_true rfl, Nat.le_of_ble_eq_true rfl⟩ hl.1 (Nat.le_of_ble_eq_true rfl) dX7_unlikeBits_15 ⟨Nat.zero_le _, Nat.zero_le _⟩ (fun H locs hP hS => ?_)
    refine lv_aload_n hx hb dX7_unlikeBits_18 rfl (lv_at hl 2 rfl) ?_
    obtain ⟨r19, σ19, hC19, hG⟩ := f_bd hG
    refine iv_X7_118 F hS hP hk2 (c_X0_countAbove l E N k2 hk2 σ15 _ _ hC19) ⟨Nat.le_of_ble_eq_true rfl, Nat.le_of_ble_eq_true rfl⟩ hl.1 (Nat.le_of_ble_eq_true rfl) dX7_unlikeBits_19 ⟨Nat.zero_le _, Nat.zero_le _⟩ (fun H locs hP hS => ?_)
    obtain ⟨o22, σj22, hT22, hG⟩ := f_bd hG
    have T22 : ∀ (H : Heap) (locs : List Loc) (ls : Array Slot), f_h E σj22 H → va_S (f_A E) s.heap H locs → lv_has ls 5 [(0, .ref (E.2.1 0)), (1, .ref (E.2.1 k1)), (2, .ref (E.2.1 k2))] → W p l e rm_X7_unlikeBits s m args below meth c H locs 0 0 Q (F0 m 30 ls [.int o22]) := by
      intro H locs ls hP hS hl
      refine lv_istore_n (lv' := [(3, .int o22), (0, .ref (E.2.1 0)), (1, .ref (E.2.1 k1)), (2, .ref (E.2.1 k2))]) hx hb dX7_unlikeBits_30 rfl hl (by decide) rfl (fun ls hl => ?_)
      refine lv_aload_n hx hb dX7_unlikeBits_31 rfl (lv_at hl 2 rfl) ?_
      refine gf_X7_125 F hP hk1 dX7_unlikeBits_32 ?_
      refine lv_aload_n hx hb dX7_unlikeBits_35 rfl (lv_at hl 3 rfl) ?_
      refine gf_X7_125 F hP hk2 dX7_unlikeBits_36 ?_
      refine lv_ixor hx hb dX7_unlikeBits_39 ?_
      refine lv_aload_n hx hb dX7_unlikeBits_40 rfl (lv_at hl 1 rfl) ?_
      refine gf_X7_44 F hP dX7_unlikeBits_41 ?_
      refine lv_aload_n hx hb dX7_unlikeBits_44 rfl (lv_at hl 2 rfl) ?_
      obtain ⟨r45, σ45, hC45, hG⟩ := f_bd hG
      refine iv_X7_122 F hS hP hk1 (c_X0_det l E N k1 hk1 σj22 _ _ hC45) ⟨Nat.le_of_ble_eq_true rfl, Nat.le_of_ble_eq_true rfl⟩ hl.1 (Nat.le_of_ble_eq_true rfl) dX7_unlikeBits_45 ⟨Nat.zero_le _, Nat.zero_le _⟩ (fun H locs hP hS => ?_)
      refine lv_aload_n hx hb dX7_unlikeBits_48 rfl (lv_at hl 3 rfl) ?_
      obtain ⟨r49, σ49, hC49, hG⟩ := f_bd hG
      refine iv_X7_122 F hS hP hk2 (c_X0_det l E N k2 hk2 σ45 _ _ hC49) ⟨Nat.le_of_ble_eq_true rfl, Nat.le_of_ble_eq_true rfl⟩ hl.1 (Nat.le_of_ble_eq_true rfl) dX7_unlikeBits_49 ⟨Nat.zero_le _, Nat.zero_le _⟩ (fun H locs hP hS => ?_)
      refine lv_ixor hx hb dX7_unlikeBits_52 ?_
      obtain ⟨r53, σ53, hC53, hG⟩ := f_bd hG
      refine iv_X7_105 F hS hP (c_X6_unsquareBits l E N (r45 ^^^ r49) σ49 _ _ hC53) ⟨Nat.le_of_ble_eq_true rfl, Nat.le_of_ble_eq_true rfl⟩ hl.1 (Nat.le_of_ble_eq_true rfl) dX7_unlikeBits_53 ⟨Nat.zero_le _, Nat.zero_le _⟩ (fun H locs hP hS => ?_)
      refine lv_ior hx hb dX7_unlikeBits_56 ?_
      refine lv_topi (fun v57 e57 => ?_)
      have hG := f_lt hG e57
      refine lv_istore (lv' := [(4, .int v57), (3, .int o22), (0, .ref (E.2.1 0)), (1, .ref (E.2.1 k1)), (2, .ref (E.2.1 k2))]) hx hb dX7_unlikeBits_57 hl (by decide) rfl (fun ls hl => ?_)
      refine lv_iload_n hx hb dX7_unlikeBits_59 rfl (lv_at hl 1 rfl) ?_
      refine lv_iload hx hb dX7_unlikeBits_60 (lv_at hl 0 rfl) ?_
      refine lv_bipush (v := -2) hx hb dX7_unlikeBits_62 (by decide) ?_
      refine lv_iand hx hb dX7_unlikeBits_64 ?_
      refine lv_ior hx hb dX7_unlikeBits_65 ?_
      exact x_ri hR hS hP hG dX7_unlikeBits_66
    have hG := hT22
    clear hT22
    refine lv_icmp_ne (tgt := 29) hx hb dX7_unlikeBits_22 (by decide) (fun c22 => ?_) (fun c22 => ?_)
    · have hG := f_in c22 hG
      refine lv_iconst (v := 1) hx hb dX7_unlikeBits_29 (by decide) ?_
      cases hG
      exact T22 _ _ _ hP hS (lv_sub hl [0, 1, 2] rfl)
    · have hG := f_ip c22 hG
      refine lv_iconst (v := 0) hx hb dX7_unlikeBits_25 (by decide) ?_
      refine lv_goto (tgt := 30) hx hb dX7_unlikeBits_26 (by decide) ?_
      cases hG
      exact T22 _ _ _ hP hS (lv_sub hl [0, 1, 2] rfl)
  · have hG := f_in c8 hG
    refine lv_bipush (v := 127) hx hb dX7_unlikeBits_11 (by decide) ?_
    exact x_ri hR hS hP hG dX7_unlikeBits_13
theorem dX7_like_0 : decode cX7_like 0 = .ok (.aload_n 0, 1) := by decide +kernel
theorem dX7_like_1 : decode cX7_like 1 = .ok (.iload_n 1, 1) := by decide +kernel
theorem dX7_like_2 : decode cX7_like 2 = .ok (.invokevirtual 115, 3) := by decide +kernel
theorem dX7_like_5 : decode cX7_like 5 = .ok (.ifCond .eq 11, 3) := by decide +kernel
theorem dX7_like_8 : decode cX7_like 8 = .ok (.aload_n 0, 1) := by decide +kernel
theorem dX7_like_9 : decode cX7_like 9 = .ok (.iload_n 2, 1) := by decide +kernel
theorem dX7_like_10 : decode cX7_like 10 = .ok (.invokevirtual 115, 3) := by decide +kernel
theorem dX7_like_13 : decode cX7_like 13 = .ok (.ifCond .ne 6, 3) := by decide +kernel
theorem dX7_like_16 : decode cX7_like 16 = .ok (.bipush (-101), 2) := by decide +kernel
theorem dX7_like_18 : decode cX7_like 18 = .ok (.ireturn, 1) := by decide +kernel
theorem dX7_like_19 : decode cX7_like 19 = .ok (.aload_n 0, 1) := by decide +kernel
theorem dX7_like_20 : decode cX7_like 20 = .ok (.aload_n 0, 1) := by decide +kernel
theorem dX7_like_21 : decode cX7_like 21 = .ok (.getfield 18, 3) := by decide +kernel
theorem dX7_like_24 : decode cX7_like 24 = .ok (.iload_n 1, 1) := by decide +kernel
theorem dX7_like_25 : decode cX7_like 25 = .ok (.aaload, 1) := by decide +kernel
theorem dX7_like_26 : decode cX7_like 26 = .ok (.aload_n 0, 1) := by decide +kernel
theorem dX7_like_27 : decode cX7_like 27 = .ok (.getfield 18, 3) := by decide +kernel
theorem dX7_like_30 : decode cX7_like 30 = .ok (.iload_n 2, 1) := by decide +kernel
theorem dX7_like_31 : decode cX7_like 31 = .ok (.aaload, 1) := by decide +kernel
theorem dX7_like_32 : decode cX7_like 32 = .ok (.invokevirtual 144, 3) := by decide +kernel
theorem dX7_like_35 : decode cX7_like 35 = .ok (.ireturn, 1) := by decide +kernel
set_option maxHeartbeats 4000000 in
set_option maxRecDepth 100000 in
theorem c_X7_like (l : Launch) (E : fEv) (N : Nat) (a1 : Int32) (a2 : Int32) (σ : fS) (r : Int32) (τ : fS) (hG : g_X7_like N a1 a2 σ = some (r, τ)) : fM l E yX7_like (.code yX7_like cX7_like 3 (some .int)) rm_X7_like [.ref (E.2.1 0), .int a1, .int a2] σ τ (some (.int r)) := by
  refine f_openI (by decide) (Nat.le_of_ble_eq_true rfl) ?_
  intro p e s m below meth c args Q F hR hP ls hl
  have hx := F.1.1
  have hb := F.1.2.1
  have hown := F.1.2.2.2.1
  have hts := F.1.2.2.2.2
  have hS : va_S (f_A E) s.heap s.heap [] := va_S.rf
  skip
  have hl : lv_has ls 3 [(0, .ref (E.2.1 0)), (1, .int a1), (2, .int a2)] := hl
  unfold g_X7_like at hG
  refine lv_aload_n hx hb dX7_like_0 rfl (lv_at hl 0 rfl) ?_
  refine lv_iload_n hx hb dX7_like_1 rfl (lv_at hl 1 rfl) ?_
  obtain ⟨r2, σ2, hC2, hG⟩ := f_bd hG
  refine iv_X7_115 F hS hP (c_X7_hasForm l E N a1 σ _ _ hC2) ⟨Nat.le_of_ble_eq_true rfl, Nat.le_of_ble_eq_true rfl⟩ hl.1 (Nat.le_of_ble_eq_true rfl) dX7_like_2 ⟨Nat.zero_le _, Nat.zero_le _⟩ (fun H locs hP hS => ?_)
  refine lv_if_eq (tgt := 16) hx hb dX7_like_5 (by decide) (fun c5 => ?_) (fun c5 => ?_)
  · have hG := f_ip c5 hG
    refine lv_bipush (v := -101) hx hb dX7_like_16 (by decide) ?_
    exact x_ri hR hS hP hG dX7_like_18
  · have hG := f_in c5 hG
    refine lv_aload_n hx hb dX7_like_8 rfl (lv_at hl 0 rfl) ?_
    refine lv_iload_n hx hb dX7_like_9 rfl (lv_at hl 2 rfl) ?_
    obtain ⟨r10, σ10, hC10, hG⟩ := f_bd hG
    refine iv_X7_115 F hS hP (c_X7_hasForm l E N a2 σ2 _ _ hC10) ⟨Nat.le_of_ble_eq_true rfl, Nat.le_of_ble_eq_true rfl⟩ hl.1 (Nat.le_of_ble_eq_true rfl) dX7_like_10 ⟨Nat.zero_le _, Nat.zero_le _⟩ (fun H locs hP hS => ?_)
    refine lv_if_ne (tgt := 19) hx hb dX7_like_13 (by decide) (fun c13 => ?_) (fun c13 => ?_)
    · have hG := f_in c13 hG
      refine lv_aload_n hx hb dX7_like_19 rfl (lv_at hl 0 rfl) ?_
      refine lv_aload_n hx hb dX7_like_20 rfl (lv_at hl 0 rfl) ?_
      refine gf_X7_18 F hP dX7_like_21 ?_
      refine lv_iload_n hx hb dX7_like_24 rfl (lv_at hl 1 rfl) ?_
      obtain ⟨h25, hG⟩ := f_gd hG
      have i25 := f_fin h25
      refine x_aald F hP rfl rfl i25 dX7_like_25 ?_
      refine lv_aload_n hx hb dX7_like_26 rfl (lv_at hl 0 rfl) ?_
      refine gf_X7_18 F hP dX7_like_27 ?_
      refine lv_iload_n hx hb dX7_like_30 rfl (lv_at hl 2 rfl) ?_
      obtain ⟨h31, hG⟩ := f_gd hG
      have i31 := f_fin h31
      refine x_aald F hP rfl rfl i31 dX7_like_31 ?_
      obtain ⟨r32, σ32, hC32, hG⟩ := f_bd hG
      refine iv_X7_144 F hS hP (c_X7_unlikeBits l E N (er 3 (a1).toNatClampNeg) (er 3 (a2).toNatClampNeg) (kd_s i25) (kd_s i31) σ10 _ _ hC32) ⟨Nat.le_of_ble_eq_true rfl, Nat.le_of_ble_eq_true rfl⟩ hl.1 (Nat.le_of_ble_eq_true rfl) dX7_like_32 ⟨Nat.zero_le _, Nat.zero_le _⟩ (fun H locs hP hS => ?_)
      exact x_ri hR hS hP hG dX7_like_35
    · have hG := f_ip c13 hG
      refine lv_bipush (v := -101) hx hb dX7_like_16 (by decide) ?_
      exact x_ri hR hS hP hG dX7_like_18
theorem dX7_startAgainst_0 : decode cX7_startAgainst 0 = .ok (.aload_n 0, 1) := by decide +kernel
theorem dX7_startAgainst_1 : decode cX7_startAgainst 1 = .ok (.getfield 44, 3) := by decide +kernel
theorem dX7_startAgainst_4 : decode cX7_startAgainst 4 = .ok (.invokevirtual 154, 3) := by decide +kernel
theorem dX7_startAgainst_7 : decode cX7_startAgainst 7 = .ok (.aload_n 0, 1) := by decide +kernel
theorem dX7_startAgainst_8 : decode cX7_startAgainst 8 = .ok (.getfield 44, 3) := by decide +kernel
theorem dX7_startAgainst_11 : decode cX7_startAgainst 11 = .ok (.aload_n 1, 1) := by decide +kernel
theorem dX7_startAgainst_12 : decode cX7_startAgainst 12 = .ok (.invokevirtual 157, 3) := by decide +kernel
theorem dX7_startAgainst_15 : decode cX7_startAgainst 15 = .ok (.aload_n 0, 1) := by decide +kernel
theorem dX7_startAgainst_16 : decode cX7_startAgainst 16 = .ok (.getfield 44, 3) := by decide +kernel
theorem dX7_startAgainst_19 : decode cX7_startAgainst 19 = .ok (.iload_n 2, 1) := by decide +kernel
theorem dX7_startAgainst_20 : decode cX7_startAgainst 20 = .ok (.invokestatic 88, 3) := by decide +kernel
theorem dX7_startAgainst_23 : decode cX7_startAgainst 23 = .ok (.iconst 1, 1) := by decide +kernel
theorem dX7_startAgainst_24 : decode cX7_startAgainst 24 = .ok (.ixor, 1) := by decide +kernel
theorem dX7_startAgainst_25 : decode cX7_startAgainst 25 = .ok (.invokevirtual 278, 3) := by decide +kernel
theorem dX7_startAgainst_28 : decode cX7_startAgainst 28 = .ok (.return_, 1) := by decide +kernel
set_option maxHeartbeats 4000000 in
set_option maxRecDepth 100000 in
theorem c_X7_startAgainst (l : Launch) (E : fEv) (N : Nat) (k1 : Nat) (a2 : Int32) (hk1 : kd k1 = 0) (σ : fS) (τ : fS) (hG : g_X7_startAgainst N k1 a2 σ = some τ) : fM l E yX7_startAgainst (.code yX7_startAgainst cX7_startAgainst 3 none) rm_X7_startAgainst [.ref (E.2.1 0), .ref (E.2.1 k1), .int a2] σ τ none := by
  refine f_openV (by decide) (Nat.le_of_ble_eq_true rfl) ?_
  intro p e s m below meth c args Q F hR hP ls hl
  have hx := F.1.1
  have hb := F.1.2.1
  have hown := F.1.2.2.2.1
  have hts := F.1.2.2.2.2
  have hS : va_S (f_A E) s.heap s.heap [] := va_S.rf
  skip
  have hl : lv_has ls 3 [(0, .ref (E.2.1 0)), (1, .ref (E.2.1 k1)), (2, .int a2)] := hl
  unfold g_X7_startAgainst at hG
  refine lv_aload_n hx hb dX7_startAgainst_0 rfl (lv_at hl 0 rfl) ?_
  refine gf_X7_44 F hP dX7_startAgainst_1 ?_
  obtain ⟨σ4, hC4, hG⟩ := f_bv hG
  refine iv_X7_154 F hS hP (c_X6_start l E N σ _ hC4) ⟨Nat.le_of_ble_eq_true rfl, Nat.le_of_ble_eq_true rfl⟩ hl.1 (Nat.le_of_ble_eq_true rfl) dX7_startAgainst_4 ⟨Nat.zero_le _, Nat.zero_le _⟩ (fun H locs hP hS => ?_)
  refine lv_aload_n hx hb dX7_startAgainst_7 rfl (lv_at hl 0 rfl) ?_
  refine gf_X7_44 F hP dX7_startAgainst_8 ?_
  refine lv_aload_n hx hb dX7_startAgainst_11 rfl (lv_at hl 1 rfl) ?_
  obtain ⟨σ12, hC12, hG⟩ := f_bv hG
  refine iv_X7_157 F hS hP (c_X6_addAll l E N k1 hk1 σ4 _ hC12) ⟨Nat.le_of_ble_eq_true rfl, Nat.le_of_ble_eq_true rfl⟩ hl.1 (Nat.le_of_ble_eq_true rfl) dX7_startAgainst_12 ⟨Nat.zero_le _, Nat.zero_le _⟩ (fun H locs hP hS => ?_)
  refine lv_aload_n hx hb dX7_startAgainst_15 rfl (lv_at hl 0 rfl) ?_
  refine gf_X7_44 F hP dX7_startAgainst_16 ?_
  refine lv_iload_n hx hb dX7_startAgainst_19 rfl (lv_at hl 2 rfl) ?_
  obtain ⟨r20, σ20, hC20, hG⟩ := f_bd hG
  refine iv_X7_88 F hS hP (c_X2_kindOf l E N a2 σ12 _ _ hC20) ⟨Nat.le_of_ble_eq_true rfl, Nat.le_of_ble_eq_true rfl⟩ hl.1 (Nat.le_of_ble_eq_true rfl) dX7_startAgainst_20 ⟨Nat.zero_le _, Nat.zero_le _⟩ (fun H locs hP hS => ?_)
  refine lv_iconst (v := 1) hx hb dX7_startAgainst_23 (by decide) ?_
  refine lv_ixor hx hb dX7_startAgainst_24 ?_
  obtain ⟨σ25, hC25, hG⟩ := f_bv hG
  refine iv_X7_278 F hS hP (c_X6_add l E N (r20 ^^^ (1 : Int32)) σ20 _ hC25) ⟨Nat.le_of_ble_eq_true rfl, Nat.le_of_ble_eq_true rfl⟩ hl.1 (Nat.le_of_ble_eq_true rfl) dX7_startAgainst_25 ⟨Nat.zero_le _, Nat.zero_le _⟩ (fun H locs hP hS => ?_)
  exact x_rv hR hS hP hG dX7_startAgainst_28
theorem dX7_meets_0 : decode cX7_meets 0 = .ok (.aload_n 0, 1) := by decide +kernel
theorem dX7_meets_1 : decode cX7_meets 1 = .ok (.iload_n 1, 1) := by decide +kernel
theorem dX7_meets_2 : decode cX7_meets 2 = .ok (.invokevirtual 115, 3) := by decide +kernel
theorem dX7_meets_5 : decode cX7_meets 5 = .ok (.ifCond .ne 6, 3) := by decide +kernel
theorem dX7_meets_8 : decode cX7_meets 8 = .ok (.bipush (-101), 2) := by decide +kernel
theorem dX7_meets_10 : decode cX7_meets 10 = .ok (.ireturn, 1) := by decide +kernel
theorem dX7_meets_11 : decode cX7_meets 11 = .ok (.iload_n 2, 1) := by decide +kernel
theorem dX7_meets_12 : decode cX7_meets 12 = .ok (.invokestatic 83, 3) := by decide +kernel
theorem dX7_meets_15 : decode cX7_meets 15 = .ok (.ifCond .ne 6, 3) := by decide +kernel
theorem dX7_meets_18 : decode cX7_meets 18 = .ok (.bipush (-102), 2) := by decide +kernel
theorem dX7_meets_20 : decode cX7_meets 20 = .ok (.ireturn, 1) := by decide +kernel
theorem dX7_meets_21 : decode cX7_meets 21 = .ok (.aload_n 0, 1) := by decide +kernel
theorem dX7_meets_22 : decode cX7_meets 22 = .ok (.aload_n 0, 1) := by decide +kernel
theorem dX7_meets_23 : decode cX7_meets 23 = .ok (.getfield 18, 3) := by decide +kernel
theorem dX7_meets_26 : decode cX7_meets 26 = .ok (.iload_n 1, 1) := by decide +kernel
theorem dX7_meets_27 : decode cX7_meets 27 = .ok (.aaload, 1) := by decide +kernel
theorem dX7_meets_28 : decode cX7_meets 28 = .ok (.iload_n 2, 1) := by decide +kernel
theorem dX7_meets_29 : decode cX7_meets 29 = .ok (.invokevirtual 148, 3) := by decide +kernel
theorem dX7_meets_32 : decode cX7_meets 32 = .ok (.aload_n 0, 1) := by decide +kernel
theorem dX7_meets_33 : decode cX7_meets 33 = .ok (.getfield 44, 3) := by decide +kernel
theorem dX7_meets_36 : decode cX7_meets 36 = .ok (.invokevirtual 152, 3) := by decide +kernel
theorem dX7_meets_39 : decode cX7_meets 39 = .ok (.ireturn, 1) := by decide +kernel
set_option maxHeartbeats 4000000 in
set_option maxRecDepth 100000 in
theorem c_X7_meets (l : Launch) (E : fEv) (N : Nat) (a1 : Int32) (a2 : Int32) (σ : fS) (r : Int32) (τ : fS) (hG : g_X7_meets N a1 a2 σ = some (r, τ)) : fM l E yX7_meets (.code yX7_meets cX7_meets 3 (some .int)) rm_X7_meets [.ref (E.2.1 0), .int a1, .int a2] σ τ (some (.int r)) := by
  refine f_openI (by decide) (Nat.le_of_ble_eq_true rfl) ?_
  intro p e s m below meth c args Q F hR hP ls hl
  have hx := F.1.1
  have hb := F.1.2.1
  have hown := F.1.2.2.2.1
  have hts := F.1.2.2.2.2
  have hS : va_S (f_A E) s.heap s.heap [] := va_S.rf
  skip
  have hl : lv_has ls 3 [(0, .ref (E.2.1 0)), (1, .int a1), (2, .int a2)] := hl
  unfold g_X7_meets at hG
  refine lv_aload_n hx hb dX7_meets_0 rfl (lv_at hl 0 rfl) ?_
  refine lv_iload_n hx hb dX7_meets_1 rfl (lv_at hl 1 rfl) ?_
  obtain ⟨r2, σ2, hC2, hG⟩ := f_bd hG
  refine iv_X7_115 F hS hP (c_X7_hasForm l E N a1 σ _ _ hC2) ⟨Nat.le_of_ble_eq_true rfl, Nat.le_of_ble_eq_true rfl⟩ hl.1 (Nat.le_of_ble_eq_true rfl) dX7_meets_2 ⟨Nat.zero_le _, Nat.zero_le _⟩ (fun H locs hP hS => ?_)
  refine lv_if_ne (tgt := 11) hx hb dX7_meets_5 (by decide) (fun c5 => ?_) (fun c5 => ?_)
  · have hG := f_in c5 hG
    refine lv_iload_n hx hb dX7_meets_11 rfl (lv_at hl 2 rfl) ?_
    obtain ⟨r12, σ12, hC12, hG⟩ := f_bd hG
    refine iv_X7_83 F hS hP (c_X2_isNumber l E N a2 σ2 _ _ hC12) ⟨Nat.le_of_ble_eq_true rfl, Nat.le_of_ble_eq_true rfl⟩ hl.1 (Nat.le_of_ble_eq_true rfl) dX7_meets_12 ⟨Nat.zero_le _, Nat.zero_le _⟩ (fun H locs hP hS => ?_)
    refine lv_if_ne (tgt := 21) hx hb dX7_meets_15 (by decide) (fun c15 => ?_) (fun c15 => ?_)
    · have hG := f_in c15 hG
      refine lv_aload_n hx hb dX7_meets_21 rfl (lv_at hl 0 rfl) ?_
      refine lv_aload_n hx hb dX7_meets_22 rfl (lv_at hl 0 rfl) ?_
      refine gf_X7_18 F hP dX7_meets_23 ?_
      refine lv_iload_n hx hb dX7_meets_26 rfl (lv_at hl 1 rfl) ?_
      obtain ⟨h27, hG⟩ := f_gd hG
      have i27 := f_fin h27
      refine x_aald F hP rfl rfl i27 dX7_meets_27 ?_
      refine lv_iload_n hx hb dX7_meets_28 rfl (lv_at hl 2 rfl) ?_
      obtain ⟨σ29, hC29, hG⟩ := f_bv hG
      refine iv_X7_148 F hS hP (c_X7_startAgainst l E N (er 3 (a1).toNatClampNeg) a2 (kd_s i27) σ12 _ hC29) ⟨Nat.le_of_ble_eq_true rfl, Nat.le_of_ble_eq_true rfl⟩ hl.1 (Nat.le_of_ble_eq_true rfl) dX7_meets_29 ⟨Nat.zero_le _, Nat.zero_le _⟩ (fun H locs hP hS => ?_)
      refine lv_aload_n hx hb dX7_meets_32 rfl (lv_at hl 0 rfl) ?_
      refine gf_X7_44 F hP dX7_meets_33 ?_
      obtain ⟨r36, σ36, hC36, hG⟩ := f_bd hG
      refine iv_X7_152 F hS hP (c_X6_bars l E N σ29 _ _ hC36) ⟨Nat.le_of_ble_eq_true rfl, Nat.le_of_ble_eq_true rfl⟩ hl.1 (Nat.le_of_ble_eq_true rfl) dX7_meets_36 ⟨Nat.zero_le _, Nat.zero_le _⟩ (fun H locs hP hS => ?_)
      exact x_ri hR hS hP hG dX7_meets_39
    · have hG := f_ip c15 hG
      refine lv_bipush (v := -102) hx hb dX7_meets_18 (by decide) ?_
      exact x_ri hR hS hP hG dX7_meets_20
  · have hG := f_ip c5 hG
    refine lv_bipush (v := -101) hx hb dX7_meets_8 (by decide) ?_
    exact x_ri hR hS hP hG dX7_meets_10
theorem dX7_row_0 : decode cX7_row 0 = .ok (.aload_n 0, 1) := by decide +kernel
theorem dX7_row_1 : decode cX7_row 1 = .ok (.iload_n 1, 1) := by decide +kernel
theorem dX7_row_2 : decode cX7_row 2 = .ok (.iload_n 2, 1) := by decide +kernel
theorem dX7_row_3 : decode cX7_row 3 = .ok (.invokevirtual 108, 3) := by decide +kernel
theorem dX7_row_6 : decode cX7_row 6 = .ok (.ifCond .ne 6, 3) := by decide +kernel
theorem dX7_row_9 : decode cX7_row 9 = .ok (.bipush (-101), 2) := by decide +kernel
theorem dX7_row_11 : decode cX7_row 11 = .ok (.ireturn, 1) := by decide +kernel
theorem dX7_row_12 : decode cX7_row 12 = .ok (.aload_n 0, 1) := by decide +kernel
theorem dX7_row_13 : decode cX7_row 13 = .ok (.getfield 44, 3) := by decide +kernel
theorem dX7_row_16 : decode cX7_row 16 = .ok (.invokevirtual 154, 3) := by decide +kernel
theorem dX7_row_19 : decode cX7_row 19 = .ok (.aload_n 0, 1) := by decide +kernel
theorem dX7_row_20 : decode cX7_row 20 = .ok (.getfield 44, 3) := by decide +kernel
theorem dX7_row_23 : decode cX7_row 23 = .ok (.aload_n 0, 1) := by decide +kernel
theorem dX7_row_24 : decode cX7_row 24 = .ok (.getfield 18, 3) := by decide +kernel
theorem dX7_row_27 : decode cX7_row 27 = .ok (.iload_n 1, 1) := by decide +kernel
theorem dX7_row_28 : decode cX7_row 28 = .ok (.aaload, 1) := by decide +kernel
theorem dX7_row_29 : decode cX7_row 29 = .ok (.invokevirtual 157, 3) := by decide +kernel
theorem dX7_row_32 : decode cX7_row 32 = .ok (.aload_n 0, 1) := by decide +kernel
theorem dX7_row_33 : decode cX7_row 33 = .ok (.getfield 53, 3) := by decide +kernel
theorem dX7_row_36 : decode cX7_row 36 = .ok (.bipush 15, 2) := by decide +kernel
theorem dX7_row_38 : decode cX7_row 38 = .ok (.iconst 0, 1) := by decide +kernel
theorem dX7_row_39 : decode cX7_row 39 = .ok (.invokevirtual 161, 3) := by decide +kernel
theorem dX7_row_42 : decode cX7_row 42 = .ok (.ifCond .eq 14, 3) := by decide +kernel
theorem dX7_row_45 : decode cX7_row 45 = .ok (.aload_n 0, 1) := by decide +kernel
theorem dX7_row_46 : decode cX7_row 46 = .ok (.getfield 53, 3) := by decide +kernel
theorem dX7_row_49 : decode cX7_row 49 = .ok (.iload_n 2, 1) := by decide +kernel
theorem dX7_row_50 : decode cX7_row 50 = .ok (.invokevirtual 165, 3) := by decide +kernel
theorem dX7_row_53 : decode cX7_row 53 = .ok (.goto 4, 3) := by decide +kernel
theorem dX7_row_56 : decode cX7_row 56 = .ok (.iconst (-1), 1) := by decide +kernel
theorem dX7_row_57 : decode cX7_row 57 = .ok (.ireturn, 1) := by decide +kernel
set_option maxHeartbeats 4000000 in
set_option maxRecDepth 100000 in
theorem c_X7_row (l : Launch) (E : fEv) (N : Nat) (a1 : Int32) (a2 : Int32) (σ : fS) (r : Int32) (τ : fS) (hG : g_X7_row N a1 a2 σ = some (r, τ)) : fM l E yX7_row (.code yX7_row cX7_row 3 (some .int)) rm_X7_row [.ref (E.2.1 0), .int a1, .int a2] σ τ (some (.int r)) := by
  refine f_openI (by decide) (Nat.le_of_ble_eq_true rfl) ?_
  intro p e s m below meth c args Q F hR hP ls hl
  have hx := F.1.1
  have hb := F.1.2.1
  have hown := F.1.2.2.2.1
  have hts := F.1.2.2.2.2
  have hS : va_S (f_A E) s.heap s.heap [] := va_S.rf
  skip
  have hl : lv_has ls 3 [(0, .ref (E.2.1 0)), (1, .int a1), (2, .int a2)] := hl
  unfold g_X7_row at hG
  refine lv_aload_n hx hb dX7_row_0 rfl (lv_at hl 0 rfl) ?_
  refine lv_iload_n hx hb dX7_row_1 rfl (lv_at hl 1 rfl) ?_
  refine lv_iload_n hx hb dX7_row_2 rfl (lv_at hl 2 rfl) ?_
  obtain ⟨r3, σ3, hC3, hG⟩ := f_bd hG
  refine iv_X7_108 F hS hP (c_X7_hasTerm l E N a1 a2 σ _ _ hC3) ⟨Nat.le_of_ble_eq_true rfl, Nat.le_of_ble_eq_true rfl⟩ hl.1 (Nat.le_of_ble_eq_true rfl) dX7_row_3 ⟨Nat.zero_le _, Nat.zero_le _⟩ (fun H locs hP hS => ?_)
  refine lv_if_ne (tgt := 12) hx hb dX7_row_6 (by decide) (fun c6 => ?_) (fun c6 => ?_)
  · have hG := f_in c6 hG
    refine lv_aload_n hx hb dX7_row_12 rfl (lv_at hl 0 rfl) ?_
    refine gf_X7_44 F hP dX7_row_13 ?_
    obtain ⟨σ16, hC16, hG⟩ := f_bv hG
    refine iv_X7_154 F hS hP (c_X6_start l E N σ3 _ hC16) ⟨Nat.le_of_ble_eq_true rfl, Nat.le_of_ble_eq_true rfl⟩ hl.1 (Nat.le_of_ble_eq_true rfl) dX7_row_16 ⟨Nat.zero_le _, Nat.zero_le _⟩ (fun H locs hP hS => ?_)
    refine lv_aload_n hx hb dX7_row_19 rfl (lv_at hl 0 rfl) ?_
    refine gf_X7_44 F hP dX7_row_20 ?_
    refine lv_aload_n hx hb dX7_row_23 rfl (lv_at hl 0 rfl) ?_
    refine gf_X7_18 F hP dX7_row_24 ?_
    refine lv_iload_n hx hb dX7_row_27 rfl (lv_at hl 1 rfl) ?_
    obtain ⟨h28, hG⟩ := f_gd hG
    have i28 := f_fin h28
    refine x_aald F hP rfl rfl i28 dX7_row_28 ?_
    obtain ⟨σ29, hC29, hG⟩ := f_bv hG
    refine iv_X7_157 F hS hP (c_X6_addAll l E N (er 3 (a1).toNatClampNeg) (kd_s i28) σ16 _ hC29) ⟨Nat.le_of_ble_eq_true rfl, Nat.le_of_ble_eq_true rfl⟩ hl.1 (Nat.le_of_ble_eq_true rfl) dX7_row_29 ⟨Nat.zero_le _, Nat.zero_le _⟩ (fun H locs hP hS => ?_)
    refine lv_aload_n hx hb dX7_row_32 rfl (lv_at hl 0 rfl) ?_
    refine gf_X7_53 F hP dX7_row_33 ?_
    refine lv_bipush (v := 15) hx hb dX7_row_36 (by decide) ?_
    refine lv_iconst (v := 0) hx hb dX7_row_38 (by decide) ?_
    obtain ⟨r39, σ39, hC39, hG⟩ := f_bd hG
    refine iv_X7_161 F hS hP (c_X1_find l E N (15 : Int32) (0 : Int32) σ29 _ _ hC39) ⟨Nat.le_of_ble_eq_true rfl, Nat.le_of_ble_eq_true rfl⟩ hl.1 (Nat.le_of_ble_eq_true rfl) dX7_row_39 ⟨Nat.zero_le _, Nat.zero_le _⟩ (fun H locs hP hS => ?_)
    refine lv_if_eq (tgt := 56) hx hb dX7_row_42 (by decide) (fun c42 => ?_) (fun c42 => ?_)
    · have hG := f_ip c42 hG
      refine lv_iconst (v := -1) hx hb dX7_row_56 (by decide) ?_
      exact x_ri hR hS hP hG dX7_row_57
    · have hG := f_in c42 hG
      refine lv_aload_n hx hb dX7_row_45 rfl (lv_at hl 0 rfl) ?_
      refine gf_X7_53 F hP dX7_row_46 ?_
      refine lv_iload_n hx hb dX7_row_49 rfl (lv_at hl 2 rfl) ?_
      obtain ⟨r50, σ50, hC50, hG⟩ := f_bd hG
      refine iv_X7_165 F hS hP (c_X1_numberAt l E N a2 σ39 _ _ hC50) ⟨Nat.le_of_ble_eq_true rfl, Nat.le_of_ble_eq_true rfl⟩ hl.1 (Nat.le_of_ble_eq_true rfl) dX7_row_50 ⟨Nat.zero_le _, Nat.zero_le _⟩ (fun H locs hP hS => ?_)
      refine lv_goto (tgt := 57) hx hb dX7_row_53 (by decide) ?_
      exact x_ri hR hS hP hG dX7_row_57
  · have hG := f_ip c6 hG
    refine lv_bipush (v := -101) hx hb dX7_row_9 (by decide) ?_
    exact x_ri hR hS hP hG dX7_row_11
theorem dX7_way_0 : decode cX7_way 0 = .ok (.aload_n 0, 1) := by decide +kernel
theorem dX7_way_1 : decode cX7_way 1 = .ok (.iload_n 1, 1) := by decide +kernel
theorem dX7_way_2 : decode cX7_way 2 = .ok (.invokevirtual 115, 3) := by decide +kernel
theorem dX7_way_5 : decode cX7_way 5 = .ok (.ifCond .eq 20, 3) := by decide +kernel
theorem dX7_way_8 : decode cX7_way 8 = .ok (.iload_n 3, 1) := by decide +kernel
theorem dX7_way_9 : decode cX7_way 9 = .ok (.ifCond .lt 16, 3) := by decide +kernel
theorem dX7_way_12 : decode cX7_way 12 = .ok (.iload_n 3, 1) := by decide +kernel
theorem dX7_way_13 : decode cX7_way 13 = .ok (.aload_n 0, 1) := by decide +kernel
theorem dX7_way_14 : decode cX7_way 14 = .ok (.getfield 18, 3) := by decide +kernel
theorem dX7_way_17 : decode cX7_way 17 = .ok (.iload_n 1, 1) := by decide +kernel
theorem dX7_way_18 : decode cX7_way 18 = .ok (.aaload, 1) := by decide +kernel
theorem dX7_way_19 : decode cX7_way 19 = .ok (.getfield 80, 3) := by decide +kernel
theorem dX7_way_22 : decode cX7_way 22 = .ok (.if_icmp .le 6, 3) := by decide +kernel
theorem dX7_way_25 : decode cX7_way 25 = .ok (.bipush (-101), 2) := by decide +kernel
theorem dX7_way_27 : decode cX7_way 27 = .ok (.ireturn, 1) := by decide +kernel
theorem dX7_way_28 : decode cX7_way 28 = .ok (.iload_n 2, 1) := by decide +kernel
theorem dX7_way_29 : decode cX7_way 29 = .ok (.invokestatic 83, 3) := by decide +kernel
theorem dX7_way_32 : decode cX7_way 32 = .ok (.ifCond .ne 6, 3) := by decide +kernel
theorem dX7_way_35 : decode cX7_way 35 = .ok (.bipush (-102), 2) := by decide +kernel
theorem dX7_way_37 : decode cX7_way 37 = .ok (.ireturn, 1) := by decide +kernel
theorem dX7_way_38 : decode cX7_way 38 = .ok (.aload_n 0, 1) := by decide +kernel
theorem dX7_way_39 : decode cX7_way 39 = .ok (.aload_n 0, 1) := by decide +kernel
theorem dX7_way_40 : decode cX7_way 40 = .ok (.getfield 18, 3) := by decide +kernel
theorem dX7_way_43 : decode cX7_way 43 = .ok (.iload_n 1, 1) := by decide +kernel
theorem dX7_way_44 : decode cX7_way 44 = .ok (.aaload, 1) := by decide +kernel
theorem dX7_way_45 : decode cX7_way 45 = .ok (.iload_n 2, 1) := by decide +kernel
theorem dX7_way_46 : decode cX7_way 46 = .ok (.invokevirtual 148, 3) := by decide +kernel
theorem dX7_way_49 : decode cX7_way 49 = .ok (.aload_n 0, 1) := by decide +kernel
theorem dX7_way_50 : decode cX7_way 50 = .ok (.getfield 53, 3) := by decide +kernel
theorem dX7_way_53 : decode cX7_way 53 = .ok (.bipush 9, 2) := by decide +kernel
theorem dX7_way_55 : decode cX7_way 55 = .ok (.iconst 1, 1) := by decide +kernel
theorem dX7_way_56 : decode cX7_way 56 = .ok (.invokevirtual 161, 3) := by decide +kernel
theorem dX7_way_59 : decode cX7_way 59 = .ok (.ifCond .eq 14, 3) := by decide +kernel
theorem dX7_way_62 : decode cX7_way 62 = .ok (.aload_n 0, 1) := by decide +kernel
theorem dX7_way_63 : decode cX7_way 63 = .ok (.getfield 53, 3) := by decide +kernel
theorem dX7_way_66 : decode cX7_way 66 = .ok (.iload_n 3, 1) := by decide +kernel
theorem dX7_way_67 : decode cX7_way 67 = .ok (.invokevirtual 165, 3) := by decide +kernel
theorem dX7_way_70 : decode cX7_way 70 = .ok (.goto 4, 3) := by decide +kernel
theorem dX7_way_73 : decode cX7_way 73 = .ok (.iconst (-1), 1) := by decide +kernel
theorem dX7_way_74 : decode cX7_way 74 = .ok (.ireturn, 1) := by decide +kernel
set_option maxHeartbeats 4000000 in
set_option maxRecDepth 100000 in
theorem c_X7_way (l : Launch) (E : fEv) (N : Nat) (a1 : Int32) (a2 : Int32) (a3 : Int32) (σ : fS) (r : Int32) (τ : fS) (hG : g_X7_way N a1 a2 a3 σ = some (r, τ)) : fM l E yX7_way (.code yX7_way cX7_way 4 (some .int)) rm_X7_way [.ref (E.2.1 0), .int a1, .int a2, .int a3] σ τ (some (.int r)) := by
  refine f_openI (by decide) (Nat.le_of_ble_eq_true rfl) ?_
  intro p e s m below meth c args Q F hR hP ls hl
  have hx := F.1.1
  have hb := F.1.2.1
  have hown := F.1.2.2.2.1
  have hts := F.1.2.2.2.2
  have hS : va_S (f_A E) s.heap s.heap [] := va_S.rf
  skip
  have hl : lv_has ls 4 [(0, .ref (E.2.1 0)), (1, .int a1), (2, .int a2), (3, .int a3)] := hl
  unfold g_X7_way at hG
  refine lv_aload_n hx hb dX7_way_0 rfl (lv_at hl 0 rfl) ?_
  refine lv_iload_n hx hb dX7_way_1 rfl (lv_at hl 1 rfl) ?_
  obtain ⟨r2, σ2, hC2, hG⟩ := f_bd hG
  refine iv_X7_115 F hS hP (c_X7_hasForm l E N a1 σ _ _ hC2) ⟨Nat.le_of_ble_eq_true rfl, Nat.le_of_ble_eq_true rfl⟩ hl.1 (Nat.le_of_ble_eq_true rfl) dX7_way_2 ⟨Nat.zero_le _, Nat.zero_le _⟩ (fun H locs hP hS => ?_)
  refine lv_if_eq (tgt := 25) hx hb dX7_way_5 (by decide) (fun c5 => ?_) (fun c5 => ?_)
  · have hG := f_ip c5 hG
    refine lv_bipush (v := -101) hx hb dX7_way_25 (by decide) ?_
    exact x_ri hR hS hP hG dX7_way_27
  · have hG := f_in c5 hG
    refine lv_iload_n hx hb dX7_way_8 rfl (lv_at hl 3 rfl) ?_
    refine lv_if_lt (tgt := 25) hx hb dX7_way_9 (by decide) (fun c9 => ?_) (fun c9 => ?_)
    · have hG := f_ip c9 hG
      refine lv_bipush (v := -101) hx hb dX7_way_25 (by decide) ?_
      exact x_ri hR hS hP hG dX7_way_27
    · have hG := f_in c9 hG
      refine lv_iload_n hx hb dX7_way_12 rfl (lv_at hl 3 rfl) ?_
      refine lv_aload_n hx hb dX7_way_13 rfl (lv_at hl 0 rfl) ?_
      refine gf_X7_18 F hP dX7_way_14 ?_
      refine lv_iload_n hx hb dX7_way_17 rfl (lv_at hl 1 rfl) ?_
      obtain ⟨h18, hG⟩ := f_gd hG
      have i18 := f_fin h18
      refine x_aald F hP rfl rfl i18 dX7_way_18 ?_
      refine gf_X7_80 F hP (kd_s i18) dX7_way_19 ?_
      refine lv_icmp_le (tgt := 28) hx hb dX7_way_22 (by decide) (fun c22 => ?_) (fun c22 => ?_)
      · have hG := f_ip c22 hG
        refine lv_iload_n hx hb dX7_way_28 rfl (lv_at hl 2 rfl) ?_
        obtain ⟨r29, σ29, hC29, hG⟩ := f_bd hG
        refine iv_X7_83 F hS hP (c_X2_isNumber l E N a2 σ2 _ _ hC29) ⟨Nat.le_of_ble_eq_true rfl, Nat.le_of_ble_eq_true rfl⟩ hl.1 (Nat.le_of_ble_eq_true rfl) dX7_way_29 ⟨Nat.zero_le _, Nat.zero_le _⟩ (fun H locs hP hS => ?_)
        refine lv_if_ne (tgt := 38) hx hb dX7_way_32 (by decide) (fun c32 => ?_) (fun c32 => ?_)
        · have hG := f_in c32 hG
          refine lv_aload_n hx hb dX7_way_38 rfl (lv_at hl 0 rfl) ?_
          refine lv_aload_n hx hb dX7_way_39 rfl (lv_at hl 0 rfl) ?_
          refine gf_X7_18 F hP dX7_way_40 ?_
          refine lv_iload_n hx hb dX7_way_43 rfl (lv_at hl 1 rfl) ?_
          obtain ⟨h44, hG⟩ := f_gd hG
          have i44 := f_fin h44
          refine x_aald F hP rfl rfl i44 dX7_way_44 ?_
          refine lv_iload_n hx hb dX7_way_45 rfl (lv_at hl 2 rfl) ?_
          obtain ⟨σ46, hC46, hG⟩ := f_bv hG
          refine iv_X7_148 F hS hP (c_X7_startAgainst l E N (er 3 (a1).toNatClampNeg) a2 (kd_s i44) σ29 _ hC46) ⟨Nat.le_of_ble_eq_true rfl, Nat.le_of_ble_eq_true rfl⟩ hl.1 (Nat.le_of_ble_eq_true rfl) dX7_way_46 ⟨Nat.zero_le _, Nat.zero_le _⟩ (fun H locs hP hS => ?_)
          refine lv_aload_n hx hb dX7_way_49 rfl (lv_at hl 0 rfl) ?_
          refine gf_X7_53 F hP dX7_way_50 ?_
          refine lv_bipush (v := 9) hx hb dX7_way_53 (by decide) ?_
          refine lv_iconst (v := 1) hx hb dX7_way_55 (by decide) ?_
          obtain ⟨r56, σ56, hC56, hG⟩ := f_bd hG
          refine iv_X7_161 F hS hP (c_X1_find l E N (9 : Int32) (1 : Int32) σ46 _ _ hC56) ⟨Nat.le_of_ble_eq_true rfl, Nat.le_of_ble_eq_true rfl⟩ hl.1 (Nat.le_of_ble_eq_true rfl) dX7_way_56 ⟨Nat.zero_le _, Nat.zero_le _⟩ (fun H locs hP hS => ?_)
          refine lv_if_eq (tgt := 73) hx hb dX7_way_59 (by decide) (fun c59 => ?_) (fun c59 => ?_)
          · have hG := f_ip c59 hG
            refine lv_iconst (v := -1) hx hb dX7_way_73 (by decide) ?_
            exact x_ri hR hS hP hG dX7_way_74
          · have hG := f_in c59 hG
            refine lv_aload_n hx hb dX7_way_62 rfl (lv_at hl 0 rfl) ?_
            refine gf_X7_53 F hP dX7_way_63 ?_
            refine lv_iload_n hx hb dX7_way_66 rfl (lv_at hl 3 rfl) ?_
            obtain ⟨r67, σ67, hC67, hG⟩ := f_bd hG
            refine iv_X7_165 F hS hP (c_X1_numberAt l E N a3 σ56 _ _ hC67) ⟨Nat.le_of_ble_eq_true rfl, Nat.le_of_ble_eq_true rfl⟩ hl.1 (Nat.le_of_ble_eq_true rfl) dX7_way_67 ⟨Nat.zero_le _, Nat.zero_le _⟩ (fun H locs hP hS => ?_)
            refine lv_goto (tgt := 74) hx hb dX7_way_70 (by decide) ?_
            exact x_ri hR hS hP hG dX7_way_74
        · have hG := f_ip c32 hG
          refine lv_bipush (v := -102) hx hb dX7_way_35 (by decide) ?_
          exact x_ri hR hS hP hG dX7_way_37
      · have hG := f_in c22 hG
        refine lv_bipush (v := -101) hx hb dX7_way_25 (by decide) ?_
        exact x_ri hR hS hP hG dX7_way_27
theorem dX7_clear_0 : decode cX7_clear 0 = .ok (.aload_n 0, 1) := by decide +kernel
theorem dX7_clear_1 : decode cX7_clear 1 = .ok (.iload_n 1, 1) := by decide +kernel
theorem dX7_clear_2 : decode cX7_clear 2 = .ok (.invokevirtual 115, 3) := by decide +kernel
theorem dX7_clear_5 : decode cX7_clear 5 = .ok (.ifCond .ne 6, 3) := by decide +kernel
theorem dX7_clear_8 : decode cX7_clear 8 = .ok (.bipush (-101), 2) := by decide +kernel
theorem dX7_clear_10 : decode cX7_clear 10 = .ok (.ireturn, 1) := by decide +kernel
theorem dX7_clear_11 : decode cX7_clear 11 = .ok (.aload_n 0, 1) := by decide +kernel
theorem dX7_clear_12 : decode cX7_clear 12 = .ok (.getfield 18, 3) := by decide +kernel
theorem dX7_clear_15 : decode cX7_clear 15 = .ok (.iload_n 1, 1) := by decide +kernel
theorem dX7_clear_16 : decode cX7_clear 16 = .ok (.aaload, 1) := by decide +kernel
theorem dX7_clear_17 : decode cX7_clear 17 = .ok (.getfield 80, 3) := by decide +kernel
theorem dX7_clear_20 : decode cX7_clear 20 = .ok (.istore_n 2, 1) := by decide +kernel
theorem dX7_clear_21 : decode cX7_clear 21 = .ok (.aload_n 0, 1) := by decide +kernel
theorem dX7_clear_22 : decode cX7_clear 22 = .ok (.getfield 23, 3) := by decide +kernel
theorem dX7_clear_25 : decode cX7_clear 25 = .ok (.invokevirtual 168, 3) := by decide +kernel
theorem dX7_clear_28 : decode cX7_clear 28 = .ok (.aload_n 0, 1) := by decide +kernel
theorem dX7_clear_29 : decode cX7_clear 29 = .ok (.iload_n 1, 1) := by decide +kernel
theorem dX7_clear_30 : decode cX7_clear 30 = .ok (.invokevirtual 76, 3) := by decide +kernel
theorem dX7_clear_33 : decode cX7_clear 33 = .ok (.iload_n 2, 1) := by decide +kernel
theorem dX7_clear_34 : decode cX7_clear 34 = .ok (.ireturn, 1) := by decide +kernel
set_option maxHeartbeats 4000000 in
set_option maxRecDepth 100000 in
theorem c_X7_clear (l : Launch) (E : fEv) (N : Nat) (a1 : Int32) (σ : fS) (r : Int32) (τ : fS) (hG : g_X7_clear N a1 σ = some (r, τ)) : fM l E yX7_clear (.code yX7_clear cX7_clear 3 (some .int)) rm_X7_clear [.ref (E.2.1 0), .int a1] σ τ (some (.int r)) := by
  refine f_openI (by decide) (Nat.le_of_ble_eq_true rfl) ?_
  intro p e s m below meth c args Q F hR hP ls hl
  have hx := F.1.1
  have hb := F.1.2.1
  have hown := F.1.2.2.2.1
  have hts := F.1.2.2.2.2
  have hS : va_S (f_A E) s.heap s.heap [] := va_S.rf
  skip
  have hl : lv_has ls 3 [(0, .ref (E.2.1 0)), (1, .int a1)] := hl
  unfold g_X7_clear at hG
  refine lv_aload_n hx hb dX7_clear_0 rfl (lv_at hl 0 rfl) ?_
  refine lv_iload_n hx hb dX7_clear_1 rfl (lv_at hl 1 rfl) ?_
  obtain ⟨r2, σ2, hC2, hG⟩ := f_bd hG
  refine iv_X7_115 F hS hP (c_X7_hasForm l E N a1 σ _ _ hC2) ⟨Nat.le_of_ble_eq_true rfl, Nat.le_of_ble_eq_true rfl⟩ hl.1 (Nat.le_of_ble_eq_true rfl) dX7_clear_2 ⟨Nat.zero_le _, Nat.zero_le _⟩ (fun H locs hP hS => ?_)
  refine lv_if_ne (tgt := 11) hx hb dX7_clear_5 (by decide) (fun c5 => ?_) (fun c5 => ?_)
  · have hG := f_in c5 hG
    refine lv_aload_n hx hb dX7_clear_11 rfl (lv_at hl 0 rfl) ?_
    refine gf_X7_18 F hP dX7_clear_12 ?_
    refine lv_iload_n hx hb dX7_clear_15 rfl (lv_at hl 1 rfl) ?_
    obtain ⟨h16, hG⟩ := f_gd hG
    have i16 := f_fin h16
    refine x_aald F hP rfl rfl i16 dX7_clear_16 ?_
    refine gf_X7_80 F hP (kd_s i16) dX7_clear_17 ?_
    refine lv_topi (fun v20 e20 => ?_)
    have hG := f_lt hG e20
    refine lv_istore_n (lv' := [(2, .int v20), (0, .ref (E.2.1 0)), (1, .int a1)]) hx hb dX7_clear_20 rfl hl (by decide) rfl (fun ls hl => ?_)
    refine lv_aload_n hx hb dX7_clear_21 rfl (lv_at hl 1 rfl) ?_
    refine gf_X7_23 F hP dX7_clear_22 ?_
    obtain ⟨σ25, hC25, hG⟩ := f_bv hG
    refine iv_X7_168 F hS hP rfl (c_X0_empty l E N 4 rfl σ2 _ hC25) ⟨Nat.le_of_ble_eq_true rfl, Nat.le_of_ble_eq_true rfl⟩ hl.1 (Nat.le_of_ble_eq_true rfl) dX7_clear_25 ⟨Nat.zero_le _, Nat.zero_le _⟩ (fun H locs hP hS => ?_)
    refine lv_aload_n hx hb dX7_clear_28 rfl (lv_at hl 1 rfl) ?_
    refine lv_iload_n hx hb dX7_clear_29 rfl (lv_at hl 2 rfl) ?_
    obtain ⟨σ30, hC30, hG⟩ := f_bv hG
    refine iv_X7_76 F hS hP (c_X7_shelveDraft l E N a1 σ25 _ hC30) ⟨Nat.le_of_ble_eq_true rfl, Nat.le_of_ble_eq_true rfl⟩ hl.1 (Nat.le_of_ble_eq_true rfl) dX7_clear_30 ⟨Nat.zero_le _, Nat.zero_le _⟩ (fun H locs hP hS => ?_)
    refine lv_iload_n hx hb dX7_clear_33 rfl (lv_at hl 0 rfl) ?_
    exact x_ri hR hS hP hG dX7_clear_34
  · have hG := f_ip c5 hG
    refine lv_bipush (v := -101) hx hb dX7_clear_8 (by decide) ?_
    exact x_ri hR hS hP hG dX7_clear_10
theorem dX7_join_0 : decode cX7_join 0 = .ok (.aload_n 0, 1) := by decide +kernel
theorem dX7_join_1 : decode cX7_join 1 = .ok (.iload_n 1, 1) := by decide +kernel
theorem dX7_join_2 : decode cX7_join 2 = .ok (.invokevirtual 115, 3) := by decide +kernel
theorem dX7_join_5 : decode cX7_join 5 = .ok (.ifCond .eq 18, 3) := by decide +kernel
theorem dX7_join_8 : decode cX7_join 8 = .ok (.aload_n 0, 1) := by decide +kernel
theorem dX7_join_9 : decode cX7_join 9 = .ok (.iload_n 2, 1) := by decide +kernel
theorem dX7_join_10 : decode cX7_join 10 = .ok (.invokevirtual 115, 3) := by decide +kernel
theorem dX7_join_13 : decode cX7_join 13 = .ok (.ifCond .eq 10, 3) := by decide +kernel
theorem dX7_join_16 : decode cX7_join 16 = .ok (.iload_n 3, 1) := by decide +kernel
theorem dX7_join_17 : decode cX7_join 17 = .ok (.invokestatic 69, 3) := by decide +kernel
theorem dX7_join_20 : decode cX7_join 20 = .ok (.ifCond .ne 6, 3) := by decide +kernel
theorem dX7_join_23 : decode cX7_join 23 = .ok (.bipush (-101), 2) := by decide +kernel
theorem dX7_join_25 : decode cX7_join 25 = .ok (.ireturn, 1) := by decide +kernel
theorem dX7_join_26 : decode cX7_join 26 = .ok (.aload_n 0, 1) := by decide +kernel
theorem dX7_join_27 : decode cX7_join 27 = .ok (.getfield 18, 3) := by decide +kernel
theorem dX7_join_30 : decode cX7_join 30 = .ok (.iload_n 1, 1) := by decide +kernel
theorem dX7_join_31 : decode cX7_join 31 = .ok (.aaload, 1) := by decide +kernel
theorem dX7_join_32 : decode cX7_join 32 = .ok (.getfield 80, 3) := by decide +kernel
theorem dX7_join_35 : decode cX7_join 35 = .ok (.aload_n 0, 1) := by decide +kernel
theorem dX7_join_36 : decode cX7_join 36 = .ok (.getfield 18, 3) := by decide +kernel
theorem dX7_join_39 : decode cX7_join 39 = .ok (.iload_n 2, 1) := by decide +kernel
theorem dX7_join_40 : decode cX7_join 40 = .ok (.aaload, 1) := by decide +kernel
theorem dX7_join_41 : decode cX7_join 41 = .ok (.getfield 80, 3) := by decide +kernel
theorem dX7_join_44 : decode cX7_join 44 = .ok (.iadd, 1) := by decide +kernel
theorem dX7_join_45 : decode cX7_join 45 = .ok (.iconst 4, 1) := by decide +kernel
theorem dX7_join_46 : decode cX7_join 46 = .ok (.if_icmp .le 6, 3) := by decide +kernel
theorem dX7_join_49 : decode cX7_join 49 = .ok (.bipush (-104), 2) := by decide +kernel
theorem dX7_join_51 : decode cX7_join 51 = .ok (.ireturn, 1) := by decide +kernel
theorem dX7_join_52 : decode cX7_join 52 = .ok (.aload_n 0, 1) := by decide +kernel
theorem dX7_join_53 : decode cX7_join 53 = .ok (.getfield 23, 3) := by decide +kernel
theorem dX7_join_56 : decode cX7_join 56 = .ok (.aload_n 0, 1) := by decide +kernel
theorem dX7_join_57 : decode cX7_join 57 = .ok (.getfield 18, 3) := by decide +kernel
theorem dX7_join_60 : decode cX7_join 60 = .ok (.iload_n 1, 1) := by decide +kernel
theorem dX7_join_61 : decode cX7_join 61 = .ok (.aaload, 1) := by decide +kernel
theorem dX7_join_62 : decode cX7_join 62 = .ok (.invokevirtual 171, 3) := by decide +kernel
theorem dX7_join_65 : decode cX7_join 65 = .ok (.aload_n 0, 1) := by decide +kernel
theorem dX7_join_66 : decode cX7_join 66 = .ok (.getfield 23, 3) := by decide +kernel
theorem dX7_join_69 : decode cX7_join 69 = .ok (.aload_n 0, 1) := by decide +kernel
theorem dX7_join_70 : decode cX7_join 70 = .ok (.getfield 18, 3) := by decide +kernel
theorem dX7_join_73 : decode cX7_join 73 = .ok (.iload_n 2, 1) := by decide +kernel
theorem dX7_join_74 : decode cX7_join 74 = .ok (.aaload, 1) := by decide +kernel
theorem dX7_join_75 : decode cX7_join 75 = .ok (.iconst 0, 1) := by decide +kernel
theorem dX7_join_76 : decode cX7_join 76 = .ok (.invokevirtual 174, 3) := by decide +kernel
theorem dX7_join_79 : decode cX7_join 79 = .ok (.aload_n 0, 1) := by decide +kernel
theorem dX7_join_80 : decode cX7_join 80 = .ok (.iload_n 3, 1) := by decide +kernel
theorem dX7_join_81 : decode cX7_join 81 = .ok (.invokevirtual 76, 3) := by decide +kernel
theorem dX7_join_84 : decode cX7_join 84 = .ok (.aload_n 0, 1) := by decide +kernel
theorem dX7_join_85 : decode cX7_join 85 = .ok (.getfield 18, 3) := by decide +kernel
theorem dX7_join_88 : decode cX7_join 88 = .ok (.iload_n 3, 1) := by decide +kernel
theorem dX7_join_89 : decode cX7_join 89 = .ok (.aaload, 1) := by decide +kernel
theorem dX7_join_90 : decode cX7_join 90 = .ok (.getfield 80, 3) := by decide +kernel
theorem dX7_join_93 : decode cX7_join 93 = .ok (.ireturn, 1) := by decide +kernel
set_option maxHeartbeats 4000000 in
set_option maxRecDepth 100000 in
theorem c_X7_join (l : Launch) (E : fEv) (N : Nat) (a1 : Int32) (a2 : Int32) (a3 : Int32) (σ : fS) (r : Int32) (τ : fS) (hG : g_X7_join N a1 a2 a3 σ = some (r, τ)) : fM l E yX7_join (.code yX7_join cX7_join 4 (some .int)) rm_X7_join [.ref (E.2.1 0), .int a1, .int a2, .int a3] σ τ (some (.int r)) := by
  refine f_openI (by decide) (Nat.le_of_ble_eq_true rfl) ?_
  intro p e s m below meth c args Q F hR hP ls hl
  have hx := F.1.1
  have hb := F.1.2.1
  have hown := F.1.2.2.2.1
  have hts := F.1.2.2.2.2
  have hS : va_S (f_A E) s.heap s.heap [] := va_S.rf
  skip
  have hl : lv_has ls 4 [(0, .ref (E.2.1 0)), (1, .int a1), (2, .int a2), (3, .int a3)] := hl
  unfold g_X7_join at hG
  refine lv_aload_n hx hb dX7_join_0 rfl (lv_at hl 0 rfl) ?_
  refine lv_iload_n hx hb dX7_join_1 rfl (lv_at hl 1 rfl) ?_
  obtain ⟨r2, σ2, hC2, hG⟩ := f_bd hG
  refine iv_X7_115 F hS hP (c_X7_hasForm l E N a1 σ _ _ hC2) ⟨Nat.le_of_ble_eq_true rfl, Nat.le_of_ble_eq_true rfl⟩ hl.1 (Nat.le_of_ble_eq_true rfl) dX7_join_2 ⟨Nat.zero_le _, Nat.zero_le _⟩ (fun H locs hP hS => ?_)
  refine lv_if_eq (tgt := 23) hx hb dX7_join_5 (by decide) (fun c5 => ?_) (fun c5 => ?_)
  · have hG := f_ip c5 hG
    refine lv_bipush (v := -101) hx hb dX7_join_23 (by decide) ?_
    exact x_ri hR hS hP hG dX7_join_25
  · have hG := f_in c5 hG
    refine lv_aload_n hx hb dX7_join_8 rfl (lv_at hl 0 rfl) ?_
    refine lv_iload_n hx hb dX7_join_9 rfl (lv_at hl 2 rfl) ?_
    obtain ⟨r10, σ10, hC10, hG⟩ := f_bd hG
    refine iv_X7_115 F hS hP (c_X7_hasForm l E N a2 σ2 _ _ hC10) ⟨Nat.le_of_ble_eq_true rfl, Nat.le_of_ble_eq_true rfl⟩ hl.1 (Nat.le_of_ble_eq_true rfl) dX7_join_10 ⟨Nat.zero_le _, Nat.zero_le _⟩ (fun H locs hP hS => ?_)
    refine lv_if_eq (tgt := 23) hx hb dX7_join_13 (by decide) (fun c13 => ?_) (fun c13 => ?_)
    · have hG := f_ip c13 hG
      refine lv_bipush (v := -101) hx hb dX7_join_23 (by decide) ?_
      exact x_ri hR hS hP hG dX7_join_25
    · have hG := f_in c13 hG
      refine lv_iload_n hx hb dX7_join_16 rfl (lv_at hl 3 rfl) ?_
      obtain ⟨r17, σ17, hC17, hG⟩ := f_bd hG
      refine iv_X7_69 F hS hP (c_X7_isShelf l E N a3 σ10 _ _ hC17) ⟨Nat.le_of_ble_eq_true rfl, Nat.le_of_ble_eq_true rfl⟩ hl.1 (Nat.le_of_ble_eq_true rfl) dX7_join_17 ⟨Nat.zero_le _, Nat.zero_le _⟩ (fun H locs hP hS => ?_)
      refine lv_if_ne (tgt := 26) hx hb dX7_join_20 (by decide) (fun c20 => ?_) (fun c20 => ?_)
      · have hG := f_in c20 hG
        refine lv_aload_n hx hb dX7_join_26 rfl (lv_at hl 0 rfl) ?_
        refine gf_X7_18 F hP dX7_join_27 ?_
        refine lv_iload_n hx hb dX7_join_30 rfl (lv_at hl 1 rfl) ?_
        obtain ⟨h31, hG⟩ := f_gd hG
        have i31 := f_fin h31
        refine x_aald F hP rfl rfl i31 dX7_join_31 ?_
        refine gf_X7_80 F hP (kd_s i31) dX7_join_32 ?_
        refine lv_aload_n hx hb dX7_join_35 rfl (lv_at hl 0 rfl) ?_
        refine gf_X7_18 F hP dX7_join_36 ?_
        refine lv_iload_n hx hb dX7_join_39 rfl (lv_at hl 2 rfl) ?_
        obtain ⟨h40, hG⟩ := f_gd hG
        have i40 := f_fin h40
        refine x_aald F hP rfl rfl i40 dX7_join_40 ?_
        refine gf_X7_80 F hP (kd_s i40) dX7_join_41 ?_
        refine lv_iadd hx hb dX7_join_44 ?_
        refine lv_iconst (v := 4) hx hb dX7_join_45 (by decide) ?_
        refine lv_icmp_le (tgt := 52) hx hb dX7_join_46 (by decide) (fun c46 => ?_) (fun c46 => ?_)
        · have hG := f_ip c46 hG
          refine lv_aload_n hx hb dX7_join_52 rfl (lv_at hl 0 rfl) ?_
          refine gf_X7_23 F hP dX7_join_53 ?_
          refine lv_aload_n hx hb dX7_join_56 rfl (lv_at hl 0 rfl) ?_
          refine gf_X7_18 F hP dX7_join_57 ?_
          refine lv_iload_n hx hb dX7_join_60 rfl (lv_at hl 1 rfl) ?_
          obtain ⟨h61, hG⟩ := f_gd hG
          have i61 := f_fin h61
          refine x_aald F hP rfl rfl i61 dX7_join_61 ?_
          obtain ⟨σ62, hC62, hG⟩ := f_bv hG
          refine iv_X7_171 F hS hP rfl (c_X0_copy l E N 4 (er 3 (a1).toNatClampNeg) rfl (kd_s i61) σ17 _ hC62) ⟨Nat.le_of_ble_eq_true rfl, Nat.le_of_ble_eq_true rfl⟩ hl.1 (Nat.le_of_ble_eq_true rfl) dX7_join_62 ⟨Nat.zero_le _, Nat.zero_le _⟩ (fun H locs hP hS => ?_)
          refine lv_aload_n hx hb dX7_join_65 rfl (lv_at hl 0 rfl) ?_
          refine gf_X7_23 F hP dX7_join_66 ?_
          refine lv_aload_n hx hb dX7_join_69 rfl (lv_at hl 0 rfl) ?_
          refine gf_X7_18 F hP dX7_join_70 ?_
          refine lv_iload_n hx hb dX7_join_73 rfl (lv_at hl 2 rfl) ?_
          obtain ⟨h74, hG⟩ := f_gd hG
          have i74 := f_fin h74
          refine x_aald F hP rfl rfl i74 dX7_join_74 ?_
          refine lv_iconst (v := 0) hx hb dX7_join_75 (by decide) ?_
          obtain ⟨σ76, hC76, hG⟩ := f_bv hG
          refine iv_X7_174 F hS hP rfl (c_X0_addTimes l E N 4 (er 3 (a2).toNatClampNeg) (0 : Int32) rfl (kd_s i74) σ62 _ hC76) ⟨Nat.le_of_ble_eq_true rfl, Nat.le_of_ble_eq_true rfl⟩ hl.1 (Nat.le_of_ble_eq_true rfl) dX7_join_76 ⟨Nat.zero_le _, Nat.zero_le _⟩ (fun H locs hP hS => ?_)
          refine lv_aload_n hx hb dX7_join_79 rfl (lv_at hl 0 rfl) ?_
          refine lv_iload_n hx hb dX7_join_80 rfl (lv_at hl 3 rfl) ?_
          obtain ⟨σ81, hC81, hG⟩ := f_bv hG
          refine iv_X7_76 F hS hP (c_X7_shelveDraft l E N a3 σ76 _ hC81) ⟨Nat.le_of_ble_eq_true rfl, Nat.le_of_ble_eq_true rfl⟩ hl.1 (Nat.le_of_ble_eq_true rfl) dX7_join_81 ⟨Nat.zero_le _, Nat.zero_le _⟩ (fun H locs hP hS => ?_)
          refine lv_aload_n hx hb dX7_join_84 rfl (lv_at hl 0 rfl) ?_
          refine gf_X7_18 F hP dX7_join_85 ?_
          refine lv_iload_n hx hb dX7_join_88 rfl (lv_at hl 3 rfl) ?_
          obtain ⟨h89, hG⟩ := f_gd hG
          have i89 := f_fin h89
          refine x_aald F hP rfl rfl i89 dX7_join_89 ?_
          refine gf_X7_80 F hP (kd_s i89) dX7_join_90 ?_
          exact x_ri hR hS hP hG dX7_join_93
        · have hG := f_in c46 hG
          refine lv_bipush (v := -104) hx hb dX7_join_49 (by decide) ?_
          exact x_ri hR hS hP hG dX7_join_51
      · have hG := f_ip c20 hG
        refine lv_bipush (v := -101) hx hb dX7_join_23 (by decide) ?_
        exact x_ri hR hS hP hG dX7_join_25
theorem dX7_times_0 : decode cX7_times 0 = .ok (.aload_n 0, 1) := by decide +kernel
theorem dX7_times_1 : decode cX7_times 1 = .ok (.iload_n 1, 1) := by decide +kernel
theorem dX7_times_2 : decode cX7_times 2 = .ok (.invokevirtual 115, 3) := by decide +kernel
theorem dX7_times_5 : decode cX7_times 5 = .ok (.ifCond .eq 18, 3) := by decide +kernel
theorem dX7_times_8 : decode cX7_times 8 = .ok (.aload_n 0, 1) := by decide +kernel
theorem dX7_times_9 : decode cX7_times 9 = .ok (.iload_n 2, 1) := by decide +kernel
theorem dX7_times_10 : decode cX7_times 10 = .ok (.invokevirtual 115, 3) := by decide +kernel
theorem dX7_times_13 : decode cX7_times 13 = .ok (.ifCond .eq 10, 3) := by decide +kernel
theorem dX7_times_16 : decode cX7_times 16 = .ok (.iload_n 3, 1) := by decide +kernel
theorem dX7_times_17 : decode cX7_times 17 = .ok (.invokestatic 69, 3) := by decide +kernel
theorem dX7_times_20 : decode cX7_times 20 = .ok (.ifCond .ne 6, 3) := by decide +kernel
theorem dX7_times_23 : decode cX7_times 23 = .ok (.bipush (-101), 2) := by decide +kernel
theorem dX7_times_25 : decode cX7_times 25 = .ok (.ireturn, 1) := by decide +kernel
theorem dX7_times_26 : decode cX7_times 26 = .ok (.aload_n 0, 1) := by decide +kernel
theorem dX7_times_27 : decode cX7_times 27 = .ok (.getfield 18, 3) := by decide +kernel
theorem dX7_times_30 : decode cX7_times 30 = .ok (.iload_n 1, 1) := by decide +kernel
theorem dX7_times_31 : decode cX7_times 31 = .ok (.aaload, 1) := by decide +kernel
theorem dX7_times_32 : decode cX7_times 32 = .ok (.astore 4, 2) := by decide +kernel
theorem dX7_times_34 : decode cX7_times 34 = .ok (.aload 4, 2) := by decide +kernel
theorem dX7_times_36 : decode cX7_times 36 = .ok (.getfield 80, 3) := by decide +kernel
theorem dX7_times_39 : decode cX7_times 39 = .ok (.aload_n 0, 1) := by decide +kernel
theorem dX7_times_40 : decode cX7_times 40 = .ok (.getfield 18, 3) := by decide +kernel
theorem dX7_times_43 : decode cX7_times 43 = .ok (.iload_n 2, 1) := by decide +kernel
theorem dX7_times_44 : decode cX7_times 44 = .ok (.aaload, 1) := by decide +kernel
theorem dX7_times_45 : decode cX7_times 45 = .ok (.getfield 80, 3) := by decide +kernel
theorem dX7_times_48 : decode cX7_times 48 = .ok (.imul, 1) := by decide +kernel
theorem dX7_times_49 : decode cX7_times 49 = .ok (.iconst 4, 1) := by decide +kernel
theorem dX7_times_50 : decode cX7_times 50 = .ok (.if_icmp .le 6, 3) := by decide +kernel
theorem dX7_times_53 : decode cX7_times 53 = .ok (.bipush (-104), 2) := by decide +kernel
theorem dX7_times_55 : decode cX7_times 55 = .ok (.ireturn, 1) := by decide +kernel
theorem dX7_times_56 : decode cX7_times 56 = .ok (.aload_n 0, 1) := by decide +kernel
theorem dX7_times_57 : decode cX7_times 57 = .ok (.getfield 23, 3) := by decide +kernel
theorem dX7_times_60 : decode cX7_times 60 = .ok (.invokevirtual 168, 3) := by decide +kernel
theorem dX7_times_63 : decode cX7_times 63 = .ok (.iconst 0, 1) := by decide +kernel
theorem dX7_times_64 : decode cX7_times 64 = .ok (.istore 5, 2) := by decide +kernel
theorem dX7_times_66 : decode cX7_times 66 = .ok (.iload 5, 2) := by decide +kernel
theorem dX7_times_68 : decode cX7_times 68 = .ok (.aload 4, 2) := by decide +kernel
theorem dX7_times_70 : decode cX7_times 70 = .ok (.getfield 80, 3) := by decide +kernel
theorem dX7_times_73 : decode cX7_times 73 = .ok (.if_icmp .ge 29, 3) := by decide +kernel
theorem dX7_times_76 : decode cX7_times 76 = .ok (.aload_n 0, 1) := by decide +kernel
theorem dX7_times_77 : decode cX7_times 77 = .ok (.getfield 23, 3) := by decide +kernel
theorem dX7_times_80 : decode cX7_times 80 = .ok (.aload_n 0, 1) := by decide +kernel
theorem dX7_times_81 : decode cX7_times 81 = .ok (.getfield 18, 3) := by decide +kernel
theorem dX7_times_84 : decode cX7_times 84 = .ok (.iload_n 2, 1) := by decide +kernel
theorem dX7_times_85 : decode cX7_times 85 = .ok (.aaload, 1) := by decide +kernel
theorem dX7_times_86 : decode cX7_times 86 = .ok (.aload 4, 2) := by decide +kernel
theorem dX7_times_88 : decode cX7_times 88 = .ok (.iload 5, 2) := by decide +kernel
theorem dX7_times_90 : decode cX7_times 90 = .ok (.invokevirtual 112, 3) := by decide +kernel
theorem dX7_times_93 : decode cX7_times 93 = .ok (.invokevirtual 174, 3) := by decide +kernel
theorem dX7_times_96 : decode cX7_times 96 = .ok (.iinc 5 1, 3) := by decide +kernel
theorem dX7_times_99 : decode cX7_times 99 = .ok (.goto (-33), 3) := by decide +kernel
theorem dX7_times_102 : decode cX7_times 102 = .ok (.aload_n 0, 1) := by decide +kernel
theorem dX7_times_103 : decode cX7_times 103 = .ok (.iload_n 3, 1) := by decide +kernel
theorem dX7_times_104 : decode cX7_times 104 = .ok (.invokevirtual 76, 3) := by decide +kernel
theorem dX7_times_107 : decode cX7_times 107 = .ok (.aload_n 0, 1) := by decide +kernel
theorem dX7_times_108 : decode cX7_times 108 = .ok (.getfield 18, 3) := by decide +kernel
theorem dX7_times_111 : decode cX7_times 111 = .ok (.iload_n 3, 1) := by decide +kernel
theorem dX7_times_112 : decode cX7_times 112 = .ok (.aaload, 1) := by decide +kernel
theorem dX7_times_113 : decode cX7_times 113 = .ok (.getfield 80, 3) := by decide +kernel
theorem dX7_times_116 : decode cX7_times 116 = .ok (.ireturn, 1) := by decide +kernel
set_option maxHeartbeats 4000000 in
set_option maxRecDepth 100000 in
theorem c_X7_times (l : Launch) (E : fEv) (N : Nat) (a1 : Int32) (a2 : Int32) (a3 : Int32) (σ : fS) (r : Int32) (τ : fS) (hG : g_X7_times N a1 a2 a3 σ = some (r, τ)) : fM l E yX7_times (.code yX7_times cX7_times 6 (some .int)) rm_X7_times [.ref (E.2.1 0), .int a1, .int a2, .int a3] σ τ (some (.int r)) := by
  refine f_openI (by decide) (Nat.le_of_ble_eq_true rfl) ?_
  intro p e s m below meth c args Q F hR hP ls hl
  have hx := F.1.1
  have hb := F.1.2.1
  have hown := F.1.2.2.2.1
  have hts := F.1.2.2.2.2
  have hS : va_S (f_A E) s.heap s.heap [] := va_S.rf
  skip
  have hl : lv_has ls 6 [(0, .ref (E.2.1 0)), (1, .int a1), (2, .int a2), (3, .int a3)] := hl
  unfold g_X7_times at hG
  refine lv_aload_n hx hb dX7_times_0 rfl (lv_at hl 0 rfl) ?_
  refine lv_iload_n hx hb dX7_times_1 rfl (lv_at hl 1 rfl) ?_
  obtain ⟨r2, σ2, hC2, hG⟩ := f_bd hG
  refine iv_X7_115 F hS hP (c_X7_hasForm l E N a1 σ _ _ hC2) ⟨Nat.le_of_ble_eq_true rfl, Nat.le_of_ble_eq_true rfl⟩ hl.1 (Nat.le_of_ble_eq_true rfl) dX7_times_2 ⟨Nat.zero_le _, Nat.zero_le _⟩ (fun H locs hP hS => ?_)
  refine lv_if_eq (tgt := 23) hx hb dX7_times_5 (by decide) (fun c5 => ?_) (fun c5 => ?_)
  · have hG := f_ip c5 hG
    refine lv_bipush (v := -101) hx hb dX7_times_23 (by decide) ?_
    exact x_ri hR hS hP hG dX7_times_25
  · have hG := f_in c5 hG
    refine lv_aload_n hx hb dX7_times_8 rfl (lv_at hl 0 rfl) ?_
    refine lv_iload_n hx hb dX7_times_9 rfl (lv_at hl 2 rfl) ?_
    obtain ⟨r10, σ10, hC10, hG⟩ := f_bd hG
    refine iv_X7_115 F hS hP (c_X7_hasForm l E N a2 σ2 _ _ hC10) ⟨Nat.le_of_ble_eq_true rfl, Nat.le_of_ble_eq_true rfl⟩ hl.1 (Nat.le_of_ble_eq_true rfl) dX7_times_10 ⟨Nat.zero_le _, Nat.zero_le _⟩ (fun H locs hP hS => ?_)
    refine lv_if_eq (tgt := 23) hx hb dX7_times_13 (by decide) (fun c13 => ?_) (fun c13 => ?_)
    · have hG := f_ip c13 hG
      refine lv_bipush (v := -101) hx hb dX7_times_23 (by decide) ?_
      exact x_ri hR hS hP hG dX7_times_25
    · have hG := f_in c13 hG
      refine lv_iload_n hx hb dX7_times_16 rfl (lv_at hl 3 rfl) ?_
      obtain ⟨r17, σ17, hC17, hG⟩ := f_bd hG
      refine iv_X7_69 F hS hP (c_X7_isShelf l E N a3 σ10 _ _ hC17) ⟨Nat.le_of_ble_eq_true rfl, Nat.le_of_ble_eq_true rfl⟩ hl.1 (Nat.le_of_ble_eq_true rfl) dX7_times_17 ⟨Nat.zero_le _, Nat.zero_le _⟩ (fun H locs hP hS => ?_)
      refine lv_if_ne (tgt := 26) hx hb dX7_times_20 (by decide) (fun c20 => ?_) (fun c20 => ?_)
      · have hG := f_in c20 hG
        refine lv_aload_n hx hb dX7_times_26 rfl (lv_at hl 0 rfl) ?_
        refine gf_X7_18 F hP dX7_times_27 ?_
        refine lv_iload_n hx hb dX7_times_30 rfl (lv_at hl 1 rfl) ?_
        obtain ⟨h31, hG⟩ := f_gd hG
        have i31 := f_fin h31
        refine x_aald F hP rfl rfl i31 dX7_times_31 ?_
        refine lv_astore (lv' := [(4, .ref (E.2.1 (er 3 (a1).toNatClampNeg))), (0, .ref (E.2.1 0)), (1, .int a1), (2, .int a2), (3, .int a3)]) hx hb dX7_times_32 hl (by decide) rfl (fun ls hl => ?_)
        refine lv_aload hx hb dX7_times_34 (lv_at hl 0 rfl) ?_
        refine gf_X7_80 F hP (kd_s i31) dX7_times_36 ?_
        refine lv_aload_n hx hb dX7_times_39 rfl (lv_at hl 1 rfl) ?_
        refine gf_X7_18 F hP dX7_times_40 ?_
        refine lv_iload_n hx hb dX7_times_43 rfl (lv_at hl 3 rfl) ?_
        obtain ⟨h44, hG⟩ := f_gd hG
        have i44 := f_fin h44
        refine x_aald F hP rfl rfl i44 dX7_times_44 ?_
        refine gf_X7_80 F hP (kd_s i44) dX7_times_45 ?_
        refine lv_imul hx hb dX7_times_48 ?_
        refine lv_iconst (v := 4) hx hb dX7_times_49 (by decide) ?_
        refine lv_icmp_le (tgt := 56) hx hb dX7_times_50 (by decide) (fun c50 => ?_) (fun c50 => ?_)
        · have hG := f_ip c50 hG
          refine lv_aload_n hx hb dX7_times_56 rfl (lv_at hl 1 rfl) ?_
          refine gf_X7_23 F hP dX7_times_57 ?_
          obtain ⟨σ60, hC60, hG⟩ := f_bv hG
          refine iv_X7_168 F hS hP rfl (c_X0_empty l E N 4 rfl σ17 _ hC60) ⟨Nat.le_of_ble_eq_true rfl, Nat.le_of_ble_eq_true rfl⟩ hl.1 (Nat.le_of_ble_eq_true rfl) dX7_times_60 ⟨Nat.zero_le _, Nat.zero_le _⟩ (fun H locs hP hS => ?_)
          refine lv_iconst (v := 0) hx hb dX7_times_63 (by decide) ?_
          refine lv_istore (lv' := [(5, .int (0 : Int32)), (4, .ref (E.2.1 (er 3 (a1).toNatClampNeg))), (0, .ref (E.2.1 0)), (1, .int a1), (2, .int a2), (3, .int a3)]) hx hb dX7_times_64 hl (by decide) rfl (fun ls hl => ?_)
          obtain ⟨σl66, hT66, hG⟩ := f_bv hG
          have T66 : ∀ (H : Heap) (locs : List Loc) (ls : Array Slot), f_h E σl66 H → va_S (f_A E) s.heap H locs → lv_has ls 6 [(0, .ref (E.2.1 0)), (3, .int a3)] → W p l e rm_X7_times s m args below meth c H locs 0 0 Q (F0 m 102 ls []) := by
            intro H locs ls hP hS hl
            refine lv_aload_n hx hb dX7_times_102 rfl (lv_at hl 0 rfl) ?_
            refine lv_iload_n hx hb dX7_times_103 rfl (lv_at hl 1 rfl) ?_
            obtain ⟨σ104, hC104, hG⟩ := f_bv hG
            refine iv_X7_76 F hS hP (c_X7_shelveDraft l E N a3 σl66 _ hC104) ⟨Nat.le_of_ble_eq_true rfl, Nat.le_of_ble_eq_true rfl⟩ hl.1 (Nat.le_of_ble_eq_true rfl) dX7_times_104 ⟨Nat.zero_le _, Nat.zero_le _⟩ (fun H locs hP hS => ?_)
            refine lv_aload_n hx hb dX7_times_107 rfl (lv_at hl 0 rfl) ?_
            refine gf_X7_18 F hP dX7_times_108 ?_
            refine lv_iload_n hx hb dX7_times_111 rfl (lv_at hl 1 rfl) ?_
            obtain ⟨h112, hG⟩ := f_gd hG
            have i112 := f_fin h112
            refine x_aald F hP rfl rfl i112 dX7_times_112 ?_
            refine gf_X7_80 F hP (kd_s i112) dX7_times_113 ?_
            exact x_ri hR hS hP hG dX7_times_116
          have L66 : ∀ (n66 : Nat) (x66_5 : Int32) (σh66 : fS) (H : Heap) (locs : List Loc) (ls : Array Slot), f_h E σh66 H → va_S (f_A E) s.heap H locs → lv_has ls 6 [(0, .ref (E.2.1 0)), (2, .int a2), (3, .int a3), (4, .ref (E.2.1 (er 3 (a1).toNatClampNeg))), (5, .int x66_5)] → lp_X7_times_66 N a2 a3 (er 3 (a1).toNatClampNeg) n66 x66_5 σh66 = some σl66 → W p l e rm_X7_times s m args below meth c H locs 0 0 Q (F0 m 66 ls []) := by
            intro n66
            induction n66 with
            | zero =>
              intro x66_5 σh66 H locs ls hP hS hl hG
              rw [lp_X7_times_66] at hG
              cases hG
            | succ n66 ih66 =>
              intro x66_5 σh66 H locs ls hP hS hl hG
              rw [lp_X7_times_66] at hG
              refine lv_iload hx hb dX7_times_66 (lv_at hl 4 rfl) ?_
              refine lv_aload hx hb dX7_times_68 (lv_at hl 3 rfl) ?_
              refine gf_X7_80 F hP (kd_s i31) dX7_times_70 ?_
              refine lv_icmp_ge (tgt := 102) hx hb dX7_times_73 (by decide) (fun c73 => ?_) (fun c73 => ?_)
              · have hG := f_ip c73 hG
                cases hG
                exact T66 _ _ _ hP hS (lv_sub hl [0, 2] rfl)
              · have hG := f_in c73 hG
                refine lv_aload_n hx hb dX7_times_76 rfl (lv_at hl 0 rfl) ?_
                refine gf_X7_23 F hP dX7_times_77 ?_
                refine lv_aload_n hx hb dX7_times_80 rfl (lv_at hl 0 rfl) ?_
                refine gf_X7_18 F hP dX7_times_81 ?_
                refine lv_iload_n hx hb dX7_times_84 rfl (lv_at hl 1 rfl) ?_
                obtain ⟨h85, hG⟩ := f_gd hG
                have i85 := f_fin h85
                refine x_aald F hP rfl rfl i85 dX7_times_85 ?_
                refine lv_aload hx hb dX7_times_86 (lv_at hl 3 rfl) ?_
                refine lv_iload hx hb dX7_times_88 (lv_at hl 4 rfl) ?_
                obtain ⟨r90, σ90, hC90, hG⟩ := f_bd hG
                refine iv_X7_112 F hS hP (kd_s i31) (c_X0_kindAt l E N (er 3 (a1).toNatClampNeg) x66_5 (kd_s i31) σh66 _ _ hC90) ⟨Nat.le_of_ble_eq_true rfl, Nat.le_of_ble_eq_true rfl⟩ hl.1 (Nat.le_of_ble_eq_true rfl) dX7_times_90 ⟨Nat.zero_le _, Nat.zero_le _⟩ (fun H locs hP hS => ?_)
                obtain ⟨σ93, hC93, hG⟩ := f_bv hG
                refine iv_X7_174 F hS hP rfl (c_X0_addTimes l E N 4 (er 3 (a2).toNatClampNeg) r90 rfl (kd_s i85) σ90 _ hC93) ⟨Nat.le_of_ble_eq_true rfl, Nat.le_of_ble_eq_true rfl⟩ hl.1 (Nat.le_of_ble_eq_true rfl) dX7_times_93 ⟨Nat.zero_le _, Nat.zero_le _⟩ (fun H locs hP hS => ?_)
                refine lv_iinc (v := (x66_5 + (1 : Int32))) (lv' := [(5, .int (x66_5 + (1 : Int32))), (0, .ref (E.2.1 0)), (2, .int a2), (3, .int a3), (4, .ref (E.2.1 (er 3 (a1).toNatClampNeg)))]) hx hb dX7_times_96 hl (k := 4) rfl (by rfl) (by decide) rfl (fun ls hl => ?_)
                refine lv_goto (tgt := 66) hx hb dX7_times_99 (by decide) ?_
                exact ih66 (x66_5 + (1 : Int32)) σ93 _ _ _ hP hS (lv_sub hl [1, 2, 3, 4, 0] rfl) hG
          exact L66 N (0 : Int32) σ60 _ _ _ hP hS (lv_sub hl [2, 4, 5, 1, 0] rfl) hT66
        · have hG := f_in c50 hG
          refine lv_bipush (v := -104) hx hb dX7_times_53 (by decide) ?_
          exact x_ri hR hS hP hG dX7_times_55
      · have hG := f_ip c20 hG
        refine lv_bipush (v := -101) hx hb dX7_times_23 (by decide) ?_
        exact x_ri hR hS hP hG dX7_times_25
theorem dX7_scale_0 : decode cX7_scale 0 = .ok (.aload_n 0, 1) := by decide +kernel
theorem dX7_scale_1 : decode cX7_scale 1 = .ok (.iload_n 1, 1) := by decide +kernel
theorem dX7_scale_2 : decode cX7_scale 2 = .ok (.invokevirtual 115, 3) := by decide +kernel
theorem dX7_scale_5 : decode cX7_scale 5 = .ok (.ifCond .ne 6, 3) := by decide +kernel
theorem dX7_scale_8 : decode cX7_scale 8 = .ok (.bipush (-101), 2) := by decide +kernel
theorem dX7_scale_10 : decode cX7_scale 10 = .ok (.ireturn, 1) := by decide +kernel
theorem dX7_scale_11 : decode cX7_scale 11 = .ok (.iload_n 2, 1) := by decide +kernel
theorem dX7_scale_12 : decode cX7_scale 12 = .ok (.invokestatic 83, 3) := by decide +kernel
theorem dX7_scale_15 : decode cX7_scale 15 = .ok (.ifCond .ne 6, 3) := by decide +kernel
theorem dX7_scale_18 : decode cX7_scale 18 = .ok (.bipush (-102), 2) := by decide +kernel
theorem dX7_scale_20 : decode cX7_scale 20 = .ok (.ireturn, 1) := by decide +kernel
theorem dX7_scale_21 : decode cX7_scale 21 = .ok (.aload_n 0, 1) := by decide +kernel
theorem dX7_scale_22 : decode cX7_scale 22 = .ok (.getfield 23, 3) := by decide +kernel
theorem dX7_scale_25 : decode cX7_scale 25 = .ok (.invokevirtual 168, 3) := by decide +kernel
theorem dX7_scale_28 : decode cX7_scale 28 = .ok (.aload_n 0, 1) := by decide +kernel
theorem dX7_scale_29 : decode cX7_scale 29 = .ok (.getfield 23, 3) := by decide +kernel
theorem dX7_scale_32 : decode cX7_scale 32 = .ok (.aload_n 0, 1) := by decide +kernel
theorem dX7_scale_33 : decode cX7_scale 33 = .ok (.getfield 18, 3) := by decide +kernel
theorem dX7_scale_36 : decode cX7_scale 36 = .ok (.iload_n 1, 1) := by decide +kernel
theorem dX7_scale_37 : decode cX7_scale 37 = .ok (.aaload, 1) := by decide +kernel
theorem dX7_scale_38 : decode cX7_scale 38 = .ok (.iload_n 2, 1) := by decide +kernel
theorem dX7_scale_39 : decode cX7_scale 39 = .ok (.invokestatic 88, 3) := by decide +kernel
theorem dX7_scale_42 : decode cX7_scale 42 = .ok (.invokevirtual 174, 3) := by decide +kernel
theorem dX7_scale_45 : decode cX7_scale 45 = .ok (.aload_n 0, 1) := by decide +kernel
theorem dX7_scale_46 : decode cX7_scale 46 = .ok (.iload_n 1, 1) := by decide +kernel
theorem dX7_scale_47 : decode cX7_scale 47 = .ok (.invokevirtual 76, 3) := by decide +kernel
theorem dX7_scale_50 : decode cX7_scale 50 = .ok (.aload_n 0, 1) := by decide +kernel
theorem dX7_scale_51 : decode cX7_scale 51 = .ok (.getfield 18, 3) := by decide +kernel
theorem dX7_scale_54 : decode cX7_scale 54 = .ok (.iload_n 1, 1) := by decide +kernel
theorem dX7_scale_55 : decode cX7_scale 55 = .ok (.aaload, 1) := by decide +kernel
theorem dX7_scale_56 : decode cX7_scale 56 = .ok (.invokevirtual 122, 3) := by decide +kernel
theorem dX7_scale_59 : decode cX7_scale 59 = .ok (.ireturn, 1) := by decide +kernel
set_option maxHeartbeats 4000000 in
set_option maxRecDepth 100000 in
theorem c_X7_scale (l : Launch) (E : fEv) (N : Nat) (a1 : Int32) (a2 : Int32) (σ : fS) (r : Int32) (τ : fS) (hG : g_X7_scale N a1 a2 σ = some (r, τ)) : fM l E yX7_scale (.code yX7_scale cX7_scale 3 (some .int)) rm_X7_scale [.ref (E.2.1 0), .int a1, .int a2] σ τ (some (.int r)) := by
  refine f_openI (by decide) (Nat.le_of_ble_eq_true rfl) ?_
  intro p e s m below meth c args Q F hR hP ls hl
  have hx := F.1.1
  have hb := F.1.2.1
  have hown := F.1.2.2.2.1
  have hts := F.1.2.2.2.2
  have hS : va_S (f_A E) s.heap s.heap [] := va_S.rf
  skip
  have hl : lv_has ls 3 [(0, .ref (E.2.1 0)), (1, .int a1), (2, .int a2)] := hl
  unfold g_X7_scale at hG
  refine lv_aload_n hx hb dX7_scale_0 rfl (lv_at hl 0 rfl) ?_
  refine lv_iload_n hx hb dX7_scale_1 rfl (lv_at hl 1 rfl) ?_
  obtain ⟨r2, σ2, hC2, hG⟩ := f_bd hG
  refine iv_X7_115 F hS hP (c_X7_hasForm l E N a1 σ _ _ hC2) ⟨Nat.le_of_ble_eq_true rfl, Nat.le_of_ble_eq_true rfl⟩ hl.1 (Nat.le_of_ble_eq_true rfl) dX7_scale_2 ⟨Nat.zero_le _, Nat.zero_le _⟩ (fun H locs hP hS => ?_)
  refine lv_if_ne (tgt := 11) hx hb dX7_scale_5 (by decide) (fun c5 => ?_) (fun c5 => ?_)
  · have hG := f_in c5 hG
    refine lv_iload_n hx hb dX7_scale_11 rfl (lv_at hl 2 rfl) ?_
    obtain ⟨r12, σ12, hC12, hG⟩ := f_bd hG
    refine iv_X7_83 F hS hP (c_X2_isNumber l E N a2 σ2 _ _ hC12) ⟨Nat.le_of_ble_eq_true rfl, Nat.le_of_ble_eq_true rfl⟩ hl.1 (Nat.le_of_ble_eq_true rfl) dX7_scale_12 ⟨Nat.zero_le _, Nat.zero_le _⟩ (fun H locs hP hS => ?_)
    refine lv_if_ne (tgt := 21) hx hb dX7_scale_15 (by decide) (fun c15 => ?_) (fun c15 => ?_)
    · have hG := f_in c15 hG
      refine lv_aload_n hx hb dX7_scale_21 rfl (lv_at hl 0 rfl) ?_
      refine gf_X7_23 F hP dX7_scale_22 ?_
      obtain ⟨σ25, hC25, hG⟩ := f_bv hG
      refine iv_X7_168 F hS hP rfl (c_X0_empty l E N 4 rfl σ12 _ hC25) ⟨Nat.le_of_ble_eq_true rfl, Nat.le_of_ble_eq_true rfl⟩ hl.1 (Nat.le_of_ble_eq_true rfl) dX7_scale_25 ⟨Nat.zero_le _, Nat.zero_le _⟩ (fun H locs hP hS => ?_)
      refine lv_aload_n hx hb dX7_scale_28 rfl (lv_at hl 0 rfl) ?_
      refine gf_X7_23 F hP dX7_scale_29 ?_
      refine lv_aload_n hx hb dX7_scale_32 rfl (lv_at hl 0 rfl) ?_
      refine gf_X7_18 F hP dX7_scale_33 ?_
      refine lv_iload_n hx hb dX7_scale_36 rfl (lv_at hl 1 rfl) ?_
      obtain ⟨h37, hG⟩ := f_gd hG
      have i37 := f_fin h37
      refine x_aald F hP rfl rfl i37 dX7_scale_37 ?_
      refine lv_iload_n hx hb dX7_scale_38 rfl (lv_at hl 2 rfl) ?_
      obtain ⟨r39, σ39, hC39, hG⟩ := f_bd hG
      refine iv_X7_88 F hS hP (c_X2_kindOf l E N a2 σ25 _ _ hC39) ⟨Nat.le_of_ble_eq_true rfl, Nat.le_of_ble_eq_true rfl⟩ hl.1 (Nat.le_of_ble_eq_true rfl) dX7_scale_39 ⟨Nat.zero_le _, Nat.zero_le _⟩ (fun H locs hP hS => ?_)
      obtain ⟨σ42, hC42, hG⟩ := f_bv hG
      refine iv_X7_174 F hS hP rfl (c_X0_addTimes l E N 4 (er 3 (a1).toNatClampNeg) r39 rfl (kd_s i37) σ39 _ hC42) ⟨Nat.le_of_ble_eq_true rfl, Nat.le_of_ble_eq_true rfl⟩ hl.1 (Nat.le_of_ble_eq_true rfl) dX7_scale_42 ⟨Nat.zero_le _, Nat.zero_le _⟩ (fun H locs hP hS => ?_)
      refine lv_aload_n hx hb dX7_scale_45 rfl (lv_at hl 0 rfl) ?_
      refine lv_iload_n hx hb dX7_scale_46 rfl (lv_at hl 1 rfl) ?_
      obtain ⟨σ47, hC47, hG⟩ := f_bv hG
      refine iv_X7_76 F hS hP (c_X7_shelveDraft l E N a1 σ42 _ hC47) ⟨Nat.le_of_ble_eq_true rfl, Nat.le_of_ble_eq_true rfl⟩ hl.1 (Nat.le_of_ble_eq_true rfl) dX7_scale_47 ⟨Nat.zero_le _, Nat.zero_le _⟩ (fun H locs hP hS => ?_)
      refine lv_aload_n hx hb dX7_scale_50 rfl (lv_at hl 0 rfl) ?_
      refine gf_X7_18 F hP dX7_scale_51 ?_
      refine lv_iload_n hx hb dX7_scale_54 rfl (lv_at hl 1 rfl) ?_
      obtain ⟨h55, hG⟩ := f_gd hG
      have i55 := f_fin h55
      refine x_aald F hP rfl rfl i55 dX7_scale_55 ?_
      obtain ⟨r56, σ56, hC56, hG⟩ := f_bd hG
      refine iv_X7_122 F hS hP (kd_s i55) (c_X0_det l E N (er 3 (a1).toNatClampNeg) (kd_s i55) σ47 _ _ hC56) ⟨Nat.le_of_ble_eq_true rfl, Nat.le_of_ble_eq_true rfl⟩ hl.1 (Nat.le_of_ble_eq_true rfl) dX7_scale_56 ⟨Nat.zero_le _, Nat.zero_le _⟩ (fun H locs hP hS => ?_)
      exact x_ri hR hS hP hG dX7_scale_59
    · have hG := f_ip c15 hG
      refine lv_bipush (v := -102) hx hb dX7_scale_18 (by decide) ?_
      exact x_ri hR hS hP hG dX7_scale_20
  · have hG := f_ip c5 hG
    refine lv_bipush (v := -101) hx hb dX7_scale_8 (by decide) ?_
    exact x_ri hR hS hP hG dX7_scale_10
theorem dX7_turn_0 : decode cX7_turn 0 = .ok (.aload_n 0, 1) := by decide +kernel
theorem dX7_turn_1 : decode cX7_turn 1 = .ok (.iload_n 1, 1) := by decide +kernel
theorem dX7_turn_2 : decode cX7_turn 2 = .ok (.iload_n 2, 1) := by decide +kernel
theorem dX7_turn_3 : decode cX7_turn 3 = .ok (.invokevirtual 108, 3) := by decide +kernel
theorem dX7_turn_6 : decode cX7_turn 6 = .ok (.ifCond .eq 12, 3) := by decide +kernel
theorem dX7_turn_9 : decode cX7_turn 9 = .ok (.aload_n 0, 1) := by decide +kernel
theorem dX7_turn_10 : decode cX7_turn 10 = .ok (.iload_n 1, 1) := by decide +kernel
theorem dX7_turn_11 : decode cX7_turn 11 = .ok (.iload_n 3, 1) := by decide +kernel
theorem dX7_turn_12 : decode cX7_turn 12 = .ok (.invokevirtual 108, 3) := by decide +kernel
theorem dX7_turn_15 : decode cX7_turn 15 = .ok (.ifCond .ne 6, 3) := by decide +kernel
theorem dX7_turn_18 : decode cX7_turn 18 = .ok (.bipush (-101), 2) := by decide +kernel
theorem dX7_turn_20 : decode cX7_turn 20 = .ok (.ireturn, 1) := by decide +kernel
theorem dX7_turn_21 : decode cX7_turn 21 = .ok (.iload 4, 2) := by decide +kernel
theorem dX7_turn_23 : decode cX7_turn 23 = .ok (.ifCond .lt 22, 3) := by decide +kernel
theorem dX7_turn_26 : decode cX7_turn 26 = .ok (.iload 4, 2) := by decide +kernel
theorem dX7_turn_28 : decode cX7_turn 28 = .ok (.bipush 15, 2) := by decide +kernel
theorem dX7_turn_30 : decode cX7_turn 30 = .ok (.if_icmp .gt 15, 3) := by decide +kernel
theorem dX7_turn_33 : decode cX7_turn 33 = .ok (.iload 5, 2) := by decide +kernel
theorem dX7_turn_35 : decode cX7_turn 35 = .ok (.ifCond .lt 10, 3) := by decide +kernel
theorem dX7_turn_38 : decode cX7_turn 38 = .ok (.iload 5, 2) := by decide +kernel
theorem dX7_turn_40 : decode cX7_turn 40 = .ok (.bipush 15, 2) := by decide +kernel
theorem dX7_turn_42 : decode cX7_turn 42 = .ok (.if_icmp .le 6, 3) := by decide +kernel
theorem dX7_turn_45 : decode cX7_turn 45 = .ok (.bipush (-102), 2) := by decide +kernel
theorem dX7_turn_47 : decode cX7_turn 47 = .ok (.ireturn, 1) := by decide +kernel
theorem dX7_turn_48 : decode cX7_turn 48 = .ok (.aload_n 0, 1) := by decide +kernel
theorem dX7_turn_49 : decode cX7_turn 49 = .ok (.getfield 18, 3) := by decide +kernel
theorem dX7_turn_52 : decode cX7_turn 52 = .ok (.iload_n 1, 1) := by decide +kernel
theorem dX7_turn_53 : decode cX7_turn 53 = .ok (.aaload, 1) := by decide +kernel
theorem dX7_turn_54 : decode cX7_turn 54 = .ok (.iload_n 2, 1) := by decide +kernel
theorem dX7_turn_55 : decode cX7_turn 55 = .ok (.invokevirtual 112, 3) := by decide +kernel
theorem dX7_turn_58 : decode cX7_turn 58 = .ok (.istore 6, 2) := by decide +kernel
theorem dX7_turn_60 : decode cX7_turn 60 = .ok (.aload_n 0, 1) := by decide +kernel
theorem dX7_turn_61 : decode cX7_turn 61 = .ok (.getfield 18, 3) := by decide +kernel
theorem dX7_turn_64 : decode cX7_turn 64 = .ok (.iload_n 1, 1) := by decide +kernel
theorem dX7_turn_65 : decode cX7_turn 65 = .ok (.aaload, 1) := by decide +kernel
theorem dX7_turn_66 : decode cX7_turn 66 = .ok (.iload_n 3, 1) := by decide +kernel
theorem dX7_turn_67 : decode cX7_turn 67 = .ok (.invokevirtual 112, 3) := by decide +kernel
theorem dX7_turn_70 : decode cX7_turn 70 = .ok (.istore 7, 2) := by decide +kernel
theorem dX7_turn_72 : decode cX7_turn 72 = .ok (.iload 6, 2) := by decide +kernel
theorem dX7_turn_74 : decode cX7_turn 74 = .ok (.invokestatic 95, 3) := by decide +kernel
theorem dX7_turn_77 : decode cX7_turn 77 = .ok (.iload 4, 2) := by decide +kernel
theorem dX7_turn_79 : decode cX7_turn 79 = .ok (.imul, 1) := by decide +kernel
theorem dX7_turn_80 : decode cX7_turn 80 = .ok (.iload 4, 2) := by decide +kernel
theorem dX7_turn_82 : decode cX7_turn 82 = .ok (.imul, 1) := by decide +kernel
theorem dX7_turn_83 : decode cX7_turn 83 = .ok (.iload 7, 2) := by decide +kernel
theorem dX7_turn_85 : decode cX7_turn 85 = .ok (.invokestatic 95, 3) := by decide +kernel
theorem dX7_turn_88 : decode cX7_turn 88 = .ok (.iload 5, 2) := by decide +kernel
theorem dX7_turn_90 : decode cX7_turn 90 = .ok (.imul, 1) := by decide +kernel
theorem dX7_turn_91 : decode cX7_turn 91 = .ok (.iload 5, 2) := by decide +kernel
theorem dX7_turn_93 : decode cX7_turn 93 = .ok (.imul, 1) := by decide +kernel
theorem dX7_turn_94 : decode cX7_turn 94 = .ok (.iadd, 1) := by decide +kernel
theorem dX7_turn_95 : decode cX7_turn 95 = .ok (.istore 8, 2) := by decide +kernel
theorem dX7_turn_97 : decode cX7_turn 97 = .ok (.iload_n 2, 1) := by decide +kernel
theorem dX7_turn_98 : decode cX7_turn 98 = .ok (.iload_n 3, 1) := by decide +kernel
theorem dX7_turn_99 : decode cX7_turn 99 = .ok (.if_icmp .eq 16, 3) := by decide +kernel
theorem dX7_turn_102 : decode cX7_turn 102 = .ok (.iload 8, 2) := by decide +kernel
theorem dX7_turn_104 : decode cX7_turn 104 = .ok (.ifCond .eq 11, 3) := by decide +kernel
theorem dX7_turn_107 : decode cX7_turn 107 = .ok (.iload 8, 2) := by decide +kernel
theorem dX7_turn_109 : decode cX7_turn 109 = .ok (.invokestatic 177, 3) := by decide +kernel
theorem dX7_turn_112 : decode cX7_turn 112 = .ok (.ifCond .ne 6, 3) := by decide +kernel
theorem dX7_turn_115 : decode cX7_turn 115 = .ok (.bipush (-103), 2) := by decide +kernel
theorem dX7_turn_117 : decode cX7_turn 117 = .ok (.ireturn, 1) := by decide +kernel
theorem dX7_turn_118 : decode cX7_turn 118 = .ok (.iload 8, 2) := by decide +kernel
theorem dX7_turn_120 : decode cX7_turn 120 = .ok (.invokestatic 88, 3) := by decide +kernel
theorem dX7_turn_123 : decode cX7_turn 123 = .ok (.istore 9, 2) := by decide +kernel
theorem dX7_turn_125 : decode cX7_turn 125 = .ok (.aload_n 0, 1) := by decide +kernel
theorem dX7_turn_126 : decode cX7_turn 126 = .ok (.getfield 23, 3) := by decide +kernel
theorem dX7_turn_129 : decode cX7_turn 129 = .ok (.aload_n 0, 1) := by decide +kernel
theorem dX7_turn_130 : decode cX7_turn 130 = .ok (.getfield 18, 3) := by decide +kernel
theorem dX7_turn_133 : decode cX7_turn 133 = .ok (.iload_n 1, 1) := by decide +kernel
theorem dX7_turn_134 : decode cX7_turn 134 = .ok (.aaload, 1) := by decide +kernel
theorem dX7_turn_135 : decode cX7_turn 135 = .ok (.invokevirtual 171, 3) := by decide +kernel
theorem dX7_turn_138 : decode cX7_turn 138 = .ok (.aload_n 0, 1) := by decide +kernel
theorem dX7_turn_139 : decode cX7_turn 139 = .ok (.getfield 23, 3) := by decide +kernel
theorem dX7_turn_142 : decode cX7_turn 142 = .ok (.iload_n 2, 1) := by decide +kernel
theorem dX7_turn_143 : decode cX7_turn 143 = .ok (.iload 9, 2) := by decide +kernel
theorem dX7_turn_145 : decode cX7_turn 145 = .ok (.invokevirtual 180, 3) := by decide +kernel
theorem dX7_turn_148 : decode cX7_turn 148 = .ok (.aload_n 0, 1) := by decide +kernel
theorem dX7_turn_149 : decode cX7_turn 149 = .ok (.getfield 23, 3) := by decide +kernel
theorem dX7_turn_152 : decode cX7_turn 152 = .ok (.iload_n 3, 1) := by decide +kernel
theorem dX7_turn_153 : decode cX7_turn 153 = .ok (.iload 6, 2) := by decide +kernel
theorem dX7_turn_155 : decode cX7_turn 155 = .ok (.iload 7, 2) := by decide +kernel
theorem dX7_turn_157 : decode cX7_turn 157 = .ok (.ixor, 1) := by decide +kernel
theorem dX7_turn_158 : decode cX7_turn 158 = .ok (.iload 9, 2) := by decide +kernel
theorem dX7_turn_160 : decode cX7_turn 160 = .ok (.ixor, 1) := by decide +kernel
theorem dX7_turn_161 : decode cX7_turn 161 = .ok (.invokevirtual 180, 3) := by decide +kernel
theorem dX7_turn_164 : decode cX7_turn 164 = .ok (.aload_n 0, 1) := by decide +kernel
theorem dX7_turn_165 : decode cX7_turn 165 = .ok (.iload_n 1, 1) := by decide +kernel
theorem dX7_turn_166 : decode cX7_turn 166 = .ok (.invokevirtual 76, 3) := by decide +kernel
theorem dX7_turn_169 : decode cX7_turn 169 = .ok (.iload 9, 2) := by decide +kernel
theorem dX7_turn_171 : decode cX7_turn 171 = .ok (.invokestatic 95, 3) := by decide +kernel
theorem dX7_turn_174 : decode cX7_turn 174 = .ok (.ireturn, 1) := by decide +kernel
set_option maxHeartbeats 4000000 in
set_option maxRecDepth 100000 in
theorem c_X7_turn (l : Launch) (E : fEv) (N : Nat) (a1 : Int32) (a2 : Int32) (a3 : Int32) (a4 : Int32) (a5 : Int32) (σ : fS) (r : Int32) (τ : fS) (hG : g_X7_turn N a1 a2 a3 a4 a5 σ = some (r, τ)) : fM l E yX7_turn (.code yX7_turn cX7_turn 10 (some .int)) rm_X7_turn [.ref (E.2.1 0), .int a1, .int a2, .int a3, .int a4, .int a5] σ τ (some (.int r)) := by
  refine f_openI (by decide) (Nat.le_of_ble_eq_true rfl) ?_
  intro p e s m below meth c args Q F hR hP ls hl
  have hx := F.1.1
  have hb := F.1.2.1
  have hown := F.1.2.2.2.1
  have hts := F.1.2.2.2.2
  have hS : va_S (f_A E) s.heap s.heap [] := va_S.rf
  skip
  have hl : lv_has ls 10 [(0, .ref (E.2.1 0)), (1, .int a1), (2, .int a2), (3, .int a3), (4, .int a4), (5, .int a5)] := hl
  unfold g_X7_turn at hG
  refine lv_aload_n hx hb dX7_turn_0 rfl (lv_at hl 0 rfl) ?_
  refine lv_iload_n hx hb dX7_turn_1 rfl (lv_at hl 1 rfl) ?_
  refine lv_iload_n hx hb dX7_turn_2 rfl (lv_at hl 2 rfl) ?_
  obtain ⟨r3, σ3, hC3, hG⟩ := f_bd hG
  refine iv_X7_108 F hS hP (c_X7_hasTerm l E N a1 a2 σ _ _ hC3) ⟨Nat.le_of_ble_eq_true rfl, Nat.le_of_ble_eq_true rfl⟩ hl.1 (Nat.le_of_ble_eq_true rfl) dX7_turn_3 ⟨Nat.zero_le _, Nat.zero_le _⟩ (fun H locs hP hS => ?_)
  refine lv_if_eq (tgt := 18) hx hb dX7_turn_6 (by decide) (fun c6 => ?_) (fun c6 => ?_)
  · have hG := f_ip c6 hG
    refine lv_bipush (v := -101) hx hb dX7_turn_18 (by decide) ?_
    exact x_ri hR hS hP hG dX7_turn_20
  · have hG := f_in c6 hG
    refine lv_aload_n hx hb dX7_turn_9 rfl (lv_at hl 0 rfl) ?_
    refine lv_iload_n hx hb dX7_turn_10 rfl (lv_at hl 1 rfl) ?_
    refine lv_iload_n hx hb dX7_turn_11 rfl (lv_at hl 3 rfl) ?_
    obtain ⟨r12, σ12, hC12, hG⟩ := f_bd hG
    refine iv_X7_108 F hS hP (c_X7_hasTerm l E N a1 a3 σ3 _ _ hC12) ⟨Nat.le_of_ble_eq_true rfl, Nat.le_of_ble_eq_true rfl⟩ hl.1 (Nat.le_of_ble_eq_true rfl) dX7_turn_12 ⟨Nat.zero_le _, Nat.zero_le _⟩ (fun H locs hP hS => ?_)
    refine lv_if_ne (tgt := 21) hx hb dX7_turn_15 (by decide) (fun c15 => ?_) (fun c15 => ?_)
    · have hG := f_in c15 hG
      refine lv_iload hx hb dX7_turn_21 (lv_at hl 4 rfl) ?_
      refine lv_if_lt (tgt := 45) hx hb dX7_turn_23 (by decide) (fun c23 => ?_) (fun c23 => ?_)
      · have hG := f_ip c23 hG
        refine lv_bipush (v := -102) hx hb dX7_turn_45 (by decide) ?_
        exact x_ri hR hS hP hG dX7_turn_47
      · have hG := f_in c23 hG
        refine lv_iload hx hb dX7_turn_26 (lv_at hl 4 rfl) ?_
        refine lv_bipush (v := 15) hx hb dX7_turn_28 (by decide) ?_
        refine lv_icmp_gt (tgt := 45) hx hb dX7_turn_30 (by decide) (fun c30 => ?_) (fun c30 => ?_)
        · have hG := f_ip c30 hG
          refine lv_bipush (v := -102) hx hb dX7_turn_45 (by decide) ?_
          exact x_ri hR hS hP hG dX7_turn_47
        · have hG := f_in c30 hG
          refine lv_iload hx hb dX7_turn_33 (lv_at hl 5 rfl) ?_
          refine lv_if_lt (tgt := 45) hx hb dX7_turn_35 (by decide) (fun c35 => ?_) (fun c35 => ?_)
          · have hG := f_ip c35 hG
            refine lv_bipush (v := -102) hx hb dX7_turn_45 (by decide) ?_
            exact x_ri hR hS hP hG dX7_turn_47
          · have hG := f_in c35 hG
            refine lv_iload hx hb dX7_turn_38 (lv_at hl 5 rfl) ?_
            refine lv_bipush (v := 15) hx hb dX7_turn_40 (by decide) ?_
            refine lv_icmp_le (tgt := 48) hx hb dX7_turn_42 (by decide) (fun c42 => ?_) (fun c42 => ?_)
            · have hG := f_ip c42 hG
              refine lv_aload_n hx hb dX7_turn_48 rfl (lv_at hl 0 rfl) ?_
              refine gf_X7_18 F hP dX7_turn_49 ?_
              refine lv_iload_n hx hb dX7_turn_52 rfl (lv_at hl 1 rfl) ?_
              obtain ⟨h53, hG⟩ := f_gd hG
              have i53 := f_fin h53
              refine x_aald F hP rfl rfl i53 dX7_turn_53 ?_
              refine lv_iload_n hx hb dX7_turn_54 rfl (lv_at hl 2 rfl) ?_
              obtain ⟨r55, σ55, hC55, hG⟩ := f_bd hG
              refine iv_X7_112 F hS hP (kd_s i53) (c_X0_kindAt l E N (er 3 (a1).toNatClampNeg) a2 (kd_s i53) σ12 _ _ hC55) ⟨Nat.le_of_ble_eq_true rfl, Nat.le_of_ble_eq_true rfl⟩ hl.1 (Nat.le_of_ble_eq_true rfl) dX7_turn_55 ⟨Nat.zero_le _, Nat.zero_le _⟩ (fun H locs hP hS => ?_)
              refine lv_istore (lv' := [(6, .int r55), (0, .ref (E.2.1 0)), (1, .int a1), (2, .int a2), (3, .int a3), (4, .int a4), (5, .int a5)]) hx hb dX7_turn_58 hl (by decide) rfl (fun ls hl => ?_)
              refine lv_aload_n hx hb dX7_turn_60 rfl (lv_at hl 1 rfl) ?_
              refine gf_X7_18 F hP dX7_turn_61 ?_
              refine lv_iload_n hx hb dX7_turn_64 rfl (lv_at hl 2 rfl) ?_
              obtain ⟨h65, hG⟩ := f_gd hG
              have i65 := f_fin h65
              refine x_aald F hP rfl rfl i65 dX7_turn_65 ?_
              refine lv_iload_n hx hb dX7_turn_66 rfl (lv_at hl 4 rfl) ?_
              obtain ⟨r67, σ67, hC67, hG⟩ := f_bd hG
              refine iv_X7_112 F hS hP (kd_s i65) (c_X0_kindAt l E N (er 3 (a1).toNatClampNeg) a3 (kd_s i65) σ55 _ _ hC67) ⟨Nat.le_of_ble_eq_true rfl, Nat.le_of_ble_eq_true rfl⟩ hl.1 (Nat.le_of_ble_eq_true rfl) dX7_turn_67 ⟨Nat.zero_le _, Nat.zero_le _⟩ (fun H locs hP hS => ?_)
              refine lv_istore (lv' := [(7, .int r67), (6, .int r55), (0, .ref (E.2.1 0)), (1, .int a1), (2, .int a2), (3, .int a3), (4, .int a4), (5, .int a5)]) hx hb dX7_turn_70 hl (by decide) rfl (fun ls hl => ?_)
              refine lv_iload hx hb dX7_turn_72 (lv_at hl 1 rfl) ?_
              obtain ⟨r74, σ74, hC74, hG⟩ := f_bd hG
              refine iv_X7_95 F hS hP (c_X2_coreOf l E N r55 σ67 _ _ hC74) ⟨Nat.le_of_ble_eq_true rfl, Nat.le_of_ble_eq_true rfl⟩ hl.1 (Nat.le_of_ble_eq_true rfl) dX7_turn_74 ⟨Nat.zero_le _, Nat.zero_le _⟩ (fun H locs hP hS => ?_)
              refine lv_iload hx hb dX7_turn_77 (lv_at hl 6 rfl) ?_
              refine lv_imul hx hb dX7_turn_79 ?_
              refine lv_iload hx hb dX7_turn_80 (lv_at hl 6 rfl) ?_
              refine lv_imul hx hb dX7_turn_82 ?_
              refine lv_iload hx hb dX7_turn_83 (lv_at hl 0 rfl) ?_
              obtain ⟨r85, σ85, hC85, hG⟩ := f_bd hG
              refine iv_X7_95 F hS hP (c_X2_coreOf l E N r67 σ74 _ _ hC85) ⟨Nat.le_of_ble_eq_true rfl, Nat.le_of_ble_eq_true rfl⟩ hl.1 (Nat.le_of_ble_eq_true rfl) dX7_turn_85 ⟨Nat.zero_le _, Nat.zero_le _⟩ (fun H locs hP hS => ?_)
              refine lv_iload hx hb dX7_turn_88 (lv_at hl 7 rfl) ?_
              refine lv_imul hx hb dX7_turn_90 ?_
              refine lv_iload hx hb dX7_turn_91 (lv_at hl 7 rfl) ?_
              refine lv_imul hx hb dX7_turn_93 ?_
              refine lv_iadd hx hb dX7_turn_94 ?_
              refine lv_topi (fun v95 e95 => ?_)
              have hG := f_lt hG e95
              refine lv_istore (lv' := [(8, .int v95), (7, .int r67), (6, .int r55), (0, .ref (E.2.1 0)), (1, .int a1), (2, .int a2), (3, .int a3), (4, .int a4), (5, .int a5)]) hx hb dX7_turn_95 hl (by decide) rfl (fun ls hl => ?_)
              refine lv_iload_n hx hb dX7_turn_97 rfl (lv_at hl 5 rfl) ?_
              refine lv_iload_n hx hb dX7_turn_98 rfl (lv_at hl 6 rfl) ?_
              refine lv_icmp_eq (tgt := 115) hx hb dX7_turn_99 (by decide) (fun c99 => ?_) (fun c99 => ?_)
              · have hG := f_ip c99 hG
                refine lv_bipush (v := -103) hx hb dX7_turn_115 (by decide) ?_
                exact x_ri hR hS hP hG dX7_turn_117
              · have hG := f_in c99 hG
                refine lv_iload hx hb dX7_turn_102 (lv_at hl 0 rfl) ?_
                refine lv_if_eq (tgt := 115) hx hb dX7_turn_104 (by decide) (fun c104 => ?_) (fun c104 => ?_)
                · have hG := f_ip c104 hG
                  refine lv_bipush (v := -103) hx hb dX7_turn_115 (by decide) ?_
                  exact x_ri hR hS hP hG dX7_turn_117
                · have hG := f_in c104 hG
                  refine lv_iload hx hb dX7_turn_107 (lv_at hl 0 rfl) ?_
                  obtain ⟨r109, σ109, hC109, hG⟩ := f_bd hG
                  refine iv_X7_177 F hS hP (c_X2_isSquareTimesCore l E N v95 σ85 _ _ hC109) ⟨Nat.le_of_ble_eq_true rfl, Nat.le_of_ble_eq_true rfl⟩ hl.1 (Nat.le_of_ble_eq_true rfl) dX7_turn_109 ⟨Nat.zero_le _, Nat.zero_le _⟩ (fun H locs hP hS => ?_)
                  refine lv_if_ne (tgt := 118) hx hb dX7_turn_112 (by decide) (fun c112 => ?_) (fun c112 => ?_)
                  · have hG := f_in c112 hG
                    refine lv_iload hx hb dX7_turn_118 (lv_at hl 0 rfl) ?_
                    obtain ⟨r120, σ120, hC120, hG⟩ := f_bd hG
                    refine iv_X7_88 F hS hP (c_X2_kindOf l E N v95 σ109 _ _ hC120) ⟨Nat.le_of_ble_eq_true rfl, Nat.le_of_ble_eq_true rfl⟩ hl.1 (Nat.le_of_ble_eq_true rfl) dX7_turn_120 ⟨Nat.zero_le _, Nat.zero_le _⟩ (fun H locs hP hS => ?_)
                    refine lv_istore (lv' := [(9, .int r120), (8, .int v95), (7, .int r67), (6, .int r55), (0, .ref (E.2.1 0)), (1, .int a1), (2, .int a2), (3, .int a3), (4, .int a4), (5, .int a5)]) hx hb dX7_turn_123 hl (by decide) rfl (fun ls hl => ?_)
                    refine lv_aload_n hx hb dX7_turn_125 rfl (lv_at hl 4 rfl) ?_
                    refine gf_X7_23 F hP dX7_turn_126 ?_
                    refine lv_aload_n hx hb dX7_turn_129 rfl (lv_at hl 4 rfl) ?_
                    refine gf_X7_18 F hP dX7_turn_130 ?_
                    refine lv_iload_n hx hb dX7_turn_133 rfl (lv_at hl 5 rfl) ?_
                    obtain ⟨h134, hG⟩ := f_gd hG
                    have i134 := f_fin h134
                    refine x_aald F hP rfl rfl i134 dX7_turn_134 ?_
                    obtain ⟨σ135, hC135, hG⟩ := f_bv hG
                    refine iv_X7_171 F hS hP rfl (c_X0_copy l E N 4 (er 3 (a1).toNatClampNeg) rfl (kd_s i134) σ120 _ hC135) ⟨Nat.le_of_ble_eq_true rfl, Nat.le_of_ble_eq_true rfl⟩ hl.1 (Nat.le_of_ble_eq_true rfl) dX7_turn_135 ⟨Nat.zero_le _, Nat.zero_le _⟩ (fun H locs hP hS => ?_)
                    refine lv_aload_n hx hb dX7_turn_138 rfl (lv_at hl 4 rfl) ?_
                    refine gf_X7_23 F hP dX7_turn_139 ?_
                    refine lv_iload_n hx hb dX7_turn_142 rfl (lv_at hl 6 rfl) ?_
                    refine lv_iload hx hb dX7_turn_143 (lv_at hl 0 rfl) ?_
                    obtain ⟨σ145, hC145, hG⟩ := f_bv hG
                    refine iv_X7_180 F hS hP rfl (c_X0_change l E N 4 a2 r120 rfl σ135 _ hC145) ⟨Nat.le_of_ble_eq_true rfl, Nat.le_of_ble_eq_true rfl⟩ hl.1 (Nat.le_of_ble_eq_true rfl) dX7_turn_145 ⟨Nat.zero_le _, Nat.zero_le _⟩ (fun H locs hP hS => ?_)
                    refine lv_aload_n hx hb dX7_turn_148 rfl (lv_at hl 4 rfl) ?_
                    refine gf_X7_23 F hP dX7_turn_149 ?_
                    refine lv_iload_n hx hb dX7_turn_152 rfl (lv_at hl 7 rfl) ?_
                    refine lv_iload hx hb dX7_turn_153 (lv_at hl 3 rfl) ?_
                    refine lv_iload hx hb dX7_turn_155 (lv_at hl 2 rfl) ?_
                    refine lv_ixor hx hb dX7_turn_157 ?_
                    refine lv_iload hx hb dX7_turn_158 (lv_at hl 0 rfl) ?_
                    refine lv_ixor hx hb dX7_turn_160 ?_
                    obtain ⟨σ161, hC161, hG⟩ := f_bv hG
                    refine iv_X7_180 F hS hP rfl (c_X0_change l E N 4 a3 ((r55 ^^^ r67) ^^^ r120) rfl σ145 _ hC161) ⟨Nat.le_of_ble_eq_true rfl, Nat.le_of_ble_eq_true rfl⟩ hl.1 (Nat.le_of_ble_eq_true rfl) dX7_turn_161 ⟨Nat.zero_le _, Nat.zero_le _⟩ (fun H locs hP hS => ?_)
                    refine lv_aload_n hx hb dX7_turn_164 rfl (lv_at hl 4 rfl) ?_
                    refine lv_iload_n hx hb dX7_turn_165 rfl (lv_at hl 5 rfl) ?_
                    obtain ⟨σ166, hC166, hG⟩ := f_bv hG
                    refine iv_X7_76 F hS hP (c_X7_shelveDraft l E N a1 σ161 _ hC166) ⟨Nat.le_of_ble_eq_true rfl, Nat.le_of_ble_eq_true rfl⟩ hl.1 (Nat.le_of_ble_eq_true rfl) dX7_turn_166 ⟨Nat.zero_le _, Nat.zero_le _⟩ (fun H locs hP hS => ?_)
                    refine lv_iload hx hb dX7_turn_169 (lv_at hl 0 rfl) ?_
                    obtain ⟨r171, σ171, hC171, hG⟩ := f_bd hG
                    refine iv_X7_95 F hS hP (c_X2_coreOf l E N r120 σ166 _ _ hC171) ⟨Nat.le_of_ble_eq_true rfl, Nat.le_of_ble_eq_true rfl⟩ hl.1 (Nat.le_of_ble_eq_true rfl) dX7_turn_171 ⟨Nat.zero_le _, Nat.zero_le _⟩ (fun H locs hP hS => ?_)
                    exact x_ri hR hS hP hG dX7_turn_174
                  · have hG := f_ip c112 hG
                    refine lv_bipush (v := -103) hx hb dX7_turn_115 (by decide) ?_
                    exact x_ri hR hS hP hG dX7_turn_117
            · have hG := f_in c42 hG
              refine lv_bipush (v := -102) hx hb dX7_turn_45 (by decide) ?_
              exact x_ri hR hS hP hG dX7_turn_47
    · have hG := f_ip c15 hG
      refine lv_bipush (v := -101) hx hb dX7_turn_18 (by decide) ?_
      exact x_ri hR hS hP hG dX7_turn_20
theorem dX7_drop_0 : decode cX7_drop 0 = .ok (.aload_n 0, 1) := by decide +kernel
theorem dX7_drop_1 : decode cX7_drop 1 = .ok (.iload_n 1, 1) := by decide +kernel
theorem dX7_drop_2 : decode cX7_drop 2 = .ok (.iload_n 2, 1) := by decide +kernel
theorem dX7_drop_3 : decode cX7_drop 3 = .ok (.invokevirtual 108, 3) := by decide +kernel
theorem dX7_drop_6 : decode cX7_drop 6 = .ok (.ifCond .ne 6, 3) := by decide +kernel
theorem dX7_drop_9 : decode cX7_drop 9 = .ok (.bipush (-101), 2) := by decide +kernel
theorem dX7_drop_11 : decode cX7_drop 11 = .ok (.ireturn, 1) := by decide +kernel
theorem dX7_drop_12 : decode cX7_drop 12 = .ok (.aload_n 0, 1) := by decide +kernel
theorem dX7_drop_13 : decode cX7_drop 13 = .ok (.getfield 18, 3) := by decide +kernel
theorem dX7_drop_16 : decode cX7_drop 16 = .ok (.iload_n 1, 1) := by decide +kernel
theorem dX7_drop_17 : decode cX7_drop 17 = .ok (.aaload, 1) := by decide +kernel
theorem dX7_drop_18 : decode cX7_drop 18 = .ok (.astore_n 3, 1) := by decide +kernel
theorem dX7_drop_19 : decode cX7_drop 19 = .ok (.aload_n 3, 1) := by decide +kernel
theorem dX7_drop_20 : decode cX7_drop 20 = .ok (.getfield 80, 3) := by decide +kernel
theorem dX7_drop_23 : decode cX7_drop 23 = .ok (.iconst 1, 1) := by decide +kernel
theorem dX7_drop_24 : decode cX7_drop 24 = .ok (.if_icmp .ne 6, 3) := by decide +kernel
theorem dX7_drop_27 : decode cX7_drop 27 = .ok (.bipush (-103), 2) := by decide +kernel
theorem dX7_drop_29 : decode cX7_drop 29 = .ok (.ireturn, 1) := by decide +kernel
theorem dX7_drop_30 : decode cX7_drop 30 = .ok (.aload_n 0, 1) := by decide +kernel
theorem dX7_drop_31 : decode cX7_drop 31 = .ok (.getfield 23, 3) := by decide +kernel
theorem dX7_drop_34 : decode cX7_drop 34 = .ok (.invokevirtual 168, 3) := by decide +kernel
theorem dX7_drop_37 : decode cX7_drop 37 = .ok (.iconst 0, 1) := by decide +kernel
theorem dX7_drop_38 : decode cX7_drop 38 = .ok (.istore 4, 2) := by decide +kernel
theorem dX7_drop_40 : decode cX7_drop 40 = .ok (.iload 4, 2) := by decide +kernel
theorem dX7_drop_42 : decode cX7_drop 42 = .ok (.aload_n 3, 1) := by decide +kernel
theorem dX7_drop_43 : decode cX7_drop 43 = .ok (.getfield 80, 3) := by decide +kernel
theorem dX7_drop_46 : decode cX7_drop 46 = .ok (.if_icmp .ge 28, 3) := by decide +kernel
theorem dX7_drop_49 : decode cX7_drop 49 = .ok (.iload 4, 2) := by decide +kernel
theorem dX7_drop_51 : decode cX7_drop 51 = .ok (.iload_n 2, 1) := by decide +kernel
theorem dX7_drop_52 : decode cX7_drop 52 = .ok (.if_icmp .eq 16, 3) := by decide +kernel
theorem dX7_drop_55 : decode cX7_drop 55 = .ok (.aload_n 0, 1) := by decide +kernel
theorem dX7_drop_56 : decode cX7_drop 56 = .ok (.getfield 23, 3) := by decide +kernel
theorem dX7_drop_59 : decode cX7_drop 59 = .ok (.aload_n 3, 1) := by decide +kernel
theorem dX7_drop_60 : decode cX7_drop 60 = .ok (.iload 4, 2) := by decide +kernel
theorem dX7_drop_62 : decode cX7_drop 62 = .ok (.invokevirtual 112, 3) := by decide +kernel
theorem dX7_drop_65 : decode cX7_drop 65 = .ok (.invokevirtual 184, 3) := by decide +kernel
theorem dX7_drop_68 : decode cX7_drop 68 = .ok (.iinc 4 1, 3) := by decide +kernel
theorem dX7_drop_71 : decode cX7_drop 71 = .ok (.goto (-31), 3) := by decide +kernel
theorem dX7_drop_74 : decode cX7_drop 74 = .ok (.aload_n 0, 1) := by decide +kernel
theorem dX7_drop_75 : decode cX7_drop 75 = .ok (.iload_n 1, 1) := by decide +kernel
theorem dX7_drop_76 : decode cX7_drop 76 = .ok (.invokevirtual 76, 3) := by decide +kernel
theorem dX7_drop_79 : decode cX7_drop 79 = .ok (.aload_n 3, 1) := by decide +kernel
theorem dX7_drop_80 : decode cX7_drop 80 = .ok (.getfield 80, 3) := by decide +kernel
theorem dX7_drop_83 : decode cX7_drop 83 = .ok (.ireturn, 1) := by decide +kernel
set_option maxHeartbeats 4000000 in
set_option maxRecDepth 100000 in
theorem c_X7_drop (l : Launch) (E : fEv) (N : Nat) (a1 : Int32) (a2 : Int32) (σ : fS) (r : Int32) (τ : fS) (hG : g_X7_drop N a1 a2 σ = some (r, τ)) : fM l E yX7_drop (.code yX7_drop cX7_drop 5 (some .int)) rm_X7_drop [.ref (E.2.1 0), .int a1, .int a2] σ τ (some (.int r)) := by
  refine f_openI (by decide) (Nat.le_of_ble_eq_true rfl) ?_
  intro p e s m below meth c args Q F hR hP ls hl
  have hx := F.1.1
  have hb := F.1.2.1
  have hown := F.1.2.2.2.1
  have hts := F.1.2.2.2.2
  have hS : va_S (f_A E) s.heap s.heap [] := va_S.rf
  skip
  have hl : lv_has ls 5 [(0, .ref (E.2.1 0)), (1, .int a1), (2, .int a2)] := hl
  unfold g_X7_drop at hG
  refine lv_aload_n hx hb dX7_drop_0 rfl (lv_at hl 0 rfl) ?_
  refine lv_iload_n hx hb dX7_drop_1 rfl (lv_at hl 1 rfl) ?_
  refine lv_iload_n hx hb dX7_drop_2 rfl (lv_at hl 2 rfl) ?_
  obtain ⟨r3, σ3, hC3, hG⟩ := f_bd hG
  refine iv_X7_108 F hS hP (c_X7_hasTerm l E N a1 a2 σ _ _ hC3) ⟨Nat.le_of_ble_eq_true rfl, Nat.le_of_ble_eq_true rfl⟩ hl.1 (Nat.le_of_ble_eq_true rfl) dX7_drop_3 ⟨Nat.zero_le _, Nat.zero_le _⟩ (fun H locs hP hS => ?_)
  refine lv_if_ne (tgt := 12) hx hb dX7_drop_6 (by decide) (fun c6 => ?_) (fun c6 => ?_)
  · have hG := f_in c6 hG
    refine lv_aload_n hx hb dX7_drop_12 rfl (lv_at hl 0 rfl) ?_
    refine gf_X7_18 F hP dX7_drop_13 ?_
    refine lv_iload_n hx hb dX7_drop_16 rfl (lv_at hl 1 rfl) ?_
    obtain ⟨h17, hG⟩ := f_gd hG
    have i17 := f_fin h17
    refine x_aald F hP rfl rfl i17 dX7_drop_17 ?_
    refine lv_astore_n (lv' := [(3, .ref (E.2.1 (er 3 (a1).toNatClampNeg))), (0, .ref (E.2.1 0)), (1, .int a1), (2, .int a2)]) hx hb dX7_drop_18 rfl hl (by decide) rfl (fun ls hl => ?_)
    refine lv_aload_n hx hb dX7_drop_19 rfl (lv_at hl 0 rfl) ?_
    refine gf_X7_80 F hP (kd_s i17) dX7_drop_20 ?_
    refine lv_iconst (v := 1) hx hb dX7_drop_23 (by decide) ?_
    refine lv_icmp_ne (tgt := 30) hx hb dX7_drop_24 (by decide) (fun c24 => ?_) (fun c24 => ?_)
    · have hG := f_in c24 hG
      refine lv_aload_n hx hb dX7_drop_30 rfl (lv_at hl 1 rfl) ?_
      refine gf_X7_23 F hP dX7_drop_31 ?_
      obtain ⟨σ34, hC34, hG⟩ := f_bv hG
      refine iv_X7_168 F hS hP rfl (c_X0_empty l E N 4 rfl σ3 _ hC34) ⟨Nat.le_of_ble_eq_true rfl, Nat.le_of_ble_eq_true rfl⟩ hl.1 (Nat.le_of_ble_eq_true rfl) dX7_drop_34 ⟨Nat.zero_le _, Nat.zero_le _⟩ (fun H locs hP hS => ?_)
      refine lv_iconst (v := 0) hx hb dX7_drop_37 (by decide) ?_
      refine lv_istore (lv' := [(4, .int (0 : Int32)), (3, .ref (E.2.1 (er 3 (a1).toNatClampNeg))), (0, .ref (E.2.1 0)), (1, .int a1), (2, .int a2)]) hx hb dX7_drop_38 hl (by decide) rfl (fun ls hl => ?_)
      obtain ⟨σl40, hT40, hG⟩ := f_bv hG
      have T40 : ∀ (H : Heap) (locs : List Loc) (ls : Array Slot), f_h E σl40 H → va_S (f_A E) s.heap H locs → lv_has ls 5 [(0, .ref (E.2.1 0)), (1, .int a1), (3, .ref (E.2.1 (er 3 (a1).toNatClampNeg)))] → W p l e rm_X7_drop s m args below meth c H locs 0 0 Q (F0 m 74 ls []) := by
        intro H locs ls hP hS hl
        refine lv_aload_n hx hb dX7_drop_74 rfl (lv_at hl 0 rfl) ?_
        refine lv_iload_n hx hb dX7_drop_75 rfl (lv_at hl 1 rfl) ?_
        obtain ⟨σ76, hC76, hG⟩ := f_bv hG
        refine iv_X7_76 F hS hP (c_X7_shelveDraft l E N a1 σl40 _ hC76) ⟨Nat.le_of_ble_eq_true rfl, Nat.le_of_ble_eq_true rfl⟩ hl.1 (Nat.le_of_ble_eq_true rfl) dX7_drop_76 ⟨Nat.zero_le _, Nat.zero_le _⟩ (fun H locs hP hS => ?_)
        refine lv_aload_n hx hb dX7_drop_79 rfl (lv_at hl 2 rfl) ?_
        refine gf_X7_80 F hP (kd_s i17) dX7_drop_80 ?_
        exact x_ri hR hS hP hG dX7_drop_83
      have L40 : ∀ (n40 : Nat) (x40_4 : Int32) (σh40 : fS) (H : Heap) (locs : List Loc) (ls : Array Slot), f_h E σh40 H → va_S (f_A E) s.heap H locs → lv_has ls 5 [(0, .ref (E.2.1 0)), (1, .int a1), (2, .int a2), (3, .ref (E.2.1 (er 3 (a1).toNatClampNeg))), (4, .int x40_4)] → lp_X7_drop_40 N a1 a2 (er 3 (a1).toNatClampNeg) n40 x40_4 σh40 = some σl40 → W p l e rm_X7_drop s m args below meth c H locs 0 0 Q (F0 m 40 ls []) := by
        intro n40
        induction n40 with
        | zero =>
          intro x40_4 σh40 H locs ls hP hS hl hG
          rw [lp_X7_drop_40] at hG
          cases hG
        | succ n40 ih40 =>
          intro x40_4 σh40 H locs ls hP hS hl hG
          rw [lp_X7_drop_40] at hG
          refine lv_iload hx hb dX7_drop_40 (lv_at hl 4 rfl) ?_
          refine lv_aload_n hx hb dX7_drop_42 rfl (lv_at hl 3 rfl) ?_
          refine gf_X7_80 F hP (kd_s i17) dX7_drop_43 ?_
          refine lv_icmp_ge (tgt := 74) hx hb dX7_drop_46 (by decide) (fun c46 => ?_) (fun c46 => ?_)
          · have hG := f_ip c46 hG
            cases hG
            exact T40 _ _ _ hP hS (lv_sub hl [0, 1, 3] rfl)
          · have hG := f_in c46 hG
            refine lv_iload hx hb dX7_drop_49 (lv_at hl 4 rfl) ?_
            refine lv_iload_n hx hb dX7_drop_51 rfl (lv_at hl 2 rfl) ?_
            refine lv_icmp_eq (tgt := 68) hx hb dX7_drop_52 (by decide) (fun c52 => ?_) (fun c52 => ?_)
            · have hG := f_ip c52 hG
              refine lv_iinc (v := (x40_4 + (1 : Int32))) (lv' := [(4, .int (x40_4 + (1 : Int32))), (0, .ref (E.2.1 0)), (1, .int a1), (2, .int a2), (3, .ref (E.2.1 (er 3 (a1).toNatClampNeg)))]) hx hb dX7_drop_68 hl (k := 4) rfl (by rfl) (by decide) rfl (fun ls hl => ?_)
              refine lv_goto (tgt := 40) hx hb dX7_drop_71 (by decide) ?_
              exact ih40 (x40_4 + (1 : Int32)) σh40 _ _ _ hP hS (lv_sub hl [1, 2, 3, 4, 0] rfl) hG
            · have hG := f_in c52 hG
              refine lv_aload_n hx hb dX7_drop_55 rfl (lv_at hl 0 rfl) ?_
              refine gf_X7_23 F hP dX7_drop_56 ?_
              refine lv_aload_n hx hb dX7_drop_59 rfl (lv_at hl 3 rfl) ?_
              refine lv_iload hx hb dX7_drop_60 (lv_at hl 4 rfl) ?_
              obtain ⟨r62, σ62, hC62, hG⟩ := f_bd hG
              refine iv_X7_112 F hS hP (kd_s i17) (c_X0_kindAt l E N (er 3 (a1).toNatClampNeg) x40_4 (kd_s i17) σh40 _ _ hC62) ⟨Nat.le_of_ble_eq_true rfl, Nat.le_of_ble_eq_true rfl⟩ hl.1 (Nat.le_of_ble_eq_true rfl) dX7_drop_62 ⟨Nat.zero_le _, Nat.zero_le _⟩ (fun H locs hP hS => ?_)
              obtain ⟨σ65, hC65, hG⟩ := f_bv hG
              refine iv_X7_184 F hS hP rfl (c_X0_add l E N 4 r62 rfl σ62 _ hC65) ⟨Nat.le_of_ble_eq_true rfl, Nat.le_of_ble_eq_true rfl⟩ hl.1 (Nat.le_of_ble_eq_true rfl) dX7_drop_65 ⟨Nat.zero_le _, Nat.zero_le _⟩ (fun H locs hP hS => ?_)
              refine lv_iinc (v := (x40_4 + (1 : Int32))) (lv' := [(4, .int (x40_4 + (1 : Int32))), (0, .ref (E.2.1 0)), (1, .int a1), (2, .int a2), (3, .ref (E.2.1 (er 3 (a1).toNatClampNeg)))]) hx hb dX7_drop_68 hl (k := 4) rfl (by rfl) (by decide) rfl (fun ls hl => ?_)
              refine lv_goto (tgt := 40) hx hb dX7_drop_71 (by decide) ?_
              exact ih40 (x40_4 + (1 : Int32)) σ65 _ _ _ hP hS (lv_sub hl [1, 2, 3, 4, 0] rfl) hG
      exact L40 N (0 : Int32) σ34 _ _ _ hP hS (lv_sub hl [2, 3, 4, 1, 0] rfl) hT40
    · have hG := f_ip c24 hG
      refine lv_bipush (v := -103) hx hb dX7_drop_27 (by decide) ?_
      exact x_ri hR hS hP hG dX7_drop_29
  · have hG := f_ip c6 hG
    refine lv_bipush (v := -101) hx hb dX7_drop_9 (by decide) ?_
    exact x_ri hR hS hP hG dX7_drop_11
theorem dX7_undo_0 : decode cX7_undo 0 = .ok (.aload_n 0, 1) := by decide +kernel
theorem dX7_undo_1 : decode cX7_undo 1 = .ok (.getfield 30, 3) := by decide +kernel
theorem dX7_undo_4 : decode cX7_undo 4 = .ok (.getfield 187, 3) := by decide +kernel
theorem dX7_undo_7 : decode cX7_undo 7 = .ok (.ifCond .ne 6, 3) := by decide +kernel
theorem dX7_undo_10 : decode cX7_undo 10 = .ok (.bipush (-103), 2) := by decide +kernel
theorem dX7_undo_12 : decode cX7_undo 12 = .ok (.ireturn, 1) := by decide +kernel
theorem dX7_undo_13 : decode cX7_undo 13 = .ok (.aload_n 0, 1) := by decide +kernel
theorem dX7_undo_14 : decode cX7_undo 14 = .ok (.getfield 30, 3) := by decide +kernel
theorem dX7_undo_17 : decode cX7_undo 17 = .ok (.aload_n 0, 1) := by decide +kernel
theorem dX7_undo_18 : decode cX7_undo 18 = .ok (.getfield 23, 3) := by decide +kernel
theorem dX7_undo_21 : decode cX7_undo 21 = .ok (.invokevirtual 190, 3) := by decide +kernel
theorem dX7_undo_24 : decode cX7_undo 24 = .ok (.istore_n 1, 1) := by decide +kernel
theorem dX7_undo_25 : decode cX7_undo 25 = .ok (.iload_n 1, 1) := by decide +kernel
theorem dX7_undo_26 : decode cX7_undo 26 = .ok (.invokestatic 69, 3) := by decide +kernel
theorem dX7_undo_29 : decode cX7_undo 29 = .ok (.ifCond .ne 6, 3) := by decide +kernel
theorem dX7_undo_32 : decode cX7_undo 32 = .ok (.bipush (-103), 2) := by decide +kernel
theorem dX7_undo_34 : decode cX7_undo 34 = .ok (.ireturn, 1) := by decide +kernel
theorem dX7_undo_35 : decode cX7_undo 35 = .ok (.aload_n 0, 1) := by decide +kernel
theorem dX7_undo_36 : decode cX7_undo 36 = .ok (.getfield 18, 3) := by decide +kernel
theorem dX7_undo_39 : decode cX7_undo 39 = .ok (.iload_n 1, 1) := by decide +kernel
theorem dX7_undo_40 : decode cX7_undo 40 = .ok (.aaload, 1) := by decide +kernel
theorem dX7_undo_41 : decode cX7_undo 41 = .ok (.aload_n 0, 1) := by decide +kernel
theorem dX7_undo_42 : decode cX7_undo 42 = .ok (.getfield 23, 3) := by decide +kernel
theorem dX7_undo_45 : decode cX7_undo 45 = .ok (.invokevirtual 171, 3) := by decide +kernel
theorem dX7_undo_48 : decode cX7_undo 48 = .ok (.iload_n 1, 1) := by decide +kernel
theorem dX7_undo_49 : decode cX7_undo 49 = .ok (.ireturn, 1) := by decide +kernel
set_option maxHeartbeats 4000000 in
set_option maxRecDepth 100000 in
theorem c_X7_undo (l : Launch) (E : fEv) (N : Nat)  (σ : fS) (r : Int32) (τ : fS) (hG : g_X7_undo N  σ = some (r, τ)) : fM l E yX7_undo (.code yX7_undo cX7_undo 2 (some .int)) rm_X7_undo [.ref (E.2.1 0)] σ τ (some (.int r)) := by
  refine f_openI (by decide) (Nat.le_of_ble_eq_true rfl) ?_
  intro p e s m below meth c args Q F hR hP ls hl
  have hx := F.1.1
  have hb := F.1.2.1
  have hown := F.1.2.2.2.1
  have hts := F.1.2.2.2.2
  have hS : va_S (f_A E) s.heap s.heap [] := va_S.rf
  skip
  have hl : lv_has ls 2 [(0, .ref (E.2.1 0))] := hl
  unfold g_X7_undo at hG
  refine lv_aload_n hx hb dX7_undo_0 rfl (lv_at hl 0 rfl) ?_
  refine gf_X7_30 F hP dX7_undo_1 ?_
  refine gf_X7_187 F hP dX7_undo_4 ?_
  refine lv_if_ne (tgt := 13) hx hb dX7_undo_7 (by decide) (fun c7 => ?_) (fun c7 => ?_)
  · have hG := f_in c7 hG
    refine lv_aload_n hx hb dX7_undo_13 rfl (lv_at hl 0 rfl) ?_
    refine gf_X7_30 F hP dX7_undo_14 ?_
    refine lv_aload_n hx hb dX7_undo_17 rfl (lv_at hl 0 rfl) ?_
    refine gf_X7_23 F hP dX7_undo_18 ?_
    obtain ⟨r21, σ21, hC21, hG⟩ := f_bd hG
    refine iv_X7_190 F hS hP (c_X5_takeBack l E N 4 rfl σ _ _ hC21) ⟨Nat.le_of_ble_eq_true rfl, Nat.le_of_ble_eq_true rfl⟩ hl.1 (Nat.le_of_ble_eq_true rfl) dX7_undo_21 ⟨Nat.zero_le _, Nat.zero_le _⟩ (fun H locs hP hS => ?_)
    refine lv_istore_n (lv' := [(1, .int r21), (0, .ref (E.2.1 0))]) hx hb dX7_undo_24 rfl hl (by decide) rfl (fun ls hl => ?_)
    refine lv_iload_n hx hb dX7_undo_25 rfl (lv_at hl 0 rfl) ?_
    obtain ⟨r26, σ26, hC26, hG⟩ := f_bd hG
    refine iv_X7_69 F hS hP (c_X7_isShelf l E N r21 σ21 _ _ hC26) ⟨Nat.le_of_ble_eq_true rfl, Nat.le_of_ble_eq_true rfl⟩ hl.1 (Nat.le_of_ble_eq_true rfl) dX7_undo_26 ⟨Nat.zero_le _, Nat.zero_le _⟩ (fun H locs hP hS => ?_)
    refine lv_if_ne (tgt := 35) hx hb dX7_undo_29 (by decide) (fun c29 => ?_) (fun c29 => ?_)
    · have hG := f_in c29 hG
      refine lv_aload_n hx hb dX7_undo_35 rfl (lv_at hl 1 rfl) ?_
      refine gf_X7_18 F hP dX7_undo_36 ?_
      refine lv_iload_n hx hb dX7_undo_39 rfl (lv_at hl 0 rfl) ?_
      obtain ⟨h40, hG⟩ := f_gd hG
      have i40 := f_fin h40
      refine x_aald F hP rfl rfl i40 dX7_undo_40 ?_
      refine lv_aload_n hx hb dX7_undo_41 rfl (lv_at hl 1 rfl) ?_
      refine gf_X7_23 F hP dX7_undo_42 ?_
      obtain ⟨σ45, hC45, hG⟩ := f_bv hG
      refine iv_X7_171 F hS hP (kd_s i40) (c_X0_copy l E N (er 3 (r21).toNatClampNeg) 4 (kd_s i40) rfl σ26 _ hC45) ⟨Nat.le_of_ble_eq_true rfl, Nat.le_of_ble_eq_true rfl⟩ hl.1 (Nat.le_of_ble_eq_true rfl) dX7_undo_45 ⟨Nat.zero_le _, Nat.zero_le _⟩ (fun H locs hP hS => ?_)
      refine lv_iload_n hx hb dX7_undo_48 rfl (lv_at hl 0 rfl) ?_
      exact x_ri hR hS hP hG dX7_undo_49
    · have hG := f_ip c29 hG
      refine lv_bipush (v := -103) hx hb dX7_undo_32 (by decide) ?_
      exact x_ri hR hS hP hG dX7_undo_34
  · have hG := f_ip c7 hG
    refine lv_bipush (v := -103) hx hb dX7_undo_10 (by decide) ?_
    exact x_ri hR hS hP hG dX7_undo_12
theorem dX7_pairs_0 : decode cX7_pairs 0 = .ok (.iload_n 1, 1) := by decide +kernel
theorem dX7_pairs_1 : decode cX7_pairs 1 = .ok (.iconst 3, 1) := by decide +kernel
theorem dX7_pairs_2 : decode cX7_pairs 2 = .ok (.if_icmp .lt 24, 3) := by decide +kernel
theorem dX7_pairs_5 : decode cX7_pairs 5 = .ok (.iload_n 1, 1) := by decide +kernel
theorem dX7_pairs_6 : decode cX7_pairs 6 = .ok (.sipush 160, 3) := by decide +kernel
theorem dX7_pairs_9 : decode cX7_pairs 9 = .ok (.if_icmp .gt 17, 3) := by decide +kernel
theorem dX7_pairs_12 : decode cX7_pairs 12 = .ok (.iload_n 1, 1) := by decide +kernel
theorem dX7_pairs_13 : decode cX7_pairs 13 = .ok (.iconst 4, 1) := by decide +kernel
theorem dX7_pairs_14 : decode cX7_pairs 14 = .ok (.irem, 1) := by decide +kernel
theorem dX7_pairs_15 : decode cX7_pairs 15 = .ok (.iconst 1, 1) := by decide +kernel
theorem dX7_pairs_16 : decode cX7_pairs 16 = .ok (.if_icmp .eq 10, 3) := by decide +kernel
theorem dX7_pairs_19 : decode cX7_pairs 19 = .ok (.iload_n 1, 1) := by decide +kernel
theorem dX7_pairs_20 : decode cX7_pairs 20 = .ok (.iconst 4, 1) := by decide +kernel
theorem dX7_pairs_21 : decode cX7_pairs 21 = .ok (.irem, 1) := by decide +kernel
theorem dX7_pairs_22 : decode cX7_pairs 22 = .ok (.iconst 2, 1) := by decide +kernel
theorem dX7_pairs_23 : decode cX7_pairs 23 = .ok (.if_icmp .ne 6, 3) := by decide +kernel
theorem dX7_pairs_26 : decode cX7_pairs 26 = .ok (.bipush (-102), 2) := by decide +kernel
theorem dX7_pairs_28 : decode cX7_pairs 28 = .ok (.ireturn, 1) := by decide +kernel
theorem dX7_pairs_29 : decode cX7_pairs 29 = .ok (.aload_n 0, 1) := by decide +kernel
theorem dX7_pairs_30 : decode cX7_pairs 30 = .ok (.getfield 37, 3) := by decide +kernel
theorem dX7_pairs_33 : decode cX7_pairs 33 = .ok (.iload_n 1, 1) := by decide +kernel
theorem dX7_pairs_34 : decode cX7_pairs 34 = .ok (.invokevirtual 193, 3) := by decide +kernel
theorem dX7_pairs_37 : decode cX7_pairs 37 = .ok (.aload_n 0, 1) := by decide +kernel
theorem dX7_pairs_38 : decode cX7_pairs 38 = .ok (.getfield 37, 3) := by decide +kernel
theorem dX7_pairs_41 : decode cX7_pairs 41 = .ok (.getfield 196, 3) := by decide +kernel
theorem dX7_pairs_44 : decode cX7_pairs 44 = .ok (.ireturn, 1) := by decide +kernel
set_option maxHeartbeats 4000000 in
set_option maxRecDepth 100000 in
theorem c_X7_pairs (l : Launch) (E : fEv) (N : Nat) (a1 : Int32) (σ : fS) (r : Int32) (τ : fS) (hG : g_X7_pairs N a1 σ = some (r, τ)) : fM l E yX7_pairs (.code yX7_pairs cX7_pairs 2 (some .int)) rm_X7_pairs [.ref (E.2.1 0), .int a1] σ τ (some (.int r)) := by
  refine f_openI (by decide) (Nat.le_of_ble_eq_true rfl) ?_
  intro p e s m below meth c args Q F hR hP ls hl
  have hx := F.1.1
  have hb := F.1.2.1
  have hown := F.1.2.2.2.1
  have hts := F.1.2.2.2.2
  have hS : va_S (f_A E) s.heap s.heap [] := va_S.rf
  skip
  have hl : lv_has ls 2 [(0, .ref (E.2.1 0)), (1, .int a1)] := hl
  unfold g_X7_pairs at hG
  refine lv_iload_n hx hb dX7_pairs_0 rfl (lv_at hl 1 rfl) ?_
  refine lv_iconst (v := 3) hx hb dX7_pairs_1 (by decide) ?_
  refine lv_icmp_lt (tgt := 26) hx hb dX7_pairs_2 (by decide) (fun c2 => ?_) (fun c2 => ?_)
  · have hG := f_ip c2 hG
    refine lv_bipush (v := -102) hx hb dX7_pairs_26 (by decide) ?_
    exact x_ri hR hS hP hG dX7_pairs_28
  · have hG := f_in c2 hG
    refine lv_iload_n hx hb dX7_pairs_5 rfl (lv_at hl 1 rfl) ?_
    refine lv_sipush (v := 160) hx hb dX7_pairs_6 (by decide) ?_
    refine lv_icmp_gt (tgt := 26) hx hb dX7_pairs_9 (by decide) (fun c9 => ?_) (fun c9 => ?_)
    · have hG := f_ip c9 hG
      refine lv_bipush (v := -102) hx hb dX7_pairs_26 (by decide) ?_
      exact x_ri hR hS hP hG dX7_pairs_28
    · have hG := f_in c9 hG
      refine lv_iload_n hx hb dX7_pairs_12 rfl (lv_at hl 1 rfl) ?_
      refine lv_iconst (v := 4) hx hb dX7_pairs_13 (by decide) ?_
      refine x_irem F dX7_pairs_14 (by decide) ?_
      refine lv_iconst (v := 1) hx hb dX7_pairs_15 (by decide) ?_
      refine lv_icmp_eq (tgt := 26) hx hb dX7_pairs_16 (by decide) (fun c16 => ?_) (fun c16 => ?_)
      · have hG := f_ip c16 hG
        refine lv_bipush (v := -102) hx hb dX7_pairs_26 (by decide) ?_
        exact x_ri hR hS hP hG dX7_pairs_28
      · have hG := f_in c16 hG
        refine lv_iload_n hx hb dX7_pairs_19 rfl (lv_at hl 1 rfl) ?_
        refine lv_iconst (v := 4) hx hb dX7_pairs_20 (by decide) ?_
        refine x_irem F dX7_pairs_21 (by decide) ?_
        refine lv_iconst (v := 2) hx hb dX7_pairs_22 (by decide) ?_
        refine lv_icmp_ne (tgt := 29) hx hb dX7_pairs_23 (by decide) (fun c23 => ?_) (fun c23 => ?_)
        · have hG := f_in c23 hG
          refine lv_aload_n hx hb dX7_pairs_29 rfl (lv_at hl 0 rfl) ?_
          refine gf_X7_37 F hP dX7_pairs_30 ?_
          refine lv_iload_n hx hb dX7_pairs_33 rfl (lv_at hl 1 rfl) ?_
          obtain ⟨σ34, hC34, hG⟩ := f_bv hG
          refine iv_X7_193 F hS hP (c_X4_open l E N a1 σ _ hC34) ⟨Nat.le_of_ble_eq_true rfl, Nat.le_of_ble_eq_true rfl⟩ hl.1 (Nat.le_of_ble_eq_true rfl) dX7_pairs_34 ⟨Nat.zero_le _, Nat.zero_le _⟩ (fun H locs hP hS => ?_)
          refine lv_aload_n hx hb dX7_pairs_37 rfl (lv_at hl 0 rfl) ?_
          refine gf_X7_37 F hP dX7_pairs_38 ?_
          refine gf_X7_196 F hP dX7_pairs_41 ?_
          exact x_ri hR hS hP hG dX7_pairs_44
        · have hG := f_ip c23 hG
          refine lv_bipush (v := -102) hx hb dX7_pairs_26 (by decide) ?_
          exact x_ri hR hS hP hG dX7_pairs_28
theorem dX7_pair_0 : decode cX7_pair 0 = .ok (.aload_n 0, 1) := by decide +kernel
theorem dX7_pair_1 : decode cX7_pair 1 = .ok (.getfield 37, 3) := by decide +kernel
theorem dX7_pair_4 : decode cX7_pair 4 = .ok (.iload_n 1, 1) := by decide +kernel
theorem dX7_pair_5 : decode cX7_pair 5 = .ok (.invokevirtual 199, 3) := by decide +kernel
theorem dX7_pair_8 : decode cX7_pair 8 = .ok (.ifCond .ne 6, 3) := by decide +kernel
theorem dX7_pair_11 : decode cX7_pair 11 = .ok (.bipush (-101), 2) := by decide +kernel
theorem dX7_pair_13 : decode cX7_pair 13 = .ok (.ireturn, 1) := by decide +kernel
theorem dX7_pair_14 : decode cX7_pair 14 = .ok (.iload_n 2, 1) := by decide +kernel
theorem dX7_pair_15 : decode cX7_pair 15 = .ok (.ifCond .lt 8, 3) := by decide +kernel
theorem dX7_pair_18 : decode cX7_pair 18 = .ok (.iload_n 2, 1) := by decide +kernel
theorem dX7_pair_19 : decode cX7_pair 19 = .ok (.iconst 4, 1) := by decide +kernel
theorem dX7_pair_20 : decode cX7_pair 20 = .ok (.if_icmp .le 6, 3) := by decide +kernel
theorem dX7_pair_23 : decode cX7_pair 23 = .ok (.bipush (-102), 2) := by decide +kernel
theorem dX7_pair_25 : decode cX7_pair 25 = .ok (.ireturn, 1) := by decide +kernel
theorem dX7_pair_26 : decode cX7_pair 26 = .ok (.iload_n 2, 1) := by decide +kernel
theorem dX7_pair_27 : decode cX7_pair 27 = .ok (.tableswitch 69 0 3 #[29, 39, 49, 59], 29) := by decide +kernel
theorem dX7_pair_56 : decode cX7_pair 56 = .ok (.aload_n 0, 1) := by decide +kernel
theorem dX7_pair_57 : decode cX7_pair 57 = .ok (.getfield 37, 3) := by decide +kernel
theorem dX7_pair_60 : decode cX7_pair 60 = .ok (.getfield 202, 3) := by decide +kernel
theorem dX7_pair_63 : decode cX7_pair 63 = .ok (.iload_n 1, 1) := by decide +kernel
theorem dX7_pair_64 : decode cX7_pair 64 = .ok (.iaload, 1) := by decide +kernel
theorem dX7_pair_65 : decode cX7_pair 65 = .ok (.ireturn, 1) := by decide +kernel
theorem dX7_pair_66 : decode cX7_pair 66 = .ok (.aload_n 0, 1) := by decide +kernel
theorem dX7_pair_67 : decode cX7_pair 67 = .ok (.getfield 37, 3) := by decide +kernel
theorem dX7_pair_70 : decode cX7_pair 70 = .ok (.getfield 206, 3) := by decide +kernel
theorem dX7_pair_73 : decode cX7_pair 73 = .ok (.iload_n 1, 1) := by decide +kernel
theorem dX7_pair_74 : decode cX7_pair 74 = .ok (.iaload, 1) := by decide +kernel
theorem dX7_pair_75 : decode cX7_pair 75 = .ok (.ireturn, 1) := by decide +kernel
theorem dX7_pair_76 : decode cX7_pair 76 = .ok (.aload_n 0, 1) := by decide +kernel
theorem dX7_pair_77 : decode cX7_pair 77 = .ok (.getfield 37, 3) := by decide +kernel
theorem dX7_pair_80 : decode cX7_pair 80 = .ok (.getfield 209, 3) := by decide +kernel
theorem dX7_pair_83 : decode cX7_pair 83 = .ok (.iload_n 1, 1) := by decide +kernel
theorem dX7_pair_84 : decode cX7_pair 84 = .ok (.iaload, 1) := by decide +kernel
theorem dX7_pair_85 : decode cX7_pair 85 = .ok (.ireturn, 1) := by decide +kernel
theorem dX7_pair_86 : decode cX7_pair 86 = .ok (.aload_n 0, 1) := by decide +kernel
theorem dX7_pair_87 : decode cX7_pair 87 = .ok (.getfield 37, 3) := by decide +kernel
theorem dX7_pair_90 : decode cX7_pair 90 = .ok (.getfield 212, 3) := by decide +kernel
theorem dX7_pair_93 : decode cX7_pair 93 = .ok (.iload_n 1, 1) := by decide +kernel
theorem dX7_pair_94 : decode cX7_pair 94 = .ok (.iaload, 1) := by decide +kernel
theorem dX7_pair_95 : decode cX7_pair 95 = .ok (.ireturn, 1) := by decide +kernel
theorem dX7_pair_96 : decode cX7_pair 96 = .ok (.aload_n 0, 1) := by decide +kernel
theorem dX7_pair_97 : decode cX7_pair 97 = .ok (.getfield 37, 3) := by decide +kernel
theorem dX7_pair_100 : decode cX7_pair 100 = .ok (.iload_n 1, 1) := by decide +kernel
theorem dX7_pair_101 : decode cX7_pair 101 = .ok (.invokevirtual 215, 3) := by decide +kernel
theorem dX7_pair_104 : decode cX7_pair 104 = .ok (.ireturn, 1) := by decide +kernel
set_option maxHeartbeats 4000000 in
set_option maxRecDepth 100000 in
theorem c_X7_pair (l : Launch) (E : fEv) (N : Nat) (a1 : Int32) (a2 : Int32) (σ : fS) (r : Int32) (τ : fS) (hG : g_X7_pair N a1 a2 σ = some (r, τ)) : fM l E yX7_pair (.code yX7_pair cX7_pair 3 (some .int)) rm_X7_pair [.ref (E.2.1 0), .int a1, .int a2] σ τ (some (.int r)) := by
  refine f_openI (by decide) (Nat.le_of_ble_eq_true rfl) ?_
  intro p e s m below meth c args Q F hR hP ls hl
  have hx := F.1.1
  have hb := F.1.2.1
  have hown := F.1.2.2.2.1
  have hts := F.1.2.2.2.2
  have hS : va_S (f_A E) s.heap s.heap [] := va_S.rf
  skip
  have hl : lv_has ls 3 [(0, .ref (E.2.1 0)), (1, .int a1), (2, .int a2)] := hl
  unfold g_X7_pair at hG
  refine lv_aload_n hx hb dX7_pair_0 rfl (lv_at hl 0 rfl) ?_
  refine gf_X7_37 F hP dX7_pair_1 ?_
  refine lv_iload_n hx hb dX7_pair_4 rfl (lv_at hl 1 rfl) ?_
  obtain ⟨r5, σ5, hC5, hG⟩ := f_bd hG
  refine iv_X7_199 F hS hP (c_X4_has l E N a1 σ _ _ hC5) ⟨Nat.le_of_ble_eq_true rfl, Nat.le_of_ble_eq_true rfl⟩ hl.1 (Nat.le_of_ble_eq_true rfl) dX7_pair_5 ⟨Nat.zero_le _, Nat.zero_le _⟩ (fun H locs hP hS => ?_)
  refine lv_if_ne (tgt := 14) hx hb dX7_pair_8 (by decide) (fun c8 => ?_) (fun c8 => ?_)
  · have hG := f_in c8 hG
    refine lv_iload_n hx hb dX7_pair_14 rfl (lv_at hl 2 rfl) ?_
    refine lv_if_lt (tgt := 23) hx hb dX7_pair_15 (by decide) (fun c15 => ?_) (fun c15 => ?_)
    · have hG := f_ip c15 hG
      refine lv_bipush (v := -102) hx hb dX7_pair_23 (by decide) ?_
      exact x_ri hR hS hP hG dX7_pair_25
    · have hG := f_in c15 hG
      refine lv_iload_n hx hb dX7_pair_18 rfl (lv_at hl 2 rfl) ?_
      refine lv_iconst (v := 4) hx hb dX7_pair_19 (by decide) ?_
      refine lv_icmp_le (tgt := 26) hx hb dX7_pair_20 (by decide) (fun c20 => ?_) (fun c20 => ?_)
      · have hG := f_ip c20 hG
        refine lv_iload_n hx hb dX7_pair_26 rfl (lv_at hl 2 rfl) ?_
        by_cases c27_0 : a2 = 0
        · have hG := f_ip c27_0 hG
          refine lv_tableIn (off := 29) (tgt := 56) hx hb dX7_pair_27 (by rw [c27_0]; decide) (by rw [c27_0]; decide) (by rw [c27_0]; rfl) (by decide) ?_
          refine lv_aload_n hx hb dX7_pair_56 rfl (lv_at hl 0 rfl) ?_
          refine gf_X7_37 F hP dX7_pair_57 ?_
          refine gf_X7_202 F hP dX7_pair_60 ?_
          refine lv_iload_n hx hb dX7_pair_63 rfl (lv_at hl 1 rfl) ?_
          obtain ⟨h64, hG⟩ := f_gd hG
          have i64 := f_fin h64
          refine x_iald F hP rfl rfl i64 dX7_pair_64 ?_
          exact x_ri hR hS hP hG dX7_pair_65
        · have hG := f_in c27_0 hG
          by_cases c27_1 : a2 = 1
          · have hG := f_ip c27_1 hG
            refine lv_tableIn (off := 39) (tgt := 66) hx hb dX7_pair_27 (by rw [c27_1]; decide) (by rw [c27_1]; decide) (by rw [c27_1]; rfl) (by decide) ?_
            refine lv_aload_n hx hb dX7_pair_66 rfl (lv_at hl 0 rfl) ?_
            refine gf_X7_37 F hP dX7_pair_67 ?_
            refine gf_X7_206 F hP dX7_pair_70 ?_
            refine lv_iload_n hx hb dX7_pair_73 rfl (lv_at hl 1 rfl) ?_
            obtain ⟨h74, hG⟩ := f_gd hG
            have i74 := f_fin h74
            refine x_iald F hP rfl rfl i74 dX7_pair_74 ?_
            exact x_ri hR hS hP hG dX7_pair_75
          · have hG := f_in c27_1 hG
            by_cases c27_2 : a2 = 2
            · have hG := f_ip c27_2 hG
              refine lv_tableIn (off := 49) (tgt := 76) hx hb dX7_pair_27 (by rw [c27_2]; decide) (by rw [c27_2]; decide) (by rw [c27_2]; rfl) (by decide) ?_
              refine lv_aload_n hx hb dX7_pair_76 rfl (lv_at hl 0 rfl) ?_
              refine gf_X7_37 F hP dX7_pair_77 ?_
              refine gf_X7_209 F hP dX7_pair_80 ?_
              refine lv_iload_n hx hb dX7_pair_83 rfl (lv_at hl 1 rfl) ?_
              obtain ⟨h84, hG⟩ := f_gd hG
              have i84 := f_fin h84
              refine x_iald F hP rfl rfl i84 dX7_pair_84 ?_
              exact x_ri hR hS hP hG dX7_pair_85
            · have hG := f_in c27_2 hG
              by_cases c27_3 : a2 = 3
              · have hG := f_ip c27_3 hG
                refine lv_tableIn (off := 59) (tgt := 86) hx hb dX7_pair_27 (by rw [c27_3]; decide) (by rw [c27_3]; decide) (by rw [c27_3]; rfl) (by decide) ?_
                refine lv_aload_n hx hb dX7_pair_86 rfl (lv_at hl 0 rfl) ?_
                refine gf_X7_37 F hP dX7_pair_87 ?_
                refine gf_X7_212 F hP dX7_pair_90 ?_
                refine lv_iload_n hx hb dX7_pair_93 rfl (lv_at hl 1 rfl) ?_
                obtain ⟨h94, hG⟩ := f_gd hG
                have i94 := f_fin h94
                refine x_iald F hP rfl rfl i94 dX7_pair_94 ?_
                exact x_ri hR hS hP hG dX7_pair_95
              · have hG := f_in c27_3 hG
                have n27_0 := lv_neT c27_0 (show (0 : Int32).toInt = 0 from rfl)
                have n27_1 := lv_neT c27_1 (show (1 : Int32).toInt = 1 from rfl)
                have n27_2 := lv_neT c27_2 (show (2 : Int32).toInt = 2 from rfl)
                have n27_3 := lv_neT c27_3 (show (3 : Int32).toInt = 3 from rfl)
                refine lv_tableOut (tgt := 96) hx hb dX7_pair_27 (by omega) (by decide) ?_
                refine lv_aload_n hx hb dX7_pair_96 rfl (lv_at hl 0 rfl) ?_
                refine gf_X7_37 F hP dX7_pair_97 ?_
                refine lv_iload_n hx hb dX7_pair_100 rfl (lv_at hl 1 rfl) ?_
                obtain ⟨r101, σ101, hC101, hG⟩ := f_bd hG
                refine iv_X7_215 F hS hP (c_X4_countMet l E N a1 σ5 _ _ hC101) ⟨Nat.le_of_ble_eq_true rfl, Nat.le_of_ble_eq_true rfl⟩ hl.1 (Nat.le_of_ble_eq_true rfl) dX7_pair_101 ⟨Nat.zero_le _, Nat.zero_le _⟩ (fun H locs hP hS => ?_)
                exact x_ri hR hS hP hG dX7_pair_104
      · have hG := f_in c20 hG
        refine lv_bipush (v := -102) hx hb dX7_pair_23 (by decide) ?_
        exact x_ri hR hS hP hG dX7_pair_25
  · have hG := f_ip c8 hG
    refine lv_bipush (v := -101) hx hb dX7_pair_11 (by decide) ?_
    exact x_ri hR hS hP hG dX7_pair_13
theorem dX7_met_0 : decode cX7_met 0 = .ok (.aload_n 0, 1) := by decide +kernel
theorem dX7_met_1 : decode cX7_met 1 = .ok (.getfield 37, 3) := by decide +kernel
theorem dX7_met_4 : decode cX7_met 4 = .ok (.iload_n 1, 1) := by decide +kernel
theorem dX7_met_5 : decode cX7_met 5 = .ok (.invokevirtual 199, 3) := by decide +kernel
theorem dX7_met_8 : decode cX7_met 8 = .ok (.ifCond .ne 6, 3) := by decide +kernel
theorem dX7_met_11 : decode cX7_met 11 = .ok (.bipush (-101), 2) := by decide +kernel
theorem dX7_met_13 : decode cX7_met 13 = .ok (.ireturn, 1) := by decide +kernel
theorem dX7_met_14 : decode cX7_met 14 = .ok (.iload_n 2, 1) := by decide +kernel
theorem dX7_met_15 : decode cX7_met 15 = .ok (.ifCond .lt 14, 3) := by decide +kernel
theorem dX7_met_18 : decode cX7_met 18 = .ok (.iload_n 2, 1) := by decide +kernel
theorem dX7_met_19 : decode cX7_met 19 = .ok (.aload_n 0, 1) := by decide +kernel
theorem dX7_met_20 : decode cX7_met 20 = .ok (.getfield 37, 3) := by decide +kernel
theorem dX7_met_23 : decode cX7_met 23 = .ok (.getfield 218, 3) := by decide +kernel
theorem dX7_met_26 : decode cX7_met 26 = .ok (.if_icmp .lt 6, 3) := by decide +kernel
theorem dX7_met_29 : decode cX7_met 29 = .ok (.bipush (-102), 2) := by decide +kernel
theorem dX7_met_31 : decode cX7_met 31 = .ok (.ireturn, 1) := by decide +kernel
theorem dX7_met_32 : decode cX7_met 32 = .ok (.aload_n 0, 1) := by decide +kernel
theorem dX7_met_33 : decode cX7_met 33 = .ok (.getfield 37, 3) := by decide +kernel
theorem dX7_met_36 : decode cX7_met 36 = .ok (.iload_n 1, 1) := by decide +kernel
theorem dX7_met_37 : decode cX7_met 37 = .ok (.iload_n 2, 1) := by decide +kernel
theorem dX7_met_38 : decode cX7_met 38 = .ok (.invokevirtual 221, 3) := by decide +kernel
theorem dX7_met_41 : decode cX7_met 41 = .ok (.ifCond .eq 7, 3) := by decide +kernel
theorem dX7_met_44 : decode cX7_met 44 = .ok (.iconst 1, 1) := by decide +kernel
theorem dX7_met_45 : decode cX7_met 45 = .ok (.goto 4, 3) := by decide +kernel
theorem dX7_met_48 : decode cX7_met 48 = .ok (.iconst 0, 1) := by decide +kernel
theorem dX7_met_49 : decode cX7_met 49 = .ok (.ireturn, 1) := by decide +kernel
set_option maxHeartbeats 4000000 in
set_option maxRecDepth 100000 in
theorem c_X7_met (l : Launch) (E : fEv) (N : Nat) (a1 : Int32) (a2 : Int32) (σ : fS) (r : Int32) (τ : fS) (hG : g_X7_met N a1 a2 σ = some (r, τ)) : fM l E yX7_met (.code yX7_met cX7_met 3 (some .int)) rm_X7_met [.ref (E.2.1 0), .int a1, .int a2] σ τ (some (.int r)) := by
  refine f_openI (by decide) (Nat.le_of_ble_eq_true rfl) ?_
  intro p e s m below meth c args Q F hR hP ls hl
  have hx := F.1.1
  have hb := F.1.2.1
  have hown := F.1.2.2.2.1
  have hts := F.1.2.2.2.2
  have hS : va_S (f_A E) s.heap s.heap [] := va_S.rf
  skip
  have hl : lv_has ls 3 [(0, .ref (E.2.1 0)), (1, .int a1), (2, .int a2)] := hl
  unfold g_X7_met at hG
  refine lv_aload_n hx hb dX7_met_0 rfl (lv_at hl 0 rfl) ?_
  refine gf_X7_37 F hP dX7_met_1 ?_
  refine lv_iload_n hx hb dX7_met_4 rfl (lv_at hl 1 rfl) ?_
  obtain ⟨r5, σ5, hC5, hG⟩ := f_bd hG
  refine iv_X7_199 F hS hP (c_X4_has l E N a1 σ _ _ hC5) ⟨Nat.le_of_ble_eq_true rfl, Nat.le_of_ble_eq_true rfl⟩ hl.1 (Nat.le_of_ble_eq_true rfl) dX7_met_5 ⟨Nat.zero_le _, Nat.zero_le _⟩ (fun H locs hP hS => ?_)
  refine lv_if_ne (tgt := 14) hx hb dX7_met_8 (by decide) (fun c8 => ?_) (fun c8 => ?_)
  · have hG := f_in c8 hG
    refine lv_iload_n hx hb dX7_met_14 rfl (lv_at hl 2 rfl) ?_
    refine lv_if_lt (tgt := 29) hx hb dX7_met_15 (by decide) (fun c15 => ?_) (fun c15 => ?_)
    · have hG := f_ip c15 hG
      refine lv_bipush (v := -102) hx hb dX7_met_29 (by decide) ?_
      exact x_ri hR hS hP hG dX7_met_31
    · have hG := f_in c15 hG
      refine lv_iload_n hx hb dX7_met_18 rfl (lv_at hl 2 rfl) ?_
      refine lv_aload_n hx hb dX7_met_19 rfl (lv_at hl 0 rfl) ?_
      refine gf_X7_37 F hP dX7_met_20 ?_
      refine gf_X7_218 F hP dX7_met_23 ?_
      refine lv_icmp_lt (tgt := 32) hx hb dX7_met_26 (by decide) (fun c26 => ?_) (fun c26 => ?_)
      · have hG := f_ip c26 hG
        refine lv_aload_n hx hb dX7_met_32 rfl (lv_at hl 0 rfl) ?_
        refine gf_X7_37 F hP dX7_met_33 ?_
        refine lv_iload_n hx hb dX7_met_36 rfl (lv_at hl 1 rfl) ?_
        refine lv_iload_n hx hb dX7_met_37 rfl (lv_at hl 2 rfl) ?_
        obtain ⟨r38, σ38, hC38, hG⟩ := f_bd hG
        refine iv_X7_221 F hS hP (c_X4_isMet l E N a1 a2 σ5 _ _ hC38) ⟨Nat.le_of_ble_eq_true rfl, Nat.le_of_ble_eq_true rfl⟩ hl.1 (Nat.le_of_ble_eq_true rfl) dX7_met_38 ⟨Nat.zero_le _, Nat.zero_le _⟩ (fun H locs hP hS => ?_)
        refine lv_if_eq (tgt := 48) hx hb dX7_met_41 (by decide) (fun c41 => ?_) (fun c41 => ?_)
        · have hG := f_ip c41 hG
          refine lv_iconst (v := 0) hx hb dX7_met_48 (by decide) ?_
          exact x_ri hR hS hP hG dX7_met_49
        · have hG := f_in c41 hG
          refine lv_iconst (v := 1) hx hb dX7_met_44 (by decide) ?_
          refine lv_goto (tgt := 49) hx hb dX7_met_45 (by decide) ?_
          exact x_ri hR hS hP hG dX7_met_49
      · have hG := f_in c26 hG
        refine lv_bipush (v := -102) hx hb dX7_met_29 (by decide) ?_
        exact x_ri hR hS hP hG dX7_met_31
  · have hG := f_ip c8 hG
    refine lv_bipush (v := -101) hx hb dX7_met_11 (by decide) ?_
    exact x_ri hR hS hP hG dX7_met_13
theorem dX7_lay_0 : decode cX7_lay 0 = .ok (.aload_n 0, 1) := by decide +kernel
theorem dX7_lay_1 : decode cX7_lay 1 = .ok (.getfield 37, 3) := by decide +kernel
theorem dX7_lay_4 : decode cX7_lay 4 = .ok (.iload_n 1, 1) := by decide +kernel
theorem dX7_lay_5 : decode cX7_lay 5 = .ok (.invokevirtual 199, 3) := by decide +kernel
theorem dX7_lay_8 : decode cX7_lay 8 = .ok (.ifCond .eq 10, 3) := by decide +kernel
theorem dX7_lay_11 : decode cX7_lay 11 = .ok (.iload_n 2, 1) := by decide +kernel
theorem dX7_lay_12 : decode cX7_lay 12 = .ok (.invokestatic 69, 3) := by decide +kernel
theorem dX7_lay_15 : decode cX7_lay 15 = .ok (.ifCond .ne 6, 3) := by decide +kernel
theorem dX7_lay_18 : decode cX7_lay 18 = .ok (.bipush (-101), 2) := by decide +kernel
theorem dX7_lay_20 : decode cX7_lay 20 = .ok (.ireturn, 1) := by decide +kernel
theorem dX7_lay_21 : decode cX7_lay 21 = .ok (.aload_n 0, 1) := by decide +kernel
theorem dX7_lay_22 : decode cX7_lay 22 = .ok (.getfield 37, 3) := by decide +kernel
theorem dX7_lay_25 : decode cX7_lay 25 = .ok (.getfield 218, 3) := by decide +kernel
theorem dX7_lay_28 : decode cX7_lay 28 = .ok (.invokestatic 224, 3) := by decide +kernel
theorem dX7_lay_31 : decode cX7_lay 31 = .ok (.iconst 1, 1) := by decide +kernel
theorem dX7_lay_32 : decode cX7_lay 32 = .ok (.if_icmp .eq 6, 3) := by decide +kernel
theorem dX7_lay_35 : decode cX7_lay 35 = .ok (.bipush (-103), 2) := by decide +kernel
theorem dX7_lay_37 : decode cX7_lay 37 = .ok (.ireturn, 1) := by decide +kernel
theorem dX7_lay_38 : decode cX7_lay 38 = .ok (.aload_n 0, 1) := by decide +kernel
theorem dX7_lay_39 : decode cX7_lay 39 = .ok (.getfield 37, 3) := by decide +kernel
theorem dX7_lay_42 : decode cX7_lay 42 = .ok (.getfield 202, 3) := by decide +kernel
theorem dX7_lay_45 : decode cX7_lay 45 = .ok (.iload_n 1, 1) := by decide +kernel
theorem dX7_lay_46 : decode cX7_lay 46 = .ok (.iaload, 1) := by decide +kernel
theorem dX7_lay_47 : decode cX7_lay 47 = .ok (.istore_n 3, 1) := by decide +kernel
theorem dX7_lay_48 : decode cX7_lay 48 = .ok (.aload_n 0, 1) := by decide +kernel
theorem dX7_lay_49 : decode cX7_lay 49 = .ok (.getfield 23, 3) := by decide +kernel
theorem dX7_lay_52 : decode cX7_lay 52 = .ok (.invokevirtual 168, 3) := by decide +kernel
theorem dX7_lay_55 : decode cX7_lay 55 = .ok (.aload_n 0, 1) := by decide +kernel
theorem dX7_lay_56 : decode cX7_lay 56 = .ok (.getfield 23, 3) := by decide +kernel
theorem dX7_lay_59 : decode cX7_lay 59 = .ok (.iload_n 3, 1) := by decide +kernel
theorem dX7_lay_60 : decode cX7_lay 60 = .ok (.invokestatic 88, 3) := by decide +kernel
theorem dX7_lay_63 : decode cX7_lay 63 = .ok (.invokevirtual 184, 3) := by decide +kernel
theorem dX7_lay_66 : decode cX7_lay 66 = .ok (.aload_n 0, 1) := by decide +kernel
theorem dX7_lay_67 : decode cX7_lay 67 = .ok (.getfield 23, 3) := by decide +kernel
theorem dX7_lay_70 : decode cX7_lay 70 = .ok (.iload_n 3, 1) := by decide +kernel
theorem dX7_lay_71 : decode cX7_lay 71 = .ok (.aload_n 0, 1) := by decide +kernel
theorem dX7_lay_72 : decode cX7_lay 72 = .ok (.getfield 37, 3) := by decide +kernel
theorem dX7_lay_75 : decode cX7_lay 75 = .ok (.getfield 218, 3) := by decide +kernel
theorem dX7_lay_78 : decode cX7_lay 78 = .ok (.imul, 1) := by decide +kernel
theorem dX7_lay_79 : decode cX7_lay 79 = .ok (.invokestatic 88, 3) := by decide +kernel
theorem dX7_lay_82 : decode cX7_lay 82 = .ok (.invokevirtual 184, 3) := by decide +kernel
theorem dX7_lay_85 : decode cX7_lay 85 = .ok (.aload_n 0, 1) := by decide +kernel
theorem dX7_lay_86 : decode cX7_lay 86 = .ok (.iload_n 2, 1) := by decide +kernel
theorem dX7_lay_87 : decode cX7_lay 87 = .ok (.invokevirtual 76, 3) := by decide +kernel
theorem dX7_lay_90 : decode cX7_lay 90 = .ok (.aload_n 0, 1) := by decide +kernel
theorem dX7_lay_91 : decode cX7_lay 91 = .ok (.getfield 18, 3) := by decide +kernel
theorem dX7_lay_94 : decode cX7_lay 94 = .ok (.iload_n 2, 1) := by decide +kernel
theorem dX7_lay_95 : decode cX7_lay 95 = .ok (.aaload, 1) := by decide +kernel
theorem dX7_lay_96 : decode cX7_lay 96 = .ok (.invokevirtual 122, 3) := by decide +kernel
theorem dX7_lay_99 : decode cX7_lay 99 = .ok (.ireturn, 1) := by decide +kernel
set_option maxHeartbeats 4000000 in
set_option maxRecDepth 100000 in
theorem c_X7_lay (l : Launch) (E : fEv) (N : Nat) (a1 : Int32) (a2 : Int32) (σ : fS) (r : Int32) (τ : fS) (hG : g_X7_lay N a1 a2 σ = some (r, τ)) : fM l E yX7_lay (.code yX7_lay cX7_lay 4 (some .int)) rm_X7_lay [.ref (E.2.1 0), .int a1, .int a2] σ τ (some (.int r)) := by
  refine f_openI (by decide) (Nat.le_of_ble_eq_true rfl) ?_
  intro p e s m below meth c args Q F hR hP ls hl
  have hx := F.1.1
  have hb := F.1.2.1
  have hown := F.1.2.2.2.1
  have hts := F.1.2.2.2.2
  have hS : va_S (f_A E) s.heap s.heap [] := va_S.rf
  skip
  have hl : lv_has ls 4 [(0, .ref (E.2.1 0)), (1, .int a1), (2, .int a2)] := hl
  unfold g_X7_lay at hG
  refine lv_aload_n hx hb dX7_lay_0 rfl (lv_at hl 0 rfl) ?_
  refine gf_X7_37 F hP dX7_lay_1 ?_
  refine lv_iload_n hx hb dX7_lay_4 rfl (lv_at hl 1 rfl) ?_
  obtain ⟨r5, σ5, hC5, hG⟩ := f_bd hG
  refine iv_X7_199 F hS hP (c_X4_has l E N a1 σ _ _ hC5) ⟨Nat.le_of_ble_eq_true rfl, Nat.le_of_ble_eq_true rfl⟩ hl.1 (Nat.le_of_ble_eq_true rfl) dX7_lay_5 ⟨Nat.zero_le _, Nat.zero_le _⟩ (fun H locs hP hS => ?_)
  refine lv_if_eq (tgt := 18) hx hb dX7_lay_8 (by decide) (fun c8 => ?_) (fun c8 => ?_)
  · have hG := f_ip c8 hG
    refine lv_bipush (v := -101) hx hb dX7_lay_18 (by decide) ?_
    exact x_ri hR hS hP hG dX7_lay_20
  · have hG := f_in c8 hG
    refine lv_iload_n hx hb dX7_lay_11 rfl (lv_at hl 2 rfl) ?_
    obtain ⟨r12, σ12, hC12, hG⟩ := f_bd hG
    refine iv_X7_69 F hS hP (c_X7_isShelf l E N a2 σ5 _ _ hC12) ⟨Nat.le_of_ble_eq_true rfl, Nat.le_of_ble_eq_true rfl⟩ hl.1 (Nat.le_of_ble_eq_true rfl) dX7_lay_12 ⟨Nat.zero_le _, Nat.zero_le _⟩ (fun H locs hP hS => ?_)
    refine lv_if_ne (tgt := 21) hx hb dX7_lay_15 (by decide) (fun c15 => ?_) (fun c15 => ?_)
    · have hG := f_in c15 hG
      refine lv_aload_n hx hb dX7_lay_21 rfl (lv_at hl 0 rfl) ?_
      refine gf_X7_37 F hP dX7_lay_22 ?_
      refine gf_X7_218 F hP dX7_lay_25 ?_
      obtain ⟨r28, σ28, hC28, hG⟩ := f_bd hG
      refine iv_X7_224 F hS hP (c_X2_roughPart l E N (σ12.1 9 6) σ12 _ _ hC28) ⟨Nat.le_of_ble_eq_true rfl, Nat.le_of_ble_eq_true rfl⟩ hl.1 (Nat.le_of_ble_eq_true rfl) dX7_lay_28 ⟨Nat.zero_le _, Nat.zero_le _⟩ (fun H locs hP hS => ?_)
      refine lv_iconst (v := 1) hx hb dX7_lay_31 (by decide) ?_
      refine lv_icmp_eq (tgt := 38) hx hb dX7_lay_32 (by decide) (fun c32 => ?_) (fun c32 => ?_)
      · have hG := f_ip c32 hG
        refine lv_aload_n hx hb dX7_lay_38 rfl (lv_at hl 0 rfl) ?_
        refine gf_X7_37 F hP dX7_lay_39 ?_
        refine gf_X7_202 F hP dX7_lay_42 ?_
        refine lv_iload_n hx hb dX7_lay_45 rfl (lv_at hl 1 rfl) ?_
        obtain ⟨h46, hG⟩ := f_gd hG
        have i46 := f_fin h46
        refine x_iald F hP rfl rfl i46 dX7_lay_46 ?_
        refine lv_topi (fun v47 e47 => ?_)
        have hG := f_lt hG e47
        refine lv_istore_n (lv' := [(3, .int v47), (0, .ref (E.2.1 0)), (1, .int a1), (2, .int a2)]) hx hb dX7_lay_47 rfl hl (by decide) rfl (fun ls hl => ?_)
        refine lv_aload_n hx hb dX7_lay_48 rfl (lv_at hl 1 rfl) ?_
        refine gf_X7_23 F hP dX7_lay_49 ?_
        obtain ⟨σ52, hC52, hG⟩ := f_bv hG
        refine iv_X7_168 F hS hP rfl (c_X0_empty l E N 4 rfl σ28 _ hC52) ⟨Nat.le_of_ble_eq_true rfl, Nat.le_of_ble_eq_true rfl⟩ hl.1 (Nat.le_of_ble_eq_true rfl) dX7_lay_52 ⟨Nat.zero_le _, Nat.zero_le _⟩ (fun H locs hP hS => ?_)
        refine lv_aload_n hx hb dX7_lay_55 rfl (lv_at hl 1 rfl) ?_
        refine gf_X7_23 F hP dX7_lay_56 ?_
        refine lv_iload_n hx hb dX7_lay_59 rfl (lv_at hl 0 rfl) ?_
        obtain ⟨r60, σ60, hC60, hG⟩ := f_bd hG
        refine iv_X7_88 F hS hP (c_X2_kindOf l E N v47 σ52 _ _ hC60) ⟨Nat.le_of_ble_eq_true rfl, Nat.le_of_ble_eq_true rfl⟩ hl.1 (Nat.le_of_ble_eq_true rfl) dX7_lay_60 ⟨Nat.zero_le _, Nat.zero_le _⟩ (fun H locs hP hS => ?_)
        obtain ⟨σ63, hC63, hG⟩ := f_bv hG
        refine iv_X7_184 F hS hP rfl (c_X0_add l E N 4 r60 rfl σ60 _ hC63) ⟨Nat.le_of_ble_eq_true rfl, Nat.le_of_ble_eq_true rfl⟩ hl.1 (Nat.le_of_ble_eq_true rfl) dX7_lay_63 ⟨Nat.zero_le _, Nat.zero_le _⟩ (fun H locs hP hS => ?_)
        refine lv_aload_n hx hb dX7_lay_66 rfl (lv_at hl 1 rfl) ?_
        refine gf_X7_23 F hP dX7_lay_67 ?_
        refine lv_iload_n hx hb dX7_lay_70 rfl (lv_at hl 0 rfl) ?_
        refine lv_aload_n hx hb dX7_lay_71 rfl (lv_at hl 1 rfl) ?_
        refine gf_X7_37 F hP dX7_lay_72 ?_
        refine gf_X7_218 F hP dX7_lay_75 ?_
        refine lv_imul hx hb dX7_lay_78 ?_
        obtain ⟨r79, σ79, hC79, hG⟩ := f_bd hG
        refine iv_X7_88 F hS hP (c_X2_kindOf l E N (v47 * (σ63.1 9 6)) σ63 _ _ hC79) ⟨Nat.le_of_ble_eq_true rfl, Nat.le_of_ble_eq_true rfl⟩ hl.1 (Nat.le_of_ble_eq_true rfl) dX7_lay_79 ⟨Nat.zero_le _, Nat.zero_le _⟩ (fun H locs hP hS => ?_)
        obtain ⟨σ82, hC82, hG⟩ := f_bv hG
        refine iv_X7_184 F hS hP rfl (c_X0_add l E N 4 r79 rfl σ79 _ hC82) ⟨Nat.le_of_ble_eq_true rfl, Nat.le_of_ble_eq_true rfl⟩ hl.1 (Nat.le_of_ble_eq_true rfl) dX7_lay_82 ⟨Nat.zero_le _, Nat.zero_le _⟩ (fun H locs hP hS => ?_)
        refine lv_aload_n hx hb dX7_lay_85 rfl (lv_at hl 1 rfl) ?_
        refine lv_iload_n hx hb dX7_lay_86 rfl (lv_at hl 3 rfl) ?_
        obtain ⟨σ87, hC87, hG⟩ := f_bv hG
        refine iv_X7_76 F hS hP (c_X7_shelveDraft l E N a2 σ82 _ hC87) ⟨Nat.le_of_ble_eq_true rfl, Nat.le_of_ble_eq_true rfl⟩ hl.1 (Nat.le_of_ble_eq_true rfl) dX7_lay_87 ⟨Nat.zero_le _, Nat.zero_le _⟩ (fun H locs hP hS => ?_)
        refine lv_aload_n hx hb dX7_lay_90 rfl (lv_at hl 1 rfl) ?_
        refine gf_X7_18 F hP dX7_lay_91 ?_
        refine lv_iload_n hx hb dX7_lay_94 rfl (lv_at hl 3 rfl) ?_
        obtain ⟨h95, hG⟩ := f_gd hG
        have i95 := f_fin h95
        refine x_aald F hP rfl rfl i95 dX7_lay_95 ?_
        obtain ⟨r96, σ96, hC96, hG⟩ := f_bd hG
        refine iv_X7_122 F hS hP (kd_s i95) (c_X0_det l E N (er 3 (a2).toNatClampNeg) (kd_s i95) σ87 _ _ hC96) ⟨Nat.le_of_ble_eq_true rfl, Nat.le_of_ble_eq_true rfl⟩ hl.1 (Nat.le_of_ble_eq_true rfl) dX7_lay_96 ⟨Nat.zero_le _, Nat.zero_le _⟩ (fun H locs hP hS => ?_)
        exact x_ri hR hS hP hG dX7_lay_99
      · have hG := f_in c32 hG
        refine lv_bipush (v := -103) hx hb dX7_lay_35 (by decide) ?_
        exact x_ri hR hS hP hG dX7_lay_37
    · have hG := f_ip c15 hG
      refine lv_bipush (v := -101) hx hb dX7_lay_18 (by decide) ?_
      exact x_ri hR hS hP hG dX7_lay_20
theorem dX7_countForms_0 : decode cX7_countForms 0 = .ok (.iconst 0, 1) := by decide +kernel
theorem dX7_countForms_1 : decode cX7_countForms 1 = .ok (.istore_n 1, 1) := by decide +kernel
theorem dX7_countForms_2 : decode cX7_countForms 2 = .ok (.iconst 0, 1) := by decide +kernel
theorem dX7_countForms_3 : decode cX7_countForms 3 = .ok (.istore_n 2, 1) := by decide +kernel
theorem dX7_countForms_4 : decode cX7_countForms 4 = .ok (.iload_n 2, 1) := by decide +kernel
theorem dX7_countForms_5 : decode cX7_countForms 5 = .ok (.bipush 8, 2) := by decide +kernel
theorem dX7_countForms_7 : decode cX7_countForms 7 = .ok (.if_icmp .ge 25, 3) := by decide +kernel
theorem dX7_countForms_10 : decode cX7_countForms 10 = .ok (.iload_n 1, 1) := by decide +kernel
theorem dX7_countForms_11 : decode cX7_countForms 11 = .ok (.aload_n 0, 1) := by decide +kernel
theorem dX7_countForms_12 : decode cX7_countForms 12 = .ok (.iload_n 2, 1) := by decide +kernel
theorem dX7_countForms_13 : decode cX7_countForms 13 = .ok (.invokevirtual 115, 3) := by decide +kernel
theorem dX7_countForms_16 : decode cX7_countForms 16 = .ok (.ifCond .eq 7, 3) := by decide +kernel
theorem dX7_countForms_19 : decode cX7_countForms 19 = .ok (.iconst 1, 1) := by decide +kernel
theorem dX7_countForms_20 : decode cX7_countForms 20 = .ok (.goto 4, 3) := by decide +kernel
theorem dX7_countForms_23 : decode cX7_countForms 23 = .ok (.iconst 0, 1) := by decide +kernel
theorem dX7_countForms_24 : decode cX7_countForms 24 = .ok (.iadd, 1) := by decide +kernel
theorem dX7_countForms_25 : decode cX7_countForms 25 = .ok (.istore_n 1, 1) := by decide +kernel
theorem dX7_countForms_26 : decode cX7_countForms 26 = .ok (.iinc 2 1, 3) := by decide +kernel
theorem dX7_countForms_29 : decode cX7_countForms 29 = .ok (.goto (-25), 3) := by decide +kernel
theorem dX7_countForms_32 : decode cX7_countForms 32 = .ok (.iload_n 1, 1) := by decide +kernel
theorem dX7_countForms_33 : decode cX7_countForms 33 = .ok (.ireturn, 1) := by decide +kernel
set_option maxHeartbeats 4000000 in
set_option maxRecDepth 100000 in
theorem c_X7_countForms (l : Launch) (E : fEv) (N : Nat)  (σ : fS) (r : Int32) (τ : fS) (hG : g_X7_countForms N  σ = some (r, τ)) : fM l E yX7_countForms (.code yX7_countForms cX7_countForms 3 (some .int)) rm_X7_countForms [.ref (E.2.1 0)] σ τ (some (.int r)) := by
  refine f_openI (by decide) (Nat.le_of_ble_eq_true rfl) ?_
  intro p e s m below meth c args Q F hR hP ls hl
  have hx := F.1.1
  have hb := F.1.2.1
  have hown := F.1.2.2.2.1
  have hts := F.1.2.2.2.2
  have hS : va_S (f_A E) s.heap s.heap [] := va_S.rf
  skip
  have hl : lv_has ls 3 [(0, .ref (E.2.1 0))] := hl
  unfold g_X7_countForms at hG
  refine lv_iconst (v := 0) hx hb dX7_countForms_0 (by decide) ?_
  refine lv_istore_n (lv' := [(1, .int (0 : Int32)), (0, .ref (E.2.1 0))]) hx hb dX7_countForms_1 rfl hl (by decide) rfl (fun ls hl => ?_)
  refine lv_iconst (v := 0) hx hb dX7_countForms_2 (by decide) ?_
  refine lv_istore_n (lv' := [(2, .int (0 : Int32)), (1, .int (0 : Int32)), (0, .ref (E.2.1 0))]) hx hb dX7_countForms_3 rfl hl (by decide) rfl (fun ls hl => ?_)
  obtain ⟨o4, σl4, hT4, hG⟩ := f_bd hG
  have T4 : ∀ (H : Heap) (locs : List Loc) (ls : Array Slot), f_h E σl4 H → va_S (f_A E) s.heap H locs → lv_has ls 3 [(1, .int o4)] → W p l e rm_X7_countForms s m args below meth c H locs 0 0 Q (F0 m 32 ls []) := by
    intro H locs ls hP hS hl
    refine lv_iload_n hx hb dX7_countForms_32 rfl (lv_at hl 0 rfl) ?_
    exact x_ri hR hS hP hG dX7_countForms_33
  have L4 : ∀ (n4 : Nat) (x4_1 : Int32) (x4_2 : Int32) (σh4 : fS) (H : Heap) (locs : List Loc) (ls : Array Slot), f_h E σh4 H → va_S (f_A E) s.heap H locs → lv_has ls 3 [(0, .ref (E.2.1 0)), (1, .int x4_1), (2, .int x4_2)] → lp_X7_countForms_4 N n4 x4_1 x4_2 σh4 = some (o4, σl4) → W p l e rm_X7_countForms s m args below meth c H locs 0 0 Q (F0 m 4 ls []) := by
    intro n4
    induction n4 with
    | zero =>
      intro x4_1 x4_2 σh4 H locs ls hP hS hl hG
      rw [lp_X7_countForms_4] at hG
      cases hG
    | succ n4 ih4 =>
      intro x4_1 x4_2 σh4 H locs ls hP hS hl hG
      rw [lp_X7_countForms_4] at hG
      refine lv_iload_n hx hb dX7_countForms_4 rfl (lv_at hl 2 rfl) ?_
      refine lv_bipush (v := 8) hx hb dX7_countForms_5 (by decide) ?_
      refine lv_icmp_ge (tgt := 32) hx hb dX7_countForms_7 (by decide) (fun c7 => ?_) (fun c7 => ?_)
      · have hG := f_ip c7 hG
        cases hG
        exact T4 _ _ _ hP hS (lv_sub hl [1] rfl)
      · have hG := f_in c7 hG
        refine lv_iload_n hx hb dX7_countForms_10 rfl (lv_at hl 1 rfl) ?_
        refine lv_aload_n hx hb dX7_countForms_11 rfl (lv_at hl 0 rfl) ?_
        refine lv_iload_n hx hb dX7_countForms_12 rfl (lv_at hl 2 rfl) ?_
        obtain ⟨r13, σ13, hC13, hG⟩ := f_bd hG
        refine iv_X7_115 F hS hP (c_X7_hasForm l E N x4_2 σh4 _ _ hC13) ⟨Nat.le_of_ble_eq_true rfl, Nat.le_of_ble_eq_true rfl⟩ hl.1 (Nat.le_of_ble_eq_true rfl) dX7_countForms_13 ⟨Nat.zero_le _, Nat.zero_le _⟩ (fun H locs hP hS => ?_)
        refine lv_if_eq (tgt := 23) hx hb dX7_countForms_16 (by decide) (fun c16 => ?_) (fun c16 => ?_)
        · have hG := f_ip c16 hG
          refine lv_iconst (v := 0) hx hb dX7_countForms_23 (by decide) ?_
          refine lv_iadd hx hb dX7_countForms_24 ?_
          refine lv_topi (fun v25 e25 => ?_)
          have hG := f_lt hG e25
          refine lv_istore_n (lv' := [(1, .int v25), (0, .ref (E.2.1 0)), (2, .int x4_2)]) hx hb dX7_countForms_25 rfl hl (by decide) rfl (fun ls hl => ?_)
          refine lv_iinc (v := (x4_2 + (1 : Int32))) (lv' := [(2, .int (x4_2 + (1 : Int32))), (1, .int v25), (0, .ref (E.2.1 0))]) hx hb dX7_countForms_26 hl (k := 2) rfl (by rfl) (by decide) rfl (fun ls hl => ?_)
          refine lv_goto (tgt := 4) hx hb dX7_countForms_29 (by decide) ?_
          exact ih4 v25 (x4_2 + (1 : Int32)) σ13 _ _ _ hP hS (lv_sub hl [2, 1, 0] rfl) hG
        · have hG := f_in c16 hG
          refine lv_iconst (v := 1) hx hb dX7_countForms_19 (by decide) ?_
          refine lv_goto (tgt := 24) hx hb dX7_countForms_20 (by decide) ?_
          refine lv_iadd hx hb dX7_countForms_24 ?_
          refine lv_topi (fun v25 e25 => ?_)
          have hG := f_lt hG e25
          refine lv_istore_n (lv' := [(1, .int v25), (0, .ref (E.2.1 0)), (2, .int x4_2)]) hx hb dX7_countForms_25 rfl hl (by decide) rfl (fun ls hl => ?_)
          refine lv_iinc (v := (x4_2 + (1 : Int32))) (lv' := [(2, .int (x4_2 + (1 : Int32))), (1, .int v25), (0, .ref (E.2.1 0))]) hx hb dX7_countForms_26 hl (k := 2) rfl (by rfl) (by decide) rfl (fun ls hl => ?_)
          refine lv_goto (tgt := 4) hx hb dX7_countForms_29 (by decide) ?_
          exact ih4 v25 (x4_2 + (1 : Int32)) σ13 _ _ _ hP hS (lv_sub hl [2, 1, 0] rfl) hG
  exact L4 N (0 : Int32) (0 : Int32) σ _ _ _ hP hS (lv_sub hl [2, 1, 0] rfl) hT4
