theorem dX8_pair_0 : decode cX8_pair 0 = .ok (.aload_n 0, 1) := by decide +kernel
theorem dX8_pair_1 : decode cX8_pair 1 = .ok (.iload_n 1, 1) := by decide +kernel
theorem dX8_pair_2 : decode cX8_pair 2 = .ok (.invokevirtual 279, 3) := by decide +kernel
theorem dX8_pair_5 : decode cX8_pair 5 = .ok (.ifCond .ne 8, 3) := by decide +kernel
theorem dX8_pair_8 : decode cX8_pair 8 = .ok (.bipush (-101), 2) := by decide +kernel
theorem dX8_pair_10 : decode cX8_pair 10 = .ok (.goto 23, 3) := by decide +kernel
theorem dX8_pair_13 : decode cX8_pair 13 = .ok (.iload_n 2, 1) := by decide +kernel
theorem dX8_pair_14 : decode cX8_pair 14 = .ok (.iconst 0, 1) := by decide +kernel
theorem dX8_pair_15 : decode cX8_pair 15 = .ok (.iconst 4, 1) := by decide +kernel
theorem dX8_pair_16 : decode cX8_pair 16 = .ok (.invokestatic 89, 3) := by decide +kernel
theorem dX8_pair_19 : decode cX8_pair 19 = .ok (.ifCond .eq 12, 3) := by decide +kernel
theorem dX8_pair_22 : decode cX8_pair 22 = .ok (.aload_n 0, 1) := by decide +kernel
theorem dX8_pair_23 : decode cX8_pair 23 = .ok (.iload_n 1, 1) := by decide +kernel
theorem dX8_pair_24 : decode cX8_pair 24 = .ok (.iload_n 2, 1) := by decide +kernel
theorem dX8_pair_25 : decode cX8_pair 25 = .ok (.invokevirtual 282, 3) := by decide +kernel
theorem dX8_pair_28 : decode cX8_pair 28 = .ok (.goto 5, 3) := by decide +kernel
theorem dX8_pair_31 : decode cX8_pair 31 = .ok (.bipush (-102), 2) := by decide +kernel
theorem dX8_pair_33 : decode cX8_pair 33 = .ok (.ireturn, 1) := by decide +kernel
set_option maxHeartbeats 4000000 in
set_option maxRecDepth 100000 in
theorem c_X8_pair (l : Launch) (E : fEv) (N : Nat) (a1 : Int32) (a2 : Int32) (σ : fS) (r : Int32) (τ : fS) (hG : g_X8_pair N a1 a2 σ = some (r, τ)) : fM l E yX8_pair (.code yX8_pair cX8_pair 3 (some .int)) rm_X8_pair [.ref (E.2.1 61), .int a1, .int a2] σ τ (some (.int r)) := by
  refine f_openI (by decide) (Nat.le_of_ble_eq_true rfl) ?_
  intro p e s m below meth c args Q F hR hP ls hl
  have hx := F.1.1
  have hb := F.1.2.1
  have hown := F.1.2.2.2.1
  have hts := F.1.2.2.2.2
  have hS : va_S (f_A E) s.heap s.heap [] := va_S.rf
  skip
  have hl : lv_has ls 3 [(0, .ref (E.2.1 61)), (1, .int a1), (2, .int a2)] := hl
  unfold g_X8_pair at hG
  refine lv_aload_n hx hb dX8_pair_0 rfl (lv_at hl 0 rfl) ?_
  refine lv_iload_n hx hb dX8_pair_1 rfl (lv_at hl 1 rfl) ?_
  obtain ⟨r2, σ2, hC2, hG⟩ := f_bd hG
  refine iv_X8_279 F hS hP (c_X8_isPair l E N a1 σ _ _ hC2) ⟨Nat.le_of_ble_eq_true rfl, Nat.le_of_ble_eq_true rfl⟩ hl.1 (Nat.le_of_ble_eq_true rfl) dX8_pair_2 ⟨Nat.zero_le _, Nat.zero_le _⟩ (fun H locs hP hS => ?_)
  refine lv_if_ne (tgt := 13) hx hb dX8_pair_5 (by decide) (fun c5 => ?_) (fun c5 => ?_)
  · have hG := f_in c5 hG
    refine lv_iload_n hx hb dX8_pair_13 rfl (lv_at hl 2 rfl) ?_
    refine lv_iconst (v := 0) hx hb dX8_pair_14 (by decide) ?_
    refine lv_iconst (v := 4) hx hb dX8_pair_15 (by decide) ?_
    obtain ⟨r16, σ16, hC16, hG⟩ := f_bd hG
    refine iv_X8_89 F hS hP (c_X8_within l E N a2 (0 : Int32) (4 : Int32) σ2 _ _ hC16) ⟨Nat.le_of_ble_eq_true rfl, Nat.le_of_ble_eq_true rfl⟩ hl.1 (Nat.le_of_ble_eq_true rfl) dX8_pair_16 ⟨Nat.zero_le _, Nat.zero_le _⟩ (fun H locs hP hS => ?_)
    refine lv_if_eq (tgt := 31) hx hb dX8_pair_19 (by decide) (fun c19 => ?_) (fun c19 => ?_)
    · have hG := f_ip c19 hG
      refine lv_bipush (v := -102) hx hb dX8_pair_31 (by decide) ?_
      exact x_ri hR hS hP hG dX8_pair_33
    · have hG := f_in c19 hG
      refine lv_aload_n hx hb dX8_pair_22 rfl (lv_at hl 0 rfl) ?_
      refine lv_iload_n hx hb dX8_pair_23 rfl (lv_at hl 1 rfl) ?_
      refine lv_iload_n hx hb dX8_pair_24 rfl (lv_at hl 2 rfl) ?_
      obtain ⟨r25, σ25, hC25, hG⟩ := f_bd hG
      refine iv_X8_282 F hS hP (c_X8_pairNow l E N a1 a2 σ16 _ _ hC25) ⟨Nat.le_of_ble_eq_true rfl, Nat.le_of_ble_eq_true rfl⟩ hl.1 (Nat.le_of_ble_eq_true rfl) dX8_pair_25 ⟨Nat.zero_le _, Nat.zero_le _⟩ (fun H locs hP hS => ?_)
      refine lv_goto (tgt := 33) hx hb dX8_pair_28 (by decide) ?_
      exact x_ri hR hS hP hG dX8_pair_33
  · have hG := f_ip c5 hG
    refine lv_bipush (v := -101) hx hb dX8_pair_8 (by decide) ?_
    refine lv_goto (tgt := 33) hx hb dX8_pair_10 (by decide) ?_
    exact x_ri hR hS hP hG dX8_pair_33
theorem dX8_met_0 : decode cX8_met 0 = .ok (.aload_n 0, 1) := by decide +kernel
theorem dX8_met_1 : decode cX8_met 1 = .ok (.iload_n 1, 1) := by decide +kernel
theorem dX8_met_2 : decode cX8_met 2 = .ok (.invokevirtual 279, 3) := by decide +kernel
theorem dX8_met_5 : decode cX8_met 5 = .ok (.ifCond .ne 6, 3) := by decide +kernel
theorem dX8_met_8 : decode cX8_met 8 = .ok (.bipush (-101), 2) := by decide +kernel
theorem dX8_met_10 : decode cX8_met 10 = .ok (.ireturn, 1) := by decide +kernel
theorem dX8_met_11 : decode cX8_met 11 = .ok (.iload_n 2, 1) := by decide +kernel
theorem dX8_met_12 : decode cX8_met 12 = .ok (.iconst 0, 1) := by decide +kernel
theorem dX8_met_13 : decode cX8_met 13 = .ok (.aload_n 0, 1) := by decide +kernel
theorem dX8_met_14 : decode cX8_met 14 = .ok (.getfield 260, 3) := by decide +kernel
theorem dX8_met_17 : decode cX8_met 17 = .ok (.iconst 1, 1) := by decide +kernel
theorem dX8_met_18 : decode cX8_met 18 = .ok (.isub, 1) := by decide +kernel
theorem dX8_met_19 : decode cX8_met 19 = .ok (.invokestatic 89, 3) := by decide +kernel
theorem dX8_met_22 : decode cX8_met 22 = .ok (.ifCond .ne 8, 3) := by decide +kernel
theorem dX8_met_25 : decode cX8_met 25 = .ok (.bipush (-102), 2) := by decide +kernel
theorem dX8_met_27 : decode cX8_met 27 = .ok (.goto 23, 3) := by decide +kernel
theorem dX8_met_30 : decode cX8_met 30 = .ok (.aload_n 0, 1) := by decide +kernel
theorem dX8_met_31 : decode cX8_met 31 = .ok (.getfield 54, 3) := by decide +kernel
theorem dX8_met_34 : decode cX8_met 34 = .ok (.sipush 160, 3) := by decide +kernel
theorem dX8_met_37 : decode cX8_met 37 = .ok (.iload_n 1, 1) := by decide +kernel
theorem dX8_met_38 : decode cX8_met 38 = .ok (.imul, 1) := by decide +kernel
theorem dX8_met_39 : decode cX8_met 39 = .ok (.iload_n 2, 1) := by decide +kernel
theorem dX8_met_40 : decode cX8_met 40 = .ok (.iadd, 1) := by decide +kernel
theorem dX8_met_41 : decode cX8_met 41 = .ok (.baload, 1) := by decide +kernel
theorem dX8_met_42 : decode cX8_met 42 = .ok (.ifCond .eq 7, 3) := by decide +kernel
theorem dX8_met_45 : decode cX8_met 45 = .ok (.iconst 1, 1) := by decide +kernel
theorem dX8_met_46 : decode cX8_met 46 = .ok (.goto 4, 3) := by decide +kernel
theorem dX8_met_49 : decode cX8_met 49 = .ok (.iconst 0, 1) := by decide +kernel
theorem dX8_met_50 : decode cX8_met 50 = .ok (.ireturn, 1) := by decide +kernel
set_option maxHeartbeats 4000000 in
set_option maxRecDepth 100000 in
theorem c_X8_met (l : Launch) (E : fEv) (N : Nat) (a1 : Int32) (a2 : Int32) (σ : fS) (r : Int32) (τ : fS) (hG : g_X8_met N a1 a2 σ = some (r, τ)) : fM l E yX8_met (.code yX8_met cX8_met 3 (some .int)) rm_X8_met [.ref (E.2.1 61), .int a1, .int a2] σ τ (some (.int r)) := by
  refine f_openI (by decide) (Nat.le_of_ble_eq_true rfl) ?_
  intro p e s m below meth c args Q F hR hP ls hl
  have hx := F.1.1
  have hb := F.1.2.1
  have hown := F.1.2.2.2.1
  have hts := F.1.2.2.2.2
  have hS : va_S (f_A E) s.heap s.heap [] := va_S.rf
  skip
  have hl : lv_has ls 3 [(0, .ref (E.2.1 61)), (1, .int a1), (2, .int a2)] := hl
  unfold g_X8_met at hG
  refine lv_aload_n hx hb dX8_met_0 rfl (lv_at hl 0 rfl) ?_
  refine lv_iload_n hx hb dX8_met_1 rfl (lv_at hl 1 rfl) ?_
  obtain ⟨r2, σ2, hC2, hG⟩ := f_bd hG
  refine iv_X8_279 F hS hP (c_X8_isPair l E N a1 σ _ _ hC2) ⟨Nat.le_of_ble_eq_true rfl, Nat.le_of_ble_eq_true rfl⟩ hl.1 (Nat.le_of_ble_eq_true rfl) dX8_met_2 ⟨Nat.zero_le _, Nat.zero_le _⟩ (fun H locs hP hS => ?_)
  refine lv_if_ne (tgt := 11) hx hb dX8_met_5 (by decide) (fun c5 => ?_) (fun c5 => ?_)
  · have hG := f_in c5 hG
    refine lv_iload_n hx hb dX8_met_11 rfl (lv_at hl 2 rfl) ?_
    refine lv_iconst (v := 0) hx hb dX8_met_12 (by decide) ?_
    refine lv_aload_n hx hb dX8_met_13 rfl (lv_at hl 0 rfl) ?_
    refine gf_X8_260 F hP dX8_met_14 ?_
    refine lv_iconst (v := 1) hx hb dX8_met_17 (by decide) ?_
    refine lv_isub hx hb dX8_met_18 ?_
    obtain ⟨r19, σ19, hC19, hG⟩ := f_bd hG
    refine iv_X8_89 F hS hP (c_X8_within l E N a2 (0 : Int32) ((σ2.1 61 13) - (1 : Int32)) σ2 _ _ hC19) ⟨Nat.le_of_ble_eq_true rfl, Nat.le_of_ble_eq_true rfl⟩ hl.1 (Nat.le_of_ble_eq_true rfl) dX8_met_19 ⟨Nat.zero_le _, Nat.zero_le _⟩ (fun H locs hP hS => ?_)
    refine lv_if_ne (tgt := 30) hx hb dX8_met_22 (by decide) (fun c22 => ?_) (fun c22 => ?_)
    · have hG := f_in c22 hG
      refine lv_aload_n hx hb dX8_met_30 rfl (lv_at hl 0 rfl) ?_
      refine gf_X8_54 F hP dX8_met_31 ?_
      refine lv_sipush (v := 160) hx hb dX8_met_34 (by decide) ?_
      refine lv_iload_n hx hb dX8_met_37 rfl (lv_at hl 1 rfl) ?_
      refine lv_imul hx hb dX8_met_38 ?_
      refine lv_iload_n hx hb dX8_met_39 rfl (lv_at hl 2 rfl) ?_
      refine lv_iadd hx hb dX8_met_40 ?_
      obtain ⟨h41, hG⟩ := f_gd hG
      have i41 := f_fin h41
      refine x_zald F hP rfl rfl i41 dX8_met_41 ?_
      refine lv_if_eq (tgt := 49) hx hb dX8_met_42 (by decide) (fun c42 => ?_) (fun c42 => ?_)
      · have hG := f_ip c42 hG
        refine lv_iconst (v := 0) hx hb dX8_met_49 (by decide) ?_
        exact x_ri hR hS hP hG dX8_met_50
      · have hG := f_in c42 hG
        refine lv_iconst (v := 1) hx hb dX8_met_45 (by decide) ?_
        refine lv_goto (tgt := 50) hx hb dX8_met_46 (by decide) ?_
        exact x_ri hR hS hP hG dX8_met_50
    · have hG := f_ip c22 hG
      refine lv_bipush (v := -102) hx hb dX8_met_25 (by decide) ?_
      refine lv_goto (tgt := 50) hx hb dX8_met_27 (by decide) ?_
      exact x_ri hR hS hP hG dX8_met_50
  · have hG := f_ip c5 hG
    refine lv_bipush (v := -101) hx hb dX8_met_8 (by decide) ?_
    exact x_ri hR hS hP hG dX8_met_10
theorem dX8_lay_0 : decode cX8_lay 0 = .ok (.aload_n 0, 1) := by decide +kernel
theorem dX8_lay_1 : decode cX8_lay 1 = .ok (.iload_n 1, 1) := by decide +kernel
theorem dX8_lay_2 : decode cX8_lay 2 = .ok (.invokevirtual 279, 3) := by decide +kernel
theorem dX8_lay_5 : decode cX8_lay 5 = .ok (.ifCond .eq 10, 3) := by decide +kernel
theorem dX8_lay_8 : decode cX8_lay 8 = .ok (.iload_n 2, 1) := by decide +kernel
theorem dX8_lay_9 : decode cX8_lay 9 = .ok (.invokestatic 152, 3) := by decide +kernel
theorem dX8_lay_12 : decode cX8_lay 12 = .ok (.ifCond .ne 6, 3) := by decide +kernel
theorem dX8_lay_15 : decode cX8_lay 15 = .ok (.bipush (-101), 2) := by decide +kernel
theorem dX8_lay_17 : decode cX8_lay 17 = .ok (.ireturn, 1) := by decide +kernel
theorem dX8_lay_18 : decode cX8_lay 18 = .ok (.aload_n 0, 1) := by decide +kernel
theorem dX8_lay_19 : decode cX8_lay 19 = .ok (.getfield 260, 3) := by decide +kernel
theorem dX8_lay_22 : decode cX8_lay 22 = .ok (.invokestatic 93, 3) := by decide +kernel
theorem dX8_lay_25 : decode cX8_lay 25 = .ok (.iconst 1, 1) := by decide +kernel
theorem dX8_lay_26 : decode cX8_lay 26 = .ok (.if_icmp .eq 6, 3) := by decide +kernel
theorem dX8_lay_29 : decode cX8_lay 29 = .ok (.bipush (-103), 2) := by decide +kernel
theorem dX8_lay_31 : decode cX8_lay 31 = .ok (.ireturn, 1) := by decide +kernel
theorem dX8_lay_32 : decode cX8_lay 32 = .ok (.aload_n 0, 1) := by decide +kernel
theorem dX8_lay_33 : decode cX8_lay 33 = .ok (.iconst 2, 1) := by decide +kernel
theorem dX8_lay_34 : decode cX8_lay 34 = .ok (.putfield 135, 3) := by decide +kernel
theorem dX8_lay_37 : decode cX8_lay 37 = .ok (.aload_n 0, 1) := by decide +kernel
theorem dX8_lay_38 : decode cX8_lay 38 = .ok (.getfield 72, 3) := by decide +kernel
theorem dX8_lay_41 : decode cX8_lay 41 = .ok (.iconst 0, 1) := by decide +kernel
theorem dX8_lay_42 : decode cX8_lay 42 = .ok (.aload_n 0, 1) := by decide +kernel
theorem dX8_lay_43 : decode cX8_lay 43 = .ok (.getfield 39, 3) := by decide +kernel
theorem dX8_lay_46 : decode cX8_lay 46 = .ok (.iload_n 1, 1) := by decide +kernel
theorem dX8_lay_47 : decode cX8_lay 47 = .ok (.iaload, 1) := by decide +kernel
theorem dX8_lay_48 : decode cX8_lay 48 = .ok (.invokestatic 138, 3) := by decide +kernel
theorem dX8_lay_51 : decode cX8_lay 51 = .ok (.iastore, 1) := by decide +kernel
theorem dX8_lay_52 : decode cX8_lay 52 = .ok (.aload_n 0, 1) := by decide +kernel
theorem dX8_lay_53 : decode cX8_lay 53 = .ok (.getfield 72, 3) := by decide +kernel
theorem dX8_lay_56 : decode cX8_lay 56 = .ok (.iconst 1, 1) := by decide +kernel
theorem dX8_lay_57 : decode cX8_lay 57 = .ok (.aload_n 0, 1) := by decide +kernel
theorem dX8_lay_58 : decode cX8_lay 58 = .ok (.getfield 39, 3) := by decide +kernel
theorem dX8_lay_61 : decode cX8_lay 61 = .ok (.iload_n 1, 1) := by decide +kernel
theorem dX8_lay_62 : decode cX8_lay 62 = .ok (.iaload, 1) := by decide +kernel
theorem dX8_lay_63 : decode cX8_lay 63 = .ok (.aload_n 0, 1) := by decide +kernel
theorem dX8_lay_64 : decode cX8_lay 64 = .ok (.getfield 260, 3) := by decide +kernel
theorem dX8_lay_67 : decode cX8_lay 67 = .ok (.imul, 1) := by decide +kernel
theorem dX8_lay_68 : decode cX8_lay 68 = .ok (.invokestatic 138, 3) := by decide +kernel
theorem dX8_lay_71 : decode cX8_lay 71 = .ok (.iastore, 1) := by decide +kernel
theorem dX8_lay_72 : decode cX8_lay 72 = .ok (.aload_n 0, 1) := by decide +kernel
theorem dX8_lay_73 : decode cX8_lay 73 = .ok (.iload_n 2, 1) := by decide +kernel
theorem dX8_lay_74 : decode cX8_lay 74 = .ok (.invokevirtual 171, 3) := by decide +kernel
theorem dX8_lay_77 : decode cX8_lay 77 = .ok (.pop, 1) := by decide +kernel
theorem dX8_lay_78 : decode cX8_lay 78 = .ok (.aload_n 0, 1) := by decide +kernel
theorem dX8_lay_79 : decode cX8_lay 79 = .ok (.iload_n 2, 1) := by decide +kernel
theorem dX8_lay_80 : decode cX8_lay 80 = .ok (.invokevirtual 202, 3) := by decide +kernel
theorem dX8_lay_83 : decode cX8_lay 83 = .ok (.ireturn, 1) := by decide +kernel
set_option maxHeartbeats 4000000 in
set_option maxRecDepth 100000 in
theorem c_X8_lay (l : Launch) (E : fEv) (N : Nat) (a1 : Int32) (a2 : Int32) (σ : fS) (r : Int32) (τ : fS) (hG : g_X8_lay N a1 a2 σ = some (r, τ)) : fM l E yX8_lay (.code yX8_lay cX8_lay 3 (some .int)) rm_X8_lay [.ref (E.2.1 61), .int a1, .int a2] σ τ (some (.int r)) := by
  refine f_openI (by decide) (Nat.le_of_ble_eq_true rfl) ?_
  intro p e s m below meth c args Q F hR hP ls hl
  have hx := F.1.1
  have hb := F.1.2.1
  have hown := F.1.2.2.2.1
  have hts := F.1.2.2.2.2
  have hS : va_S (f_A E) s.heap s.heap [] := va_S.rf
  skip
  have hl : lv_has ls 3 [(0, .ref (E.2.1 61)), (1, .int a1), (2, .int a2)] := hl
  unfold g_X8_lay at hG
  refine lv_aload_n hx hb dX8_lay_0 rfl (lv_at hl 0 rfl) ?_
  refine lv_iload_n hx hb dX8_lay_1 rfl (lv_at hl 1 rfl) ?_
  obtain ⟨r2, σ2, hC2, hG⟩ := f_bd hG
  refine iv_X8_279 F hS hP (c_X8_isPair l E N a1 σ _ _ hC2) ⟨Nat.le_of_ble_eq_true rfl, Nat.le_of_ble_eq_true rfl⟩ hl.1 (Nat.le_of_ble_eq_true rfl) dX8_lay_2 ⟨Nat.zero_le _, Nat.zero_le _⟩ (fun H locs hP hS => ?_)
  refine lv_if_eq (tgt := 15) hx hb dX8_lay_5 (by decide) (fun c5 => ?_) (fun c5 => ?_)
  · have hG := f_ip c5 hG
    refine lv_bipush (v := -101) hx hb dX8_lay_15 (by decide) ?_
    exact x_ri hR hS hP hG dX8_lay_17
  · have hG := f_in c5 hG
    refine lv_iload_n hx hb dX8_lay_8 rfl (lv_at hl 2 rfl) ?_
    obtain ⟨r9, σ9, hC9, hG⟩ := f_bd hG
    refine iv_X8_152 F hS hP (c_X8_isShelf l E N a2 σ2 _ _ hC9) ⟨Nat.le_of_ble_eq_true rfl, Nat.le_of_ble_eq_true rfl⟩ hl.1 (Nat.le_of_ble_eq_true rfl) dX8_lay_9 ⟨Nat.zero_le _, Nat.zero_le _⟩ (fun H locs hP hS => ?_)
    refine lv_if_ne (tgt := 18) hx hb dX8_lay_12 (by decide) (fun c12 => ?_) (fun c12 => ?_)
    · have hG := f_in c12 hG
      refine lv_aload_n hx hb dX8_lay_18 rfl (lv_at hl 0 rfl) ?_
      refine gf_X8_260 F hP dX8_lay_19 ?_
      obtain ⟨r22, σ22, hC22, hG⟩ := f_bd hG
      refine iv_X8_93 F hS hP (c_X8_leftOf l E N (σ9.1 61 13) σ9 _ _ hC22) ⟨Nat.le_of_ble_eq_true rfl, Nat.le_of_ble_eq_true rfl⟩ hl.1 (Nat.le_of_ble_eq_true rfl) dX8_lay_22 ⟨Nat.zero_le _, Nat.zero_le _⟩ (fun H locs hP hS => ?_)
      refine lv_iconst (v := 1) hx hb dX8_lay_25 (by decide) ?_
      refine lv_icmp_eq (tgt := 32) hx hb dX8_lay_26 (by decide) (fun c26 => ?_) (fun c26 => ?_)
      · have hG := f_ip c26 hG
        refine lv_aload_n hx hb dX8_lay_32 rfl (lv_at hl 0 rfl) ?_
        refine lv_iconst (v := 2) hx hb dX8_lay_33 (by decide) ?_
        refine pf_X8_135 F hS hP dX8_lay_34 (fun H locs hP hS => ?_)
        obtain ⟨σ34, e34⟩ : ∃ t : fS, t = sI σ22 61 28 (2 : Int32) := ⟨_, rfl⟩
        rw [← e34] at hP
        have hG := f_lt hG e34
        refine lv_aload_n hx hb dX8_lay_37 rfl (lv_at hl 0 rfl) ?_
        refine gf_X8_72 F hP dX8_lay_38 ?_
        refine lv_iconst (v := 0) hx hb dX8_lay_41 (by decide) ?_
        refine lv_aload_n hx hb dX8_lay_42 rfl (lv_at hl 0 rfl) ?_
        refine gf_X8_39 F hP dX8_lay_43 ?_
        refine lv_iload_n hx hb dX8_lay_46 rfl (lv_at hl 1 rfl) ?_
        obtain ⟨h47, hG⟩ := f_gd hG
        have i47 := f_fin h47
        refine x_iald F hP rfl rfl i47 dX8_lay_47 ?_
        obtain ⟨r48, σ48, hC48, hG⟩ := f_bd hG
        refine iv_X8_138 F hS hP (c_X8_kindOf l E N (σ34.1 71 (a1).toNatClampNeg) σ34 _ _ hC48) ⟨Nat.le_of_ble_eq_true rfl, Nat.le_of_ble_eq_true rfl⟩ hl.1 (Nat.le_of_ble_eq_true rfl) dX8_lay_48 ⟨Nat.zero_le _, Nat.zero_le _⟩ (fun H locs hP hS => ?_)
        obtain ⟨h51, hG⟩ := f_gd hG
        have i51 := f_fin h51
        refine x_iast F hS hP rfl rfl i51 dX8_lay_51 (fun H locs hP hS => ?_)
        obtain ⟨σ51, e51⟩ : ∃ t : fS, t = sI σ48 82 ((0 : Int32)).toNatClampNeg r48 := ⟨_, rfl⟩
        rw [← e51] at hP
        have hG := f_lt hG e51
        refine lv_aload_n hx hb dX8_lay_52 rfl (lv_at hl 0 rfl) ?_
        refine gf_X8_72 F hP dX8_lay_53 ?_
        refine lv_iconst (v := 1) hx hb dX8_lay_56 (by decide) ?_
        refine lv_aload_n hx hb dX8_lay_57 rfl (lv_at hl 0 rfl) ?_
        refine gf_X8_39 F hP dX8_lay_58 ?_
        refine lv_iload_n hx hb dX8_lay_61 rfl (lv_at hl 1 rfl) ?_
        obtain ⟨h62, hG⟩ := f_gd hG
        have i62 := f_fin h62
        refine x_iald F hP rfl rfl i62 dX8_lay_62 ?_
        refine lv_aload_n hx hb dX8_lay_63 rfl (lv_at hl 0 rfl) ?_
        refine gf_X8_260 F hP dX8_lay_64 ?_
        refine lv_imul hx hb dX8_lay_67 ?_
        obtain ⟨r68, σ68, hC68, hG⟩ := f_bd hG
        refine iv_X8_138 F hS hP (c_X8_kindOf l E N ((σ51.1 71 (a1).toNatClampNeg) * (σ51.1 61 13)) σ51 _ _ hC68) ⟨Nat.le_of_ble_eq_true rfl, Nat.le_of_ble_eq_true rfl⟩ hl.1 (Nat.le_of_ble_eq_true rfl) dX8_lay_68 ⟨Nat.zero_le _, Nat.zero_le _⟩ (fun H locs hP hS => ?_)
        obtain ⟨h71, hG⟩ := f_gd hG
        have i71 := f_fin h71
        refine x_iast F hS hP rfl rfl i71 dX8_lay_71 (fun H locs hP hS => ?_)
        obtain ⟨σ71, e71⟩ : ∃ t : fS, t = sI σ68 82 ((1 : Int32)).toNatClampNeg r68 := ⟨_, rfl⟩
        rw [← e71] at hP
        have hG := f_lt hG e71
        refine lv_aload_n hx hb dX8_lay_72 rfl (lv_at hl 0 rfl) ?_
        refine lv_iload_n hx hb dX8_lay_73 rfl (lv_at hl 2 rfl) ?_
        obtain ⟨r74, σ74, hC74, hG⟩ := f_bd hG
        refine iv_X8_171 F hS hP (c_X8_layNew l E N a2 σ71 _ _ hC74) ⟨Nat.le_of_ble_eq_true rfl, Nat.le_of_ble_eq_true rfl⟩ hl.1 (Nat.le_of_ble_eq_true rfl) dX8_lay_74 ⟨Nat.zero_le _, Nat.zero_le _⟩ (fun H locs hP hS => ?_)
        refine lv_pop hx hb dX8_lay_77 rfl ?_
        refine lv_aload_n hx hb dX8_lay_78 rfl (lv_at hl 0 rfl) ?_
        refine lv_iload_n hx hb dX8_lay_79 rfl (lv_at hl 2 rfl) ?_
        obtain ⟨r80, σ80, hC80, hG⟩ := f_bd hG
        refine iv_X8_202 F hS hP (c_X8_det l E N a2 σ74 _ _ hC80) ⟨Nat.le_of_ble_eq_true rfl, Nat.le_of_ble_eq_true rfl⟩ hl.1 (Nat.le_of_ble_eq_true rfl) dX8_lay_80 ⟨Nat.zero_le _, Nat.zero_le _⟩ (fun H locs hP hS => ?_)
        exact x_ri hR hS hP hG dX8_lay_83
      · have hG := f_in c26 hG
        refine lv_bipush (v := -103) hx hb dX8_lay_29 (by decide) ?_
        exact x_ri hR hS hP hG dX8_lay_31
    · have hG := f_ip c12 hG
      refine lv_bipush (v := -101) hx hb dX8_lay_15 (by decide) ?_
      exact x_ri hR hS hP hG dX8_lay_17
theorem dX8_shelves_0 : decode cX8_shelves 0 = .ok (.iconst 0, 1) := by decide +kernel
theorem dX8_shelves_1 : decode cX8_shelves 1 = .ok (.istore_n 2, 1) := by decide +kernel
theorem dX8_shelves_2 : decode cX8_shelves 2 = .ok (.iconst 0, 1) := by decide +kernel
theorem dX8_shelves_3 : decode cX8_shelves 3 = .ok (.istore_n 3, 1) := by decide +kernel
theorem dX8_shelves_4 : decode cX8_shelves 4 = .ok (.iload_n 3, 1) := by decide +kernel
theorem dX8_shelves_5 : decode cX8_shelves 5 = .ok (.bipush 8, 2) := by decide +kernel
theorem dX8_shelves_7 : decode cX8_shelves 7 = .ok (.if_icmp .ge 57, 3) := by decide +kernel
theorem dX8_shelves_10 : decode cX8_shelves 10 = .ok (.aload_n 0, 1) := by decide +kernel
theorem dX8_shelves_11 : decode cX8_shelves 11 = .ok (.getfield 7, 3) := by decide +kernel
theorem dX8_shelves_14 : decode cX8_shelves 14 = .ok (.iload_n 3, 1) := by decide +kernel
theorem dX8_shelves_15 : decode cX8_shelves 15 = .ok (.iaload, 1) := by decide +kernel
theorem dX8_shelves_16 : decode cX8_shelves 16 = .ok (.ifCond .le 42, 3) := by decide +kernel
theorem dX8_shelves_19 : decode cX8_shelves 19 = .ok (.iload_n 2, 1) := by decide +kernel
theorem dX8_shelves_20 : decode cX8_shelves 20 = .ok (.iload_n 1, 1) := by decide +kernel
theorem dX8_shelves_21 : decode cX8_shelves 21 = .ok (.ifCond .ne 7, 3) := by decide +kernel
theorem dX8_shelves_24 : decode cX8_shelves 24 = .ok (.iconst 1, 1) := by decide +kernel
theorem dX8_shelves_25 : decode cX8_shelves 25 = .ok (.goto 31, 3) := by decide +kernel
theorem dX8_shelves_28 : decode cX8_shelves 28 = .ok (.iload_n 1, 1) := by decide +kernel
theorem dX8_shelves_29 : decode cX8_shelves 29 = .ok (.iconst 1, 1) := by decide +kernel
theorem dX8_shelves_30 : decode cX8_shelves 30 = .ok (.if_icmp .ne 12, 3) := by decide +kernel
theorem dX8_shelves_33 : decode cX8_shelves 33 = .ok (.aload_n 0, 1) := by decide +kernel
theorem dX8_shelves_34 : decode cX8_shelves 34 = .ok (.getfield 7, 3) := by decide +kernel
theorem dX8_shelves_37 : decode cX8_shelves 37 = .ok (.iload_n 3, 1) := by decide +kernel
theorem dX8_shelves_38 : decode cX8_shelves 38 = .ok (.iaload, 1) := by decide +kernel
theorem dX8_shelves_39 : decode cX8_shelves 39 = .ok (.goto 17, 3) := by decide +kernel
theorem dX8_shelves_42 : decode cX8_shelves 42 = .ok (.aload_n 0, 1) := by decide +kernel
theorem dX8_shelves_43 : decode cX8_shelves 43 = .ok (.iload_n 3, 1) := by decide +kernel
theorem dX8_shelves_44 : decode cX8_shelves 44 = .ok (.invokevirtual 226, 3) := by decide +kernel
theorem dX8_shelves_47 : decode cX8_shelves 47 = .ok (.iload_n 3, 1) := by decide +kernel
theorem dX8_shelves_48 : decode cX8_shelves 48 = .ok (.if_icmp .ne 7, 3) := by decide +kernel
theorem dX8_shelves_51 : decode cX8_shelves 51 = .ok (.iconst 1, 1) := by decide +kernel
theorem dX8_shelves_52 : decode cX8_shelves 52 = .ok (.goto 4, 3) := by decide +kernel
theorem dX8_shelves_55 : decode cX8_shelves 55 = .ok (.iconst 0, 1) := by decide +kernel
theorem dX8_shelves_56 : decode cX8_shelves 56 = .ok (.iadd, 1) := by decide +kernel
theorem dX8_shelves_57 : decode cX8_shelves 57 = .ok (.istore_n 2, 1) := by decide +kernel
theorem dX8_shelves_58 : decode cX8_shelves 58 = .ok (.iinc 3 1, 3) := by decide +kernel
theorem dX8_shelves_61 : decode cX8_shelves 61 = .ok (.goto (-57), 3) := by decide +kernel
theorem dX8_shelves_64 : decode cX8_shelves 64 = .ok (.iload_n 2, 1) := by decide +kernel
theorem dX8_shelves_65 : decode cX8_shelves 65 = .ok (.ireturn, 1) := by decide +kernel
set_option maxHeartbeats 4000000 in
set_option maxRecDepth 100000 in
theorem c_X8_shelves (l : Launch) (E : fEv) (N : Nat) (a1 : Int32) (σ : fS) (r : Int32) (τ : fS) (hG : g_X8_shelves N a1 σ = some (r, τ)) : fM l E yX8_shelves (.code yX8_shelves cX8_shelves 4 (some .int)) rm_X8_shelves [.ref (E.2.1 61), .int a1] σ τ (some (.int r)) := by
  refine f_openI (by decide) (Nat.le_of_ble_eq_true rfl) ?_
  intro p e s m below meth c args Q F hR hP ls hl
  have hx := F.1.1
  have hb := F.1.2.1
  have hown := F.1.2.2.2.1
  have hts := F.1.2.2.2.2
  have hS : va_S (f_A E) s.heap s.heap [] := va_S.rf
  skip
  have hl : lv_has ls 4 [(0, .ref (E.2.1 61)), (1, .int a1)] := hl
  unfold g_X8_shelves at hG
  refine lv_iconst (v := 0) hx hb dX8_shelves_0 (by decide) ?_
  refine lv_istore_n (lv' := [(2, .int (0 : Int32)), (0, .ref (E.2.1 61)), (1, .int a1)]) hx hb dX8_shelves_1 rfl hl (by decide) rfl (fun ls hl => ?_)
  refine lv_iconst (v := 0) hx hb dX8_shelves_2 (by decide) ?_
  refine lv_istore_n (lv' := [(3, .int (0 : Int32)), (2, .int (0 : Int32)), (0, .ref (E.2.1 61)), (1, .int a1)]) hx hb dX8_shelves_3 rfl hl (by decide) rfl (fun ls hl => ?_)
  obtain ⟨o4, σl4, hT4, hG⟩ := f_bd hG
  have T4 : ∀ (H : Heap) (locs : List Loc) (ls : Array Slot), f_h E σl4 H → va_S (f_A E) s.heap H locs → lv_has ls 4 [(2, .int o4)] → W p l e rm_X8_shelves s m args below meth c H locs 0 0 Q (F0 m 64 ls []) := by
    intro H locs ls hP hS hl
    refine lv_iload_n hx hb dX8_shelves_64 rfl (lv_at hl 0 rfl) ?_
    exact x_ri hR hS hP hG dX8_shelves_65
  have L4 : ∀ (n4 : Nat) (x4_2 : Int32) (x4_3 : Int32) (σh4 : fS) (H : Heap) (locs : List Loc) (ls : Array Slot), f_h E σh4 H → va_S (f_A E) s.heap H locs → lv_has ls 4 [(0, .ref (E.2.1 61)), (1, .int a1), (2, .int x4_2), (3, .int x4_3)] → lp_X8_shelves_4 N a1 n4 x4_2 x4_3 σh4 = some (o4, σl4) → W p l e rm_X8_shelves s m args below meth c H locs 0 0 Q (F0 m 4 ls []) := by
    intro n4
    induction n4 with
    | zero =>
      intro x4_2 x4_3 σh4 H locs ls hP hS hl hG
      rw [lp_X8_shelves_4] at hG
      cases hG
    | succ n4 ih4 =>
      intro x4_2 x4_3 σh4 H locs ls hP hS hl hG
      rw [lp_X8_shelves_4] at hG
      refine lv_iload_n hx hb dX8_shelves_4 rfl (lv_at hl 3 rfl) ?_
      refine lv_bipush (v := 8) hx hb dX8_shelves_5 (by decide) ?_
      refine lv_icmp_ge (tgt := 64) hx hb dX8_shelves_7 (by decide) (fun c7 => ?_) (fun c7 => ?_)
      · have hG := f_ip c7 hG
        cases hG
        exact T4 _ _ _ hP hS (lv_sub hl [2] rfl)
      · have hG := f_in c7 hG
        refine lv_aload_n hx hb dX8_shelves_10 rfl (lv_at hl 0 rfl) ?_
        refine gf_X8_7 F hP dX8_shelves_11 ?_
        refine lv_iload_n hx hb dX8_shelves_14 rfl (lv_at hl 3 rfl) ?_
        obtain ⟨h15, hG⟩ := f_gd hG
        have i15 := f_fin h15
        refine x_iald F hP rfl rfl i15 dX8_shelves_15 ?_
        refine lv_if_le (tgt := 58) hx hb dX8_shelves_16 (by decide) (fun c16 => ?_) (fun c16 => ?_)
        · have hG := f_ip c16 hG
          refine lv_iinc (v := (x4_3 + (1 : Int32))) (lv' := [(3, .int (x4_3 + (1 : Int32))), (0, .ref (E.2.1 61)), (1, .int a1), (2, .int x4_2)]) hx hb dX8_shelves_58 hl (k := 3) rfl (by rfl) (by decide) rfl (fun ls hl => ?_)
          refine lv_goto (tgt := 4) hx hb dX8_shelves_61 (by decide) ?_
          exact ih4 x4_2 (x4_3 + (1 : Int32)) σh4 _ _ _ hP hS (lv_sub hl [1, 2, 3, 0] rfl) hG
        · have hG := f_in c16 hG
          refine lv_iload_n hx hb dX8_shelves_19 rfl (lv_at hl 2 rfl) ?_
          refine lv_iload_n hx hb dX8_shelves_20 rfl (lv_at hl 1 rfl) ?_
          refine lv_if_ne (tgt := 28) hx hb dX8_shelves_21 (by decide) (fun c21 => ?_) (fun c21 => ?_)
          · have hG := f_in c21 hG
            refine lv_iload_n hx hb dX8_shelves_28 rfl (lv_at hl 1 rfl) ?_
            refine lv_iconst (v := 1) hx hb dX8_shelves_29 (by decide) ?_
            refine lv_icmp_ne (tgt := 42) hx hb dX8_shelves_30 (by decide) (fun c30 => ?_) (fun c30 => ?_)
            · have hG := f_in c30 hG
              refine lv_aload_n hx hb dX8_shelves_42 rfl (lv_at hl 0 rfl) ?_
              refine lv_iload_n hx hb dX8_shelves_43 rfl (lv_at hl 3 rfl) ?_
              obtain ⟨r44, σ44, hC44, hG⟩ := f_bd hG
              refine iv_X8_226 F hS hP (c_X8_leastLike l E N x4_3 σh4 _ _ hC44) ⟨Nat.le_of_ble_eq_true rfl, Nat.le_of_ble_eq_true rfl⟩ hl.1 (Nat.le_of_ble_eq_true rfl) dX8_shelves_44 ⟨Nat.zero_le _, Nat.zero_le _⟩ (fun H locs hP hS => ?_)
              refine lv_iload_n hx hb dX8_shelves_47 rfl (lv_at hl 3 rfl) ?_
              refine lv_icmp_ne (tgt := 55) hx hb dX8_shelves_48 (by decide) (fun c48 => ?_) (fun c48 => ?_)
              · have hG := f_in c48 hG
                refine lv_iconst (v := 0) hx hb dX8_shelves_55 (by decide) ?_
                refine lv_iadd hx hb dX8_shelves_56 ?_
                refine lv_topi (fun v57 e57 => ?_)
                have hG := f_lt hG e57
                refine lv_istore_n (lv' := [(2, .int v57), (0, .ref (E.2.1 61)), (1, .int a1), (3, .int x4_3)]) hx hb dX8_shelves_57 rfl hl (by decide) rfl (fun ls hl => ?_)
                refine lv_iinc (v := (x4_3 + (1 : Int32))) (lv' := [(3, .int (x4_3 + (1 : Int32))), (2, .int v57), (0, .ref (E.2.1 61)), (1, .int a1)]) hx hb dX8_shelves_58 hl (k := 3) rfl (by rfl) (by decide) rfl (fun ls hl => ?_)
                refine lv_goto (tgt := 4) hx hb dX8_shelves_61 (by decide) ?_
                exact ih4 v57 (x4_3 + (1 : Int32)) σ44 _ _ _ hP hS (lv_sub hl [2, 3, 1, 0] rfl) hG
              · have hG := f_ip c48 hG
                refine lv_iconst (v := 1) hx hb dX8_shelves_51 (by decide) ?_
                refine lv_goto (tgt := 56) hx hb dX8_shelves_52 (by decide) ?_
                refine lv_iadd hx hb dX8_shelves_56 ?_
                refine lv_topi (fun v57 e57 => ?_)
                have hG := f_lt hG e57
                refine lv_istore_n (lv' := [(2, .int v57), (0, .ref (E.2.1 61)), (1, .int a1), (3, .int x4_3)]) hx hb dX8_shelves_57 rfl hl (by decide) rfl (fun ls hl => ?_)
                refine lv_iinc (v := (x4_3 + (1 : Int32))) (lv' := [(3, .int (x4_3 + (1 : Int32))), (2, .int v57), (0, .ref (E.2.1 61)), (1, .int a1)]) hx hb dX8_shelves_58 hl (k := 3) rfl (by rfl) (by decide) rfl (fun ls hl => ?_)
                refine lv_goto (tgt := 4) hx hb dX8_shelves_61 (by decide) ?_
                exact ih4 v57 (x4_3 + (1 : Int32)) σ44 _ _ _ hP hS (lv_sub hl [2, 3, 1, 0] rfl) hG
            · have hG := f_ip c30 hG
              refine lv_aload_n hx hb dX8_shelves_33 rfl (lv_at hl 0 rfl) ?_
              refine gf_X8_7 F hP dX8_shelves_34 ?_
              refine lv_iload_n hx hb dX8_shelves_37 rfl (lv_at hl 3 rfl) ?_
              obtain ⟨h38, hG⟩ := f_gd hG
              have i38 := f_fin h38
              refine x_iald F hP rfl rfl i38 dX8_shelves_38 ?_
              refine lv_goto (tgt := 56) hx hb dX8_shelves_39 (by decide) ?_
              refine lv_iadd hx hb dX8_shelves_56 ?_
              refine lv_topi (fun v57 e57 => ?_)
              have hG := f_lt hG e57
              refine lv_istore_n (lv' := [(2, .int v57), (0, .ref (E.2.1 61)), (1, .int a1), (3, .int x4_3)]) hx hb dX8_shelves_57 rfl hl (by decide) rfl (fun ls hl => ?_)
              refine lv_iinc (v := (x4_3 + (1 : Int32))) (lv' := [(3, .int (x4_3 + (1 : Int32))), (2, .int v57), (0, .ref (E.2.1 61)), (1, .int a1)]) hx hb dX8_shelves_58 hl (k := 3) rfl (by rfl) (by decide) rfl (fun ls hl => ?_)
              refine lv_goto (tgt := 4) hx hb dX8_shelves_61 (by decide) ?_
              exact ih4 v57 (x4_3 + (1 : Int32)) σh4 _ _ _ hP hS (lv_sub hl [2, 3, 1, 0] rfl) hG
          · have hG := f_ip c21 hG
            refine lv_iconst (v := 1) hx hb dX8_shelves_24 (by decide) ?_
            refine lv_goto (tgt := 56) hx hb dX8_shelves_25 (by decide) ?_
            refine lv_iadd hx hb dX8_shelves_56 ?_
            refine lv_topi (fun v57 e57 => ?_)
            have hG := f_lt hG e57
            refine lv_istore_n (lv' := [(2, .int v57), (0, .ref (E.2.1 61)), (1, .int a1), (3, .int x4_3)]) hx hb dX8_shelves_57 rfl hl (by decide) rfl (fun ls hl => ?_)
            refine lv_iinc (v := (x4_3 + (1 : Int32))) (lv' := [(3, .int (x4_3 + (1 : Int32))), (2, .int v57), (0, .ref (E.2.1 61)), (1, .int a1)]) hx hb dX8_shelves_58 hl (k := 3) rfl (by rfl) (by decide) rfl (fun ls hl => ?_)
            refine lv_goto (tgt := 4) hx hb dX8_shelves_61 (by decide) ?_
            exact ih4 v57 (x4_3 + (1 : Int32)) σh4 _ _ _ hP hS (lv_sub hl [2, 3, 1, 0] rfl) hG
  exact L4 N (0 : Int32) (0 : Int32) σ _ _ _ hP hS (lv_sub hl [2, 3, 1, 0] rfl) hT4
theorem dX8_genera_0 : decode cX8_genera 0 = .ok (.iconst 0, 1) := by decide +kernel
theorem dX8_genera_1 : decode cX8_genera 1 = .ok (.istore_n 1, 1) := by decide +kernel
theorem dX8_genera_2 : decode cX8_genera 2 = .ok (.iconst 0, 1) := by decide +kernel
theorem dX8_genera_3 : decode cX8_genera 3 = .ok (.istore_n 2, 1) := by decide +kernel
theorem dX8_genera_4 : decode cX8_genera 4 = .ok (.iload_n 2, 1) := by decide +kernel
theorem dX8_genera_5 : decode cX8_genera 5 = .ok (.aload_n 0, 1) := by decide +kernel
theorem dX8_genera_6 : decode cX8_genera 6 = .ok (.getfield 266, 3) := by decide +kernel
theorem dX8_genera_9 : decode cX8_genera 9 = .ok (.if_icmp .ge 27, 3) := by decide +kernel
theorem dX8_genera_12 : decode cX8_genera 12 = .ok (.iload_n 1, 1) := by decide +kernel
theorem dX8_genera_13 : decode cX8_genera 13 = .ok (.aload_n 0, 1) := by decide +kernel
theorem dX8_genera_14 : decode cX8_genera 14 = .ok (.getfield 48, 3) := by decide +kernel
theorem dX8_genera_17 : decode cX8_genera 17 = .ok (.iload_n 2, 1) := by decide +kernel
theorem dX8_genera_18 : decode cX8_genera 18 = .ok (.iaload, 1) := by decide +kernel
theorem dX8_genera_19 : decode cX8_genera 19 = .ok (.iload_n 2, 1) := by decide +kernel
theorem dX8_genera_20 : decode cX8_genera 20 = .ok (.if_icmp .ne 7, 3) := by decide +kernel
theorem dX8_genera_23 : decode cX8_genera 23 = .ok (.iconst 1, 1) := by decide +kernel
theorem dX8_genera_24 : decode cX8_genera 24 = .ok (.goto 4, 3) := by decide +kernel
theorem dX8_genera_27 : decode cX8_genera 27 = .ok (.iconst 0, 1) := by decide +kernel
theorem dX8_genera_28 : decode cX8_genera 28 = .ok (.iadd, 1) := by decide +kernel
theorem dX8_genera_29 : decode cX8_genera 29 = .ok (.istore_n 1, 1) := by decide +kernel
theorem dX8_genera_30 : decode cX8_genera 30 = .ok (.iinc 2 1, 3) := by decide +kernel
theorem dX8_genera_33 : decode cX8_genera 33 = .ok (.goto (-29), 3) := by decide +kernel
theorem dX8_genera_36 : decode cX8_genera 36 = .ok (.iload_n 1, 1) := by decide +kernel
theorem dX8_genera_37 : decode cX8_genera 37 = .ok (.ireturn, 1) := by decide +kernel
set_option maxHeartbeats 4000000 in
set_option maxRecDepth 100000 in
theorem c_X8_genera (l : Launch) (E : fEv) (N : Nat)  (σ : fS) (r : Int32) (τ : fS) (hG : g_X8_genera N  σ = some (r, τ)) : fM l E yX8_genera (.code yX8_genera cX8_genera 3 (some .int)) rm_X8_genera [.ref (E.2.1 61)] σ τ (some (.int r)) := by
  refine f_openI (by decide) (Nat.le_of_ble_eq_true rfl) ?_
  intro p e s m below meth c args Q F hR hP ls hl
  have hx := F.1.1
  have hb := F.1.2.1
  have hown := F.1.2.2.2.1
  have hts := F.1.2.2.2.2
  have hS : va_S (f_A E) s.heap s.heap [] := va_S.rf
  skip
  have hl : lv_has ls 3 [(0, .ref (E.2.1 61))] := hl
  unfold g_X8_genera at hG
  refine lv_iconst (v := 0) hx hb dX8_genera_0 (by decide) ?_
  refine lv_istore_n (lv' := [(1, .int (0 : Int32)), (0, .ref (E.2.1 61))]) hx hb dX8_genera_1 rfl hl (by decide) rfl (fun ls hl => ?_)
  refine lv_iconst (v := 0) hx hb dX8_genera_2 (by decide) ?_
  refine lv_istore_n (lv' := [(2, .int (0 : Int32)), (1, .int (0 : Int32)), (0, .ref (E.2.1 61))]) hx hb dX8_genera_3 rfl hl (by decide) rfl (fun ls hl => ?_)
  obtain ⟨o4, σl4, hT4, hG⟩ := f_bd hG
  have T4 : ∀ (H : Heap) (locs : List Loc) (ls : Array Slot), f_h E σl4 H → va_S (f_A E) s.heap H locs → lv_has ls 3 [(1, .int o4)] → W p l e rm_X8_genera s m args below meth c H locs 0 0 Q (F0 m 36 ls []) := by
    intro H locs ls hP hS hl
    refine lv_iload_n hx hb dX8_genera_36 rfl (lv_at hl 0 rfl) ?_
    exact x_ri hR hS hP hG dX8_genera_37
  have L4 : ∀ (n4 : Nat) (x4_1 : Int32) (x4_2 : Int32) (σh4 : fS) (H : Heap) (locs : List Loc) (ls : Array Slot), f_h E σh4 H → va_S (f_A E) s.heap H locs → lv_has ls 3 [(0, .ref (E.2.1 61)), (1, .int x4_1), (2, .int x4_2)] → lp_X8_genera_4 N n4 x4_1 x4_2 σh4 = some (o4, σl4) → W p l e rm_X8_genera s m args below meth c H locs 0 0 Q (F0 m 4 ls []) := by
    intro n4
    induction n4 with
    | zero =>
      intro x4_1 x4_2 σh4 H locs ls hP hS hl hG
      rw [lp_X8_genera_4] at hG
      cases hG
    | succ n4 ih4 =>
      intro x4_1 x4_2 σh4 H locs ls hP hS hl hG
      rw [lp_X8_genera_4] at hG
      refine lv_iload_n hx hb dX8_genera_4 rfl (lv_at hl 2 rfl) ?_
      refine lv_aload_n hx hb dX8_genera_5 rfl (lv_at hl 0 rfl) ?_
      refine gf_X8_266 F hP dX8_genera_6 ?_
      refine lv_icmp_ge (tgt := 36) hx hb dX8_genera_9 (by decide) (fun c9 => ?_) (fun c9 => ?_)
      · have hG := f_ip c9 hG
        cases hG
        exact T4 _ _ _ hP hS (lv_sub hl [1] rfl)
      · have hG := f_in c9 hG
        refine lv_iload_n hx hb dX8_genera_12 rfl (lv_at hl 1 rfl) ?_
        refine lv_aload_n hx hb dX8_genera_13 rfl (lv_at hl 0 rfl) ?_
        refine gf_X8_48 F hP dX8_genera_14 ?_
        refine lv_iload_n hx hb dX8_genera_17 rfl (lv_at hl 2 rfl) ?_
        obtain ⟨h18, hG⟩ := f_gd hG
        have i18 := f_fin h18
        refine x_iald F hP rfl rfl i18 dX8_genera_18 ?_
        refine lv_iload_n hx hb dX8_genera_19 rfl (lv_at hl 2 rfl) ?_
        refine lv_icmp_ne (tgt := 27) hx hb dX8_genera_20 (by decide) (fun c20 => ?_) (fun c20 => ?_)
        · have hG := f_in c20 hG
          refine lv_iconst (v := 0) hx hb dX8_genera_27 (by decide) ?_
          refine lv_iadd hx hb dX8_genera_28 ?_
          refine lv_topi (fun v29 e29 => ?_)
          have hG := f_lt hG e29
          refine lv_istore_n (lv' := [(1, .int v29), (0, .ref (E.2.1 61)), (2, .int x4_2)]) hx hb dX8_genera_29 rfl hl (by decide) rfl (fun ls hl => ?_)
          refine lv_iinc (v := (x4_2 + (1 : Int32))) (lv' := [(2, .int (x4_2 + (1 : Int32))), (1, .int v29), (0, .ref (E.2.1 61))]) hx hb dX8_genera_30 hl (k := 2) rfl (by rfl) (by decide) rfl (fun ls hl => ?_)
          refine lv_goto (tgt := 4) hx hb dX8_genera_33 (by decide) ?_
          exact ih4 v29 (x4_2 + (1 : Int32)) σh4 _ _ _ hP hS (lv_sub hl [2, 1, 0] rfl) hG
        · have hG := f_ip c20 hG
          refine lv_iconst (v := 1) hx hb dX8_genera_23 (by decide) ?_
          refine lv_goto (tgt := 28) hx hb dX8_genera_24 (by decide) ?_
          refine lv_iadd hx hb dX8_genera_28 ?_
          refine lv_topi (fun v29 e29 => ?_)
          have hG := f_lt hG e29
          refine lv_istore_n (lv' := [(1, .int v29), (0, .ref (E.2.1 61)), (2, .int x4_2)]) hx hb dX8_genera_29 rfl hl (by decide) rfl (fun ls hl => ?_)
          refine lv_iinc (v := (x4_2 + (1 : Int32))) (lv' := [(2, .int (x4_2 + (1 : Int32))), (1, .int v29), (0, .ref (E.2.1 61))]) hx hb dX8_genera_30 hl (k := 2) rfl (by rfl) (by decide) rfl (fun ls hl => ?_)
          refine lv_goto (tgt := 4) hx hb dX8_genera_33 (by decide) ?_
          exact ih4 v29 (x4_2 + (1 : Int32)) σh4 _ _ _ hP hS (lv_sub hl [2, 1, 0] rfl) hG
  exact L4 N (0 : Int32) (0 : Int32) σ _ _ _ hP hS (lv_sub hl [2, 1, 0] rfl) hT4
theorem dX8_howMany_0 : decode cX8_howMany 0 = .ok (.iload_n 1, 1) := by decide +kernel
theorem dX8_howMany_1 : decode cX8_howMany 1 = .ok (.tableswitch 96 0 9 #[55, 55, 55, 61, 66, 71, 76, 81, 86, 91], 55) := by decide +kernel
theorem dX8_howMany_56 : decode cX8_howMany 56 = .ok (.aload_n 0, 1) := by decide +kernel
theorem dX8_howMany_57 : decode cX8_howMany 57 = .ok (.iload_n 1, 1) := by decide +kernel
theorem dX8_howMany_58 : decode cX8_howMany 58 = .ok (.invokevirtual 285, 3) := by decide +kernel
theorem dX8_howMany_61 : decode cX8_howMany 61 = .ok (.ireturn, 1) := by decide +kernel
theorem dX8_howMany_62 : decode cX8_howMany 62 = .ok (.aload_n 0, 1) := by decide +kernel
theorem dX8_howMany_63 : decode cX8_howMany 63 = .ok (.getfield 158, 3) := by decide +kernel
theorem dX8_howMany_66 : decode cX8_howMany 66 = .ok (.ireturn, 1) := by decide +kernel
theorem dX8_howMany_67 : decode cX8_howMany 67 = .ok (.aload_n 0, 1) := by decide +kernel
theorem dX8_howMany_68 : decode cX8_howMany 68 = .ok (.getfield 126, 3) := by decide +kernel
theorem dX8_howMany_71 : decode cX8_howMany 71 = .ok (.ireturn, 1) := by decide +kernel
theorem dX8_howMany_72 : decode cX8_howMany 72 = .ok (.aload_n 0, 1) := by decide +kernel
theorem dX8_howMany_73 : decode cX8_howMany 73 = .ok (.getfield 260, 3) := by decide +kernel
theorem dX8_howMany_76 : decode cX8_howMany 76 = .ok (.ireturn, 1) := by decide +kernel
theorem dX8_howMany_77 : decode cX8_howMany 77 = .ok (.aload_n 0, 1) := by decide +kernel
theorem dX8_howMany_78 : decode cX8_howMany 78 = .ok (.getfield 266, 3) := by decide +kernel
theorem dX8_howMany_81 : decode cX8_howMany 81 = .ok (.ireturn, 1) := by decide +kernel
theorem dX8_howMany_82 : decode cX8_howMany 82 = .ok (.aload_n 0, 1) := by decide +kernel
theorem dX8_howMany_83 : decode cX8_howMany 83 = .ok (.invokevirtual 288, 3) := by decide +kernel
theorem dX8_howMany_86 : decode cX8_howMany 86 = .ok (.ireturn, 1) := by decide +kernel
theorem dX8_howMany_87 : decode cX8_howMany 87 = .ok (.aload_n 0, 1) := by decide +kernel
theorem dX8_howMany_88 : decode cX8_howMany 88 = .ok (.getfield 164, 3) := by decide +kernel
theorem dX8_howMany_91 : decode cX8_howMany 91 = .ok (.ireturn, 1) := by decide +kernel
theorem dX8_howMany_92 : decode cX8_howMany 92 = .ok (.aload_n 0, 1) := by decide +kernel
theorem dX8_howMany_93 : decode cX8_howMany 93 = .ok (.getfield 257, 3) := by decide +kernel
theorem dX8_howMany_96 : decode cX8_howMany 96 = .ok (.ireturn, 1) := by decide +kernel
theorem dX8_howMany_97 : decode cX8_howMany 97 = .ok (.bipush (-102), 2) := by decide +kernel
theorem dX8_howMany_99 : decode cX8_howMany 99 = .ok (.ireturn, 1) := by decide +kernel
set_option maxHeartbeats 4000000 in
set_option maxRecDepth 100000 in
theorem c_X8_howMany (l : Launch) (E : fEv) (N : Nat) (a1 : Int32) (σ : fS) (r : Int32) (τ : fS) (hG : g_X8_howMany N a1 σ = some (r, τ)) : fM l E yX8_howMany (.code yX8_howMany cX8_howMany 2 (some .int)) rm_X8_howMany [.ref (E.2.1 61), .int a1] σ τ (some (.int r)) := by
  refine f_openI (by decide) (Nat.le_of_ble_eq_true rfl) ?_
  intro p e s m below meth c args Q F hR hP ls hl
  have hx := F.1.1
  have hb := F.1.2.1
  have hown := F.1.2.2.2.1
  have hts := F.1.2.2.2.2
  have hS : va_S (f_A E) s.heap s.heap [] := va_S.rf
  skip
  have hl : lv_has ls 2 [(0, .ref (E.2.1 61)), (1, .int a1)] := hl
  unfold g_X8_howMany at hG
  refine lv_iload_n hx hb dX8_howMany_0 rfl (lv_at hl 1 rfl) ?_
  by_cases c1_0 : a1 = 0
  · have hG := f_ip c1_0 hG
    refine lv_tableIn (off := 55) (tgt := 56) hx hb dX8_howMany_1 (by rw [c1_0]; decide) (by rw [c1_0]; decide) (by rw [c1_0]; rfl) (by decide) ?_
    refine lv_aload_n hx hb dX8_howMany_56 rfl (lv_at hl 0 rfl) ?_
    refine lv_iload_n hx hb dX8_howMany_57 rfl (lv_at hl 1 rfl) ?_
    obtain ⟨r58, σ58, hC58, hG⟩ := f_bd hG
    refine iv_X8_285 F hS hP (c_X8_shelves l E N a1 σ _ _ hC58) ⟨Nat.le_of_ble_eq_true rfl, Nat.le_of_ble_eq_true rfl⟩ hl.1 (Nat.le_of_ble_eq_true rfl) dX8_howMany_58 ⟨Nat.zero_le _, Nat.zero_le _⟩ (fun H locs hP hS => ?_)
    exact x_ri hR hS hP hG dX8_howMany_61
  · have hG := f_in c1_0 hG
    by_cases c1_1 : a1 = 1
    · have hG := f_ip c1_1 hG
      refine lv_tableIn (off := 55) (tgt := 56) hx hb dX8_howMany_1 (by rw [c1_1]; decide) (by rw [c1_1]; decide) (by rw [c1_1]; rfl) (by decide) ?_
      refine lv_aload_n hx hb dX8_howMany_56 rfl (lv_at hl 0 rfl) ?_
      refine lv_iload_n hx hb dX8_howMany_57 rfl (lv_at hl 1 rfl) ?_
      obtain ⟨r58, σ58, hC58, hG⟩ := f_bd hG
      refine iv_X8_285 F hS hP (c_X8_shelves l E N a1 σ _ _ hC58) ⟨Nat.le_of_ble_eq_true rfl, Nat.le_of_ble_eq_true rfl⟩ hl.1 (Nat.le_of_ble_eq_true rfl) dX8_howMany_58 ⟨Nat.zero_le _, Nat.zero_le _⟩ (fun H locs hP hS => ?_)
      exact x_ri hR hS hP hG dX8_howMany_61
    · have hG := f_in c1_1 hG
      by_cases c1_2 : a1 = 2
      · have hG := f_ip c1_2 hG
        refine lv_tableIn (off := 55) (tgt := 56) hx hb dX8_howMany_1 (by rw [c1_2]; decide) (by rw [c1_2]; decide) (by rw [c1_2]; rfl) (by decide) ?_
        refine lv_aload_n hx hb dX8_howMany_56 rfl (lv_at hl 0 rfl) ?_
        refine lv_iload_n hx hb dX8_howMany_57 rfl (lv_at hl 1 rfl) ?_
        obtain ⟨r58, σ58, hC58, hG⟩ := f_bd hG
        refine iv_X8_285 F hS hP (c_X8_shelves l E N a1 σ _ _ hC58) ⟨Nat.le_of_ble_eq_true rfl, Nat.le_of_ble_eq_true rfl⟩ hl.1 (Nat.le_of_ble_eq_true rfl) dX8_howMany_58 ⟨Nat.zero_le _, Nat.zero_le _⟩ (fun H locs hP hS => ?_)
        exact x_ri hR hS hP hG dX8_howMany_61
      · have hG := f_in c1_2 hG
        by_cases c1_3 : a1 = 3
        · have hG := f_ip c1_3 hG
          refine lv_tableIn (off := 61) (tgt := 62) hx hb dX8_howMany_1 (by rw [c1_3]; decide) (by rw [c1_3]; decide) (by rw [c1_3]; rfl) (by decide) ?_
          refine lv_aload_n hx hb dX8_howMany_62 rfl (lv_at hl 0 rfl) ?_
          refine gf_X8_158 F hP dX8_howMany_63 ?_
          exact x_ri hR hS hP hG dX8_howMany_66
        · have hG := f_in c1_3 hG
          by_cases c1_4 : a1 = 4
          · have hG := f_ip c1_4 hG
            refine lv_tableIn (off := 66) (tgt := 67) hx hb dX8_howMany_1 (by rw [c1_4]; decide) (by rw [c1_4]; decide) (by rw [c1_4]; rfl) (by decide) ?_
            refine lv_aload_n hx hb dX8_howMany_67 rfl (lv_at hl 0 rfl) ?_
            refine gf_X8_126 F hP dX8_howMany_68 ?_
            exact x_ri hR hS hP hG dX8_howMany_71
          · have hG := f_in c1_4 hG
            by_cases c1_5 : a1 = 5
            · have hG := f_ip c1_5 hG
              refine lv_tableIn (off := 71) (tgt := 72) hx hb dX8_howMany_1 (by rw [c1_5]; decide) (by rw [c1_5]; decide) (by rw [c1_5]; rfl) (by decide) ?_
              refine lv_aload_n hx hb dX8_howMany_72 rfl (lv_at hl 0 rfl) ?_
              refine gf_X8_260 F hP dX8_howMany_73 ?_
              exact x_ri hR hS hP hG dX8_howMany_76
            · have hG := f_in c1_5 hG
              by_cases c1_6 : a1 = 6
              · have hG := f_ip c1_6 hG
                refine lv_tableIn (off := 76) (tgt := 77) hx hb dX8_howMany_1 (by rw [c1_6]; decide) (by rw [c1_6]; decide) (by rw [c1_6]; rfl) (by decide) ?_
                refine lv_aload_n hx hb dX8_howMany_77 rfl (lv_at hl 0 rfl) ?_
                refine gf_X8_266 F hP dX8_howMany_78 ?_
                exact x_ri hR hS hP hG dX8_howMany_81
              · have hG := f_in c1_6 hG
                by_cases c1_7 : a1 = 7
                · have hG := f_ip c1_7 hG
                  refine lv_tableIn (off := 81) (tgt := 82) hx hb dX8_howMany_1 (by rw [c1_7]; decide) (by rw [c1_7]; decide) (by rw [c1_7]; rfl) (by decide) ?_
                  refine lv_aload_n hx hb dX8_howMany_82 rfl (lv_at hl 0 rfl) ?_
                  obtain ⟨r83, σ83, hC83, hG⟩ := f_bd hG
                  refine iv_X8_288 F hS hP (c_X8_genera l E N σ _ _ hC83) ⟨Nat.le_of_ble_eq_true rfl, Nat.le_of_ble_eq_true rfl⟩ hl.1 (Nat.le_of_ble_eq_true rfl) dX8_howMany_83 ⟨Nat.zero_le _, Nat.zero_le _⟩ (fun H locs hP hS => ?_)
                  exact x_ri hR hS hP hG dX8_howMany_86
                · have hG := f_in c1_7 hG
                  by_cases c1_8 : a1 = 8
                  · have hG := f_ip c1_8 hG
                    refine lv_tableIn (off := 86) (tgt := 87) hx hb dX8_howMany_1 (by rw [c1_8]; decide) (by rw [c1_8]; decide) (by rw [c1_8]; rfl) (by decide) ?_
                    refine lv_aload_n hx hb dX8_howMany_87 rfl (lv_at hl 0 rfl) ?_
                    refine gf_X8_164 F hP dX8_howMany_88 ?_
                    exact x_ri hR hS hP hG dX8_howMany_91
                  · have hG := f_in c1_8 hG
                    by_cases c1_9 : a1 = 9
                    · have hG := f_ip c1_9 hG
                      refine lv_tableIn (off := 91) (tgt := 92) hx hb dX8_howMany_1 (by rw [c1_9]; decide) (by rw [c1_9]; decide) (by rw [c1_9]; rfl) (by decide) ?_
                      refine lv_aload_n hx hb dX8_howMany_92 rfl (lv_at hl 0 rfl) ?_
                      refine gf_X8_257 F hP dX8_howMany_93 ?_
                      exact x_ri hR hS hP hG dX8_howMany_96
                    · have hG := f_in c1_9 hG
                      have n1_0 := lv_neT c1_0 (show (0 : Int32).toInt = 0 from rfl)
                      have n1_1 := lv_neT c1_1 (show (1 : Int32).toInt = 1 from rfl)
                      have n1_2 := lv_neT c1_2 (show (2 : Int32).toInt = 2 from rfl)
                      have n1_3 := lv_neT c1_3 (show (3 : Int32).toInt = 3 from rfl)
                      have n1_4 := lv_neT c1_4 (show (4 : Int32).toInt = 4 from rfl)
                      have n1_5 := lv_neT c1_5 (show (5 : Int32).toInt = 5 from rfl)
                      have n1_6 := lv_neT c1_6 (show (6 : Int32).toInt = 6 from rfl)
                      have n1_7 := lv_neT c1_7 (show (7 : Int32).toInt = 7 from rfl)
                      have n1_8 := lv_neT c1_8 (show (8 : Int32).toInt = 8 from rfl)
                      have n1_9 := lv_neT c1_9 (show (9 : Int32).toInt = 9 from rfl)
                      refine lv_tableOut (tgt := 97) hx hb dX8_howMany_1 (by omega) (by decide) ?_
                      refine lv_bipush (v := -102) hx hb dX8_howMany_97 (by decide) ?_
                      exact x_ri hR hS hP hG dX8_howMany_99
theorem dX8_count_0 : decode cX8_count 0 = .ok (.aload_n 0, 1) := by decide +kernel
theorem dX8_count_1 : decode cX8_count 1 = .ok (.iload_n 1, 1) := by decide +kernel
theorem dX8_count_2 : decode cX8_count 2 = .ok (.invokevirtual 291, 3) := by decide +kernel
theorem dX8_count_5 : decode cX8_count 5 = .ok (.ireturn, 1) := by decide +kernel
set_option maxHeartbeats 4000000 in
set_option maxRecDepth 100000 in
theorem c_X8_count (l : Launch) (E : fEv) (N : Nat) (a1 : Int32) (σ : fS) (r : Int32) (τ : fS) (hG : g_X8_count N a1 σ = some (r, τ)) : fM l E yX8_count (.code yX8_count cX8_count 2 (some .int)) rm_X8_count [.ref (E.2.1 61), .int a1] σ τ (some (.int r)) := by
  refine f_openI (by decide) (Nat.le_of_ble_eq_true rfl) ?_
  intro p e s m below meth c args Q F hR hP ls hl
  have hx := F.1.1
  have hb := F.1.2.1
  have hown := F.1.2.2.2.1
  have hts := F.1.2.2.2.2
  have hS : va_S (f_A E) s.heap s.heap [] := va_S.rf
  skip
  have hl : lv_has ls 2 [(0, .ref (E.2.1 61)), (1, .int a1)] := hl
  unfold g_X8_count at hG
  refine lv_aload_n hx hb dX8_count_0 rfl (lv_at hl 0 rfl) ?_
  refine lv_iload_n hx hb dX8_count_1 rfl (lv_at hl 1 rfl) ?_
  obtain ⟨r2, σ2, hC2, hG⟩ := f_bd hG
  refine iv_X8_291 F hS hP (c_X8_howMany l E N a1 σ _ _ hC2) ⟨Nat.le_of_ble_eq_true rfl, Nat.le_of_ble_eq_true rfl⟩ hl.1 (Nat.le_of_ble_eq_true rfl) dX8_count_2 ⟨Nat.zero_le _, Nat.zero_le _⟩ (fun H locs hP hS => ?_)
  exact x_ri hR hS hP hG dX8_count_5
theorem dX8_mix_0 : decode cX8_mix 0 = .ok (.aload_n 0, 1) := by decide +kernel
theorem dX8_mix_1 : decode cX8_mix 1 = .ok (.ldc2_w 294, 3) := by decide +kernel
theorem dX8_mix_4 : decode cX8_mix 4 = .ok (.aload_n 0, 1) := by decide +kernel
theorem dX8_mix_5 : decode cX8_mix 5 = .ok (.getfield 296, 3) := by decide +kernel
theorem dX8_mix_8 : decode cX8_mix 8 = .ok (.lmul, 1) := by decide +kernel
theorem dX8_mix_9 : decode cX8_mix 9 = .ok (.lload_n 1, 1) := by decide +kernel
theorem dX8_mix_10 : decode cX8_mix 10 = .ok (.ladd, 1) := by decide +kernel
theorem dX8_mix_11 : decode cX8_mix 11 = .ok (.putfield 296, 3) := by decide +kernel
theorem dX8_mix_14 : decode cX8_mix 14 = .ok (.return_, 1) := by decide +kernel
set_option maxHeartbeats 4000000 in
set_option maxRecDepth 100000 in
theorem c_X8_mix (l : Launch) (E : fEv) (N : Nat) (a1 : Int64) (σ : fS) (τ : fS) (hG : g_X8_mix N a1 σ = some τ) : fM l E yX8_mix (.code yX8_mix cX8_mix 3 none) rm_X8_mix [.ref (E.2.1 61), .long a1] σ τ none := by
  refine f_openV (by decide) (Nat.le_of_ble_eq_true rfl) ?_
  intro p e s m below meth c args Q F hR hP ls hl
  have hx := F.1.1
  have hb := F.1.2.1
  have hown := F.1.2.2.2.1
  have hts := F.1.2.2.2.2
  have hS : va_S (f_A E) s.heap s.heap [] := va_S.rf
  skip
  have hl : lv_has ls 3 [(0, .ref (E.2.1 61)), (1, .long a1)] := hl
  unfold g_X8_mix at hG
  refine lv_aload_n hx hb dX8_mix_0 rfl (lv_at hl 0 rfl) ?_
  refine lv_ldc2 (v := 31) hx hb hown (hts _ wk_X8_294) dX8_mix_1 ?_
  refine lv_aload_n hx hb dX8_mix_4 rfl (lv_at hl 0 rfl) ?_
  refine gf_X8_296 F hP dX8_mix_5 ?_
  refine lv_lmul hx hb dX8_mix_8 ?_
  refine lv_lload_n hx hb dX8_mix_9 rfl (lv_at hl 1 rfl) ?_
  refine lv_ladd hx hb dX8_mix_10 ?_
  refine pf_X8_296 F hS hP dX8_mix_11 (fun H locs hP hS => ?_)
  obtain ⟨σ11, e11⟩ : ∃ t : fS, t = sL σ 61 32 (((31 : Int64) * (σ.2 61 32)) + a1) := ⟨_, rfl⟩
  rw [← e11] at hP
  have hG := f_lt hG e11
  exact x_rv hR hS hP hG dX8_mix_14
theorem dX8_mixForm_0 : decode cX8_mixForm 0 = .ok (.iconst 0, 1) := by decide +kernel
theorem dX8_mixForm_1 : decode cX8_mixForm 1 = .ok (.istore_n 2, 1) := by decide +kernel
theorem dX8_mixForm_2 : decode cX8_mixForm 2 = .ok (.iload_n 2, 1) := by decide +kernel
theorem dX8_mixForm_3 : decode cX8_mixForm 3 = .ok (.bipush 9, 2) := by decide +kernel
theorem dX8_mixForm_5 : decode cX8_mixForm 5 = .ok (.if_icmp .ge 20, 3) := by decide +kernel
theorem dX8_mixForm_8 : decode cX8_mixForm 8 = .ok (.aload_n 0, 1) := by decide +kernel
theorem dX8_mixForm_9 : decode cX8_mixForm 9 = .ok (.aload_n 0, 1) := by decide +kernel
theorem dX8_mixForm_10 : decode cX8_mixForm 10 = .ok (.iload_n 1, 1) := by decide +kernel
theorem dX8_mixForm_11 : decode cX8_mixForm 11 = .ok (.iload_n 2, 1) := by decide +kernel
theorem dX8_mixForm_12 : decode cX8_mixForm 12 = .ok (.invokevirtual 229, 3) := by decide +kernel
theorem dX8_mixForm_15 : decode cX8_mixForm 15 = .ok (.i2l, 1) := by decide +kernel
theorem dX8_mixForm_16 : decode cX8_mixForm 16 = .ok (.invokevirtual 300, 3) := by decide +kernel
theorem dX8_mixForm_19 : decode cX8_mixForm 19 = .ok (.iinc 2 1, 3) := by decide +kernel
theorem dX8_mixForm_22 : decode cX8_mixForm 22 = .ok (.goto (-20), 3) := by decide +kernel
theorem dX8_mixForm_25 : decode cX8_mixForm 25 = .ok (.iconst 0, 1) := by decide +kernel
theorem dX8_mixForm_26 : decode cX8_mixForm 26 = .ok (.istore_n 2, 1) := by decide +kernel
theorem dX8_mixForm_27 : decode cX8_mixForm 27 = .ok (.iload_n 2, 1) := by decide +kernel
theorem dX8_mixForm_28 : decode cX8_mixForm 28 = .ok (.aload_n 0, 1) := by decide +kernel
theorem dX8_mixForm_29 : decode cX8_mixForm 29 = .ok (.getfield 7, 3) := by decide +kernel
theorem dX8_mixForm_32 : decode cX8_mixForm 32 = .ok (.iload_n 1, 1) := by decide +kernel
theorem dX8_mixForm_33 : decode cX8_mixForm 33 = .ok (.iaload, 1) := by decide +kernel
theorem dX8_mixForm_34 : decode cX8_mixForm 34 = .ok (.if_icmp .ge 27, 3) := by decide +kernel
theorem dX8_mixForm_37 : decode cX8_mixForm 37 = .ok (.aload_n 0, 1) := by decide +kernel
theorem dX8_mixForm_38 : decode cX8_mixForm 38 = .ok (.aload_n 0, 1) := by decide +kernel
theorem dX8_mixForm_39 : decode cX8_mixForm 39 = .ok (.getfield 13, 3) := by decide +kernel
theorem dX8_mixForm_42 : decode cX8_mixForm 42 = .ok (.iconst 4, 1) := by decide +kernel
theorem dX8_mixForm_43 : decode cX8_mixForm 43 = .ok (.iload_n 1, 1) := by decide +kernel
theorem dX8_mixForm_44 : decode cX8_mixForm 44 = .ok (.imul, 1) := by decide +kernel
theorem dX8_mixForm_45 : decode cX8_mixForm 45 = .ok (.iload_n 2, 1) := by decide +kernel
theorem dX8_mixForm_46 : decode cX8_mixForm 46 = .ok (.iadd, 1) := by decide +kernel
theorem dX8_mixForm_47 : decode cX8_mixForm 47 = .ok (.iaload, 1) := by decide +kernel
theorem dX8_mixForm_48 : decode cX8_mixForm 48 = .ok (.invokestatic 96, 3) := by decide +kernel
theorem dX8_mixForm_51 : decode cX8_mixForm 51 = .ok (.i2l, 1) := by decide +kernel
theorem dX8_mixForm_52 : decode cX8_mixForm 52 = .ok (.invokevirtual 300, 3) := by decide +kernel
theorem dX8_mixForm_55 : decode cX8_mixForm 55 = .ok (.iinc 2 1, 3) := by decide +kernel
theorem dX8_mixForm_58 : decode cX8_mixForm 58 = .ok (.goto (-31), 3) := by decide +kernel
theorem dX8_mixForm_61 : decode cX8_mixForm 61 = .ok (.return_, 1) := by decide +kernel
set_option maxHeartbeats 4000000 in
set_option maxRecDepth 100000 in
theorem c_X8_mixForm (l : Launch) (E : fEv) (N : Nat) (a1 : Int32) (σ : fS) (τ : fS) (hG : g_X8_mixForm N a1 σ = some τ) : fM l E yX8_mixForm (.code yX8_mixForm cX8_mixForm 3 none) rm_X8_mixForm [.ref (E.2.1 61), .int a1] σ τ none := by
  refine f_openV (by decide) (Nat.le_of_ble_eq_true rfl) ?_
  intro p e s m below meth c args Q F hR hP ls hl
  have hx := F.1.1
  have hb := F.1.2.1
  have hown := F.1.2.2.2.1
  have hts := F.1.2.2.2.2
  have hS : va_S (f_A E) s.heap s.heap [] := va_S.rf
  skip
  have hl : lv_has ls 3 [(0, .ref (E.2.1 61)), (1, .int a1)] := hl
  unfold g_X8_mixForm at hG
  refine lv_iconst (v := 0) hx hb dX8_mixForm_0 (by decide) ?_
  refine lv_istore_n (lv' := [(2, .int (0 : Int32)), (0, .ref (E.2.1 61)), (1, .int a1)]) hx hb dX8_mixForm_1 rfl hl (by decide) rfl (fun ls hl => ?_)
  obtain ⟨σl2, hT2, hG⟩ := f_bv hG
  have T2 : ∀ (H : Heap) (locs : List Loc) (ls : Array Slot), f_h E σl2 H → va_S (f_A E) s.heap H locs → lv_has ls 3 [(0, .ref (E.2.1 61)), (1, .int a1)] → W p l e rm_X8_mixForm s m args below meth c H locs 0 0 Q (F0 m 25 ls []) := by
    intro H locs ls hP hS hl
    refine lv_iconst (v := 0) hx hb dX8_mixForm_25 (by decide) ?_
    refine lv_istore_n (lv' := [(2, .int (0 : Int32)), (0, .ref (E.2.1 61)), (1, .int a1)]) hx hb dX8_mixForm_26 rfl hl (by decide) rfl (fun ls hl => ?_)
    obtain ⟨σl27, hT27, hG⟩ := f_bv hG
    have T27 : ∀ (H : Heap) (locs : List Loc) (ls : Array Slot), f_h E σl27 H → va_S (f_A E) s.heap H locs → lv_has ls 3 [] → W p l e rm_X8_mixForm s m args below meth c H locs 0 0 Q (F0 m 61 ls []) := by
      intro H locs ls hP hS hl
      exact x_rv hR hS hP hG dX8_mixForm_61
    have L27 : ∀ (n27 : Nat) (x27_2 : Int32) (σh27 : fS) (H : Heap) (locs : List Loc) (ls : Array Slot), f_h E σh27 H → va_S (f_A E) s.heap H locs → lv_has ls 3 [(0, .ref (E.2.1 61)), (1, .int a1), (2, .int x27_2)] → lp_X8_mixForm_27 N a1 n27 x27_2 σh27 = some σl27 → W p l e rm_X8_mixForm s m args below meth c H locs 0 0 Q (F0 m 27 ls []) := by
      intro n27
      induction n27 with
      | zero =>
        intro x27_2 σh27 H locs ls hP hS hl hG
        rw [lp_X8_mixForm_27] at hG
        cases hG
      | succ n27 ih27 =>
        intro x27_2 σh27 H locs ls hP hS hl hG
        rw [lp_X8_mixForm_27] at hG
        refine lv_iload_n hx hb dX8_mixForm_27 rfl (lv_at hl 2 rfl) ?_
        refine lv_aload_n hx hb dX8_mixForm_28 rfl (lv_at hl 0 rfl) ?_
        refine gf_X8_7 F hP dX8_mixForm_29 ?_
        refine lv_iload_n hx hb dX8_mixForm_32 rfl (lv_at hl 1 rfl) ?_
        obtain ⟨h33, hG⟩ := f_gd hG
        have i33 := f_fin h33
        refine x_iald F hP rfl rfl i33 dX8_mixForm_33 ?_
        refine lv_icmp_ge (tgt := 61) hx hb dX8_mixForm_34 (by decide) (fun c34 => ?_) (fun c34 => ?_)
        · have hG := f_ip c34 hG
          cases hG
          exact T27 _ _ _ hP hS (lv_sub hl [] rfl)
        · have hG := f_in c34 hG
          refine lv_aload_n hx hb dX8_mixForm_37 rfl (lv_at hl 0 rfl) ?_
          refine lv_aload_n hx hb dX8_mixForm_38 rfl (lv_at hl 0 rfl) ?_
          refine gf_X8_13 F hP dX8_mixForm_39 ?_
          refine lv_iconst (v := 4) hx hb dX8_mixForm_42 (by decide) ?_
          refine lv_iload_n hx hb dX8_mixForm_43 rfl (lv_at hl 1 rfl) ?_
          refine lv_imul hx hb dX8_mixForm_44 ?_
          refine lv_iload_n hx hb dX8_mixForm_45 rfl (lv_at hl 2 rfl) ?_
          refine lv_iadd hx hb dX8_mixForm_46 ?_
          obtain ⟨h47, hG⟩ := f_gd hG
          have i47 := f_fin h47
          refine x_iald F hP rfl rfl i47 dX8_mixForm_47 ?_
          obtain ⟨r48, σ48, hC48, hG⟩ := f_bd hG
          refine iv_X8_96 F hS hP (c_X8_coreOf l E N (σh27.1 63 ((((4 : Int32) * a1) + x27_2)).toNatClampNeg) σh27 _ _ hC48) ⟨Nat.le_of_ble_eq_true rfl, Nat.le_of_ble_eq_true rfl⟩ hl.1 (Nat.le_of_ble_eq_true rfl) dX8_mixForm_48 ⟨Nat.zero_le _, Nat.zero_le _⟩ (fun H locs hP hS => ?_)
          refine lv_i2l hx hb dX8_mixForm_51 rfl ?_
          obtain ⟨σ52, hC52, hG⟩ := f_bv hG
          refine iv_X8_300 F hS hP (c_X8_mix l E N (r48).toInt64 σ48 _ hC52) ⟨Nat.le_of_ble_eq_true rfl, Nat.le_of_ble_eq_true rfl⟩ hl.1 (Nat.le_of_ble_eq_true rfl) dX8_mixForm_52 ⟨Nat.zero_le _, Nat.zero_le _⟩ (fun H locs hP hS => ?_)
          refine lv_iinc (v := (x27_2 + (1 : Int32))) (lv' := [(2, .int (x27_2 + (1 : Int32))), (0, .ref (E.2.1 61)), (1, .int a1)]) hx hb dX8_mixForm_55 hl (k := 2) rfl (by rfl) (by decide) rfl (fun ls hl => ?_)
          refine lv_goto (tgt := 27) hx hb dX8_mixForm_58 (by decide) ?_
          exact ih27 (x27_2 + (1 : Int32)) σ52 _ _ _ hP hS (lv_sub hl [1, 2, 0] rfl) hG
    exact L27 N (0 : Int32) σl2 _ _ _ hP hS (lv_sub hl [1, 2, 0] rfl) hT27
  have L2 : ∀ (n2 : Nat) (x2_2 : Int32) (σh2 : fS) (H : Heap) (locs : List Loc) (ls : Array Slot), f_h E σh2 H → va_S (f_A E) s.heap H locs → lv_has ls 3 [(0, .ref (E.2.1 61)), (1, .int a1), (2, .int x2_2)] → lp_X8_mixForm_2 N a1 n2 x2_2 σh2 = some σl2 → W p l e rm_X8_mixForm s m args below meth c H locs 0 0 Q (F0 m 2 ls []) := by
    intro n2
    induction n2 with
    | zero =>
      intro x2_2 σh2 H locs ls hP hS hl hG
      rw [lp_X8_mixForm_2] at hG
      cases hG
    | succ n2 ih2 =>
      intro x2_2 σh2 H locs ls hP hS hl hG
      rw [lp_X8_mixForm_2] at hG
      refine lv_iload_n hx hb dX8_mixForm_2 rfl (lv_at hl 2 rfl) ?_
      refine lv_bipush (v := 9) hx hb dX8_mixForm_3 (by decide) ?_
      refine lv_icmp_ge (tgt := 25) hx hb dX8_mixForm_5 (by decide) (fun c5 => ?_) (fun c5 => ?_)
      · have hG := f_ip c5 hG
        cases hG
        exact T2 _ _ _ hP hS (lv_sub hl [0, 1] rfl)
      · have hG := f_in c5 hG
        refine lv_aload_n hx hb dX8_mixForm_8 rfl (lv_at hl 0 rfl) ?_
        refine lv_aload_n hx hb dX8_mixForm_9 rfl (lv_at hl 0 rfl) ?_
        refine lv_iload_n hx hb dX8_mixForm_10 rfl (lv_at hl 1 rfl) ?_
        refine lv_iload_n hx hb dX8_mixForm_11 rfl (lv_at hl 2 rfl) ?_
        obtain ⟨r12, σ12, hC12, hG⟩ := f_bd hG
        refine iv_X8_229 F hS hP (c_X8_aboutNow l E N a1 x2_2 σh2 _ _ hC12) ⟨Nat.le_of_ble_eq_true rfl, Nat.le_of_ble_eq_true rfl⟩ hl.1 (Nat.le_of_ble_eq_true rfl) dX8_mixForm_12 ⟨Nat.zero_le _, Nat.zero_le _⟩ (fun H locs hP hS => ?_)
        refine lv_i2l hx hb dX8_mixForm_15 rfl ?_
        obtain ⟨σ16, hC16, hG⟩ := f_bv hG
        refine iv_X8_300 F hS hP (c_X8_mix l E N (r12).toInt64 σ12 _ hC16) ⟨Nat.le_of_ble_eq_true rfl, Nat.le_of_ble_eq_true rfl⟩ hl.1 (Nat.le_of_ble_eq_true rfl) dX8_mixForm_16 ⟨Nat.zero_le _, Nat.zero_le _⟩ (fun H locs hP hS => ?_)
        refine lv_iinc (v := (x2_2 + (1 : Int32))) (lv' := [(2, .int (x2_2 + (1 : Int32))), (0, .ref (E.2.1 61)), (1, .int a1)]) hx hb dX8_mixForm_19 hl (k := 2) rfl (by rfl) (by decide) rfl (fun ls hl => ?_)
        refine lv_goto (tgt := 2) hx hb dX8_mixForm_22 (by decide) ?_
        exact ih2 (x2_2 + (1 : Int32)) σ16 _ _ _ hP hS (lv_sub hl [1, 2, 0] rfl) hG
  exact L2 N (0 : Int32) σ _ _ _ hP hS (lv_sub hl [1, 2, 0] rfl) hT2
theorem dX8_digest_0 : decode cX8_digest 0 = .ok (.aload_n 0, 1) := by decide +kernel
theorem dX8_digest_1 : decode cX8_digest 1 = .ok (.ldc2_w 304, 3) := by decide +kernel
theorem dX8_digest_4 : decode cX8_digest 4 = .ok (.putfield 296, 3) := by decide +kernel
theorem dX8_digest_7 : decode cX8_digest 7 = .ok (.iconst 0, 1) := by decide +kernel
theorem dX8_digest_8 : decode cX8_digest 8 = .ok (.istore_n 1, 1) := by decide +kernel
theorem dX8_digest_9 : decode cX8_digest 9 = .ok (.iload_n 1, 1) := by decide +kernel
theorem dX8_digest_10 : decode cX8_digest 10 = .ok (.bipush 8, 2) := by decide +kernel
theorem dX8_digest_12 : decode cX8_digest 12 = .ok (.if_icmp .ge 31, 3) := by decide +kernel
theorem dX8_digest_15 : decode cX8_digest 15 = .ok (.aload_n 0, 1) := by decide +kernel
theorem dX8_digest_16 : decode cX8_digest 16 = .ok (.getfield 7, 3) := by decide +kernel
theorem dX8_digest_19 : decode cX8_digest 19 = .ok (.iload_n 1, 1) := by decide +kernel
theorem dX8_digest_20 : decode cX8_digest 20 = .ok (.iaload, 1) := by decide +kernel
theorem dX8_digest_21 : decode cX8_digest 21 = .ok (.ifCond .le 11, 3) := by decide +kernel
theorem dX8_digest_24 : decode cX8_digest 24 = .ok (.aload_n 0, 1) := by decide +kernel
theorem dX8_digest_25 : decode cX8_digest 25 = .ok (.iload_n 1, 1) := by decide +kernel
theorem dX8_digest_26 : decode cX8_digest 26 = .ok (.invokevirtual 306, 3) := by decide +kernel
theorem dX8_digest_29 : decode cX8_digest 29 = .ok (.goto 8, 3) := by decide +kernel
theorem dX8_digest_32 : decode cX8_digest 32 = .ok (.aload_n 0, 1) := by decide +kernel
theorem dX8_digest_33 : decode cX8_digest 33 = .ok (.lconst 0, 1) := by decide +kernel
theorem dX8_digest_34 : decode cX8_digest 34 = .ok (.invokevirtual 300, 3) := by decide +kernel
theorem dX8_digest_37 : decode cX8_digest 37 = .ok (.iinc 1 1, 3) := by decide +kernel
theorem dX8_digest_40 : decode cX8_digest 40 = .ok (.goto (-31), 3) := by decide +kernel
theorem dX8_digest_43 : decode cX8_digest 43 = .ok (.iconst 0, 1) := by decide +kernel
theorem dX8_digest_44 : decode cX8_digest 44 = .ok (.istore_n 1, 1) := by decide +kernel
theorem dX8_digest_45 : decode cX8_digest 45 = .ok (.iload_n 1, 1) := by decide +kernel
theorem dX8_digest_46 : decode cX8_digest 46 = .ok (.iconst 5, 1) := by decide +kernel
theorem dX8_digest_47 : decode cX8_digest 47 = .ok (.aload_n 0, 1) := by decide +kernel
theorem dX8_digest_48 : decode cX8_digest 48 = .ok (.getfield 266, 3) := by decide +kernel
theorem dX8_digest_51 : decode cX8_digest 51 = .ok (.imul, 1) := by decide +kernel
theorem dX8_digest_52 : decode cX8_digest 52 = .ok (.if_icmp .ge 24, 3) := by decide +kernel
theorem dX8_digest_55 : decode cX8_digest 55 = .ok (.aload_n 0, 1) := by decide +kernel
theorem dX8_digest_56 : decode cX8_digest 56 = .ok (.aload_n 0, 1) := by decide +kernel
theorem dX8_digest_57 : decode cX8_digest 57 = .ok (.iload_n 1, 1) := by decide +kernel
theorem dX8_digest_58 : decode cX8_digest 58 = .ok (.iconst 5, 1) := by decide +kernel
theorem dX8_digest_59 : decode cX8_digest 59 = .ok (.idiv, 1) := by decide +kernel
theorem dX8_digest_60 : decode cX8_digest 60 = .ok (.iload_n 1, 1) := by decide +kernel
theorem dX8_digest_61 : decode cX8_digest 61 = .ok (.iconst 5, 1) := by decide +kernel
theorem dX8_digest_62 : decode cX8_digest 62 = .ok (.irem, 1) := by decide +kernel
theorem dX8_digest_63 : decode cX8_digest 63 = .ok (.invokevirtual 282, 3) := by decide +kernel
theorem dX8_digest_66 : decode cX8_digest 66 = .ok (.i2l, 1) := by decide +kernel
theorem dX8_digest_67 : decode cX8_digest 67 = .ok (.invokevirtual 300, 3) := by decide +kernel
theorem dX8_digest_70 : decode cX8_digest 70 = .ok (.iinc 1 1, 3) := by decide +kernel
theorem dX8_digest_73 : decode cX8_digest 73 = .ok (.goto (-28), 3) := by decide +kernel
theorem dX8_digest_76 : decode cX8_digest 76 = .ok (.iconst 0, 1) := by decide +kernel
theorem dX8_digest_77 : decode cX8_digest 77 = .ok (.istore_n 1, 1) := by decide +kernel
theorem dX8_digest_78 : decode cX8_digest 78 = .ok (.iload_n 1, 1) := by decide +kernel
theorem dX8_digest_79 : decode cX8_digest 79 = .ok (.aload_n 0, 1) := by decide +kernel
theorem dX8_digest_80 : decode cX8_digest 80 = .ok (.getfield 126, 3) := by decide +kernel
theorem dX8_digest_83 : decode cX8_digest 83 = .ok (.if_icmp .ge 20, 3) := by decide +kernel
theorem dX8_digest_86 : decode cX8_digest 86 = .ok (.aload_n 0, 1) := by decide +kernel
theorem dX8_digest_87 : decode cX8_digest 87 = .ok (.aload_n 0, 1) := by decide +kernel
theorem dX8_digest_88 : decode cX8_digest 88 = .ok (.getfield 26, 3) := by decide +kernel
theorem dX8_digest_91 : decode cX8_digest 91 = .ok (.iload_n 1, 1) := by decide +kernel
theorem dX8_digest_92 : decode cX8_digest 92 = .ok (.baload, 1) := by decide +kernel
theorem dX8_digest_93 : decode cX8_digest 93 = .ok (.i2l, 1) := by decide +kernel
theorem dX8_digest_94 : decode cX8_digest 94 = .ok (.invokevirtual 300, 3) := by decide +kernel
theorem dX8_digest_97 : decode cX8_digest 97 = .ok (.iinc 1 1, 3) := by decide +kernel
theorem dX8_digest_100 : decode cX8_digest 100 = .ok (.goto (-22), 3) := by decide +kernel
theorem dX8_digest_103 : decode cX8_digest 103 = .ok (.iconst 0, 1) := by decide +kernel
theorem dX8_digest_104 : decode cX8_digest 104 = .ok (.istore_n 1, 1) := by decide +kernel
theorem dX8_digest_105 : decode cX8_digest 105 = .ok (.iload_n 1, 1) := by decide +kernel
theorem dX8_digest_106 : decode cX8_digest 106 = .ok (.bipush 10, 2) := by decide +kernel
theorem dX8_digest_108 : decode cX8_digest 108 = .ok (.if_icmp .ge 19, 3) := by decide +kernel
theorem dX8_digest_111 : decode cX8_digest 111 = .ok (.aload_n 0, 1) := by decide +kernel
theorem dX8_digest_112 : decode cX8_digest 112 = .ok (.aload_n 0, 1) := by decide +kernel
theorem dX8_digest_113 : decode cX8_digest 113 = .ok (.iload_n 1, 1) := by decide +kernel
theorem dX8_digest_114 : decode cX8_digest 114 = .ok (.invokevirtual 291, 3) := by decide +kernel
theorem dX8_digest_117 : decode cX8_digest 117 = .ok (.i2l, 1) := by decide +kernel
theorem dX8_digest_118 : decode cX8_digest 118 = .ok (.invokevirtual 300, 3) := by decide +kernel
theorem dX8_digest_121 : decode cX8_digest 121 = .ok (.iinc 1 1, 3) := by decide +kernel
theorem dX8_digest_124 : decode cX8_digest 124 = .ok (.goto (-19), 3) := by decide +kernel
theorem dX8_digest_127 : decode cX8_digest 127 = .ok (.aload_n 0, 1) := by decide +kernel
theorem dX8_digest_128 : decode cX8_digest 128 = .ok (.getfield 296, 3) := by decide +kernel
theorem dX8_digest_131 : decode cX8_digest 131 = .ok (.lreturn, 1) := by decide +kernel
set_option maxHeartbeats 4000000 in
set_option maxRecDepth 100000 in
theorem c_X8_digest (l : Launch) (E : fEv) (N : Nat)  (σ : fS) (r : Int64) (τ : fS) (hG : g_X8_digest N  σ = some (r, τ)) : fM l E yX8_digest (.code yX8_digest cX8_digest 2 (some .long)) rm_X8_digest [.ref (E.2.1 61)] σ τ (some (.long r)) := by
  refine f_openL (by decide) (Nat.le_of_ble_eq_true rfl) ?_
  intro p e s m below meth c args Q F hR hP ls hl
  have hx := F.1.1
  have hb := F.1.2.1
  have hown := F.1.2.2.2.1
  have hts := F.1.2.2.2.2
  have hS : va_S (f_A E) s.heap s.heap [] := va_S.rf
  skip
  have hl : lv_has ls 2 [(0, .ref (E.2.1 61))] := hl
  unfold g_X8_digest at hG
  refine lv_aload_n hx hb dX8_digest_0 rfl (lv_at hl 0 rfl) ?_
  refine lv_ldc2 (v := 1487) hx hb hown (hts _ wk_X8_304) dX8_digest_1 ?_
  refine pf_X8_296 F hS hP dX8_digest_4 (fun H locs hP hS => ?_)
  obtain ⟨σ4, e4⟩ : ∃ t : fS, t = sL σ 61 32 (1487 : Int64) := ⟨_, rfl⟩
  rw [← e4] at hP
  have hG := f_lt hG e4
  refine lv_iconst (v := 0) hx hb dX8_digest_7 (by decide) ?_
  refine lv_istore_n (lv' := [(1, .int (0 : Int32)), (0, .ref (E.2.1 61))]) hx hb dX8_digest_8 rfl hl (by decide) rfl (fun ls hl => ?_)
  obtain ⟨σl9, hT9, hG⟩ := f_bv hG
  have T9 : ∀ (H : Heap) (locs : List Loc) (ls : Array Slot), f_h E σl9 H → va_S (f_A E) s.heap H locs → lv_has ls 2 [(0, .ref (E.2.1 61))] → W p l e rm_X8_digest s m args below meth c H locs 0 0 Q (F0 m 43 ls []) := by
    intro H locs ls hP hS hl
    refine lv_iconst (v := 0) hx hb dX8_digest_43 (by decide) ?_
    refine lv_istore_n (lv' := [(1, .int (0 : Int32)), (0, .ref (E.2.1 61))]) hx hb dX8_digest_44 rfl hl (by decide) rfl (fun ls hl => ?_)
    obtain ⟨σl45, hT45, hG⟩ := f_bv hG
    have T45 : ∀ (H : Heap) (locs : List Loc) (ls : Array Slot), f_h E σl45 H → va_S (f_A E) s.heap H locs → lv_has ls 2 [(0, .ref (E.2.1 61))] → W p l e rm_X8_digest s m args below meth c H locs 0 0 Q (F0 m 76 ls []) := by
      intro H locs ls hP hS hl
      refine lv_iconst (v := 0) hx hb dX8_digest_76 (by decide) ?_
      refine lv_istore_n (lv' := [(1, .int (0 : Int32)), (0, .ref (E.2.1 61))]) hx hb dX8_digest_77 rfl hl (by decide) rfl (fun ls hl => ?_)
      obtain ⟨σl78, hT78, hG⟩ := f_bv hG
      have T78 : ∀ (H : Heap) (locs : List Loc) (ls : Array Slot), f_h E σl78 H → va_S (f_A E) s.heap H locs → lv_has ls 2 [(0, .ref (E.2.1 61))] → W p l e rm_X8_digest s m args below meth c H locs 0 0 Q (F0 m 103 ls []) := by
        intro H locs ls hP hS hl
        refine lv_iconst (v := 0) hx hb dX8_digest_103 (by decide) ?_
        refine lv_istore_n (lv' := [(1, .int (0 : Int32)), (0, .ref (E.2.1 61))]) hx hb dX8_digest_104 rfl hl (by decide) rfl (fun ls hl => ?_)
        obtain ⟨σl105, hT105, hG⟩ := f_bv hG
        have T105 : ∀ (H : Heap) (locs : List Loc) (ls : Array Slot), f_h E σl105 H → va_S (f_A E) s.heap H locs → lv_has ls 2 [(0, .ref (E.2.1 61))] → W p l e rm_X8_digest s m args below meth c H locs 0 0 Q (F0 m 127 ls []) := by
          intro H locs ls hP hS hl
          refine lv_aload_n hx hb dX8_digest_127 rfl (lv_at hl 0 rfl) ?_
          refine gf_X8_296 F hP dX8_digest_128 ?_
          exact x_rl hR hS hP hG dX8_digest_131
        have L105 : ∀ (n105 : Nat) (x105_1 : Int32) (σh105 : fS) (H : Heap) (locs : List Loc) (ls : Array Slot), f_h E σh105 H → va_S (f_A E) s.heap H locs → lv_has ls 2 [(0, .ref (E.2.1 61)), (1, .int x105_1)] → lp_X8_digest_105 N n105 x105_1 σh105 = some σl105 → W p l e rm_X8_digest s m args below meth c H locs 0 0 Q (F0 m 105 ls []) := by
          intro n105
          induction n105 with
          | zero =>
            intro x105_1 σh105 H locs ls hP hS hl hG
            rw [lp_X8_digest_105] at hG
            cases hG
          | succ n105 ih105 =>
            intro x105_1 σh105 H locs ls hP hS hl hG
            rw [lp_X8_digest_105] at hG
            refine lv_iload_n hx hb dX8_digest_105 rfl (lv_at hl 1 rfl) ?_
            refine lv_bipush (v := 10) hx hb dX8_digest_106 (by decide) ?_
            refine lv_icmp_ge (tgt := 127) hx hb dX8_digest_108 (by decide) (fun c108 => ?_) (fun c108 => ?_)
            · have hG := f_ip c108 hG
              cases hG
              exact T105 _ _ _ hP hS (lv_sub hl [0] rfl)
            · have hG := f_in c108 hG
              refine lv_aload_n hx hb dX8_digest_111 rfl (lv_at hl 0 rfl) ?_
              refine lv_aload_n hx hb dX8_digest_112 rfl (lv_at hl 0 rfl) ?_
              refine lv_iload_n hx hb dX8_digest_113 rfl (lv_at hl 1 rfl) ?_
              obtain ⟨r114, σ114, hC114, hG⟩ := f_bd hG
              refine iv_X8_291 F hS hP (c_X8_howMany l E N x105_1 σh105 _ _ hC114) ⟨Nat.le_of_ble_eq_true rfl, Nat.le_of_ble_eq_true rfl⟩ hl.1 (Nat.le_of_ble_eq_true rfl) dX8_digest_114 ⟨Nat.zero_le _, Nat.zero_le _⟩ (fun H locs hP hS => ?_)
              refine lv_i2l hx hb dX8_digest_117 rfl ?_
              obtain ⟨σ118, hC118, hG⟩ := f_bv hG
              refine iv_X8_300 F hS hP (c_X8_mix l E N (r114).toInt64 σ114 _ hC118) ⟨Nat.le_of_ble_eq_true rfl, Nat.le_of_ble_eq_true rfl⟩ hl.1 (Nat.le_of_ble_eq_true rfl) dX8_digest_118 ⟨Nat.zero_le _, Nat.zero_le _⟩ (fun H locs hP hS => ?_)
              refine lv_iinc (v := (x105_1 + (1 : Int32))) (lv' := [(1, .int (x105_1 + (1 : Int32))), (0, .ref (E.2.1 61))]) hx hb dX8_digest_121 hl (k := 1) rfl (by rfl) (by decide) rfl (fun ls hl => ?_)
              refine lv_goto (tgt := 105) hx hb dX8_digest_124 (by decide) ?_
              exact ih105 (x105_1 + (1 : Int32)) σ118 _ _ _ hP hS (lv_sub hl [1, 0] rfl) hG
        exact L105 N (0 : Int32) σl78 _ _ _ hP hS (lv_sub hl [1, 0] rfl) hT105
      have L78 : ∀ (n78 : Nat) (x78_1 : Int32) (σh78 : fS) (H : Heap) (locs : List Loc) (ls : Array Slot), f_h E σh78 H → va_S (f_A E) s.heap H locs → lv_has ls 2 [(0, .ref (E.2.1 61)), (1, .int x78_1)] → lp_X8_digest_78 N n78 x78_1 σh78 = some σl78 → W p l e rm_X8_digest s m args below meth c H locs 0 0 Q (F0 m 78 ls []) := by
        intro n78
        induction n78 with
        | zero =>
          intro x78_1 σh78 H locs ls hP hS hl hG
          rw [lp_X8_digest_78] at hG
          cases hG
        | succ n78 ih78 =>
          intro x78_1 σh78 H locs ls hP hS hl hG
          rw [lp_X8_digest_78] at hG
          refine lv_iload_n hx hb dX8_digest_78 rfl (lv_at hl 1 rfl) ?_
          refine lv_aload_n hx hb dX8_digest_79 rfl (lv_at hl 0 rfl) ?_
          refine gf_X8_126 F hP dX8_digest_80 ?_
          refine lv_icmp_ge (tgt := 103) hx hb dX8_digest_83 (by decide) (fun c83 => ?_) (fun c83 => ?_)
          · have hG := f_ip c83 hG
            cases hG
            exact T78 _ _ _ hP hS (lv_sub hl [0] rfl)
          · have hG := f_in c83 hG
            refine lv_aload_n hx hb dX8_digest_86 rfl (lv_at hl 0 rfl) ?_
            refine lv_aload_n hx hb dX8_digest_87 rfl (lv_at hl 0 rfl) ?_
            refine gf_X8_26 F hP dX8_digest_88 ?_
            refine lv_iload_n hx hb dX8_digest_91 rfl (lv_at hl 1 rfl) ?_
            obtain ⟨h92, hG⟩ := f_gd hG
            have i92 := f_fin h92
            refine x_bald F hP rfl rfl i92 dX8_digest_92 ?_
            refine lv_i2l hx hb dX8_digest_93 rfl ?_
            obtain ⟨σ94, hC94, hG⟩ := f_bv hG
            refine iv_X8_300 F hS hP (c_X8_mix l E N ((σh78.1 67 (x78_1).toNatClampNeg)).toInt64 σh78 _ hC94) ⟨Nat.le_of_ble_eq_true rfl, Nat.le_of_ble_eq_true rfl⟩ hl.1 (Nat.le_of_ble_eq_true rfl) dX8_digest_94 ⟨Nat.zero_le _, Nat.zero_le _⟩ (fun H locs hP hS => ?_)
            refine lv_iinc (v := (x78_1 + (1 : Int32))) (lv' := [(1, .int (x78_1 + (1 : Int32))), (0, .ref (E.2.1 61))]) hx hb dX8_digest_97 hl (k := 1) rfl (by rfl) (by decide) rfl (fun ls hl => ?_)
            refine lv_goto (tgt := 78) hx hb dX8_digest_100 (by decide) ?_
            exact ih78 (x78_1 + (1 : Int32)) σ94 _ _ _ hP hS (lv_sub hl [1, 0] rfl) hG
      exact L78 N (0 : Int32) σl45 _ _ _ hP hS (lv_sub hl [1, 0] rfl) hT78
    have L45 : ∀ (n45 : Nat) (x45_1 : Int32) (σh45 : fS) (H : Heap) (locs : List Loc) (ls : Array Slot), f_h E σh45 H → va_S (f_A E) s.heap H locs → lv_has ls 2 [(0, .ref (E.2.1 61)), (1, .int x45_1)] → lp_X8_digest_45 N n45 x45_1 σh45 = some σl45 → W p l e rm_X8_digest s m args below meth c H locs 0 0 Q (F0 m 45 ls []) := by
      intro n45
      induction n45 with
      | zero =>
        intro x45_1 σh45 H locs ls hP hS hl hG
        rw [lp_X8_digest_45] at hG
        cases hG
      | succ n45 ih45 =>
        intro x45_1 σh45 H locs ls hP hS hl hG
        rw [lp_X8_digest_45] at hG
        refine lv_iload_n hx hb dX8_digest_45 rfl (lv_at hl 1 rfl) ?_
        refine lv_iconst (v := 5) hx hb dX8_digest_46 (by decide) ?_
        refine lv_aload_n hx hb dX8_digest_47 rfl (lv_at hl 0 rfl) ?_
        refine gf_X8_266 F hP dX8_digest_48 ?_
        refine lv_imul hx hb dX8_digest_51 ?_
        refine lv_icmp_ge (tgt := 76) hx hb dX8_digest_52 (by decide) (fun c52 => ?_) (fun c52 => ?_)
        · have hG := f_ip c52 hG
          cases hG
          exact T45 _ _ _ hP hS (lv_sub hl [0] rfl)
        · have hG := f_in c52 hG
          refine lv_aload_n hx hb dX8_digest_55 rfl (lv_at hl 0 rfl) ?_
          refine lv_aload_n hx hb dX8_digest_56 rfl (lv_at hl 0 rfl) ?_
          refine lv_iload_n hx hb dX8_digest_57 rfl (lv_at hl 1 rfl) ?_
          refine lv_iconst (v := 5) hx hb dX8_digest_58 (by decide) ?_
          refine lv_idiv hx hb dX8_digest_59 (by decide) ?_
          refine lv_iload_n hx hb dX8_digest_60 rfl (lv_at hl 1 rfl) ?_
          refine lv_iconst (v := 5) hx hb dX8_digest_61 (by decide) ?_
          refine x_irem F dX8_digest_62 (by decide) ?_
          obtain ⟨r63, σ63, hC63, hG⟩ := f_bd hG
          refine iv_X8_282 F hS hP (c_X8_pairNow l E N (x45_1 / (5 : Int32)) (iR x45_1 (5 : Int32)) σh45 _ _ hC63) ⟨Nat.le_of_ble_eq_true rfl, Nat.le_of_ble_eq_true rfl⟩ hl.1 (Nat.le_of_ble_eq_true rfl) dX8_digest_63 ⟨Nat.zero_le _, Nat.zero_le _⟩ (fun H locs hP hS => ?_)
          refine lv_i2l hx hb dX8_digest_66 rfl ?_
          obtain ⟨σ67, hC67, hG⟩ := f_bv hG
          refine iv_X8_300 F hS hP (c_X8_mix l E N (r63).toInt64 σ63 _ hC67) ⟨Nat.le_of_ble_eq_true rfl, Nat.le_of_ble_eq_true rfl⟩ hl.1 (Nat.le_of_ble_eq_true rfl) dX8_digest_67 ⟨Nat.zero_le _, Nat.zero_le _⟩ (fun H locs hP hS => ?_)
          refine lv_iinc (v := (x45_1 + (1 : Int32))) (lv' := [(1, .int (x45_1 + (1 : Int32))), (0, .ref (E.2.1 61))]) hx hb dX8_digest_70 hl (k := 1) rfl (by rfl) (by decide) rfl (fun ls hl => ?_)
          refine lv_goto (tgt := 45) hx hb dX8_digest_73 (by decide) ?_
          exact ih45 (x45_1 + (1 : Int32)) σ67 _ _ _ hP hS (lv_sub hl [1, 0] rfl) hG
    exact L45 N (0 : Int32) σl9 _ _ _ hP hS (lv_sub hl [1, 0] rfl) hT45
  have L9 : ∀ (n9 : Nat) (x9_1 : Int32) (σh9 : fS) (H : Heap) (locs : List Loc) (ls : Array Slot), f_h E σh9 H → va_S (f_A E) s.heap H locs → lv_has ls 2 [(0, .ref (E.2.1 61)), (1, .int x9_1)] → lp_X8_digest_9 N n9 x9_1 σh9 = some σl9 → W p l e rm_X8_digest s m args below meth c H locs 0 0 Q (F0 m 9 ls []) := by
    intro n9
    induction n9 with
    | zero =>
      intro x9_1 σh9 H locs ls hP hS hl hG
      rw [lp_X8_digest_9] at hG
      cases hG
    | succ n9 ih9 =>
      intro x9_1 σh9 H locs ls hP hS hl hG
      rw [lp_X8_digest_9] at hG
      refine lv_iload_n hx hb dX8_digest_9 rfl (lv_at hl 1 rfl) ?_
      refine lv_bipush (v := 8) hx hb dX8_digest_10 (by decide) ?_
      refine lv_icmp_ge (tgt := 43) hx hb dX8_digest_12 (by decide) (fun c12 => ?_) (fun c12 => ?_)
      · have hG := f_ip c12 hG
        cases hG
        exact T9 _ _ _ hP hS (lv_sub hl [0] rfl)
      · have hG := f_in c12 hG
        refine lv_aload_n hx hb dX8_digest_15 rfl (lv_at hl 0 rfl) ?_
        refine gf_X8_7 F hP dX8_digest_16 ?_
        refine lv_iload_n hx hb dX8_digest_19 rfl (lv_at hl 1 rfl) ?_
        obtain ⟨h20, hG⟩ := f_gd hG
        have i20 := f_fin h20
        refine x_iald F hP rfl rfl i20 dX8_digest_20 ?_
        refine lv_if_le (tgt := 32) hx hb dX8_digest_21 (by decide) (fun c21 => ?_) (fun c21 => ?_)
        · have hG := f_ip c21 hG
          refine lv_aload_n hx hb dX8_digest_32 rfl (lv_at hl 0 rfl) ?_
          refine lv_lconst (v := 0) hx hb dX8_digest_33 (by decide) ?_
          obtain ⟨σ34, hC34, hG⟩ := f_bv hG
          refine iv_X8_300 F hS hP (c_X8_mix l E N (0 : Int64) σh9 _ hC34) ⟨Nat.le_of_ble_eq_true rfl, Nat.le_of_ble_eq_true rfl⟩ hl.1 (Nat.le_of_ble_eq_true rfl) dX8_digest_34 ⟨Nat.zero_le _, Nat.zero_le _⟩ (fun H locs hP hS => ?_)
          refine lv_iinc (v := (x9_1 + (1 : Int32))) (lv' := [(1, .int (x9_1 + (1 : Int32))), (0, .ref (E.2.1 61))]) hx hb dX8_digest_37 hl (k := 1) rfl (by rfl) (by decide) rfl (fun ls hl => ?_)
          refine lv_goto (tgt := 9) hx hb dX8_digest_40 (by decide) ?_
          exact ih9 (x9_1 + (1 : Int32)) σ34 _ _ _ hP hS (lv_sub hl [1, 0] rfl) hG
        · have hG := f_in c21 hG
          refine lv_aload_n hx hb dX8_digest_24 rfl (lv_at hl 0 rfl) ?_
          refine lv_iload_n hx hb dX8_digest_25 rfl (lv_at hl 1 rfl) ?_
          obtain ⟨σ26, hC26, hG⟩ := f_bv hG
          refine iv_X8_306 F hS hP (c_X8_mixForm l E N x9_1 σh9 _ hC26) ⟨Nat.le_of_ble_eq_true rfl, Nat.le_of_ble_eq_true rfl⟩ hl.1 (Nat.le_of_ble_eq_true rfl) dX8_digest_26 ⟨Nat.zero_le _, Nat.zero_le _⟩ (fun H locs hP hS => ?_)
          refine lv_goto (tgt := 37) hx hb dX8_digest_29 (by decide) ?_
          refine lv_iinc (v := (x9_1 + (1 : Int32))) (lv' := [(1, .int (x9_1 + (1 : Int32))), (0, .ref (E.2.1 61))]) hx hb dX8_digest_37 hl (k := 1) rfl (by rfl) (by decide) rfl (fun ls hl => ?_)
          refine lv_goto (tgt := 9) hx hb dX8_digest_40 (by decide) ?_
          exact ih9 (x9_1 + (1 : Int32)) σ26 _ _ _ hP hS (lv_sub hl [1, 0] rfl) hG
  exact L9 N (0 : Int32) σ4 _ _ _ hP hS (lv_sub hl [1, 0] rfl) hT9
